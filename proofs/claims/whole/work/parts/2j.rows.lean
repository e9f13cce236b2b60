set_option maxRecDepth 100000 in
set_option maxHeartbeats 4000000 in
theorem t_X12_drop {e : mEv} (hG : mGeo (mw0 e) lw_kept) (l : Launch) (N : Nat) {a1 : Int} {σ σ' : mS} {v : Int} (h : f_X12_drop N a1 σ = some (v, σ')) : mMet l (mw0 e) lw_kept 1 yX12_drop cX12_drop 2 (some .boolean) [.inr (.inr (71, 0)), .inl a1] σ (some (.inl v)) σ' := by
  refine mMet_intro (plainFor_of_name (by decide)) hG (Nat.le_of_ble_eq_true rfl) (fun f hl hR C0 hFin => ?_)
  subst hl
  have hFr := mFr_of hR hFin
  unfold f_X12_drop at h
  show mWW f (mw0 e) sc0 2 (0, [some (.inr (.inr (71, 0))), some (.inl a1)], [], σ)
  refine m_blk C0 (pX12_ok rfl) kX12_drop_ok 0 3 (3, [some (.inr (.inr (71, 0))), some (.inl a1)], [.inl 3, .inl 0, .inl a1], σ) (Ps := []) rfl trivial ?_
  obtain ⟨⟨v1030, s1029⟩, hq1033, h⟩ := g_bind h
  refine c_S (rest := []) C0 hFr (t_X12_isIn hG f.2.1 N hq1033) lk_X12_110 (k_at kX12_drop_ok 3 rfl) rfl rfl rfl (by decide) (by decide) (Nat.le_of_ble_eq_true rfl) ?_
  refine b_eq C0 kX12_drop_ok 4 (off := 12) (tgt := 18) rfl (by decide) (fun hb1032 => ?_) (fun hb1032 => ?_)
  · replace h := g_pos hb1032 h
    refine m_blk C0 (pX12_ok rfl) kX12_drop_ok 10 1 (19, [some (.inr (.inr (71, 0))), some (.inl a1)], [.inl 0], s1029) (Ps := []) rfl trivial ?_
    cases h
    exact m_iret C0 hFin (k_at kX12_drop_ok 11 rfl) (Or.inr ⟨rfl, by decide⟩)
  · replace h := g_neg hb1032 h
    obtain ⟨hc, h⟩ := g_if h
    refine m_blk C0 (pX12_ok rfl) kX12_drop_ok 5 4 (15, [some (.inr (.inr (71, 0))), some (.inl a1)], [.inl (s1029 72 0 a1.toNat)], s1029) (Ps := [0 ≤ a1 ∧ a1 < 4]) rfl (And.intro hc trivial) ?_
    refine b_ne C0 kX12_drop_ok 9 (off := 5) (tgt := 20) rfl (by decide) (fun hb1031 => ?_) (fun hb1031 => ?_)
    · replace h := g_neg hb1031 h
      obtain ⟨hc, h⟩ := g_if h
      refine m_blk C0 (pX12_ok rfl) kX12_drop_ok 12 5 (27, [some (.inr (.inr (71, 0))), some (.inl a1)], [], (mup s1029 72 0 a1.toNat 0)) (Ps := [0 ≤ a1 ∧ a1 < 4, (0 : Int) = 0 ∨ (0 : Int) = 1]) rfl (And.intro hc (And.intro (by decide) trivial)) ?_
      refine m_blk C0 (pX12_ok rfl) kX12_drop_ok 17 1 (28, [some (.inr (.inr (71, 0))), some (.inl a1)], [.inl 1], (mup s1029 72 0 a1.toNat 0)) (Ps := []) rfl trivial ?_
      cases h
      exact m_iret C0 hFin (k_at kX12_drop_ok 18 rfl) (Or.inr ⟨rfl, by decide⟩)
    · replace h := g_pos hb1031 h
      refine m_blk C0 (pX12_ok rfl) kX12_drop_ok 10 1 (19, [some (.inr (.inr (71, 0))), some (.inl a1)], [.inl 0], s1029) (Ps := []) rfl trivial ?_
      cases h
      exact m_iret C0 hFin (k_at kX12_drop_ok 11 rfl) (Or.inr ⟨rfl, by decide⟩)
set_option maxRecDepth 100000 in
set_option maxHeartbeats 4000000 in
theorem t_X12_then {e : mEv} (hG : mGeo (mw0 e) lw_kept) (l : Launch) (N : Nat) {a0 : Int} {a1 : Int} {a2 : Int} {a3 : Int} {σ σ' : mS} {v : Int} (h : f_X12_then N a0 a1 a2 a3 σ = some (v, σ')) : mMet l (mw0 e) lw_kept 1 yX12_then cX12_then 5 (some .int) [.inl a0, .inl a1, .inl a2, .inl a3] σ (some (.inl v)) σ' := by
  refine mMet_intro (plainFor_of_name (by decide)) hG (Nat.le_of_ble_eq_true rfl) (fun f hl hR C0 hFin => ?_)
  subst hl
  have hFr := mFr_of hR hFin
  unfold f_X12_then at h
  show mWW f (mw0 e) sc0 5 (0, [some (.inl a0), some (.inl a1), some (.inl a2), some (.inl a3), none], [], σ)
  refine m_blk C0 (pX12_ok rfl) kX12_then_ok 0 1 (1, [some (.inl a0), some (.inl a1), some (.inl a2), some (.inl a3), none], [.inl a0], σ) (Ps := []) rfl trivial ?_
  obtain ⟨⟨v1041, s1040⟩, hq1050, h⟩ := g_bind h
  refine c_S (rest := []) C0 hFr (t_X12_size hG f.2.1 N hq1050) lk_X12_106 (k_at kX12_then_ok 1 rfl) rfl rfl rfl (by decide) (by decide) (Nat.le_of_ble_eq_true rfl) ?_
  refine m_blk C0 (pX12_ok rfl) kX12_then_ok 2 1 (5, [some (.inl a0), some (.inl a1), some (.inl a2), some (.inl a3), none], [.inl 1, .inl v1041], s1040) (Ps := []) rfl trivial ?_
  refine b_ine C0 kX12_then_ok 3 (off := 7) (tgt := 12) rfl (by decide) (fun hb1049 => ?_) (fun hb1049 => ?_)
  · replace h := g_neg hb1049 h
    refine m_blk C0 (pX12_ok rfl) kX12_then_ok 6 1 (13, [some (.inl a0), some (.inl a1), some (.inl a2), some (.inl a3), none], [.inl a0], s1040) (Ps := []) rfl trivial ?_
    obtain ⟨⟨v1043, s1042⟩, hq1047, h⟩ := g_bind h
    refine c_S (rest := []) C0 hFr (t_X12_size hG f.2.1 N hq1047) lk_X12_106 (k_at kX12_then_ok 7 rfl) rfl rfl rfl (by decide) (by decide) (Nat.le_of_ble_eq_true rfl) ?_
    refine m_blk C0 (pX12_ok rfl) kX12_then_ok 8 1 (17, [some (.inl a0), some (.inl a1), some (.inl a2), some (.inl a3), none], [.inl 2, .inl v1043], s1042) (Ps := []) rfl trivial ?_
    refine b_ine C0 kX12_then_ok 9 (off := 7) (tgt := 24) rfl (by decide) (fun hb1046 => ?_) (fun hb1046 => ?_)
    · replace h := g_neg hb1046 h
      refine m_blk C0 (pX12_ok rfl) kX12_then_ok 12 3 (28, [some (.inl a0), some (.inl a1), some (.inl a2), some (.inl a3), some (.inl a3)], [.inl a0], s1042) (Ps := []) rfl trivial ?_
      refine b_ge C0 kX12_then_ok 15 (off := 9) (tgt := 37) rfl (by decide) (fun hb1044 => ?_) (fun hb1044 => ?_)
      · replace h := g_pos hb1044 h
        refine m_blk C0 (pX12_ok rfl) kX12_then_ok 19 1 (39, [some (.inl a0), some (.inl a1), some (.inl a2), some (.inl a3), some (.inl a3)], [.inl a3], s1042) (Ps := []) rfl trivial ?_
        cases h
        exact m_iret C0 hFin (k_at kX12_then_ok 20 rfl) (Or.inl rfl)
      · replace h := g_neg hb1044 h
        refine m_blk C0 (pX12_ok rfl) kX12_then_ok 16 3 (39, [some (.inl a0), some (.inl a1), some (.inl a2), some (.inl a3), some (.inl a3)], [.inl (mw (-a3))], s1042) (Ps := []) rfl trivial ?_
        cases h
        exact m_iret C0 hFin (k_at kX12_then_ok 20 rfl) (Or.inl rfl)
    · replace h := g_pos hb1046 h
      refine m_blk C0 (pX12_ok rfl) kX12_then_ok 10 2 (25, [some (.inl a0), some (.inl a1), some (.inl a2), some (.inl a3), none], [.inl a2], s1042) (Ps := []) rfl trivial ?_
      refine m_blk C0 (pX12_ok rfl) kX12_then_ok 13 2 (28, [some (.inl a0), some (.inl a1), some (.inl a2), some (.inl a3), some (.inl a2)], [.inl a0], s1042) (Ps := []) rfl trivial ?_
      refine b_ge C0 kX12_then_ok 15 (off := 9) (tgt := 37) rfl (by decide) (fun hb1045 => ?_) (fun hb1045 => ?_)
      · replace h := g_pos hb1045 h
        refine m_blk C0 (pX12_ok rfl) kX12_then_ok 19 1 (39, [some (.inl a0), some (.inl a1), some (.inl a2), some (.inl a3), some (.inl a2)], [.inl a2], s1042) (Ps := []) rfl trivial ?_
        cases h
        exact m_iret C0 hFin (k_at kX12_then_ok 20 rfl) (Or.inl rfl)
      · replace h := g_neg hb1045 h
        refine m_blk C0 (pX12_ok rfl) kX12_then_ok 16 3 (39, [some (.inl a0), some (.inl a1), some (.inl a2), some (.inl a3), some (.inl a2)], [.inl (mw (-a2))], s1042) (Ps := []) rfl trivial ?_
        cases h
        exact m_iret C0 hFin (k_at kX12_then_ok 20 rfl) (Or.inl rfl)
  · replace h := g_pos hb1049 h
    refine m_blk C0 (pX12_ok rfl) kX12_then_ok 4 2 (25, [some (.inl a0), some (.inl a1), some (.inl a2), some (.inl a3), none], [.inl a1], s1040) (Ps := []) rfl trivial ?_
    refine m_blk C0 (pX12_ok rfl) kX12_then_ok 13 2 (28, [some (.inl a0), some (.inl a1), some (.inl a2), some (.inl a3), some (.inl a1)], [.inl a0], s1040) (Ps := []) rfl trivial ?_
    refine b_ge C0 kX12_then_ok 15 (off := 9) (tgt := 37) rfl (by decide) (fun hb1048 => ?_) (fun hb1048 => ?_)
    · replace h := g_pos hb1048 h
      refine m_blk C0 (pX12_ok rfl) kX12_then_ok 19 1 (39, [some (.inl a0), some (.inl a1), some (.inl a2), some (.inl a3), some (.inl a1)], [.inl a1], s1040) (Ps := []) rfl trivial ?_
      cases h
      exact m_iret C0 hFin (k_at kX12_then_ok 20 rfl) (Or.inl rfl)
    · replace h := g_neg hb1048 h
      refine m_blk C0 (pX12_ok rfl) kX12_then_ok 16 3 (39, [some (.inl a0), some (.inl a1), some (.inl a2), some (.inl a3), some (.inl a1)], [.inl (mw (-a1))], s1040) (Ps := []) rfl trivial ?_
      cases h
      exact m_iret C0 hFin (k_at kX12_then_ok 20 rfl) (Or.inl rfl)
set_option maxRecDepth 100000 in
set_option maxHeartbeats 4000000 in
theorem p_X12_find_3 {e : mEv} (hG : mGeo (mw0 e) lw_kept) (N : Nat) {f : mFx} (C0 : mCx f (mw0 e) sc0 cX12_find 5 RX12 lw_kept) (hFr : mFr f 0) : ∀ (n : Nat) (x1 : Int) (x2 : Int) (x3 : Int) (x4 : Int) (σ : mS) (out : (Int × mS) ⊕ (mS)), L_X12_find_3 N n x1 x2 x3 x4 σ = some out → (∀ v s, out = .inl (v, s) → mFin f (mw0 e) (some .int) (some (.inl v)) s) → (∀  (s : mS), out = .inr s → mWW f (mw0 e) sc0 5 (64, [none, none, none, none, none], [], s)) → mWW f (mw0 e) sc0 5 (3, [some (.inr (.inr (71, 0))), some (.inl x1), some (.inl x2), some (.inl x3), some (.inl x4)], [], σ) := by
  intro n
  induction n with
  | zero =>
    intro x1 x2 x3 x4 σ out h hX hK
    cases h
  | succ n IH =>
    intro x1 x2 x3 x4 σ out h hX hK
    rw [L_X12_find_3_s] at h
    refine m_blk C0 (pX12_ok rfl) kX12_find_ok 2 3 (9, [some (.inr (.inr (71, 0))), some (.inl x1), some (.inl x2), some (.inl x3), some (.inl x4)], [.inl (σ 71 0 6), .inl x4], σ) (Ps := []) rfl trivial ?_
    refine b_ige C0 kX12_find_ok 5 (off := 55) (tgt := 64) rfl (by decide) (fun hb1060 => ?_) (fun hb1060 => ?_)
    · replace h := g_pos hb1060 h
      cases h
      refine m_mask [false, false, false, false, false] (ls' := [none, none, none, none, none]) rfl ?_
      exact hK _ rfl
    · replace h := g_neg hb1060 h
      obtain ⟨hc, h⟩ := g_if h
      refine m_blk C0 (pX12_ok rfl) kX12_find_ok 6 7 (22, [some (.inr (.inr (71, 0))), some (.inl x1), some (.inl x2), some (.inl x3), some (.inl x4)], [.inl x1, .inl (σ 74 0 ((mw ((3 : Int) * x4)).toNat))], σ) (Ps := [0 ≤ (mw ((3 : Int) * x4)) ∧ (mw ((3 : Int) * x4)) < 144]) rfl (And.intro hc trivial) ?_
      refine b_ine C0 kX12_find_ok 13 (off := 36) (tgt := 58) rfl (by decide) (fun hb1059 => ?_) (fun hb1059 => ?_)
      · replace h := g_neg hb1059 h
        refine m_blk C0 (pX12_ok rfl) kX12_find_ok 36 2 (3, [some (.inr (.inr (71, 0))), some (.inl x1), some (.inl x2), some (.inl x3), some (.inl (mw (x4 + 1)))], [], σ) (Ps := []) rfl trivial ?_
        refine m_mask [true, true, true, true, true] (ls' := [some (.inr (.inr (71, 0))), some (.inl x1), some (.inl x2), some (.inl x3), some (.inl (mw (x4 + 1)))]) rfl ?_
        exact IH _ _ _ _ _ _ h hX hK
      · replace h := g_pos hb1059 h
        obtain ⟨hc, h⟩ := g_if h
        refine m_blk C0 (pX12_ok rfl) kX12_find_ok 14 9 (37, [some (.inr (.inr (71, 0))), some (.inl x1), some (.inl x2), some (.inl x3), some (.inl x4)], [.inl x2, .inl (σ 74 0 ((mw ((mw ((3 : Int) * x4)) + 1)).toNat))], σ) (Ps := [0 ≤ (mw ((mw ((3 : Int) * x4)) + 1)) ∧ (mw ((mw ((3 : Int) * x4)) + 1)) < 144]) rfl (And.intro hc trivial) ?_
        refine b_ine C0 kX12_find_ok 23 (off := 21) (tgt := 58) rfl (by decide) (fun hb1058 => ?_) (fun hb1058 => ?_)
        · replace h := g_neg hb1058 h
          refine m_blk C0 (pX12_ok rfl) kX12_find_ok 36 2 (3, [some (.inr (.inr (71, 0))), some (.inl x1), some (.inl x2), some (.inl x3), some (.inl (mw (x4 + 1)))], [], σ) (Ps := []) rfl trivial ?_
          refine m_mask [true, true, true, true, true] (ls' := [some (.inr (.inr (71, 0))), some (.inl x1), some (.inl x2), some (.inl x3), some (.inl (mw (x4 + 1)))]) rfl ?_
          exact IH _ _ _ _ _ _ h hX hK
        · replace h := g_pos hb1058 h
          obtain ⟨hc, h⟩ := g_if h
          refine m_blk C0 (pX12_ok rfl) kX12_find_ok 24 9 (52, [some (.inr (.inr (71, 0))), some (.inl x1), some (.inl x2), some (.inl x3), some (.inl x4)], [.inl x3, .inl (σ 74 0 ((mw ((mw ((3 : Int) * x4)) + 2)).toNat))], σ) (Ps := [0 ≤ (mw ((mw ((3 : Int) * x4)) + 2)) ∧ (mw ((mw ((3 : Int) * x4)) + 2)) < 144]) rfl (And.intro hc trivial) ?_
          refine b_ine C0 kX12_find_ok 33 (off := 6) (tgt := 58) rfl (by decide) (fun hb1057 => ?_) (fun hb1057 => ?_)
          · replace h := g_neg hb1057 h
            refine m_blk C0 (pX12_ok rfl) kX12_find_ok 36 2 (3, [some (.inr (.inr (71, 0))), some (.inl x1), some (.inl x2), some (.inl x3), some (.inl (mw (x4 + 1)))], [], σ) (Ps := []) rfl trivial ?_
            refine m_mask [true, true, true, true, true] (ls' := [some (.inr (.inr (71, 0))), some (.inl x1), some (.inl x2), some (.inl x3), some (.inl (mw (x4 + 1)))]) rfl ?_
            exact IH _ _ _ _ _ _ h hX hK
          · replace h := g_pos hb1057 h
            refine m_blk C0 (pX12_ok rfl) kX12_find_ok 34 1 (57, [some (.inr (.inr (71, 0))), some (.inl x1), some (.inl x2), some (.inl x3), some (.inl x4)], [.inl x4], σ) (Ps := []) rfl trivial ?_
            cases h
            exact m_iret C0 (hX _ _ rfl) (k_at kX12_find_ok 35 rfl) (Or.inl rfl)
set_option maxRecDepth 100000 in
set_option maxHeartbeats 4000000 in
theorem t_X12_find {e : mEv} (hG : mGeo (mw0 e) lw_kept) (l : Launch) (N : Nat) {a1 : Int} {a2 : Int} {a3 : Int} {σ σ' : mS} {v : Int} (h : f_X12_find N a1 a2 a3 σ = some (v, σ')) : mMet l (mw0 e) lw_kept 0 yX12_find cX12_find 5 (some .int) [.inr (.inr (71, 0)), .inl a1, .inl a2, .inl a3] σ (some (.inl v)) σ' := by
  refine mMet_intro (plainFor_of_name (by decide)) hG (Nat.le_of_ble_eq_true rfl) (fun f hl hR C0 hFin => ?_)
  subst hl
  have hFr := mFr_of hR hFin
  unfold f_X12_find at h
  show mWW f (mw0 e) sc0 5 (0, [some (.inr (.inr (71, 0))), some (.inl a1), some (.inl a2), some (.inl a3), none], [], σ)
  refine m_blk C0 (pX12_ok rfl) kX12_find_ok 0 2 (3, [some (.inr (.inr (71, 0))), some (.inl a1), some (.inl a2), some (.inl a3), some (.inl 0)], [], σ) (Ps := []) rfl trivial ?_
  obtain ⟨o, hq1062, h⟩ := g_bind h
  refine m_mask [true, true, true, true, true] (ls' := [some (.inr (.inr (71, 0))), some (.inl a1), some (.inl a2), some (.inl a3), some (.inl 0)]) rfl ?_
  rcases o with ⟨v1063, s1064⟩ | s1061
  · cases h
    exact p_X12_find_3 hG N C0 hFr N _ _ _ _ _ _ hq1062 (fun v s e => by cases e; exact hFin) (fun _ e => by cases e)
  · refine p_X12_find_3 hG N C0 hFr N _ _ _ _ _ _ hq1062 (fun v s e => by cases e) (fun _ e => ?_)
    cases e
    refine m_blk C0 (pX12_ok rfl) kX12_find_ok 38 1 (65, [none, none, none, none, none], [.inl (-1)], s1061) (Ps := []) rfl trivial ?_
    cases h
    exact m_iret C0 hFin (k_at kX12_find_ok 39 rfl) (Or.inl rfl)
set_option maxRecDepth 100000 in
set_option maxHeartbeats 4000000 in
theorem t_X12_product {e : mEv} (hG : mGeo (mw0 e) lw_kept) (l : Launch) (N : Nat) {a1 : Int} {a2 : Int} {σ σ' : mS} {v : Int} (h : f_X12_product N a1 a2 σ = some (v, σ')) : mMet l (mw0 e) lw_kept 2 yX12_product cX12_product 3 (some .int) [.inr (.inr (71, 0)), .inl a1, .inl a2] σ (some (.inl v)) σ' := by
  refine mMet_intro (plainFor_of_name (by decide)) hG (Nat.le_of_ble_eq_true rfl) (fun f hl hR C0 hFin => ?_)
  subst hl
  have hFr := mFr_of hR hFin
  unfold f_X12_product at h
  show mWW f (mw0 e) sc0 3 (0, [some (.inr (.inr (71, 0))), some (.inl a1), some (.inl a2)], [], σ)
  obtain ⟨hc, h⟩ := g_if h
  refine m_blk C0 (pX12_ok rfl) kX12_product_ok 0 16 (22, [some (.inr (.inr (71, 0))), some (.inl a1), some (.inl a2)], [.inl 3, .inr (.inr (74, 0)), .inl (σ 74 0 ((mw ((3 : Int) * a2)).toNat)), .inl (σ 74 0 ((mw ((3 : Int) * a1)).toNat)), .inr (.inr (71, 0))], σ) (Ps := [0 ≤ (mw ((3 : Int) * a1)) ∧ (mw ((3 : Int) * a1)) < 144, 0 ≤ (mw ((3 : Int) * a2)) ∧ (mw ((3 : Int) * a2)) < 144]) rfl (And.intro hc.1 (And.intro hc.2.1 trivial)) ?_
  refine m_blk C0 (pX12_ok rfl) kX12_product_ok 16 13 (37, [some (.inr (.inr (71, 0))), some (.inl a1), some (.inl a2)], [.inl (σ 74 0 ((mw ((mw ((3 : Int) * a2)) + 2)).toNat)), .inl (σ 74 0 ((mw ((mw ((3 : Int) * a2)) + 1)).toNat)), .inl (σ 74 0 ((mw ((3 : Int) * a2)).toNat)), .inl (σ 74 0 ((mw ((3 : Int) * a1)).toNat)), .inr (.inr (71, 0))], σ) (Ps := [0 ≤ (mw ((mw ((3 : Int) * a2)) + 1)) ∧ (mw ((mw ((3 : Int) * a2)) + 1)) < 144, 0 ≤ (mw ((mw ((3 : Int) * a2)) + 2)) ∧ (mw ((mw ((3 : Int) * a2)) + 2)) < 144]) rfl (And.intro hc.2.2.1 (And.intro hc.2.2.2 trivial)) ?_
  obtain ⟨⟨v1080, s1079⟩, hq1090, h⟩ := g_bind h
  refine c_S (rest := [.inr (.inr (71, 0))]) C0 hFr (t_X12_then hG f.2.1 N hq1090) lk_X12_117 (k_at kX12_product_ok 29 rfl) rfl rfl rfl (by decide) (by decide) (Nat.le_of_ble_eq_true rfl) ?_
  obtain ⟨hc, h⟩ := g_if h
  refine m_blk C0 (pX12_ok rfl) kX12_product_ok 30 16 (62, [some (.inr (.inr (71, 0))), some (.inl a1), some (.inl a2)], [.inr (.inr (74, 0)), .inl (s1079 74 0 ((mw ((3 : Int) * a2)).toNat)), .inl (s1079 74 0 ((mw ((mw ((3 : Int) * a1)) + 1)).toNat)), .inl v1080, .inr (.inr (71, 0))], s1079) (Ps := [0 ≤ (mw ((mw ((3 : Int) * a1)) + 1)) ∧ (mw ((mw ((3 : Int) * a1)) + 1)) < 144, 0 ≤ (mw ((3 : Int) * a2)) ∧ (mw ((3 : Int) * a2)) < 144]) rfl (And.intro hc.1 (And.intro hc.2.1 trivial)) ?_
  refine m_blk C0 (pX12_ok rfl) kX12_product_ok 46 14 (78, [some (.inr (.inr (71, 0))), some (.inl a1), some (.inl a2)], [.inl (s1079 74 0 ((mw ((mw ((3 : Int) * a2)) + 2)).toNat)), .inl (s1079 74 0 ((mw ((mw ((3 : Int) * a2)) + 1)).toNat)), .inl (s1079 74 0 ((mw ((3 : Int) * a2)).toNat)), .inl (s1079 74 0 ((mw ((mw ((3 : Int) * a1)) + 1)).toNat)), .inl v1080, .inr (.inr (71, 0))], s1079) (Ps := [0 ≤ (mw ((mw ((3 : Int) * a2)) + 1)) ∧ (mw ((mw ((3 : Int) * a2)) + 1)) < 144, 0 ≤ (mw ((mw ((3 : Int) * a2)) + 2)) ∧ (mw ((mw ((3 : Int) * a2)) + 2)) < 144]) rfl (And.intro hc.2.2.1 (And.intro hc.2.2.2 trivial)) ?_
  obtain ⟨⟨v1082, s1081⟩, hq1089, h⟩ := g_bind h
  refine c_S (rest := [.inl v1080, .inr (.inr (71, 0))]) C0 hFr (t_X12_then hG f.2.1 N hq1089) lk_X12_117 (k_at kX12_product_ok 60 rfl) rfl rfl rfl (by decide) (by decide) (Nat.le_of_ble_eq_true rfl) ?_
  obtain ⟨hc, h⟩ := g_if h
  refine m_blk C0 (pX12_ok rfl) kX12_product_ok 61 16 (103, [some (.inr (.inr (71, 0))), some (.inl a1), some (.inl a2)], [.inr (.inr (74, 0)), .inl (s1081 74 0 ((mw ((3 : Int) * a2)).toNat)), .inl (s1081 74 0 ((mw ((mw ((3 : Int) * a1)) + 2)).toNat)), .inl v1082, .inl v1080, .inr (.inr (71, 0))], s1081) (Ps := [0 ≤ (mw ((mw ((3 : Int) * a1)) + 2)) ∧ (mw ((mw ((3 : Int) * a1)) + 2)) < 144, 0 ≤ (mw ((3 : Int) * a2)) ∧ (mw ((3 : Int) * a2)) < 144]) rfl (And.intro hc.1 (And.intro hc.2.1 trivial)) ?_
  refine m_blk C0 (pX12_ok rfl) kX12_product_ok 77 14 (119, [some (.inr (.inr (71, 0))), some (.inl a1), some (.inl a2)], [.inl (s1081 74 0 ((mw ((mw ((3 : Int) * a2)) + 2)).toNat)), .inl (s1081 74 0 ((mw ((mw ((3 : Int) * a2)) + 1)).toNat)), .inl (s1081 74 0 ((mw ((3 : Int) * a2)).toNat)), .inl (s1081 74 0 ((mw ((mw ((3 : Int) * a1)) + 2)).toNat)), .inl v1082, .inl v1080, .inr (.inr (71, 0))], s1081) (Ps := [0 ≤ (mw ((mw ((3 : Int) * a2)) + 1)) ∧ (mw ((mw ((3 : Int) * a2)) + 1)) < 144, 0 ≤ (mw ((mw ((3 : Int) * a2)) + 2)) ∧ (mw ((mw ((3 : Int) * a2)) + 2)) < 144]) rfl (And.intro hc.2.2.1 (And.intro hc.2.2.2 trivial)) ?_
  obtain ⟨⟨v1084, s1083⟩, hq1088, h⟩ := g_bind h
  refine c_S (rest := [.inl v1082, .inl v1080, .inr (.inr (71, 0))]) C0 hFr (t_X12_then hG f.2.1 N hq1088) lk_X12_117 (k_at kX12_product_ok 91 rfl) rfl rfl rfl (by decide) (by decide) (Nat.le_of_ble_eq_true rfl) ?_
  obtain ⟨⟨v1086, s1085⟩, hq1087, h⟩ := g_bind h
  refine c_V (rest := []) C0 hFr (t_X12_find hG f.2.1 N hq1087) lk_X12_121 (k_at kX12_product_ok 92 rfl) rfl rfl rfl rfl ⟨_, _, rfl⟩ (by decide) (by decide) (Nat.le_of_ble_eq_true rfl) ?_
  cases h
  exact m_iret C0 hFin (k_at kX12_product_ok 93 rfl) (Or.inl rfl)
set_option maxRecDepth 100000 in
set_option maxHeartbeats 4000000 in
theorem p_X12_back_2 {e : mEv} (hG : mGeo (mw0 e) lw_kept) (N : Nat) {f : mFx} (C0 : mCx f (mw0 e) sc0 cX12_back 3 RX12 lw_kept) (hFr : mFr f 3) : ∀ (n : Nat) (x1 : Int) (x2 : Int) (σ : mS) (o2 : Int) (σ' : mS), L_X12_back_2 N n x1 x2 σ = some (o2, σ') → mWW f (mw0 e) sc0 3 (17, [none, none, some (.inl o2)], [], σ') → mWW f (mw0 e) sc0 3 (2, [some (.inr (.inr (71, 0))), some (.inl x1), some (.inl x2)], [], σ) := by
  intro n
  induction n with
  | zero =>
    intro x1 x2 σ o2 σ' h hK
    cases h
  | succ n IH =>
    intro x1 x2 σ o2 σ' h hK
    rw [L_X12_back_2_s] at h
    refine m_blk C0 (pX12_ok rfl) kX12_back_ok 2 3 (5, [some (.inr (.inr (71, 0))), some (.inl x1), some (.inl x2)], [.inl x2, .inl x1, .inr (.inr (71, 0))], σ) (Ps := []) rfl trivial ?_
    obtain ⟨⟨v1094, s1093⟩, hq1096, h⟩ := g_bind h
    refine c_V (rest := []) C0 hFr (t_X12_product hG f.2.1 N hq1096) lk_X12_128 (k_at kX12_back_ok 5 rfl) rfl rfl rfl rfl ⟨_, _, rfl⟩ (by decide) (by decide) (Nat.le_of_ble_eq_true rfl) ?_
    refine b_eq C0 kX12_back_ok 6 (off := 9) (tgt := 17) rfl (by decide) (fun hb1095 => ?_) (fun hb1095 => ?_)
    · replace h := g_pos hb1095 h
      cases h
      refine m_mask [false, false, true] (ls' := [none, none, some (.inl x2)]) rfl ?_
      exact hK
    · replace h := g_neg hb1095 h
      refine m_blk C0 (pX12_ok rfl) kX12_back_ok 7 2 (2, [some (.inr (.inr (71, 0))), some (.inl x1), some (.inl (mw (x2 + 1)))], [], s1093) (Ps := []) rfl trivial ?_
      refine m_mask [true, true, true] (ls' := [some (.inr (.inr (71, 0))), some (.inl x1), some (.inl (mw (x2 + 1)))]) rfl ?_
      exact IH _ _ _ _ _ h hK
set_option maxRecDepth 100000 in
set_option maxHeartbeats 4000000 in
theorem t_X12_back {e : mEv} (hG : mGeo (mw0 e) lw_kept) (l : Launch) (N : Nat) {a1 : Int} {σ σ' : mS} {v : Int} (h : f_X12_back N a1 σ = some (v, σ')) : mMet l (mw0 e) lw_kept 3 yX12_back cX12_back 3 (some .int) [.inr (.inr (71, 0)), .inl a1] σ (some (.inl v)) σ' := by
  refine mMet_intro (plainFor_of_name (by decide)) hG (Nat.le_of_ble_eq_true rfl) (fun f hl hR C0 hFin => ?_)
  subst hl
  have hFr := mFr_of hR hFin
  unfold f_X12_back at h
  show mWW f (mw0 e) sc0 3 (0, [some (.inr (.inr (71, 0))), some (.inl a1), none], [], σ)
  refine m_blk C0 (pX12_ok rfl) kX12_back_ok 0 2 (2, [some (.inr (.inr (71, 0))), some (.inl a1), some (.inl 0)], [], σ) (Ps := []) rfl trivial ?_
  obtain ⟨⟨o1098, s1097⟩, hq1099, h⟩ := g_bind h
  refine m_mask [true, true, true] (ls' := [some (.inr (.inr (71, 0))), some (.inl a1), some (.inl 0)]) rfl ?_
  refine p_X12_back_2 hG N C0 hFr N _ _ _ _ _ hq1099 ?_
  refine m_blk C0 (pX12_ok rfl) kX12_back_ok 9 1 (18, [none, none, some (.inl o1098)], [.inl o1098], s1097) (Ps := []) rfl trivial ?_
  cases h
  exact m_iret C0 hFin (k_at kX12_back_ok 10 rfl) (Or.inl rfl)
set_option maxRecDepth 100000 in
set_option maxHeartbeats 4000000 in
theorem p_X12_isAhead_2 {e : mEv} (hG : mGeo (mw0 e) lw_kept) (N : Nat) {f : mFx} (C0 : mCx f (mw0 e) sc0 cX12_isAhead 4 RX12 lw_kept) (hFr : mFr f 0) : ∀ (n : Nat) (x1 : Int) (x2 : Int) (x3 : Int) (σ : mS) (o3 : Int) (σ' : mS), L_X12_isAhead_2 N n x1 x2 x3 σ = some (o3, σ') → mWW f (mw0 e) sc0 4 (41, [some (.inr (.inr (71, 0))), some (.inl x1), none, some (.inl o3)], [], σ') → mWW f (mw0 e) sc0 4 (2, [some (.inr (.inr (71, 0))), some (.inl x1), some (.inl x2), some (.inl x3)], [], σ) := by
  intro n
  induction n with
  | zero =>
    intro x1 x2 x3 σ o3 σ' h hK
    cases h
  | succ n IH =>
    intro x1 x2 x3 σ o3 σ' h hK
    rw [L_X12_isAhead_2_s] at h
    refine m_blk C0 (pX12_ok rfl) kX12_isAhead_ok 2 3 (7, [some (.inr (.inr (71, 0))), some (.inl x1), some (.inl x2), some (.inl x3)], [.inl (σ 71 0 6), .inl x3], σ) (Ps := []) rfl trivial ?_
    refine b_ige C0 kX12_isAhead_ok 5 (off := 34) (tgt := 41) rfl (by decide) (fun hb1146 => ?_) (fun hb1146 => ?_)
    · replace h := g_pos hb1146 h
      cases h
      refine m_mask [true, true, false, true] (ls' := [some (.inr (.inr (71, 0))), some (.inl x1), none, some (.inl x3)]) rfl ?_
      exact hK
    · replace h := g_neg hb1146 h
      obtain ⟨hc, h⟩ := g_if h
      refine m_blk C0 (pX12_ok rfl) kX12_isAhead_ok 6 16 (32, [some (.inr (.inr (71, 0))), some (.inl x1), some (.inl x2), some (.inl x3)], [.inl (σ 79 0 ((mw ((mw ((48 : Int) * x2)) + x3)).toNat)), .inl (σ 79 0 ((mw ((mw ((48 : Int) * x1)) + x3)).toNat))], σ) (Ps := [0 ≤ (mw ((mw ((48 : Int) * x1)) + x3)) ∧ (mw ((mw ((48 : Int) * x1)) + x3)) < 768, 0 ≤ (mw ((mw ((48 : Int) * x2)) + x3)) ∧ (mw ((mw ((48 : Int) * x2)) + x3)) < 768]) rfl (And.intro hc.1 (And.intro hc.2 trivial)) ?_
      refine b_ine C0 kX12_isAhead_ok 22 (off := 9) (tgt := 41) rfl (by decide) (fun hb1145 => ?_) (fun hb1145 => ?_)
      · replace h := g_neg hb1145 h
        cases h
        refine m_mask [true, true, false, true] (ls' := [some (.inr (.inr (71, 0))), some (.inl x1), none, some (.inl x3)]) rfl ?_
        exact hK
      · replace h := g_pos hb1145 h
        refine m_blk C0 (pX12_ok rfl) kX12_isAhead_ok 23 2 (2, [some (.inr (.inr (71, 0))), some (.inl x1), some (.inl x2), some (.inl (mw (x3 + 1)))], [], σ) (Ps := []) rfl trivial ?_
        refine m_mask [true, true, true, true] (ls' := [some (.inr (.inr (71, 0))), some (.inl x1), some (.inl x2), some (.inl (mw (x3 + 1)))]) rfl ?_
        exact IH _ _ _ _ _ _ h hK
set_option maxRecDepth 100000 in
set_option maxHeartbeats 4000000 in
theorem t_X12_isAhead {e : mEv} (hG : mGeo (mw0 e) lw_kept) (l : Launch) (N : Nat) {a1 : Int} {a2 : Int} {σ σ' : mS} {v : Int} (h : f_X12_isAhead N a1 a2 σ = some (v, σ')) : mMet l (mw0 e) lw_kept 0 yX12_isAhead cX12_isAhead 4 (some .boolean) [.inr (.inr (71, 0)), .inl a1, .inl a2] σ (some (.inl v)) σ' := by
  refine mMet_intro (plainFor_of_name (by decide)) hG (Nat.le_of_ble_eq_true rfl) (fun f hl hR C0 hFin => ?_)
  subst hl
  have hFr := mFr_of hR hFin
  unfold f_X12_isAhead at h
  show mWW f (mw0 e) sc0 4 (0, [some (.inr (.inr (71, 0))), some (.inl a1), some (.inl a2), none], [], σ)
  refine m_blk C0 (pX12_ok rfl) kX12_isAhead_ok 0 2 (2, [some (.inr (.inr (71, 0))), some (.inl a1), some (.inl a2), some (.inl 0)], [], σ) (Ps := []) rfl trivial ?_
  obtain ⟨⟨o1148, s1147⟩, hq1151, h⟩ := g_bind h
  refine m_mask [true, true, true, true] (ls' := [some (.inr (.inr (71, 0))), some (.inl a1), some (.inl a2), some (.inl 0)]) rfl ?_
  refine p_X12_isAhead_2 hG N C0 hFr N _ _ _ _ _ _ hq1151 ?_
  refine m_blk C0 (pX12_ok rfl) kX12_isAhead_ok 25 3 (46, [some (.inr (.inr (71, 0))), some (.inl a1), none, some (.inl o1148)], [.inl (s1147 71 0 6), .inl o1148], s1147) (Ps := []) rfl trivial ?_
  refine b_ige C0 kX12_isAhead_ok 28 (off := 22) (tgt := 68) rfl (by decide) (fun hb1150 => ?_) (fun hb1150 => ?_)
  · replace h := g_pos hb1150 h
    refine m_blk C0 (pX12_ok rfl) kX12_isAhead_ok 41 1 (69, [some (.inr (.inr (71, 0))), some (.inl a1), none, some (.inl o1148)], [.inl 0], s1147) (Ps := []) rfl trivial ?_
    cases h
    exact m_iret C0 hFin (k_at kX12_isAhead_ok 42 rfl) (Or.inr ⟨rfl, by decide⟩)
  · replace h := g_neg hb1150 h
    obtain ⟨hc, h⟩ := g_if h
    refine m_blk C0 (pX12_ok rfl) kX12_isAhead_ok 29 9 (61, [some (.inr (.inr (71, 0))), some (.inl a1), none, some (.inl o1148)], [.inl 1, .inl (s1147 79 0 ((mw ((mw ((48 : Int) * a1)) + o1148)).toNat))], s1147) (Ps := [0 ≤ (mw ((mw ((48 : Int) * a1)) + o1148)) ∧ (mw ((mw ((48 : Int) * a1)) + o1148)) < 768]) rfl (And.intro hc trivial) ?_
    refine b_ine C0 kX12_isAhead_ok 38 (off := 7) (tgt := 68) rfl (by decide) (fun hb1149 => ?_) (fun hb1149 => ?_)
    · replace h := g_neg hb1149 h
      refine m_blk C0 (pX12_ok rfl) kX12_isAhead_ok 41 1 (69, [some (.inr (.inr (71, 0))), some (.inl a1), none, some (.inl o1148)], [.inl 0], s1147) (Ps := []) rfl trivial ?_
      cases h
      exact m_iret C0 hFin (k_at kX12_isAhead_ok 42 rfl) (Or.inr ⟨rfl, by decide⟩)
    · replace h := g_pos hb1149 h
      refine m_blk C0 (pX12_ok rfl) kX12_isAhead_ok 39 2 (69, [some (.inr (.inr (71, 0))), some (.inl a1), none, some (.inl o1148)], [.inl 1], s1147) (Ps := []) rfl trivial ?_
      cases h
      exact m_iret C0 hFin (k_at kX12_isAhead_ok 42 rfl) (Or.inr ⟨rfl, by decide⟩)
set_option maxRecDepth 100000 in
set_option maxHeartbeats 4000000 in
theorem p_X12_place_22 {e : mEv} (hG : mGeo (mw0 e) lw_kept) (N : Nat) {f : mFx} (C0 : mCx f (mw0 e) sc0 cX12_place 4 RX12 lw_kept) (hFr : mFr f 1) : ∀ (n : Nat) (x1 : Int) (x2 : Int) (σ : mS) (σ' : mS), L_X12_place_22 N n x1 x2 σ = some σ' → mWW f (mw0 e) sc0 4 (88, [some (.inr (.inr (71, 0))), some (.inl x1), none, none], [], σ') → mWW f (mw0 e) sc0 4 (22, [some (.inr (.inr (71, 0))), some (.inl x1), some (.inl x2), none], [], σ) := by
  intro n
  induction n with
  | zero =>
    intro x1 x2 σ σ' h hK
    cases h
  | succ n IH =>
    intro x1 x2 σ σ' h hK
    rw [L_X12_place_22_s] at h
    refine m_blk C0 (pX12_ok rfl) kX12_place_ok 14 3 (27, [some (.inr (.inr (71, 0))), some (.inl x1), some (.inl x2), none], [.inl (σ 71 0 6), .inl x2], σ) (Ps := []) rfl trivial ?_
    refine b_ige C0 kX12_place_ok 17 (off := 61) (tgt := 88) rfl (by decide) (fun hb1154 => ?_) (fun hb1154 => ?_)
    · replace h := g_pos hb1154 h
      cases h
      refine m_mask [true, true, false, false] (ls' := [some (.inr (.inr (71, 0))), some (.inl x1), none, none]) rfl ?_
      exact hK
    · replace h := g_neg hb1154 h
      obtain ⟨hc, h⟩ := g_if h
      refine m_blk C0 (pX12_ok rfl) kX12_place_ok 18 16 (52, [some (.inr (.inr (71, 0))), some (.inl x1), some (.inl x2), some (.inl (σ 79 0 ((mw ((mw ((48 : Int) * x1)) + x2)).toNat)))], [.inl (mw ((mw ((48 : Int) * x1)) + x2)), .inr (.inr (79, 0))], σ) (Ps := [0 ≤ (mw ((mw ((48 : Int) * x1)) + x2)) ∧ (mw ((mw ((48 : Int) * x1)) + x2)) < 768]) rfl (And.intro hc.1 trivial) ?_
      refine m_blk C0 (pX12_ok rfl) kX12_place_ok 34 11 (67, [some (.inr (.inr (71, 0))), some (.inl x1), some (.inl x2), some (.inl (σ 79 0 ((mw ((mw ((48 : Int) * x1)) + x2)).toNat)))], [], (mup σ 79 0 ((mw ((mw ((48 : Int) * x1)) + x2)).toNat) (σ 79 0 ((mw ((mw ((mw ((48 : Int) * x1)) - 48)) + x2)).toNat)))) (Ps := [0 ≤ (mw ((mw ((mw ((48 : Int) * x1)) - 48)) + x2)) ∧ (mw ((mw ((mw ((48 : Int) * x1)) - 48)) + x2)) < 768, 0 ≤ (mw ((mw ((48 : Int) * x1)) + x2)) ∧ (mw ((mw ((48 : Int) * x1)) + x2)) < 768]) rfl (And.intro hc.2 (And.intro hc.1 trivial)) ?_
      refine m_blk C0 (pX12_ok rfl) kX12_place_ok 45 11 (82, [some (.inr (.inr (71, 0))), some (.inl x1), some (.inl x2), some (.inl (σ 79 0 ((mw ((mw ((48 : Int) * x1)) + x2)).toNat)))], [], (mup (mup σ 79 0 ((mw ((mw ((48 : Int) * x1)) + x2)).toNat) (σ 79 0 ((mw ((mw ((mw ((48 : Int) * x1)) - 48)) + x2)).toNat))) 79 0 ((mw ((mw ((mw ((48 : Int) * x1)) - 48)) + x2)).toNat) (σ 79 0 ((mw ((mw ((48 : Int) * x1)) + x2)).toNat)))) (Ps := [0 ≤ (mw ((mw ((mw ((48 : Int) * x1)) - 48)) + x2)) ∧ (mw ((mw ((mw ((48 : Int) * x1)) - 48)) + x2)) < 768]) rfl (And.intro hc.2 trivial) ?_
      refine m_blk C0 (pX12_ok rfl) kX12_place_ok 56 2 (22, [some (.inr (.inr (71, 0))), some (.inl x1), some (.inl (mw (x2 + 1))), some (.inl (σ 79 0 ((mw ((mw ((48 : Int) * x1)) + x2)).toNat)))], [], (mup (mup σ 79 0 ((mw ((mw ((48 : Int) * x1)) + x2)).toNat) (σ 79 0 ((mw ((mw ((mw ((48 : Int) * x1)) - 48)) + x2)).toNat))) 79 0 ((mw ((mw ((mw ((48 : Int) * x1)) - 48)) + x2)).toNat) (σ 79 0 ((mw ((mw ((48 : Int) * x1)) + x2)).toNat)))) (Ps := []) rfl trivial ?_
      refine m_mask [true, true, true, false] (ls' := [some (.inr (.inr (71, 0))), some (.inl x1), some (.inl (mw (x2 + 1))), none]) rfl ?_
      exact IH _ _ _ _ h hK
set_option maxRecDepth 100000 in
set_option maxHeartbeats 4000000 in
theorem p_X12_place_5 {e : mEv} (hG : mGeo (mw0 e) lw_kept) (N : Nat) {f : mFx} (C0 : mCx f (mw0 e) sc0 cX12_place 4 RX12 lw_kept) (hFr : mFr f 1) : ∀ (n : Nat) (x1 : Int) (σ : mS) (σ' : mS), L_X12_place_5 N n x1 σ = some σ' → mWW f (mw0 e) sc0 4 (94, [some (.inr (.inr (71, 0))), none, none, none], [], σ') → mWW f (mw0 e) sc0 4 (5, [some (.inr (.inr (71, 0))), some (.inl x1), none, none], [], σ) := by
  intro n
  induction n with
  | zero =>
    intro x1 σ σ' h hK
    cases h
  | succ n IH =>
    intro x1 σ σ' h hK
    rw [L_X12_place_5_s] at h
    refine m_blk C0 (pX12_ok rfl) kX12_place_ok 3 1 (6, [some (.inr (.inr (71, 0))), some (.inl x1), none, none], [.inl x1], σ) (Ps := []) rfl trivial ?_
    refine b_le C0 kX12_place_ok 4 (off := 88) (tgt := 94) rfl (by decide) (fun hb1159 => ?_) (fun hb1159 => ?_)
    · replace h := g_pos hb1159 h
      cases h
      refine m_mask [true, false, false, false] (ls' := [some (.inr (.inr (71, 0))), none, none, none]) rfl ?_
      exact hK
    · replace h := g_neg hb1159 h
      refine m_blk C0 (pX12_ok rfl) kX12_place_ok 5 5 (14, [some (.inr (.inr (71, 0))), some (.inl x1), none, none], [.inl (mw (x1 - 1)), .inl x1, .inr (.inr (71, 0))], σ) (Ps := []) rfl trivial ?_
      obtain ⟨⟨v1153, s1152⟩, hq1158, h⟩ := g_bind h
      refine c_V (rest := []) C0 hFr (t_X12_isAhead hG f.2.1 N hq1158) lk_X12_149 (k_at kX12_place_ok 10 rfl) rfl rfl rfl rfl ⟨_, _, rfl⟩ (by decide) (by decide) (Nat.le_of_ble_eq_true rfl) ?_
      refine b_eq C0 kX12_place_ok 11 (off := 77) (tgt := 94) rfl (by decide) (fun hb1157 => ?_) (fun hb1157 => ?_)
      · replace h := g_pos hb1157 h
        cases h
        refine m_mask [true, false, false, false] (ls' := [some (.inr (.inr (71, 0))), none, none, none]) rfl ?_
        exact hK
      · replace h := g_neg hb1157 h
        refine m_blk C0 (pX12_ok rfl) kX12_place_ok 12 2 (22, [some (.inr (.inr (71, 0))), some (.inl x1), some (.inl 0), none], [], s1152) (Ps := []) rfl trivial ?_
        obtain ⟨s1155, hq1156, h⟩ := g_bind h
        refine m_mask [true, true, true, false] (ls' := [some (.inr (.inr (71, 0))), some (.inl x1), some (.inl 0), none]) rfl ?_
        refine p_X12_place_22 hG N C0 hFr N _ _ _ _ hq1156 ?_
        refine m_blk C0 (pX12_ok rfl) kX12_place_ok 58 2 (5, [some (.inr (.inr (71, 0))), some (.inl (mw (x1 + (-1)))), none, none], [], s1155) (Ps := []) rfl trivial ?_
        refine m_mask [true, true, false, false] (ls' := [some (.inr (.inr (71, 0))), some (.inl (mw (x1 + (-1)))), none, none]) rfl ?_
        exact IH _ _ _ h hK
set_option maxRecDepth 100000 in
set_option maxHeartbeats 4000000 in
theorem t_X12_place {e : mEv} (hG : mGeo (mw0 e) lw_kept) (l : Launch) (N : Nat) {σ σ' : mS} (h : f_X12_place N σ = some σ') : mMet l (mw0 e) lw_kept 1 yX12_place cX12_place 4 none [.inr (.inr (71, 0))] σ none σ' := by
  refine mMet_intro (plainFor_of_name (by decide)) hG (Nat.le_of_ble_eq_true rfl) (fun f hl hR C0 hFin => ?_)
  subst hl
  have hFr := mFr_of hR hFin
  unfold f_X12_place at h
  show mWW f (mw0 e) sc0 4 (0, [some (.inr (.inr (71, 0))), none, none, none], [], σ)
  refine m_blk C0 (pX12_ok rfl) kX12_place_ok 0 3 (5, [some (.inr (.inr (71, 0))), some (.inl (σ 71 0 11)), none, none], [], σ) (Ps := []) rfl trivial ?_
  obtain ⟨s1160, hq1161, h⟩ := g_bind h
  refine m_mask [true, true, false, false] (ls' := [some (.inr (.inr (71, 0))), some (.inl (σ 71 0 11)), none, none]) rfl ?_
  refine p_X12_place_5 hG N C0 hFr N _ _ _ hq1161 ?_
  refine m_blk C0 (pX12_ok rfl) kX12_place_ok 60 6 (104, [some (.inr (.inr (71, 0))), none, none, none], [], (mup s1160 71 0 11 (mw ((s1160 71 0 11) + 1)))) (Ps := []) rfl trivial ?_
  cases h
  exact m_vret C0 hFin (k_at kX12_place_ok 66 rfl)
set_option maxRecDepth 100000 in
set_option maxHeartbeats 4000000 in
theorem p_X12_findSigns_34 {e : mEv} (hG : mGeo (mw0 e) lw_kept) (N : Nat) {f : mFx} (C0 : mCx f (mw0 e) sc0 cX12_findSigns 7 RX12 lw_kept) (hFr : mFr f 3) : ∀ (n : Nat) (x1 : Int) (x2 : Int) (x3 : Int) (σ : mS) (σ' : mS), L_X12_findSigns_34 N n x1 x2 x3 σ = some σ' → mWW f (mw0 e) sc0 7 (89, [some (.inr (.inr (71, 0))), some (.inl x1), some (.inl x2), none, none, none, none], [], σ') → mWW f (mw0 e) sc0 7 (34, [some (.inr (.inr (71, 0))), some (.inl x1), some (.inl x2), some (.inl x3), none, none, none], [], σ) := by
  intro n
  induction n with
  | zero =>
    intro x1 x2 x3 σ σ' h hK
    cases h
  | succ n IH =>
    intro x1 x2 x3 σ σ' h hK
    rw [L_X12_findSigns_34_s] at h
    refine m_blk C0 (pX12_ok rfl) kX12_findSigns_ok 23 3 (39, [some (.inr (.inr (71, 0))), some (.inl x1), some (.inl x2), some (.inl x3), none, none, none], [.inl (σ 71 0 6), .inl x3], σ) (Ps := []) rfl trivial ?_
    refine b_ige C0 kX12_findSigns_ok 26 (off := 50) (tgt := 89) rfl (by decide) (fun hb1114 => ?_) (fun hb1114 => ?_)
    · replace h := g_pos hb1114 h
      cases h
      refine m_mask [true, true, true, false, false, false, false] (ls' := [some (.inr (.inr (71, 0))), some (.inl x1), some (.inl x2), none, none, none, none]) rfl ?_
      exact hK
    · replace h := g_neg hb1114 h
      obtain ⟨hc, h⟩ := g_if h
      refine m_blk C0 (pX12_ok rfl) kX12_findSigns_ok 27 16 (64, [some (.inr (.inr (71, 0))), some (.inl x1), some (.inl x2), some (.inl x3), none, none, none], [.inr (.inr (71, 0)), .inl x1, .inl (σ 79 0 ((mw (x2 + (σ 75 0 x3.toNat))).toNat)), .inl (mw (x2 + x3)), .inr (.inr (79, 0))], σ) (Ps := [0 ≤ x3 ∧ x3 < 48, 0 ≤ (mw (x2 + (σ 75 0 x3.toNat))) ∧ (mw (x2 + (σ 75 0 x3.toNat))) < 768]) rfl (And.intro hc.1 (And.intro hc.2 trivial)) ?_
      refine m_blk C0 (pX12_ok rfl) kX12_findSigns_ok 43 7 (73, [some (.inr (.inr (71, 0))), some (.inl x1), some (.inl x2), some (.inl x3), none, none, none], [.inl 1, .inl (o_and (o_shr x1 (σ 76 0 x3.toNat)) 1), .inl (σ 79 0 ((mw (x2 + (σ 75 0 x3.toNat))).toNat)), .inl (mw (x2 + x3)), .inr (.inr (79, 0))], σ) (Ps := [0 ≤ x3 ∧ x3 < 48]) rfl (And.intro hc.1 trivial) ?_
      refine b_ine C0 kX12_findSigns_ok 50 (off := 7) (tgt := 80) rfl (by decide) (fun hb1113 => ?_) (fun hb1113 => ?_)
      · replace h := g_neg hb1113 h
        obtain ⟨hc, h⟩ := g_if h
        refine m_blk C0 (pX12_ok rfl) kX12_findSigns_ok 53 3 (83, [some (.inr (.inr (71, 0))), some (.inl x1), some (.inl x2), some (.inl x3), none, none, none], [], (mup σ 79 0 ((mw (x2 + x3)).toNat) (mw ((σ 79 0 ((mw (x2 + (σ 75 0 x3.toNat))).toNat)) * 1)))) (Ps := [0 ≤ (mw (x2 + x3)) ∧ (mw (x2 + x3)) < 768]) rfl (And.intro hc trivial) ?_
        refine m_blk C0 (pX12_ok rfl) kX12_findSigns_ok 56 2 (34, [some (.inr (.inr (71, 0))), some (.inl x1), some (.inl x2), some (.inl (mw (x3 + 1))), none, none, none], [], (mup σ 79 0 ((mw (x2 + x3)).toNat) (mw ((σ 79 0 ((mw (x2 + (σ 75 0 x3.toNat))).toNat)) * 1)))) (Ps := []) rfl trivial ?_
        refine m_mask [true, true, true, true, false, false, false] (ls' := [some (.inr (.inr (71, 0))), some (.inl x1), some (.inl x2), some (.inl (mw (x3 + 1))), none, none, none]) rfl ?_
        exact IH _ _ _ _ _ h hK
      · replace h := g_pos hb1113 h
        refine m_blk C0 (pX12_ok rfl) kX12_findSigns_ok 51 2 (81, [some (.inr (.inr (71, 0))), some (.inl x1), some (.inl x2), some (.inl x3), none, none, none], [.inl (-1), .inl (σ 79 0 ((mw (x2 + (σ 75 0 x3.toNat))).toNat)), .inl (mw (x2 + x3)), .inr (.inr (79, 0))], σ) (Ps := []) rfl trivial ?_
        obtain ⟨hc, h⟩ := g_if h
        refine m_blk C0 (pX12_ok rfl) kX12_findSigns_ok 54 2 (83, [some (.inr (.inr (71, 0))), some (.inl x1), some (.inl x2), some (.inl x3), none, none, none], [], (mup σ 79 0 ((mw (x2 + x3)).toNat) (mw ((σ 79 0 ((mw (x2 + (σ 75 0 x3.toNat))).toNat)) * (-1))))) (Ps := [0 ≤ (mw (x2 + x3)) ∧ (mw (x2 + x3)) < 768]) rfl (And.intro hc trivial) ?_
        refine m_blk C0 (pX12_ok rfl) kX12_findSigns_ok 56 2 (34, [some (.inr (.inr (71, 0))), some (.inl x1), some (.inl x2), some (.inl (mw (x3 + 1))), none, none, none], [], (mup σ 79 0 ((mw (x2 + x3)).toNat) (mw ((σ 79 0 ((mw (x2 + (σ 75 0 x3.toNat))).toNat)) * (-1))))) (Ps := []) rfl trivial ?_
        refine m_mask [true, true, true, true, false, false, false] (ls' := [some (.inr (.inr (71, 0))), some (.inl x1), some (.inl x2), some (.inl (mw (x3 + 1))), none, none, none]) rfl ?_
        exact IH _ _ _ _ _ h hK
set_option maxRecDepth 100000 in
set_option maxHeartbeats 4000000 in
theorem p_X12_findSigns_147 {e : mEv} (hG : mGeo (mw0 e) lw_kept) (N : Nat) {f : mFx} (C0 : mCx f (mw0 e) sc0 cX12_findSigns 7 RX12 lw_kept) (hFr : mFr f 3) : ∀ (n : Nat) (x1 : Int) (x2 : Int) (x3 : Int) (x4 : Int) (x5 : Int) (x6 : Int) (σ : mS) (o3 : Int) (σ' : mS), L_X12_findSigns_147 N n x1 x2 x3 x4 x5 x6 σ = some (o3, σ') → mWW f (mw0 e) sc0 7 (215, [some (.inr (.inr (71, 0))), some (.inl x1), some (.inl x2), some (.inl o3), some (.inl x4), none, none], [], σ') → mWW f (mw0 e) sc0 7 (147, [some (.inr (.inr (71, 0))), some (.inl x1), some (.inl x2), some (.inl x3), some (.inl x4), some (.inl x5), some (.inl x6)], [], σ) := by
  intro n
  induction n with
  | zero =>
    intro x1 x2 x3 x4 x5 x6 σ o3 σ' h hK
    cases h
  | succ n IH =>
    intro x1 x2 x3 x4 x5 x6 σ o3 σ' h hK
    rw [L_X12_findSigns_147_s] at h
    refine m_blk C0 (pX12_ok rfl) kX12_findSigns_ok 95 3 (153, [some (.inr (.inr (71, 0))), some (.inl x1), some (.inl x2), some (.inl x3), some (.inl x4), some (.inl x5), some (.inl x6)], [.inl (σ 71 0 6), .inl x6], σ) (Ps := []) rfl trivial ?_
    refine b_ige C0 kX12_findSigns_ok 98 (off := 62) (tgt := 215) rfl (by decide) (fun hb1125 => ?_) (fun hb1125 => ?_)
    · replace h := g_pos hb1125 h
      cases h
      refine m_mask [true, true, true, true, true, false, false] (ls' := [some (.inr (.inr (71, 0))), some (.inl x1), some (.inl x2), some (.inl x3), some (.inl x4), none, none]) rfl ?_
      exact hK
    · replace h := g_neg hb1125 h
      refine m_blk C0 (pX12_ok rfl) kX12_findSigns_ok 99 1 (157, [some (.inr (.inr (71, 0))), some (.inl x1), some (.inl x2), some (.inl x3), some (.inl x4), some (.inl x5), some (.inl x6)], [.inl x3], σ) (Ps := []) rfl trivial ?_
      refine b_eq C0 kX12_findSigns_ok 100 (off := 58) (tgt := 215) rfl (by decide) (fun hb1124 => ?_) (fun hb1124 => ?_)
      · replace h := g_pos hb1124 h
        cases h
        refine m_mask [true, true, true, true, true, false, false] (ls' := [some (.inr (.inr (71, 0))), some (.inl x1), some (.inl x2), some (.inl x3), some (.inl x4), none, none]) rfl ?_
        exact hK
      · replace h := g_neg hb1124 h
        refine m_blk C0 (pX12_ok rfl) kX12_findSigns_ok 101 6 (170, [some (.inr (.inr (71, 0))), some (.inl x1), some (.inl x2), some (.inl x3), some (.inl x4), some (.inl x5), some (.inl x6)], [.inl x5, .inl x6, .inr (.inr (71, 0)), .inl x2, .inr (.inr (79, 0))], σ) (Ps := []) rfl trivial ?_
        obtain ⟨⟨v1119, s1118⟩, hq1123, h⟩ := g_bind h
        refine c_V (rest := [.inl x2, .inr (.inr (79, 0))]) C0 hFr (t_X12_product hG f.2.1 N hq1123) lk_X12_128 (k_at kX12_findSigns_ok 107 rfl) rfl rfl rfl rfl ⟨_, _, rfl⟩ (by decide) (by decide) (Nat.le_of_ble_eq_true rfl) ?_
        obtain ⟨hc, h⟩ := g_if h
        refine m_blk C0 (pX12_ok rfl) kX12_findSigns_ok 108 14 (191, [some (.inr (.inr (71, 0))), some (.inl x1), some (.inl x2), some (.inl x3), some (.inl x4), some (.inl x5), some (.inl x6)], [.inl 1, .inl (o_and (o_shr x1 x4) 1), .inl (s1118 79 0 ((mw (x2 + x6)).toNat)), .inl (s1118 79 0 ((mw (x2 + v1119)).toNat))], s1118) (Ps := [0 ≤ (mw (x2 + v1119)) ∧ (mw (x2 + v1119)) < 768, 0 ≤ (mw (x2 + x6)) ∧ (mw (x2 + x6)) < 768]) rfl (And.intro hc.1 (And.intro hc.2 trivial)) ?_
        refine b_ine C0 kX12_findSigns_ok 122 (off := 7) (tgt := 198) rfl (by decide) (fun hb1122 => ?_) (fun hb1122 => ?_)
        · replace h := g_neg hb1122 h
          refine m_blk C0 (pX12_ok rfl) kX12_findSigns_ok 125 2 (200, [some (.inr (.inr (71, 0))), some (.inl x1), some (.inl x2), some (.inl x3), some (.inl x4), some (.inl x5), some (.inl x6)], [.inl (mw ((s1118 79 0 ((mw (x2 + x6)).toNat)) * 1)), .inl (s1118 79 0 ((mw (x2 + v1119)).toNat))], s1118) (Ps := []) rfl trivial ?_
          refine b_ine C0 kX12_findSigns_ok 127 (off := 7) (tgt := 207) rfl (by decide) (fun hb1120 => ?_) (fun hb1120 => ?_)
          · replace h := g_neg hb1120 h
            refine m_blk C0 (pX12_ok rfl) kX12_findSigns_ok 130 4 (147, [some (.inr (.inr (71, 0))), some (.inl x1), some (.inl x2), some (.inl 0), some (.inl x4), some (.inl x5), some (.inl (mw (x6 + 1)))], [], s1118) (Ps := []) rfl trivial ?_
            refine m_mask [true, true, true, true, true, true, true] (ls' := [some (.inr (.inr (71, 0))), some (.inl x1), some (.inl x2), some (.inl 0), some (.inl x4), some (.inl x5), some (.inl (mw (x6 + 1)))]) rfl ?_
            exact IH _ _ _ _ _ _ _ _ _ h hK
          · replace h := g_pos hb1120 h
            refine m_blk C0 (pX12_ok rfl) kX12_findSigns_ok 128 2 (208, [some (.inr (.inr (71, 0))), some (.inl x1), some (.inl x2), some (.inl x3), some (.inl x4), some (.inl x5), some (.inl x6)], [.inl 1], s1118) (Ps := []) rfl trivial ?_
            refine m_blk C0 (pX12_ok rfl) kX12_findSigns_ok 131 3 (147, [some (.inr (.inr (71, 0))), some (.inl x1), some (.inl x2), some (.inl 1), some (.inl x4), some (.inl x5), some (.inl (mw (x6 + 1)))], [], s1118) (Ps := []) rfl trivial ?_
            refine m_mask [true, true, true, true, true, true, true] (ls' := [some (.inr (.inr (71, 0))), some (.inl x1), some (.inl x2), some (.inl 1), some (.inl x4), some (.inl x5), some (.inl (mw (x6 + 1)))]) rfl ?_
            exact IH _ _ _ _ _ _ _ _ _ h hK
        · replace h := g_pos hb1122 h
          refine m_blk C0 (pX12_ok rfl) kX12_findSigns_ok 123 2 (199, [some (.inr (.inr (71, 0))), some (.inl x1), some (.inl x2), some (.inl x3), some (.inl x4), some (.inl x5), some (.inl x6)], [.inl (-1), .inl (s1118 79 0 ((mw (x2 + x6)).toNat)), .inl (s1118 79 0 ((mw (x2 + v1119)).toNat))], s1118) (Ps := []) rfl trivial ?_
          refine m_blk C0 (pX12_ok rfl) kX12_findSigns_ok 126 1 (200, [some (.inr (.inr (71, 0))), some (.inl x1), some (.inl x2), some (.inl x3), some (.inl x4), some (.inl x5), some (.inl x6)], [.inl (mw ((s1118 79 0 ((mw (x2 + x6)).toNat)) * (-1))), .inl (s1118 79 0 ((mw (x2 + v1119)).toNat))], s1118) (Ps := []) rfl trivial ?_
          refine b_ine C0 kX12_findSigns_ok 127 (off := 7) (tgt := 207) rfl (by decide) (fun hb1121 => ?_) (fun hb1121 => ?_)
          · replace h := g_neg hb1121 h
            refine m_blk C0 (pX12_ok rfl) kX12_findSigns_ok 130 4 (147, [some (.inr (.inr (71, 0))), some (.inl x1), some (.inl x2), some (.inl 0), some (.inl x4), some (.inl x5), some (.inl (mw (x6 + 1)))], [], s1118) (Ps := []) rfl trivial ?_
            refine m_mask [true, true, true, true, true, true, true] (ls' := [some (.inr (.inr (71, 0))), some (.inl x1), some (.inl x2), some (.inl 0), some (.inl x4), some (.inl x5), some (.inl (mw (x6 + 1)))]) rfl ?_
            exact IH _ _ _ _ _ _ _ _ _ h hK
          · replace h := g_pos hb1121 h
            refine m_blk C0 (pX12_ok rfl) kX12_findSigns_ok 128 2 (208, [some (.inr (.inr (71, 0))), some (.inl x1), some (.inl x2), some (.inl x3), some (.inl x4), some (.inl x5), some (.inl x6)], [.inl 1], s1118) (Ps := []) rfl trivial ?_
            refine m_blk C0 (pX12_ok rfl) kX12_findSigns_ok 131 3 (147, [some (.inr (.inr (71, 0))), some (.inl x1), some (.inl x2), some (.inl 1), some (.inl x4), some (.inl x5), some (.inl (mw (x6 + 1)))], [], s1118) (Ps := []) rfl trivial ?_
            refine m_mask [true, true, true, true, true, true, true] (ls' := [some (.inr (.inr (71, 0))), some (.inl x1), some (.inl x2), some (.inl 1), some (.inl x4), some (.inl x5), some (.inl (mw (x6 + 1)))]) rfl ?_
            exact IH _ _ _ _ _ _ _ _ _ h hK
set_option maxRecDepth 100000 in
set_option maxHeartbeats 4000000 in
theorem p_X12_findSigns_94 {e : mEv} (hG : mGeo (mw0 e) lw_kept) (N : Nat) {f : mFx} (C0 : mCx f (mw0 e) sc0 cX12_findSigns 7 RX12 lw_kept) (hFr : mFr f 3) : ∀ (n : Nat) (x1 : Int) (x2 : Int) (x3 : Int) (x4 : Int) (σ : mS) (o3 : Int) (σ' : mS), L_X12_findSigns_94 N n x1 x2 x3 x4 σ = some (o3, σ') → mWW f (mw0 e) sc0 7 (221, [some (.inr (.inr (71, 0))), some (.inl x1), some (.inl x2), some (.inl o3), none, none, none], [], σ') → mWW f (mw0 e) sc0 7 (94, [some (.inr (.inr (71, 0))), some (.inl x1), some (.inl x2), some (.inl x3), some (.inl x4), none, none], [], σ) := by
  intro n
  induction n with
  | zero =>
    intro x1 x2 x3 x4 σ o3 σ' h hK
    cases h
  | succ n IH =>
    intro x1 x2 x3 x4 σ o3 σ' h hK
    rw [L_X12_findSigns_94_s] at h
    refine m_blk C0 (pX12_ok rfl) kX12_findSigns_ok 62 3 (100, [some (.inr (.inr (71, 0))), some (.inl x1), some (.inl x2), some (.inl x3), some (.inl x4), none, none], [.inl (σ 71 0 7), .inl x4], σ) (Ps := []) rfl trivial ?_
    refine b_ige C0 kX12_findSigns_ok 65 (off := 121) (tgt := 221) rfl (by decide) (fun hb1131 => ?_) (fun hb1131 => ?_)
    · replace h := g_pos hb1131 h
      cases h
      refine m_mask [true, true, true, true, false, false, false] (ls' := [some (.inr (.inr (71, 0))), some (.inl x1), some (.inl x2), some (.inl x3), none, none, none]) rfl ?_
      exact hK
    · replace h := g_neg hb1131 h
      refine m_blk C0 (pX12_ok rfl) kX12_findSigns_ok 66 1 (104, [some (.inr (.inr (71, 0))), some (.inl x1), some (.inl x2), some (.inl x3), some (.inl x4), none, none], [.inl x3], σ) (Ps := []) rfl trivial ?_
      refine b_eq C0 kX12_findSigns_ok 67 (off := 117) (tgt := 221) rfl (by decide) (fun hb1130 => ?_) (fun hb1130 => ?_)
      · replace h := g_pos hb1130 h
        cases h
        refine m_mask [true, true, true, true, false, false, false] (ls' := [some (.inr (.inr (71, 0))), some (.inl x1), some (.inl x2), some (.inl x3), none, none, none]) rfl ?_
        exact hK
      · replace h := g_neg hb1130 h
        obtain ⟨hc, h⟩ := g_if h
        refine m_blk C0 (pX12_ok rfl) kX12_findSigns_ok 68 16 (129, [some (.inr (.inr (71, 0))), some (.inl x1), some (.inl x2), some (.inl x3), some (.inl x4), none, none], [.inr (.inr (71, 0)), .inl (σ 77 0 ((mw ((mw ((3 : Int) * x4)) + 1)).toNat)), .inl (σ 77 0 ((mw ((3 : Int) * x4)).toNat)), .inr (.inr (71, 0))], σ) (Ps := [0 ≤ (mw ((3 : Int) * x4)) ∧ (mw ((3 : Int) * x4)) < 12, 0 ≤ (mw ((mw ((3 : Int) * x4)) + 1)) ∧ (mw ((mw ((3 : Int) * x4)) + 1)) < 12]) rfl (And.intro hc.1 (And.intro hc.2.1 trivial)) ?_
        refine m_blk C0 (pX12_ok rfl) kX12_findSigns_ok 84 7 (139, [some (.inr (.inr (71, 0))), some (.inl x1), some (.inl x2), some (.inl x3), some (.inl x4), none, none], [.inl (σ 77 0 ((mw ((mw ((3 : Int) * x4)) + 2)).toNat)), .inl (σ 77 0 ((mw ((mw ((3 : Int) * x4)) + 1)).toNat)), .inl (σ 77 0 ((mw ((3 : Int) * x4)).toNat)), .inr (.inr (71, 0))], σ) (Ps := [0 ≤ (mw ((mw ((3 : Int) * x4)) + 2)) ∧ (mw ((mw ((3 : Int) * x4)) + 2)) < 12]) rfl (And.intro hc.2.2 trivial) ?_
        obtain ⟨⟨v1117, s1116⟩, hq1129, h⟩ := g_bind h
        refine c_V (rest := []) C0 hFr (t_X12_find hG f.2.1 N hq1129) lk_X12_121 (k_at kX12_findSigns_ok 91 rfl) rfl rfl rfl rfl ⟨_, _, rfl⟩ (by decide) (by decide) (Nat.le_of_ble_eq_true rfl) ?_
        refine m_blk C0 (pX12_ok rfl) kX12_findSigns_ok 92 3 (147, [some (.inr (.inr (71, 0))), some (.inl x1), some (.inl x2), some (.inl x3), some (.inl x4), some (.inl v1117), some (.inl 0)], [], s1116) (Ps := []) rfl trivial ?_
        obtain ⟨⟨o1127, s1126⟩, hq1128, h⟩ := g_bind h
        refine m_mask [true, true, true, true, true, true, true] (ls' := [some (.inr (.inr (71, 0))), some (.inl x1), some (.inl x2), some (.inl x3), some (.inl x4), some (.inl v1117), some (.inl 0)]) rfl ?_
        refine p_X12_findSigns_147 hG N C0 hFr N _ _ _ _ _ _ _ _ _ hq1128 ?_
        refine m_blk C0 (pX12_ok rfl) kX12_findSigns_ok 134 2 (94, [some (.inr (.inr (71, 0))), some (.inl x1), some (.inl x2), some (.inl o1127), some (.inl (mw (x4 + 1))), none, none], [], s1126) (Ps := []) rfl trivial ?_
        refine m_mask [true, true, true, true, true, false, false] (ls' := [some (.inr (.inr (71, 0))), some (.inl x1), some (.inl x2), some (.inl o1127), some (.inl (mw (x4 + 1))), none, none]) rfl ?_
        exact IH _ _ _ _ _ _ _ h hK
set_option maxRecDepth 100000 in
set_option maxHeartbeats 4000000 in
theorem p_X12_findSigns_243 {e : mEv} (hG : mGeo (mw0 e) lw_kept) (N : Nat) {f : mFx} (C0 : mCx f (mw0 e) sc0 cX12_findSigns 7 RX12 lw_kept) (hFr : mFr f 3) : ∀ (n : Nat) (x1 : Int) (x2 : Int) (x4 : Int) (x5 : Int) (x6 : Int) (σ : mS) (o5 : Int) (σ' : mS), L_X12_findSigns_243 N n x1 x2 x4 x5 x6 σ = some (o5, σ') → mWW f (mw0 e) sc0 7 (295, [some (.inr (.inr (71, 0))), some (.inl x1), some (.inl x2), none, some (.inl x4), some (.inl o5), none], [], σ') → mWW f (mw0 e) sc0 7 (243, [some (.inr (.inr (71, 0))), some (.inl x1), some (.inl x2), none, some (.inl x4), some (.inl x5), some (.inl x6)], [], σ) := by
  intro n
  induction n with
  | zero =>
    intro x1 x2 x4 x5 x6 σ o5 σ' h hK
    cases h
  | succ n IH =>
    intro x1 x2 x4 x5 x6 σ o5 σ' h hK
    rw [L_X12_findSigns_243_s] at h
    refine m_blk C0 (pX12_ok rfl) kX12_findSigns_ok 148 3 (249, [some (.inr (.inr (71, 0))), some (.inl x1), some (.inl x2), none, some (.inl x4), some (.inl x5), some (.inl x6)], [.inl (σ 71 0 6), .inl x6], σ) (Ps := []) rfl trivial ?_
    refine b_ige C0 kX12_findSigns_ok 151 (off := 46) (tgt := 295) rfl (by decide) (fun hb1136 => ?_) (fun hb1136 => ?_)
    · replace h := g_pos hb1136 h
      cases h
      refine m_mask [true, true, true, false, true, true, false] (ls' := [some (.inr (.inr (71, 0))), some (.inl x1), some (.inl x2), none, some (.inl x4), some (.inl x5), none]) rfl ?_
      exact hK
    · replace h := g_neg hb1136 h
      refine m_blk C0 (pX12_ok rfl) kX12_findSigns_ok 152 1 (254, [some (.inr (.inr (71, 0))), some (.inl x1), some (.inl x2), none, some (.inl x4), some (.inl x5), some (.inl x6)], [.inl x5], σ) (Ps := []) rfl trivial ?_
      refine b_eq C0 kX12_findSigns_ok 153 (off := 32) (tgt := 286) rfl (by decide) (fun hb1135 => ?_) (fun hb1135 => ?_)
      · replace h := g_pos hb1135 h
        refine m_blk C0 (pX12_ok rfl) kX12_findSigns_ok 171 4 (243, [some (.inr (.inr (71, 0))), some (.inl x1), some (.inl x2), none, some (.inl x4), some (.inl 0), some (.inl (mw (x6 + 1)))], [], σ) (Ps := []) rfl trivial ?_
        refine m_mask [true, true, true, false, true, true, true] (ls' := [some (.inr (.inr (71, 0))), some (.inl x1), some (.inl x2), none, some (.inl x4), some (.inl 0), some (.inl (mw (x6 + 1)))]) rfl ?_
        exact IH _ _ _ _ _ _ _ _ h hK
      · replace h := g_neg hb1135 h
        obtain ⟨hc, h⟩ := g_if h
        refine m_blk C0 (pX12_ok rfl) kX12_findSigns_ok 154 14 (279, [some (.inr (.inr (71, 0))), some (.inl x1), some (.inl x2), none, some (.inl x4), some (.inl x5), some (.inl x6)], [.inl (σ 79 0 ((mw (x2 + x6)).toNat)), .inl (σ 79 0 ((mw ((mw ((48 : Int) * x4)) + x6)).toNat))], σ) (Ps := [0 ≤ (mw ((mw ((48 : Int) * x4)) + x6)) ∧ (mw ((mw ((48 : Int) * x4)) + x6)) < 768, 0 ≤ (mw (x2 + x6)) ∧ (mw (x2 + x6)) < 768]) rfl (And.intro hc.1 (And.intro hc.2 trivial)) ?_
        refine b_ine C0 kX12_findSigns_ok 168 (off := 7) (tgt := 286) rfl (by decide) (fun hb1134 => ?_) (fun hb1134 => ?_)
        · replace h := g_neg hb1134 h
          refine m_blk C0 (pX12_ok rfl) kX12_findSigns_ok 171 4 (243, [some (.inr (.inr (71, 0))), some (.inl x1), some (.inl x2), none, some (.inl x4), some (.inl 0), some (.inl (mw (x6 + 1)))], [], σ) (Ps := []) rfl trivial ?_
          refine m_mask [true, true, true, false, true, true, true] (ls' := [some (.inr (.inr (71, 0))), some (.inl x1), some (.inl x2), none, some (.inl x4), some (.inl 0), some (.inl (mw (x6 + 1)))]) rfl ?_
          exact IH _ _ _ _ _ _ _ _ h hK
        · replace h := g_pos hb1134 h
          refine m_blk C0 (pX12_ok rfl) kX12_findSigns_ok 169 2 (287, [some (.inr (.inr (71, 0))), some (.inl x1), some (.inl x2), none, some (.inl x4), some (.inl x5), some (.inl x6)], [.inl 1], σ) (Ps := []) rfl trivial ?_
          refine m_blk C0 (pX12_ok rfl) kX12_findSigns_ok 172 3 (243, [some (.inr (.inr (71, 0))), some (.inl x1), some (.inl x2), none, some (.inl x4), some (.inl 1), some (.inl (mw (x6 + 1)))], [], σ) (Ps := []) rfl trivial ?_
          refine m_mask [true, true, true, false, true, true, true] (ls' := [some (.inr (.inr (71, 0))), some (.inl x1), some (.inl x2), none, some (.inl x4), some (.inl 1), some (.inl (mw (x6 + 1)))]) rfl ?_
          exact IH _ _ _ _ _ _ _ _ h hK
set_option maxRecDepth 100000 in
set_option maxHeartbeats 4000000 in
theorem p_X12_findSigns_224 {e : mEv} (hG : mGeo (mw0 e) lw_kept) (N : Nat) {f : mFx} (C0 : mCx f (mw0 e) sc0 cX12_findSigns 7 RX12 lw_kept) (hFr : mFr f 3) : ∀ (n : Nat) (x1 : Int) (x2 : Int) (x3 : Int) (x4 : Int) (σ : mS) (o3 : Int) (σ' : mS), L_X12_findSigns_224 N n x1 x2 x3 x4 σ = some (o3, σ') → mWW f (mw0 e) sc0 7 (312, [some (.inr (.inr (71, 0))), some (.inl x1), none, some (.inl o3), none, none, none], [], σ') → mWW f (mw0 e) sc0 7 (224, [some (.inr (.inr (71, 0))), some (.inl x1), some (.inl x2), some (.inl x3), some (.inl x4), none, none], [], σ) := by
  intro n
  induction n with
  | zero =>
    intro x1 x2 x3 x4 σ o3 σ' h hK
    cases h
  | succ n IH =>
    intro x1 x2 x3 x4 σ o3 σ' h hK
    rw [L_X12_findSigns_224_s] at h
    refine m_blk C0 (pX12_ok rfl) kX12_findSigns_ok 138 3 (230, [some (.inr (.inr (71, 0))), some (.inl x1), some (.inl x2), some (.inl x3), some (.inl x4), none, none], [.inl (σ 71 0 11), .inl x4], σ) (Ps := []) rfl trivial ?_
    refine b_ige C0 kX12_findSigns_ok 141 (off := 82) (tgt := 312) rfl (by decide) (fun hb1142 => ?_) (fun hb1142 => ?_)
    · replace h := g_pos hb1142 h
      cases h
      refine m_mask [true, true, false, true, false, false, false] (ls' := [some (.inr (.inr (71, 0))), some (.inl x1), none, some (.inl x3), none, none, none]) rfl ?_
      exact hK
    · replace h := g_neg hb1142 h
      refine m_blk C0 (pX12_ok rfl) kX12_findSigns_ok 142 1 (234, [some (.inr (.inr (71, 0))), some (.inl x1), some (.inl x2), some (.inl x3), some (.inl x4), none, none], [.inl x3], σ) (Ps := []) rfl trivial ?_
      refine b_eq C0 kX12_findSigns_ok 143 (off := 78) (tgt := 312) rfl (by decide) (fun hb1141 => ?_) (fun hb1141 => ?_)
      · replace h := g_pos hb1141 h
        cases h
        refine m_mask [true, true, false, true, false, false, false] (ls' := [some (.inr (.inr (71, 0))), some (.inl x1), none, some (.inl x3), none, none, none]) rfl ?_
        exact hK
      · replace h := g_neg hb1141 h
        refine m_blk C0 (pX12_ok rfl) kX12_findSigns_ok 144 4 (243, [some (.inr (.inr (71, 0))), some (.inl x1), some (.inl x2), some (.inl x3), some (.inl x4), some (.inl 1), some (.inl 0)], [], σ) (Ps := []) rfl trivial ?_
        obtain ⟨⟨o1138, s1137⟩, hq1140, h⟩ := g_bind h
        refine m_mask [true, true, true, false, true, true, true] (ls' := [some (.inr (.inr (71, 0))), some (.inl x1), some (.inl x2), none, some (.inl x4), some (.inl 1), some (.inl 0)]) rfl ?_
        refine p_X12_findSigns_243 hG N C0 hFr N _ _ _ _ _ _ _ _ hq1140 ?_
        refine m_blk C0 (pX12_ok rfl) kX12_findSigns_ok 175 1 (297, [some (.inr (.inr (71, 0))), some (.inl x1), some (.inl x2), none, some (.inl x4), some (.inl o1138), none], [.inl o1138], s1137) (Ps := []) rfl trivial ?_
        refine b_ne C0 kX12_findSigns_ok 176 (off := 7) (tgt := 304) rfl (by decide) (fun hb1139 => ?_) (fun hb1139 => ?_)
        · replace h := g_neg hb1139 h
          refine m_blk C0 (pX12_ok rfl) kX12_findSigns_ok 179 4 (224, [some (.inr (.inr (71, 0))), some (.inl x1), some (.inl x2), some (.inl 0), some (.inl (mw (x4 + 1))), some (.inl o1138), none], [], s1137) (Ps := []) rfl trivial ?_
          refine m_mask [true, true, true, true, true, false, false] (ls' := [some (.inr (.inr (71, 0))), some (.inl x1), some (.inl x2), some (.inl 0), some (.inl (mw (x4 + 1))), none, none]) rfl ?_
          exact IH _ _ _ _ _ _ _ h hK
        · replace h := g_pos hb1139 h
          refine m_blk C0 (pX12_ok rfl) kX12_findSigns_ok 177 2 (305, [some (.inr (.inr (71, 0))), some (.inl x1), some (.inl x2), none, some (.inl x4), some (.inl o1138), none], [.inl 1], s1137) (Ps := []) rfl trivial ?_
          refine m_blk C0 (pX12_ok rfl) kX12_findSigns_ok 180 3 (224, [some (.inr (.inr (71, 0))), some (.inl x1), some (.inl x2), some (.inl 1), some (.inl (mw (x4 + 1))), some (.inl o1138), none], [], s1137) (Ps := []) rfl trivial ?_
          refine m_mask [true, true, true, true, true, false, false] (ls' := [some (.inr (.inr (71, 0))), some (.inl x1), some (.inl x2), some (.inl 1), some (.inl (mw (x4 + 1))), none, none]) rfl ?_
          exact IH _ _ _ _ _ _ _ h hK
set_option maxRecDepth 100000 in
set_option maxHeartbeats 4000000 in
theorem p_X12_findSigns_7 {e : mEv} (hG : mGeo (mw0 e) lw_kept) (N : Nat) {f : mFx} (C0 : mCx f (mw0 e) sc0 cX12_findSigns 7 RX12 lw_kept) (hFr : mFr f 3) : ∀ (n : Nat) (x1 : Int) (σ : mS) (σ' : mS), L_X12_findSigns_7 N n x1 σ = some σ' → mWW f (mw0 e) sc0 7 (326, [none, none, none, none, none, none, none], [], σ') → mWW f (mw0 e) sc0 7 (7, [some (.inr (.inr (71, 0))), some (.inl x1), none, none, none, none, none], [], σ) := by
  intro n
  induction n with
  | zero =>
    intro x1 σ σ' h hK
    cases h
  | succ n IH =>
    intro x1 σ σ' h hK
    rw [L_X12_findSigns_7_s] at h
    refine m_blk C0 (pX12_ok rfl) kX12_findSigns_ok 5 5 (14, [some (.inr (.inr (71, 0))), some (.inl x1), none, none, none, none, none], [.inl (o_shl 1 (σ 71 0 7)), .inl x1], σ) (Ps := []) rfl trivial ?_
    refine b_ige C0 kX12_findSigns_ok 10 (off := 312) (tgt := 326) rfl (by decide) (fun hb1168 => ?_) (fun hb1168 => ?_)
    · replace h := g_pos hb1168 h
      cases h
      refine m_mask [false, false, false, false, false, false, false] (ls' := [none, none, none, none, none, none, none]) rfl ?_
      exact hK
    · replace h := g_neg hb1168 h
      obtain ⟨hc, h⟩ := g_if h
      refine m_blk C0 (pX12_ok rfl) kX12_findSigns_ok 11 10 (32, [some (.inr (.inr (71, 0))), some (.inl x1), some (.inl (mw ((48 : Int) * (σ 71 0 11)))), none, none, none, none], [], (mup σ 79 0 ((mw ((48 : Int) * (σ 71 0 11))).toNat) 1)) (Ps := [0 ≤ (mw ((48 : Int) * (σ 71 0 11))) ∧ (mw ((48 : Int) * (σ 71 0 11))) < 768]) rfl (And.intro hc trivial) ?_
      refine m_blk C0 (pX12_ok rfl) kX12_findSigns_ok 21 2 (34, [some (.inr (.inr (71, 0))), some (.inl x1), some (.inl (mw ((48 : Int) * (σ 71 0 11)))), some (.inl 1), none, none, none], [], (mup σ 79 0 ((mw ((48 : Int) * (σ 71 0 11))).toNat) 1)) (Ps := []) rfl trivial ?_
      obtain ⟨s1115, hq1167, h⟩ := g_bind h
      refine m_mask [true, true, true, true, false, false, false] (ls' := [some (.inr (.inr (71, 0))), some (.inl x1), some (.inl (mw ((48 : Int) * (σ 71 0 11)))), some (.inl 1), none, none, none]) rfl ?_
      refine p_X12_findSigns_34 hG N C0 hFr N _ _ _ _ _ hq1167 ?_
      refine m_blk C0 (pX12_ok rfl) kX12_findSigns_ok 58 4 (94, [some (.inr (.inr (71, 0))), some (.inl x1), some (.inl (mw ((48 : Int) * (σ 71 0 11)))), some (.inl 1), some (.inl 0), none, none], [], s1115) (Ps := []) rfl trivial ?_
      obtain ⟨⟨o1133, s1132⟩, hq1166, h⟩ := g_bind h
      refine m_mask [true, true, true, true, true, false, false] (ls' := [some (.inr (.inr (71, 0))), some (.inl x1), some (.inl (mw ((48 : Int) * (σ 71 0 11)))), some (.inl 1), some (.inl 0), none, none]) rfl ?_
      refine p_X12_findSigns_94 hG N C0 hFr N _ _ _ _ _ _ _ hq1166 ?_
      refine m_blk C0 (pX12_ok rfl) kX12_findSigns_ok 136 2 (224, [some (.inr (.inr (71, 0))), some (.inl x1), some (.inl (mw ((48 : Int) * (σ 71 0 11)))), some (.inl o1133), some (.inl 0), none, none], [], s1132) (Ps := []) rfl trivial ?_
      obtain ⟨⟨o1144, s1143⟩, hq1165, h⟩ := g_bind h
      refine m_mask [true, true, true, true, true, false, false] (ls' := [some (.inr (.inr (71, 0))), some (.inl x1), some (.inl (mw ((48 : Int) * (σ 71 0 11)))), some (.inl o1133), some (.inl 0), none, none]) rfl ?_
      refine p_X12_findSigns_224 hG N C0 hFr N _ _ _ _ _ _ _ hq1165 ?_
      refine m_blk C0 (pX12_ok rfl) kX12_findSigns_ok 183 1 (313, [some (.inr (.inr (71, 0))), some (.inl x1), none, some (.inl o1144), none, none, none], [.inl o1144], s1143) (Ps := []) rfl trivial ?_
      refine b_eq C0 kX12_findSigns_ok 184 (off := 7) (tgt := 320) rfl (by decide) (fun hb1164 => ?_) (fun hb1164 => ?_)
      · replace h := g_pos hb1164 h
        refine m_blk C0 (pX12_ok rfl) kX12_findSigns_ok 187 2 (7, [some (.inr (.inr (71, 0))), some (.inl (mw (x1 + 1))), none, some (.inl o1144), none, none, none], [], s1143) (Ps := []) rfl trivial ?_
        refine m_mask [true, true, false, false, false, false, false] (ls' := [some (.inr (.inr (71, 0))), some (.inl (mw (x1 + 1))), none, none, none, none, none]) rfl ?_
        exact IH _ _ _ h hK
      · replace h := g_neg hb1164 h
        refine m_blk C0 (pX12_ok rfl) kX12_findSigns_ok 185 1 (317, [some (.inr (.inr (71, 0))), some (.inl x1), none, some (.inl o1144), none, none, none], [.inr (.inr (71, 0))], s1143) (Ps := []) rfl trivial ?_
        obtain ⟨s1162, hq1163, h⟩ := g_bind h
        refine c_V (rest := []) C0 hFr (t_X12_place hG f.2.1 N hq1163) lk_X12_147 (k_at kX12_findSigns_ok 186 rfl) rfl rfl rfl rfl ⟨_, _, rfl⟩ (by decide) (by decide) (Nat.le_of_ble_eq_true rfl) ?_
        refine m_blk C0 (pX12_ok rfl) kX12_findSigns_ok 187 2 (7, [some (.inr (.inr (71, 0))), some (.inl (mw (x1 + 1))), none, some (.inl o1144), none, none, none], [], s1162) (Ps := []) rfl trivial ?_
        refine m_mask [true, true, false, false, false, false, false] (ls' := [some (.inr (.inr (71, 0))), some (.inl (mw (x1 + 1))), none, none, none, none, none]) rfl ?_
        exact IH _ _ _ h hK
set_option maxRecDepth 100000 in
set_option maxHeartbeats 4000000 in
theorem t_X12_findSigns {e : mEv} (hG : mGeo (mw0 e) lw_kept) (l : Launch) (N : Nat) {σ σ' : mS} (h : f_X12_findSigns N σ = some σ') : mMet l (mw0 e) lw_kept 3 yX12_findSigns cX12_findSigns 7 none [.inr (.inr (71, 0))] σ none σ' := by
  refine mMet_intro (plainFor_of_name (by decide)) hG (Nat.le_of_ble_eq_true rfl) (fun f hl hR C0 hFin => ?_)
  subst hl
  have hFr := mFr_of hR hFin
  unfold f_X12_findSigns at h
  show mWW f (mw0 e) sc0 7 (0, [some (.inr (.inr (71, 0))), none, none, none, none, none, none], [], σ)
  refine m_blk C0 (pX12_ok rfl) kX12_findSigns_ok 0 3 (5, [some (.inr (.inr (71, 0))), none, none, none, none, none, none], [], (mup σ 71 0 11 0)) (Ps := []) rfl trivial ?_
  refine m_blk C0 (pX12_ok rfl) kX12_findSigns_ok 3 2 (7, [some (.inr (.inr (71, 0))), some (.inl 0), none, none, none, none, none], [], (mup σ 71 0 11 0)) (Ps := []) rfl trivial ?_
  obtain ⟨s1169, hq1170, h⟩ := g_bind h
  refine m_mask [true, true, false, false, false, false, false] (ls' := [some (.inr (.inr (71, 0))), some (.inl 0), none, none, none, none, none]) rfl ?_
  refine p_X12_findSigns_7 hG N C0 hFr N _ _ _ hq1170 ?_
  cases h
  exact m_vret C0 hFin (k_at kX12_findSigns_ok 189 rfl)
