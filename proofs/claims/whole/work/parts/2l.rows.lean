set_option maxRecDepth 100000 in
set_option maxHeartbeats 4000000 in
theorem p_X12_plainOf_12 {e : mEv} (hG : mGeo (mw0 e) lw_kept) (N : Nat) {f : mFx} (C0 : mCx f (mw0 e) sc0 cX12_plainOf 3 RX12 lw_kept) (hFr : mFr f 12) : ∀ (n : Nat) (x2 : Int) (σ : mS) (σ' : mS), L_X12_plainOf_12 N n x2 σ = some σ' → mWW f (mw0 e) sc0 3 (47, [none, none, none], [], σ') → mWW f (mw0 e) sc0 3 (12, [some (.inr (.inr (71, 0))), none, some (.inl x2)], [], σ) := by
  intro n
  induction n with
  | zero =>
    intro x2 σ σ' h hK
    cases h
  | succ n IH =>
    intro x2 σ σ' h hK
    rw [L_X12_plainOf_12_s] at h
    refine m_blk C0 (pX12_ok rfl) kX12_plainOf_ok 8 3 (17, [some (.inr (.inr (71, 0))), none, some (.inl x2)], [.inl (σ 71 0 26), .inl x2], σ) (Ps := []) rfl trivial ?_
    refine b_ige C0 kX12_plainOf_ok 11 (off := 30) (tgt := 47) rfl (by decide) (fun hb1286 => ?_) (fun hb1286 => ?_)
    · replace h := g_pos hb1286 h
      cases h
      refine m_mask [false, false, false] (ls' := [none, none, none]) rfl ?_
      exact hK
    · replace h := g_neg hb1286 h
      refine m_blk C0 (pX12_ok rfl) kX12_plainOf_ok 12 2 (22, [some (.inr (.inr (71, 0))), none, some (.inl x2)], [.inl x2, .inr (.inr (71, 0))], σ) (Ps := []) rfl trivial ?_
      obtain ⟨s1220, hq1285, h⟩ := g_bind h
      refine c_V (rest := []) C0 hFr (t_X12_works hG f.2.1 N hq1285) lk_X12_265 (k_at kX12_plainOf_ok 14 rfl) rfl rfl rfl rfl ⟨_, _, rfl⟩ (by decide) (by decide) (Nat.le_of_ble_eq_true rfl) ?_
      refine m_blk C0 (pX12_ok rfl) kX12_plainOf_ok 15 1 (26, [some (.inr (.inr (71, 0))), none, some (.inl x2)], [.inr (.inr (71, 0))], s1220) (Ps := []) rfl trivial ?_
      obtain ⟨s1224, hq1284, h⟩ := g_bind h
      refine c_V (rest := []) C0 hFr (t_X12_handOther hG f.2.1 N hq1284) lk_X12_268 (k_at kX12_plainOf_ok 16 rfl) rfl rfl rfl rfl ⟨_, _, rfl⟩ (by decide) (by decide) (Nat.le_of_ble_eq_true rfl) ?_
      refine m_blk C0 (pX12_ok rfl) kX12_plainOf_ok 17 1 (30, [some (.inr (.inr (71, 0))), none, some (.inl x2)], [.inr (.inr (71, 0))], s1224) (Ps := []) rfl trivial ?_
      obtain ⟨⟨v1251, s1250⟩, hq1283, h⟩ := g_bind h
      refine c_V (rest := []) C0 hFr (t_X12_lessens hG f.2.1 N hq1283) lk_X12_271 (k_at kX12_plainOf_ok 18 rfl) rfl rfl rfl rfl ⟨_, _, rfl⟩ (by decide) (by decide) (Nat.le_of_ble_eq_true rfl) ?_
      refine b_ne C0 kX12_plainOf_ok 19 (off := 8) (tgt := 41) rfl (by decide) (fun hb1282 => ?_) (fun hb1282 => ?_)
      · replace h := g_neg hb1282 h
        refine m_blk C0 (pX12_ok rfl) kX12_plainOf_ok 23 2 (12, [some (.inr (.inr (71, 0))), none, some (.inl (mw (x2 + 1)))], [], s1250) (Ps := []) rfl trivial ?_
        refine m_mask [true, false, true] (ls' := [some (.inr (.inr (71, 0))), none, some (.inl (mw (x2 + 1)))]) rfl ?_
        exact IH _ _ _ h hK
      · replace h := g_pos hb1282 h
        refine m_blk C0 (pX12_ok rfl) kX12_plainOf_ok 20 2 (38, [some (.inr (.inr (71, 0))), none, some (.inl x2)], [.inl x2, .inr (.inr (71, 0))], s1250) (Ps := []) rfl trivial ?_
        obtain ⟨s1280, hq1281, h⟩ := g_bind h
        refine c_V (rest := []) C0 hFr (t_X12_keeps hG f.2.1 N hq1281) lk_X12_274 (k_at kX12_plainOf_ok 22 rfl) rfl rfl rfl rfl ⟨_, _, rfl⟩ (by decide) (by decide) (Nat.le_of_ble_eq_true rfl) ?_
        refine m_blk C0 (pX12_ok rfl) kX12_plainOf_ok 23 2 (12, [some (.inr (.inr (71, 0))), none, some (.inl (mw (x2 + 1)))], [], s1280) (Ps := []) rfl trivial ?_
        refine m_mask [true, false, true] (ls' := [some (.inr (.inr (71, 0))), none, some (.inl (mw (x2 + 1)))]) rfl ?_
        exact IH _ _ _ h hK
set_option maxRecDepth 100000 in
set_option maxHeartbeats 4000000 in
theorem t_X12_plainOf {e : mEv} (hG : mGeo (mw0 e) lw_kept) (l : Launch) (N : Nat) {a1 : Int} {σ σ' : mS} (h : f_X12_plainOf N a1 σ = some σ') : mMet l (mw0 e) lw_kept 12 yX12_plainOf cX12_plainOf 3 none [.inr (.inr (71, 0)), .inl a1] σ none σ' := by
  refine mMet_intro (plainFor_of_name (by decide)) hG (Nat.le_of_ble_eq_true rfl) (fun f hl hR C0 hFin => ?_)
  subst hl
  have hFr := mFr_of hR hFin
  unfold f_X12_plainOf at h
  show mWW f (mw0 e) sc0 3 (0, [some (.inr (.inr (71, 0))), some (.inl a1), none], [], σ)
  refine m_blk C0 (pX12_ok rfl) kX12_plainOf_ok 0 2 (2, [some (.inr (.inr (71, 0))), some (.inl a1), none], [.inl a1, .inr (.inr (71, 0))], σ) (Ps := []) rfl trivial ?_
  obtain ⟨s1187, hq1289, h⟩ := g_bind h
  refine c_V (rest := []) C0 hFr (t_X12_list hG f.2.1 N hq1289) lk_X12_262 (k_at kX12_plainOf_ok 2 rfl) rfl rfl rfl rfl ⟨_, _, rfl⟩ (by decide) (by decide) (Nat.le_of_ble_eq_true rfl) ?_
  refine m_blk C0 (pX12_ok rfl) kX12_plainOf_ok 3 3 (10, [some (.inr (.inr (71, 0))), some (.inl a1), none], [], (mup s1187 71 0 27 0)) (Ps := []) rfl trivial ?_
  refine m_blk C0 (pX12_ok rfl) kX12_plainOf_ok 6 2 (12, [some (.inr (.inr (71, 0))), some (.inl a1), some (.inl 0)], [], (mup s1187 71 0 27 0)) (Ps := []) rfl trivial ?_
  obtain ⟨s1287, hq1288, h⟩ := g_bind h
  refine m_mask [true, false, true] (ls' := [some (.inr (.inr (71, 0))), none, some (.inl 0)]) rfl ?_
  refine p_X12_plainOf_12 hG N C0 hFr N _ _ _ hq1288 ?_
  cases h
  exact m_vret C0 hFin (k_at kX12_plainOf_ok 25 rfl)
set_option maxRecDepth 100000 in
set_option maxHeartbeats 4000000 in
theorem p_X12_turns_23 {e : mEv} (hG : mGeo (mw0 e) lw_kept) (N : Nat) {f : mFx} (C0 : mCx f (mw0 e) sc0 cX12_turns 8 RX12 lw_kept) (hFr : mFr f 1) : ∀ (n : Nat) (x1 : Int) (x2 : Int) (x3 : Int) (x4 : Int) (x5 : Int) (σ : mS) (σ' : mS), L_X12_turns_23 N n x1 x2 x3 x4 x5 σ = some σ' → mWW f (mw0 e) sc0 8 (135, [none, none, none, none, none, none, none, none], [], σ') → mWW f (mw0 e) sc0 8 (23, [some (.inr (.inr (71, 0))), some (.inl x1), some (.inl x2), some (.inl x3), some (.inl x4), some (.inl x5), none, none], [], σ) := by
  intro n
  induction n with
  | zero =>
    intro x1 x2 x3 x4 x5 σ σ' h hK
    cases h
  | succ n IH =>
    intro x1 x2 x3 x4 x5 σ σ' h hK
    rw [L_X12_turns_23_s] at h
    refine m_blk C0 (pX12_ok rfl) kX12_turns_ok 14 2 (26, [some (.inr (.inr (71, 0))), some (.inl x1), some (.inl x2), some (.inl x3), some (.inl x4), some (.inl x5), none, none], [.inl 3, .inl x5], σ) (Ps := []) rfl trivial ?_
    refine b_ige C0 kX12_turns_ok 16 (off := 109) (tgt := 135) rfl (by decide) (fun hb1338 => ?_) (fun hb1338 => ?_)
    · replace h := g_pos hb1338 h
      cases h
      refine m_mask [false, false, false, false, false, false, false, false] (ls' := [none, none, none, none, none, none, none, none]) rfl ?_
      exact hK
    · replace h := g_neg hb1338 h
      refine m_blk C0 (pX12_ok rfl) kX12_turns_ok 17 1 (31, [some (.inr (.inr (71, 0))), some (.inl x1), some (.inl x2), some (.inl x3), some (.inl x4), some (.inl x5), none, none], [.inl x5], σ) (Ps := []) rfl trivial ?_
      refine b_ne C0 kX12_turns_ok 18 (off := 7) (tgt := 38) rfl (by decide) (fun hb1337 => ?_) (fun hb1337 => ?_)
      · replace h := g_neg hb1337 h
        refine m_blk C0 (pX12_ok rfl) kX12_turns_ok 21 2 (41, [some (.inr (.inr (71, 0))), some (.inl x1), some (.inl x2), some (.inl x3), some (.inl x4), some (.inl x5), none, none], [.inl 1, .inl x5], σ) (Ps := []) rfl trivial ?_
        refine b_ine C0 kX12_turns_ok 23 (off := 7) (tgt := 48) rfl (by decide) (fun hb1322 => ?_) (fun hb1322 => ?_)
        · replace h := g_neg hb1322 h
          obtain ⟨hc, h⟩ := g_if h
          refine m_blk C0 (pX12_ok rfl) kX12_turns_ok 26 12 (67, [some (.inr (.inr (71, 0))), some (.inl x1), some (.inl x2), some (.inl x3), some (.inl x4), some (.inl x5), some (.inl x4), some (.inl (σ 74 0 ((mw ((mw ((3 : Int) * x1)) + x5)).toNat)))], [.inl (σ 74 0 ((mw ((mw ((3 : Int) * x1)) + x5)).toNat))], σ) (Ps := [0 ≤ (mw ((mw ((3 : Int) * x1)) + x5)) ∧ (mw ((mw ((3 : Int) * x1)) + x5)) < 144]) rfl (And.intro hc trivial) ?_
          obtain ⟨⟨v1295, s1294⟩, hq1307, h⟩ := g_bind h
          refine c_S (rest := []) C0 hFr (t_X12_size hG f.2.1 N hq1307) lk_X12_106 (k_at kX12_turns_ok 38 rfl) rfl rfl rfl (by decide) (by decide) (Nat.le_of_ble_eq_true rfl) ?_
          refine m_blk C0 (pX12_ok rfl) kX12_turns_ok 39 1 (71, [some (.inr (.inr (71, 0))), some (.inl x1), some (.inl x2), some (.inl x3), some (.inl x4), some (.inl x5), some (.inl x4), some (.inl (σ 74 0 ((mw ((mw ((3 : Int) * x1)) + x5)).toNat)))], [.inl 1, .inl v1295], s1294) (Ps := []) rfl trivial ?_
          refine b_ine C0 kX12_turns_ok 40 (off := 12) (tgt := 83) rfl (by decide) (fun hb1306 => ?_) (fun hb1306 => ?_)
          · replace h := g_neg hb1306 h
            refine m_blk C0 (pX12_ok rfl) kX12_turns_ok 45 1 (85, [some (.inr (.inr (71, 0))), some (.inl x1), some (.inl x2), some (.inl x3), some (.inl x4), some (.inl x5), some (.inl x4), some (.inl (σ 74 0 ((mw ((mw ((3 : Int) * x1)) + x5)).toNat)))], [.inl (σ 74 0 ((mw ((mw ((3 : Int) * x1)) + x5)).toNat))], s1294) (Ps := []) rfl trivial ?_
            obtain ⟨⟨v1297, s1296⟩, hq1303, h⟩ := g_bind h
            refine c_S (rest := []) C0 hFr (t_X12_size hG f.2.1 N hq1303) lk_X12_106 (k_at kX12_turns_ok 46 rfl) rfl rfl rfl (by decide) (by decide) (Nat.le_of_ble_eq_true rfl) ?_
            refine m_blk C0 (pX12_ok rfl) kX12_turns_ok 47 1 (89, [some (.inr (.inr (71, 0))), some (.inl x1), some (.inl x2), some (.inl x3), some (.inl x4), some (.inl x5), some (.inl x4), some (.inl (σ 74 0 ((mw ((mw ((3 : Int) * x1)) + x5)).toNat)))], [.inl 2, .inl v1297], s1296) (Ps := []) rfl trivial ?_
            refine b_ine C0 kX12_turns_ok 48 (off := 12) (tgt := 101) rfl (by decide) (fun hb1302 => ?_) (fun hb1302 => ?_)
            · replace h := g_neg hb1302 h
              refine m_blk C0 (pX12_ok rfl) kX12_turns_ok 53 3 (107, [some (.inr (.inr (71, 0))), some (.inl x1), some (.inl x2), some (.inl x3), some (.inl x4), some (.inl x5), some (.inl x4), some (.inl (σ 74 0 ((mw ((mw ((3 : Int) * x1)) + x5)).toNat)))], [], (mup s1296 71 0 16 x4)) (Ps := []) rfl trivial ?_
              refine m_blk C0 (pX12_ok rfl) kX12_turns_ok 56 1 (109, [some (.inr (.inr (71, 0))), some (.inl x1), some (.inl x2), some (.inl x3), some (.inl x4), some (.inl x5), some (.inl x4), some (.inl (σ 74 0 ((mw ((mw ((3 : Int) * x1)) + x5)).toNat)))], [.inl (σ 74 0 ((mw ((mw ((3 : Int) * x1)) + x5)).toNat))], (mup s1296 71 0 16 x4)) (Ps := []) rfl trivial ?_
              refine b_ge C0 kX12_turns_ok 57 (off := 20) (tgt := 129) rfl (by decide) (fun hb1299 => ?_) (fun hb1299 => ?_)
              · replace h := g_pos hb1299 h
                refine m_blk C0 (pX12_ok rfl) kX12_turns_ok 68 2 (23, [some (.inr (.inr (71, 0))), some (.inl x1), some (.inl x2), some (.inl x3), some (.inl x4), some (.inl (mw (x5 + 1))), some (.inl x4), some (.inl (σ 74 0 ((mw ((mw ((3 : Int) * x1)) + x5)).toNat)))], [], (mup s1296 71 0 16 x4)) (Ps := []) rfl trivial ?_
                refine m_mask [true, true, true, true, true, true, false, false] (ls' := [some (.inr (.inr (71, 0))), some (.inl x1), some (.inl x2), some (.inl x3), some (.inl x4), some (.inl (mw (x5 + 1))), none, none]) rfl ?_
                exact IH _ _ _ _ _ _ _ h hK
              · replace h := g_neg hb1299 h
                refine m_blk C0 (pX12_ok rfl) kX12_turns_ok 58 4 (117, [some (.inr (.inr (71, 0))), some (.inl x1), some (.inl x2), some (.inl x3), some (.inl x4), some (.inl x5), some (.inl x4), some (.inl (σ 74 0 ((mw ((mw ((3 : Int) * x1)) + x5)).toNat)))], [.inl 1, .inl (o_rem x4 2)], (mup s1296 71 0 16 x4)) (Ps := [¬ (2 : Int) = 0]) rfl (And.intro (by decide) trivial) ?_
                refine b_ine C0 kX12_turns_ok 62 (off := 12) (tgt := 129) rfl (by decide) (fun hb1298 => ?_) (fun hb1298 => ?_)
                · replace h := g_neg hb1298 h
                  refine m_blk C0 (pX12_ok rfl) kX12_turns_ok 68 2 (23, [some (.inr (.inr (71, 0))), some (.inl x1), some (.inl x2), some (.inl x3), some (.inl x4), some (.inl (mw (x5 + 1))), some (.inl x4), some (.inl (σ 74 0 ((mw ((mw ((3 : Int) * x1)) + x5)).toNat)))], [], (mup s1296 71 0 16 x4)) (Ps := []) rfl trivial ?_
                  refine m_mask [true, true, true, true, true, true, false, false] (ls' := [some (.inr (.inr (71, 0))), some (.inl x1), some (.inl x2), some (.inl x3), some (.inl x4), some (.inl (mw (x5 + 1))), none, none]) rfl ?_
                  exact IH _ _ _ _ _ _ _ h hK
                · replace h := g_pos hb1298 h
                  refine m_blk C0 (pX12_ok rfl) kX12_turns_ok 63 5 (129, [some (.inr (.inr (71, 0))), some (.inl x1), some (.inl x2), some (.inl x3), some (.inl x4), some (.inl x5), some (.inl x4), some (.inl (σ 74 0 ((mw ((mw ((3 : Int) * x1)) + x5)).toNat)))], [], (mup (mup s1296 71 0 16 x4) 71 0 17 (mw (-(s1296 71 0 17))))) (Ps := []) rfl trivial ?_
                  refine m_blk C0 (pX12_ok rfl) kX12_turns_ok 68 2 (23, [some (.inr (.inr (71, 0))), some (.inl x1), some (.inl x2), some (.inl x3), some (.inl x4), some (.inl (mw (x5 + 1))), some (.inl x4), some (.inl (σ 74 0 ((mw ((mw ((3 : Int) * x1)) + x5)).toNat)))], [], (mup (mup s1296 71 0 16 x4) 71 0 17 (mw (-(s1296 71 0 17))))) (Ps := []) rfl trivial ?_
                  refine m_mask [true, true, true, true, true, true, false, false] (ls' := [some (.inr (.inr (71, 0))), some (.inl x1), some (.inl x2), some (.inl x3), some (.inl x4), some (.inl (mw (x5 + 1))), none, none]) rfl ?_
                  exact IH _ _ _ _ _ _ _ h hK
            · replace h := g_pos hb1302 h
              refine m_blk C0 (pX12_ok rfl) kX12_turns_ok 49 3 (98, [some (.inr (.inr (71, 0))), some (.inl x1), some (.inl x2), some (.inl x3), some (.inl x4), some (.inl x5), some (.inl x4), some (.inl (σ 74 0 ((mw ((mw ((3 : Int) * x1)) + x5)).toNat)))], [], (mup s1296 71 0 15 x4)) (Ps := []) rfl trivial ?_
              refine m_blk C0 (pX12_ok rfl) kX12_turns_ok 52 1 (107, [some (.inr (.inr (71, 0))), some (.inl x1), some (.inl x2), some (.inl x3), some (.inl x4), some (.inl x5), some (.inl x4), some (.inl (σ 74 0 ((mw ((mw ((3 : Int) * x1)) + x5)).toNat)))], [], (mup s1296 71 0 15 x4)) (Ps := []) rfl trivial ?_
              refine m_blk C0 (pX12_ok rfl) kX12_turns_ok 56 1 (109, [some (.inr (.inr (71, 0))), some (.inl x1), some (.inl x2), some (.inl x3), some (.inl x4), some (.inl x5), some (.inl x4), some (.inl (σ 74 0 ((mw ((mw ((3 : Int) * x1)) + x5)).toNat)))], [.inl (σ 74 0 ((mw ((mw ((3 : Int) * x1)) + x5)).toNat))], (mup s1296 71 0 15 x4)) (Ps := []) rfl trivial ?_
              refine b_ge C0 kX12_turns_ok 57 (off := 20) (tgt := 129) rfl (by decide) (fun hb1301 => ?_) (fun hb1301 => ?_)
              · replace h := g_pos hb1301 h
                refine m_blk C0 (pX12_ok rfl) kX12_turns_ok 68 2 (23, [some (.inr (.inr (71, 0))), some (.inl x1), some (.inl x2), some (.inl x3), some (.inl x4), some (.inl (mw (x5 + 1))), some (.inl x4), some (.inl (σ 74 0 ((mw ((mw ((3 : Int) * x1)) + x5)).toNat)))], [], (mup s1296 71 0 15 x4)) (Ps := []) rfl trivial ?_
                refine m_mask [true, true, true, true, true, true, false, false] (ls' := [some (.inr (.inr (71, 0))), some (.inl x1), some (.inl x2), some (.inl x3), some (.inl x4), some (.inl (mw (x5 + 1))), none, none]) rfl ?_
                exact IH _ _ _ _ _ _ _ h hK
              · replace h := g_neg hb1301 h
                refine m_blk C0 (pX12_ok rfl) kX12_turns_ok 58 4 (117, [some (.inr (.inr (71, 0))), some (.inl x1), some (.inl x2), some (.inl x3), some (.inl x4), some (.inl x5), some (.inl x4), some (.inl (σ 74 0 ((mw ((mw ((3 : Int) * x1)) + x5)).toNat)))], [.inl 1, .inl (o_rem x4 2)], (mup s1296 71 0 15 x4)) (Ps := [¬ (2 : Int) = 0]) rfl (And.intro (by decide) trivial) ?_
                refine b_ine C0 kX12_turns_ok 62 (off := 12) (tgt := 129) rfl (by decide) (fun hb1300 => ?_) (fun hb1300 => ?_)
                · replace h := g_neg hb1300 h
                  refine m_blk C0 (pX12_ok rfl) kX12_turns_ok 68 2 (23, [some (.inr (.inr (71, 0))), some (.inl x1), some (.inl x2), some (.inl x3), some (.inl x4), some (.inl (mw (x5 + 1))), some (.inl x4), some (.inl (σ 74 0 ((mw ((mw ((3 : Int) * x1)) + x5)).toNat)))], [], (mup s1296 71 0 15 x4)) (Ps := []) rfl trivial ?_
                  refine m_mask [true, true, true, true, true, true, false, false] (ls' := [some (.inr (.inr (71, 0))), some (.inl x1), some (.inl x2), some (.inl x3), some (.inl x4), some (.inl (mw (x5 + 1))), none, none]) rfl ?_
                  exact IH _ _ _ _ _ _ _ h hK
                · replace h := g_pos hb1300 h
                  refine m_blk C0 (pX12_ok rfl) kX12_turns_ok 63 5 (129, [some (.inr (.inr (71, 0))), some (.inl x1), some (.inl x2), some (.inl x3), some (.inl x4), some (.inl x5), some (.inl x4), some (.inl (σ 74 0 ((mw ((mw ((3 : Int) * x1)) + x5)).toNat)))], [], (mup (mup s1296 71 0 15 x4) 71 0 17 (mw (-(s1296 71 0 17))))) (Ps := []) rfl trivial ?_
                  refine m_blk C0 (pX12_ok rfl) kX12_turns_ok 68 2 (23, [some (.inr (.inr (71, 0))), some (.inl x1), some (.inl x2), some (.inl x3), some (.inl x4), some (.inl (mw (x5 + 1))), some (.inl x4), some (.inl (σ 74 0 ((mw ((mw ((3 : Int) * x1)) + x5)).toNat)))], [], (mup (mup s1296 71 0 15 x4) 71 0 17 (mw (-(s1296 71 0 17))))) (Ps := []) rfl trivial ?_
                  refine m_mask [true, true, true, true, true, true, false, false] (ls' := [some (.inr (.inr (71, 0))), some (.inl x1), some (.inl x2), some (.inl x3), some (.inl x4), some (.inl (mw (x5 + 1))), none, none]) rfl ?_
                  exact IH _ _ _ _ _ _ _ h hK
          · replace h := g_pos hb1306 h
            refine m_blk C0 (pX12_ok rfl) kX12_turns_ok 41 3 (80, [some (.inr (.inr (71, 0))), some (.inl x1), some (.inl x2), some (.inl x3), some (.inl x4), some (.inl x5), some (.inl x4), some (.inl (σ 74 0 ((mw ((mw ((3 : Int) * x1)) + x5)).toNat)))], [], (mup s1294 71 0 14 x4)) (Ps := []) rfl trivial ?_
            refine m_blk C0 (pX12_ok rfl) kX12_turns_ok 44 1 (107, [some (.inr (.inr (71, 0))), some (.inl x1), some (.inl x2), some (.inl x3), some (.inl x4), some (.inl x5), some (.inl x4), some (.inl (σ 74 0 ((mw ((mw ((3 : Int) * x1)) + x5)).toNat)))], [], (mup s1294 71 0 14 x4)) (Ps := []) rfl trivial ?_
            refine m_blk C0 (pX12_ok rfl) kX12_turns_ok 56 1 (109, [some (.inr (.inr (71, 0))), some (.inl x1), some (.inl x2), some (.inl x3), some (.inl x4), some (.inl x5), some (.inl x4), some (.inl (σ 74 0 ((mw ((mw ((3 : Int) * x1)) + x5)).toNat)))], [.inl (σ 74 0 ((mw ((mw ((3 : Int) * x1)) + x5)).toNat))], (mup s1294 71 0 14 x4)) (Ps := []) rfl trivial ?_
            refine b_ge C0 kX12_turns_ok 57 (off := 20) (tgt := 129) rfl (by decide) (fun hb1305 => ?_) (fun hb1305 => ?_)
            · replace h := g_pos hb1305 h
              refine m_blk C0 (pX12_ok rfl) kX12_turns_ok 68 2 (23, [some (.inr (.inr (71, 0))), some (.inl x1), some (.inl x2), some (.inl x3), some (.inl x4), some (.inl (mw (x5 + 1))), some (.inl x4), some (.inl (σ 74 0 ((mw ((mw ((3 : Int) * x1)) + x5)).toNat)))], [], (mup s1294 71 0 14 x4)) (Ps := []) rfl trivial ?_
              refine m_mask [true, true, true, true, true, true, false, false] (ls' := [some (.inr (.inr (71, 0))), some (.inl x1), some (.inl x2), some (.inl x3), some (.inl x4), some (.inl (mw (x5 + 1))), none, none]) rfl ?_
              exact IH _ _ _ _ _ _ _ h hK
            · replace h := g_neg hb1305 h
              refine m_blk C0 (pX12_ok rfl) kX12_turns_ok 58 4 (117, [some (.inr (.inr (71, 0))), some (.inl x1), some (.inl x2), some (.inl x3), some (.inl x4), some (.inl x5), some (.inl x4), some (.inl (σ 74 0 ((mw ((mw ((3 : Int) * x1)) + x5)).toNat)))], [.inl 1, .inl (o_rem x4 2)], (mup s1294 71 0 14 x4)) (Ps := [¬ (2 : Int) = 0]) rfl (And.intro (by decide) trivial) ?_
              refine b_ine C0 kX12_turns_ok 62 (off := 12) (tgt := 129) rfl (by decide) (fun hb1304 => ?_) (fun hb1304 => ?_)
              · replace h := g_neg hb1304 h
                refine m_blk C0 (pX12_ok rfl) kX12_turns_ok 68 2 (23, [some (.inr (.inr (71, 0))), some (.inl x1), some (.inl x2), some (.inl x3), some (.inl x4), some (.inl (mw (x5 + 1))), some (.inl x4), some (.inl (σ 74 0 ((mw ((mw ((3 : Int) * x1)) + x5)).toNat)))], [], (mup s1294 71 0 14 x4)) (Ps := []) rfl trivial ?_
                refine m_mask [true, true, true, true, true, true, false, false] (ls' := [some (.inr (.inr (71, 0))), some (.inl x1), some (.inl x2), some (.inl x3), some (.inl x4), some (.inl (mw (x5 + 1))), none, none]) rfl ?_
                exact IH _ _ _ _ _ _ _ h hK
              · replace h := g_pos hb1304 h
                refine m_blk C0 (pX12_ok rfl) kX12_turns_ok 63 5 (129, [some (.inr (.inr (71, 0))), some (.inl x1), some (.inl x2), some (.inl x3), some (.inl x4), some (.inl x5), some (.inl x4), some (.inl (σ 74 0 ((mw ((mw ((3 : Int) * x1)) + x5)).toNat)))], [], (mup (mup s1294 71 0 14 x4) 71 0 17 (mw (-(s1294 71 0 17))))) (Ps := []) rfl trivial ?_
                refine m_blk C0 (pX12_ok rfl) kX12_turns_ok 68 2 (23, [some (.inr (.inr (71, 0))), some (.inl x1), some (.inl x2), some (.inl x3), some (.inl x4), some (.inl (mw (x5 + 1))), some (.inl x4), some (.inl (σ 74 0 ((mw ((mw ((3 : Int) * x1)) + x5)).toNat)))], [], (mup (mup s1294 71 0 14 x4) 71 0 17 (mw (-(s1294 71 0 17))))) (Ps := []) rfl trivial ?_
                refine m_mask [true, true, true, true, true, true, false, false] (ls' := [some (.inr (.inr (71, 0))), some (.inl x1), some (.inl x2), some (.inl x3), some (.inl x4), some (.inl (mw (x5 + 1))), none, none]) rfl ?_
                exact IH _ _ _ _ _ _ _ h hK
        · replace h := g_pos hb1322 h
          refine m_blk C0 (pX12_ok rfl) kX12_turns_ok 24 2 (50, [some (.inr (.inr (71, 0))), some (.inl x1), some (.inl x2), some (.inl x3), some (.inl x4), some (.inl x5), none, none], [.inl x3], σ) (Ps := []) rfl trivial ?_
          obtain ⟨hc, h⟩ := g_if h
          refine m_blk C0 (pX12_ok rfl) kX12_turns_ok 27 11 (67, [some (.inr (.inr (71, 0))), some (.inl x1), some (.inl x2), some (.inl x3), some (.inl x4), some (.inl x5), some (.inl x3), some (.inl (σ 74 0 ((mw ((mw ((3 : Int) * x1)) + x5)).toNat)))], [.inl (σ 74 0 ((mw ((mw ((3 : Int) * x1)) + x5)).toNat))], σ) (Ps := [0 ≤ (mw ((mw ((3 : Int) * x1)) + x5)) ∧ (mw ((mw ((3 : Int) * x1)) + x5)) < 144]) rfl (And.intro hc trivial) ?_
          obtain ⟨⟨v1309, s1308⟩, hq1321, h⟩ := g_bind h
          refine c_S (rest := []) C0 hFr (t_X12_size hG f.2.1 N hq1321) lk_X12_106 (k_at kX12_turns_ok 38 rfl) rfl rfl rfl (by decide) (by decide) (Nat.le_of_ble_eq_true rfl) ?_
          refine m_blk C0 (pX12_ok rfl) kX12_turns_ok 39 1 (71, [some (.inr (.inr (71, 0))), some (.inl x1), some (.inl x2), some (.inl x3), some (.inl x4), some (.inl x5), some (.inl x3), some (.inl (σ 74 0 ((mw ((mw ((3 : Int) * x1)) + x5)).toNat)))], [.inl 1, .inl v1309], s1308) (Ps := []) rfl trivial ?_
          refine b_ine C0 kX12_turns_ok 40 (off := 12) (tgt := 83) rfl (by decide) (fun hb1320 => ?_) (fun hb1320 => ?_)
          · replace h := g_neg hb1320 h
            refine m_blk C0 (pX12_ok rfl) kX12_turns_ok 45 1 (85, [some (.inr (.inr (71, 0))), some (.inl x1), some (.inl x2), some (.inl x3), some (.inl x4), some (.inl x5), some (.inl x3), some (.inl (σ 74 0 ((mw ((mw ((3 : Int) * x1)) + x5)).toNat)))], [.inl (σ 74 0 ((mw ((mw ((3 : Int) * x1)) + x5)).toNat))], s1308) (Ps := []) rfl trivial ?_
            obtain ⟨⟨v1311, s1310⟩, hq1317, h⟩ := g_bind h
            refine c_S (rest := []) C0 hFr (t_X12_size hG f.2.1 N hq1317) lk_X12_106 (k_at kX12_turns_ok 46 rfl) rfl rfl rfl (by decide) (by decide) (Nat.le_of_ble_eq_true rfl) ?_
            refine m_blk C0 (pX12_ok rfl) kX12_turns_ok 47 1 (89, [some (.inr (.inr (71, 0))), some (.inl x1), some (.inl x2), some (.inl x3), some (.inl x4), some (.inl x5), some (.inl x3), some (.inl (σ 74 0 ((mw ((mw ((3 : Int) * x1)) + x5)).toNat)))], [.inl 2, .inl v1311], s1310) (Ps := []) rfl trivial ?_
            refine b_ine C0 kX12_turns_ok 48 (off := 12) (tgt := 101) rfl (by decide) (fun hb1316 => ?_) (fun hb1316 => ?_)
            · replace h := g_neg hb1316 h
              refine m_blk C0 (pX12_ok rfl) kX12_turns_ok 53 3 (107, [some (.inr (.inr (71, 0))), some (.inl x1), some (.inl x2), some (.inl x3), some (.inl x4), some (.inl x5), some (.inl x3), some (.inl (σ 74 0 ((mw ((mw ((3 : Int) * x1)) + x5)).toNat)))], [], (mup s1310 71 0 16 x3)) (Ps := []) rfl trivial ?_
              refine m_blk C0 (pX12_ok rfl) kX12_turns_ok 56 1 (109, [some (.inr (.inr (71, 0))), some (.inl x1), some (.inl x2), some (.inl x3), some (.inl x4), some (.inl x5), some (.inl x3), some (.inl (σ 74 0 ((mw ((mw ((3 : Int) * x1)) + x5)).toNat)))], [.inl (σ 74 0 ((mw ((mw ((3 : Int) * x1)) + x5)).toNat))], (mup s1310 71 0 16 x3)) (Ps := []) rfl trivial ?_
              refine b_ge C0 kX12_turns_ok 57 (off := 20) (tgt := 129) rfl (by decide) (fun hb1313 => ?_) (fun hb1313 => ?_)
              · replace h := g_pos hb1313 h
                refine m_blk C0 (pX12_ok rfl) kX12_turns_ok 68 2 (23, [some (.inr (.inr (71, 0))), some (.inl x1), some (.inl x2), some (.inl x3), some (.inl x4), some (.inl (mw (x5 + 1))), some (.inl x3), some (.inl (σ 74 0 ((mw ((mw ((3 : Int) * x1)) + x5)).toNat)))], [], (mup s1310 71 0 16 x3)) (Ps := []) rfl trivial ?_
                refine m_mask [true, true, true, true, true, true, false, false] (ls' := [some (.inr (.inr (71, 0))), some (.inl x1), some (.inl x2), some (.inl x3), some (.inl x4), some (.inl (mw (x5 + 1))), none, none]) rfl ?_
                exact IH _ _ _ _ _ _ _ h hK
              · replace h := g_neg hb1313 h
                refine m_blk C0 (pX12_ok rfl) kX12_turns_ok 58 4 (117, [some (.inr (.inr (71, 0))), some (.inl x1), some (.inl x2), some (.inl x3), some (.inl x4), some (.inl x5), some (.inl x3), some (.inl (σ 74 0 ((mw ((mw ((3 : Int) * x1)) + x5)).toNat)))], [.inl 1, .inl (o_rem x3 2)], (mup s1310 71 0 16 x3)) (Ps := [¬ (2 : Int) = 0]) rfl (And.intro (by decide) trivial) ?_
                refine b_ine C0 kX12_turns_ok 62 (off := 12) (tgt := 129) rfl (by decide) (fun hb1312 => ?_) (fun hb1312 => ?_)
                · replace h := g_neg hb1312 h
                  refine m_blk C0 (pX12_ok rfl) kX12_turns_ok 68 2 (23, [some (.inr (.inr (71, 0))), some (.inl x1), some (.inl x2), some (.inl x3), some (.inl x4), some (.inl (mw (x5 + 1))), some (.inl x3), some (.inl (σ 74 0 ((mw ((mw ((3 : Int) * x1)) + x5)).toNat)))], [], (mup s1310 71 0 16 x3)) (Ps := []) rfl trivial ?_
                  refine m_mask [true, true, true, true, true, true, false, false] (ls' := [some (.inr (.inr (71, 0))), some (.inl x1), some (.inl x2), some (.inl x3), some (.inl x4), some (.inl (mw (x5 + 1))), none, none]) rfl ?_
                  exact IH _ _ _ _ _ _ _ h hK
                · replace h := g_pos hb1312 h
                  refine m_blk C0 (pX12_ok rfl) kX12_turns_ok 63 5 (129, [some (.inr (.inr (71, 0))), some (.inl x1), some (.inl x2), some (.inl x3), some (.inl x4), some (.inl x5), some (.inl x3), some (.inl (σ 74 0 ((mw ((mw ((3 : Int) * x1)) + x5)).toNat)))], [], (mup (mup s1310 71 0 16 x3) 71 0 17 (mw (-(s1310 71 0 17))))) (Ps := []) rfl trivial ?_
                  refine m_blk C0 (pX12_ok rfl) kX12_turns_ok 68 2 (23, [some (.inr (.inr (71, 0))), some (.inl x1), some (.inl x2), some (.inl x3), some (.inl x4), some (.inl (mw (x5 + 1))), some (.inl x3), some (.inl (σ 74 0 ((mw ((mw ((3 : Int) * x1)) + x5)).toNat)))], [], (mup (mup s1310 71 0 16 x3) 71 0 17 (mw (-(s1310 71 0 17))))) (Ps := []) rfl trivial ?_
                  refine m_mask [true, true, true, true, true, true, false, false] (ls' := [some (.inr (.inr (71, 0))), some (.inl x1), some (.inl x2), some (.inl x3), some (.inl x4), some (.inl (mw (x5 + 1))), none, none]) rfl ?_
                  exact IH _ _ _ _ _ _ _ h hK
            · replace h := g_pos hb1316 h
              refine m_blk C0 (pX12_ok rfl) kX12_turns_ok 49 3 (98, [some (.inr (.inr (71, 0))), some (.inl x1), some (.inl x2), some (.inl x3), some (.inl x4), some (.inl x5), some (.inl x3), some (.inl (σ 74 0 ((mw ((mw ((3 : Int) * x1)) + x5)).toNat)))], [], (mup s1310 71 0 15 x3)) (Ps := []) rfl trivial ?_
              refine m_blk C0 (pX12_ok rfl) kX12_turns_ok 52 1 (107, [some (.inr (.inr (71, 0))), some (.inl x1), some (.inl x2), some (.inl x3), some (.inl x4), some (.inl x5), some (.inl x3), some (.inl (σ 74 0 ((mw ((mw ((3 : Int) * x1)) + x5)).toNat)))], [], (mup s1310 71 0 15 x3)) (Ps := []) rfl trivial ?_
              refine m_blk C0 (pX12_ok rfl) kX12_turns_ok 56 1 (109, [some (.inr (.inr (71, 0))), some (.inl x1), some (.inl x2), some (.inl x3), some (.inl x4), some (.inl x5), some (.inl x3), some (.inl (σ 74 0 ((mw ((mw ((3 : Int) * x1)) + x5)).toNat)))], [.inl (σ 74 0 ((mw ((mw ((3 : Int) * x1)) + x5)).toNat))], (mup s1310 71 0 15 x3)) (Ps := []) rfl trivial ?_
              refine b_ge C0 kX12_turns_ok 57 (off := 20) (tgt := 129) rfl (by decide) (fun hb1315 => ?_) (fun hb1315 => ?_)
              · replace h := g_pos hb1315 h
                refine m_blk C0 (pX12_ok rfl) kX12_turns_ok 68 2 (23, [some (.inr (.inr (71, 0))), some (.inl x1), some (.inl x2), some (.inl x3), some (.inl x4), some (.inl (mw (x5 + 1))), some (.inl x3), some (.inl (σ 74 0 ((mw ((mw ((3 : Int) * x1)) + x5)).toNat)))], [], (mup s1310 71 0 15 x3)) (Ps := []) rfl trivial ?_
                refine m_mask [true, true, true, true, true, true, false, false] (ls' := [some (.inr (.inr (71, 0))), some (.inl x1), some (.inl x2), some (.inl x3), some (.inl x4), some (.inl (mw (x5 + 1))), none, none]) rfl ?_
                exact IH _ _ _ _ _ _ _ h hK
              · replace h := g_neg hb1315 h
                refine m_blk C0 (pX12_ok rfl) kX12_turns_ok 58 4 (117, [some (.inr (.inr (71, 0))), some (.inl x1), some (.inl x2), some (.inl x3), some (.inl x4), some (.inl x5), some (.inl x3), some (.inl (σ 74 0 ((mw ((mw ((3 : Int) * x1)) + x5)).toNat)))], [.inl 1, .inl (o_rem x3 2)], (mup s1310 71 0 15 x3)) (Ps := [¬ (2 : Int) = 0]) rfl (And.intro (by decide) trivial) ?_
                refine b_ine C0 kX12_turns_ok 62 (off := 12) (tgt := 129) rfl (by decide) (fun hb1314 => ?_) (fun hb1314 => ?_)
                · replace h := g_neg hb1314 h
                  refine m_blk C0 (pX12_ok rfl) kX12_turns_ok 68 2 (23, [some (.inr (.inr (71, 0))), some (.inl x1), some (.inl x2), some (.inl x3), some (.inl x4), some (.inl (mw (x5 + 1))), some (.inl x3), some (.inl (σ 74 0 ((mw ((mw ((3 : Int) * x1)) + x5)).toNat)))], [], (mup s1310 71 0 15 x3)) (Ps := []) rfl trivial ?_
                  refine m_mask [true, true, true, true, true, true, false, false] (ls' := [some (.inr (.inr (71, 0))), some (.inl x1), some (.inl x2), some (.inl x3), some (.inl x4), some (.inl (mw (x5 + 1))), none, none]) rfl ?_
                  exact IH _ _ _ _ _ _ _ h hK
                · replace h := g_pos hb1314 h
                  refine m_blk C0 (pX12_ok rfl) kX12_turns_ok 63 5 (129, [some (.inr (.inr (71, 0))), some (.inl x1), some (.inl x2), some (.inl x3), some (.inl x4), some (.inl x5), some (.inl x3), some (.inl (σ 74 0 ((mw ((mw ((3 : Int) * x1)) + x5)).toNat)))], [], (mup (mup s1310 71 0 15 x3) 71 0 17 (mw (-(s1310 71 0 17))))) (Ps := []) rfl trivial ?_
                  refine m_blk C0 (pX12_ok rfl) kX12_turns_ok 68 2 (23, [some (.inr (.inr (71, 0))), some (.inl x1), some (.inl x2), some (.inl x3), some (.inl x4), some (.inl (mw (x5 + 1))), some (.inl x3), some (.inl (σ 74 0 ((mw ((mw ((3 : Int) * x1)) + x5)).toNat)))], [], (mup (mup s1310 71 0 15 x3) 71 0 17 (mw (-(s1310 71 0 17))))) (Ps := []) rfl trivial ?_
                  refine m_mask [true, true, true, true, true, true, false, false] (ls' := [some (.inr (.inr (71, 0))), some (.inl x1), some (.inl x2), some (.inl x3), some (.inl x4), some (.inl (mw (x5 + 1))), none, none]) rfl ?_
                  exact IH _ _ _ _ _ _ _ h hK
          · replace h := g_pos hb1320 h
            refine m_blk C0 (pX12_ok rfl) kX12_turns_ok 41 3 (80, [some (.inr (.inr (71, 0))), some (.inl x1), some (.inl x2), some (.inl x3), some (.inl x4), some (.inl x5), some (.inl x3), some (.inl (σ 74 0 ((mw ((mw ((3 : Int) * x1)) + x5)).toNat)))], [], (mup s1308 71 0 14 x3)) (Ps := []) rfl trivial ?_
            refine m_blk C0 (pX12_ok rfl) kX12_turns_ok 44 1 (107, [some (.inr (.inr (71, 0))), some (.inl x1), some (.inl x2), some (.inl x3), some (.inl x4), some (.inl x5), some (.inl x3), some (.inl (σ 74 0 ((mw ((mw ((3 : Int) * x1)) + x5)).toNat)))], [], (mup s1308 71 0 14 x3)) (Ps := []) rfl trivial ?_
            refine m_blk C0 (pX12_ok rfl) kX12_turns_ok 56 1 (109, [some (.inr (.inr (71, 0))), some (.inl x1), some (.inl x2), some (.inl x3), some (.inl x4), some (.inl x5), some (.inl x3), some (.inl (σ 74 0 ((mw ((mw ((3 : Int) * x1)) + x5)).toNat)))], [.inl (σ 74 0 ((mw ((mw ((3 : Int) * x1)) + x5)).toNat))], (mup s1308 71 0 14 x3)) (Ps := []) rfl trivial ?_
            refine b_ge C0 kX12_turns_ok 57 (off := 20) (tgt := 129) rfl (by decide) (fun hb1319 => ?_) (fun hb1319 => ?_)
            · replace h := g_pos hb1319 h
              refine m_blk C0 (pX12_ok rfl) kX12_turns_ok 68 2 (23, [some (.inr (.inr (71, 0))), some (.inl x1), some (.inl x2), some (.inl x3), some (.inl x4), some (.inl (mw (x5 + 1))), some (.inl x3), some (.inl (σ 74 0 ((mw ((mw ((3 : Int) * x1)) + x5)).toNat)))], [], (mup s1308 71 0 14 x3)) (Ps := []) rfl trivial ?_
              refine m_mask [true, true, true, true, true, true, false, false] (ls' := [some (.inr (.inr (71, 0))), some (.inl x1), some (.inl x2), some (.inl x3), some (.inl x4), some (.inl (mw (x5 + 1))), none, none]) rfl ?_
              exact IH _ _ _ _ _ _ _ h hK
            · replace h := g_neg hb1319 h
              refine m_blk C0 (pX12_ok rfl) kX12_turns_ok 58 4 (117, [some (.inr (.inr (71, 0))), some (.inl x1), some (.inl x2), some (.inl x3), some (.inl x4), some (.inl x5), some (.inl x3), some (.inl (σ 74 0 ((mw ((mw ((3 : Int) * x1)) + x5)).toNat)))], [.inl 1, .inl (o_rem x3 2)], (mup s1308 71 0 14 x3)) (Ps := [¬ (2 : Int) = 0]) rfl (And.intro (by decide) trivial) ?_
              refine b_ine C0 kX12_turns_ok 62 (off := 12) (tgt := 129) rfl (by decide) (fun hb1318 => ?_) (fun hb1318 => ?_)
              · replace h := g_neg hb1318 h
                refine m_blk C0 (pX12_ok rfl) kX12_turns_ok 68 2 (23, [some (.inr (.inr (71, 0))), some (.inl x1), some (.inl x2), some (.inl x3), some (.inl x4), some (.inl (mw (x5 + 1))), some (.inl x3), some (.inl (σ 74 0 ((mw ((mw ((3 : Int) * x1)) + x5)).toNat)))], [], (mup s1308 71 0 14 x3)) (Ps := []) rfl trivial ?_
                refine m_mask [true, true, true, true, true, true, false, false] (ls' := [some (.inr (.inr (71, 0))), some (.inl x1), some (.inl x2), some (.inl x3), some (.inl x4), some (.inl (mw (x5 + 1))), none, none]) rfl ?_
                exact IH _ _ _ _ _ _ _ h hK
              · replace h := g_pos hb1318 h
                refine m_blk C0 (pX12_ok rfl) kX12_turns_ok 63 5 (129, [some (.inr (.inr (71, 0))), some (.inl x1), some (.inl x2), some (.inl x3), some (.inl x4), some (.inl x5), some (.inl x3), some (.inl (σ 74 0 ((mw ((mw ((3 : Int) * x1)) + x5)).toNat)))], [], (mup (mup s1308 71 0 14 x3) 71 0 17 (mw (-(s1308 71 0 17))))) (Ps := []) rfl trivial ?_
                refine m_blk C0 (pX12_ok rfl) kX12_turns_ok 68 2 (23, [some (.inr (.inr (71, 0))), some (.inl x1), some (.inl x2), some (.inl x3), some (.inl x4), some (.inl (mw (x5 + 1))), some (.inl x3), some (.inl (σ 74 0 ((mw ((mw ((3 : Int) * x1)) + x5)).toNat)))], [], (mup (mup s1308 71 0 14 x3) 71 0 17 (mw (-(s1308 71 0 17))))) (Ps := []) rfl trivial ?_
                refine m_mask [true, true, true, true, true, true, false, false] (ls' := [some (.inr (.inr (71, 0))), some (.inl x1), some (.inl x2), some (.inl x3), some (.inl x4), some (.inl (mw (x5 + 1))), none, none]) rfl ?_
                exact IH _ _ _ _ _ _ _ h hK
      · replace h := g_pos hb1337 h
        refine m_blk C0 (pX12_ok rfl) kX12_turns_ok 19 2 (50, [some (.inr (.inr (71, 0))), some (.inl x1), some (.inl x2), some (.inl x3), some (.inl x4), some (.inl x5), none, none], [.inl x2], σ) (Ps := []) rfl trivial ?_
        obtain ⟨hc, h⟩ := g_if h
        refine m_blk C0 (pX12_ok rfl) kX12_turns_ok 27 11 (67, [some (.inr (.inr (71, 0))), some (.inl x1), some (.inl x2), some (.inl x3), some (.inl x4), some (.inl x5), some (.inl x2), some (.inl (σ 74 0 ((mw ((mw ((3 : Int) * x1)) + x5)).toNat)))], [.inl (σ 74 0 ((mw ((mw ((3 : Int) * x1)) + x5)).toNat))], σ) (Ps := [0 ≤ (mw ((mw ((3 : Int) * x1)) + x5)) ∧ (mw ((mw ((3 : Int) * x1)) + x5)) < 144]) rfl (And.intro hc trivial) ?_
        obtain ⟨⟨v1324, s1323⟩, hq1336, h⟩ := g_bind h
        refine c_S (rest := []) C0 hFr (t_X12_size hG f.2.1 N hq1336) lk_X12_106 (k_at kX12_turns_ok 38 rfl) rfl rfl rfl (by decide) (by decide) (Nat.le_of_ble_eq_true rfl) ?_
        refine m_blk C0 (pX12_ok rfl) kX12_turns_ok 39 1 (71, [some (.inr (.inr (71, 0))), some (.inl x1), some (.inl x2), some (.inl x3), some (.inl x4), some (.inl x5), some (.inl x2), some (.inl (σ 74 0 ((mw ((mw ((3 : Int) * x1)) + x5)).toNat)))], [.inl 1, .inl v1324], s1323) (Ps := []) rfl trivial ?_
        refine b_ine C0 kX12_turns_ok 40 (off := 12) (tgt := 83) rfl (by decide) (fun hb1335 => ?_) (fun hb1335 => ?_)
        · replace h := g_neg hb1335 h
          refine m_blk C0 (pX12_ok rfl) kX12_turns_ok 45 1 (85, [some (.inr (.inr (71, 0))), some (.inl x1), some (.inl x2), some (.inl x3), some (.inl x4), some (.inl x5), some (.inl x2), some (.inl (σ 74 0 ((mw ((mw ((3 : Int) * x1)) + x5)).toNat)))], [.inl (σ 74 0 ((mw ((mw ((3 : Int) * x1)) + x5)).toNat))], s1323) (Ps := []) rfl trivial ?_
          obtain ⟨⟨v1326, s1325⟩, hq1332, h⟩ := g_bind h
          refine c_S (rest := []) C0 hFr (t_X12_size hG f.2.1 N hq1332) lk_X12_106 (k_at kX12_turns_ok 46 rfl) rfl rfl rfl (by decide) (by decide) (Nat.le_of_ble_eq_true rfl) ?_
          refine m_blk C0 (pX12_ok rfl) kX12_turns_ok 47 1 (89, [some (.inr (.inr (71, 0))), some (.inl x1), some (.inl x2), some (.inl x3), some (.inl x4), some (.inl x5), some (.inl x2), some (.inl (σ 74 0 ((mw ((mw ((3 : Int) * x1)) + x5)).toNat)))], [.inl 2, .inl v1326], s1325) (Ps := []) rfl trivial ?_
          refine b_ine C0 kX12_turns_ok 48 (off := 12) (tgt := 101) rfl (by decide) (fun hb1331 => ?_) (fun hb1331 => ?_)
          · replace h := g_neg hb1331 h
            refine m_blk C0 (pX12_ok rfl) kX12_turns_ok 53 3 (107, [some (.inr (.inr (71, 0))), some (.inl x1), some (.inl x2), some (.inl x3), some (.inl x4), some (.inl x5), some (.inl x2), some (.inl (σ 74 0 ((mw ((mw ((3 : Int) * x1)) + x5)).toNat)))], [], (mup s1325 71 0 16 x2)) (Ps := []) rfl trivial ?_
            refine m_blk C0 (pX12_ok rfl) kX12_turns_ok 56 1 (109, [some (.inr (.inr (71, 0))), some (.inl x1), some (.inl x2), some (.inl x3), some (.inl x4), some (.inl x5), some (.inl x2), some (.inl (σ 74 0 ((mw ((mw ((3 : Int) * x1)) + x5)).toNat)))], [.inl (σ 74 0 ((mw ((mw ((3 : Int) * x1)) + x5)).toNat))], (mup s1325 71 0 16 x2)) (Ps := []) rfl trivial ?_
            refine b_ge C0 kX12_turns_ok 57 (off := 20) (tgt := 129) rfl (by decide) (fun hb1328 => ?_) (fun hb1328 => ?_)
            · replace h := g_pos hb1328 h
              refine m_blk C0 (pX12_ok rfl) kX12_turns_ok 68 2 (23, [some (.inr (.inr (71, 0))), some (.inl x1), some (.inl x2), some (.inl x3), some (.inl x4), some (.inl (mw (x5 + 1))), some (.inl x2), some (.inl (σ 74 0 ((mw ((mw ((3 : Int) * x1)) + x5)).toNat)))], [], (mup s1325 71 0 16 x2)) (Ps := []) rfl trivial ?_
              refine m_mask [true, true, true, true, true, true, false, false] (ls' := [some (.inr (.inr (71, 0))), some (.inl x1), some (.inl x2), some (.inl x3), some (.inl x4), some (.inl (mw (x5 + 1))), none, none]) rfl ?_
              exact IH _ _ _ _ _ _ _ h hK
            · replace h := g_neg hb1328 h
              refine m_blk C0 (pX12_ok rfl) kX12_turns_ok 58 4 (117, [some (.inr (.inr (71, 0))), some (.inl x1), some (.inl x2), some (.inl x3), some (.inl x4), some (.inl x5), some (.inl x2), some (.inl (σ 74 0 ((mw ((mw ((3 : Int) * x1)) + x5)).toNat)))], [.inl 1, .inl (o_rem x2 2)], (mup s1325 71 0 16 x2)) (Ps := [¬ (2 : Int) = 0]) rfl (And.intro (by decide) trivial) ?_
              refine b_ine C0 kX12_turns_ok 62 (off := 12) (tgt := 129) rfl (by decide) (fun hb1327 => ?_) (fun hb1327 => ?_)
              · replace h := g_neg hb1327 h
                refine m_blk C0 (pX12_ok rfl) kX12_turns_ok 68 2 (23, [some (.inr (.inr (71, 0))), some (.inl x1), some (.inl x2), some (.inl x3), some (.inl x4), some (.inl (mw (x5 + 1))), some (.inl x2), some (.inl (σ 74 0 ((mw ((mw ((3 : Int) * x1)) + x5)).toNat)))], [], (mup s1325 71 0 16 x2)) (Ps := []) rfl trivial ?_
                refine m_mask [true, true, true, true, true, true, false, false] (ls' := [some (.inr (.inr (71, 0))), some (.inl x1), some (.inl x2), some (.inl x3), some (.inl x4), some (.inl (mw (x5 + 1))), none, none]) rfl ?_
                exact IH _ _ _ _ _ _ _ h hK
              · replace h := g_pos hb1327 h
                refine m_blk C0 (pX12_ok rfl) kX12_turns_ok 63 5 (129, [some (.inr (.inr (71, 0))), some (.inl x1), some (.inl x2), some (.inl x3), some (.inl x4), some (.inl x5), some (.inl x2), some (.inl (σ 74 0 ((mw ((mw ((3 : Int) * x1)) + x5)).toNat)))], [], (mup (mup s1325 71 0 16 x2) 71 0 17 (mw (-(s1325 71 0 17))))) (Ps := []) rfl trivial ?_
                refine m_blk C0 (pX12_ok rfl) kX12_turns_ok 68 2 (23, [some (.inr (.inr (71, 0))), some (.inl x1), some (.inl x2), some (.inl x3), some (.inl x4), some (.inl (mw (x5 + 1))), some (.inl x2), some (.inl (σ 74 0 ((mw ((mw ((3 : Int) * x1)) + x5)).toNat)))], [], (mup (mup s1325 71 0 16 x2) 71 0 17 (mw (-(s1325 71 0 17))))) (Ps := []) rfl trivial ?_
                refine m_mask [true, true, true, true, true, true, false, false] (ls' := [some (.inr (.inr (71, 0))), some (.inl x1), some (.inl x2), some (.inl x3), some (.inl x4), some (.inl (mw (x5 + 1))), none, none]) rfl ?_
                exact IH _ _ _ _ _ _ _ h hK
          · replace h := g_pos hb1331 h
            refine m_blk C0 (pX12_ok rfl) kX12_turns_ok 49 3 (98, [some (.inr (.inr (71, 0))), some (.inl x1), some (.inl x2), some (.inl x3), some (.inl x4), some (.inl x5), some (.inl x2), some (.inl (σ 74 0 ((mw ((mw ((3 : Int) * x1)) + x5)).toNat)))], [], (mup s1325 71 0 15 x2)) (Ps := []) rfl trivial ?_
            refine m_blk C0 (pX12_ok rfl) kX12_turns_ok 52 1 (107, [some (.inr (.inr (71, 0))), some (.inl x1), some (.inl x2), some (.inl x3), some (.inl x4), some (.inl x5), some (.inl x2), some (.inl (σ 74 0 ((mw ((mw ((3 : Int) * x1)) + x5)).toNat)))], [], (mup s1325 71 0 15 x2)) (Ps := []) rfl trivial ?_
            refine m_blk C0 (pX12_ok rfl) kX12_turns_ok 56 1 (109, [some (.inr (.inr (71, 0))), some (.inl x1), some (.inl x2), some (.inl x3), some (.inl x4), some (.inl x5), some (.inl x2), some (.inl (σ 74 0 ((mw ((mw ((3 : Int) * x1)) + x5)).toNat)))], [.inl (σ 74 0 ((mw ((mw ((3 : Int) * x1)) + x5)).toNat))], (mup s1325 71 0 15 x2)) (Ps := []) rfl trivial ?_
            refine b_ge C0 kX12_turns_ok 57 (off := 20) (tgt := 129) rfl (by decide) (fun hb1330 => ?_) (fun hb1330 => ?_)
            · replace h := g_pos hb1330 h
              refine m_blk C0 (pX12_ok rfl) kX12_turns_ok 68 2 (23, [some (.inr (.inr (71, 0))), some (.inl x1), some (.inl x2), some (.inl x3), some (.inl x4), some (.inl (mw (x5 + 1))), some (.inl x2), some (.inl (σ 74 0 ((mw ((mw ((3 : Int) * x1)) + x5)).toNat)))], [], (mup s1325 71 0 15 x2)) (Ps := []) rfl trivial ?_
              refine m_mask [true, true, true, true, true, true, false, false] (ls' := [some (.inr (.inr (71, 0))), some (.inl x1), some (.inl x2), some (.inl x3), some (.inl x4), some (.inl (mw (x5 + 1))), none, none]) rfl ?_
              exact IH _ _ _ _ _ _ _ h hK
            · replace h := g_neg hb1330 h
              refine m_blk C0 (pX12_ok rfl) kX12_turns_ok 58 4 (117, [some (.inr (.inr (71, 0))), some (.inl x1), some (.inl x2), some (.inl x3), some (.inl x4), some (.inl x5), some (.inl x2), some (.inl (σ 74 0 ((mw ((mw ((3 : Int) * x1)) + x5)).toNat)))], [.inl 1, .inl (o_rem x2 2)], (mup s1325 71 0 15 x2)) (Ps := [¬ (2 : Int) = 0]) rfl (And.intro (by decide) trivial) ?_
              refine b_ine C0 kX12_turns_ok 62 (off := 12) (tgt := 129) rfl (by decide) (fun hb1329 => ?_) (fun hb1329 => ?_)
              · replace h := g_neg hb1329 h
                refine m_blk C0 (pX12_ok rfl) kX12_turns_ok 68 2 (23, [some (.inr (.inr (71, 0))), some (.inl x1), some (.inl x2), some (.inl x3), some (.inl x4), some (.inl (mw (x5 + 1))), some (.inl x2), some (.inl (σ 74 0 ((mw ((mw ((3 : Int) * x1)) + x5)).toNat)))], [], (mup s1325 71 0 15 x2)) (Ps := []) rfl trivial ?_
                refine m_mask [true, true, true, true, true, true, false, false] (ls' := [some (.inr (.inr (71, 0))), some (.inl x1), some (.inl x2), some (.inl x3), some (.inl x4), some (.inl (mw (x5 + 1))), none, none]) rfl ?_
                exact IH _ _ _ _ _ _ _ h hK
              · replace h := g_pos hb1329 h
                refine m_blk C0 (pX12_ok rfl) kX12_turns_ok 63 5 (129, [some (.inr (.inr (71, 0))), some (.inl x1), some (.inl x2), some (.inl x3), some (.inl x4), some (.inl x5), some (.inl x2), some (.inl (σ 74 0 ((mw ((mw ((3 : Int) * x1)) + x5)).toNat)))], [], (mup (mup s1325 71 0 15 x2) 71 0 17 (mw (-(s1325 71 0 17))))) (Ps := []) rfl trivial ?_
                refine m_blk C0 (pX12_ok rfl) kX12_turns_ok 68 2 (23, [some (.inr (.inr (71, 0))), some (.inl x1), some (.inl x2), some (.inl x3), some (.inl x4), some (.inl (mw (x5 + 1))), some (.inl x2), some (.inl (σ 74 0 ((mw ((mw ((3 : Int) * x1)) + x5)).toNat)))], [], (mup (mup s1325 71 0 15 x2) 71 0 17 (mw (-(s1325 71 0 17))))) (Ps := []) rfl trivial ?_
                refine m_mask [true, true, true, true, true, true, false, false] (ls' := [some (.inr (.inr (71, 0))), some (.inl x1), some (.inl x2), some (.inl x3), some (.inl x4), some (.inl (mw (x5 + 1))), none, none]) rfl ?_
                exact IH _ _ _ _ _ _ _ h hK
        · replace h := g_pos hb1335 h
          refine m_blk C0 (pX12_ok rfl) kX12_turns_ok 41 3 (80, [some (.inr (.inr (71, 0))), some (.inl x1), some (.inl x2), some (.inl x3), some (.inl x4), some (.inl x5), some (.inl x2), some (.inl (σ 74 0 ((mw ((mw ((3 : Int) * x1)) + x5)).toNat)))], [], (mup s1323 71 0 14 x2)) (Ps := []) rfl trivial ?_
          refine m_blk C0 (pX12_ok rfl) kX12_turns_ok 44 1 (107, [some (.inr (.inr (71, 0))), some (.inl x1), some (.inl x2), some (.inl x3), some (.inl x4), some (.inl x5), some (.inl x2), some (.inl (σ 74 0 ((mw ((mw ((3 : Int) * x1)) + x5)).toNat)))], [], (mup s1323 71 0 14 x2)) (Ps := []) rfl trivial ?_
          refine m_blk C0 (pX12_ok rfl) kX12_turns_ok 56 1 (109, [some (.inr (.inr (71, 0))), some (.inl x1), some (.inl x2), some (.inl x3), some (.inl x4), some (.inl x5), some (.inl x2), some (.inl (σ 74 0 ((mw ((mw ((3 : Int) * x1)) + x5)).toNat)))], [.inl (σ 74 0 ((mw ((mw ((3 : Int) * x1)) + x5)).toNat))], (mup s1323 71 0 14 x2)) (Ps := []) rfl trivial ?_
          refine b_ge C0 kX12_turns_ok 57 (off := 20) (tgt := 129) rfl (by decide) (fun hb1334 => ?_) (fun hb1334 => ?_)
          · replace h := g_pos hb1334 h
            refine m_blk C0 (pX12_ok rfl) kX12_turns_ok 68 2 (23, [some (.inr (.inr (71, 0))), some (.inl x1), some (.inl x2), some (.inl x3), some (.inl x4), some (.inl (mw (x5 + 1))), some (.inl x2), some (.inl (σ 74 0 ((mw ((mw ((3 : Int) * x1)) + x5)).toNat)))], [], (mup s1323 71 0 14 x2)) (Ps := []) rfl trivial ?_
            refine m_mask [true, true, true, true, true, true, false, false] (ls' := [some (.inr (.inr (71, 0))), some (.inl x1), some (.inl x2), some (.inl x3), some (.inl x4), some (.inl (mw (x5 + 1))), none, none]) rfl ?_
            exact IH _ _ _ _ _ _ _ h hK
          · replace h := g_neg hb1334 h
            refine m_blk C0 (pX12_ok rfl) kX12_turns_ok 58 4 (117, [some (.inr (.inr (71, 0))), some (.inl x1), some (.inl x2), some (.inl x3), some (.inl x4), some (.inl x5), some (.inl x2), some (.inl (σ 74 0 ((mw ((mw ((3 : Int) * x1)) + x5)).toNat)))], [.inl 1, .inl (o_rem x2 2)], (mup s1323 71 0 14 x2)) (Ps := [¬ (2 : Int) = 0]) rfl (And.intro (by decide) trivial) ?_
            refine b_ine C0 kX12_turns_ok 62 (off := 12) (tgt := 129) rfl (by decide) (fun hb1333 => ?_) (fun hb1333 => ?_)
            · replace h := g_neg hb1333 h
              refine m_blk C0 (pX12_ok rfl) kX12_turns_ok 68 2 (23, [some (.inr (.inr (71, 0))), some (.inl x1), some (.inl x2), some (.inl x3), some (.inl x4), some (.inl (mw (x5 + 1))), some (.inl x2), some (.inl (σ 74 0 ((mw ((mw ((3 : Int) * x1)) + x5)).toNat)))], [], (mup s1323 71 0 14 x2)) (Ps := []) rfl trivial ?_
              refine m_mask [true, true, true, true, true, true, false, false] (ls' := [some (.inr (.inr (71, 0))), some (.inl x1), some (.inl x2), some (.inl x3), some (.inl x4), some (.inl (mw (x5 + 1))), none, none]) rfl ?_
              exact IH _ _ _ _ _ _ _ h hK
            · replace h := g_pos hb1333 h
              refine m_blk C0 (pX12_ok rfl) kX12_turns_ok 63 5 (129, [some (.inr (.inr (71, 0))), some (.inl x1), some (.inl x2), some (.inl x3), some (.inl x4), some (.inl x5), some (.inl x2), some (.inl (σ 74 0 ((mw ((mw ((3 : Int) * x1)) + x5)).toNat)))], [], (mup (mup s1323 71 0 14 x2) 71 0 17 (mw (-(s1323 71 0 17))))) (Ps := []) rfl trivial ?_
              refine m_blk C0 (pX12_ok rfl) kX12_turns_ok 68 2 (23, [some (.inr (.inr (71, 0))), some (.inl x1), some (.inl x2), some (.inl x3), some (.inl x4), some (.inl (mw (x5 + 1))), some (.inl x2), some (.inl (σ 74 0 ((mw ((mw ((3 : Int) * x1)) + x5)).toNat)))], [], (mup (mup s1323 71 0 14 x2) 71 0 17 (mw (-(s1323 71 0 17))))) (Ps := []) rfl trivial ?_
              refine m_mask [true, true, true, true, true, true, false, false] (ls' := [some (.inr (.inr (71, 0))), some (.inl x1), some (.inl x2), some (.inl x3), some (.inl x4), some (.inl (mw (x5 + 1))), none, none]) rfl ?_
              exact IH _ _ _ _ _ _ _ h hK
set_option maxRecDepth 100000 in
set_option maxHeartbeats 4000000 in
theorem t_X12_turns {e : mEv} (hG : mGeo (mw0 e) lw_kept) (l : Launch) (N : Nat) {a1 : Int} {a2 : Int} {a3 : Int} {a4 : Int} {σ σ' : mS} (h : f_X12_turns N a1 a2 a3 a4 σ = some σ') : mMet l (mw0 e) lw_kept 1 yX12_turns cX12_turns 8 none [.inr (.inr (71, 0)), .inl a1, .inl a2, .inl a3, .inl a4] σ none σ' := by
  refine mMet_intro (plainFor_of_name (by decide)) hG (Nat.le_of_ble_eq_true rfl) (fun f hl hR C0 hFin => ?_)
  subst hl
  have hFr := mFr_of hR hFin
  unfold f_X12_turns at h
  show mWW f (mw0 e) sc0 8 (0, [some (.inr (.inr (71, 0))), some (.inl a1), some (.inl a2), some (.inl a3), some (.inl a4), none, none, none], [], σ)
  refine m_blk C0 (pX12_ok rfl) kX12_turns_ok 0 3 (5, [some (.inr (.inr (71, 0))), some (.inl a1), some (.inl a2), some (.inl a3), some (.inl a4), none, none, none], [], (mup σ 71 0 14 0)) (Ps := []) rfl trivial ?_
  refine m_blk C0 (pX12_ok rfl) kX12_turns_ok 3 3 (10, [some (.inr (.inr (71, 0))), some (.inl a1), some (.inl a2), some (.inl a3), some (.inl a4), none, none, none], [], (mup (mup σ 71 0 14 0) 71 0 15 0)) (Ps := []) rfl trivial ?_
  refine m_blk C0 (pX12_ok rfl) kX12_turns_ok 6 3 (15, [some (.inr (.inr (71, 0))), some (.inl a1), some (.inl a2), some (.inl a3), some (.inl a4), none, none, none], [], (mup (mup (mup σ 71 0 14 0) 71 0 15 0) 71 0 16 0)) (Ps := []) rfl trivial ?_
  refine m_blk C0 (pX12_ok rfl) kX12_turns_ok 9 3 (20, [some (.inr (.inr (71, 0))), some (.inl a1), some (.inl a2), some (.inl a3), some (.inl a4), none, none, none], [], (mup (mup (mup (mup σ 71 0 14 0) 71 0 15 0) 71 0 16 0) 71 0 17 1)) (Ps := []) rfl trivial ?_
  refine m_blk C0 (pX12_ok rfl) kX12_turns_ok 12 2 (23, [some (.inr (.inr (71, 0))), some (.inl a1), some (.inl a2), some (.inl a3), some (.inl a4), some (.inl 0), none, none], [], (mup (mup (mup (mup σ 71 0 14 0) 71 0 15 0) 71 0 16 0) 71 0 17 1)) (Ps := []) rfl trivial ?_
  obtain ⟨s1339, hq1340, h⟩ := g_bind h
  refine m_mask [true, true, true, true, true, true, false, false] (ls' := [some (.inr (.inr (71, 0))), some (.inl a1), some (.inl a2), some (.inl a3), some (.inl a4), some (.inl 0), none, none]) rfl ?_
  refine p_X12_turns_23 hG N C0 hFr N _ _ _ _ _ _ _ hq1340 ?_
  cases h
  exact m_vret C0 hFin (k_at kX12_turns_ok 70 rfl)
set_option maxRecDepth 100000 in
set_option maxHeartbeats 4000000 in
theorem t_X12_at {e : mEv} (hG : mGeo (mw0 e) lw_kept) (l : Launch) (N : Nat) {a0 : Int} {a1 : Int} {a2 : Int} {σ σ' : mS} {v : Int} (h : f_X12_at N a0 a1 a2 σ = some (v, σ')) : mMet l (mw0 e) lw_kept 0 yX12_at cX12_at 3 (some .int) [.inl a0, .inl a1, .inl a2] σ (some (.inl v)) σ' := by
  refine mMet_intro (plainFor_of_name (by decide)) hG (Nat.le_of_ble_eq_true rfl) (fun f hl hR C0 hFin => ?_)
  subst hl
  have hFr := mFr_of hR hFin
  unfold f_X12_at at h
  show mWW f (mw0 e) sc0 3 (0, [some (.inl a0), some (.inl a1), some (.inl a2)], [], σ)
  refine m_blk C0 (pX12_ok rfl) kX12_at_ok 0 9 (11, [some (.inl a0), some (.inl a1), some (.inl a2)], [.inl (mw ((mw ((mw ((81 : Int) * a0)) + (mw ((9 : Int) * a1)))) + a2))], σ) (Ps := []) rfl trivial ?_
  cases h
  exact m_iret C0 hFin (k_at kX12_at_ok 9 rfl) (Or.inl rfl)
set_option maxRecDepth 100000 in
set_option maxHeartbeats 4000000 in
theorem p_X12_meanOf_18 {e : mEv} (hG : mGeo (mw0 e) lw_kept) (N : Nat) {f : mFx} (C0 : mCx f (mw0 e) sc0 cX12_meanOf 7 RX12 lw_kept) (hFr : mFr f 2) : ∀ (n : Nat) (x1 : Int) (x2 : Int) (x3 : Int) (x4 : Int) (x5 : Int) (σ : mS) (σ' : mS), L_X12_meanOf_18 N n x1 x2 x3 x4 x5 σ = some σ' → mWW f (mw0 e) sc0 7 (91, [none, none, none, none, none, none, none], [], σ') → mWW f (mw0 e) sc0 7 (18, [some (.inr (.inr (71, 0))), some (.inl x1), some (.inl x2), some (.inl x3), some (.inl x4), some (.inl x5), none], [], σ) := by
  intro n
  induction n with
  | zero =>
    intro x1 x2 x3 x4 x5 σ σ' h hK
    cases h
  | succ n IH =>
    intro x1 x2 x3 x4 x5 σ σ' h hK
    rw [L_X12_meanOf_18_s] at h
    refine m_blk C0 (pX12_ok rfl) kX12_meanOf_ok 9 3 (24, [some (.inr (.inr (71, 0))), some (.inl x1), some (.inl x2), some (.inl x3), some (.inl x4), some (.inl x5), none], [.inl (σ 71 0 6), .inl x5], σ) (Ps := []) rfl trivial ?_
    refine b_ige C0 kX12_meanOf_ok 12 (off := 67) (tgt := 91) rfl (by decide) (fun hb1349 => ?_) (fun hb1349 => ?_)
    · replace h := g_pos hb1349 h
      cases h
      refine m_mask [false, false, false, false, false, false, false] (ls' := [none, none, none, none, none, none, none]) rfl ?_
      exact hK
    · replace h := g_neg hb1349 h
      refine m_blk C0 (pX12_ok rfl) kX12_meanOf_ok 13 5 (33, [some (.inr (.inr (71, 0))), some (.inl x1), some (.inl x2), some (.inl x3), some (.inl x4), some (.inl x5), none], [.inl x3, .inl x2, .inl x1, .inl x5, .inr (.inr (71, 0))], σ) (Ps := []) rfl trivial ?_
      obtain ⟨s1341, hq1348, h⟩ := g_bind h
      refine c_V (rest := []) C0 hFr (t_X12_turns hG f.2.1 N hq1348) lk_X12_224 (k_at kX12_meanOf_ok 18 rfl) rfl rfl rfl rfl ⟨_, _, rfl⟩ (by decide) (by decide) (Nat.le_of_ble_eq_true rfl) ?_
      refine m_blk C0 (pX12_ok rfl) kX12_meanOf_ok 19 7 (51, [some (.inr (.inr (71, 0))), some (.inl x1), some (.inl x2), some (.inl x3), some (.inl x4), some (.inl x5), none], [.inl (s1341 71 0 16), .inl (s1341 71 0 15), .inl (s1341 71 0 14), .inl 6561], s1341) (Ps := []) rfl trivial ?_
      obtain ⟨⟨v1343, s1342⟩, hq1347, h⟩ := g_bind h
      refine c_S (rest := [.inl 6561]) C0 hFr (t_X12_at hG f.2.1 N hq1347) lk_X12_181 (k_at kX12_meanOf_ok 26 rfl) rfl rfl rfl (by decide) (by decide) (Nat.le_of_ble_eq_true rfl) ?_
      obtain ⟨hc, h⟩ := g_if h
      refine m_blk C0 (pX12_ok rfl) kX12_meanOf_ok 27 16 (80, [some (.inr (.inr (71, 0))), some (.inl x1), some (.inl x2), some (.inl x3), some (.inl x4), some (.inl x5), some (.inl (mw ((6561 : Int) + v1343)))], [.inr (.inl (mx ((s1342 71 0 17) * x4))), .inr (.inl (s1342 81 0 ((mw ((6561 : Int) + v1343)).toNat))), .inl (mw ((6561 : Int) + v1343)), .inr (.inr (81, 0))], s1342) (Ps := [0 ≤ (mw ((6561 : Int) + v1343)) ∧ (mw ((6561 : Int) + v1343)) < 7290]) rfl (And.intro hc trivial) ?_
      refine m_blk C0 (pX12_ok rfl) kX12_meanOf_ok 43 1 (81, [some (.inr (.inr (71, 0))), some (.inl x1), some (.inl x2), some (.inl x3), some (.inl x4), some (.inl x5), some (.inl (mw ((6561 : Int) + v1343)))], [.inr (.inl (mx ((s1342 81 0 ((mw ((6561 : Int) + v1343)).toNat)) + (mx ((s1342 71 0 17) * x4))))), .inl (mw ((6561 : Int) + v1343)), .inr (.inr (81, 0))], s1342) (Ps := []) rfl trivial ?_
      obtain ⟨⟨v1345, s1344⟩, hq1346, h⟩ := g_bind h
      refine c_S (rest := [.inl (mw ((6561 : Int) + v1343)), .inr (.inr (81, 0))]) C0 hFr (t_X12_left hG f.2.1 N hq1346) lk_X12_190 (k_at kX12_meanOf_ok 44 rfl) rfl rfl rfl (by decide) (by decide) (Nat.le_of_ble_eq_true rfl) ?_
      obtain ⟨hc, h⟩ := g_if h
      refine m_blk C0 (pX12_ok rfl) kX12_meanOf_ok 45 1 (85, [some (.inr (.inr (71, 0))), some (.inl x1), some (.inl x2), some (.inl x3), some (.inl x4), some (.inl x5), some (.inl (mw ((6561 : Int) + v1343)))], [], (mup s1344 81 0 ((mw ((6561 : Int) + v1343)).toNat) v1345)) (Ps := [0 ≤ (mw ((6561 : Int) + v1343)) ∧ (mw ((6561 : Int) + v1343)) < 7290]) rfl (And.intro hc trivial) ?_
      refine m_blk C0 (pX12_ok rfl) kX12_meanOf_ok 46 2 (18, [some (.inr (.inr (71, 0))), some (.inl x1), some (.inl x2), some (.inl x3), some (.inl x4), some (.inl (mw (x5 + 1))), some (.inl (mw ((6561 : Int) + v1343)))], [], (mup s1344 81 0 ((mw ((6561 : Int) + v1343)).toNat) v1345)) (Ps := []) rfl trivial ?_
      refine m_mask [true, true, true, true, true, true, false] (ls' := [some (.inr (.inr (71, 0))), some (.inl x1), some (.inl x2), some (.inl x3), some (.inl x4), some (.inl (mw (x5 + 1))), none]) rfl ?_
      exact IH _ _ _ _ _ _ _ h hK
set_option maxRecDepth 100000 in
set_option maxHeartbeats 4000000 in
theorem t_X12_meanOf {e : mEv} (hG : mGeo (mw0 e) lw_kept) (l : Launch) (N : Nat) {a1 : Int} {a2 : Int} {a3 : Int} {σ σ' : mS} (h : f_X12_meanOf N a1 a2 a3 σ = some σ') : mMet l (mw0 e) lw_kept 2 yX12_meanOf cX12_meanOf 7 none [.inr (.inr (71, 0)), .inl a1, .inl a2, .inl a3] σ none σ' := by
  refine mMet_intro (plainFor_of_name (by decide)) hG (Nat.le_of_ble_eq_true rfl) (fun f hl hR C0 hFin => ?_)
  subst hl
  have hFr := mFr_of hR hFin
  unfold f_X12_meanOf at h
  show mWW f (mw0 e) sc0 7 (0, [some (.inr (.inr (71, 0))), some (.inl a1), some (.inl a2), some (.inl a3), none, none, none], [], σ)
  refine m_blk C0 (pX12_ok rfl) kX12_meanOf_ok 0 2 (3, [some (.inr (.inr (71, 0))), some (.inl a1), some (.inl a2), some (.inl a3), none, none, none], [.inl 9, .inr (.inr (71, 0))], σ) (Ps := []) rfl trivial ?_
  obtain ⟨s1291, hq1353, h⟩ := g_bind h
  refine c_V (rest := []) C0 hFr (t_X12_clear hG f.2.1 N hq1353) lk_X12_200 (k_at kX12_meanOf_ok 2 rfl) rfl rfl rfl rfl ⟨_, _, rfl⟩ (by decide) (by decide) (Nat.le_of_ble_eq_true rfl) ?_
  refine m_blk C0 (pX12_ok rfl) kX12_meanOf_ok 3 2 (10, [some (.inr (.inr (71, 0))), some (.inl a1), some (.inl a2), some (.inl a3), none, none, none], [.inl (s1291 71 0 6)], s1291) (Ps := []) rfl trivial ?_
  obtain ⟨⟨v1293, s1292⟩, hq1352, h⟩ := g_bind h
  refine c_S (rest := []) C0 hFr (t_X12_by hG f.2.1 N hq1352) lk_X12_231 (k_at kX12_meanOf_ok 5 rfl) rfl rfl rfl (by decide) (by decide) (Nat.le_of_ble_eq_true rfl) ?_
  refine m_blk C0 (pX12_ok rfl) kX12_meanOf_ok 6 3 (18, [some (.inr (.inr (71, 0))), some (.inl a1), some (.inl a2), some (.inl a3), some (.inl v1293), some (.inl 0), none], [], s1292) (Ps := []) rfl trivial ?_
  obtain ⟨s1350, hq1351, h⟩ := g_bind h
  refine m_mask [true, true, true, true, true, true, false] (ls' := [some (.inr (.inr (71, 0))), some (.inl a1), some (.inl a2), some (.inl a3), some (.inl v1293), some (.inl 0), none]) rfl ?_
  refine p_X12_meanOf_18 hG N C0 hFr N _ _ _ _ _ _ _ hq1351 ?_
  cases h
  exact m_vret C0 hFin (k_at kX12_meanOf_ok 48 rfl)
set_option maxRecDepth 100000 in
set_option maxHeartbeats 4000000 in
theorem p_X12_findFew_60 {e : mEv} (hG : mGeo (mw0 e) lw_kept) (N : Nat) {f : mFx} (C0 : mCx f (mw0 e) sc0 cX12_findFew 5 RX12 lw_kept) (hFr : mFr f 13) : ∀ (n : Nat) (x1 : Int) (x2 : Int) (x3 : Int) (x4 : Int) (σ : mS) (σ' : mS), L_X12_findFew_60 N n x1 x2 x3 x4 σ = some σ' → mWW f (mw0 e) sc0 5 (101, [some (.inr (.inr (71, 0))), some (.inl x1), some (.inl x2), some (.inl x3), none], [], σ') → mWW f (mw0 e) sc0 5 (60, [some (.inr (.inr (71, 0))), some (.inl x1), some (.inl x2), some (.inl x3), some (.inl x4)], [], σ) := by
  intro n
  induction n with
  | zero =>
    intro x1 x2 x3 x4 σ σ' h hK
    cases h
  | succ n IH =>
    intro x1 x2 x3 x4 σ σ' h hK
    rw [L_X12_findFew_60_s] at h
    refine m_blk C0 (pX12_ok rfl) kX12_findFew_ok 38 2 (65, [some (.inr (.inr (71, 0))), some (.inl x1), some (.inl x2), some (.inl x3), some (.inl x4)], [.inl 729, .inl x4], σ) (Ps := []) rfl trivial ?_
    refine b_ige C0 kX12_findFew_ok 40 (off := 36) (tgt := 101) rfl (by decide) (fun hb1358 => ?_) (fun hb1358 => ?_)
    · replace h := g_pos hb1358 h
      cases h
      refine m_mask [true, true, true, true, false] (ls' := [some (.inr (.inr (71, 0))), some (.inl x1), some (.inl x2), some (.inl x3), none]) rfl ?_
      exact hK
    · replace h := g_neg hb1358 h
      obtain ⟨hc, h⟩ := g_if h
      refine m_blk C0 (pX12_ok rfl) kX12_findFew_ok 41 15 (95, [some (.inr (.inr (71, 0))), some (.inl x1), some (.inl x2), some (.inl x3), some (.inl x4)], [], (mup σ 84 0 ((mw ((mw ((729 : Int) * (σ 71 0 19))) + x4)).toNat) (σ 81 0 ((mw ((6561 : Int) + x4)).toNat)))) (Ps := [0 ≤ (mw ((6561 : Int) + x4)) ∧ (mw ((6561 : Int) + x4)) < 7290, 0 ≤ (mw ((mw ((729 : Int) * (σ 71 0 19))) + x4)) ∧ (mw ((mw ((729 : Int) * (σ 71 0 19))) + x4)) < 29160]) rfl (And.intro hc.1 (And.intro hc.2 trivial)) ?_
      refine m_blk C0 (pX12_ok rfl) kX12_findFew_ok 56 2 (60, [some (.inr (.inr (71, 0))), some (.inl x1), some (.inl x2), some (.inl x3), some (.inl (mw (x4 + 1)))], [], (mup σ 84 0 ((mw ((mw ((729 : Int) * (σ 71 0 19))) + x4)).toNat) (σ 81 0 ((mw ((6561 : Int) + x4)).toNat)))) (Ps := []) rfl trivial ?_
      refine m_mask [true, true, true, true, true] (ls' := [some (.inr (.inr (71, 0))), some (.inl x1), some (.inl x2), some (.inl x3), some (.inl (mw (x4 + 1)))]) rfl ?_
      exact IH _ _ _ _ _ _ h hK
set_option maxRecDepth 100000 in
set_option maxHeartbeats 4000000 in
theorem p_X12_findFew_28 {e : mEv} (hG : mGeo (mw0 e) lw_kept) (N : Nat) {f : mFx} (C0 : mCx f (mw0 e) sc0 cX12_findFew 5 RX12 lw_kept) (hFr : mFr f 13) : ∀ (n : Nat) (x1 : Int) (x2 : Int) (x3 : Int) (σ : mS) (σ' : mS), L_X12_findFew_28 N n x1 x2 x3 σ = some σ' → mWW f (mw0 e) sc0 5 (132, [some (.inr (.inr (71, 0))), some (.inl x1), some (.inl x2), none, none], [], σ') → mWW f (mw0 e) sc0 5 (28, [some (.inr (.inr (71, 0))), some (.inl x1), some (.inl x2), some (.inl x3), none], [], σ) := by
  intro n
  induction n with
  | zero =>
    intro x1 x2 x3 σ σ' h hK
    cases h
  | succ n IH =>
    intro x1 x2 x3 σ σ' h hK
    rw [L_X12_findFew_28_s] at h
    refine m_blk C0 (pX12_ok rfl) kX12_findFew_ok 19 1 (29, [some (.inr (.inr (71, 0))), some (.inl x1), some (.inl x2), some (.inl x3), none], [.inl x3], σ) (Ps := []) rfl trivial ?_
    refine b_lt C0 kX12_findFew_ok 20 (off := 103) (tgt := 132) rfl (by decide) (fun hb1367 => ?_) (fun hb1367 => ?_)
    · replace h := g_pos hb1367 h
      cases h
      refine m_mask [true, true, true, false, false] (ls' := [some (.inr (.inr (71, 0))), some (.inl x1), some (.inl x2), none, none]) rfl ?_
      exact hK
    · replace h := g_neg hb1367 h
      refine m_blk C0 (pX12_ok rfl) kX12_findFew_ok 21 8 (40, [some (.inr (.inr (71, 0))), some (.inl x1), some (.inl x2), some (.inl x3), none], [.inl (mw ((mw (x1 - x2)) - x3)), .inl x3, .inl x2, .inr (.inr (71, 0))], σ) (Ps := []) rfl trivial ?_
      obtain ⟨s1354, hq1366, h⟩ := g_bind h
      refine c_V (rest := []) C0 hFr (t_X12_meanOf hG f.2.1 N hq1366) lk_X12_280 (k_at kX12_findFew_ok 29 rfl) rfl rfl rfl rfl ⟨_, _, rfl⟩ (by decide) (by decide) (Nat.le_of_ble_eq_true rfl) ?_
      refine m_blk C0 (pX12_ok rfl) kX12_findFew_ok 30 1 (44, [some (.inr (.inr (71, 0))), some (.inl x1), some (.inl x2), some (.inl x3), none], [.inr (.inr (71, 0))], s1354) (Ps := []) rfl trivial ?_
      obtain ⟨s1355, hq1365, h⟩ := g_bind h
      refine c_V (rest := []) C0 hFr (t_X12_handOther hG f.2.1 N hq1365) lk_X12_268 (k_at kX12_findFew_ok 31 rfl) rfl rfl rfl rfl ⟨_, _, rfl⟩ (by decide) (by decide) (Nat.le_of_ble_eq_true rfl) ?_
      refine m_blk C0 (pX12_ok rfl) kX12_findFew_ok 32 1 (48, [some (.inr (.inr (71, 0))), some (.inl x1), some (.inl x2), some (.inl x3), none], [.inr (.inr (71, 0))], s1355) (Ps := []) rfl trivial ?_
      obtain ⟨⟨v1357, s1356⟩, hq1364, h⟩ := g_bind h
      refine c_V (rest := []) C0 hFr (t_X12_lessens hG f.2.1 N hq1364) lk_X12_271 (k_at kX12_findFew_ok 33 rfl) rfl rfl rfl rfl ⟨_, _, rfl⟩ (by decide) (by decide) (Nat.le_of_ble_eq_true rfl) ?_
      refine b_eq C0 kX12_findFew_ok 34 (off := 6) (tgt := 57) rfl (by decide) (fun hb1363 => ?_) (fun hb1363 => ?_)
      · replace h := g_pos hb1363 h
        refine m_blk C0 (pX12_ok rfl) kX12_findFew_ok 36 2 (60, [some (.inr (.inr (71, 0))), some (.inl x1), some (.inl x2), some (.inl x3), some (.inl 0)], [], s1356) (Ps := []) rfl trivial ?_
        obtain ⟨s1359, hq1362, h⟩ := g_bind h
        refine m_mask [true, true, true, true, true] (ls' := [some (.inr (.inr (71, 0))), some (.inl x1), some (.inl x2), some (.inl x3), some (.inl 0)]) rfl ?_
        refine p_X12_findFew_60 hG N C0 hFr N _ _ _ _ _ _ hq1362 ?_
        obtain ⟨hc, h⟩ := g_if h
        refine m_blk C0 (pX12_ok rfl) kX12_findFew_ok 58 6 (111, [some (.inr (.inr (71, 0))), some (.inl x1), some (.inl x2), some (.inl x3), none], [], (mup s1359 83 0 ((s1359 71 0 19).toNat) x1)) (Ps := [0 ≤ (s1359 71 0 19) ∧ (s1359 71 0 19) < 40]) rfl (And.intro hc trivial) ?_
        refine m_blk C0 (pX12_ok rfl) kX12_findFew_ok 64 6 (121, [some (.inr (.inr (71, 0))), some (.inl x1), some (.inl x2), some (.inl x3), none], [], (mup (mup s1359 83 0 ((s1359 71 0 19).toNat) x1) 71 0 19 (mw ((s1359 71 0 19) + 1)))) (Ps := []) rfl trivial ?_
        refine m_blk C0 (pX12_ok rfl) kX12_findFew_ok 70 2 (123, [some (.inr (.inr (71, 0))), some (.inl x1), some (.inl x2), some (.inl x3), none], [.inl 0, .inr (.inr (71, 0))], (mup (mup s1359 83 0 ((s1359 71 0 19).toNat) x1) 71 0 19 (mw ((s1359 71 0 19) + 1)))) (Ps := []) rfl trivial ?_
        obtain ⟨s1360, hq1361, h⟩ := g_bind h
        refine c_V (rest := []) C0 hFr (t_X12_keeps hG f.2.1 N hq1361) lk_X12_274 (k_at kX12_findFew_ok 72 rfl) rfl rfl rfl rfl ⟨_, _, rfl⟩ (by decide) (by decide) (Nat.le_of_ble_eq_true rfl) ?_
        refine m_blk C0 (pX12_ok rfl) kX12_findFew_ok 73 2 (28, [some (.inr (.inr (71, 0))), some (.inl x1), some (.inl x2), some (.inl (mw (x3 + (-1)))), none], [], s1360) (Ps := []) rfl trivial ?_
        refine m_mask [true, true, true, true, false] (ls' := [some (.inr (.inr (71, 0))), some (.inl x1), some (.inl x2), some (.inl (mw (x3 + (-1)))), none]) rfl ?_
        exact IH _ _ _ _ _ h hK
      · replace h := g_neg hb1363 h
        refine m_blk C0 (pX12_ok rfl) kX12_findFew_ok 35 1 (126, [some (.inr (.inr (71, 0))), some (.inl x1), some (.inl x2), some (.inl x3), none], [], s1356) (Ps := []) rfl trivial ?_
        refine m_blk C0 (pX12_ok rfl) kX12_findFew_ok 73 2 (28, [some (.inr (.inr (71, 0))), some (.inl x1), some (.inl x2), some (.inl (mw (x3 + (-1)))), none], [], s1356) (Ps := []) rfl trivial ?_
        refine m_mask [true, true, true, true, false] (ls' := [some (.inr (.inr (71, 0))), some (.inl x1), some (.inl x2), some (.inl (mw (x3 + (-1)))), none]) rfl ?_
        exact IH _ _ _ _ _ h hK
set_option maxRecDepth 100000 in
set_option maxHeartbeats 4000000 in
theorem p_X12_findFew_20 {e : mEv} (hG : mGeo (mw0 e) lw_kept) (N : Nat) {f : mFx} (C0 : mCx f (mw0 e) sc0 cX12_findFew 5 RX12 lw_kept) (hFr : mFr f 13) : ∀ (n : Nat) (x1 : Int) (x2 : Int) (σ : mS) (σ' : mS), L_X12_findFew_20 N n x1 x2 σ = some σ' → mWW f (mw0 e) sc0 5 (138, [some (.inr (.inr (71, 0))), some (.inl x1), none, none, none], [], σ') → mWW f (mw0 e) sc0 5 (20, [some (.inr (.inr (71, 0))), some (.inl x1), some (.inl x2), none, none], [], σ) := by
  intro n
  induction n with
  | zero =>
    intro x1 x2 σ σ' h hK
    cases h
  | succ n IH =>
    intro x1 x2 σ σ' h hK
    rw [L_X12_findFew_20_s] at h
    refine m_blk C0 (pX12_ok rfl) kX12_findFew_ok 13 1 (21, [some (.inr (.inr (71, 0))), some (.inl x1), some (.inl x2), none, none], [.inl x2], σ) (Ps := []) rfl trivial ?_
    refine b_lt C0 kX12_findFew_ok 14 (off := 117) (tgt := 138) rfl (by decide) (fun hb1370 => ?_) (fun hb1370 => ?_)
    · replace h := g_pos hb1370 h
      cases h
      refine m_mask [true, true, false, false, false] (ls' := [some (.inr (.inr (71, 0))), some (.inl x1), none, none, none]) rfl ?_
      exact hK
    · replace h := g_neg hb1370 h
      refine m_blk C0 (pX12_ok rfl) kX12_findFew_ok 15 4 (28, [some (.inr (.inr (71, 0))), some (.inl x1), some (.inl x2), some (.inl (mw (x1 - x2))), none], [], σ) (Ps := []) rfl trivial ?_
      obtain ⟨s1368, hq1369, h⟩ := g_bind h
      refine m_mask [true, true, true, true, false] (ls' := [some (.inr (.inr (71, 0))), some (.inl x1), some (.inl x2), some (.inl (mw (x1 - x2))), none]) rfl ?_
      refine p_X12_findFew_28 hG N C0 hFr N _ _ _ _ _ hq1369 ?_
      refine m_blk C0 (pX12_ok rfl) kX12_findFew_ok 75 2 (20, [some (.inr (.inr (71, 0))), some (.inl x1), some (.inl (mw (x2 + (-1)))), none, none], [], s1368) (Ps := []) rfl trivial ?_
      refine m_mask [true, true, true, false, false] (ls' := [some (.inr (.inr (71, 0))), some (.inl x1), some (.inl (mw (x2 + (-1)))), none, none]) rfl ?_
      exact IH _ _ _ _ h hK
set_option maxRecDepth 100000 in
set_option maxHeartbeats 4000000 in
theorem p_X12_findFew_7 {e : mEv} (hG : mGeo (mw0 e) lw_kept) (N : Nat) {f : mFx} (C0 : mCx f (mw0 e) sc0 cX12_findFew 5 RX12 lw_kept) (hFr : mFr f 13) : ∀ (n : Nat) (x1 : Int) (σ : mS) (σ' : mS), L_X12_findFew_7 N n x1 σ = some σ' → mWW f (mw0 e) sc0 5 (144, [none, none, none, none, none], [], σ') → mWW f (mw0 e) sc0 5 (7, [some (.inr (.inr (71, 0))), some (.inl x1), none, none, none], [], σ) := by
  intro n
  induction n with
  | zero =>
    intro x1 σ σ' h hK
    cases h
  | succ n IH =>
    intro x1 σ σ' h hK
    rw [L_X12_findFew_7_s] at h
    refine m_blk C0 (pX12_ok rfl) kX12_findFew_ok 5 2 (10, [some (.inr (.inr (71, 0))), some (.inl x1), none, none, none], [.inl 7, .inl x1], σ) (Ps := []) rfl trivial ?_
    refine b_ige C0 kX12_findFew_ok 7 (off := 134) (tgt := 144) rfl (by decide) (fun hb1374 => ?_) (fun hb1374 => ?_)
    · replace h := g_pos hb1374 h
      cases h
      refine m_mask [false, false, false, false, false] (ls' := [none, none, none, none, none]) rfl ?_
      exact hK
    · replace h := g_neg hb1374 h
      refine m_blk C0 (pX12_ok rfl) kX12_findFew_ok 8 2 (15, [some (.inr (.inr (71, 0))), some (.inl x1), none, none, none], [.inl x1, .inr (.inr (71, 0))], σ) (Ps := []) rfl trivial ?_
      obtain ⟨s1290, hq1373, h⟩ := g_bind h
      refine c_V (rest := []) C0 hFr (t_X12_plainOf hG f.2.1 N hq1373) lk_X12_277 (k_at kX12_findFew_ok 10 rfl) rfl rfl rfl rfl ⟨_, _, rfl⟩ (by decide) (by decide) (Nat.le_of_ble_eq_true rfl) ?_
      refine m_blk C0 (pX12_ok rfl) kX12_findFew_ok 11 2 (20, [some (.inr (.inr (71, 0))), some (.inl x1), some (.inl x1), none, none], [], s1290) (Ps := []) rfl trivial ?_
      obtain ⟨s1371, hq1372, h⟩ := g_bind h
      refine m_mask [true, true, true, false, false] (ls' := [some (.inr (.inr (71, 0))), some (.inl x1), some (.inl x1), none, none]) rfl ?_
      refine p_X12_findFew_20 hG N C0 hFr N _ _ _ _ hq1372 ?_
      refine m_blk C0 (pX12_ok rfl) kX12_findFew_ok 77 2 (7, [some (.inr (.inr (71, 0))), some (.inl (mw (x1 + 1))), none, none, none], [], s1371) (Ps := []) rfl trivial ?_
      refine m_mask [true, true, false, false, false] (ls' := [some (.inr (.inr (71, 0))), some (.inl (mw (x1 + 1))), none, none, none]) rfl ?_
      exact IH _ _ _ h hK
set_option maxRecDepth 100000 in
set_option maxHeartbeats 4000000 in
theorem t_X12_findFew {e : mEv} (hG : mGeo (mw0 e) lw_kept) (l : Launch) (N : Nat) {σ σ' : mS} (h : f_X12_findFew N σ = some σ') : mMet l (mw0 e) lw_kept 13 yX12_findFew cX12_findFew 5 none [.inr (.inr (71, 0))] σ none σ' := by
  refine mMet_intro (plainFor_of_name (by decide)) hG (Nat.le_of_ble_eq_true rfl) (fun f hl hR C0 hFin => ?_)
  subst hl
  have hFr := mFr_of hR hFin
  unfold f_X12_findFew at h
  show mWW f (mw0 e) sc0 5 (0, [some (.inr (.inr (71, 0))), none, none, none, none], [], σ)
  refine m_blk C0 (pX12_ok rfl) kX12_findFew_ok 0 3 (5, [some (.inr (.inr (71, 0))), none, none, none, none], [], (mup σ 71 0 19 0)) (Ps := []) rfl trivial ?_
  refine m_blk C0 (pX12_ok rfl) kX12_findFew_ok 3 2 (7, [some (.inr (.inr (71, 0))), some (.inl 1), none, none, none], [], (mup σ 71 0 19 0)) (Ps := []) rfl trivial ?_
  obtain ⟨s1375, hq1376, h⟩ := g_bind h
  refine m_mask [true, true, false, false, false] (ls' := [some (.inr (.inr (71, 0))), some (.inl 1), none, none, none]) rfl ?_
  refine p_X12_findFew_7 hG N C0 hFr N _ _ _ hq1376 ?_
  cases h
  exact m_vret C0 hFin (k_at kX12_findFew_ok 79 rfl)
