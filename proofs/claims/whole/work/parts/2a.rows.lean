set_option maxRecDepth 100000 in
set_option maxHeartbeats 4000000 in
theorem t_X10_isCode {e : mEv} (hG : mGeo (mw0 e) lw_kept) (l : Launch) (N : Nat) {a0 : Int} {σ σ' : mS} {v : Int} (h : f_X10_isCode N a0 σ = some (v, σ')) : mMet l (mw0 e) lw_kept 0 yX10_isCode cX10_isCode 1 (some .boolean) [.inl a0] σ (some (.inl v)) σ' := by
  refine mMet_intro (plainFor_of_name (by decide)) hG (Nat.le_of_ble_eq_true rfl) (fun f hl hR C0 hFin => ?_)
  subst hl
  have hFr := mFr_of hR hFin
  unfold f_X10_isCode at h
  show mWW f (mw0 e) sc0 1 (0, [some (.inl a0)], [], σ)
  refine m_blk C0 (pX10_ok rfl) kX10_isCode_ok 0 1 (1, [some (.inl a0)], [.inl a0], σ) (Ps := []) rfl trivial ?_
  refine b_eq C0 kX10_isCode_ok 1 (off := 18) (tgt := 19) rfl (by decide) (fun hb3 => ?_) (fun hb3 => ?_)
  · replace h := g_pos hb3 h
    refine m_blk C0 (pX10_ok rfl) kX10_isCode_ok 10 1 (20, [some (.inl a0)], [.inl 0], σ) (Ps := []) rfl trivial ?_
    cases h
    exact m_iret C0 hFin (k_at kX10_isCode_ok 11 rfl) (Or.inr ⟨rfl, by decide⟩)
  · replace h := g_neg hb3 h
    refine m_blk C0 (pX10_ok rfl) kX10_isCode_ok 2 2 (7, [some (.inl a0)], [.inl (-3), .inl a0], σ) (Ps := []) rfl trivial ?_
    refine b_ilt C0 kX10_isCode_ok 4 (off := 12) (tgt := 19) rfl (by decide) (fun hb2 => ?_) (fun hb2 => ?_)
    · replace h := g_pos hb2 h
      refine m_blk C0 (pX10_ok rfl) kX10_isCode_ok 10 1 (20, [some (.inl a0)], [.inl 0], σ) (Ps := []) rfl trivial ?_
      cases h
      exact m_iret C0 hFin (k_at kX10_isCode_ok 11 rfl) (Or.inr ⟨rfl, by decide⟩)
    · replace h := g_neg hb2 h
      refine m_blk C0 (pX10_ok rfl) kX10_isCode_ok 5 2 (12, [some (.inl a0)], [.inl 3, .inl a0], σ) (Ps := []) rfl trivial ?_
      refine b_igt C0 kX10_isCode_ok 7 (off := 7) (tgt := 19) rfl (by decide) (fun hb1 => ?_) (fun hb1 => ?_)
      · replace h := g_pos hb1 h
        refine m_blk C0 (pX10_ok rfl) kX10_isCode_ok 10 1 (20, [some (.inl a0)], [.inl 0], σ) (Ps := []) rfl trivial ?_
        cases h
        exact m_iret C0 hFin (k_at kX10_isCode_ok 11 rfl) (Or.inr ⟨rfl, by decide⟩)
      · replace h := g_neg hb1 h
        refine m_blk C0 (pX10_ok rfl) kX10_isCode_ok 8 2 (20, [some (.inl a0)], [.inl 1], σ) (Ps := []) rfl trivial ?_
        cases h
        exact m_iret C0 hFin (k_at kX10_isCode_ok 11 rfl) (Or.inr ⟨rfl, by decide⟩)
set_option maxRecDepth 100000 in
set_option maxHeartbeats 4000000 in
theorem t_X11_indexOfCode {e : mEv} (hG : mGeo (mw0 e) lw_kept) (l : Launch) (N : Nat) {a0 : Int} {σ σ' : mS} {v : Int} (h : f_X11_indexOfCode N a0 σ = some (v, σ')) : mMet l (mw0 e) lw_kept 0 yX11_indexOfCode cX11_indexOfCode 1 (some .int) [.inl a0] σ (some (.inl v)) σ' := by
  refine mMet_intro (plainFor_of_name (by decide)) hG (Nat.le_of_ble_eq_true rfl) (fun f hl hR C0 hFin => ?_)
  subst hl
  have hFr := mFr_of hR hFin
  unfold f_X11_indexOfCode at h
  show mWW f (mw0 e) sc0 1 (0, [some (.inl a0)], [], σ)
  refine m_blk C0 (pX11_ok rfl) kX11_indexOfCode_ok 0 1 (1, [some (.inl a0)], [.inl a0], σ) (Ps := []) rfl trivial ?_
  refine b_le C0 kX11_indexOfCode_ok 1 (off := 9) (tgt := 10) rfl (by decide) (fun hb10 => ?_) (fun hb10 => ?_)
  · replace h := g_pos hb10 h
    refine m_blk C0 (pX11_ok rfl) kX11_indexOfCode_ok 6 4 (14, [some (.inl a0)], [.inl (mw ((mw (-a0)) - 1))], σ) (Ps := []) rfl trivial ?_
    cases h
    exact m_iret C0 hFin (k_at kX11_indexOfCode_ok 10 rfl) (Or.inl rfl)
  · replace h := g_neg hb10 h
    refine m_blk C0 (pX11_ok rfl) kX11_indexOfCode_ok 2 4 (14, [some (.inl a0)], [.inl (mw (a0 - 1))], σ) (Ps := []) rfl trivial ?_
    cases h
    exact m_iret C0 hFin (k_at kX11_indexOfCode_ok 10 rfl) (Or.inl rfl)
set_option maxRecDepth 100000 in
set_option maxHeartbeats 4000000 in
theorem t_X10_areTurn {e : mEv} (hG : mGeo (mw0 e) lw_kept) (l : Launch) (N : Nat) {a0 : Int} {a1 : Int} {a2 : Int} {σ σ' : mS} {v : Int} (h : f_X10_areTurn N a0 a1 a2 σ = some (v, σ')) : mMet l (mw0 e) lw_kept 1 yX10_areTurn cX10_areTurn 6 (some .boolean) [.inl a0, .inl a1, .inl a2] σ (some (.inl v)) σ' := by
  refine mMet_intro (plainFor_of_name (by decide)) hG (Nat.le_of_ble_eq_true rfl) (fun f hl hR C0 hFin => ?_)
  subst hl
  have hFr := mFr_of hR hFin
  unfold f_X10_areTurn at h
  show mWW f (mw0 e) sc0 6 (0, [some (.inl a0), some (.inl a1), some (.inl a2), none, none, none], [], σ)
  refine m_blk C0 (pX10_ok rfl) kX10_areTurn_ok 0 1 (1, [some (.inl a0), some (.inl a1), some (.inl a2), none, none, none], [.inl a0], σ) (Ps := []) rfl trivial ?_
  obtain ⟨⟨v5, s4⟩, hq28, h⟩ := g_bind h
  refine c_S (rest := []) C0 hFr (t_X10_isCode hG f.2.1 N hq28) lk_X10_24 (k_at kX10_areTurn_ok 1 rfl) rfl rfl rfl (by decide) (by decide) (Nat.le_of_ble_eq_true rfl) ?_
  refine b_eq C0 kX10_areTurn_ok 2 (off := 17) (tgt := 21) rfl (by decide) (fun hb27 => ?_) (fun hb27 => ?_)
  · replace h := g_pos hb27 h
    refine m_blk C0 (pX10_ok rfl) kX10_areTurn_ok 9 1 (22, [some (.inl a0), some (.inl a1), some (.inl a2), none, none, none], [.inl 0], s4) (Ps := []) rfl trivial ?_
    cases h
    exact m_iret C0 hFin (k_at kX10_areTurn_ok 10 rfl) (Or.inr ⟨rfl, by decide⟩)
  · replace h := g_neg hb27 h
    refine m_blk C0 (pX10_ok rfl) kX10_areTurn_ok 3 1 (8, [some (.inl a0), some (.inl a1), some (.inl a2), none, none, none], [.inl a1], s4) (Ps := []) rfl trivial ?_
    obtain ⟨⟨v7, s6⟩, hq26, h⟩ := g_bind h
    refine c_S (rest := []) C0 hFr (t_X10_isCode hG f.2.1 N hq26) lk_X10_24 (k_at kX10_areTurn_ok 4 rfl) rfl rfl rfl (by decide) (by decide) (Nat.le_of_ble_eq_true rfl) ?_
    refine b_eq C0 kX10_areTurn_ok 5 (off := 10) (tgt := 21) rfl (by decide) (fun hb25 => ?_) (fun hb25 => ?_)
    · replace h := g_pos hb25 h
      refine m_blk C0 (pX10_ok rfl) kX10_areTurn_ok 9 1 (22, [some (.inl a0), some (.inl a1), some (.inl a2), none, none, none], [.inl 0], s6) (Ps := []) rfl trivial ?_
      cases h
      exact m_iret C0 hFin (k_at kX10_areTurn_ok 10 rfl) (Or.inr ⟨rfl, by decide⟩)
    · replace h := g_neg hb25 h
      refine m_blk C0 (pX10_ok rfl) kX10_areTurn_ok 6 1 (15, [some (.inl a0), some (.inl a1), some (.inl a2), none, none, none], [.inl a2], s6) (Ps := []) rfl trivial ?_
      obtain ⟨⟨v9, s8⟩, hq24, h⟩ := g_bind h
      refine c_S (rest := []) C0 hFr (t_X10_isCode hG f.2.1 N hq24) lk_X10_24 (k_at kX10_areTurn_ok 7 rfl) rfl rfl rfl (by decide) (by decide) (Nat.le_of_ble_eq_true rfl) ?_
      refine b_ne C0 kX10_areTurn_ok 8 (off := 5) (tgt := 23) rfl (by decide) (fun hb23 => ?_) (fun hb23 => ?_)
      · replace h := g_neg hb23 h
        refine m_blk C0 (pX10_ok rfl) kX10_areTurn_ok 11 1 (24, [some (.inl a0), some (.inl a1), some (.inl a2), none, none, none], [.inl a0], s8) (Ps := []) rfl trivial ?_
        obtain ⟨⟨v12, s11⟩, hq22, h⟩ := g_bind h
        refine c_SN (rest := []) C0 hFr (t_X11_indexOfCode hG f.2.1 N hq22) lk_X10_28 (k_at kX10_areTurn_ok 12 rfl) rfl rfl rfl (by decide) (by decide) (Nat.le_of_ble_eq_true rfl) ?_
        refine m_blk C0 (pX10_ok rfl) kX10_areTurn_ok 13 2 (29, [some (.inl a0), some (.inl a1), some (.inl a2), some (.inl v12), none, none], [.inl a1], s11) (Ps := []) rfl trivial ?_
        obtain ⟨⟨v14, s13⟩, hq21, h⟩ := g_bind h
        refine c_SN (rest := []) C0 hFr (t_X11_indexOfCode hG f.2.1 N hq21) lk_X10_28 (k_at kX10_areTurn_ok 15 rfl) rfl rfl rfl (by decide) (by decide) (Nat.le_of_ble_eq_true rfl) ?_
        refine m_blk C0 (pX10_ok rfl) kX10_areTurn_ok 16 2 (35, [some (.inl a0), some (.inl a1), some (.inl a2), some (.inl v12), some (.inl v14), none], [.inl a2], s13) (Ps := []) rfl trivial ?_
        obtain ⟨⟨v16, s15⟩, hq20, h⟩ := g_bind h
        refine c_SN (rest := []) C0 hFr (t_X11_indexOfCode hG f.2.1 N hq20) lk_X10_28 (k_at kX10_areTurn_ok 18 rfl) rfl rfl rfl (by decide) (by decide) (Nat.le_of_ble_eq_true rfl) ?_
        refine m_blk C0 (pX10_ok rfl) kX10_areTurn_ok 19 3 (43, [some (.inl a0), some (.inl a1), some (.inl a2), some (.inl v12), some (.inl v14), some (.inl v16)], [.inl v14, .inl v12], s15) (Ps := []) rfl trivial ?_
        refine b_ieq C0 kX10_areTurn_ok 22 (off := 20) (tgt := 63) rfl (by decide) (fun hb19 => ?_) (fun hb19 => ?_)
        · replace h := g_pos hb19 h
          refine m_blk C0 (pX10_ok rfl) kX10_areTurn_ok 31 1 (64, [some (.inl a0), some (.inl a1), some (.inl a2), some (.inl v12), some (.inl v14), some (.inl v16)], [.inl 0], s15) (Ps := []) rfl trivial ?_
          cases h
          exact m_iret C0 hFin (k_at kX10_areTurn_ok 32 rfl) (Or.inr ⟨rfl, by decide⟩)
        · replace h := g_neg hb19 h
          refine m_blk C0 (pX10_ok rfl) kX10_areTurn_ok 23 2 (49, [some (.inl a0), some (.inl a1), some (.inl a2), some (.inl v12), some (.inl v14), some (.inl v16)], [.inl v16, .inl v12], s15) (Ps := []) rfl trivial ?_
          refine b_ieq C0 kX10_areTurn_ok 25 (off := 14) (tgt := 63) rfl (by decide) (fun hb18 => ?_) (fun hb18 => ?_)
          · replace h := g_pos hb18 h
            refine m_blk C0 (pX10_ok rfl) kX10_areTurn_ok 31 1 (64, [some (.inl a0), some (.inl a1), some (.inl a2), some (.inl v12), some (.inl v14), some (.inl v16)], [.inl 0], s15) (Ps := []) rfl trivial ?_
            cases h
            exact m_iret C0 hFin (k_at kX10_areTurn_ok 32 rfl) (Or.inr ⟨rfl, by decide⟩)
          · replace h := g_neg hb18 h
            refine m_blk C0 (pX10_ok rfl) kX10_areTurn_ok 26 2 (56, [some (.inl a0), some (.inl a1), some (.inl a2), some (.inl v12), some (.inl v14), some (.inl v16)], [.inl v16, .inl v14], s15) (Ps := []) rfl trivial ?_
            refine b_ieq C0 kX10_areTurn_ok 28 (off := 7) (tgt := 63) rfl (by decide) (fun hb17 => ?_) (fun hb17 => ?_)
            · replace h := g_pos hb17 h
              refine m_blk C0 (pX10_ok rfl) kX10_areTurn_ok 31 1 (64, [some (.inl a0), some (.inl a1), some (.inl a2), some (.inl v12), some (.inl v14), some (.inl v16)], [.inl 0], s15) (Ps := []) rfl trivial ?_
              cases h
              exact m_iret C0 hFin (k_at kX10_areTurn_ok 32 rfl) (Or.inr ⟨rfl, by decide⟩)
            · replace h := g_neg hb17 h
              refine m_blk C0 (pX10_ok rfl) kX10_areTurn_ok 29 2 (64, [some (.inl a0), some (.inl a1), some (.inl a2), some (.inl v12), some (.inl v14), some (.inl v16)], [.inl 1], s15) (Ps := []) rfl trivial ?_
              cases h
              exact m_iret C0 hFin (k_at kX10_areTurn_ok 32 rfl) (Or.inr ⟨rfl, by decide⟩)
      · replace h := g_pos hb23 h
        refine m_blk C0 (pX10_ok rfl) kX10_areTurn_ok 9 1 (22, [some (.inl a0), some (.inl a1), some (.inl a2), none, none, none], [.inl 0], s8) (Ps := []) rfl trivial ?_
        cases h
        exact m_iret C0 hFin (k_at kX10_areTurn_ok 10 rfl) (Or.inr ⟨rfl, by decide⟩)
set_option maxRecDepth 100000 in
set_option maxHeartbeats 4000000 in
theorem t_X10_tell {e : mEv} (hG : mGeo (mw0 e) lw_kept) (l : Launch) (N : Nat) {a1 : Int} {a2 : Int} {a3 : Int} {a4 : Int} {σ σ' : mS} {v : Int} (h : f_X10_tell N a1 a2 a3 a4 σ = some (v, σ')) : mMet l (mw0 e) lw_kept 2 yX10_tell cX10_tell 5 (some .boolean) [.inr (.inr (1, 0)), .inl a1, .inl a2, .inl a3, .inl a4] σ (some (.inl v)) σ' := by
  refine mMet_intro (plainFor_of_name (by decide)) hG (Nat.le_of_ble_eq_true rfl) (fun f hl hR C0 hFin => ?_)
  subst hl
  have hFr := mFr_of hR hFin
  unfold f_X10_tell at h
  show mWW f (mw0 e) sc0 5 (0, [some (.inr (.inr (1, 0))), some (.inl a1), some (.inl a2), some (.inl a3), some (.inl a4)], [], σ)
  refine m_blk C0 (pX10_ok rfl) kX10_tell_ok 0 1 (1, [some (.inr (.inr (1, 0))), some (.inl a1), some (.inl a2), some (.inl a3), some (.inl a4)], [.inl a1], σ) (Ps := []) rfl trivial ?_
  refine b_lt C0 kX10_tell_ok 1 (off := 18) (tgt := 19) rfl (by decide) (fun hb34 => ?_) (fun hb34 => ?_)
  · replace h := g_pos hb34 h
    refine m_blk C0 (pX10_ok rfl) kX10_tell_ok 10 1 (20, [some (.inr (.inr (1, 0))), some (.inl a1), some (.inl a2), some (.inl a3), some (.inl a4)], [.inl 0], σ) (Ps := []) rfl trivial ?_
    cases h
    exact m_iret C0 hFin (k_at kX10_tell_ok 11 rfl) (Or.inr ⟨rfl, by decide⟩)
  · replace h := g_neg hb34 h
    refine m_blk C0 (pX10_ok rfl) kX10_tell_ok 2 2 (6, [some (.inr (.inr (1, 0))), some (.inl a1), some (.inl a2), some (.inl a3), some (.inl a4)], [.inl 4, .inl a1], σ) (Ps := []) rfl trivial ?_
    refine b_ige C0 kX10_tell_ok 4 (off := 13) (tgt := 19) rfl (by decide) (fun hb33 => ?_) (fun hb33 => ?_)
    · replace h := g_pos hb33 h
      refine m_blk C0 (pX10_ok rfl) kX10_tell_ok 10 1 (20, [some (.inr (.inr (1, 0))), some (.inl a1), some (.inl a2), some (.inl a3), some (.inl a4)], [.inl 0], σ) (Ps := []) rfl trivial ?_
      cases h
      exact m_iret C0 hFin (k_at kX10_tell_ok 11 rfl) (Or.inr ⟨rfl, by decide⟩)
    · replace h := g_neg hb33 h
      refine m_blk C0 (pX10_ok rfl) kX10_tell_ok 5 3 (13, [some (.inr (.inr (1, 0))), some (.inl a1), some (.inl a2), some (.inl a3), some (.inl a4)], [.inl a4, .inl a3, .inl a2], σ) (Ps := []) rfl trivial ?_
      obtain ⟨⟨v30, s29⟩, hq32, h⟩ := g_bind h
      refine c_S (rest := []) C0 hFr (t_X10_areTurn hG f.2.1 N hq32) lk_X10_20 (k_at kX10_tell_ok 8 rfl) rfl rfl rfl (by decide) (by decide) (Nat.le_of_ble_eq_true rfl) ?_
      refine b_ne C0 kX10_tell_ok 9 (off := 5) (tgt := 21) rfl (by decide) (fun hb31 => ?_) (fun hb31 => ?_)
      · replace h := g_neg hb31 h
        obtain ⟨hc, h⟩ := g_if h
        refine m_blk C0 (pX10_ok rfl) kX10_tell_ok 12 7 (30, [some (.inr (.inr (1, 0))), some (.inl a1), some (.inl a2), some (.inl a3), some (.inl a4)], [], (mup s29 3 a1.toNat 0 a2)) (Ps := [0 ≤ a1 ∧ a1 < 4, 0 ≤ (0 : Int) ∧ (0 : Int) < 3]) rfl (And.intro hc (And.intro (by decide) trivial)) ?_
        refine m_blk C0 (pX10_ok rfl) kX10_tell_ok 19 7 (39, [some (.inr (.inr (1, 0))), some (.inl a1), some (.inl a2), some (.inl a3), some (.inl a4)], [], (mup (mup s29 3 a1.toNat 0 a2) 3 a1.toNat 1 a3)) (Ps := [0 ≤ a1 ∧ a1 < 4, 0 ≤ (1 : Int) ∧ (1 : Int) < 3]) rfl (And.intro hc (And.intro (by decide) trivial)) ?_
        refine m_blk C0 (pX10_ok rfl) kX10_tell_ok 26 7 (49, [some (.inr (.inr (1, 0))), some (.inl a1), some (.inl a2), some (.inl a3), some (.inl a4)], [], (mup (mup (mup s29 3 a1.toNat 0 a2) 3 a1.toNat 1 a3) 3 a1.toNat 2 a4)) (Ps := [0 ≤ a1 ∧ a1 < 4, 0 ≤ (2 : Int) ∧ (2 : Int) < 3]) rfl (And.intro hc (And.intro (by decide) trivial)) ?_
        refine m_blk C0 (pX10_ok rfl) kX10_tell_ok 33 5 (56, [some (.inr (.inr (1, 0))), some (.inl a1), some (.inl a2), some (.inl a3), some (.inl a4)], [], (mup (mup (mup (mup s29 3 a1.toNat 0 a2) 3 a1.toNat 1 a3) 3 a1.toNat 2 a4) 4 0 a1.toNat 1)) (Ps := [0 ≤ a1 ∧ a1 < 4, (1 : Int) = 0 ∨ (1 : Int) = 1]) rfl (And.intro hc (And.intro (by decide) trivial)) ?_
        refine m_blk C0 (pX10_ok rfl) kX10_tell_ok 38 1 (57, [some (.inr (.inr (1, 0))), some (.inl a1), some (.inl a2), some (.inl a3), some (.inl a4)], [.inl 1], (mup (mup (mup (mup s29 3 a1.toNat 0 a2) 3 a1.toNat 1 a3) 3 a1.toNat 2 a4) 4 0 a1.toNat 1)) (Ps := []) rfl trivial ?_
        cases h
        exact m_iret C0 hFin (k_at kX10_tell_ok 39 rfl) (Or.inr ⟨rfl, by decide⟩)
      · replace h := g_pos hb31 h
        refine m_blk C0 (pX10_ok rfl) kX10_tell_ok 10 1 (20, [some (.inr (.inr (1, 0))), some (.inl a1), some (.inl a2), some (.inl a3), some (.inl a4)], [.inl 0], s29) (Ps := []) rfl trivial ?_
        cases h
        exact m_iret C0 hFin (k_at kX10_tell_ok 11 rfl) (Or.inr ⟨rfl, by decide⟩)
set_option maxRecDepth 100000 in
set_option maxHeartbeats 4000000 in
theorem t_X11_turn {e : mEv} (hG : mGeo (mw0 e) lw_kept) (l : Launch) (N : Nat) {a1 : Int} {a2 : Int} {a3 : Int} {a4 : Int} {σ σ' : mS} {v : Int} (h : f_X11_turn N a1 a2 a3 a4 σ = some (v, σ')) : mMet l (mw0 e) lw_kept 3 yX11_turn cX11_turn 5 (some .boolean) [.inr (.inr (0, 0)), .inl a1, .inl a2, .inl a3, .inl a4] σ (some (.inl v)) σ' := by
  refine mMet_intro (plainFor_of_name (by decide)) hG (Nat.le_of_ble_eq_true rfl) (fun f hl hR C0 hFin => ?_)
  subst hl
  have hFr := mFr_of hR hFin
  unfold f_X11_turn at h
  show mWW f (mw0 e) sc0 5 (0, [some (.inr (.inr (0, 0))), some (.inl a1), some (.inl a2), some (.inl a3), some (.inl a4)], [], σ)
  refine m_blk C0 (pX11_ok rfl) kX11_turn_ok 0 6 (9, [some (.inr (.inr (0, 0))), some (.inl a1), some (.inl a2), some (.inl a3), some (.inl a4)], [.inl a4, .inl a3, .inl a2, .inl a1, .inr (.inr (1, 0))], σ) (Ps := []) rfl trivial ?_
  obtain ⟨⟨v36, s35⟩, hq37, h⟩ := g_bind h
  refine c_V (rest := []) C0 hFr (t_X10_tell hG f.2.1 N hq37) lk_X11_78 (k_at kX11_turn_ok 6 rfl) rfl rfl rfl rfl ⟨_, _, rfl⟩ (by decide) (by decide) (Nat.le_of_ble_eq_true rfl) ?_
  obtain ⟨hz, h⟩ := g_if h
  cases h
  exact m_iret C0 hFin (k_at kX11_turn_ok 7 rfl) (Or.inr ⟨rfl, hz⟩)
set_option maxRecDepth 100000 in
set_option maxHeartbeats 4000000 in
theorem t_X10_forget {e : mEv} (hG : mGeo (mw0 e) lw_kept) (l : Launch) (N : Nat) {a1 : Int} {σ σ' : mS} {v : Int} (h : f_X10_forget N a1 σ = some (v, σ')) : mMet l (mw0 e) lw_kept 0 yX10_forget cX10_forget 2 (some .boolean) [.inr (.inr (1, 0)), .inl a1] σ (some (.inl v)) σ' := by
  refine mMet_intro (plainFor_of_name (by decide)) hG (Nat.le_of_ble_eq_true rfl) (fun f hl hR C0 hFin => ?_)
  subst hl
  have hFr := mFr_of hR hFin
  unfold f_X10_forget at h
  show mWW f (mw0 e) sc0 2 (0, [some (.inr (.inr (1, 0))), some (.inl a1)], [], σ)
  refine m_blk C0 (pX10_ok rfl) kX10_forget_ok 0 1 (1, [some (.inr (.inr (1, 0))), some (.inl a1)], [.inl a1], σ) (Ps := []) rfl trivial ?_
  refine b_lt C0 kX10_forget_ok 1 (off := 17) (tgt := 18) rfl (by decide) (fun hb40 => ?_) (fun hb40 => ?_)
  · replace h := g_pos hb40 h
    refine m_blk C0 (pX10_ok rfl) kX10_forget_ok 10 1 (19, [some (.inr (.inr (1, 0))), some (.inl a1)], [.inl 0], σ) (Ps := []) rfl trivial ?_
    cases h
    exact m_iret C0 hFin (k_at kX10_forget_ok 11 rfl) (Or.inr ⟨rfl, by decide⟩)
  · replace h := g_neg hb40 h
    refine m_blk C0 (pX10_ok rfl) kX10_forget_ok 2 2 (6, [some (.inr (.inr (1, 0))), some (.inl a1)], [.inl 4, .inl a1], σ) (Ps := []) rfl trivial ?_
    refine b_ige C0 kX10_forget_ok 4 (off := 12) (tgt := 18) rfl (by decide) (fun hb39 => ?_) (fun hb39 => ?_)
    · replace h := g_pos hb39 h
      refine m_blk C0 (pX10_ok rfl) kX10_forget_ok 10 1 (19, [some (.inr (.inr (1, 0))), some (.inl a1)], [.inl 0], σ) (Ps := []) rfl trivial ?_
      cases h
      exact m_iret C0 hFin (k_at kX10_forget_ok 11 rfl) (Or.inr ⟨rfl, by decide⟩)
    · replace h := g_neg hb39 h
      obtain ⟨hc, h⟩ := g_if h
      refine m_blk C0 (pX10_ok rfl) kX10_forget_ok 5 4 (15, [some (.inr (.inr (1, 0))), some (.inl a1)], [.inl (σ 4 0 a1.toNat)], σ) (Ps := [0 ≤ a1 ∧ a1 < 4]) rfl (And.intro hc trivial) ?_
      refine b_ne C0 kX10_forget_ok 9 (off := 5) (tgt := 20) rfl (by decide) (fun hb38 => ?_) (fun hb38 => ?_)
      · replace h := g_neg hb38 h
        obtain ⟨hc, h⟩ := g_if h
        refine m_blk C0 (pX10_ok rfl) kX10_forget_ok 12 5 (27, [some (.inr (.inr (1, 0))), some (.inl a1)], [], (mup σ 4 0 a1.toNat 0)) (Ps := [0 ≤ a1 ∧ a1 < 4, (0 : Int) = 0 ∨ (0 : Int) = 1]) rfl (And.intro hc (And.intro (by decide) trivial)) ?_
        refine m_blk C0 (pX10_ok rfl) kX10_forget_ok 17 1 (28, [some (.inr (.inr (1, 0))), some (.inl a1)], [.inl 1], (mup σ 4 0 a1.toNat 0)) (Ps := []) rfl trivial ?_
        cases h
        exact m_iret C0 hFin (k_at kX10_forget_ok 18 rfl) (Or.inr ⟨rfl, by decide⟩)
      · replace h := g_pos hb38 h
        refine m_blk C0 (pX10_ok rfl) kX10_forget_ok 10 1 (19, [some (.inr (.inr (1, 0))), some (.inl a1)], [.inl 0], σ) (Ps := []) rfl trivial ?_
        cases h
        exact m_iret C0 hFin (k_at kX10_forget_ok 11 rfl) (Or.inr ⟨rfl, by decide⟩)
set_option maxRecDepth 100000 in
set_option maxHeartbeats 4000000 in
theorem t_X11_drop {e : mEv} (hG : mGeo (mw0 e) lw_kept) (l : Launch) (N : Nat) {a1 : Int} {σ σ' : mS} {v : Int} (h : f_X11_drop N a1 σ = some (v, σ')) : mMet l (mw0 e) lw_kept 1 yX11_drop cX11_drop 2 (some .boolean) [.inr (.inr (0, 0)), .inl a1] σ (some (.inl v)) σ' := by
  refine mMet_intro (plainFor_of_name (by decide)) hG (Nat.le_of_ble_eq_true rfl) (fun f hl hR C0 hFin => ?_)
  subst hl
  have hFr := mFr_of hR hFin
  unfold f_X11_drop at h
  show mWW f (mw0 e) sc0 2 (0, [some (.inr (.inr (0, 0))), some (.inl a1)], [], σ)
  refine m_blk C0 (pX11_ok rfl) kX11_drop_ok 0 3 (5, [some (.inr (.inr (0, 0))), some (.inl a1)], [.inl a1, .inr (.inr (1, 0))], σ) (Ps := []) rfl trivial ?_
  obtain ⟨⟨v42, s41⟩, hq43, h⟩ := g_bind h
  refine c_V (rest := []) C0 hFr (t_X10_forget hG f.2.1 N hq43) lk_X11_82 (k_at kX11_drop_ok 3 rfl) rfl rfl rfl rfl ⟨_, _, rfl⟩ (by decide) (by decide) (Nat.le_of_ble_eq_true rfl) ?_
  obtain ⟨hz, h⟩ := g_if h
  cases h
  exact m_iret C0 hFin (k_at kX11_drop_ok 4 rfl) (Or.inr ⟨rfl, hz⟩)
set_option maxRecDepth 100000 in
set_option maxHeartbeats 4000000 in
theorem p_X1_takeTurns_7 {e : mEv} (hG : mGeo (mw0 e) lw_kept) (N : Nat) {f : mFx} (C0 : mCx f (mw0 e) sc0 cX1_takeTurns 3 RX1 lw_kept) (hFr : mFr f 1) : ∀ (n : Nat) (x2 : Int) (σ : mS) (σ' : mS), L_X1_takeTurns_7 N n x2 σ = some σ' → mWW f (mw0 e) sc0 3 (58, [none, none, none], [], σ') → mWW f (mw0 e) sc0 3 (7, [some (.inr (.inr (5, 0))), some (.inr (.inr (1, 0))), some (.inl x2)], [], σ) := by
  intro n
  induction n with
  | zero =>
    intro x2 σ σ' h hK
    cases h
  | succ n IH =>
    intro x2 σ σ' h hK
    rw [L_X1_takeTurns_7_s] at h
    refine m_blk C0 (pX1_ok rfl) kX1_takeTurns_ok 5 2 (9, [some (.inr (.inr (5, 0))), some (.inr (.inr (1, 0))), some (.inl x2)], [.inl 4, .inl x2], σ) (Ps := []) rfl trivial ?_
    refine b_ige C0 kX1_takeTurns_ok 7 (off := 49) (tgt := 58) rfl (by decide) (fun hb45 => ?_) (fun hb45 => ?_)
    · replace h := g_pos hb45 h
      cases h
      refine m_mask [false, false, false] (ls' := [none, none, none]) rfl ?_
      exact hK
    · replace h := g_neg hb45 h
      obtain ⟨hc, h⟩ := g_if h
      refine m_blk C0 (pX1_ok rfl) kX1_takeTurns_ok 8 4 (18, [some (.inr (.inr (5, 0))), some (.inr (.inr (1, 0))), some (.inl x2)], [.inl (σ 4 0 x2.toNat)], σ) (Ps := [0 ≤ x2 ∧ x2 < 4]) rfl (And.intro hc trivial) ?_
      refine b_eq C0 kX1_takeTurns_ok 12 (off := 34) (tgt := 52) rfl (by decide) (fun hb44 => ?_) (fun hb44 => ?_)
      · replace h := g_pos hb44 h
        refine m_blk C0 (pX1_ok rfl) kX1_takeTurns_ok 32 2 (7, [some (.inr (.inr (5, 0))), some (.inr (.inr (1, 0))), some (.inl (mw (x2 + 1)))], [], σ) (Ps := []) rfl trivial ?_
        refine m_mask [true, true, true] (ls' := [some (.inr (.inr (5, 0))), some (.inr (.inr (1, 0))), some (.inl (mw (x2 + 1)))]) rfl ?_
        exact IH _ _ _ h hK
      · replace h := g_neg hb44 h
        obtain ⟨hc, h⟩ := g_if h
        refine m_blk C0 (pX1_ok rfl) kX1_takeTurns_ok 13 12 (39, [some (.inr (.inr (5, 0))), some (.inr (.inr (1, 0))), some (.inl x2)], [.inl 3, .inl 0, .inr (.inr (10, (σ 5 0 1).toNat)), .inl 0, .inr (.inr (3, x2.toNat))], σ) (Ps := [0 ≤ x2 ∧ x2 < 4, 0 ≤ (σ 5 0 1) ∧ (σ 5 0 1) < 4]) rfl (And.intro hc.1 (And.intro hc.2 trivial)) ?_
        refine c_copy (rest := []) C0 hFr lkc_0 (k_at kX1_takeTurns_ok 25 rfl) rfl rfl rfl (by decide) (Nat.le_of_ble_eq_true rfl) (show 0 ≤ (0 : Int) ∧ 0 ≤ (0 : Int) ∧ 0 ≤ (3 : Int) ∧ (0 : Int) + 3 ≤ 3 ∧ (0 : Int) + 3 ≤ 3 from by decide) ?_
        refine m_blk C0 (pX1_ok rfl) kX1_takeTurns_ok 26 6 (52, [some (.inr (.inr (5, 0))), some (.inr (.inr (1, 0))), some (.inl x2)], [], (mup (mcp σ 3 x2.toNat 0 10 ((σ 5 0 1).toNat) 0 3) 5 0 1 (mw ((σ 5 0 1) + 1)))) (Ps := []) rfl trivial ?_
        refine m_blk C0 (pX1_ok rfl) kX1_takeTurns_ok 32 2 (7, [some (.inr (.inr (5, 0))), some (.inr (.inr (1, 0))), some (.inl (mw (x2 + 1)))], [], (mup (mcp σ 3 x2.toNat 0 10 ((σ 5 0 1).toNat) 0 3) 5 0 1 (mw ((σ 5 0 1) + 1)))) (Ps := []) rfl trivial ?_
        refine m_mask [true, true, true] (ls' := [some (.inr (.inr (5, 0))), some (.inr (.inr (1, 0))), some (.inl (mw (x2 + 1)))]) rfl ?_
        exact IH _ _ _ h hK
set_option maxRecDepth 100000 in
set_option maxHeartbeats 4000000 in
theorem t_X1_takeTurns {e : mEv} (hG : mGeo (mw0 e) lw_kept) (l : Launch) (N : Nat) {σ σ' : mS} (h : f_X1_takeTurns N σ = some σ') : mMet l (mw0 e) lw_kept 1 yX1_takeTurns cX1_takeTurns 3 none [.inr (.inr (5, 0)), .inr (.inr (1, 0))] σ none σ' := by
  refine mMet_intro (plainFor_of_name (by decide)) hG (Nat.le_of_ble_eq_true rfl) (fun f hl hR C0 hFin => ?_)
  subst hl
  have hFr := mFr_of hR hFin
  unfold f_X1_takeTurns at h
  show mWW f (mw0 e) sc0 3 (0, [some (.inr (.inr (5, 0))), some (.inr (.inr (1, 0))), none], [], σ)
  refine m_blk C0 (pX1_ok rfl) kX1_takeTurns_ok 0 3 (5, [some (.inr (.inr (5, 0))), some (.inr (.inr (1, 0))), none], [], (mup σ 5 0 1 0)) (Ps := []) rfl trivial ?_
  refine m_blk C0 (pX1_ok rfl) kX1_takeTurns_ok 3 2 (7, [some (.inr (.inr (5, 0))), some (.inr (.inr (1, 0))), some (.inl 0)], [], (mup σ 5 0 1 0)) (Ps := []) rfl trivial ?_
  obtain ⟨s46, hq47, h⟩ := g_bind h
  refine m_mask [true, true, true] (ls' := [some (.inr (.inr (5, 0))), some (.inr (.inr (1, 0))), some (.inl 0)]) rfl ?_
  refine p_X1_takeTurns_7 hG N C0 hFr N _ _ _ hq47 ?_
  cases h
  exact m_vret C0 hFin (k_at kX1_takeTurns_ok 34 rfl)
set_option maxRecDepth 100000 in
set_option maxHeartbeats 4000000 in
theorem p_J7_fill_53178_r8_5 {e : mEv} (hG : mGeo (mw0 e) lw_kept) (N : Nat) {f : mFx} (C0 : mCx f (mw0 e) sc0 cJ7_fill_53178 4 RJ7 lw_kept) (hFr : mFr f 0) : ∀ (n : Nat) (x1 : Int) (x2 : Int) (x3 : Int) (σ : mS) (σ' : mS), L_J7_fill_53178_r8_5 N n x1 x2 x3 σ = some σ' → mWW f (mw0 e) sc0 4 (20, [none, none, none, none], [], σ') → mWW f (mw0 e) sc0 4 (5, [some (.inr (.inr (8, 0))), some (.inl x1), some (.inl x2), some (.inl x3)], [], σ) := by
  intro n
  induction n with
  | zero =>
    intro x1 x2 x3 σ σ' h hK
    cases h
  | succ n IH =>
    intro x1 x2 x3 σ σ' h hK
    rw [L_J7_fill_53178_r8_5_s] at h
    refine m_blk C0 (pJ7_ok rfl) kJ7_fill_53178_ok 5 2 (7, [some (.inr (.inr (8, 0))), some (.inl x1), some (.inl x2), some (.inl x3)], [.inl x3, .inl x2], σ) (Ps := []) rfl trivial ?_
    refine b_ige C0 kJ7_fill_53178_ok 7 (off := 13) (tgt := 20) rfl (by decide) (fun hb49 => ?_) (fun hb49 => ?_)
    · replace h := g_pos hb49 h
      cases h
      refine m_mask [false, false, false, false] (ls' := [none, none, none, none]) rfl ?_
      exact hK
    · replace h := g_neg hb49 h
      obtain ⟨hc, h⟩ := g_if h
      refine m_blk C0 (pJ7_ok rfl) kJ7_fill_53178_ok 8 4 (14, [some (.inr (.inr (8, 0))), some (.inl x1), some (.inl x2), some (.inl x3)], [], (mup σ 8 0 x2.toNat x1)) (Ps := [0 ≤ x2 ∧ x2 < 343]) rfl (And.intro hc trivial) ?_
      refine m_blk C0 (pJ7_ok rfl) kJ7_fill_53178_ok 12 2 (5, [some (.inr (.inr (8, 0))), some (.inl x1), some (.inl (mw (x2 + 1))), some (.inl x3)], [], (mup σ 8 0 x2.toNat x1)) (Ps := []) rfl trivial ?_
      refine m_mask [true, true, true, true] (ls' := [some (.inr (.inr (8, 0))), some (.inl x1), some (.inl (mw (x2 + 1))), some (.inl x3)]) rfl ?_
      exact IH _ _ _ _ _ h hK
set_option maxRecDepth 100000 in
set_option maxHeartbeats 4000000 in
theorem t_J7_fill_53178_r8 {e : mEv} (hG : mGeo (mw0 e) lw_kept) (l : Launch) (N : Nat) {a1 : Int} {σ σ' : mS} (h : f_J7_fill_53178_r8 N a1 σ = some σ') : mMet l (mw0 e) lw_kept 0 yJ7_fill_53178 cJ7_fill_53178 4 none [.inr (.inr (8, 0)), .inl a1] σ none σ' := by
  refine mMet_intro (by decide +kernel) hG (Nat.le_of_ble_eq_true rfl) (fun f hl hR C0 hFin => ?_)
  subst hl
  have hFr := mFr_of hR hFin
  unfold f_J7_fill_53178_r8 at h
  show mWW f (mw0 e) sc0 4 (0, [some (.inr (.inr (8, 0))), some (.inl a1), none, none], [], σ)
  refine m_blk C0 (pJ7_ok rfl) kJ7_fill_53178_ok 0 5 (5, [some (.inr (.inr (8, 0))), some (.inl a1), some (.inl 0), some (.inl 343)], [], σ) (Ps := []) rfl trivial ?_
  obtain ⟨s50, hq51, h⟩ := g_bind h
  refine m_mask [true, true, true, true] (ls' := [some (.inr (.inr (8, 0))), some (.inl a1), some (.inl 0), some (.inl 343)]) rfl ?_
  refine p_J7_fill_53178_r8_5 hG N C0 hFr N _ _ _ _ _ hq51 ?_
  cases h
  exact m_vret C0 hFin (k_at kJ7_fill_53178_ok 14 rfl)
set_option maxRecDepth 100000 in
set_option maxHeartbeats 4000000 in
theorem t_J9_max_7cf53 {e : mEv} (hG : mGeo (mw0 e) lw_kept) (l : Launch) (N : Nat) {a0 : Int} {a1 : Int} {σ σ' : mS} {v : Int} (h : f_J9_max_7cf53 N a0 a1 σ = some (v, σ')) : mMet l (mw0 e) lw_kept 0 yJ9_max_7cf53 cJ9_max_7cf53 2 (some .int) [.inl a0, .inl a1] σ (some (.inl v)) σ' := by
  refine mMet_intro (by decide +kernel) hG (Nat.le_of_ble_eq_true rfl) (fun f hl hR C0 hFin => ?_)
  subst hl
  have hFr := mFr_of hR hFin
  unfold f_J9_max_7cf53 at h
  show mWW f (mw0 e) sc0 2 (0, [some (.inl a0), some (.inl a1)], [], σ)
  refine m_blk C0 (pJ9_ok rfl) kJ9_max_7cf53_ok 0 2 (2, [some (.inl a0), some (.inl a1)], [.inl a1, .inl a0], σ) (Ps := []) rfl trivial ?_
  refine b_ilt C0 kJ9_max_7cf53_ok 2 (off := 7) (tgt := 9) rfl (by decide) (fun hb53 => ?_) (fun hb53 => ?_)
  · replace h := g_pos hb53 h
    refine m_blk C0 (pJ9_ok rfl) kJ9_max_7cf53_ok 5 1 (10, [some (.inl a0), some (.inl a1)], [.inl a1], σ) (Ps := []) rfl trivial ?_
    cases h
    exact m_iret C0 hFin (k_at kJ9_max_7cf53_ok 6 rfl) (Or.inl rfl)
  · replace h := g_neg hb53 h
    refine m_blk C0 (pJ9_ok rfl) kJ9_max_7cf53_ok 3 2 (10, [some (.inl a0), some (.inl a1)], [.inl a0], σ) (Ps := []) rfl trivial ?_
    cases h
    exact m_iret C0 hFin (k_at kJ9_max_7cf53_ok 6 rfl) (Or.inl rfl)
set_option maxRecDepth 100000 in
set_option maxHeartbeats 4000000 in
theorem t_X1_findOrAdd {e : mEv} (hG : mGeo (mw0 e) lw_kept) (l : Launch) (N : Nat) {a1 : Int} {a2 : Int} {a3 : Int} {a4 : Int} {a5 : Int} {σ σ' : mS} {v : Int} (h : f_X1_findOrAdd N a1 a2 a3 a4 a5 σ = some (v, σ')) : mMet l (mw0 e) lw_kept 1 yX1_findOrAdd cX1_findOrAdd 7 (some .int) [.inr (.inr (5, 0)), .inl a1, .inl a2, .inl a3, .inl a4, .inl a5] σ (some (.inl v)) σ' := by
  refine mMet_intro (plainFor_of_name (by decide)) hG (Nat.le_of_ble_eq_true rfl) (fun f hl hR C0 hFin => ?_)
  subst hl
  have hFr := mFr_of hR hFin
  unfold f_X1_findOrAdd at h
  show mWW f (mw0 e) sc0 7 (0, [some (.inr (.inr (5, 0))), some (.inl a1), some (.inl a2), some (.inl a3), some (.inl a4), some (.inl a5), none], [], σ)
  obtain ⟨hc, h⟩ := g_if h
  refine m_blk C0 (pX1_ok rfl) kX1_findOrAdd_ok 0 16 (19, [some (.inr (.inr (5, 0))), some (.inl a1), some (.inl a2), some (.inl a3), some (.inl a4), some (.inl a5), some (.inl (mw ((mw ((mw ((mw ((mw ((mw ((mw (a1 + 3)) * 7)) + a2)) + 3)) * 7)) + a3)) + 3)))], [], σ) (Ps := []) rfl trivial ?_
  refine m_blk C0 (pX1_ok rfl) kX1_findOrAdd_ok 16 5 (27, [some (.inr (.inr (5, 0))), some (.inl a1), some (.inl a2), some (.inl a3), some (.inl a4), some (.inl a5), some (.inl (mw ((mw ((mw ((mw ((mw ((mw ((mw (a1 + 3)) * 7)) + a2)) + 3)) * 7)) + a3)) + 3)))], [.inl (-1), .inl (σ 8 0 ((mw ((mw ((mw ((mw ((mw ((mw ((mw (a1 + 3)) * 7)) + a2)) + 3)) * 7)) + a3)) + 3)).toNat))], σ) (Ps := [0 ≤ (mw ((mw ((mw ((mw ((mw ((mw ((mw (a1 + 3)) * 7)) + a2)) + 3)) * 7)) + a3)) + 3)) ∧ (mw ((mw ((mw ((mw ((mw ((mw ((mw (a1 + 3)) * 7)) + a2)) + 3)) * 7)) + a3)) + 3)) < 343]) rfl (And.intro hc trivial) ?_
  refine b_ine C0 kX1_findOrAdd_ok 21 (off := 91) (tgt := 118) rfl (by decide) (fun hb64 => ?_) (fun hb64 => ?_)
  · replace h := g_neg hb64 h
    obtain ⟨hc, h⟩ := g_if h
    refine m_blk C0 (pX1_ok rfl) kX1_findOrAdd_ok 74 5 (126, [some (.inr (.inr (5, 0))), some (.inl a1), some (.inl a2), some (.inl a3), some (.inl a4), some (.inl a5), some (.inl (mw ((mw ((mw ((mw ((mw ((mw ((mw (a1 + 3)) * 7)) + a2)) + 3)) * 7)) + a3)) + 3)))], [.inl (σ 8 0 ((mw ((mw ((mw ((mw ((mw ((mw ((mw (a1 + 3)) * 7)) + a2)) + 3)) * 7)) + a3)) + 3)).toNat)), .inl 0], σ) (Ps := [0 ≤ (mw ((mw ((mw ((mw ((mw ((mw ((mw (a1 + 3)) * 7)) + a2)) + 3)) * 7)) + a3)) + 3)) ∧ (mw ((mw ((mw ((mw ((mw ((mw ((mw (a1 + 3)) * 7)) + a2)) + 3)) * 7)) + a3)) + 3)) < 343]) rfl (And.intro hc trivial) ?_
    obtain ⟨⟨v55, s54⟩, hq56, h⟩ := g_bind h
    refine c_S (rest := []) C0 hFr (t_J9_max_7cf53 hG f.2.1 N hq56) lk_X1_118 (k_at kX1_findOrAdd_ok 79 rfl) rfl rfl rfl (by decide) (by decide) (Nat.le_of_ble_eq_true rfl) ?_
    cases h
    exact m_iret C0 hFin (k_at kX1_findOrAdd_ok 80 rfl) (Or.inl rfl)
  · replace h := g_pos hb64 h
    refine m_blk C0 (pX1_ok rfl) kX1_findOrAdd_ok 22 3 (36, [some (.inr (.inr (5, 0))), some (.inl a1), some (.inl a2), some (.inl a3), some (.inl a4), some (.inl a5), some (.inl (mw ((mw ((mw ((mw ((mw ((mw ((mw (a1 + 3)) * 7)) + a2)) + 3)) * 7)) + a3)) + 3)))], [.inl 48, .inl (σ 5 0 0)], σ) (Ps := []) rfl trivial ?_
    refine b_ige C0 kX1_findOrAdd_ok 25 (off := 82) (tgt := 118) rfl (by decide) (fun hb63 => ?_) (fun hb63 => ?_)
    · replace h := g_pos hb63 h
      obtain ⟨hc, h⟩ := g_if h
      refine m_blk C0 (pX1_ok rfl) kX1_findOrAdd_ok 74 5 (126, [some (.inr (.inr (5, 0))), some (.inl a1), some (.inl a2), some (.inl a3), some (.inl a4), some (.inl a5), some (.inl (mw ((mw ((mw ((mw ((mw ((mw ((mw (a1 + 3)) * 7)) + a2)) + 3)) * 7)) + a3)) + 3)))], [.inl (σ 8 0 ((mw ((mw ((mw ((mw ((mw ((mw ((mw (a1 + 3)) * 7)) + a2)) + 3)) * 7)) + a3)) + 3)).toNat)), .inl 0], σ) (Ps := [0 ≤ (mw ((mw ((mw ((mw ((mw ((mw ((mw (a1 + 3)) * 7)) + a2)) + 3)) * 7)) + a3)) + 3)) ∧ (mw ((mw ((mw ((mw ((mw ((mw ((mw (a1 + 3)) * 7)) + a2)) + 3)) * 7)) + a3)) + 3)) < 343]) rfl (And.intro hc trivial) ?_
      obtain ⟨⟨v58, s57⟩, hq59, h⟩ := g_bind h
      refine c_S (rest := []) C0 hFr (t_J9_max_7cf53 hG f.2.1 N hq59) lk_X1_118 (k_at kX1_findOrAdd_ok 79 rfl) rfl rfl rfl (by decide) (by decide) (Nat.le_of_ble_eq_true rfl) ?_
      cases h
      exact m_iret C0 hFin (k_at kX1_findOrAdd_ok 80 rfl) (Or.inl rfl)
    · replace h := g_neg hb63 h
      obtain ⟨hc, h⟩ := g_if h
      refine m_blk C0 (pX1_ok rfl) kX1_findOrAdd_ok 26 6 (50, [some (.inr (.inr (5, 0))), some (.inl a1), some (.inl a2), some (.inl a3), some (.inl a4), some (.inl a5), some (.inl (mw ((mw ((mw ((mw ((mw ((mw ((mw (a1 + 3)) * 7)) + a2)) + 3)) * 7)) + a3)) + 3)))], [], (mup σ 8 0 ((mw ((mw ((mw ((mw ((mw ((mw ((mw (a1 + 3)) * 7)) + a2)) + 3)) * 7)) + a3)) + 3)).toNat) (σ 5 0 0))) (Ps := [0 ≤ (mw ((mw ((mw ((mw ((mw ((mw ((mw (a1 + 3)) * 7)) + a2)) + 3)) * 7)) + a3)) + 3)) ∧ (mw ((mw ((mw ((mw ((mw ((mw ((mw (a1 + 3)) * 7)) + a2)) + 3)) * 7)) + a3)) + 3)) < 343]) rfl (And.intro hc.1 trivial) ?_
      refine m_blk C0 (pX1_ok rfl) kX1_findOrAdd_ok 32 8 (62, [some (.inr (.inr (5, 0))), some (.inl a1), some (.inl a2), some (.inl a3), some (.inl a4), some (.inl a5), some (.inl (mw ((mw ((mw ((mw ((mw ((mw ((mw (a1 + 3)) * 7)) + a2)) + 3)) * 7)) + a3)) + 3)))], [], (mup (mup σ 8 0 ((mw ((mw ((mw ((mw ((mw ((mw ((mw (a1 + 3)) * 7)) + a2)) + 3)) * 7)) + a3)) + 3)).toNat) (σ 5 0 0)) 7 ((σ 5 0 0).toNat) 0 a1)) (Ps := [0 ≤ (σ 5 0 0) ∧ (σ 5 0 0) < 48, 0 ≤ (0 : Int) ∧ (0 : Int) < 3]) rfl (And.intro hc.2 (And.intro (by decide) trivial)) ?_
      refine m_blk C0 (pX1_ok rfl) kX1_findOrAdd_ok 40 8 (74, [some (.inr (.inr (5, 0))), some (.inl a1), some (.inl a2), some (.inl a3), some (.inl a4), some (.inl a5), some (.inl (mw ((mw ((mw ((mw ((mw ((mw ((mw (a1 + 3)) * 7)) + a2)) + 3)) * 7)) + a3)) + 3)))], [], (mup (mup (mup σ 8 0 ((mw ((mw ((mw ((mw ((mw ((mw ((mw (a1 + 3)) * 7)) + a2)) + 3)) * 7)) + a3)) + 3)).toNat) (σ 5 0 0)) 7 ((σ 5 0 0).toNat) 0 a1) 7 ((σ 5 0 0).toNat) 1 a2)) (Ps := [0 ≤ (σ 5 0 0) ∧ (σ 5 0 0) < 48, 0 ≤ (1 : Int) ∧ (1 : Int) < 3]) rfl (And.intro hc.2 (And.intro (by decide) trivial)) ?_
      refine m_blk C0 (pX1_ok rfl) kX1_findOrAdd_ok 48 8 (86, [some (.inr (.inr (5, 0))), some (.inl a1), some (.inl a2), some (.inl a3), some (.inl a4), some (.inl a5), some (.inl (mw ((mw ((mw ((mw ((mw ((mw ((mw (a1 + 3)) * 7)) + a2)) + 3)) * 7)) + a3)) + 3)))], [], (mup (mup (mup (mup σ 8 0 ((mw ((mw ((mw ((mw ((mw ((mw ((mw (a1 + 3)) * 7)) + a2)) + 3)) * 7)) + a3)) + 3)).toNat) (σ 5 0 0)) 7 ((σ 5 0 0).toNat) 0 a1) 7 ((σ 5 0 0).toNat) 1 a2) 7 ((σ 5 0 0).toNat) 2 a3)) (Ps := [0 ≤ (σ 5 0 0) ∧ (σ 5 0 0) < 48, 0 ≤ (2 : Int) ∧ (2 : Int) < 3]) rfl (And.intro hc.2 (And.intro (by decide) trivial)) ?_
      refine m_blk C0 (pX1_ok rfl) kX1_findOrAdd_ok 56 6 (97, [some (.inr (.inr (5, 0))), some (.inl a1), some (.inl a2), some (.inl a3), some (.inl a4), some (.inl a5), some (.inl (mw ((mw ((mw ((mw ((mw ((mw ((mw (a1 + 3)) * 7)) + a2)) + 3)) * 7)) + a3)) + 3)))], [], (mup (mup (mup (mup (mup σ 8 0 ((mw ((mw ((mw ((mw ((mw ((mw ((mw (a1 + 3)) * 7)) + a2)) + 3)) * 7)) + a3)) + 3)).toNat) (σ 5 0 0)) 7 ((σ 5 0 0).toNat) 0 a1) 7 ((σ 5 0 0).toNat) 1 a2) 7 ((σ 5 0 0).toNat) 2 a3) 13 0 ((σ 5 0 0).toNat) a4)) (Ps := [0 ≤ (σ 5 0 0) ∧ (σ 5 0 0) < 48]) rfl (And.intro hc.2 trivial) ?_
      refine m_blk C0 (pX1_ok rfl) kX1_findOrAdd_ok 62 6 (108, [some (.inr (.inr (5, 0))), some (.inl a1), some (.inl a2), some (.inl a3), some (.inl a4), some (.inl a5), some (.inl (mw ((mw ((mw ((mw ((mw ((mw ((mw (a1 + 3)) * 7)) + a2)) + 3)) * 7)) + a3)) + 3)))], [], (mup (mup (mup (mup (mup (mup σ 8 0 ((mw ((mw ((mw ((mw ((mw ((mw ((mw (a1 + 3)) * 7)) + a2)) + 3)) * 7)) + a3)) + 3)).toNat) (σ 5 0 0)) 7 ((σ 5 0 0).toNat) 0 a1) 7 ((σ 5 0 0).toNat) 1 a2) 7 ((σ 5 0 0).toNat) 2 a3) 13 0 ((σ 5 0 0).toNat) a4) 14 0 ((σ 5 0 0).toNat) a5)) (Ps := [0 ≤ (σ 5 0 0) ∧ (σ 5 0 0) < 48]) rfl (And.intro hc.2 trivial) ?_
      refine m_blk C0 (pX1_ok rfl) kX1_findOrAdd_ok 68 6 (118, [some (.inr (.inr (5, 0))), some (.inl a1), some (.inl a2), some (.inl a3), some (.inl a4), some (.inl a5), some (.inl (mw ((mw ((mw ((mw ((mw ((mw ((mw (a1 + 3)) * 7)) + a2)) + 3)) * 7)) + a3)) + 3)))], [], (mup (mup (mup (mup (mup (mup (mup σ 8 0 ((mw ((mw ((mw ((mw ((mw ((mw ((mw (a1 + 3)) * 7)) + a2)) + 3)) * 7)) + a3)) + 3)).toNat) (σ 5 0 0)) 7 ((σ 5 0 0).toNat) 0 a1) 7 ((σ 5 0 0).toNat) 1 a2) 7 ((σ 5 0 0).toNat) 2 a3) 13 0 ((σ 5 0 0).toNat) a4) 14 0 ((σ 5 0 0).toNat) a5) 5 0 0 (mw ((σ 5 0 0) + 1)))) (Ps := []) rfl trivial ?_
      refine m_blk C0 (pX1_ok rfl) kX1_findOrAdd_ok 74 5 (126, [some (.inr (.inr (5, 0))), some (.inl a1), some (.inl a2), some (.inl a3), some (.inl a4), some (.inl a5), some (.inl (mw ((mw ((mw ((mw ((mw ((mw ((mw (a1 + 3)) * 7)) + a2)) + 3)) * 7)) + a3)) + 3)))], [.inl ((mup σ 8 0 ((mw ((mw ((mw ((mw ((mw ((mw ((mw (a1 + 3)) * 7)) + a2)) + 3)) * 7)) + a3)) + 3)).toNat) (σ 5 0 0)) 8 0 ((mw ((mw ((mw ((mw ((mw ((mw ((mw (a1 + 3)) * 7)) + a2)) + 3)) * 7)) + a3)) + 3)).toNat)), .inl 0], (mup (mup (mup (mup (mup (mup (mup σ 8 0 ((mw ((mw ((mw ((mw ((mw ((mw ((mw (a1 + 3)) * 7)) + a2)) + 3)) * 7)) + a3)) + 3)).toNat) (σ 5 0 0)) 7 ((σ 5 0 0).toNat) 0 a1) 7 ((σ 5 0 0).toNat) 1 a2) 7 ((σ 5 0 0).toNat) 2 a3) 13 0 ((σ 5 0 0).toNat) a4) 14 0 ((σ 5 0 0).toNat) a5) 5 0 0 (mw ((σ 5 0 0) + 1)))) (Ps := [0 ≤ (mw ((mw ((mw ((mw ((mw ((mw ((mw (a1 + 3)) * 7)) + a2)) + 3)) * 7)) + a3)) + 3)) ∧ (mw ((mw ((mw ((mw ((mw ((mw ((mw (a1 + 3)) * 7)) + a2)) + 3)) * 7)) + a3)) + 3)) < 343]) rfl (And.intro hc.1 trivial) ?_
      obtain ⟨⟨v61, s60⟩, hq62, h⟩ := g_bind h
      refine c_S (rest := []) C0 hFr (t_J9_max_7cf53 hG f.2.1 N hq62) lk_X1_118 (k_at kX1_findOrAdd_ok 79 rfl) rfl rfl rfl (by decide) (by decide) (Nat.le_of_ble_eq_true rfl) ?_
      cases h
      exact m_iret C0 hFin (k_at kX1_findOrAdd_ok 80 rfl) (Or.inl rfl)
set_option maxRecDepth 100000 in
set_option maxHeartbeats 4000000 in
theorem t_X1_codeThen_r10 {e : mEv} (hG : mGeo (mw0 e) lw_kept) (l : Launch) (N : Nat) {a0 : Int} {q1 : Nat} {σ σ' : mS} {v : Int} (h : f_X1_codeThen_r10 N a0 q1 σ = some (v, σ')) : mMet l (mw0 e) lw_kept 1 yX1_codeThen cX1_codeThen 3 (some .int) [.inl a0, .inr (.inr (10, q1))] σ (some (.inl v)) σ' := by
  refine mMet_intro (plainFor_of_name (by decide)) hG (Nat.le_of_ble_eq_true rfl) (fun f hl hR C0 hFin => ?_)
  subst hl
  have hFr := mFr_of hR hFin
  unfold f_X1_codeThen_r10 at h
  show mWW f (mw0 e) sc0 3 (0, [some (.inl a0), some (.inr (.inr (10, q1))), none], [], σ)
  refine m_blk C0 (pX1_ok rfl) kX1_codeThen_ok 0 2 (2, [some (.inl a0), some (.inr (.inr (10, q1))), none], [.inl a0, .inr (.inr (10, q1))], σ) (Ps := []) rfl trivial ?_
  obtain ⟨⟨v68, s67⟩, hq70, h⟩ := g_bind h
  refine c_SN (rest := [.inr (.inr (10, q1))]) C0 hFr (t_X11_indexOfCode hG f.2.1 N hq70) lk_X1_114 (k_at kX1_codeThen_ok 2 rfl) rfl rfl rfl (by decide) (by decide) (Nat.le_of_ble_eq_true rfl) ?_
  obtain ⟨hc, h⟩ := g_if h
  refine m_blk C0 (pX1_ok rfl) kX1_codeThen_ok 3 3 (8, [some (.inl a0), some (.inr (.inr (10, q1))), some (.inl (s67 10 q1 v68.toNat))], [.inl a0], s67) (Ps := [0 ≤ v68 ∧ v68 < 3]) rfl (And.intro hc trivial) ?_
  refine b_ge C0 kX1_codeThen_ok 6 (off := 8) (tgt := 16) rfl (by decide) (fun hb69 => ?_) (fun hb69 => ?_)
  · replace h := g_pos hb69 h
    refine m_blk C0 (pX1_ok rfl) kX1_codeThen_ok 10 1 (17, [some (.inl a0), some (.inr (.inr (10, q1))), some (.inl (s67 10 q1 v68.toNat))], [.inl (s67 10 q1 v68.toNat)], s67) (Ps := []) rfl trivial ?_
    cases h
    exact m_iret C0 hFin (k_at kX1_codeThen_ok 11 rfl) (Or.inl rfl)
  · replace h := g_neg hb69 h
    refine m_blk C0 (pX1_ok rfl) kX1_codeThen_ok 7 3 (17, [some (.inl a0), some (.inr (.inr (10, q1))), some (.inl (s67 10 q1 v68.toNat))], [.inl (mw (-(s67 10 q1 v68.toNat)))], s67) (Ps := []) rfl trivial ?_
    cases h
    exact m_iret C0 hFin (k_at kX1_codeThen_ok 11 rfl) (Or.inl rfl)
set_option maxRecDepth 100000 in
set_option maxHeartbeats 4000000 in
theorem t_X1_elementThenTurn {e : mEv} (hG : mGeo (mw0 e) lw_kept) (l : Launch) (N : Nat) {a1 : Int} {a2 : Int} {σ σ' : mS} {v : Int} (h : f_X1_elementThenTurn N a1 a2 σ = some (v, σ')) : mMet l (mw0 e) lw_kept 2 yX1_elementThenTurn cX1_elementThenTurn 5 (some .int) [.inr (.inr (5, 0)), .inl a1, .inl a2] σ (some (.inl v)) σ' := by
  refine mMet_intro (plainFor_of_name (by decide)) hG (Nat.le_of_ble_eq_true rfl) (fun f hl hR C0 hFin => ?_)
  subst hl
  have hFr := mFr_of hR hFin
  unfold f_X1_elementThenTurn at h
  show mWW f (mw0 e) sc0 5 (0, [some (.inr (.inr (5, 0))), some (.inl a1), some (.inl a2), none, none], [], σ)
  obtain ⟨hc, h⟩ := g_if h
  refine m_blk C0 (pX1_ok rfl) kX1_elementThenTurn_ok 0 15 (21, [some (.inr (.inr (5, 0))), some (.inl a1), some (.inl a2), some (.inr (.inr (7, a1.toNat))), some (.inr (.inr (10, a2.toNat)))], [.inr (.inr (10, a2.toNat)), .inl (σ 7 a1.toNat 0), .inr (.inr (5, 0))], σ) (Ps := [0 ≤ a1 ∧ a1 < 48, 0 ≤ a2 ∧ a2 < 4, 0 ≤ (0 : Int) ∧ (0 : Int) < 3]) rfl (And.intro hc.1 (And.intro hc.2 (And.intro (by decide) trivial))) ?_
  obtain ⟨⟨v72, s71⟩, hq82, h⟩ := g_bind h
  refine c_S (rest := [.inr (.inr (5, 0))]) C0 hFr (t_X1_codeThen_r10 hG f.2.1 N hq82) lk_X1_110 (k_at kX1_elementThenTurn_ok 15 rfl) rfl rfl rfl (by decide) (by decide) (Nat.le_of_ble_eq_true rfl) ?_
  refine m_blk C0 (pX1_ok rfl) kX1_elementThenTurn_ok 16 4 (29, [some (.inr (.inr (5, 0))), some (.inl a1), some (.inl a2), some (.inr (.inr (7, a1.toNat))), some (.inr (.inr (10, a2.toNat)))], [.inr (.inr (10, a2.toNat)), .inl (s71 7 a1.toNat 1), .inl v72, .inr (.inr (5, 0))], s71) (Ps := [0 ≤ (1 : Int) ∧ (1 : Int) < 3]) rfl (And.intro (by decide) trivial) ?_
  obtain ⟨⟨v74, s73⟩, hq81, h⟩ := g_bind h
  refine c_S (rest := [.inl v72, .inr (.inr (5, 0))]) C0 hFr (t_X1_codeThen_r10 hG f.2.1 N hq81) lk_X1_110 (k_at kX1_elementThenTurn_ok 20 rfl) rfl rfl rfl (by decide) (by decide) (Nat.le_of_ble_eq_true rfl) ?_
  refine m_blk C0 (pX1_ok rfl) kX1_elementThenTurn_ok 21 4 (37, [some (.inr (.inr (5, 0))), some (.inl a1), some (.inl a2), some (.inr (.inr (7, a1.toNat))), some (.inr (.inr (10, a2.toNat)))], [.inr (.inr (10, a2.toNat)), .inl (s73 7 a1.toNat 2), .inl v74, .inl v72, .inr (.inr (5, 0))], s73) (Ps := [0 ≤ (2 : Int) ∧ (2 : Int) < 3]) rfl (And.intro (by decide) trivial) ?_
  obtain ⟨⟨v76, s75⟩, hq80, h⟩ := g_bind h
  refine c_S (rest := [.inl v74, .inl v72, .inr (.inr (5, 0))]) C0 hFr (t_X1_codeThen_r10 hG f.2.1 N hq80) lk_X1_110 (k_at kX1_elementThenTurn_ok 25 rfl) rfl rfl rfl (by decide) (by decide) (Nat.le_of_ble_eq_true rfl) ?_
  refine m_blk C0 (pX1_ok rfl) kX1_elementThenTurn_ok 26 2 (42, [some (.inr (.inr (5, 0))), some (.inl a1), some (.inl a2), some (.inr (.inr (7, a1.toNat))), some (.inr (.inr (10, a2.toNat)))], [.inl a2, .inl a1, .inl v76, .inl v74, .inl v72, .inr (.inr (5, 0))], s75) (Ps := []) rfl trivial ?_
  obtain ⟨⟨v78, s77⟩, hq79, h⟩ := g_bind h
  refine c_V (rest := []) C0 hFr (t_X1_findOrAdd hG f.2.1 N hq79) lk_X1_75 (k_at kX1_elementThenTurn_ok 28 rfl) rfl rfl rfl rfl ⟨_, _, rfl⟩ (by decide) (by decide) (Nat.le_of_ble_eq_true rfl) ?_
  cases h
  exact m_iret C0 hFin (k_at kX1_elementThenTurn_ok 29 rfl) (Or.inl rfl)
set_option maxRecDepth 100000 in
set_option maxHeartbeats 4000000 in
theorem p_X1_fillTable_21 {e : mEv} (hG : mGeo (mw0 e) lw_kept) (N : Nat) {f : mFx} (C0 : mCx f (mw0 e) sc0 cX1_fillTable 3 RX1 lw_kept) (hFr : mFr f 0) : ∀ (n : Nat) (x1 : Int) (x2 : Int) (σ : mS) (σ' : mS), L_X1_fillTable_21 N n x1 x2 σ = some σ' → mWW f (mw0 e) sc0 3 (68, [some (.inr (.inr (5, 0))), some (.inl x1), none], [], σ') → mWW f (mw0 e) sc0 3 (21, [some (.inr (.inr (5, 0))), some (.inl x1), some (.inl x2)], [], σ) := by
  intro n
  induction n with
  | zero =>
    intro x1 x2 σ σ' h hK
    cases h
  | succ n IH =>
    intro x1 x2 σ σ' h hK
    rw [L_X1_fillTable_21_s] at h
    refine m_blk C0 (pX1_ok rfl) kX1_fillTable_ok 15 3 (26, [some (.inr (.inr (5, 0))), some (.inl x1), some (.inl x2)], [.inl (σ 5 0 0), .inl x2], σ) (Ps := []) rfl trivial ?_
    refine b_ige C0 kX1_fillTable_ok 18 (off := 42) (tgt := 68) rfl (by decide) (fun hb92 => ?_) (fun hb92 => ?_)
    · replace h := g_pos hb92 h
      cases h
      refine m_mask [true, true, false] (ls' := [some (.inr (.inr (5, 0))), some (.inl x1), none]) rfl ?_
      exact hK
    · replace h := g_neg hb92 h
      obtain ⟨hc, h⟩ := g_if h
      refine m_blk C0 (pX1_ok rfl) kX1_fillTable_ok 19 16 (53, [some (.inr (.inr (5, 0))), some (.inl x1), some (.inl x2)], [.inl (σ 16 x1.toNat ((σ 13 0 x2.toNat).toNat)), .inr (.inr (11, 0)), .inl x2, .inr (.inr (16, x1.toNat))], σ) (Ps := [0 ≤ x1 ∧ x1 < 48, 0 ≤ x1 ∧ x1 < 48, 0 ≤ x2 ∧ x2 < 48, 0 ≤ (σ 13 0 x2.toNat) ∧ (σ 13 0 x2.toNat) < 48]) rfl (And.intro hc.1 (And.intro hc.1 (And.intro hc.2.1 (And.intro hc.2.2.1 trivial)))) ?_
      refine m_blk C0 (pX1_ok rfl) kX1_fillTable_ok 35 7 (62, [some (.inr (.inr (5, 0))), some (.inl x1), some (.inl x2)], [], (mup σ 16 x1.toNat x2.toNat (σ 12 ((σ 16 x1.toNat ((σ 13 0 x2.toNat).toNat)).toNat) ((σ 14 0 x2.toNat).toNat)))) (Ps := [0 ≤ (σ 16 x1.toNat ((σ 13 0 x2.toNat).toNat)) ∧ (σ 16 x1.toNat ((σ 13 0 x2.toNat).toNat)) < 48, 0 ≤ x2 ∧ x2 < 48, 0 ≤ (σ 14 0 x2.toNat) ∧ (σ 14 0 x2.toNat) < 4, 0 ≤ x2 ∧ x2 < 48]) rfl (And.intro hc.2.2.2.1 (And.intro hc.2.1 (And.intro hc.2.2.2.2 (And.intro hc.2.1 trivial)))) ?_
      refine m_blk C0 (pX1_ok rfl) kX1_fillTable_ok 42 2 (21, [some (.inr (.inr (5, 0))), some (.inl x1), some (.inl (mw (x2 + 1)))], [], (mup σ 16 x1.toNat x2.toNat (σ 12 ((σ 16 x1.toNat ((σ 13 0 x2.toNat).toNat)).toNat) ((σ 14 0 x2.toNat).toNat)))) (Ps := []) rfl trivial ?_
      refine m_mask [true, true, true] (ls' := [some (.inr (.inr (5, 0))), some (.inl x1), some (.inl (mw (x2 + 1)))]) rfl ?_
      exact IH _ _ _ _ h hK
set_option maxRecDepth 100000 in
set_option maxHeartbeats 4000000 in
theorem p_X1_fillTable_2 {e : mEv} (hG : mGeo (mw0 e) lw_kept) (N : Nat) {f : mFx} (C0 : mCx f (mw0 e) sc0 cX1_fillTable 3 RX1 lw_kept) (hFr : mFr f 0) : ∀ (n : Nat) (x1 : Int) (σ : mS) (σ' : mS), L_X1_fillTable_2 N n x1 σ = some σ' → mWW f (mw0 e) sc0 3 (74, [none, none, none], [], σ') → mWW f (mw0 e) sc0 3 (2, [some (.inr (.inr (5, 0))), some (.inl x1), none], [], σ) := by
  intro n
  induction n with
  | zero =>
    intro x1 σ σ' h hK
    cases h
  | succ n IH =>
    intro x1 σ σ' h hK
    rw [L_X1_fillTable_2_s] at h
    refine m_blk C0 (pX1_ok rfl) kX1_fillTable_ok 2 3 (7, [some (.inr (.inr (5, 0))), some (.inl x1), none], [.inl (σ 5 0 0), .inl x1], σ) (Ps := []) rfl trivial ?_
    refine b_ige C0 kX1_fillTable_ok 5 (off := 67) (tgt := 74) rfl (by decide) (fun hb95 => ?_) (fun hb95 => ?_)
    · replace h := g_pos hb95 h
      cases h
      refine m_mask [false, false, false] (ls' := [none, none, none]) rfl ?_
      exact hK
    · replace h := g_neg hb95 h
      obtain ⟨hc, h⟩ := g_if h
      refine m_blk C0 (pX1_ok rfl) kX1_fillTable_ok 6 7 (19, [some (.inr (.inr (5, 0))), some (.inl x1), none], [], (mup σ 16 x1.toNat 0 x1)) (Ps := [0 ≤ x1 ∧ x1 < 48, 0 ≤ (0 : Int) ∧ (0 : Int) < 48]) rfl (And.intro hc (And.intro (by decide) trivial)) ?_
      refine m_blk C0 (pX1_ok rfl) kX1_fillTable_ok 13 2 (21, [some (.inr (.inr (5, 0))), some (.inl x1), some (.inl 1)], [], (mup σ 16 x1.toNat 0 x1)) (Ps := []) rfl trivial ?_
      obtain ⟨s93, hq94, h⟩ := g_bind h
      refine m_mask [true, true, true] (ls' := [some (.inr (.inr (5, 0))), some (.inl x1), some (.inl 1)]) rfl ?_
      refine p_X1_fillTable_21 hG N C0 hFr N _ _ _ _ hq94 ?_
      refine m_blk C0 (pX1_ok rfl) kX1_fillTable_ok 44 2 (2, [some (.inr (.inr (5, 0))), some (.inl (mw (x1 + 1))), none], [], s93) (Ps := []) rfl trivial ?_
      refine m_mask [true, true, false] (ls' := [some (.inr (.inr (5, 0))), some (.inl (mw (x1 + 1))), none]) rfl ?_
      exact IH _ _ _ h hK
set_option maxRecDepth 100000 in
set_option maxHeartbeats 4000000 in
theorem t_X1_fillTable {e : mEv} (hG : mGeo (mw0 e) lw_kept) (l : Launch) (N : Nat) {σ σ' : mS} (h : f_X1_fillTable N σ = some σ') : mMet l (mw0 e) lw_kept 0 yX1_fillTable cX1_fillTable 3 none [.inr (.inr (5, 0))] σ none σ' := by
  refine mMet_intro (plainFor_of_name (by decide)) hG (Nat.le_of_ble_eq_true rfl) (fun f hl hR C0 hFin => ?_)
  subst hl
  have hFr := mFr_of hR hFin
  unfold f_X1_fillTable at h
  show mWW f (mw0 e) sc0 3 (0, [some (.inr (.inr (5, 0))), none, none], [], σ)
  refine m_blk C0 (pX1_ok rfl) kX1_fillTable_ok 0 2 (2, [some (.inr (.inr (5, 0))), some (.inl 0), none], [], σ) (Ps := []) rfl trivial ?_
  obtain ⟨s96, hq97, h⟩ := g_bind h
  refine m_mask [true, true, false] (ls' := [some (.inr (.inr (5, 0))), some (.inl 0), none]) rfl ?_
  refine p_X1_fillTable_2 hG N C0 hFr N _ _ _ hq97 ?_
  cases h
  exact m_vret C0 hFin (k_at kX1_fillTable_ok 46 rfl)
set_option maxRecDepth 100000 in
set_option maxHeartbeats 4000000 in
theorem p_X1_fillBacksAndOrders_17 {e : mEv} (hG : mGeo (mw0 e) lw_kept) (N : Nat) {f : mFx} (C0 : mCx f (mw0 e) sc0 cX1_fillBacksAndOrders 5 RX1 lw_kept) (hFr : mFr f 0) : ∀ (n : Nat) (x1 : Int) (x2 : Int) (x3 : Int) (x4 : Int) (σ : mS) (o2 : Int) (o4 : Int) (σ' : mS), L_X1_fillBacksAndOrders_17 N n x1 x2 x3 x4 σ = some (o2, o4, σ') → mWW f (mw0 e) sc0 5 (45, [some (.inr (.inr (5, 0))), some (.inl x1), some (.inl o2), none, some (.inl o4)], [], σ') → mWW f (mw0 e) sc0 5 (17, [some (.inr (.inr (5, 0))), some (.inl x1), some (.inl x2), some (.inl x3), some (.inl x4)], [], σ) := by
  intro n
  induction n with
  | zero =>
    intro x1 x2 x3 x4 σ o2 o4 σ' h hK
    cases h
  | succ n IH =>
    intro x1 x2 x3 x4 σ o2 o4 σ' h hK
    rw [L_X1_fillBacksAndOrders_17_s] at h
    refine m_blk C0 (pX1_ok rfl) kX1_fillBacksAndOrders_ok 12 1 (18, [some (.inr (.inr (5, 0))), some (.inl x1), some (.inl x2), some (.inl x3), some (.inl x4)], [.inl x3], σ) (Ps := []) rfl trivial ?_
    refine b_eq C0 kX1_fillBacksAndOrders_ok 13 (off := 27) (tgt := 45) rfl (by decide) (fun hb100 => ?_) (fun hb100 => ?_)
    · replace h := g_pos hb100 h
      cases h
      refine m_mask [true, true, true, false, true] (ls' := [some (.inr (.inr (5, 0))), some (.inl x1), some (.inl x2), none, some (.inl x4)]) rfl ?_
      exact hK
    · replace h := g_neg hb100 h
      refine m_blk C0 (pX1_ok rfl) kX1_fillBacksAndOrders_ok 14 2 (25, [some (.inr (.inr (5, 0))), some (.inl x1), some (.inl x2), some (.inl x3), some (.inl x4)], [.inl 48, .inl x4], σ) (Ps := []) rfl trivial ?_
      refine b_ige C0 kX1_fillBacksAndOrders_ok 16 (off := 20) (tgt := 45) rfl (by decide) (fun hb99 => ?_) (fun hb99 => ?_)
      · replace h := g_pos hb99 h
        cases h
        refine m_mask [true, true, true, false, true] (ls' := [some (.inr (.inr (5, 0))), some (.inl x1), some (.inl x2), none, some (.inl x4)]) rfl ?_
        exact hK
      · replace h := g_neg hb99 h
        obtain ⟨hc, h⟩ := g_if h
        refine m_blk C0 (pX1_ok rfl) kX1_fillBacksAndOrders_ok 17 11 (17, [some (.inr (.inr (5, 0))), some (.inl x1), some (.inl x3), some (.inl (σ 16 x3.toNat x1.toNat)), some (.inl (mw (x4 + 1)))], [], σ) (Ps := [0 ≤ x3 ∧ x3 < 48, 0 ≤ x1 ∧ x1 < 48]) rfl (And.intro hc.1 (And.intro hc.2 trivial)) ?_
        refine m_mask [true, true, true, true, true] (ls' := [some (.inr (.inr (5, 0))), some (.inl x1), some (.inl x3), some (.inl (σ 16 x3.toNat x1.toNat)), some (.inl (mw (x4 + 1)))]) rfl ?_
        exact IH _ _ _ _ _ _ _ _ h hK
set_option maxRecDepth 100000 in
set_option maxHeartbeats 4000000 in
theorem p_X1_fillBacksAndOrders_2 {e : mEv} (hG : mGeo (mw0 e) lw_kept) (N : Nat) {f : mFx} (C0 : mCx f (mw0 e) sc0 cX1_fillBacksAndOrders 5 RX1 lw_kept) (hFr : mFr f 0) : ∀ (n : Nat) (x1 : Int) (σ : mS) (σ' : mS), L_X1_fillBacksAndOrders_2 N n x1 σ = some σ' → mWW f (mw0 e) sc0 5 (66, [none, none, none, none, none], [], σ') → mWW f (mw0 e) sc0 5 (2, [some (.inr (.inr (5, 0))), some (.inl x1), none, none, none], [], σ) := by
  intro n
  induction n with
  | zero =>
    intro x1 σ σ' h hK
    cases h
  | succ n IH =>
    intro x1 σ σ' h hK
    rw [L_X1_fillBacksAndOrders_2_s] at h
    refine m_blk C0 (pX1_ok rfl) kX1_fillBacksAndOrders_ok 2 3 (7, [some (.inr (.inr (5, 0))), some (.inl x1), none, none, none], [.inl (σ 5 0 0), .inl x1], σ) (Ps := []) rfl trivial ?_
    refine b_ige C0 kX1_fillBacksAndOrders_ok 5 (off := 59) (tgt := 66) rfl (by decide) (fun hb105 => ?_) (fun hb105 => ?_)
    · replace h := g_pos hb105 h
      cases h
      refine m_mask [false, false, false, false, false] (ls' := [none, none, none, none, none]) rfl ?_
      exact hK
    · replace h := g_neg hb105 h
      refine m_blk C0 (pX1_ok rfl) kX1_fillBacksAndOrders_ok 6 6 (17, [some (.inr (.inr (5, 0))), some (.inl x1), some (.inl 0), some (.inl x1), some (.inl 1)], [], σ) (Ps := []) rfl trivial ?_
      obtain ⟨⟨o102, o103, s101⟩, hq104, h⟩ := g_bind h
      refine m_mask [true, true, true, true, true] (ls' := [some (.inr (.inr (5, 0))), some (.inl x1), some (.inl 0), some (.inl x1), some (.inl 1)]) rfl ?_
      refine p_X1_fillBacksAndOrders_17 hG N C0 hFr N _ _ _ _ _ _ _ _ hq104 ?_
      obtain ⟨hc, h⟩ := g_if h
      refine m_blk C0 (pX1_ok rfl) kX1_fillBacksAndOrders_ok 28 5 (52, [some (.inr (.inr (5, 0))), some (.inl x1), some (.inl o102), none, some (.inl o103)], [], (mup s101 17 0 x1.toNat o102)) (Ps := [0 ≤ x1 ∧ x1 < 48]) rfl (And.intro hc trivial) ?_
      refine m_blk C0 (pX1_ok rfl) kX1_fillBacksAndOrders_ok 33 5 (60, [some (.inr (.inr (5, 0))), some (.inl x1), some (.inl o102), none, some (.inl o103)], [], (mup (mup s101 17 0 x1.toNat o102) 18 0 x1.toNat o103)) (Ps := [0 ≤ x1 ∧ x1 < 48]) rfl (And.intro hc trivial) ?_
      refine m_blk C0 (pX1_ok rfl) kX1_fillBacksAndOrders_ok 38 2 (2, [some (.inr (.inr (5, 0))), some (.inl (mw (x1 + 1))), some (.inl o102), none, some (.inl o103)], [], (mup (mup s101 17 0 x1.toNat o102) 18 0 x1.toNat o103)) (Ps := []) rfl trivial ?_
      refine m_mask [true, true, false, false, false] (ls' := [some (.inr (.inr (5, 0))), some (.inl (mw (x1 + 1))), none, none, none]) rfl ?_
      exact IH _ _ _ h hK
set_option maxRecDepth 100000 in
set_option maxHeartbeats 4000000 in
theorem t_X1_fillBacksAndOrders {e : mEv} (hG : mGeo (mw0 e) lw_kept) (l : Launch) (N : Nat) {σ σ' : mS} (h : f_X1_fillBacksAndOrders N σ = some σ') : mMet l (mw0 e) lw_kept 0 yX1_fillBacksAndOrders cX1_fillBacksAndOrders 5 none [.inr (.inr (5, 0))] σ none σ' := by
  refine mMet_intro (plainFor_of_name (by decide)) hG (Nat.le_of_ble_eq_true rfl) (fun f hl hR C0 hFin => ?_)
  subst hl
  have hFr := mFr_of hR hFin
  unfold f_X1_fillBacksAndOrders at h
  show mWW f (mw0 e) sc0 5 (0, [some (.inr (.inr (5, 0))), none, none, none, none], [], σ)
  refine m_blk C0 (pX1_ok rfl) kX1_fillBacksAndOrders_ok 0 2 (2, [some (.inr (.inr (5, 0))), some (.inl 0), none, none, none], [], σ) (Ps := []) rfl trivial ?_
  obtain ⟨s106, hq107, h⟩ := g_bind h
  refine m_mask [true, true, false, false, false] (ls' := [some (.inr (.inr (5, 0))), some (.inl 0), none, none, none]) rfl ?_
  refine p_X1_fillBacksAndOrders_2 hG N C0 hFr N _ _ _ hq107 ?_
  cases h
  exact m_vret C0 hFin (k_at kX1_fillBacksAndOrders_ok 40 rfl)
set_option maxRecDepth 100000 in
set_option maxHeartbeats 4000000 in
theorem p_J7_fill_53178_r19_5 {e : mEv} (hG : mGeo (mw0 e) lw_kept) (N : Nat) {f : mFx} (C0 : mCx f (mw0 e) sc0 cJ7_fill_53178 4 RJ7 lw_kept) (hFr : mFr f 0) : ∀ (n : Nat) (x1 : Int) (x2 : Int) (x3 : Int) (σ : mS) (σ' : mS), L_J7_fill_53178_r19_5 N n x1 x2 x3 σ = some σ' → mWW f (mw0 e) sc0 4 (20, [none, none, none, none], [], σ') → mWW f (mw0 e) sc0 4 (5, [some (.inr (.inr (19, 0))), some (.inl x1), some (.inl x2), some (.inl x3)], [], σ) := by
  intro n
  induction n with
  | zero =>
    intro x1 x2 x3 σ σ' h hK
    cases h
  | succ n IH =>
    intro x1 x2 x3 σ σ' h hK
    rw [L_J7_fill_53178_r19_5_s] at h
    refine m_blk C0 (pJ7_ok rfl) kJ7_fill_53178_ok 5 2 (7, [some (.inr (.inr (19, 0))), some (.inl x1), some (.inl x2), some (.inl x3)], [.inl x3, .inl x2], σ) (Ps := []) rfl trivial ?_
    refine b_ige C0 kJ7_fill_53178_ok 7 (off := 13) (tgt := 20) rfl (by decide) (fun hb109 => ?_) (fun hb109 => ?_)
    · replace h := g_pos hb109 h
      cases h
      refine m_mask [false, false, false, false] (ls' := [none, none, none, none]) rfl ?_
      exact hK
    · replace h := g_neg hb109 h
      obtain ⟨hc, h⟩ := g_if h
      refine m_blk C0 (pJ7_ok rfl) kJ7_fill_53178_ok 8 4 (14, [some (.inr (.inr (19, 0))), some (.inl x1), some (.inl x2), some (.inl x3)], [], (mup σ 19 0 x2.toNat x1)) (Ps := [0 ≤ x2 ∧ x2 < 48]) rfl (And.intro hc trivial) ?_
      refine m_blk C0 (pJ7_ok rfl) kJ7_fill_53178_ok 12 2 (5, [some (.inr (.inr (19, 0))), some (.inl x1), some (.inl (mw (x2 + 1))), some (.inl x3)], [], (mup σ 19 0 x2.toNat x1)) (Ps := []) rfl trivial ?_
      refine m_mask [true, true, true, true] (ls' := [some (.inr (.inr (19, 0))), some (.inl x1), some (.inl (mw (x2 + 1))), some (.inl x3)]) rfl ?_
      exact IH _ _ _ _ _ h hK
set_option maxRecDepth 100000 in
set_option maxHeartbeats 4000000 in
theorem t_J7_fill_53178_r19 {e : mEv} (hG : mGeo (mw0 e) lw_kept) (l : Launch) (N : Nat) {a1 : Int} {σ σ' : mS} (h : f_J7_fill_53178_r19 N a1 σ = some σ') : mMet l (mw0 e) lw_kept 0 yJ7_fill_53178 cJ7_fill_53178 4 none [.inr (.inr (19, 0)), .inl a1] σ none σ' := by
  refine mMet_intro (by decide +kernel) hG (Nat.le_of_ble_eq_true rfl) (fun f hl hR C0 hFin => ?_)
  subst hl
  have hFr := mFr_of hR hFin
  unfold f_J7_fill_53178_r19 at h
  show mWW f (mw0 e) sc0 4 (0, [some (.inr (.inr (19, 0))), some (.inl a1), none, none], [], σ)
  refine m_blk C0 (pJ7_ok rfl) kJ7_fill_53178_ok 0 5 (5, [some (.inr (.inr (19, 0))), some (.inl a1), some (.inl 0), some (.inl 48)], [], σ) (Ps := []) rfl trivial ?_
  obtain ⟨s110, hq111, h⟩ := g_bind h
  refine m_mask [true, true, true, true] (ls' := [some (.inr (.inr (19, 0))), some (.inl a1), some (.inl 0), some (.inl 48)]) rfl ?_
  refine p_J7_fill_53178_r19_5 hG N C0 hFr N _ _ _ _ _ hq111 ?_
  cases h
  exact m_vret C0 hFin (k_at kJ7_fill_53178_ok 14 rfl)
set_option maxRecDepth 100000 in
set_option maxHeartbeats 4000000 in
theorem p_X1_fillClass_4 {e : mEv} (hG : mGeo (mw0 e) lw_kept) (N : Nat) {f : mFx} (C0 : mCx f (mw0 e) sc0 cX1_fillClass 5 RX1 lw_kept) (hFr : mFr f 0) : ∀ (n : Nat) (x1 : Int) (x2 : Int) (x3 : Int) (σ : mS) (o2 : Int) (σ' : mS), L_X1_fillClass_4 N n x1 x2 x3 σ = some (o2, σ') → mWW f (mw0 e) sc0 5 (65, [some (.inr (.inr (5, 0))), some (.inl x1), some (.inl o2), none, none], [], σ') → mWW f (mw0 e) sc0 5 (4, [some (.inr (.inr (5, 0))), some (.inl x1), some (.inl x2), some (.inl x3), none], [], σ) := by
  intro n
  induction n with
  | zero =>
    intro x1 x2 x3 σ o2 σ' h hK
    cases h
  | succ n IH =>
    intro x1 x2 x3 σ o2 σ' h hK
    rw [L_X1_fillClass_4_s] at h
    refine m_blk C0 (pX1_ok rfl) kX1_fillClass_ok 4 3 (9, [some (.inr (.inr (5, 0))), some (.inl x1), some (.inl x2), some (.inl x3), none], [.inl (σ 5 0 0), .inl x3], σ) (Ps := []) rfl trivial ?_
    refine b_ige C0 kX1_fillClass_ok 7 (off := 56) (tgt := 65) rfl (by decide) (fun hb114 => ?_) (fun hb114 => ?_)
    · replace h := g_pos hb114 h
      cases h
      refine m_mask [true, true, true, false, false] (ls' := [some (.inr (.inr (5, 0))), some (.inl x1), some (.inl x2), none, none]) rfl ?_
      exact hK
    · replace h := g_neg hb114 h
      obtain ⟨hc, h⟩ := g_if h
      refine m_blk C0 (pX1_ok rfl) kX1_fillClass_ok 8 16 (35, [some (.inr (.inr (5, 0))), some (.inl x1), some (.inl x2), some (.inl x3), some (.inl (σ 16 ((σ 16 x3.toNat x1.toNat).toNat) ((σ 17 0 x3.toNat).toNat)))], [.inr (.inr (5, 0))], σ) (Ps := [0 ≤ x3 ∧ x3 < 48, 0 ≤ x1 ∧ x1 < 48, 0 ≤ (σ 16 x3.toNat x1.toNat) ∧ (σ 16 x3.toNat x1.toNat) < 48, 0 ≤ x3 ∧ x3 < 48, 0 ≤ (σ 17 0 x3.toNat) ∧ (σ 17 0 x3.toNat) < 48]) rfl (And.intro hc.1 (And.intro hc.2.1 (And.intro hc.2.2.1 (And.intro hc.1 (And.intro hc.2.2.2.1 trivial))))) ?_
      refine m_blk C0 (pX1_ok rfl) kX1_fillClass_ok 24 4 (42, [some (.inr (.inr (5, 0))), some (.inl x1), some (.inl x2), some (.inl x3), some (.inl (σ 16 ((σ 16 x3.toNat x1.toNat).toNat) ((σ 17 0 x3.toNat).toNat)))], [.inl (-1), .inl (σ 19 0 ((σ 16 ((σ 16 x3.toNat x1.toNat).toNat) ((σ 17 0 x3.toNat).toNat)).toNat))], σ) (Ps := [0 ≤ (σ 16 ((σ 16 x3.toNat x1.toNat).toNat) ((σ 17 0 x3.toNat).toNat)) ∧ (σ 16 ((σ 16 x3.toNat x1.toNat).toNat) ((σ 17 0 x3.toNat).toNat)) < 48]) rfl (And.intro hc.2.2.2.2 trivial) ?_
      refine b_ine C0 kX1_fillClass_ok 28 (off := 17) (tgt := 59) rfl (by decide) (fun hb113 => ?_) (fun hb113 => ?_)
      · replace h := g_neg hb113 h
        refine m_blk C0 (pX1_ok rfl) kX1_fillClass_ok 36 2 (4, [some (.inr (.inr (5, 0))), some (.inl x1), some (.inl x2), some (.inl (mw (x3 + 1))), some (.inl (σ 16 ((σ 16 x3.toNat x1.toNat).toNat) ((σ 17 0 x3.toNat).toNat)))], [], σ) (Ps := []) rfl trivial ?_
        refine m_mask [true, true, true, true, false] (ls' := [some (.inr (.inr (5, 0))), some (.inl x1), some (.inl x2), some (.inl (mw (x3 + 1))), none]) rfl ?_
        exact IH _ _ _ _ _ _ h hK
      · replace h := g_pos hb113 h
        obtain ⟨hc, h⟩ := g_if h
        refine m_blk C0 (pX1_ok rfl) kX1_fillClass_ok 29 6 (56, [some (.inr (.inr (5, 0))), some (.inl x1), some (.inl x2), some (.inl x3), some (.inl (σ 16 ((σ 16 x3.toNat x1.toNat).toNat) ((σ 17 0 x3.toNat).toNat)))], [], (mup σ 19 0 ((σ 16 ((σ 16 x3.toNat x1.toNat).toNat) ((σ 17 0 x3.toNat).toNat)).toNat) (σ 5 0 2))) (Ps := [0 ≤ (σ 16 ((σ 16 x3.toNat x1.toNat).toNat) ((σ 17 0 x3.toNat).toNat)) ∧ (σ 16 ((σ 16 x3.toNat x1.toNat).toNat) ((σ 17 0 x3.toNat).toNat)) < 48]) rfl (And.intro hc trivial) ?_
        refine m_blk C0 (pX1_ok rfl) kX1_fillClass_ok 35 3 (4, [some (.inr (.inr (5, 0))), some (.inl x1), some (.inl (mw (x2 + 1))), some (.inl (mw (x3 + 1))), some (.inl (σ 16 ((σ 16 x3.toNat x1.toNat).toNat) ((σ 17 0 x3.toNat).toNat)))], [], (mup σ 19 0 ((σ 16 ((σ 16 x3.toNat x1.toNat).toNat) ((σ 17 0 x3.toNat).toNat)).toNat) (σ 5 0 2))) (Ps := []) rfl trivial ?_
        refine m_mask [true, true, true, true, false] (ls' := [some (.inr (.inr (5, 0))), some (.inl x1), some (.inl (mw (x2 + 1))), some (.inl (mw (x3 + 1))), none]) rfl ?_
        exact IH _ _ _ _ _ _ h hK
set_option maxRecDepth 100000 in
set_option maxHeartbeats 4000000 in
theorem t_X1_fillClass {e : mEv} (hG : mGeo (mw0 e) lw_kept) (l : Launch) (N : Nat) {a1 : Int} {σ σ' : mS} (h : f_X1_fillClass N a1 σ = some σ') : mMet l (mw0 e) lw_kept 0 yX1_fillClass cX1_fillClass 5 none [.inr (.inr (5, 0)), .inl a1] σ none σ' := by
  refine mMet_intro (plainFor_of_name (by decide)) hG (Nat.le_of_ble_eq_true rfl) (fun f hl hR C0 hFin => ?_)
  subst hl
  have hFr := mFr_of hR hFin
  unfold f_X1_fillClass at h
  show mWW f (mw0 e) sc0 5 (0, [some (.inr (.inr (5, 0))), some (.inl a1), none, none, none], [], σ)
  refine m_blk C0 (pX1_ok rfl) kX1_fillClass_ok 0 4 (4, [some (.inr (.inr (5, 0))), some (.inl a1), some (.inl 0), some (.inl 0), none], [], σ) (Ps := []) rfl trivial ?_
  obtain ⟨⟨o116, s115⟩, hq117, h⟩ := g_bind h
  refine m_mask [true, true, true, true, false] (ls' := [some (.inr (.inr (5, 0))), some (.inl a1), some (.inl 0), some (.inl 0), none]) rfl ?_
  refine p_X1_fillClass_4 hG N C0 hFr N _ _ _ _ _ _ hq117 ?_
  obtain ⟨hc, h⟩ := g_if h
  refine m_blk C0 (pX1_ok rfl) kX1_fillClass_ok 38 6 (75, [some (.inr (.inr (5, 0))), some (.inl a1), some (.inl o116), none, none], [], (mup s115 20 0 ((s115 5 0 2).toNat) a1)) (Ps := [0 ≤ (s115 5 0 2) ∧ (s115 5 0 2) < 48]) rfl (And.intro hc trivial) ?_
  refine m_blk C0 (pX1_ok rfl) kX1_fillClass_ok 44 6 (85, [some (.inr (.inr (5, 0))), some (.inl a1), some (.inl o116), none, none], [], (mup (mup s115 20 0 ((s115 5 0 2).toNat) a1) 21 0 ((s115 5 0 2).toNat) o116)) (Ps := [0 ≤ (s115 5 0 2) ∧ (s115 5 0 2) < 48]) rfl (And.intro hc trivial) ?_
  refine m_blk C0 (pX1_ok rfl) kX1_fillClass_ok 50 6 (95, [some (.inr (.inr (5, 0))), some (.inl a1), some (.inl o116), none, none], [], (mup (mup (mup s115 20 0 ((s115 5 0 2).toNat) a1) 21 0 ((s115 5 0 2).toNat) o116) 5 0 2 (mw ((s115 5 0 2) + 1)))) (Ps := []) rfl trivial ?_
  cases h
  exact m_vret C0 hFin (k_at kX1_fillClass_ok 56 rfl)
