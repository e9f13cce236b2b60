set_option maxRecDepth 100000 in
set_option maxHeartbeats 4000000 in
theorem t_J13_bitCount_95d88 {e : mEv} (hG : mGeo (mw0 e) lw_kept) (l : Launch) (N : Nat) {a0 : Int} {σ σ' : mS} {v : Int} (h : f_J13_bitCount_95d88 N a0 σ = some (v, σ')) : mMet l (mw0 e) lw_kept 0 yJ13_bitCount_95d88 cJ13_bitCount_95d88 2 (some .int) [.inr (.inl a0)] σ (some (.inl v)) σ' := by
  refine mMet_intro (by decide +kernel) hG (Nat.le_of_ble_eq_true rfl) (fun f hl hR C0 hFin => ?_)
  subst hl
  have hFr := mFr_of hR hFin
  unfold f_J13_bitCount_95d88 at h
  show mWW f (mw0 e) sc0 2 (0, [some (.inr (.inl a0)), none], [], σ)
  refine m_blk C0 (pJ13_ok rfl) kJ13_bitCount_95d88_ok 0 16 (22, [some (.inr (.inl (mx (a0 - (o_land (o_lushr a0 1) 6148914691236517205))))), none], [.inr (.inl (o_land (o_lushr (mx (a0 - (o_land (o_lushr a0 1) 6148914691236517205))) 2) 3689348814741910323)), .inr (.inl (o_land (mx (a0 - (o_land (o_lushr a0 1) 6148914691236517205))) 3689348814741910323))], σ) (Ps := []) rfl trivial ?_
  refine m_blk C0 (pJ13_ok rfl) kJ13_bitCount_95d88_ok 16 16 (41, [some (.inr (.inl (mx ((o_land (mx ((mx ((o_land (mx (a0 - (o_land (o_lushr a0 1) 6148914691236517205))) 3689348814741910323) + (o_land (o_lushr (mx (a0 - (o_land (o_lushr a0 1) 6148914691236517205))) 2) 3689348814741910323))) + (o_lushr (mx ((o_land (mx (a0 - (o_land (o_lushr a0 1) 6148914691236517205))) 3689348814741910323) + (o_land (o_lushr (mx (a0 - (o_land (o_lushr a0 1) 6148914691236517205))) 2) 3689348814741910323))) 4))) 1085102592571150095) + (o_lushr (o_land (mx ((mx ((o_land (mx (a0 - (o_land (o_lushr a0 1) 6148914691236517205))) 3689348814741910323) + (o_land (o_lushr (mx (a0 - (o_land (o_lushr a0 1) 6148914691236517205))) 2) 3689348814741910323))) + (o_lushr (mx ((o_land (mx (a0 - (o_land (o_lushr a0 1) 6148914691236517205))) 3689348814741910323) + (o_land (o_lushr (mx (a0 - (o_land (o_lushr a0 1) 6148914691236517205))) 2) 3689348814741910323))) 4))) 1085102592571150095) 8))))), none], [], σ) (Ps := []) rfl trivial ?_
  refine m_blk C0 (pJ13_ok rfl) kJ13_bitCount_95d88_ok 32 16 (60, [some (.inr (.inl (mx ((mx ((mx ((o_land (mx ((mx ((o_land (mx (a0 - (o_land (o_lushr a0 1) 6148914691236517205))) 3689348814741910323) + (o_land (o_lushr (mx (a0 - (o_land (o_lushr a0 1) 6148914691236517205))) 2) 3689348814741910323))) + (o_lushr (mx ((o_land (mx (a0 - (o_land (o_lushr a0 1) 6148914691236517205))) 3689348814741910323) + (o_land (o_lushr (mx (a0 - (o_land (o_lushr a0 1) 6148914691236517205))) 2) 3689348814741910323))) 4))) 1085102592571150095) + (o_lushr (o_land (mx ((mx ((o_land (mx (a0 - (o_land (o_lushr a0 1) 6148914691236517205))) 3689348814741910323) + (o_land (o_lushr (mx (a0 - (o_land (o_lushr a0 1) 6148914691236517205))) 2) 3689348814741910323))) + (o_lushr (mx ((o_land (mx (a0 - (o_land (o_lushr a0 1) 6148914691236517205))) 3689348814741910323) + (o_land (o_lushr (mx (a0 - (o_land (o_lushr a0 1) 6148914691236517205))) 2) 3689348814741910323))) 4))) 1085102592571150095) 8))) + (o_lushr (mx ((o_land (mx ((mx ((o_land (mx (a0 - (o_land (o_lushr a0 1) 6148914691236517205))) 3689348814741910323) + (o_land (o_lushr (mx (a0 - (o_land (o_lushr a0 1) 6148914691236517205))) 2) 3689348814741910323))) + (o_lushr (mx ((o_land (mx (a0 - (o_land (o_lushr a0 1) 6148914691236517205))) 3689348814741910323) + (o_land (o_lushr (mx (a0 - (o_land (o_lushr a0 1) 6148914691236517205))) 2) 3689348814741910323))) 4))) 1085102592571150095) + (o_lushr (o_land (mx ((mx ((o_land (mx (a0 - (o_land (o_lushr a0 1) 6148914691236517205))) 3689348814741910323) + (o_land (o_lushr (mx (a0 - (o_land (o_lushr a0 1) 6148914691236517205))) 2) 3689348814741910323))) + (o_lushr (mx ((o_land (mx (a0 - (o_land (o_lushr a0 1) 6148914691236517205))) 3689348814741910323) + (o_land (o_lushr (mx (a0 - (o_land (o_lushr a0 1) 6148914691236517205))) 2) 3689348814741910323))) 4))) 1085102592571150095) 8))) 16))) + (o_lushr (mx ((mx ((o_land (mx ((mx ((o_land (mx (a0 - (o_land (o_lushr a0 1) 6148914691236517205))) 3689348814741910323) + (o_land (o_lushr (mx (a0 - (o_land (o_lushr a0 1) 6148914691236517205))) 2) 3689348814741910323))) + (o_lushr (mx ((o_land (mx (a0 - (o_land (o_lushr a0 1) 6148914691236517205))) 3689348814741910323) + (o_land (o_lushr (mx (a0 - (o_land (o_lushr a0 1) 6148914691236517205))) 2) 3689348814741910323))) 4))) 1085102592571150095) + (o_lushr (o_land (mx ((mx ((o_land (mx (a0 - (o_land (o_lushr a0 1) 6148914691236517205))) 3689348814741910323) + (o_land (o_lushr (mx (a0 - (o_land (o_lushr a0 1) 6148914691236517205))) 2) 3689348814741910323))) + (o_lushr (mx ((o_land (mx (a0 - (o_land (o_lushr a0 1) 6148914691236517205))) 3689348814741910323) + (o_land (o_lushr (mx (a0 - (o_land (o_lushr a0 1) 6148914691236517205))) 2) 3689348814741910323))) 4))) 1085102592571150095) 8))) + (o_lushr (mx ((o_land (mx ((mx ((o_land (mx (a0 - (o_land (o_lushr a0 1) 6148914691236517205))) 3689348814741910323) + (o_land (o_lushr (mx (a0 - (o_land (o_lushr a0 1) 6148914691236517205))) 2) 3689348814741910323))) + (o_lushr (mx ((o_land (mx (a0 - (o_land (o_lushr a0 1) 6148914691236517205))) 3689348814741910323) + (o_land (o_lushr (mx (a0 - (o_land (o_lushr a0 1) 6148914691236517205))) 2) 3689348814741910323))) 4))) 1085102592571150095) + (o_lushr (o_land (mx ((mx ((o_land (mx (a0 - (o_land (o_lushr a0 1) 6148914691236517205))) 3689348814741910323) + (o_land (o_lushr (mx (a0 - (o_land (o_lushr a0 1) 6148914691236517205))) 2) 3689348814741910323))) + (o_lushr (mx ((o_land (mx (a0 - (o_land (o_lushr a0 1) 6148914691236517205))) 3689348814741910323) + (o_land (o_lushr (mx (a0 - (o_land (o_lushr a0 1) 6148914691236517205))) 2) 3689348814741910323))) 4))) 1085102592571150095) 8))) 16))) 32))))), none], [.inl (o_and (mw (mx ((mx ((mx ((o_land (mx ((mx ((o_land (mx (a0 - (o_land (o_lushr a0 1) 6148914691236517205))) 3689348814741910323) + (o_land (o_lushr (mx (a0 - (o_land (o_lushr a0 1) 6148914691236517205))) 2) 3689348814741910323))) + (o_lushr (mx ((o_land (mx (a0 - (o_land (o_lushr a0 1) 6148914691236517205))) 3689348814741910323) + (o_land (o_lushr (mx (a0 - (o_land (o_lushr a0 1) 6148914691236517205))) 2) 3689348814741910323))) 4))) 1085102592571150095) + (o_lushr (o_land (mx ((mx ((o_land (mx (a0 - (o_land (o_lushr a0 1) 6148914691236517205))) 3689348814741910323) + (o_land (o_lushr (mx (a0 - (o_land (o_lushr a0 1) 6148914691236517205))) 2) 3689348814741910323))) + (o_lushr (mx ((o_land (mx (a0 - (o_land (o_lushr a0 1) 6148914691236517205))) 3689348814741910323) + (o_land (o_lushr (mx (a0 - (o_land (o_lushr a0 1) 6148914691236517205))) 2) 3689348814741910323))) 4))) 1085102592571150095) 8))) + (o_lushr (mx ((o_land (mx ((mx ((o_land (mx (a0 - (o_land (o_lushr a0 1) 6148914691236517205))) 3689348814741910323) + (o_land (o_lushr (mx (a0 - (o_land (o_lushr a0 1) 6148914691236517205))) 2) 3689348814741910323))) + (o_lushr (mx ((o_land (mx (a0 - (o_land (o_lushr a0 1) 6148914691236517205))) 3689348814741910323) + (o_land (o_lushr (mx (a0 - (o_land (o_lushr a0 1) 6148914691236517205))) 2) 3689348814741910323))) 4))) 1085102592571150095) + (o_lushr (o_land (mx ((mx ((o_land (mx (a0 - (o_land (o_lushr a0 1) 6148914691236517205))) 3689348814741910323) + (o_land (o_lushr (mx (a0 - (o_land (o_lushr a0 1) 6148914691236517205))) 2) 3689348814741910323))) + (o_lushr (mx ((o_land (mx (a0 - (o_land (o_lushr a0 1) 6148914691236517205))) 3689348814741910323) + (o_land (o_lushr (mx (a0 - (o_land (o_lushr a0 1) 6148914691236517205))) 2) 3689348814741910323))) 4))) 1085102592571150095) 8))) 16))) + (o_lushr (mx ((mx ((o_land (mx ((mx ((o_land (mx (a0 - (o_land (o_lushr a0 1) 6148914691236517205))) 3689348814741910323) + (o_land (o_lushr (mx (a0 - (o_land (o_lushr a0 1) 6148914691236517205))) 2) 3689348814741910323))) + (o_lushr (mx ((o_land (mx (a0 - (o_land (o_lushr a0 1) 6148914691236517205))) 3689348814741910323) + (o_land (o_lushr (mx (a0 - (o_land (o_lushr a0 1) 6148914691236517205))) 2) 3689348814741910323))) 4))) 1085102592571150095) + (o_lushr (o_land (mx ((mx ((o_land (mx (a0 - (o_land (o_lushr a0 1) 6148914691236517205))) 3689348814741910323) + (o_land (o_lushr (mx (a0 - (o_land (o_lushr a0 1) 6148914691236517205))) 2) 3689348814741910323))) + (o_lushr (mx ((o_land (mx (a0 - (o_land (o_lushr a0 1) 6148914691236517205))) 3689348814741910323) + (o_land (o_lushr (mx (a0 - (o_land (o_lushr a0 1) 6148914691236517205))) 2) 3689348814741910323))) 4))) 1085102592571150095) 8))) + (o_lushr (mx ((o_land (mx ((mx ((o_land (mx (a0 - (o_land (o_lushr a0 1) 6148914691236517205))) 3689348814741910323) + (o_land (o_lushr (mx (a0 - (o_land (o_lushr a0 1) 6148914691236517205))) 2) 3689348814741910323))) + (o_lushr (mx ((o_land (mx (a0 - (o_land (o_lushr a0 1) 6148914691236517205))) 3689348814741910323) + (o_land (o_lushr (mx (a0 - (o_land (o_lushr a0 1) 6148914691236517205))) 2) 3689348814741910323))) 4))) 1085102592571150095) + (o_lushr (o_land (mx ((mx ((o_land (mx (a0 - (o_land (o_lushr a0 1) 6148914691236517205))) 3689348814741910323) + (o_land (o_lushr (mx (a0 - (o_land (o_lushr a0 1) 6148914691236517205))) 2) 3689348814741910323))) + (o_lushr (mx ((o_land (mx (a0 - (o_land (o_lushr a0 1) 6148914691236517205))) 3689348814741910323) + (o_land (o_lushr (mx (a0 - (o_land (o_lushr a0 1) 6148914691236517205))) 2) 3689348814741910323))) 4))) 1085102592571150095) 8))) 16))) 32)))) 127)], σ) (Ps := []) rfl trivial ?_
  cases h
  exact m_iret C0 hFin (k_at kJ13_bitCount_95d88_ok 48 rfl) (Or.inl rfl)
set_option maxRecDepth 100000 in
set_option maxHeartbeats 4000000 in
theorem p_X1_oneMirrorMore_17 {e : mEv} (hG : mGeo (mw0 e) lw_kept) (N : Nat) {f : mFx} (C0 : mCx f (mw0 e) sc0 cX1_oneMirrorMore 7 RX1 lw_kept) (hFr : mFr f 0) : ∀ (n : Nat) (x1 : Int) (x3 : Int) (x5 : Int) (x6 : Int) (σ : mS) (o3 : Int) (σ' : mS), L_X1_oneMirrorMore_17 N n x1 x3 x5 x6 σ = some (o3, σ') → mWW f (mw0 e) sc0 7 (72, [some (.inr (.inr (5, 0))), some (.inr (.inl x1)), none, some (.inr (.inl o3)), none, some (.inl x5), none], [], σ') → mWW f (mw0 e) sc0 7 (17, [some (.inr (.inr (5, 0))), some (.inr (.inl x1)), none, some (.inr (.inl x3)), none, some (.inl x5), some (.inl x6)], [], σ) := by
  intro n
  induction n with
  | zero =>
    intro x1 x3 x5 x6 σ o3 σ' h hK
    cases h
  | succ n IH =>
    intro x1 x3 x5 x6 σ o3 σ' h hK
    rw [L_X1_oneMirrorMore_17_s] at h
    refine m_blk C0 (pX1_ok rfl) kX1_oneMirrorMore_ok 10 3 (23, [some (.inr (.inr (5, 0))), some (.inr (.inl x1)), none, some (.inr (.inl x3)), none, some (.inl x5), some (.inl x6)], [.inl (σ 5 0 0), .inl x6], σ) (Ps := []) rfl trivial ?_
    refine b_ige C0 kX1_oneMirrorMore_ok 13 (off := 49) (tgt := 72) rfl (by decide) (fun hb234 => ?_) (fun hb234 => ?_)
    · replace h := g_pos hb234 h
      cases h
      refine m_mask [true, true, false, true, false, true, false] (ls' := [some (.inr (.inr (5, 0))), some (.inr (.inl x1)), none, some (.inr (.inl x3)), none, some (.inl x5), none]) rfl ?_
      exact hK
    · replace h := g_neg hb234 h
      refine m_blk C0 (pX1_ok rfl) kX1_oneMirrorMore_ok 14 7 (34, [some (.inr (.inr (5, 0))), some (.inr (.inl x1)), none, some (.inr (.inl x3)), none, some (.inl x5), some (.inl x6)], [.inl (if (o_land (o_lshr x1 x5) 1) > (1 : Int) then 1 else if (o_land (o_lshr x1 x5) 1) = (1 : Int) then 0 else -1)], σ) (Ps := []) rfl trivial ?_
      refine b_ne C0 kX1_oneMirrorMore_ok 21 (off := 38) (tgt := 72) rfl (by decide) (fun hb233 => ?_) (fun hb233 => ?_)
      · replace h := g_neg hb233 h
        cases h
        refine m_mask [true, true, false, true, false, true, false] (ls' := [some (.inr (.inr (5, 0))), some (.inr (.inl x1)), none, some (.inr (.inl x3)), none, some (.inl x5), none]) rfl ?_
        exact hK
      · replace h := g_pos hb233 h
        obtain ⟨hc, h⟩ := g_if h
        refine m_blk C0 (pX1_ok rfl) kX1_oneMirrorMore_ok 22 5 (45, [some (.inr (.inr (5, 0))), some (.inr (.inl x1)), none, some (.inr (.inl x3)), none, some (.inl x5), some (.inl x6)], [.inl (σ 22 0 x6.toNat), .inr (.inl x3)], σ) (Ps := [0 ≤ x6 ∧ x6 < 48]) rfl (And.intro hc trivial) ?_
        refine b_eq C0 kX1_oneMirrorMore_ok 27 (off := 18) (tgt := 63) rfl (by decide) (fun hb232 => ?_) (fun hb232 => ?_)
        · replace h := g_pos hb232 h
          refine m_blk C0 (pX1_ok rfl) kX1_oneMirrorMore_ok 37 5 (17, [some (.inr (.inr (5, 0))), some (.inr (.inl x1)), none, some (.inr (.inl (o_lor x3 0))), none, some (.inl x5), some (.inl (mw (x6 + 1)))], [], σ) (Ps := []) rfl trivial ?_
          refine m_mask [true, true, false, true, false, true, true] (ls' := [some (.inr (.inr (5, 0))), some (.inr (.inl x1)), none, some (.inr (.inl (o_lor x3 0))), none, some (.inl x5), some (.inl (mw (x6 + 1)))]) rfl ?_
          exact IH _ _ _ _ _ _ _ h hK
        · replace h := g_neg hb232 h
          obtain ⟨hc, h⟩ := g_if h
          refine m_blk C0 (pX1_ok rfl) kX1_oneMirrorMore_ok 28 9 (64, [some (.inr (.inr (5, 0))), some (.inr (.inl x1)), none, some (.inr (.inl x3)), none, some (.inl x5), some (.inl x6)], [.inr (.inl (o_lshl 1 (σ 16 x5.toNat x6.toNat))), .inr (.inl x3)], σ) (Ps := [0 ≤ x5 ∧ x5 < 48, 0 ≤ x6 ∧ x6 < 48]) rfl (And.intro hc.1 (And.intro hc.2 trivial)) ?_
          refine m_blk C0 (pX1_ok rfl) kX1_oneMirrorMore_ok 38 4 (17, [some (.inr (.inr (5, 0))), some (.inr (.inl x1)), none, some (.inr (.inl (o_lor x3 (o_lshl 1 (σ 16 x5.toNat x6.toNat))))), none, some (.inl x5), some (.inl (mw (x6 + 1)))], [], σ) (Ps := []) rfl trivial ?_
          refine m_mask [true, true, false, true, false, true, true] (ls' := [some (.inr (.inr (5, 0))), some (.inr (.inl x1)), none, some (.inr (.inl (o_lor x3 (o_lshl 1 (σ 16 x5.toNat x6.toNat))))), none, some (.inl x5), some (.inl (mw (x6 + 1)))]) rfl ?_
          exact IH _ _ _ _ _ _ _ h hK
set_option maxRecDepth 100000 in
set_option maxHeartbeats 4000000 in
theorem p_X1_oneMirrorMore_5 {e : mEv} (hG : mGeo (mw0 e) lw_kept) (N : Nat) {f : mFx} (C0 : mCx f (mw0 e) sc0 cX1_oneMirrorMore 7 RX1 lw_kept) (hFr : mFr f 0) : ∀ (n : Nat) (x1 : Int) (x3 : Int) (x5 : Int) (σ : mS) (o3 : Int) (σ' : mS), L_X1_oneMirrorMore_5 N n x1 x3 x5 σ = some (o3, σ') → mWW f (mw0 e) sc0 7 (78, [none, none, none, some (.inr (.inl o3)), none, none, none], [], σ') → mWW f (mw0 e) sc0 7 (5, [some (.inr (.inr (5, 0))), some (.inr (.inl x1)), none, some (.inr (.inl x3)), none, some (.inl x5), none], [], σ) := by
  intro n
  induction n with
  | zero =>
    intro x1 x3 x5 σ o3 σ' h hK
    cases h
  | succ n IH =>
    intro x1 x3 x5 σ o3 σ' h hK
    rw [L_X1_oneMirrorMore_5_s] at h
    refine m_blk C0 (pX1_ok rfl) kX1_oneMirrorMore_ok 4 3 (11, [some (.inr (.inr (5, 0))), some (.inr (.inl x1)), none, some (.inr (.inl x3)), none, some (.inl x5), none], [.inl (σ 5 0 0), .inl x5], σ) (Ps := []) rfl trivial ?_
    refine b_ige C0 kX1_oneMirrorMore_ok 7 (off := 67) (tgt := 78) rfl (by decide) (fun hb238 => ?_) (fun hb238 => ?_)
    · replace h := g_pos hb238 h
      cases h
      refine m_mask [false, false, false, true, false, false, false] (ls' := [none, none, none, some (.inr (.inl x3)), none, none, none]) rfl ?_
      exact hK
    · replace h := g_neg hb238 h
      refine m_blk C0 (pX1_ok rfl) kX1_oneMirrorMore_ok 8 2 (17, [some (.inr (.inr (5, 0))), some (.inr (.inl x1)), none, some (.inr (.inl x3)), none, some (.inl x5), some (.inl 0)], [], σ) (Ps := []) rfl trivial ?_
      obtain ⟨⟨o236, s235⟩, hq237, h⟩ := g_bind h
      refine m_mask [true, true, false, true, false, true, true] (ls' := [some (.inr (.inr (5, 0))), some (.inr (.inl x1)), none, some (.inr (.inl x3)), none, some (.inl x5), some (.inl 0)]) rfl ?_
      refine p_X1_oneMirrorMore_17 hG N C0 hFr N _ _ _ _ _ _ _ hq237 ?_
      refine m_blk C0 (pX1_ok rfl) kX1_oneMirrorMore_ok 42 2 (5, [some (.inr (.inr (5, 0))), some (.inr (.inl x1)), none, some (.inr (.inl o236)), none, some (.inl (mw (x5 + 1))), none], [], s235) (Ps := []) rfl trivial ?_
      refine m_mask [true, true, false, true, false, true, false] (ls' := [some (.inr (.inr (5, 0))), some (.inr (.inl x1)), none, some (.inr (.inl o236)), none, some (.inl (mw (x5 + 1))), none]) rfl ?_
      exact IH _ _ _ _ _ _ h hK
set_option maxRecDepth 100000 in
set_option maxHeartbeats 4000000 in
theorem t_X1_oneMirrorMore {e : mEv} (hG : mGeo (mw0 e) lw_kept) (l : Launch) (N : Nat) {a1 : Int} {σ σ' : mS} {v : Int} (h : f_X1_oneMirrorMore N a1 σ = some (v, σ')) : mMet l (mw0 e) lw_kept 0 yX1_oneMirrorMore cX1_oneMirrorMore 7 (some .long) [.inr (.inr (5, 0)), .inr (.inl a1)] σ (some (.inr (.inl v))) σ' := by
  refine mMet_intro (plainFor_of_name (by decide)) hG (Nat.le_of_ble_eq_true rfl) (fun f hl hR C0 hFin => ?_)
  subst hl
  have hFr := mFr_of hR hFin
  unfold f_X1_oneMirrorMore at h
  show mWW f (mw0 e) sc0 7 (0, [some (.inr (.inr (5, 0))), some (.inr (.inl a1)), none, none, none, none, none], [], σ)
  refine m_blk C0 (pX1_ok rfl) kX1_oneMirrorMore_ok 0 4 (5, [some (.inr (.inr (5, 0))), some (.inr (.inl a1)), none, some (.inr (.inl 0)), none, some (.inl 0), none], [], σ) (Ps := []) rfl trivial ?_
  obtain ⟨⟨o240, s239⟩, hq241, h⟩ := g_bind h
  refine m_mask [true, true, false, true, false, true, false] (ls' := [some (.inr (.inr (5, 0))), some (.inr (.inl a1)), none, some (.inr (.inl 0)), none, some (.inl 0), none]) rfl ?_
  refine p_X1_oneMirrorMore_5 hG N C0 hFr N _ _ _ _ _ _ hq241 ?_
  refine m_blk C0 (pX1_ok rfl) kX1_oneMirrorMore_ok 44 1 (79, [none, none, none, some (.inr (.inl o240)), none, none, none], [.inr (.inl o240)], s239) (Ps := []) rfl trivial ?_
  cases h
  exact m_lret C0 hFin (k_at kX1_oneMirrorMore_ok 45 rfl)
set_option maxRecDepth 100000 in
set_option maxHeartbeats 4000000 in
theorem p_X1_isMadeOfMirrors_4 {e : mEv} (hG : mGeo (mw0 e) lw_kept) (N : Nat) {f : mFx} (C0 : mCx f (mw0 e) sc0 cX1_isMadeOfMirrors 4 RX1 lw_kept) (hFr : mFr f 1) : ∀ (n : Nat) (x1 : Int) (x3 : Int) (σ : mS) (o3 : Int) (σ' : mS), L_X1_isMadeOfMirrors_4 N n x1 x3 σ = some (o3, σ') → mWW f (mw0 e) sc0 4 (34, [some (.inr (.inr (5, 0))), none, none, some (.inl o3)], [], σ') → mWW f (mw0 e) sc0 4 (4, [some (.inr (.inr (5, 0))), some (.inr (.inl x1)), none, some (.inl x3)], [], σ) := by
  intro n
  induction n with
  | zero =>
    intro x1 x3 σ o3 σ' h hK
    cases h
  | succ n IH =>
    intro x1 x3 σ o3 σ' h hK
    rw [L_X1_isMadeOfMirrors_4_s] at h
    refine m_blk C0 (pX1_ok rfl) kX1_isMadeOfMirrors_ok 4 1 (5, [some (.inr (.inr (5, 0))), some (.inr (.inl x1)), none, some (.inl x3)], [.inr (.inl x1)], σ) (Ps := []) rfl trivial ?_
    obtain ⟨⟨v229, s228⟩, hq248, h⟩ := g_bind h
    refine c_S (rest := []) C0 hFr (t_J13_bitCount_95d88 hG f.2.1 N hq248) lk_X1_141 (k_at kX1_isMadeOfMirrors_ok 5 rfl) rfl rfl rfl (by decide) (by decide) (Nat.le_of_ble_eq_true rfl) ?_
    refine m_blk C0 (pX1_ok rfl) kX1_isMadeOfMirrors_ok 6 1 (9, [some (.inr (.inr (5, 0))), some (.inr (.inl x1)), none, some (.inl x3)], [.inl x3, .inl v229], s228) (Ps := []) rfl trivial ?_
    refine b_ile C0 kX1_isMadeOfMirrors_ok 7 (off := 25) (tgt := 34) rfl (by decide) (fun hb247 => ?_) (fun hb247 => ?_)
    · replace h := g_pos hb247 h
      cases h
      refine m_mask [true, false, false, true] (ls' := [some (.inr (.inr (5, 0))), none, none, some (.inl x3)]) rfl ?_
      exact hK
    · replace h := g_neg hb247 h
      refine m_blk C0 (pX1_ok rfl) kX1_isMadeOfMirrors_ok 8 2 (15, [some (.inr (.inr (5, 0))), some (.inr (.inl x1)), none, some (.inl x3)], [.inl 48, .inl x3], s228) (Ps := []) rfl trivial ?_
      refine b_ige C0 kX1_isMadeOfMirrors_ok 10 (off := 19) (tgt := 34) rfl (by decide) (fun hb246 => ?_) (fun hb246 => ?_)
      · replace h := g_pos hb246 h
        cases h
        refine m_mask [true, false, false, true] (ls' := [some (.inr (.inr (5, 0))), none, none, some (.inl x3)]) rfl ?_
        exact hK
      · replace h := g_neg hb246 h
        refine m_blk C0 (pX1_ok rfl) kX1_isMadeOfMirrors_ok 11 1 (19, [some (.inr (.inr (5, 0))), some (.inr (.inl x1)), none, some (.inl x3)], [.inr (.inl x1)], s228) (Ps := []) rfl trivial ?_
        obtain ⟨⟨v231, s230⟩, hq245, h⟩ := g_bind h
        refine c_S (rest := []) C0 hFr (t_J13_bitCount_95d88 hG f.2.1 N hq245) lk_X1_141 (k_at kX1_isMadeOfMirrors_ok 12 rfl) rfl rfl rfl (by decide) (by decide) (Nat.le_of_ble_eq_true rfl) ?_
        refine m_blk C0 (pX1_ok rfl) kX1_isMadeOfMirrors_ok 13 4 (26, [some (.inr (.inr (5, 0))), some (.inr (.inl x1)), none, some (.inl v231)], [.inr (.inl x1), .inr (.inr (5, 0)), .inr (.inl x1)], s230) (Ps := []) rfl trivial ?_
        obtain ⟨⟨v243, s242⟩, hq244, h⟩ := g_bind h
        refine c_V (rest := [.inr (.inl x1)]) C0 hFr (t_X1_oneMirrorMore hG f.2.1 N hq244) lk_X1_147 (k_at kX1_isMadeOfMirrors_ok 17 rfl) rfl rfl rfl rfl ⟨_, _, rfl⟩ (by decide) (by decide) (Nat.le_of_ble_eq_true rfl) ?_
        refine m_blk C0 (pX1_ok rfl) kX1_isMadeOfMirrors_ok 18 3 (4, [some (.inr (.inr (5, 0))), some (.inr (.inl (o_lor x1 v243))), none, some (.inl v231)], [], s242) (Ps := []) rfl trivial ?_
        refine m_mask [true, true, false, true] (ls' := [some (.inr (.inr (5, 0))), some (.inr (.inl (o_lor x1 v243))), none, some (.inl v231)]) rfl ?_
        exact IH _ _ _ _ _ h hK
set_option maxRecDepth 100000 in
set_option maxHeartbeats 4000000 in
theorem t_X1_isMadeOfMirrors {e : mEv} (hG : mGeo (mw0 e) lw_kept) (l : Launch) (N : Nat) {σ σ' : mS} {v : Int} (h : f_X1_isMadeOfMirrors N σ = some (v, σ')) : mMet l (mw0 e) lw_kept 1 yX1_isMadeOfMirrors cX1_isMadeOfMirrors 4 (some .boolean) [.inr (.inr (5, 0))] σ (some (.inl v)) σ' := by
  refine mMet_intro (plainFor_of_name (by decide)) hG (Nat.le_of_ble_eq_true rfl) (fun f hl hR C0 hFin => ?_)
  subst hl
  have hFr := mFr_of hR hFin
  unfold f_X1_isMadeOfMirrors at h
  show mWW f (mw0 e) sc0 4 (0, [some (.inr (.inr (5, 0))), none, none, none], [], σ)
  refine m_blk C0 (pX1_ok rfl) kX1_isMadeOfMirrors_ok 0 4 (4, [some (.inr (.inr (5, 0))), some (.inr (.inl 1)), none, some (.inl 0)], [], σ) (Ps := []) rfl trivial ?_
  obtain ⟨⟨o250, s249⟩, hq252, h⟩ := g_bind h
  refine m_mask [true, true, false, true] (ls' := [some (.inr (.inr (5, 0))), some (.inr (.inl 1)), none, some (.inl 0)]) rfl ?_
  refine p_X1_isMadeOfMirrors_4 hG N C0 hFr N _ _ _ _ _ hq252 ?_
  refine m_blk C0 (pX1_ok rfl) kX1_isMadeOfMirrors_ok 21 3 (39, [some (.inr (.inr (5, 0))), none, none, some (.inl o250)], [.inl (s249 5 0 0), .inl o250], s249) (Ps := []) rfl trivial ?_
  refine b_ine C0 kX1_isMadeOfMirrors_ok 24 (off := 7) (tgt := 46) rfl (by decide) (fun hb251 => ?_) (fun hb251 => ?_)
  · replace h := g_neg hb251 h
    refine m_blk C0 (pX1_ok rfl) kX1_isMadeOfMirrors_ok 27 1 (47, [some (.inr (.inr (5, 0))), none, none, some (.inl o250)], [.inl 0], s249) (Ps := []) rfl trivial ?_
    cases h
    exact m_iret C0 hFin (k_at kX1_isMadeOfMirrors_ok 28 rfl) (Or.inr ⟨rfl, by decide⟩)
  · replace h := g_pos hb251 h
    refine m_blk C0 (pX1_ok rfl) kX1_isMadeOfMirrors_ok 25 2 (47, [some (.inr (.inr (5, 0))), none, none, some (.inl o250)], [.inl 1], s249) (Ps := []) rfl trivial ?_
    cases h
    exact m_iret C0 hFin (k_at kX1_isMadeOfMirrors_ok 28 rfl) (Or.inr ⟨rfl, by decide⟩)
set_option maxRecDepth 100000 in
set_option maxHeartbeats 4000000 in
theorem t_X3_empty {e : mEv} (hG : mGeo (mw0 e) lw_kept) (l : Launch) (N : Nat) {q0 : Nat} {σ σ' : mS} (h : f_X3_empty N q0 σ = some σ') : mMet l (mw0 e) lw_kept 0 yX3_empty cX3_empty 1 none [.inr (.inr (47, q0))] σ none σ' := by
  refine mMet_intro (plainFor_of_name (by decide)) hG (Nat.le_of_ble_eq_true rfl) (fun f hl hR C0 hFin => ?_)
  subst hl
  have hFr := mFr_of hR hFin
  unfold f_X3_empty at h
  show mWW f (mw0 e) sc0 1 (0, [some (.inr (.inr (47, q0)))], [], σ)
  refine m_blk C0 (pX3_ok rfl) kX3_empty_ok 0 3 (5, [some (.inr (.inr (47, q0)))], [], (mup σ 47 q0 3 0)) (Ps := []) rfl trivial ?_
  refine m_blk C0 (pX3_ok rfl) kX3_empty_ok 3 3 (10, [some (.inr (.inr (47, q0)))], [], (mup (mup σ 47 q0 3 0) 47 q0 7 0)) (Ps := []) rfl trivial ?_
  cases h
  exact m_vret C0 hFin (k_at kX3_empty_ok 6 rfl)
set_option maxRecDepth 100000 in
set_option maxHeartbeats 4000000 in
theorem p_J7_fill_53178_r60_5 {e : mEv} (hG : mGeo (mw0 e) lw_kept) (N : Nat) {f : mFx} (C0 : mCx f (mw0 e) sc0 cJ7_fill_53178 4 RJ7 lw_kept) (hFr : mFr f 0) : ∀ (n : Nat) (y0 : Nat) (x1 : Int) (x2 : Int) (x3 : Int) (σ : mS) (σ' : mS), L_J7_fill_53178_r60_5 N n y0 x1 x2 x3 σ = some σ' → mWW f (mw0 e) sc0 4 (20, [none, none, none, none], [], σ') → mWW f (mw0 e) sc0 4 (5, [some (.inr (.inr (60, y0))), some (.inl x1), some (.inl x2), some (.inl x3)], [], σ) := by
  intro n
  induction n with
  | zero =>
    intro y0 x1 x2 x3 σ σ' h hK
    cases h
  | succ n IH =>
    intro y0 x1 x2 x3 σ σ' h hK
    rw [L_J7_fill_53178_r60_5_s] at h
    refine m_blk C0 (pJ7_ok rfl) kJ7_fill_53178_ok 5 2 (7, [some (.inr (.inr (60, y0))), some (.inl x1), some (.inl x2), some (.inl x3)], [.inl x3, .inl x2], σ) (Ps := []) rfl trivial ?_
    refine b_ige C0 kJ7_fill_53178_ok 7 (off := 13) (tgt := 20) rfl (by decide) (fun hb258 => ?_) (fun hb258 => ?_)
    · replace h := g_pos hb258 h
      cases h
      refine m_mask [false, false, false, false] (ls' := [none, none, none, none]) rfl ?_
      exact hK
    · replace h := g_neg hb258 h
      obtain ⟨hc, h⟩ := g_if h
      refine m_blk C0 (pJ7_ok rfl) kJ7_fill_53178_ok 8 4 (14, [some (.inr (.inr (60, y0))), some (.inl x1), some (.inl x2), some (.inl x3)], [], (mup σ 60 y0 x2.toNat x1)) (Ps := [0 ≤ x2 ∧ x2 < ((gwd y0 : Nat) : Int)]) rfl (And.intro hc trivial) ?_
      refine m_blk C0 (pJ7_ok rfl) kJ7_fill_53178_ok 12 2 (5, [some (.inr (.inr (60, y0))), some (.inl x1), some (.inl (mw (x2 + 1))), some (.inl x3)], [], (mup σ 60 y0 x2.toNat x1)) (Ps := []) rfl trivial ?_
      refine m_mask [true, true, true, true] (ls' := [some (.inr (.inr (60, y0))), some (.inl x1), some (.inl (mw (x2 + 1))), some (.inl x3)]) rfl ?_
      exact IH _ _ _ _ _ _ h hK
set_option maxRecDepth 100000 in
set_option maxHeartbeats 4000000 in
theorem t_J7_fill_53178_r60 {e : mEv} (hG : mGeo (mw0 e) lw_kept) (l : Launch) (N : Nat) {q0 : Nat} {a1 : Int} {σ σ' : mS} (h : f_J7_fill_53178_r60 N q0 a1 σ = some σ') : mMet l (mw0 e) lw_kept 0 yJ7_fill_53178 cJ7_fill_53178 4 none [.inr (.inr (60, q0)), .inl a1] σ none σ' := by
  refine mMet_intro (by decide +kernel) hG (Nat.le_of_ble_eq_true rfl) (fun f hl hR C0 hFin => ?_)
  subst hl
  have hFr := mFr_of hR hFin
  unfold f_J7_fill_53178_r60 at h
  show mWW f (mw0 e) sc0 4 (0, [some (.inr (.inr (60, q0))), some (.inl a1), none, none], [], σ)
  refine m_blk C0 (pJ7_ok rfl) kJ7_fill_53178_ok 0 5 (5, [some (.inr (.inr (60, q0))), some (.inl a1), some (.inl 0), some (.inl ((gwd q0 : Nat) : Int))], [], σ) (Ps := []) rfl trivial ?_
  obtain ⟨s259, hq260, h⟩ := g_bind h
  refine m_mask [true, true, true, true] (ls' := [some (.inr (.inr (60, q0))), some (.inl a1), some (.inl 0), some (.inl ((gwd q0 : Nat) : Int))]) rfl ?_
  refine p_J7_fill_53178_r60_5 hG N C0 hFr N _ _ _ _ _ _ hq260 ?_
  cases h
  exact m_vret C0 hFin (k_at kJ7_fill_53178_ok 14 rfl)
set_option maxRecDepth 100000 in
set_option maxHeartbeats 4000000 in
theorem p_X11_takeOff_r59_r55_10 {e : mEv} (hG : mGeo (mw0 e) lw_kept) (N : Nat) {f : mFx} (C0 : mCx f (mw0 e) sc0 cX11_takeOff 6 RX11 lw_kept) (hFr : mFr f 0) : ∀ (n : Nat) (y0 : Nat) (y1 : Nat) (x3 : Int) (x4 : Int) (x5 : Int) (σ : mS) (σ' : mS), L_X11_takeOff_r59_r55_10 N n y0 y1 x3 x4 x5 σ = some σ' → mWW f (mw0 e) sc0 6 (49, [none, none, none, none, none, none], [], σ') → mWW f (mw0 e) sc0 6 (10, [some (.inr (.inr (59, y0))), some (.inr (.inr (55, y1))), none, some (.inl x3), some (.inl x4), some (.inl x5)], [], σ) := by
  intro n
  induction n with
  | zero =>
    intro y0 y1 x3 x4 x5 σ σ' h hK
    cases h
  | succ n IH =>
    intro y0 y1 x3 x4 x5 σ σ' h hK
    rw [L_X11_takeOff_r59_r55_10_s] at h
    refine m_blk C0 (pX11_ok rfl) kX11_takeOff_ok 6 2 (13, [some (.inr (.inr (59, y0))), some (.inr (.inr (55, y1))), none, some (.inl x3), some (.inl x4), some (.inl x5)], [.inl x3, .inl x5], σ) (Ps := []) rfl trivial ?_
    refine b_ige C0 kX11_takeOff_ok 8 (off := 36) (tgt := 49) rfl (by decide) (fun hb263 => ?_) (fun hb263 => ?_)
    · replace h := g_pos hb263 h
      cases h
      refine m_mask [false, false, false, false, false, false] (ls' := [none, none, none, none, none, none]) rfl ?_
      exact hK
    · replace h := g_neg hb263 h
      obtain ⟨hc, h⟩ := g_if h
      refine m_blk C0 (pX11_ok rfl) kX11_takeOff_ok 9 3 (20, [some (.inr (.inr (59, y0))), some (.inr (.inr (55, y1))), none, some (.inl x3), some (.inl x4), some (.inl x5)], [.inl (σ 55 y1 x5.toNat)], σ) (Ps := [0 ≤ x5 ∧ x5 < ((gwd (y1 / 64) : Nat) : Int)]) rfl (And.intro hc trivial) ?_
      refine b_eq C0 kX11_takeOff_ok 12 (off := 23) (tgt := 43) rfl (by decide) (fun hb262 => ?_) (fun hb262 => ?_)
      · replace h := g_pos hb262 h
        refine m_blk C0 (pX11_ok rfl) kX11_takeOff_ok 27 2 (10, [some (.inr (.inr (59, y0))), some (.inr (.inr (55, y1))), none, some (.inl x3), some (.inl x4), some (.inl (mw (x5 + 1)))], [], σ) (Ps := []) rfl trivial ?_
        refine m_mask [true, true, false, true, true, true] (ls' := [some (.inr (.inr (59, y0))), some (.inr (.inr (55, y1))), none, some (.inl x3), some (.inl x4), some (.inl (mw (x5 + 1)))]) rfl ?_
        exact IH _ _ _ _ _ _ _ h hK
      · replace h := g_neg hb262 h
        obtain ⟨hc, h⟩ := g_if h
        refine m_blk C0 (pX11_ok rfl) kX11_takeOff_ok 13 14 (43, [some (.inr (.inr (59, y0))), some (.inr (.inr (55, y1))), none, some (.inl x3), some (.inl x4), some (.inl x5)], [], (mup σ 59 y0 x5.toNat (o_rem (mw ((σ 59 y0 x5.toNat) + (mw (x4 * (σ 55 y1 x5.toNat))))) 32003))) (Ps := [0 ≤ x5 ∧ x5 < ((gwd y0 : Nat) : Int), 0 ≤ x5 ∧ x5 < ((gwd (y1 / 64) : Nat) : Int), ¬ (32003 : Int) = 0, 0 ≤ x5 ∧ x5 < ((gwd y0 : Nat) : Int)]) rfl (And.intro hc.1 (And.intro hc.2 (And.intro (by decide) (And.intro hc.1 trivial)))) ?_
        refine m_blk C0 (pX11_ok rfl) kX11_takeOff_ok 27 2 (10, [some (.inr (.inr (59, y0))), some (.inr (.inr (55, y1))), none, some (.inl x3), some (.inl x4), some (.inl (mw (x5 + 1)))], [], (mup σ 59 y0 x5.toNat (o_rem (mw ((σ 59 y0 x5.toNat) + (mw (x4 * (σ 55 y1 x5.toNat))))) 32003))) (Ps := []) rfl trivial ?_
        refine m_mask [true, true, false, true, true, true] (ls' := [some (.inr (.inr (59, y0))), some (.inr (.inr (55, y1))), none, some (.inl x3), some (.inl x4), some (.inl (mw (x5 + 1)))]) rfl ?_
        exact IH _ _ _ _ _ _ _ h hK
set_option maxRecDepth 100000 in
set_option maxHeartbeats 4000000 in
theorem t_X11_takeOff_r59_r55 {e : mEv} (hG : mGeo (mw0 e) lw_kept) (l : Launch) (N : Nat) {q0 : Nat} {q1 : Nat} {a2 : Int} {a3 : Int} {σ σ' : mS} (h : f_X11_takeOff_r59_r55 N q0 q1 a2 a3 σ = some σ') : mMet l (mw0 e) lw_kept 0 yX11_takeOff cX11_takeOff 6 none [.inr (.inr (59, q0)), .inr (.inr (55, q1)), .inl a2, .inl a3] σ none σ' := by
  refine mMet_intro (plainFor_of_name (by decide)) hG (Nat.le_of_ble_eq_true rfl) (fun f hl hR C0 hFin => ?_)
  subst hl
  have hFr := mFr_of hR hFin
  unfold f_X11_takeOff_r59_r55 at h
  show mWW f (mw0 e) sc0 6 (0, [some (.inr (.inr (59, q0))), some (.inr (.inr (55, q1))), some (.inl a2), some (.inl a3), none, none], [], σ)
  refine m_blk C0 (pX11_ok rfl) kX11_takeOff_ok 0 6 (10, [some (.inr (.inr (59, q0))), some (.inr (.inr (55, q1))), some (.inl a2), some (.inl a3), some (.inl (mw ((32003 : Int) - a2))), some (.inl 0)], [], σ) (Ps := []) rfl trivial ?_
  obtain ⟨s264, hq265, h⟩ := g_bind h
  refine m_mask [true, true, false, true, true, true] (ls' := [some (.inr (.inr (59, q0))), some (.inr (.inr (55, q1))), none, some (.inl a3), some (.inl (mw ((32003 : Int) - a2))), some (.inl 0)]) rfl ?_
  refine p_X11_takeOff_r59_r55_10 hG N C0 hFr N _ _ _ _ _ _ _ hq265 ?_
  cases h
  exact m_vret C0 hFin (k_at kX11_takeOff_ok 29 rfl)
set_option maxRecDepth 100000 in
set_option maxHeartbeats 4000000 in
theorem p_X11_takeOff_r60_r57_10 {e : mEv} (hG : mGeo (mw0 e) lw_kept) (N : Nat) {f : mFx} (C0 : mCx f (mw0 e) sc0 cX11_takeOff 6 RX11 lw_kept) (hFr : mFr f 0) : ∀ (n : Nat) (y0 : Nat) (y1 : Nat) (x3 : Int) (x4 : Int) (x5 : Int) (σ : mS) (σ' : mS), L_X11_takeOff_r60_r57_10 N n y0 y1 x3 x4 x5 σ = some σ' → mWW f (mw0 e) sc0 6 (49, [none, none, none, none, none, none], [], σ') → mWW f (mw0 e) sc0 6 (10, [some (.inr (.inr (60, y0))), some (.inr (.inr (57, y1))), none, some (.inl x3), some (.inl x4), some (.inl x5)], [], σ) := by
  intro n
  induction n with
  | zero =>
    intro y0 y1 x3 x4 x5 σ σ' h hK
    cases h
  | succ n IH =>
    intro y0 y1 x3 x4 x5 σ σ' h hK
    rw [L_X11_takeOff_r60_r57_10_s] at h
    refine m_blk C0 (pX11_ok rfl) kX11_takeOff_ok 6 2 (13, [some (.inr (.inr (60, y0))), some (.inr (.inr (57, y1))), none, some (.inl x3), some (.inl x4), some (.inl x5)], [.inl x3, .inl x5], σ) (Ps := []) rfl trivial ?_
    refine b_ige C0 kX11_takeOff_ok 8 (off := 36) (tgt := 49) rfl (by decide) (fun hb268 => ?_) (fun hb268 => ?_)
    · replace h := g_pos hb268 h
      cases h
      refine m_mask [false, false, false, false, false, false] (ls' := [none, none, none, none, none, none]) rfl ?_
      exact hK
    · replace h := g_neg hb268 h
      obtain ⟨hc, h⟩ := g_if h
      refine m_blk C0 (pX11_ok rfl) kX11_takeOff_ok 9 3 (20, [some (.inr (.inr (60, y0))), some (.inr (.inr (57, y1))), none, some (.inl x3), some (.inl x4), some (.inl x5)], [.inl (σ 57 y1 x5.toNat)], σ) (Ps := [0 ≤ x5 ∧ x5 < ((gwd (y1 / 64) : Nat) : Int)]) rfl (And.intro hc trivial) ?_
      refine b_eq C0 kX11_takeOff_ok 12 (off := 23) (tgt := 43) rfl (by decide) (fun hb267 => ?_) (fun hb267 => ?_)
      · replace h := g_pos hb267 h
        refine m_blk C0 (pX11_ok rfl) kX11_takeOff_ok 27 2 (10, [some (.inr (.inr (60, y0))), some (.inr (.inr (57, y1))), none, some (.inl x3), some (.inl x4), some (.inl (mw (x5 + 1)))], [], σ) (Ps := []) rfl trivial ?_
        refine m_mask [true, true, false, true, true, true] (ls' := [some (.inr (.inr (60, y0))), some (.inr (.inr (57, y1))), none, some (.inl x3), some (.inl x4), some (.inl (mw (x5 + 1)))]) rfl ?_
        exact IH _ _ _ _ _ _ _ h hK
      · replace h := g_neg hb267 h
        obtain ⟨hc, h⟩ := g_if h
        refine m_blk C0 (pX11_ok rfl) kX11_takeOff_ok 13 14 (43, [some (.inr (.inr (60, y0))), some (.inr (.inr (57, y1))), none, some (.inl x3), some (.inl x4), some (.inl x5)], [], (mup σ 60 y0 x5.toNat (o_rem (mw ((σ 60 y0 x5.toNat) + (mw (x4 * (σ 57 y1 x5.toNat))))) 32003))) (Ps := [0 ≤ x5 ∧ x5 < ((gwd y0 : Nat) : Int), 0 ≤ x5 ∧ x5 < ((gwd (y1 / 64) : Nat) : Int), ¬ (32003 : Int) = 0, 0 ≤ x5 ∧ x5 < ((gwd y0 : Nat) : Int)]) rfl (And.intro hc.1 (And.intro hc.2 (And.intro (by decide) (And.intro hc.1 trivial)))) ?_
        refine m_blk C0 (pX11_ok rfl) kX11_takeOff_ok 27 2 (10, [some (.inr (.inr (60, y0))), some (.inr (.inr (57, y1))), none, some (.inl x3), some (.inl x4), some (.inl (mw (x5 + 1)))], [], (mup σ 60 y0 x5.toNat (o_rem (mw ((σ 60 y0 x5.toNat) + (mw (x4 * (σ 57 y1 x5.toNat))))) 32003))) (Ps := []) rfl trivial ?_
        refine m_mask [true, true, false, true, true, true] (ls' := [some (.inr (.inr (60, y0))), some (.inr (.inr (57, y1))), none, some (.inl x3), some (.inl x4), some (.inl (mw (x5 + 1)))]) rfl ?_
        exact IH _ _ _ _ _ _ _ h hK
set_option maxRecDepth 100000 in
set_option maxHeartbeats 4000000 in
theorem t_X11_takeOff_r60_r57 {e : mEv} (hG : mGeo (mw0 e) lw_kept) (l : Launch) (N : Nat) {q0 : Nat} {q1 : Nat} {a2 : Int} {a3 : Int} {σ σ' : mS} (h : f_X11_takeOff_r60_r57 N q0 q1 a2 a3 σ = some σ') : mMet l (mw0 e) lw_kept 0 yX11_takeOff cX11_takeOff 6 none [.inr (.inr (60, q0)), .inr (.inr (57, q1)), .inl a2, .inl a3] σ none σ' := by
  refine mMet_intro (plainFor_of_name (by decide)) hG (Nat.le_of_ble_eq_true rfl) (fun f hl hR C0 hFin => ?_)
  subst hl
  have hFr := mFr_of hR hFin
  unfold f_X11_takeOff_r60_r57 at h
  show mWW f (mw0 e) sc0 6 (0, [some (.inr (.inr (60, q0))), some (.inr (.inr (57, q1))), some (.inl a2), some (.inl a3), none, none], [], σ)
  refine m_blk C0 (pX11_ok rfl) kX11_takeOff_ok 0 6 (10, [some (.inr (.inr (60, q0))), some (.inr (.inr (57, q1))), some (.inl a2), some (.inl a3), some (.inl (mw ((32003 : Int) - a2))), some (.inl 0)], [], σ) (Ps := []) rfl trivial ?_
  obtain ⟨s269, hq270, h⟩ := g_bind h
  refine m_mask [true, true, false, true, true, true] (ls' := [some (.inr (.inr (60, q0))), some (.inr (.inr (57, q1))), none, some (.inl a3), some (.inl (mw ((32003 : Int) - a2))), some (.inl 0)]) rfl ?_
  refine p_X11_takeOff_r60_r57_10 hG N C0 hFr N _ _ _ _ _ _ _ hq270 ?_
  cases h
  exact m_vret C0 hFin (k_at kX11_takeOff_ok 29 rfl)
set_option maxRecDepth 100000 in
set_option maxHeartbeats 4000000 in
theorem p_X3_reduceWork_2 {e : mEv} (hG : mGeo (mw0 e) lw_kept) (N : Nat) {f : mFx} (C0 : mCx f (mw0 e) sc0 cX3_reduceWork 3 RX3 lw_kept) (hFr : mFr f 1) : ∀ (n : Nat) (y0 : Nat) (x1 : Int) (σ : mS) (σ' : mS), L_X3_reduceWork_2 N n y0 x1 σ = some σ' → mWW f (mw0 e) sc0 3 (68, [none, none, none], [], σ') → mWW f (mw0 e) sc0 3 (2, [some (.inr (.inr (47, y0))), some (.inl x1), none], [], σ) := by
  intro n
  induction n with
  | zero =>
    intro y0 x1 σ σ' h hK
    cases h
  | succ n IH =>
    intro y0 x1 σ σ' h hK
    rw [L_X3_reduceWork_2_s] at h
    refine m_blk C0 (pX3_ok rfl) kX3_reduceWork_ok 2 3 (7, [some (.inr (.inr (47, y0))), some (.inl x1), none], [.inl (σ 47 y0 7), .inl x1], σ) (Ps := []) rfl trivial ?_
    refine b_ige C0 kX3_reduceWork_ok 5 (off := 61) (tgt := 68) rfl (by decide) (fun hb275 => ?_) (fun hb275 => ?_)
    · replace h := g_pos hb275 h
      cases h
      refine m_mask [false, false, false] (ls' := [none, none, none]) rfl ?_
      exact hK
    · replace h := g_neg hb275 h
      obtain ⟨hc, h⟩ := g_if h
      refine m_blk C0 (pX3_ok rfl) kX3_reduceWork_ok 6 9 (23, [some (.inr (.inr (47, y0))), some (.inl x1), some (.inl (σ 59 y0 ((σ 58 y0 x1.toNat).toNat)))], [.inl (σ 59 y0 ((σ 58 y0 x1.toNat).toNat))], σ) (Ps := [0 ≤ x1 ∧ x1 < ((gwd y0 : Nat) : Int), 0 ≤ (σ 58 y0 x1.toNat) ∧ (σ 58 y0 x1.toNat) < ((gwd y0 : Nat) : Int)]) rfl (And.intro hc.1 (And.intro hc.2 trivial)) ?_
      refine b_eq C0 kX3_reduceWork_ok 15 (off := 39) (tgt := 62) rfl (by decide) (fun hb274 => ?_) (fun hb274 => ?_)
      · replace h := g_pos hb274 h
        refine m_blk C0 (pX3_ok rfl) kX3_reduceWork_ok 36 2 (2, [some (.inr (.inr (47, y0))), some (.inl (mw (x1 + 1))), some (.inl (σ 59 y0 ((σ 58 y0 x1.toNat).toNat)))], [], σ) (Ps := []) rfl trivial ?_
        refine m_mask [true, true, false] (ls' := [some (.inr (.inr (47, y0))), some (.inl (mw (x1 + 1))), none]) rfl ?_
        exact IH _ _ _ _ h hK
      · replace h := g_neg hb274 h
        obtain ⟨hc, h⟩ := g_if h
        refine m_blk C0 (pX3_ok rfl) kX3_reduceWork_ok 16 9 (41, [some (.inr (.inr (47, y0))), some (.inl x1), some (.inl (σ 59 y0 ((σ 58 y0 x1.toNat).toNat)))], [.inl (σ 47 y0 1), .inl (σ 59 y0 ((σ 58 y0 x1.toNat).toNat)), .inr (.inr (55, 64 * y0 + x1.toNat)), .inr (.inr (59, y0))], σ) (Ps := [0 ≤ x1 ∧ x1 < ((gwd y0 : Nat) : Int)]) rfl (And.intro hc trivial) ?_
        obtain ⟨s266, hq273, h⟩ := g_bind h
        refine c_SN (rest := []) C0 hFr (t_X11_takeOff_r59_r55 hG f.2.1 N hq273) lk_X3_66 (k_at kX3_reduceWork_ok 25 rfl) rfl rfl rfl (by decide) (by decide) (Nat.le_of_ble_eq_true rfl) ?_
        obtain ⟨hc, h⟩ := g_if h
        refine m_blk C0 (pX3_ok rfl) kX3_reduceWork_ok 26 9 (59, [some (.inr (.inr (47, y0))), some (.inl x1), some (.inl (σ 59 y0 ((σ 58 y0 x1.toNat).toNat)))], [.inl (s266 47 y0 7), .inl (σ 59 y0 ((σ 58 y0 x1.toNat).toNat)), .inr (.inr (57, 64 * y0 + x1.toNat)), .inr (.inr (60, y0))], s266) (Ps := [0 ≤ x1 ∧ x1 < ((gwd y0 : Nat) : Int)]) rfl (And.intro hc trivial) ?_
        obtain ⟨s271, hq272, h⟩ := g_bind h
        refine c_SN (rest := []) C0 hFr (t_X11_takeOff_r60_r57 hG f.2.1 N hq272) lk_X3_66 (k_at kX3_reduceWork_ok 35 rfl) rfl rfl rfl (by decide) (by decide) (Nat.le_of_ble_eq_true rfl) ?_
        refine m_blk C0 (pX3_ok rfl) kX3_reduceWork_ok 36 2 (2, [some (.inr (.inr (47, y0))), some (.inl (mw (x1 + 1))), some (.inl (σ 59 y0 ((σ 58 y0 x1.toNat).toNat)))], [], s271) (Ps := []) rfl trivial ?_
        refine m_mask [true, true, false] (ls' := [some (.inr (.inr (47, y0))), some (.inl (mw (x1 + 1))), none]) rfl ?_
        exact IH _ _ _ _ h hK
set_option maxRecDepth 100000 in
set_option maxHeartbeats 4000000 in
theorem t_X3_reduceWork {e : mEv} (hG : mGeo (mw0 e) lw_kept) (l : Launch) (N : Nat) {q0 : Nat} {σ σ' : mS} (h : f_X3_reduceWork N q0 σ = some σ') : mMet l (mw0 e) lw_kept 1 yX3_reduceWork cX3_reduceWork 3 none [.inr (.inr (47, q0))] σ none σ' := by
  refine mMet_intro (plainFor_of_name (by decide)) hG (Nat.le_of_ble_eq_true rfl) (fun f hl hR C0 hFin => ?_)
  subst hl
  have hFr := mFr_of hR hFin
  unfold f_X3_reduceWork at h
  show mWW f (mw0 e) sc0 3 (0, [some (.inr (.inr (47, q0))), none, none], [], σ)
  refine m_blk C0 (pX3_ok rfl) kX3_reduceWork_ok 0 2 (2, [some (.inr (.inr (47, q0))), some (.inl 0), none], [], σ) (Ps := []) rfl trivial ?_
  obtain ⟨s276, hq277, h⟩ := g_bind h
  refine m_mask [true, true, false] (ls' := [some (.inr (.inr (47, q0))), some (.inl 0), none]) rfl ?_
  refine p_X3_reduceWork_2 hG N C0 hFr N _ _ _ _ hq277 ?_
  cases h
  exact m_vret C0 hFin (k_at kX3_reduceWork_ok 38 rfl)
set_option maxRecDepth 100000 in
set_option maxHeartbeats 4000000 in
theorem p_X3_firstOfWork_2 {e : mEv} (hG : mGeo (mw0 e) lw_kept) (N : Nat) {f : mFx} (C0 : mCx f (mw0 e) sc0 cX3_firstOfWork 2 RX3 lw_kept) (hFr : mFr f 0) : ∀ (n : Nat) (y0 : Nat) (x1 : Int) (σ : mS) (out : (Int × mS) ⊕ (mS)), L_X3_firstOfWork_2 N n y0 x1 σ = some out → (∀ v s, out = .inl (v, s) → mFin f (mw0 e) (some .int) (some (.inl v)) s) → (∀  (s : mS), out = .inr s → mWW f (mw0 e) sc0 2 (27, [none, none], [], s)) → mWW f (mw0 e) sc0 2 (2, [some (.inr (.inr (47, y0))), some (.inl x1)], [], σ) := by
  intro n
  induction n with
  | zero =>
    intro y0 x1 σ out h hX hK
    cases h
  | succ n IH =>
    intro y0 x1 σ out h hX hK
    rw [L_X3_firstOfWork_2_s] at h
    refine m_blk C0 (pX3_ok rfl) kX3_firstOfWork_ok 2 3 (7, [some (.inr (.inr (47, y0))), some (.inl x1)], [.inl (σ 47 y0 1), .inl x1], σ) (Ps := []) rfl trivial ?_
    refine b_ige C0 kX3_firstOfWork_ok 5 (off := 20) (tgt := 27) rfl (by decide) (fun hb280 => ?_) (fun hb280 => ?_)
    · replace h := g_pos hb280 h
      cases h
      refine m_mask [false, false] (ls' := [none, none]) rfl ?_
      exact hK _ rfl
    · replace h := g_neg hb280 h
      obtain ⟨hc, h⟩ := g_if h
      refine m_blk C0 (pX3_ok rfl) kX3_firstOfWork_ok 6 4 (16, [some (.inr (.inr (47, y0))), some (.inl x1)], [.inl (σ 59 y0 x1.toNat)], σ) (Ps := [0 ≤ x1 ∧ x1 < ((gwd y0 : Nat) : Int)]) rfl (And.intro hc trivial) ?_
      refine b_eq C0 kX3_firstOfWork_ok 10 (off := 5) (tgt := 21) rfl (by decide) (fun hb279 => ?_) (fun hb279 => ?_)
      · replace h := g_pos hb279 h
        refine m_blk C0 (pX3_ok rfl) kX3_firstOfWork_ok 13 2 (2, [some (.inr (.inr (47, y0))), some (.inl (mw (x1 + 1)))], [], σ) (Ps := []) rfl trivial ?_
        refine m_mask [true, true] (ls' := [some (.inr (.inr (47, y0))), some (.inl (mw (x1 + 1)))]) rfl ?_
        exact IH _ _ _ _ h hX hK
      · replace h := g_neg hb279 h
        refine m_blk C0 (pX3_ok rfl) kX3_firstOfWork_ok 11 1 (20, [some (.inr (.inr (47, y0))), some (.inl x1)], [.inl x1], σ) (Ps := []) rfl trivial ?_
        cases h
        exact m_iret C0 (hX _ _ rfl) (k_at kX3_firstOfWork_ok 12 rfl) (Or.inl rfl)
set_option maxRecDepth 100000 in
set_option maxHeartbeats 4000000 in
theorem t_X3_firstOfWork {e : mEv} (hG : mGeo (mw0 e) lw_kept) (l : Launch) (N : Nat) {q0 : Nat} {σ σ' : mS} {v : Int} (h : f_X3_firstOfWork N q0 σ = some (v, σ')) : mMet l (mw0 e) lw_kept 0 yX3_firstOfWork cX3_firstOfWork 2 (some .int) [.inr (.inr (47, q0))] σ (some (.inl v)) σ' := by
  refine mMet_intro (plainFor_of_name (by decide)) hG (Nat.le_of_ble_eq_true rfl) (fun f hl hR C0 hFin => ?_)
  subst hl
  have hFr := mFr_of hR hFin
  unfold f_X3_firstOfWork at h
  show mWW f (mw0 e) sc0 2 (0, [some (.inr (.inr (47, q0))), none], [], σ)
  refine m_blk C0 (pX3_ok rfl) kX3_firstOfWork_ok 0 2 (2, [some (.inr (.inr (47, q0))), some (.inl 0)], [], σ) (Ps := []) rfl trivial ?_
  obtain ⟨o, hq282, h⟩ := g_bind h
  refine m_mask [true, true] (ls' := [some (.inr (.inr (47, q0))), some (.inl 0)]) rfl ?_
  rcases o with ⟨v283, s284⟩ | s281
  · cases h
    exact p_X3_firstOfWork_2 hG N C0 hFr N _ _ _ _ hq282 (fun v s e => by cases e; exact hFin) (fun _ e => by cases e)
  · refine p_X3_firstOfWork_2 hG N C0 hFr N _ _ _ _ hq282 (fun v s e => by cases e) (fun _ e => ?_)
    cases e
    refine m_blk C0 (pX3_ok rfl) kX3_firstOfWork_ok 15 1 (28, [none, none], [.inl (-1)], s281) (Ps := []) rfl trivial ?_
    cases h
    exact m_iret C0 hFin (k_at kX3_firstOfWork_ok 16 rfl) (Or.inl rfl)
set_option maxRecDepth 100000 in
set_option maxHeartbeats 4000000 in
theorem t_J9_floorMod_7cf53 {e : mEv} (hG : mGeo (mw0 e) lw_kept) (l : Launch) (N : Nat) {a0 : Int} {a1 : Int} {σ σ' : mS} {v : Int} (h : f_J9_floorMod_7cf53 N a0 a1 σ = some (v, σ')) : mMet l (mw0 e) lw_kept 0 yJ9_floorMod_7cf53 cJ9_floorMod_7cf53 3 (some .int) [.inl a0, .inl a1] σ (some (.inl v)) σ' := by
  refine mMet_intro (by decide +kernel) hG (Nat.le_of_ble_eq_true rfl) (fun f hl hR C0 hFin => ?_)
  subst hl
  have hFr := mFr_of hR hFin
  unfold f_J9_floorMod_7cf53 at h
  show mWW f (mw0 e) sc0 3 (0, [some (.inl a0), some (.inl a1), none], [], σ)
  obtain ⟨hc, h⟩ := g_if h
  refine m_blk C0 (pJ9_ok rfl) kJ9_floorMod_7cf53_ok 0 7 (7, [some (.inl a0), some (.inl a1), some (.inl (o_rem a0 a1))], [.inl (o_xor a0 a1)], σ) (Ps := [¬ a1 = 0]) rfl (And.intro hc trivial) ?_
  refine b_ge C0 kJ9_floorMod_7cf53_ok 7 (off := 11) (tgt := 18) rfl (by decide) (fun hb288 => ?_) (fun hb288 => ?_)
  · replace h := g_pos hb288 h
    refine m_blk C0 (pJ9_ok rfl) kJ9_floorMod_7cf53_ok 14 1 (19, [some (.inl a0), some (.inl a1), some (.inl (o_rem a0 a1))], [.inl (o_rem a0 a1)], σ) (Ps := []) rfl trivial ?_
    cases h
    exact m_iret C0 hFin (k_at kJ9_floorMod_7cf53_ok 15 rfl) (Or.inl rfl)
  · replace h := g_neg hb288 h
    refine m_blk C0 (pJ9_ok rfl) kJ9_floorMod_7cf53_ok 8 1 (11, [some (.inl a0), some (.inl a1), some (.inl (o_rem a0 a1))], [.inl (o_rem a0 a1)], σ) (Ps := []) rfl trivial ?_
    refine b_eq C0 kJ9_floorMod_7cf53_ok 9 (off := 7) (tgt := 18) rfl (by decide) (fun hb287 => ?_) (fun hb287 => ?_)
    · replace h := g_pos hb287 h
      refine m_blk C0 (pJ9_ok rfl) kJ9_floorMod_7cf53_ok 14 1 (19, [some (.inl a0), some (.inl a1), some (.inl (o_rem a0 a1))], [.inl (o_rem a0 a1)], σ) (Ps := []) rfl trivial ?_
      cases h
      exact m_iret C0 hFin (k_at kJ9_floorMod_7cf53_ok 15 rfl) (Or.inl rfl)
    · replace h := g_neg hb287 h
      refine m_blk C0 (pJ9_ok rfl) kJ9_floorMod_7cf53_ok 10 3 (17, [some (.inl a0), some (.inl a1), some (.inl (o_rem a0 a1))], [.inl (mw ((o_rem a0 a1) + a1))], σ) (Ps := []) rfl trivial ?_
      cases h
      exact m_iret C0 hFin (k_at kJ9_floorMod_7cf53_ok 13 rfl) (Or.inl rfl)
set_option maxRecDepth 100000 in
set_option maxHeartbeats 4000000 in
theorem t_X11_leftOver {e : mEv} (hG : mGeo (mw0 e) lw_kept) (l : Launch) (N : Nat) {a0 : Int} {σ σ' : mS} {v : Int} (h : f_X11_leftOver N a0 σ = some (v, σ')) : mMet l (mw0 e) lw_kept 1 yX11_leftOver cX11_leftOver 1 (some .int) [.inl a0] σ (some (.inl v)) σ' := by
  refine mMet_intro (plainFor_of_name (by decide)) hG (Nat.le_of_ble_eq_true rfl) (fun f hl hR C0 hFin => ?_)
  subst hl
  have hFr := mFr_of hR hFin
  unfold f_X11_leftOver at h
  show mWW f (mw0 e) sc0 1 (0, [some (.inl a0)], [], σ)
  refine m_blk C0 (pX11_ok rfl) kX11_leftOver_ok 0 2 (4, [some (.inl a0)], [.inl 32003, .inl a0], σ) (Ps := []) rfl trivial ?_
  obtain ⟨⟨v290, s289⟩, hq291, h⟩ := g_bind h
  refine c_S (rest := []) C0 hFr (t_J9_floorMod_7cf53 hG f.2.1 N hq291) lk_X11_231 (k_at kX11_leftOver_ok 2 rfl) rfl rfl rfl (by decide) (by decide) (Nat.le_of_ble_eq_true rfl) ?_
  cases h
  exact m_iret C0 hFin (k_at kX11_leftOver_ok 3 rfl) (Or.inl rfl)
set_option maxRecDepth 100000 in
set_option maxHeartbeats 4000000 in
theorem p_X11_inverse_11 {e : mEv} (hG : mGeo (mw0 e) lw_kept) (N : Nat) {f : mFx} (C0 : mCx f (mw0 e) sc0 cX11_inverse 4 RX11 lw_kept) (hFr : mFr f 2) : ∀ (n : Nat) (x1 : Int) (x2 : Int) (x3 : Int) (σ : mS) (o1 : Int) (σ' : mS), L_X11_inverse_11 N n x1 x2 x3 σ = some (o1, σ') → mWW f (mw0 e) sc0 4 (45, [none, some (.inl o1), none, none], [], σ') → mWW f (mw0 e) sc0 4 (11, [none, some (.inl x1), some (.inl x2), some (.inl x3)], [], σ) := by
  intro n
  induction n with
  | zero =>
    intro x1 x2 x3 σ o1 σ' h hK
    cases h
  | succ n IH =>
    intro x1 x2 x3 σ o1 σ' h hK
    rw [L_X11_inverse_11_s] at h
    refine m_blk C0 (pX11_ok rfl) kX11_inverse_ok 7 1 (12, [none, some (.inl x1), some (.inl x2), some (.inl x3)], [.inl x3], σ) (Ps := []) rfl trivial ?_
    refine b_le C0 kX11_inverse_ok 8 (off := 33) (tgt := 45) rfl (by decide) (fun hb295 => ?_) (fun hb295 => ?_)
    · replace h := g_pos hb295 h
      cases h
      refine m_mask [false, true, false, false] (ls' := [none, some (.inl x1), none, none]) rfl ?_
      exact hK
    · replace h := g_neg hb295 h
      refine m_blk C0 (pX11_ok rfl) kX11_inverse_ok 9 4 (19, [none, some (.inl x1), some (.inl x2), some (.inl x3)], [.inl 1, .inl (o_and x3 1)], σ) (Ps := []) rfl trivial ?_
      refine b_ine C0 kX11_inverse_ok 13 (off := 11) (tgt := 30) rfl (by decide) (fun hb294 => ?_) (fun hb294 => ?_)
      · replace h := g_neg hb294 h
        refine m_blk C0 (pX11_ok rfl) kX11_inverse_ok 20 11 (11, [none, some (.inl x1), some (.inl (o_rem (mw (x2 * x2)) 32003)), some (.inl (o_shr x3 1))], [], σ) (Ps := [¬ (32003 : Int) = 0]) rfl (And.intro (by decide) trivial) ?_
        refine m_mask [false, true, true, true] (ls' := [none, some (.inl x1), some (.inl (o_rem (mw (x2 * x2)) 32003)), some (.inl (o_shr x3 1))]) rfl ?_
        exact IH _ _ _ _ _ _ h hK
      · replace h := g_pos hb294 h
        refine m_blk C0 (pX11_ok rfl) kX11_inverse_ok 14 16 (42, [none, some (.inl (o_rem (mw (x1 * x2)) 32003)), some (.inl (o_rem (mw (x2 * x2)) 32003)), some (.inl (o_shr x3 1))], [], σ) (Ps := [¬ (32003 : Int) = 0, ¬ (32003 : Int) = 0]) rfl (And.intro (by decide) (And.intro (by decide) trivial)) ?_
        refine m_blk C0 (pX11_ok rfl) kX11_inverse_ok 30 1 (11, [none, some (.inl (o_rem (mw (x1 * x2)) 32003)), some (.inl (o_rem (mw (x2 * x2)) 32003)), some (.inl (o_shr x3 1))], [], σ) (Ps := []) rfl trivial ?_
        refine m_mask [false, true, true, true] (ls' := [none, some (.inl (o_rem (mw (x1 * x2)) 32003)), some (.inl (o_rem (mw (x2 * x2)) 32003)), some (.inl (o_shr x3 1))]) rfl ?_
        exact IH _ _ _ _ _ _ h hK
set_option maxRecDepth 100000 in
set_option maxHeartbeats 4000000 in
theorem t_X11_inverse {e : mEv} (hG : mGeo (mw0 e) lw_kept) (l : Launch) (N : Nat) {a0 : Int} {σ σ' : mS} {v : Int} (h : f_X11_inverse N a0 σ = some (v, σ')) : mMet l (mw0 e) lw_kept 2 yX11_inverse cX11_inverse 4 (some .int) [.inl a0] σ (some (.inl v)) σ' := by
  refine mMet_intro (plainFor_of_name (by decide)) hG (Nat.le_of_ble_eq_true rfl) (fun f hl hR C0 hFin => ?_)
  subst hl
  have hFr := mFr_of hR hFin
  unfold f_X11_inverse at h
  show mWW f (mw0 e) sc0 4 (0, [some (.inl a0), none, none, none], [], σ)
  refine m_blk C0 (pX11_ok rfl) kX11_inverse_ok 0 3 (3, [some (.inl a0), some (.inl 1), none, none], [.inl a0], σ) (Ps := []) rfl trivial ?_
  obtain ⟨⟨v293, s292⟩, hq299, h⟩ := g_bind h
  refine c_S (rest := []) C0 hFr (t_X11_leftOver hG f.2.1 N hq299) lk_X11_158 (k_at kX11_inverse_ok 3 rfl) rfl rfl rfl (by decide) (by decide) (Nat.le_of_ble_eq_true rfl) ?_
  refine m_blk C0 (pX11_ok rfl) kX11_inverse_ok 4 3 (11, [some (.inl a0), some (.inl 1), some (.inl v293), some (.inl 32001)], [], s292) (Ps := []) rfl trivial ?_
  obtain ⟨⟨o297, s296⟩, hq298, h⟩ := g_bind h
  refine m_mask [false, true, true, true] (ls' := [none, some (.inl 1), some (.inl v293), some (.inl 32001)]) rfl ?_
  refine p_X11_inverse_11 hG N C0 hFr N _ _ _ _ _ _ hq298 ?_
  refine m_blk C0 (pX11_ok rfl) kX11_inverse_ok 31 1 (46, [none, some (.inl o297), none, none], [.inl o297], s296) (Ps := []) rfl trivial ?_
  cases h
  exact m_iret C0 hFin (k_at kX11_inverse_ok 32 rfl) (Or.inl rfl)
set_option maxRecDepth 100000 in
set_option maxHeartbeats 4000000 in
theorem p_X3_keepIfFree_r51_73 {e : mEv} (hG : mGeo (mw0 e) lw_kept) (N : Nat) {f : mFx} (C0 : mCx f (mw0 e) sc0 cX3_keepIfFree 6 RX3 lw_kept) (hFr : mFr f 3) : ∀ (n : Nat) (y0 : Nat) (x2 : Int) (x3 : Int) (x4 : Int) (x5 : Int) (σ : mS) (σ' : mS), L_X3_keepIfFree_r51_73 N n y0 x2 x3 x4 x5 σ = some σ' → mWW f (mw0 e) sc0 6 (140, [some (.inr (.inr (47, y0))), none, some (.inl x2), some (.inl x3), none, none], [], σ') → mWW f (mw0 e) sc0 6 (73, [some (.inr (.inr (47, y0))), none, some (.inl x2), some (.inl x3), some (.inl x4), some (.inl x5)], [], σ) := by
  intro n
  induction n with
  | zero =>
    intro y0 x2 x3 x4 x5 σ σ' h hK
    cases h
  | succ n IH =>
    intro y0 x2 x3 x4 x5 σ σ' h hK
    rw [L_X3_keepIfFree_r51_73_s] at h
    refine m_blk C0 (pX3_ok rfl) kX3_keepIfFree_ok 41 3 (79, [some (.inr (.inr (47, y0))), none, some (.inl x2), some (.inl x3), some (.inl x4), some (.inl x5)], [.inl (σ 47 y0 1), .inl x5], σ) (Ps := []) rfl trivial ?_
    refine b_ige C0 kX3_keepIfFree_ok 44 (off := 61) (tgt := 140) rfl (by decide) (fun hb302 => ?_) (fun hb302 => ?_)
    · replace h := g_pos hb302 h
      cases h
      refine m_mask [true, false, true, true, false, false] (ls' := [some (.inr (.inr (47, y0))), none, some (.inl x2), some (.inl x3), none, none]) rfl ?_
      exact hK
    · replace h := g_neg hb302 h
      obtain ⟨hc, h⟩ := g_if h
      refine m_blk C0 (pX3_ok rfl) kX3_keepIfFree_ok 45 15 (108, [some (.inr (.inr (47, y0))), none, some (.inl x2), some (.inl x3), some (.inl x4), some (.inl x5)], [], (mup σ 55 (64 * y0 + (σ 47 y0 7).toNat) x5.toNat (o_rem (mw ((σ 59 y0 x5.toNat) * x4)) 32003))) (Ps := [0 ≤ (σ 47 y0 7) ∧ (σ 47 y0 7) < ((gwd y0 : Nat) : Int), 0 ≤ x5 ∧ x5 < ((gwd y0 : Nat) : Int), ¬ (32003 : Int) = 0, 0 ≤ x5 ∧ x5 < ((gwd ((64 * y0 + (σ 47 y0 7).toNat) / 64) : Nat) : Int)]) rfl (And.intro hc.1 (And.intro hc.2.1 (And.intro (by decide) (And.intro hc.2.2 trivial)))) ?_
      refine m_blk C0 (pX3_ok rfl) kX3_keepIfFree_ok 60 15 (134, [some (.inr (.inr (47, y0))), none, some (.inl x2), some (.inl x3), some (.inl x4), some (.inl x5)], [], (mup (mup σ 55 (64 * y0 + (σ 47 y0 7).toNat) x5.toNat (o_rem (mw ((σ 59 y0 x5.toNat) * x4)) 32003)) 57 (64 * y0 + (σ 47 y0 7).toNat) x5.toNat (o_rem (mw ((σ 60 y0 x5.toNat) * x4)) 32003))) (Ps := [0 ≤ (σ 47 y0 7) ∧ (σ 47 y0 7) < ((gwd y0 : Nat) : Int), 0 ≤ x5 ∧ x5 < ((gwd y0 : Nat) : Int), ¬ (32003 : Int) = 0, 0 ≤ x5 ∧ x5 < ((gwd ((64 * y0 + (σ 47 y0 7).toNat) / 64) : Nat) : Int)]) rfl (And.intro hc.1 (And.intro hc.2.1 (And.intro (by decide) (And.intro hc.2.2 trivial)))) ?_
      refine m_blk C0 (pX3_ok rfl) kX3_keepIfFree_ok 75 2 (73, [some (.inr (.inr (47, y0))), none, some (.inl x2), some (.inl x3), some (.inl x4), some (.inl (mw (x5 + 1)))], [], (mup (mup σ 55 (64 * y0 + (σ 47 y0 7).toNat) x5.toNat (o_rem (mw ((σ 59 y0 x5.toNat) * x4)) 32003)) 57 (64 * y0 + (σ 47 y0 7).toNat) x5.toNat (o_rem (mw ((σ 60 y0 x5.toNat) * x4)) 32003))) (Ps := []) rfl trivial ?_
      refine m_mask [true, false, true, true, true, true] (ls' := [some (.inr (.inr (47, y0))), none, some (.inl x2), some (.inl x3), some (.inl x4), some (.inl (mw (x5 + 1)))]) rfl ?_
      exact IH _ _ _ _ _ _ _ h hK
set_option maxRecDepth 100000 in
set_option maxHeartbeats 4000000 in
theorem t_X3_keepIfFree_r51 {e : mEv} (hG : mGeo (mw0 e) lw_kept) (l : Launch) (N : Nat) {q0 : Nat} {q1 : Nat} {a2 : Int} {σ σ' : mS} {v : Int} (h : f_X3_keepIfFree_r51 N q0 q1 a2 σ = some (v, σ')) : mMet l (mw0 e) lw_kept 3 yX3_keepIfFree cX3_keepIfFree 6 (some .boolean) [.inr (.inr (47, q0)), .inr (.inr (51, q1)), .inl a2] σ (some (.inl v)) σ' := by
  refine mMet_intro (plainFor_of_name (by decide)) hG (Nat.le_of_ble_eq_true rfl) (fun f hl hR C0 hFin => ?_)
  subst hl
  have hFr := mFr_of hR hFin
  unfold f_X3_keepIfFree_r51 at h
  show mWW f (mw0 e) sc0 6 (0, [some (.inr (.inr (47, q0))), some (.inr (.inr (51, q1))), some (.inl a2), none, none, none], [], σ)
  refine m_blk C0 (pX3_ok rfl) kX3_keepIfFree_ok 0 7 (11, [some (.inr (.inr (47, q0))), some (.inr (.inr (51, q1))), some (.inl a2), none, none, none], [.inl (σ 47 q0 1), .inl 0, .inr (.inr (59, q0)), .inl 0, .inr (.inr (51, q1))], σ) (Ps := []) rfl trivial ?_
  obtain ⟨hc, h⟩ := g_if h
  refine c_copy (rest := []) C0 hFr lkc_1 (k_at kX3_keepIfFree_ok 7 rfl) rfl rfl rfl (by decide) (Nat.le_of_ble_eq_true rfl) hc ?_
  refine m_blk C0 (pX3_ok rfl) kX3_keepIfFree_ok 8 3 (19, [some (.inr (.inr (47, q0))), some (.inr (.inr (51, q1))), some (.inl a2), none, none, none], [.inl 0, .inr (.inr (60, q0))], (mcp σ 51 q1 0 59 q0 0 (σ 47 q0 1))) (Ps := []) rfl trivial ?_
  obtain ⟨s261, hq310, h⟩ := g_bind h
  refine c_S (rest := []) C0 hFr (t_J7_fill_53178_r60 hG f.2.1 N hq310) lk_X3_76 (k_at kX3_keepIfFree_ok 11 rfl) rfl rfl rfl (by decide) (by decide) (Nat.le_of_ble_eq_true rfl) ?_
  refine m_blk C0 (pX3_ok rfl) kX3_keepIfFree_ok 12 1 (23, [some (.inr (.inr (47, q0))), some (.inr (.inr (51, q1))), some (.inl a2), none, none, none], [.inr (.inr (47, q0))], s261) (Ps := []) rfl trivial ?_
  obtain ⟨s278, hq309, h⟩ := g_bind h
  refine c_V (rest := []) C0 hFr (t_X3_reduceWork hG f.2.1 N hq309) lk_X3_82 (k_at kX3_keepIfFree_ok 13 rfl) rfl rfl rfl rfl ⟨_, _, rfl⟩ (by decide) (by decide) (Nat.le_of_ble_eq_true rfl) ?_
  refine m_blk C0 (pX3_ok rfl) kX3_keepIfFree_ok 14 1 (27, [some (.inr (.inr (47, q0))), some (.inr (.inr (51, q1))), some (.inl a2), none, none, none], [.inr (.inr (47, q0))], s278) (Ps := []) rfl trivial ?_
  obtain ⟨⟨v286, s285⟩, hq308, h⟩ := g_bind h
  refine c_V (rest := []) C0 hFr (t_X3_firstOfWork hG f.2.1 N hq308) lk_X3_85 (k_at kX3_keepIfFree_ok 15 rfl) rfl rfl rfl rfl ⟨_, _, rfl⟩ (by decide) (by decide) (Nat.le_of_ble_eq_true rfl) ?_
  refine m_blk C0 (pX3_ok rfl) kX3_keepIfFree_ok 16 3 (33, [some (.inr (.inr (47, q0))), some (.inr (.inr (51, q1))), some (.inl a2), some (.inl v286), none, none], [.inl (-1), .inl v286], s285) (Ps := []) rfl trivial ?_
  refine b_ieq C0 kX3_keepIfFree_ok 19 (off := 14) (tgt := 47) rfl (by decide) (fun hb307 => ?_) (fun hb307 => ?_)
  · replace h := g_pos hb307 h
    refine m_blk C0 (pX3_ok rfl) kX3_keepIfFree_ok 25 1 (48, [some (.inr (.inr (47, q0))), some (.inr (.inr (51, q1))), some (.inl a2), some (.inl v286), none, none], [.inl 0], s285) (Ps := []) rfl trivial ?_
    cases h
    exact m_iret C0 hFin (k_at kX3_keepIfFree_ok 26 rfl) (Or.inr ⟨rfl, by decide⟩)
  · replace h := g_neg hb307 h
    refine m_blk C0 (pX3_ok rfl) kX3_keepIfFree_ok 20 4 (44, [some (.inr (.inr (47, q0))), some (.inr (.inr (51, q1))), some (.inl a2), some (.inl v286), none, none], [.inl (s285 47 q0 1), .inl (s285 47 q0 7)], s285) (Ps := []) rfl trivial ?_
    refine b_ilt C0 kX3_keepIfFree_ok 24 (off := 5) (tgt := 49) rfl (by decide) (fun hb306 => ?_) (fun hb306 => ?_)
    · replace h := g_pos hb306 h
      obtain ⟨hc, h⟩ := g_if h
      refine m_blk C0 (pX3_ok rfl) kX3_keepIfFree_ok 27 6 (59, [some (.inr (.inr (47, q0))), some (.inr (.inr (51, q1))), some (.inl a2), some (.inl v286), none, none], [], (mup s285 60 q0 ((s285 47 q0 7).toNat) 1)) (Ps := [0 ≤ (s285 47 q0 7) ∧ (s285 47 q0 7) < ((gwd q0 : Nat) : Int)]) rfl (And.intro hc.1 trivial) ?_
      refine m_blk C0 (pX3_ok rfl) kX3_keepIfFree_ok 33 4 (65, [some (.inr (.inr (47, q0))), some (.inr (.inr (51, q1))), some (.inl a2), some (.inl v286), none, none], [.inl (s285 59 q0 v286.toNat)], (mup s285 60 q0 ((s285 47 q0 7).toNat) 1)) (Ps := [0 ≤ v286 ∧ v286 < ((gwd q0 : Nat) : Int)]) rfl (And.intro hc.2 trivial) ?_
      obtain ⟨⟨v301, s300⟩, hq305, h⟩ := g_bind h
      refine c_SN (rest := []) C0 hFr (t_X11_inverse hG f.2.1 N hq305) lk_X3_89 (k_at kX3_keepIfFree_ok 37 rfl) rfl rfl rfl (by decide) (by decide) (Nat.le_of_ble_eq_true rfl) ?_
      refine m_blk C0 (pX3_ok rfl) kX3_keepIfFree_ok 38 3 (73, [some (.inr (.inr (47, q0))), some (.inr (.inr (51, q1))), some (.inl a2), some (.inl v286), some (.inl v301), some (.inl 0)], [], s300) (Ps := []) rfl trivial ?_
      obtain ⟨s303, hq304, h⟩ := g_bind h
      refine m_mask [true, false, true, true, true, true] (ls' := [some (.inr (.inr (47, q0))), none, some (.inl a2), some (.inl v286), some (.inl v301), some (.inl 0)]) rfl ?_
      refine p_X3_keepIfFree_r51_73 hG N C0 hFr N _ _ _ _ _ _ _ hq304 ?_
      obtain ⟨hc, h⟩ := g_if h
      refine m_blk C0 (pX3_ok rfl) kX3_keepIfFree_ok 77 6 (150, [some (.inr (.inr (47, q0))), none, some (.inl a2), some (.inl v286), none, none], [], (mup s303 58 q0 ((s303 47 q0 7).toNat) v286)) (Ps := [0 ≤ (s303 47 q0 7) ∧ (s303 47 q0 7) < ((gwd q0 : Nat) : Int)]) rfl (And.intro hc trivial) ?_
      refine m_blk C0 (pX3_ok rfl) kX3_keepIfFree_ok 83 6 (160, [some (.inr (.inr (47, q0))), none, some (.inl a2), some (.inl v286), none, none], [], (mup (mup s303 58 q0 ((s303 47 q0 7).toNat) v286) 53 q0 ((s303 47 q0 7).toNat) a2)) (Ps := [0 ≤ (s303 47 q0 7) ∧ (s303 47 q0 7) < ((gwd q0 : Nat) : Int)]) rfl (And.intro hc trivial) ?_
      refine m_blk C0 (pX3_ok rfl) kX3_keepIfFree_ok 89 6 (170, [some (.inr (.inr (47, q0))), none, some (.inl a2), some (.inl v286), none, none], [], (mup (mup (mup s303 58 q0 ((s303 47 q0 7).toNat) v286) 53 q0 ((s303 47 q0 7).toNat) a2) 47 q0 7 (mw ((s303 47 q0 7) + 1)))) (Ps := []) rfl trivial ?_
      refine m_blk C0 (pX3_ok rfl) kX3_keepIfFree_ok 95 1 (171, [some (.inr (.inr (47, q0))), none, some (.inl a2), some (.inl v286), none, none], [.inl 1], (mup (mup (mup s303 58 q0 ((s303 47 q0 7).toNat) v286) 53 q0 ((s303 47 q0 7).toNat) a2) 47 q0 7 (mw ((s303 47 q0 7) + 1)))) (Ps := []) rfl trivial ?_
      cases h
      exact m_iret C0 hFin (k_at kX3_keepIfFree_ok 96 rfl) (Or.inr ⟨rfl, by decide⟩)
    · replace h := g_neg hb306 h
      refine m_blk C0 (pX3_ok rfl) kX3_keepIfFree_ok 25 1 (48, [some (.inr (.inr (47, q0))), some (.inr (.inr (51, q1))), some (.inl a2), some (.inl v286), none, none], [.inl 0], s285) (Ps := []) rfl trivial ?_
      cases h
      exact m_iret C0 hFin (k_at kX3_keepIfFree_ok 26 rfl) (Or.inr ⟨rfl, by decide⟩)
