set_option maxRecDepth 100000 in
set_option maxHeartbeats 4000000 in
theorem p_X1_fillClasses_15 {e : mEv} (hG : mGeo (mw0 e) lw_kept) (N : Nat) {f : mFx} (C0 : mCx f (mw0 e) sc0 cX1_fillClasses 2 RX1 lw_kept) (hFr : mFr f 1) : ∀ (n : Nat) (x1 : Int) (σ : mS) (σ' : mS), L_X1_fillClasses_15 N n x1 σ = some σ' → mWW f (mw0 e) sc0 2 (44, [none, none], [], σ') → mWW f (mw0 e) sc0 2 (15, [some (.inr (.inr (5, 0))), some (.inl x1)], [], σ) := by
  intro n
  induction n with
  | zero =>
    intro x1 σ σ' h hK
    cases h
  | succ n IH =>
    intro x1 σ σ' h hK
    rw [L_X1_fillClasses_15_s] at h
    refine m_blk C0 (pX1_ok rfl) kX1_fillClasses_ok 9 3 (20, [some (.inr (.inr (5, 0))), some (.inl x1)], [.inl (σ 5 0 0), .inl x1], σ) (Ps := []) rfl trivial ?_
    refine b_ige C0 kX1_fillClasses_ok 12 (off := 24) (tgt := 44) rfl (by decide) (fun hb121 => ?_) (fun hb121 => ?_)
    · replace h := g_pos hb121 h
      cases h
      refine m_mask [false, false] (ls' := [none, none]) rfl ?_
      exact hK
    · replace h := g_neg hb121 h
      obtain ⟨hc, h⟩ := g_if h
      refine m_blk C0 (pX1_ok rfl) kX1_fillClasses_ok 13 5 (30, [some (.inr (.inr (5, 0))), some (.inl x1)], [.inl (-1), .inl (σ 19 0 x1.toNat)], σ) (Ps := [0 ≤ x1 ∧ x1 < 48]) rfl (And.intro hc trivial) ?_
      refine b_ine C0 kX1_fillClasses_ok 18 (off := 8) (tgt := 38) rfl (by decide) (fun hb120 => ?_) (fun hb120 => ?_)
      · replace h := g_neg hb120 h
        refine m_blk C0 (pX1_ok rfl) kX1_fillClasses_ok 22 2 (15, [some (.inr (.inr (5, 0))), some (.inl (mw (x1 + 1)))], [], σ) (Ps := []) rfl trivial ?_
        refine m_mask [true, true] (ls' := [some (.inr (.inr (5, 0))), some (.inl (mw (x1 + 1)))]) rfl ?_
        exact IH _ _ _ h hK
      · replace h := g_pos hb120 h
        refine m_blk C0 (pX1_ok rfl) kX1_fillClasses_ok 19 2 (35, [some (.inr (.inr (5, 0))), some (.inl x1)], [.inl x1, .inr (.inr (5, 0))], σ) (Ps := []) rfl trivial ?_
        obtain ⟨s118, hq119, h⟩ := g_bind h
        refine c_V (rest := []) C0 hFr (t_X1_fillClass hG f.2.1 N hq119) lk_X1_126 (k_at kX1_fillClasses_ok 21 rfl) rfl rfl rfl rfl ⟨_, _, rfl⟩ (by decide) (by decide) (Nat.le_of_ble_eq_true rfl) ?_
        refine m_blk C0 (pX1_ok rfl) kX1_fillClasses_ok 22 2 (15, [some (.inr (.inr (5, 0))), some (.inl (mw (x1 + 1)))], [], s118) (Ps := []) rfl trivial ?_
        refine m_mask [true, true] (ls' := [some (.inr (.inr (5, 0))), some (.inl (mw (x1 + 1)))]) rfl ?_
        exact IH _ _ _ h hK
set_option maxRecDepth 100000 in
set_option maxHeartbeats 4000000 in
theorem t_X1_fillClasses {e : mEv} (hG : mGeo (mw0 e) lw_kept) (l : Launch) (N : Nat) {σ σ' : mS} (h : f_X1_fillClasses N σ = some σ') : mMet l (mw0 e) lw_kept 1 yX1_fillClasses cX1_fillClasses 2 none [.inr (.inr (5, 0))] σ none σ' := by
  refine mMet_intro (plainFor_of_name (by decide)) hG (Nat.le_of_ble_eq_true rfl) (fun f hl hR C0 hFin => ?_)
  subst hl
  have hFr := mFr_of hR hFin
  unfold f_X1_fillClasses at h
  show mWW f (mw0 e) sc0 2 (0, [some (.inr (.inr (5, 0))), none], [], σ)
  refine m_blk C0 (pX1_ok rfl) kX1_fillClasses_ok 0 3 (5, [some (.inr (.inr (5, 0))), none], [], (mup σ 5 0 2 0)) (Ps := []) rfl trivial ?_
  refine m_blk C0 (pX1_ok rfl) kX1_fillClasses_ok 3 3 (10, [some (.inr (.inr (5, 0))), none], [.inl (-1), .inr (.inr (19, 0))], (mup σ 5 0 2 0)) (Ps := []) rfl trivial ?_
  obtain ⟨s112, hq124, h⟩ := g_bind h
  refine c_S (rest := []) C0 hFr (t_J7_fill_53178_r19 hG f.2.1 N hq124) lk_X1_69 (k_at kX1_fillClasses_ok 6 rfl) rfl rfl rfl (by decide) (by decide) (Nat.le_of_ble_eq_true rfl) ?_
  refine m_blk C0 (pX1_ok rfl) kX1_fillClasses_ok 7 2 (15, [some (.inr (.inr (5, 0))), some (.inl 0)], [], s112) (Ps := []) rfl trivial ?_
  obtain ⟨s122, hq123, h⟩ := g_bind h
  refine m_mask [true, true] (ls' := [some (.inr (.inr (5, 0))), some (.inl 0)]) rfl ?_
  refine p_X1_fillClasses_15 hG N C0 hFr N _ _ _ hq123 ?_
  cases h
  exact m_vret C0 hFin (k_at kX1_fillClasses_ok 24 rfl)
set_option maxRecDepth 100000 in
set_option maxHeartbeats 4000000 in
theorem p_X8_readRing_r7_11 {e : mEv} (hG : mGeo (mw0 e) lw_kept) (N : Nat) {f : mFx} (C0 : mCx f (mw0 e) sc0 cX8_readRing 7 RX8 lw_kept) (hFr : mFr f 1) : ∀ (n : Nat) (y1 : Nat) (x2 : Int) (x3 : Int) (x4 : Int) (x5 : Int) (x6 : Int) (σ : mS) (o3 : Int) (o4 : Int) (o5 : Int) (σ' : mS), L_X8_readRing_r7_11 N n y1 x2 x3 x4 x5 x6 σ = some (o3, o4, o5, σ') → mWW f (mw0 e) sc0 7 (59, [some (.inr (.inr (23, 0))), none, none, some (.inl o3), some (.inl o4), some (.inl o5), none], [], σ') → mWW f (mw0 e) sc0 7 (11, [some (.inr (.inr (23, 0))), some (.inr (.inr (7, y1))), some (.inl x2), some (.inl x3), some (.inl x4), some (.inl x5), some (.inl x6)], [], σ) := by
  intro n
  induction n with
  | zero =>
    intro y1 x2 x3 x4 x5 x6 σ o3 o4 o5 σ' h hK
    cases h
  | succ n IH =>
    intro y1 x2 x3 x4 x5 x6 σ o3 o4 o5 σ' h hK
    rw [L_X8_readRing_r7_11_s] at h
    obtain ⟨hc, h⟩ := g_if h
    refine m_blk C0 (pX8_ok rfl) kX8_readRing_ok 8 9 (22, [some (.inr (.inr (23, 0))), some (.inr (.inr (7, y1))), some (.inl x2), some (.inl (o_or x3 (o_shl 1 x6))), some (.inl x4), some (.inl x5), some (.inl x6)], [.inl (σ 7 y1 x6.toNat)], σ) (Ps := [0 ≤ x6 ∧ x6 < 3]) rfl (And.intro hc trivial) ?_
    refine b_ge C0 kX8_readRing_ok 17 (off := 9) (tgt := 31) rfl (by decide) (fun hb136 => ?_) (fun hb136 => ?_)
    · replace h := g_pos hb136 h
      obtain ⟨hc, h⟩ := g_if h
      refine m_blk C0 (pX8_ok rfl) kX8_readRing_ok 21 5 (39, [some (.inr (.inr (23, 0))), some (.inr (.inr (7, y1))), some (.inl x2), some (.inl (o_or x3 (o_shl 1 x6))), some (.inl x4), some (.inl x5), some (.inl x6)], [.inl (σ 7 y1 x6.toNat)], σ) (Ps := [0 ≤ x6 ∧ x6 < 3]) rfl (And.intro hc trivial) ?_
      obtain ⟨⟨v127, s126⟩, hq130, h⟩ := g_bind h
      refine c_SN (rest := []) C0 hFr (t_X11_indexOfCode hG f.2.1 N hq130) lk_X8_26 (k_at kX8_readRing_ok 26 rfl) rfl rfl rfl (by decide) (by decide) (Nat.le_of_ble_eq_true rfl) ?_
      refine m_blk C0 (pX8_ok rfl) kX8_readRing_ok 27 4 (50, [some (.inr (.inr (23, 0))), some (.inr (.inr (7, y1))), some (.inl x2), some (.inl (o_or x3 (o_shl 1 x6))), some (.inl (mw (x4 + 1))), some (.inl x5), some (.inl v127)], [.inl x2, .inl v127], s126) (Ps := []) rfl trivial ?_
      refine b_ieq C0 kX8_readRing_ok 31 (off := 9) (tgt := 59) rfl (by decide) (fun hb129 => ?_) (fun hb129 => ?_)
      · replace h := g_pos hb129 h
        cases h
        refine m_mask [true, false, false, true, true, true, false] (ls' := [some (.inr (.inr (23, 0))), none, none, some (.inl (o_or x3 (o_shl 1 x6))), some (.inl (mw (x4 + 1))), some (.inl x5), none]) rfl ?_
        exact hK
      · replace h := g_neg hb129 h
        refine m_blk C0 (pX8_ok rfl) kX8_readRing_ok 32 2 (56, [some (.inr (.inr (23, 0))), some (.inr (.inr (7, y1))), some (.inl x2), some (.inl (o_or x3 (o_shl 1 x6))), some (.inl (mw (x4 + 1))), some (.inl x5), some (.inl v127)], [.inl 3, .inl (mw (x4 + 1))], s126) (Ps := []) rfl trivial ?_
        refine b_ilt C0 kX8_readRing_ok 34 (off := (-45)) (tgt := 11) rfl (by decide) (fun hb128 => ?_) (fun hb128 => ?_)
        · replace h := g_pos hb128 h
          refine m_mask [true, true, true, true, true, true, true] (ls' := [some (.inr (.inr (23, 0))), some (.inr (.inr (7, y1))), some (.inl x2), some (.inl (o_or x3 (o_shl 1 x6))), some (.inl (mw (x4 + 1))), some (.inl x5), some (.inl v127)]) rfl ?_
          exact IH _ _ _ _ _ _ _ _ _ _ _ h hK
        · replace h := g_neg hb128 h
          cases h
          refine m_mask [true, false, false, true, true, true, false] (ls' := [some (.inr (.inr (23, 0))), none, none, some (.inl (o_or x3 (o_shl 1 x6))), some (.inl (mw (x4 + 1))), some (.inl x5), none]) rfl ?_
          exact hK
    · replace h := g_neg hb136 h
      refine m_blk C0 (pX8_ok rfl) kX8_readRing_ok 18 3 (33, [some (.inr (.inr (23, 0))), some (.inr (.inr (7, y1))), some (.inl x2), some (.inl (o_or x3 (o_shl 1 x6))), some (.inl x4), some (.inl x5), some (.inl x6)], [.inl (mw (-x5))], σ) (Ps := []) rfl trivial ?_
      obtain ⟨hc, h⟩ := g_if h
      refine m_blk C0 (pX8_ok rfl) kX8_readRing_ok 22 4 (39, [some (.inr (.inr (23, 0))), some (.inr (.inr (7, y1))), some (.inl x2), some (.inl (o_or x3 (o_shl 1 x6))), some (.inl x4), some (.inl (mw (-x5))), some (.inl x6)], [.inl (σ 7 y1 x6.toNat)], σ) (Ps := [0 ≤ x6 ∧ x6 < 3]) rfl (And.intro hc trivial) ?_
      obtain ⟨⟨v132, s131⟩, hq135, h⟩ := g_bind h
      refine c_SN (rest := []) C0 hFr (t_X11_indexOfCode hG f.2.1 N hq135) lk_X8_26 (k_at kX8_readRing_ok 26 rfl) rfl rfl rfl (by decide) (by decide) (Nat.le_of_ble_eq_true rfl) ?_
      refine m_blk C0 (pX8_ok rfl) kX8_readRing_ok 27 4 (50, [some (.inr (.inr (23, 0))), some (.inr (.inr (7, y1))), some (.inl x2), some (.inl (o_or x3 (o_shl 1 x6))), some (.inl (mw (x4 + 1))), some (.inl (mw (-x5))), some (.inl v132)], [.inl x2, .inl v132], s131) (Ps := []) rfl trivial ?_
      refine b_ieq C0 kX8_readRing_ok 31 (off := 9) (tgt := 59) rfl (by decide) (fun hb134 => ?_) (fun hb134 => ?_)
      · replace h := g_pos hb134 h
        cases h
        refine m_mask [true, false, false, true, true, true, false] (ls' := [some (.inr (.inr (23, 0))), none, none, some (.inl (o_or x3 (o_shl 1 x6))), some (.inl (mw (x4 + 1))), some (.inl (mw (-x5))), none]) rfl ?_
        exact hK
      · replace h := g_neg hb134 h
        refine m_blk C0 (pX8_ok rfl) kX8_readRing_ok 32 2 (56, [some (.inr (.inr (23, 0))), some (.inr (.inr (7, y1))), some (.inl x2), some (.inl (o_or x3 (o_shl 1 x6))), some (.inl (mw (x4 + 1))), some (.inl (mw (-x5))), some (.inl v132)], [.inl 3, .inl (mw (x4 + 1))], s131) (Ps := []) rfl trivial ?_
        refine b_ilt C0 kX8_readRing_ok 34 (off := (-45)) (tgt := 11) rfl (by decide) (fun hb133 => ?_) (fun hb133 => ?_)
        · replace h := g_pos hb133 h
          refine m_mask [true, true, true, true, true, true, true] (ls' := [some (.inr (.inr (23, 0))), some (.inr (.inr (7, y1))), some (.inl x2), some (.inl (o_or x3 (o_shl 1 x6))), some (.inl (mw (x4 + 1))), some (.inl (mw (-x5))), some (.inl v132)]) rfl ?_
          exact IH _ _ _ _ _ _ _ _ _ _ _ h hK
        · replace h := g_neg hb133 h
          cases h
          refine m_mask [true, false, false, true, true, true, false] (ls' := [some (.inr (.inr (23, 0))), none, none, some (.inl (o_or x3 (o_shl 1 x6))), some (.inl (mw (x4 + 1))), some (.inl (mw (-x5))), none]) rfl ?_
          exact hK
set_option maxRecDepth 100000 in
set_option maxHeartbeats 4000000 in
theorem t_X8_readRing_r7 {e : mEv} (hG : mGeo (mw0 e) lw_kept) (l : Launch) (N : Nat) {q1 : Nat} {a2 : Int} {σ σ' : mS} {v : Int} (h : f_X8_readRing_r7 N q1 a2 σ = some (v, σ')) : mMet l (mw0 e) lw_kept 1 yX8_readRing cX8_readRing 7 (some .int) [.inr (.inr (23, 0)), .inr (.inr (7, q1)), .inl a2] σ (some (.inl v)) σ' := by
  refine mMet_intro (plainFor_of_name (by decide)) hG (Nat.le_of_ble_eq_true rfl) (fun f hl hR C0 hFin => ?_)
  subst hl
  have hFr := mFr_of hR hFin
  unfold f_X8_readRing_r7 at h
  show mWW f (mw0 e) sc0 7 (0, [some (.inr (.inr (23, 0))), some (.inr (.inr (7, q1))), some (.inl a2), none, none, none, none], [], σ)
  refine m_blk C0 (pX8_ok rfl) kX8_readRing_ok 0 8 (11, [some (.inr (.inr (23, 0))), some (.inr (.inr (7, q1))), some (.inl a2), some (.inl 0), some (.inl 0), some (.inl 1), some (.inl a2)], [], σ) (Ps := []) rfl trivial ?_
  obtain ⟨⟨o138, o139, o140, s137⟩, hq141, h⟩ := g_bind h
  refine m_mask [true, true, true, true, true, true, true] (ls' := [some (.inr (.inr (23, 0))), some (.inr (.inr (7, q1))), some (.inl a2), some (.inl 0), some (.inl 0), some (.inl 1), some (.inl a2)]) rfl ?_
  refine p_X8_readRing_r7_11 hG N C0 hFr N _ _ _ _ _ _ _ _ _ _ _ hq141 ?_
  obtain ⟨hc, h⟩ := g_if h
  refine m_blk C0 (pX8_ok rfl) kX8_readRing_ok 35 6 (70, [some (.inr (.inr (23, 0))), none, none, some (.inl o138), some (.inl o139), some (.inl o140), none], [], (mup s137 24 0 ((s137 23 0 2).toNat) o139)) (Ps := [0 ≤ (s137 23 0 2) ∧ (s137 23 0 2) < 3]) rfl (And.intro hc trivial) ?_
  refine m_blk C0 (pX8_ok rfl) kX8_readRing_ok 41 6 (81, [some (.inr (.inr (23, 0))), none, none, some (.inl o138), some (.inl o139), some (.inl o140), none], [], (mup (mup s137 24 0 ((s137 23 0 2).toNat) o139) 25 0 ((s137 23 0 2).toNat) o140)) (Ps := [0 ≤ (s137 23 0 2) ∧ (s137 23 0 2) < 3]) rfl (And.intro hc trivial) ?_
  refine m_blk C0 (pX8_ok rfl) kX8_readRing_ok 47 6 (91, [some (.inr (.inr (23, 0))), none, none, some (.inl o138), some (.inl o139), some (.inl o140), none], [], (mup (mup (mup s137 24 0 ((s137 23 0 2).toNat) o139) 25 0 ((s137 23 0 2).toNat) o140) 23 0 2 (mw ((s137 23 0 2) + 1)))) (Ps := []) rfl trivial ?_
  refine m_blk C0 (pX8_ok rfl) kX8_readRing_ok 53 1 (92, [some (.inr (.inr (23, 0))), none, none, some (.inl o138), some (.inl o139), some (.inl o140), none], [.inl o138], (mup (mup (mup s137 24 0 ((s137 23 0 2).toNat) o139) 25 0 ((s137 23 0 2).toNat) o140) 23 0 2 (mw ((s137 23 0 2) + 1)))) (Ps := []) rfl trivial ?_
  cases h
  exact m_iret C0 hFin (k_at kX8_readRing_ok 54 rfl) (Or.inl rfl)
set_option maxRecDepth 100000 in
set_option maxHeartbeats 4000000 in
theorem p_X8_read_r7_9 {e : mEv} (hG : mGeo (mw0 e) lw_kept) (N : Nat) {f : mFx} (C0 : mCx f (mw0 e) sc0 cX8_read 4 RX8 lw_kept) (hFr : mFr f 2) : ∀ (n : Nat) (y1 : Nat) (x2 : Int) (x3 : Int) (σ : mS) (σ' : mS), L_X8_read_r7_9 N n y1 x2 x3 σ = some σ' → mWW f (mw0 e) sc0 4 (37, [none, none, none, none], [], σ') → mWW f (mw0 e) sc0 4 (9, [some (.inr (.inr (23, 0))), some (.inr (.inr (7, y1))), some (.inl x2), some (.inl x3)], [], σ) := by
  intro n
  induction n with
  | zero =>
    intro y1 x2 x3 σ σ' h hK
    cases h
  | succ n IH =>
    intro y1 x2 x3 σ σ' h hK
    rw [L_X8_read_r7_9_s] at h
    refine m_blk C0 (pX8_ok rfl) kX8_read_ok 7 2 (11, [some (.inr (.inr (23, 0))), some (.inr (.inr (7, y1))), some (.inl x2), some (.inl x3)], [.inl 3, .inl x3], σ) (Ps := []) rfl trivial ?_
    refine b_ige C0 kX8_read_ok 9 (off := 26) (tgt := 37) rfl (by decide) (fun hb146 => ?_) (fun hb146 => ?_)
    · replace h := g_pos hb146 h
      cases h
      refine m_mask [false, false, false, false] (ls' := [none, none, none, none]) rfl ?_
      exact hK
    · replace h := g_neg hb146 h
      refine m_blk C0 (pX8_ok rfl) kX8_read_ok 10 5 (19, [some (.inr (.inr (23, 0))), some (.inr (.inr (7, y1))), some (.inl x2), some (.inl x3)], [.inl (o_and (o_shr x2 x3) 1)], σ) (Ps := []) rfl trivial ?_
      refine b_ne C0 kX8_read_ok 15 (off := 12) (tgt := 31) rfl (by decide) (fun hb145 => ?_) (fun hb145 => ?_)
      · replace h := g_neg hb145 h
        refine m_blk C0 (pX8_ok rfl) kX8_read_ok 23 2 (9, [some (.inr (.inr (23, 0))), some (.inr (.inr (7, y1))), some (.inl x2), some (.inl (mw (x3 + 1)))], [], σ) (Ps := []) rfl trivial ?_
        refine m_mask [true, true, true, true] (ls' := [some (.inr (.inr (23, 0))), some (.inr (.inr (7, y1))), some (.inl x2), some (.inl (mw (x3 + 1)))]) rfl ?_
        exact IH _ _ _ _ _ h hK
      · replace h := g_pos hb145 h
        refine m_blk C0 (pX8_ok rfl) kX8_read_ok 16 4 (26, [some (.inr (.inr (23, 0))), some (.inr (.inr (7, y1))), some (.inl x2), some (.inl x3)], [.inl x3, .inr (.inr (7, y1)), .inr (.inr (23, 0)), .inl x2], σ) (Ps := []) rfl trivial ?_
        obtain ⟨⟨v143, s142⟩, hq144, h⟩ := g_bind h
        refine c_V (rest := [.inl x2]) C0 hFr (t_X8_readRing_r7 hG f.2.1 N hq144) lk_X8_22 (k_at kX8_read_ok 20 rfl) rfl rfl rfl rfl ⟨_, _, rfl⟩ (by decide) (by decide) (Nat.le_of_ble_eq_true rfl) ?_
        refine m_blk C0 (pX8_ok rfl) kX8_read_ok 21 4 (9, [some (.inr (.inr (23, 0))), some (.inr (.inr (7, y1))), some (.inl (o_or x2 v143)), some (.inl (mw (x3 + 1)))], [], s142) (Ps := []) rfl trivial ?_
        refine m_mask [true, true, true, true] (ls' := [some (.inr (.inr (23, 0))), some (.inr (.inr (7, y1))), some (.inl (o_or x2 v143)), some (.inl (mw (x3 + 1)))]) rfl ?_
        exact IH _ _ _ _ _ h hK
set_option maxRecDepth 100000 in
set_option maxHeartbeats 4000000 in
theorem t_X8_read_r7 {e : mEv} (hG : mGeo (mw0 e) lw_kept) (l : Launch) (N : Nat) {q1 : Nat} {σ σ' : mS} (h : f_X8_read_r7 N q1 σ = some σ') : mMet l (mw0 e) lw_kept 2 yX8_read cX8_read 4 none [.inr (.inr (23, 0)), .inr (.inr (7, q1))] σ none σ' := by
  refine mMet_intro (plainFor_of_name (by decide)) hG (Nat.le_of_ble_eq_true rfl) (fun f hl hR C0 hFin => ?_)
  subst hl
  have hFr := mFr_of hR hFin
  unfold f_X8_read_r7 at h
  show mWW f (mw0 e) sc0 4 (0, [some (.inr (.inr (23, 0))), some (.inr (.inr (7, q1))), none, none], [], σ)
  refine m_blk C0 (pX8_ok rfl) kX8_read_ok 0 3 (5, [some (.inr (.inr (23, 0))), some (.inr (.inr (7, q1))), none, none], [], (mup σ 23 0 2 0)) (Ps := []) rfl trivial ?_
  refine m_blk C0 (pX8_ok rfl) kX8_read_ok 3 4 (9, [some (.inr (.inr (23, 0))), some (.inr (.inr (7, q1))), some (.inl 0), some (.inl 0)], [], (mup σ 23 0 2 0)) (Ps := []) rfl trivial ?_
  obtain ⟨s147, hq148, h⟩ := g_bind h
  refine m_mask [true, true, true, true] (ls' := [some (.inr (.inr (23, 0))), some (.inr (.inr (7, q1))), some (.inl 0), some (.inl 0)]) rfl ?_
  refine p_X8_read_r7_9 hG N C0 hFr N _ _ _ _ _ hq148 ?_
  cases h
  exact m_vret C0 hFin (k_at kX8_read_ok 25 rfl)
set_option maxRecDepth 100000 in
set_option maxHeartbeats 4000000 in
theorem p_X8_linesLeft_4 {e : mEv} (hG : mGeo (mw0 e) lw_kept) (N : Nat) {f : mFx} (C0 : mCx f (mw0 e) sc0 cX8_linesLeft 3 RX8 lw_kept) (hFr : mFr f 0) : ∀ (n : Nat) (x1 : Int) (x2 : Int) (σ : mS) (o1 : Int) (σ' : mS), L_X8_linesLeft_4 N n x1 x2 σ = some (o1, σ') → mWW f (mw0 e) sc0 3 (35, [none, some (.inl o1), none], [], σ') → mWW f (mw0 e) sc0 3 (4, [some (.inr (.inr (23, 0))), some (.inl x1), some (.inl x2)], [], σ) := by
  intro n
  induction n with
  | zero =>
    intro x1 x2 σ o1 σ' h hK
    cases h
  | succ n IH =>
    intro x1 x2 σ o1 σ' h hK
    rw [L_X8_linesLeft_4_s] at h
    refine m_blk C0 (pX8_ok rfl) kX8_linesLeft_ok 4 3 (9, [some (.inr (.inr (23, 0))), some (.inl x1), some (.inl x2)], [.inl (σ 23 0 2), .inl x2], σ) (Ps := []) rfl trivial ?_
    refine b_ige C0 kX8_linesLeft_ok 7 (off := 26) (tgt := 35) rfl (by decide) (fun hb151 => ?_) (fun hb151 => ?_)
    · replace h := g_pos hb151 h
      cases h
      refine m_mask [false, true, false] (ls' := [none, some (.inl x1), none]) rfl ?_
      exact hK
    · replace h := g_neg hb151 h
      obtain ⟨hc, h⟩ := g_if h
      refine m_blk C0 (pX8_ok rfl) kX8_linesLeft_ok 8 5 (19, [some (.inr (.inr (23, 0))), some (.inl x1), some (.inl x2)], [.inl (σ 25 0 x2.toNat), .inl x1], σ) (Ps := [0 ≤ x2 ∧ x2 < 3]) rfl (And.intro hc trivial) ?_
      refine b_le C0 kX8_linesLeft_ok 13 (off := 7) (tgt := 26) rfl (by decide) (fun hb150 => ?_) (fun hb150 => ?_)
      · replace h := g_pos hb150 h
        refine m_blk C0 (pX8_ok rfl) kX8_linesLeft_ok 16 5 (4, [some (.inr (.inr (23, 0))), some (.inl (mw (x1 + 0))), some (.inl (mw (x2 + 1)))], [], σ) (Ps := []) rfl trivial ?_
        refine m_mask [true, true, true] (ls' := [some (.inr (.inr (23, 0))), some (.inl (mw (x1 + 0))), some (.inl (mw (x2 + 1)))]) rfl ?_
        exact IH _ _ _ _ _ h hK
      · replace h := g_neg hb150 h
        refine m_blk C0 (pX8_ok rfl) kX8_linesLeft_ok 14 2 (27, [some (.inr (.inr (23, 0))), some (.inl x1), some (.inl x2)], [.inl 1, .inl x1], σ) (Ps := []) rfl trivial ?_
        refine m_blk C0 (pX8_ok rfl) kX8_linesLeft_ok 17 4 (4, [some (.inr (.inr (23, 0))), some (.inl (mw (x1 + 1))), some (.inl (mw (x2 + 1)))], [], σ) (Ps := []) rfl trivial ?_
        refine m_mask [true, true, true] (ls' := [some (.inr (.inr (23, 0))), some (.inl (mw (x1 + 1))), some (.inl (mw (x2 + 1)))]) rfl ?_
        exact IH _ _ _ _ _ h hK
set_option maxRecDepth 100000 in
set_option maxHeartbeats 4000000 in
theorem t_X8_linesLeft {e : mEv} (hG : mGeo (mw0 e) lw_kept) (l : Launch) (N : Nat) {σ σ' : mS} {v : Int} (h : f_X8_linesLeft N σ = some (v, σ')) : mMet l (mw0 e) lw_kept 0 yX8_linesLeft cX8_linesLeft 3 (some .int) [.inr (.inr (23, 0))] σ (some (.inl v)) σ' := by
  refine mMet_intro (plainFor_of_name (by decide)) hG (Nat.le_of_ble_eq_true rfl) (fun f hl hR C0 hFin => ?_)
  subst hl
  have hFr := mFr_of hR hFin
  unfold f_X8_linesLeft at h
  show mWW f (mw0 e) sc0 3 (0, [some (.inr (.inr (23, 0))), none, none], [], σ)
  refine m_blk C0 (pX8_ok rfl) kX8_linesLeft_ok 0 4 (4, [some (.inr (.inr (23, 0))), some (.inl 0), some (.inl 0)], [], σ) (Ps := []) rfl trivial ?_
  obtain ⟨⟨o153, s152⟩, hq154, h⟩ := g_bind h
  refine m_mask [true, true, true] (ls' := [some (.inr (.inr (23, 0))), some (.inl 0), some (.inl 0)]) rfl ?_
  refine p_X8_linesLeft_4 hG N C0 hFr N _ _ _ _ _ hq154 ?_
  refine m_blk C0 (pX8_ok rfl) kX8_linesLeft_ok 21 1 (36, [none, some (.inl o153), none], [.inl o153], s152) (Ps := []) rfl trivial ?_
  cases h
  exact m_iret C0 hFin (k_at kX8_linesLeft_ok 22 rfl) (Or.inl rfl)
set_option maxRecDepth 100000 in
set_option maxHeartbeats 4000000 in
theorem p_X1_fillMirrors_7 {e : mEv} (hG : mGeo (mw0 e) lw_kept) (N : Nat) {f : mFx} (C0 : mCx f (mw0 e) sc0 cX1_fillMirrors 2 RX1 lw_kept) (hFr : mFr f 3) : ∀ (n : Nat) (x1 : Int) (σ : mS) (σ' : mS), L_X1_fillMirrors_7 N n x1 σ = some σ' → mWW f (mw0 e) sc0 2 (79, [none, none], [], σ') → mWW f (mw0 e) sc0 2 (7, [some (.inr (.inr (5, 0))), some (.inl x1)], [], σ) := by
  intro n
  induction n with
  | zero =>
    intro x1 σ σ' h hK
    cases h
  | succ n IH =>
    intro x1 σ σ' h hK
    rw [L_X1_fillMirrors_7_s] at h
    refine m_blk C0 (pX1_ok rfl) kX1_fillMirrors_ok 5 3 (12, [some (.inr (.inr (5, 0))), some (.inl x1)], [.inl (σ 5 0 0), .inl x1], σ) (Ps := []) rfl trivial ?_
    refine b_ige C0 kX1_fillMirrors_ok 8 (off := 67) (tgt := 79) rfl (by decide) (fun hb162 => ?_) (fun hb162 => ?_)
    · replace h := g_pos hb162 h
      cases h
      refine m_mask [false, false] (ls' := [none, none]) rfl ?_
      exact hK
    · replace h := g_neg hb162 h
      obtain ⟨hc, h⟩ := g_if h
      refine m_blk C0 (pX1_ok rfl) kX1_fillMirrors_ok 9 6 (25, [some (.inr (.inr (5, 0))), some (.inl x1)], [.inr (.inr (7, x1.toNat)), .inr (.inr (23, 0))], σ) (Ps := [0 ≤ x1 ∧ x1 < 48]) rfl (And.intro hc trivial) ?_
      obtain ⟨s149, hq161, h⟩ := g_bind h
      refine c_V (rest := []) C0 hFr (t_X8_read_r7 hG f.2.1 N hq161) lk_X1_133 (k_at kX1_fillMirrors_ok 15 rfl) rfl rfl rfl rfl ⟨_, _, rfl⟩ (by decide) (by decide) (Nat.le_of_ble_eq_true rfl) ?_
      refine m_blk C0 (pX1_ok rfl) kX1_fillMirrors_ok 16 5 (37, [some (.inr (.inr (5, 0))), some (.inl x1)], [.inr (.inr (23, 0)), .inl x1, .inr (.inr (22, 0))], s149) (Ps := []) rfl trivial ?_
      obtain ⟨⟨v156, s155⟩, hq160, h⟩ := g_bind h
      refine c_V (rest := [.inl x1, .inr (.inr (22, 0))]) C0 hFr (t_X8_linesLeft hG f.2.1 N hq160) lk_X1_137 (k_at kX1_fillMirrors_ok 21 rfl) rfl rfl rfl rfl ⟨_, _, rfl⟩ (by decide) (by decide) (Nat.le_of_ble_eq_true rfl) ?_
      refine m_blk C0 (pX1_ok rfl) kX1_fillMirrors_ok 22 1 (41, [some (.inr (.inr (5, 0))), some (.inl x1)], [.inl 2, .inl v156, .inl x1, .inr (.inr (22, 0))], s155) (Ps := []) rfl trivial ?_
      refine b_ine C0 kX1_fillMirrors_ok 23 (off := 7) (tgt := 48) rfl (by decide) (fun hb159 => ?_) (fun hb159 => ?_)
      · replace h := g_neg hb159 h
        obtain ⟨hc, h⟩ := g_if h
        refine m_blk C0 (pX1_ok rfl) kX1_fillMirrors_ok 26 2 (50, [some (.inr (.inr (5, 0))), some (.inl x1)], [], (mup s155 22 0 x1.toNat 0)) (Ps := [0 ≤ x1 ∧ x1 < 48, (0 : Int) = 0 ∨ (0 : Int) = 1]) rfl (And.intro hc (And.intro (by decide) trivial)) ?_
        refine m_blk C0 (pX1_ok rfl) kX1_fillMirrors_ok 28 7 (61, [some (.inr (.inr (5, 0))), some (.inl x1)], [.inl ((mup s155 22 0 x1.toNat 0) 22 0 x1.toNat), .inl (s155 5 0 3), .inr (.inr (5, 0))], (mup s155 22 0 x1.toNat 0)) (Ps := [0 ≤ x1 ∧ x1 < 48]) rfl (And.intro hc trivial) ?_
        refine b_eq C0 kX1_fillMirrors_ok 35 (off := 7) (tgt := 68) rfl (by decide) (fun hb157 => ?_) (fun hb157 => ?_)
        · replace h := g_pos hb157 h
          refine m_blk C0 (pX1_ok rfl) kX1_fillMirrors_ok 38 3 (73, [some (.inr (.inr (5, 0))), some (.inl x1)], [], (mup (mup s155 22 0 x1.toNat 0) 5 0 3 (mw ((s155 5 0 3) + 0)))) (Ps := []) rfl trivial ?_
          refine m_blk C0 (pX1_ok rfl) kX1_fillMirrors_ok 41 2 (7, [some (.inr (.inr (5, 0))), some (.inl (mw (x1 + 1)))], [], (mup (mup s155 22 0 x1.toNat 0) 5 0 3 (mw ((s155 5 0 3) + 0)))) (Ps := []) rfl trivial ?_
          refine m_mask [true, true] (ls' := [some (.inr (.inr (5, 0))), some (.inl (mw (x1 + 1)))]) rfl ?_
          exact IH _ _ _ h hK
        · replace h := g_neg hb157 h
          refine m_blk C0 (pX1_ok rfl) kX1_fillMirrors_ok 36 2 (69, [some (.inr (.inr (5, 0))), some (.inl x1)], [.inl 1, .inl (s155 5 0 3), .inr (.inr (5, 0))], (mup s155 22 0 x1.toNat 0)) (Ps := []) rfl trivial ?_
          refine m_blk C0 (pX1_ok rfl) kX1_fillMirrors_ok 39 2 (73, [some (.inr (.inr (5, 0))), some (.inl x1)], [], (mup (mup s155 22 0 x1.toNat 0) 5 0 3 (mw ((s155 5 0 3) + 1)))) (Ps := []) rfl trivial ?_
          refine m_blk C0 (pX1_ok rfl) kX1_fillMirrors_ok 41 2 (7, [some (.inr (.inr (5, 0))), some (.inl (mw (x1 + 1)))], [], (mup (mup s155 22 0 x1.toNat 0) 5 0 3 (mw ((s155 5 0 3) + 1)))) (Ps := []) rfl trivial ?_
          refine m_mask [true, true] (ls' := [some (.inr (.inr (5, 0))), some (.inl (mw (x1 + 1)))]) rfl ?_
          exact IH _ _ _ h hK
      · replace h := g_pos hb159 h
        refine m_blk C0 (pX1_ok rfl) kX1_fillMirrors_ok 24 2 (49, [some (.inr (.inr (5, 0))), some (.inl x1)], [.inl 1, .inl x1, .inr (.inr (22, 0))], s155) (Ps := []) rfl trivial ?_
        obtain ⟨hc, h⟩ := g_if h
        refine m_blk C0 (pX1_ok rfl) kX1_fillMirrors_ok 27 1 (50, [some (.inr (.inr (5, 0))), some (.inl x1)], [], (mup s155 22 0 x1.toNat 1)) (Ps := [0 ≤ x1 ∧ x1 < 48, (1 : Int) = 0 ∨ (1 : Int) = 1]) rfl (And.intro hc (And.intro (by decide) trivial)) ?_
        refine m_blk C0 (pX1_ok rfl) kX1_fillMirrors_ok 28 7 (61, [some (.inr (.inr (5, 0))), some (.inl x1)], [.inl ((mup s155 22 0 x1.toNat 1) 22 0 x1.toNat), .inl (s155 5 0 3), .inr (.inr (5, 0))], (mup s155 22 0 x1.toNat 1)) (Ps := [0 ≤ x1 ∧ x1 < 48]) rfl (And.intro hc trivial) ?_
        refine b_eq C0 kX1_fillMirrors_ok 35 (off := 7) (tgt := 68) rfl (by decide) (fun hb158 => ?_) (fun hb158 => ?_)
        · replace h := g_pos hb158 h
          refine m_blk C0 (pX1_ok rfl) kX1_fillMirrors_ok 38 3 (73, [some (.inr (.inr (5, 0))), some (.inl x1)], [], (mup (mup s155 22 0 x1.toNat 1) 5 0 3 (mw ((s155 5 0 3) + 0)))) (Ps := []) rfl trivial ?_
          refine m_blk C0 (pX1_ok rfl) kX1_fillMirrors_ok 41 2 (7, [some (.inr (.inr (5, 0))), some (.inl (mw (x1 + 1)))], [], (mup (mup s155 22 0 x1.toNat 1) 5 0 3 (mw ((s155 5 0 3) + 0)))) (Ps := []) rfl trivial ?_
          refine m_mask [true, true] (ls' := [some (.inr (.inr (5, 0))), some (.inl (mw (x1 + 1)))]) rfl ?_
          exact IH _ _ _ h hK
        · replace h := g_neg hb158 h
          refine m_blk C0 (pX1_ok rfl) kX1_fillMirrors_ok 36 2 (69, [some (.inr (.inr (5, 0))), some (.inl x1)], [.inl 1, .inl (s155 5 0 3), .inr (.inr (5, 0))], (mup s155 22 0 x1.toNat 1)) (Ps := []) rfl trivial ?_
          refine m_blk C0 (pX1_ok rfl) kX1_fillMirrors_ok 39 2 (73, [some (.inr (.inr (5, 0))), some (.inl x1)], [], (mup (mup s155 22 0 x1.toNat 1) 5 0 3 (mw ((s155 5 0 3) + 1)))) (Ps := []) rfl trivial ?_
          refine m_blk C0 (pX1_ok rfl) kX1_fillMirrors_ok 41 2 (7, [some (.inr (.inr (5, 0))), some (.inl (mw (x1 + 1)))], [], (mup (mup s155 22 0 x1.toNat 1) 5 0 3 (mw ((s155 5 0 3) + 1)))) (Ps := []) rfl trivial ?_
          refine m_mask [true, true] (ls' := [some (.inr (.inr (5, 0))), some (.inl (mw (x1 + 1)))]) rfl ?_
          exact IH _ _ _ h hK
set_option maxRecDepth 100000 in
set_option maxHeartbeats 4000000 in
theorem t_X1_fillMirrors {e : mEv} (hG : mGeo (mw0 e) lw_kept) (l : Launch) (N : Nat) {σ σ' : mS} (h : f_X1_fillMirrors N σ = some σ') : mMet l (mw0 e) lw_kept 3 yX1_fillMirrors cX1_fillMirrors 2 none [.inr (.inr (5, 0))] σ none σ' := by
  refine mMet_intro (plainFor_of_name (by decide)) hG (Nat.le_of_ble_eq_true rfl) (fun f hl hR C0 hFin => ?_)
  subst hl
  have hFr := mFr_of hR hFin
  unfold f_X1_fillMirrors at h
  show mWW f (mw0 e) sc0 2 (0, [some (.inr (.inr (5, 0))), none], [], σ)
  refine m_blk C0 (pX1_ok rfl) kX1_fillMirrors_ok 0 3 (5, [some (.inr (.inr (5, 0))), none], [], (mup σ 5 0 3 0)) (Ps := []) rfl trivial ?_
  refine m_blk C0 (pX1_ok rfl) kX1_fillMirrors_ok 3 2 (7, [some (.inr (.inr (5, 0))), some (.inl 0)], [], (mup σ 5 0 3 0)) (Ps := []) rfl trivial ?_
  obtain ⟨s163, hq164, h⟩ := g_bind h
  refine m_mask [true, true] (ls' := [some (.inr (.inr (5, 0))), some (.inl 0)]) rfl ?_
  refine p_X1_fillMirrors_7 hG N C0 hFr N _ _ _ hq164 ?_
  cases h
  exact m_vret C0 hFin (k_at kX1_fillMirrors_ok 43 rfl)
set_option maxRecDepth 100000 in
set_option maxHeartbeats 4000000 in
theorem p_X1_makeOf_46 {e : mEv} (hG : mGeo (mw0 e) lw_kept) (N : Nat) {f : mFx} (C0 : mCx f (mw0 e) sc0 cX1_makeOf 4 RX1 lw_kept) (hFr : mFr f 4) : ∀ (n : Nat) (x2 : Int) (x3 : Int) (σ : mS) (σ' : mS), L_X1_makeOf_46 N n x2 x3 σ = some σ' → mWW f (mw0 e) sc0 4 (74, [some (.inr (.inr (5, 0))), none, some (.inl x2), none], [], σ') → mWW f (mw0 e) sc0 4 (46, [some (.inr (.inr (5, 0))), none, some (.inl x2), some (.inl x3)], [], σ) := by
  intro n
  induction n with
  | zero =>
    intro x2 x3 σ σ' h hK
    cases h
  | succ n IH =>
    intro x2 x3 σ σ' h hK
    rw [L_X1_makeOf_46_s] at h
    refine m_blk C0 (pX1_ok rfl) kX1_makeOf_ok 29 3 (51, [some (.inr (.inr (5, 0))), none, some (.inl x2), some (.inl x3)], [.inl (σ 5 0 1), .inl x3], σ) (Ps := []) rfl trivial ?_
    refine b_ige C0 kX1_makeOf_ok 32 (off := 23) (tgt := 74) rfl (by decide) (fun hb86 => ?_) (fun hb86 => ?_)
    · replace h := g_pos hb86 h
      cases h
      refine m_mask [true, false, true, false] (ls' := [some (.inr (.inr (5, 0))), none, some (.inl x2), none]) rfl ?_
      exact hK
    · replace h := g_neg hb86 h
      obtain ⟨hc, h⟩ := g_if h
      refine m_blk C0 (pX1_ok rfl) kX1_makeOf_ok 33 8 (64, [some (.inr (.inr (5, 0))), none, some (.inl x2), some (.inl x3)], [.inl x3, .inl x2, .inr (.inr (5, 0)), .inl x3, .inr (.inr (12, x2.toNat))], σ) (Ps := [0 ≤ x2 ∧ x2 < 48]) rfl (And.intro hc trivial) ?_
      obtain ⟨⟨v84, s83⟩, hq85, h⟩ := g_bind h
      refine c_V (rest := [.inl x3, .inr (.inr (12, x2.toNat))]) C0 hFr (t_X1_elementThenTurn hG f.2.1 N hq85) lk_X1_82 (k_at kX1_makeOf_ok 41 rfl) rfl rfl rfl rfl ⟨_, _, rfl⟩ (by decide) (by decide) (Nat.le_of_ble_eq_true rfl) ?_
      obtain ⟨hc, h⟩ := g_if h
      refine m_blk C0 (pX1_ok rfl) kX1_makeOf_ok 42 1 (68, [some (.inr (.inr (5, 0))), none, some (.inl x2), some (.inl x3)], [], (mup s83 12 x2.toNat x3.toNat v84)) (Ps := [0 ≤ x3 ∧ x3 < 4]) rfl (And.intro hc trivial) ?_
      refine m_blk C0 (pX1_ok rfl) kX1_makeOf_ok 43 2 (46, [some (.inr (.inr (5, 0))), none, some (.inl x2), some (.inl (mw (x3 + 1)))], [], (mup s83 12 x2.toNat x3.toNat v84)) (Ps := []) rfl trivial ?_
      refine m_mask [true, false, true, true] (ls' := [some (.inr (.inr (5, 0))), none, some (.inl x2), some (.inl (mw (x3 + 1)))]) rfl ?_
      exact IH _ _ _ _ h hK
set_option maxRecDepth 100000 in
set_option maxHeartbeats 4000000 in
theorem p_X1_makeOf_30 {e : mEv} (hG : mGeo (mw0 e) lw_kept) (N : Nat) {f : mFx} (C0 : mCx f (mw0 e) sc0 cX1_makeOf 4 RX1 lw_kept) (hFr : mFr f 4) : ∀ (n : Nat) (x2 : Int) (σ : mS) (σ' : mS), L_X1_makeOf_30 N n x2 σ = some σ' → mWW f (mw0 e) sc0 4 (80, [some (.inr (.inr (5, 0))), none, none, none], [], σ') → mWW f (mw0 e) sc0 4 (30, [some (.inr (.inr (5, 0))), none, some (.inl x2), none], [], σ) := by
  intro n
  induction n with
  | zero =>
    intro x2 σ σ' h hK
    cases h
  | succ n IH =>
    intro x2 σ σ' h hK
    rw [L_X1_makeOf_30_s] at h
    refine m_blk C0 (pX1_ok rfl) kX1_makeOf_ok 20 3 (35, [some (.inr (.inr (5, 0))), none, some (.inl x2), none], [.inl (σ 5 0 0), .inl x2], σ) (Ps := []) rfl trivial ?_
    refine b_ige C0 kX1_makeOf_ok 23 (off := 45) (tgt := 80) rfl (by decide) (fun hb90 => ?_) (fun hb90 => ?_)
    · replace h := g_pos hb90 h
      cases h
      refine m_mask [true, false, false, false] (ls' := [some (.inr (.inr (5, 0))), none, none, none]) rfl ?_
      exact hK
    · replace h := g_neg hb90 h
      refine m_blk C0 (pX1_ok rfl) kX1_makeOf_ok 24 2 (41, [some (.inr (.inr (5, 0))), none, some (.inl x2), none], [.inl 48, .inl x2], σ) (Ps := []) rfl trivial ?_
      refine b_ige C0 kX1_makeOf_ok 26 (off := 39) (tgt := 80) rfl (by decide) (fun hb89 => ?_) (fun hb89 => ?_)
      · replace h := g_pos hb89 h
        cases h
        refine m_mask [true, false, false, false] (ls' := [some (.inr (.inr (5, 0))), none, none, none]) rfl ?_
        exact hK
      · replace h := g_neg hb89 h
        refine m_blk C0 (pX1_ok rfl) kX1_makeOf_ok 27 2 (46, [some (.inr (.inr (5, 0))), none, some (.inl x2), some (.inl 0)], [], σ) (Ps := []) rfl trivial ?_
        obtain ⟨s87, hq88, h⟩ := g_bind h
        refine m_mask [true, false, true, true] (ls' := [some (.inr (.inr (5, 0))), none, some (.inl x2), some (.inl 0)]) rfl ?_
        refine p_X1_makeOf_46 hG N C0 hFr N _ _ _ _ hq88 ?_
        refine m_blk C0 (pX1_ok rfl) kX1_makeOf_ok 45 2 (30, [some (.inr (.inr (5, 0))), none, some (.inl (mw (x2 + 1))), none], [], s87) (Ps := []) rfl trivial ?_
        refine m_mask [true, false, true, false] (ls' := [some (.inr (.inr (5, 0))), none, some (.inl (mw (x2 + 1))), none]) rfl ?_
        exact IH _ _ _ h hK
set_option maxRecDepth 100000 in
set_option maxHeartbeats 4000000 in
theorem t_X1_makeOf {e : mEv} (hG : mGeo (mw0 e) lw_kept) (l : Launch) (N : Nat) {σ σ' : mS} (h : f_X1_makeOf N σ = some σ') : mMet l (mw0 e) lw_kept 4 yX1_makeOf cX1_makeOf 4 none [.inr (.inr (5, 0)), .inr (.inr (1, 0))] σ none σ' := by
  refine mMet_intro (plainFor_of_name (by decide)) hG (Nat.le_of_ble_eq_true rfl) (fun f hl hR C0 hFin => ?_)
  subst hl
  have hFr := mFr_of hR hFin
  unfold f_X1_makeOf at h
  show mWW f (mw0 e) sc0 4 (0, [some (.inr (.inr (5, 0))), some (.inr (.inr (1, 0))), none, none], [], σ)
  refine m_blk C0 (pX1_ok rfl) kX1_makeOf_ok 0 2 (2, [some (.inr (.inr (5, 0))), some (.inr (.inr (1, 0))), none, none], [.inr (.inr (1, 0)), .inr (.inr (5, 0))], σ) (Ps := []) rfl trivial ?_
  obtain ⟨s48, hq173, h⟩ := g_bind h
  refine c_V (rest := []) C0 hFr (t_X1_takeTurns hG f.2.1 N hq173) lk_X1_65 (k_at kX1_makeOf_ok 2 rfl) rfl rfl rfl rfl ⟨_, _, rfl⟩ (by decide) (by decide) (Nat.le_of_ble_eq_true rfl) ?_
  refine m_blk C0 (pX1_ok rfl) kX1_makeOf_ok 3 3 (10, [some (.inr (.inr (5, 0))), some (.inr (.inr (1, 0))), none, none], [], (mup s48 5 0 0 0)) (Ps := []) rfl trivial ?_
  refine m_blk C0 (pX1_ok rfl) kX1_makeOf_ok 6 3 (15, [some (.inr (.inr (5, 0))), some (.inr (.inr (1, 0))), none, none], [.inl (-1), .inr (.inr (8, 0))], (mup s48 5 0 0 0)) (Ps := []) rfl trivial ?_
  obtain ⟨s52, hq172, h⟩ := g_bind h
  refine c_S (rest := []) C0 hFr (t_J7_fill_53178_r8 hG f.2.1 N hq172) lk_X1_69 (k_at kX1_makeOf_ok 9 rfl) rfl rfl rfl (by decide) (by decide) (Nat.le_of_ble_eq_true rfl) ?_
  refine m_blk C0 (pX1_ok rfl) kX1_makeOf_ok 10 6 (24, [some (.inr (.inr (5, 0))), some (.inr (.inr (1, 0))), none, none], [.inl 0, .inl 0, .inl 3, .inl 2, .inl 1, .inr (.inr (5, 0))], s52) (Ps := []) rfl trivial ?_
  obtain ⟨⟨v66, s65⟩, hq171, h⟩ := g_bind h
  refine c_V (rest := []) C0 hFr (t_X1_findOrAdd hG f.2.1 N hq171) lk_X1_75 (k_at kX1_makeOf_ok 16 rfl) rfl rfl rfl rfl ⟨_, _, rfl⟩ (by decide) (by decide) (Nat.le_of_ble_eq_true rfl) ?_
  refine m_blk C0 (pX1_ok rfl) kX1_makeOf_ok 17 3 (30, [some (.inr (.inr (5, 0))), some (.inr (.inr (1, 0))), some (.inl 0), none], [], s65) (Ps := []) rfl trivial ?_
  obtain ⟨s91, hq170, h⟩ := g_bind h
  refine m_mask [true, false, true, false] (ls' := [some (.inr (.inr (5, 0))), none, some (.inl 0), none]) rfl ?_
  refine p_X1_makeOf_30 hG N C0 hFr N _ _ _ hq170 ?_
  refine m_blk C0 (pX1_ok rfl) kX1_makeOf_ok 47 1 (81, [some (.inr (.inr (5, 0))), none, none, none], [.inr (.inr (5, 0))], s91) (Ps := []) rfl trivial ?_
  obtain ⟨s98, hq169, h⟩ := g_bind h
  refine c_V (rest := []) C0 hFr (t_X1_fillTable hG f.2.1 N hq169) lk_X1_86 (k_at kX1_makeOf_ok 48 rfl) rfl rfl rfl rfl ⟨_, _, rfl⟩ (by decide) (by decide) (Nat.le_of_ble_eq_true rfl) ?_
  refine m_blk C0 (pX1_ok rfl) kX1_makeOf_ok 49 1 (85, [some (.inr (.inr (5, 0))), none, none, none], [.inr (.inr (5, 0))], s98) (Ps := []) rfl trivial ?_
  obtain ⟨s108, hq168, h⟩ := g_bind h
  refine c_V (rest := []) C0 hFr (t_X1_fillBacksAndOrders hG f.2.1 N hq168) lk_X1_89 (k_at kX1_makeOf_ok 50 rfl) rfl rfl rfl rfl ⟨_, _, rfl⟩ (by decide) (by decide) (Nat.le_of_ble_eq_true rfl) ?_
  refine m_blk C0 (pX1_ok rfl) kX1_makeOf_ok 51 1 (89, [some (.inr (.inr (5, 0))), none, none, none], [.inr (.inr (5, 0))], s108) (Ps := []) rfl trivial ?_
  obtain ⟨s125, hq167, h⟩ := g_bind h
  refine c_V (rest := []) C0 hFr (t_X1_fillClasses hG f.2.1 N hq167) lk_X1_92 (k_at kX1_makeOf_ok 52 rfl) rfl rfl rfl rfl ⟨_, _, rfl⟩ (by decide) (by decide) (Nat.le_of_ble_eq_true rfl) ?_
  refine m_blk C0 (pX1_ok rfl) kX1_makeOf_ok 53 1 (93, [some (.inr (.inr (5, 0))), none, none, none], [.inr (.inr (5, 0))], s125) (Ps := []) rfl trivial ?_
  obtain ⟨s165, hq166, h⟩ := g_bind h
  refine c_V (rest := []) C0 hFr (t_X1_fillMirrors hG f.2.1 N hq166) lk_X1_95 (k_at kX1_makeOf_ok 54 rfl) rfl rfl rfl rfl ⟨_, _, rfl⟩ (by decide) (by decide) (Nat.le_of_ble_eq_true rfl) ?_
  cases h
  exact m_vret C0 hFin (k_at kX1_makeOf_ok 55 rfl)
set_option maxRecDepth 100000 in
set_option maxHeartbeats 4000000 in
theorem t_X9_given {e : mEv} (hG : mGeo (mw0 e) lw_kept) (l : Launch) (N : Nat) {a1 : Int} {a2 : Int} {σ σ' : mS} {v : Int} (h : f_X9_given N a1 a2 σ = some (v, σ')) : mMet l (mw0 e) lw_kept 0 yX9_given cX9_given 3 (some .int) [.inr (.inr (5, 0)), .inl a1, .inl a2] σ (some (.inl v)) σ' := by
  refine mMet_intro (plainFor_of_name (by decide)) hG (Nat.le_of_ble_eq_true rfl) (fun f hl hR C0 hFin => ?_)
  subst hl
  have hFr := mFr_of hR hFin
  unfold f_X9_given at h
  show mWW f (mw0 e) sc0 3 (0, [some (.inr (.inr (5, 0))), some (.inl a1), some (.inl a2)], [], σ)
  refine m_blk C0 (pX9_ok rfl) kX9_given_ok 0 10 (12, [some (.inr (.inr (5, 0))), some (.inl a1), some (.inl a2)], [.inl (o_and (o_shr a1 (mw ((mw ((σ 5 0 1) - 1)) - a2))) 1)], σ) (Ps := []) rfl trivial ?_
  refine b_ne C0 kX9_given_ok 10 (off := 7) (tgt := 19) rfl (by decide) (fun hb175 => ?_) (fun hb175 => ?_)
  · replace h := g_neg hb175 h
    refine m_blk C0 (pX9_ok rfl) kX9_given_ok 13 1 (20, [some (.inr (.inr (5, 0))), some (.inl a1), some (.inl a2)], [.inl (-1)], σ) (Ps := []) rfl trivial ?_
    cases h
    exact m_iret C0 hFin (k_at kX9_given_ok 14 rfl) (Or.inl rfl)
  · replace h := g_pos hb175 h
    refine m_blk C0 (pX9_ok rfl) kX9_given_ok 11 2 (20, [some (.inr (.inr (5, 0))), some (.inl a1), some (.inl a2)], [.inl 1], σ) (Ps := []) rfl trivial ?_
    cases h
    exact m_iret C0 hFin (k_at kX9_given_ok 14 rfl) (Or.inl rfl)
set_option maxRecDepth 100000 in
set_option maxHeartbeats 4000000 in
theorem p_X9_fillRow_r28_6 {e : mEv} (hG : mGeo (mw0 e) lw_kept) (N : Nat) {f : mFx} (C0 : mCx f (mw0 e) sc0 cX9_fillRow 4 RX9 lw_kept) (hFr : mFr f 1) : ∀ (n : Nat) (x1 : Int) (y2 : Nat) (x3 : Int) (σ : mS) (σ' : mS), L_X9_fillRow_r28_6 N n x1 y2 x3 σ = some σ' → mWW f (mw0 e) sc0 4 (43, [none, none, none, none], [], σ') → mWW f (mw0 e) sc0 4 (6, [some (.inr (.inr (5, 0))), some (.inl x1), some (.inr (.inr (28, y2))), some (.inl x3)], [], σ) := by
  intro n
  induction n with
  | zero =>
    intro x1 y2 x3 σ σ' h hK
    cases h
  | succ n IH =>
    intro x1 y2 x3 σ σ' h hK
    rw [L_X9_fillRow_r28_6_s] at h
    refine m_blk C0 (pX9_ok rfl) kX9_fillRow_ok 6 3 (11, [some (.inr (.inr (5, 0))), some (.inl x1), some (.inr (.inr (28, y2))), some (.inl x3)], [.inl (σ 5 0 0), .inl x3], σ) (Ps := []) rfl trivial ?_
    refine b_ige C0 kX9_fillRow_ok 9 (off := 32) (tgt := 43) rfl (by decide) (fun hb179 => ?_) (fun hb179 => ?_)
    · replace h := g_pos hb179 h
      cases h
      refine m_mask [false, false, false, false] (ls' := [none, none, none, none]) rfl ?_
      exact hK
    · replace h := g_neg hb179 h
      obtain ⟨hc, h⟩ := g_if h
      refine m_blk C0 (pX9_ok rfl) kX9_fillRow_ok 10 14 (32, [some (.inr (.inr (5, 0))), some (.inl x1), some (.inr (.inr (28, y2))), some (.inl x3)], [.inl (σ 14 0 x3.toNat), .inl x1, .inr (.inr (5, 0)), .inl (σ 28 y2 ((σ 13 0 x3.toNat).toNat)), .inl x3, .inr (.inr (28, y2))], σ) (Ps := [0 ≤ x3 ∧ x3 < 48, 0 ≤ (σ 13 0 x3.toNat) ∧ (σ 13 0 x3.toNat) < 48, 0 ≤ x3 ∧ x3 < 48]) rfl (And.intro hc.1 (And.intro hc.2 (And.intro hc.1 trivial))) ?_
      obtain ⟨⟨v177, s176⟩, hq178, h⟩ := g_bind h
      refine c_S (rest := [.inl (σ 28 y2 ((σ 13 0 x3.toNat).toNat)), .inl x3, .inr (.inr (28, y2))]) C0 hFr (t_X9_given hG f.2.1 N hq178) lk_X9_43 (k_at kX9_fillRow_ok 24 rfl) rfl rfl rfl (by decide) (by decide) (Nat.le_of_ble_eq_true rfl) ?_
      obtain ⟨hc, h⟩ := g_if h
      refine m_blk C0 (pX9_ok rfl) kX9_fillRow_ok 25 2 (37, [some (.inr (.inr (5, 0))), some (.inl x1), some (.inr (.inr (28, y2))), some (.inl x3)], [], (mup s176 28 y2 x3.toNat (mw ((σ 28 y2 ((σ 13 0 x3.toNat).toNat)) * v177)))) (Ps := [0 ≤ x3 ∧ x3 < 48]) rfl (And.intro hc trivial) ?_
      refine m_blk C0 (pX9_ok rfl) kX9_fillRow_ok 27 2 (6, [some (.inr (.inr (5, 0))), some (.inl x1), some (.inr (.inr (28, y2))), some (.inl (mw (x3 + 1)))], [], (mup s176 28 y2 x3.toNat (mw ((σ 28 y2 ((σ 13 0 x3.toNat).toNat)) * v177)))) (Ps := []) rfl trivial ?_
      refine m_mask [true, true, true, true] (ls' := [some (.inr (.inr (5, 0))), some (.inl x1), some (.inr (.inr (28, y2))), some (.inl (mw (x3 + 1)))]) rfl ?_
      exact IH _ _ _ _ _ h hK
set_option maxRecDepth 100000 in
set_option maxHeartbeats 4000000 in
theorem t_X9_fillRow_r28 {e : mEv} (hG : mGeo (mw0 e) lw_kept) (l : Launch) (N : Nat) {a1 : Int} {q2 : Nat} {σ σ' : mS} (h : f_X9_fillRow_r28 N a1 q2 σ = some σ') : mMet l (mw0 e) lw_kept 1 yX9_fillRow cX9_fillRow 4 none [.inr (.inr (5, 0)), .inl a1, .inr (.inr (28, q2))] σ none σ' := by
  refine mMet_intro (plainFor_of_name (by decide)) hG (Nat.le_of_ble_eq_true rfl) (fun f hl hR C0 hFin => ?_)
  subst hl
  have hFr := mFr_of hR hFin
  unfold f_X9_fillRow_r28 at h
  show mWW f (mw0 e) sc0 4 (0, [some (.inr (.inr (5, 0))), some (.inl a1), some (.inr (.inr (28, q2))), none], [], σ)
  refine m_blk C0 (pX9_ok rfl) kX9_fillRow_ok 0 4 (4, [some (.inr (.inr (5, 0))), some (.inl a1), some (.inr (.inr (28, q2))), none], [], (mup σ 28 q2 0 1)) (Ps := [0 ≤ (0 : Int) ∧ (0 : Int) < 48]) rfl (And.intro (by decide) trivial) ?_
  refine m_blk C0 (pX9_ok rfl) kX9_fillRow_ok 4 2 (6, [some (.inr (.inr (5, 0))), some (.inl a1), some (.inr (.inr (28, q2))), some (.inl 1)], [], (mup σ 28 q2 0 1)) (Ps := []) rfl trivial ?_
  obtain ⟨s180, hq181, h⟩ := g_bind h
  refine m_mask [true, true, true, true] (ls' := [some (.inr (.inr (5, 0))), some (.inl a1), some (.inr (.inr (28, q2))), some (.inl 1)]) rfl ?_
  refine p_X9_fillRow_r28_6 hG N C0 hFr N _ _ _ _ _ hq181 ?_
  cases h
  exact m_vret C0 hFin (k_at kX9_fillRow_ok 29 rfl)
set_option maxRecDepth 100000 in
set_option maxHeartbeats 4000000 in
theorem p_X9_isSign_r28_21 {e : mEv} (hG : mGeo (mw0 e) lw_kept) (N : Nat) {f : mFx} (C0 : mCx f (mw0 e) sc0 cX9_isSign 6 RX9 lw_kept) (hFr : mFr f 1) : ∀ (n : Nat) (x1 : Int) (y2 : Nat) (x3 : Int) (x4 : Int) (x5 : Int) (σ : mS) (out : (Int × mS) ⊕ (mS)), L_X9_isSign_r28_21 N n x1 y2 x3 x4 x5 σ = some out → (∀ v s, out = .inl (v, s) → mFin f (mw0 e) (some .boolean) (some (.inl v)) s) → (∀  (s : mS), out = .inr s → mWW f (mw0 e) sc0 6 (59, [some (.inr (.inr (5, 0))), some (.inl x1), some (.inr (.inr (28, y2))), some (.inl x3), none, none], [], s)) → mWW f (mw0 e) sc0 6 (21, [some (.inr (.inr (5, 0))), some (.inl x1), some (.inr (.inr (28, y2))), some (.inl x3), some (.inl x4), some (.inl x5)], [], σ) := by
  intro n
  induction n with
  | zero =>
    intro x1 y2 x3 x4 x5 σ out h hX hK
    cases h
  | succ n IH =>
    intro x1 y2 x3 x4 x5 σ out h hX hK
    rw [L_X9_isSign_r28_21_s] at h
    refine m_blk C0 (pX9_ok rfl) kX9_isSign_ok 13 3 (27, [some (.inr (.inr (5, 0))), some (.inl x1), some (.inr (.inr (28, y2))), some (.inl x3), some (.inl x4), some (.inl x5)], [.inl (σ 5 0 0), .inl x5], σ) (Ps := []) rfl trivial ?_
    refine b_ige C0 kX9_isSign_ok 16 (off := 32) (tgt := 59) rfl (by decide) (fun hb186 => ?_) (fun hb186 => ?_)
    · replace h := g_pos hb186 h
      cases h
      refine m_mask [true, true, true, true, false, false] (ls' := [some (.inr (.inr (5, 0))), some (.inl x1), some (.inr (.inr (28, y2))), some (.inl x3), none, none]) rfl ?_
      exact hK _ rfl
    · replace h := g_neg hb186 h
      obtain ⟨hc, h⟩ := g_if h
      refine m_blk C0 (pX9_ok rfl) kX9_isSign_ok 17 13 (48, [some (.inr (.inr (5, 0))), some (.inl x1), some (.inr (.inr (28, y2))), some (.inl x3), some (.inl x4), some (.inl x5)], [.inl (mw ((σ 28 y2 x5.toNat) * x4)), .inl (σ 28 y2 ((σ 12 x5.toNat x3.toNat).toNat))], σ) (Ps := [0 ≤ x5 ∧ x5 < 48, 0 ≤ x3 ∧ x3 < 4, 0 ≤ (σ 12 x5.toNat x3.toNat) ∧ (σ 12 x5.toNat x3.toNat) < 48, 0 ≤ x5 ∧ x5 < 48]) rfl (And.intro hc.1 (And.intro hc.2.1 (And.intro hc.2.2 (And.intro hc.1 trivial)))) ?_
      refine b_ieq C0 kX9_isSign_ok 30 (off := 5) (tgt := 53) rfl (by decide) (fun hb185 => ?_) (fun hb185 => ?_)
      · replace h := g_pos hb185 h
        refine m_blk C0 (pX9_ok rfl) kX9_isSign_ok 33 2 (21, [some (.inr (.inr (5, 0))), some (.inl x1), some (.inr (.inr (28, y2))), some (.inl x3), some (.inl x4), some (.inl (mw (x5 + 1)))], [], σ) (Ps := []) rfl trivial ?_
        refine m_mask [true, true, true, true, true, true] (ls' := [some (.inr (.inr (5, 0))), some (.inl x1), some (.inr (.inr (28, y2))), some (.inl x3), some (.inl x4), some (.inl (mw (x5 + 1)))]) rfl ?_
        exact IH _ _ _ _ _ _ _ h hX hK
      · replace h := g_neg hb185 h
        refine m_blk C0 (pX9_ok rfl) kX9_isSign_ok 31 1 (52, [some (.inr (.inr (5, 0))), some (.inl x1), some (.inr (.inr (28, y2))), some (.inl x3), some (.inl x4), some (.inl x5)], [.inl 0], σ) (Ps := []) rfl trivial ?_
        cases h
        exact m_iret C0 (hX _ _ rfl) (k_at kX9_isSign_ok 32 rfl) (Or.inr ⟨rfl, by decide⟩)
set_option maxRecDepth 100000 in
set_option maxHeartbeats 4000000 in
theorem p_X9_isSign_r28_2 {e : mEv} (hG : mGeo (mw0 e) lw_kept) (N : Nat) {f : mFx} (C0 : mCx f (mw0 e) sc0 cX9_isSign 6 RX9 lw_kept) (hFr : mFr f 1) : ∀ (n : Nat) (x1 : Int) (y2 : Nat) (x3 : Int) (σ : mS) (out : (Int × mS) ⊕ (mS)), L_X9_isSign_r28_2 N n x1 y2 x3 σ = some out → (∀ v s, out = .inl (v, s) → mFin f (mw0 e) (some .boolean) (some (.inl v)) s) → (∀  (s : mS), out = .inr s → mWW f (mw0 e) sc0 6 (65, [none, none, none, none, none, none], [], s)) → mWW f (mw0 e) sc0 6 (2, [some (.inr (.inr (5, 0))), some (.inl x1), some (.inr (.inr (28, y2))), some (.inl x3), none, none], [], σ) := by
  intro n
  induction n with
  | zero =>
    intro x1 y2 x3 σ out h hX hK
    cases h
  | succ n IH =>
    intro x1 y2 x3 σ out h hX hK
    rw [L_X9_isSign_r28_2_s] at h
    refine m_blk C0 (pX9_ok rfl) kX9_isSign_ok 2 3 (7, [some (.inr (.inr (5, 0))), some (.inl x1), some (.inr (.inr (28, y2))), some (.inl x3), none, none], [.inl (σ 5 0 1), .inl x3], σ) (Ps := []) rfl trivial ?_
    refine b_ige C0 kX9_isSign_ok 5 (off := 58) (tgt := 65) rfl (by decide) (fun hb192 => ?_) (fun hb192 => ?_)
    · replace h := g_pos hb192 h
      cases h
      refine m_mask [false, false, false, false, false, false] (ls' := [none, none, none, none, none, none]) rfl ?_
      exact hK _ rfl
    · replace h := g_neg hb192 h
      refine m_blk C0 (pX9_ok rfl) kX9_isSign_ok 6 3 (13, [some (.inr (.inr (5, 0))), some (.inl x1), some (.inr (.inr (28, y2))), some (.inl x3), none, none], [.inl x3, .inl x1, .inr (.inr (5, 0))], σ) (Ps := []) rfl trivial ?_
      obtain ⟨⟨v184, s183⟩, hq191, h⟩ := g_bind h
      refine c_S (rest := []) C0 hFr (t_X9_given hG f.2.1 N hq191) lk_X9_43 (k_at kX9_isSign_ok 9 rfl) rfl rfl rfl (by decide) (by decide) (Nat.le_of_ble_eq_true rfl) ?_
      refine m_blk C0 (pX9_ok rfl) kX9_isSign_ok 10 3 (21, [some (.inr (.inr (5, 0))), some (.inl x1), some (.inr (.inr (28, y2))), some (.inl x3), some (.inl v184), some (.inl 0)], [], s183) (Ps := []) rfl trivial ?_
      obtain ⟨o, hq188, h⟩ := g_bind h
      refine m_mask [true, true, true, true, true, true] (ls' := [some (.inr (.inr (5, 0))), some (.inl x1), some (.inr (.inr (28, y2))), some (.inl x3), some (.inl v184), some (.inl 0)]) rfl ?_
      rcases o with ⟨v189, s190⟩ | s187
      · cases h
        exact p_X9_isSign_r28_21 hG N C0 hFr N _ _ _ _ _ _ _ hq188 (fun v s e => by cases e; exact hX _ _ rfl) (fun _ e => by cases e)
      · refine p_X9_isSign_r28_21 hG N C0 hFr N _ _ _ _ _ _ _ hq188 (fun v s e => by cases e) (fun _ e => ?_)
        cases e
        refine m_blk C0 (pX9_ok rfl) kX9_isSign_ok 35 2 (2, [some (.inr (.inr (5, 0))), some (.inl x1), some (.inr (.inr (28, y2))), some (.inl (mw (x3 + 1))), none, none], [], s187) (Ps := []) rfl trivial ?_
        refine m_mask [true, true, true, true, false, false] (ls' := [some (.inr (.inr (5, 0))), some (.inl x1), some (.inr (.inr (28, y2))), some (.inl (mw (x3 + 1))), none, none]) rfl ?_
        exact IH _ _ _ _ _ h hX hK
set_option maxRecDepth 100000 in
set_option maxHeartbeats 4000000 in
theorem t_X9_isSign_r28 {e : mEv} (hG : mGeo (mw0 e) lw_kept) (l : Launch) (N : Nat) {a1 : Int} {q2 : Nat} {σ σ' : mS} {v : Int} (h : f_X9_isSign_r28 N a1 q2 σ = some (v, σ')) : mMet l (mw0 e) lw_kept 1 yX9_isSign cX9_isSign 6 (some .boolean) [.inr (.inr (5, 0)), .inl a1, .inr (.inr (28, q2))] σ (some (.inl v)) σ' := by
  refine mMet_intro (plainFor_of_name (by decide)) hG (Nat.le_of_ble_eq_true rfl) (fun f hl hR C0 hFin => ?_)
  subst hl
  have hFr := mFr_of hR hFin
  unfold f_X9_isSign_r28 at h
  show mWW f (mw0 e) sc0 6 (0, [some (.inr (.inr (5, 0))), some (.inl a1), some (.inr (.inr (28, q2))), none, none, none], [], σ)
  refine m_blk C0 (pX9_ok rfl) kX9_isSign_ok 0 2 (2, [some (.inr (.inr (5, 0))), some (.inl a1), some (.inr (.inr (28, q2))), some (.inl 0), none, none], [], σ) (Ps := []) rfl trivial ?_
  obtain ⟨o, hq194, h⟩ := g_bind h
  refine m_mask [true, true, true, true, false, false] (ls' := [some (.inr (.inr (5, 0))), some (.inl a1), some (.inr (.inr (28, q2))), some (.inl 0), none, none]) rfl ?_
  rcases o with ⟨v195, s196⟩ | s193
  · cases h
    exact p_X9_isSign_r28_2 hG N C0 hFr N _ _ _ _ _ hq194 (fun v s e => by cases e; exact hFin) (fun _ e => by cases e)
  · refine p_X9_isSign_r28_2 hG N C0 hFr N _ _ _ _ _ hq194 (fun v s e => by cases e) (fun _ e => ?_)
    cases e
    refine m_blk C0 (pX9_ok rfl) kX9_isSign_ok 37 1 (66, [none, none, none, none, none, none], [.inl 1], s193) (Ps := []) rfl trivial ?_
    cases h
    exact m_iret C0 hFin (k_at kX9_isSign_ok 38 rfl) (Or.inr ⟨rfl, by decide⟩)
set_option maxRecDepth 100000 in
set_option maxHeartbeats 4000000 in
theorem p_X9_makeOf_7 {e : mEv} (hG : mGeo (mw0 e) lw_kept) (N : Nat) {f : mFx} (C0 : mCx f (mw0 e) sc0 cX9_makeOf 3 RX9 lw_kept) (hFr : mFr f 2) : ∀ (n : Nat) (x2 : Int) (σ : mS) (σ' : mS), L_X9_makeOf_7 N n x2 σ = some σ' → mWW f (mw0 e) sc0 3 (73, [none, none, none], [], σ') → mWW f (mw0 e) sc0 3 (7, [some (.inr (.inr (26, 0))), some (.inr (.inr (5, 0))), some (.inl x2)], [], σ) := by
  intro n
  induction n with
  | zero =>
    intro x2 σ σ' h hK
    cases h
  | succ n IH =>
    intro x2 σ σ' h hK
    rw [L_X9_makeOf_7_s] at h
    refine m_blk C0 (pX9_ok rfl) kX9_makeOf_ok 5 5 (14, [some (.inr (.inr (26, 0))), some (.inr (.inr (5, 0))), some (.inl x2)], [.inl (o_shl 1 (σ 5 0 1)), .inl x2], σ) (Ps := []) rfl trivial ?_
    refine b_ige C0 kX9_makeOf_ok 10 (off := 59) (tgt := 73) rfl (by decide) (fun hb203 => ?_) (fun hb203 => ?_)
    · replace h := g_pos hb203 h
      cases h
      refine m_mask [false, false, false] (ls' := [none, none, none]) rfl ?_
      exact hK
    · replace h := g_neg hb203 h
      refine m_blk C0 (pX9_ok rfl) kX9_makeOf_ok 11 3 (23, [some (.inr (.inr (26, 0))), some (.inr (.inr (5, 0))), some (.inl x2)], [.inl 16, .inl (σ 26 0 0)], σ) (Ps := []) rfl trivial ?_
      refine b_ige C0 kX9_makeOf_ok 14 (off := 50) (tgt := 73) rfl (by decide) (fun hb202 => ?_) (fun hb202 => ?_)
      · replace h := g_pos hb202 h
        cases h
        refine m_mask [false, false, false] (ls' := [none, none, none]) rfl ?_
        exact hK
      · replace h := g_neg hb202 h
        obtain ⟨hc, h⟩ := g_if h
        refine m_blk C0 (pX9_ok rfl) kX9_makeOf_ok 15 7 (37, [some (.inr (.inr (26, 0))), some (.inr (.inr (5, 0))), some (.inl x2)], [.inr (.inr (28, (σ 26 0 0).toNat)), .inl x2, .inr (.inr (5, 0))], σ) (Ps := [0 ≤ (σ 26 0 0) ∧ (σ 26 0 0) < 16]) rfl (And.intro hc trivial) ?_
        obtain ⟨s182, hq201, h⟩ := g_bind h
        refine c_S (rest := []) C0 hFr (t_X9_fillRow_r28 hG f.2.1 N hq201) lk_X9_25 (k_at kX9_makeOf_ok 22 rfl) rfl rfl rfl (by decide) (by decide) (Nat.le_of_ble_eq_true rfl) ?_
        obtain ⟨hc, h⟩ := g_if h
        refine m_blk C0 (pX9_ok rfl) kX9_makeOf_ok 23 7 (51, [some (.inr (.inr (26, 0))), some (.inr (.inr (5, 0))), some (.inl x2)], [.inr (.inr (28, (s182 26 0 0).toNat)), .inl x2, .inr (.inr (5, 0))], s182) (Ps := [0 ≤ (s182 26 0 0) ∧ (s182 26 0 0) < 16]) rfl (And.intro hc trivial) ?_
        obtain ⟨⟨v198, s197⟩, hq200, h⟩ := g_bind h
        refine c_S (rest := []) C0 hFr (t_X9_isSign_r28 hG f.2.1 N hq200) lk_X9_29 (k_at kX9_makeOf_ok 30 rfl) rfl rfl rfl (by decide) (by decide) (Nat.le_of_ble_eq_true rfl) ?_
        refine b_eq C0 kX9_makeOf_ok 31 (off := 13) (tgt := 67) rfl (by decide) (fun hb199 => ?_) (fun hb199 => ?_)
        · replace h := g_pos hb199 h
          refine m_blk C0 (pX9_ok rfl) kX9_makeOf_ok 38 2 (7, [some (.inr (.inr (26, 0))), some (.inr (.inr (5, 0))), some (.inl (mw (x2 + 1)))], [], s197) (Ps := []) rfl trivial ?_
          refine m_mask [true, true, true] (ls' := [some (.inr (.inr (26, 0))), some (.inr (.inr (5, 0))), some (.inl (mw (x2 + 1)))]) rfl ?_
          exact IH _ _ _ h hK
        · replace h := g_neg hb199 h
          refine m_blk C0 (pX9_ok rfl) kX9_makeOf_ok 32 6 (67, [some (.inr (.inr (26, 0))), some (.inr (.inr (5, 0))), some (.inl x2)], [], (mup s197 26 0 0 (mw ((s197 26 0 0) + 1)))) (Ps := []) rfl trivial ?_
          refine m_blk C0 (pX9_ok rfl) kX9_makeOf_ok 38 2 (7, [some (.inr (.inr (26, 0))), some (.inr (.inr (5, 0))), some (.inl (mw (x2 + 1)))], [], (mup s197 26 0 0 (mw ((s197 26 0 0) + 1)))) (Ps := []) rfl trivial ?_
          refine m_mask [true, true, true] (ls' := [some (.inr (.inr (26, 0))), some (.inr (.inr (5, 0))), some (.inl (mw (x2 + 1)))]) rfl ?_
          exact IH _ _ _ h hK
set_option maxRecDepth 100000 in
set_option maxHeartbeats 4000000 in
theorem t_X9_makeOf {e : mEv} (hG : mGeo (mw0 e) lw_kept) (l : Launch) (N : Nat) {σ σ' : mS} (h : f_X9_makeOf N σ = some σ') : mMet l (mw0 e) lw_kept 2 yX9_makeOf cX9_makeOf 3 none [.inr (.inr (26, 0)), .inr (.inr (5, 0))] σ none σ' := by
  refine mMet_intro (plainFor_of_name (by decide)) hG (Nat.le_of_ble_eq_true rfl) (fun f hl hR C0 hFin => ?_)
  subst hl
  have hFr := mFr_of hR hFin
  unfold f_X9_makeOf at h
  show mWW f (mw0 e) sc0 3 (0, [some (.inr (.inr (26, 0))), some (.inr (.inr (5, 0))), none], [], σ)
  refine m_blk C0 (pX9_ok rfl) kX9_makeOf_ok 0 3 (5, [some (.inr (.inr (26, 0))), some (.inr (.inr (5, 0))), none], [], (mup σ 26 0 0 0)) (Ps := []) rfl trivial ?_
  refine m_blk C0 (pX9_ok rfl) kX9_makeOf_ok 3 2 (7, [some (.inr (.inr (26, 0))), some (.inr (.inr (5, 0))), some (.inl 0)], [], (mup σ 26 0 0 0)) (Ps := []) rfl trivial ?_
  obtain ⟨s204, hq205, h⟩ := g_bind h
  refine m_mask [true, true, true] (ls' := [some (.inr (.inr (26, 0))), some (.inr (.inr (5, 0))), some (.inl 0)]) rfl ?_
  refine p_X9_makeOf_7 hG N C0 hFr N _ _ _ hq205 ?_
  cases h
  exact m_vret C0 hFin (k_at kX9_makeOf_ok 40 rfl)
set_option maxRecDepth 100000 in
set_option maxHeartbeats 4000000 in
theorem t_X0_forget {e : mEv} (hG : mGeo (mw0 e) lw_kept) (l : Launch) (N : Nat) {σ σ' : mS} (h : f_X0_forget N σ = some σ') : mMet l (mw0 e) lw_kept 0 yX0_forget cX0_forget 1 none [.inr (.inr (42, 0))] σ none σ' := by
  refine mMet_intro (plainFor_of_name (by decide)) hG (Nat.le_of_ble_eq_true rfl) (fun f hl hR C0 hFin => ?_)
  subst hl
  have hFr := mFr_of hR hFin
  unfold f_X0_forget at h
  show mWW f (mw0 e) sc0 1 (0, [some (.inr (.inr (42, 0)))], [], σ)
  refine m_blk C0 (pX0_ok rfl) kX0_forget_ok 0 3 (5, [some (.inr (.inr (42, 0)))], [], (mup σ 42 0 1 0)) (Ps := [(0 : Int) = 0 ∨ (0 : Int) = 1]) rfl (And.intro (by decide) trivial) ?_
  cases h
  exact m_vret C0 hFin (k_at kX0_forget_ok 3 rfl)
set_option maxRecDepth 100000 in
set_option maxHeartbeats 4000000 in
theorem t_X11_makeGroup {e : mEv} (hG : mGeo (mw0 e) lw_kept) (l : Launch) (N : Nat) {σ σ' : mS} (h : f_X11_makeGroup N σ = some σ') : mMet l (mw0 e) lw_kept 5 yX11_makeGroup cX11_makeGroup 1 none [.inr (.inr (0, 0))] σ none σ' := by
  refine mMet_intro (plainFor_of_name (by decide)) hG (Nat.le_of_ble_eq_true rfl) (fun f hl hR C0 hFin => ?_)
  subst hl
  have hFr := mFr_of hR hFin
  unfold f_X11_makeGroup at h
  show mWW f (mw0 e) sc0 1 (0, [some (.inr (.inr (0, 0)))], [], σ)
  refine m_blk C0 (pX11_ok rfl) kX11_makeGroup_ok 0 4 (8, [some (.inr (.inr (0, 0)))], [.inr (.inr (1, 0)), .inr (.inr (5, 0))], σ) (Ps := []) rfl trivial ?_
  obtain ⟨s174, hq210, h⟩ := g_bind h
  refine c_V (rest := []) C0 hFr (t_X1_makeOf hG f.2.1 N hq210) lk_X11_68 (k_at kX11_makeGroup_ok 4 rfl) rfl rfl rfl rfl ⟨_, _, rfl⟩ (by decide) (by decide) (Nat.le_of_ble_eq_true rfl) ?_
  refine m_blk C0 (pX11_ok rfl) kX11_makeGroup_ok 5 4 (19, [some (.inr (.inr (0, 0)))], [.inr (.inr (5, 0)), .inr (.inr (26, 0))], s174) (Ps := []) rfl trivial ?_
  obtain ⟨s206, hq209, h⟩ := g_bind h
  refine c_V (rest := []) C0 hFr (t_X9_makeOf hG f.2.1 N hq209) lk_X11_72 (k_at kX11_makeGroup_ok 9 rfl) rfl rfl rfl rfl ⟨_, _, rfl⟩ (by decide) (by decide) (Nat.le_of_ble_eq_true rfl) ?_
  refine m_blk C0 (pX11_ok rfl) kX11_makeGroup_ok 10 2 (26, [some (.inr (.inr (0, 0)))], [.inr (.inr (42, 0))], s206) (Ps := []) rfl trivial ?_
  obtain ⟨s207, hq208, h⟩ := g_bind h
  refine c_V (rest := []) C0 hFr (t_X0_forget hG f.2.1 N hq208) lk_X11_75 (k_at kX11_makeGroup_ok 12 rfl) rfl rfl rfl rfl ⟨_, _, rfl⟩ (by decide) (by decide) (Nat.le_of_ble_eq_true rfl) ?_
  cases h
  exact m_vret C0 hFin (k_at kX11_makeGroup_ok 13 rfl)
set_option maxRecDepth 100000 in
set_option maxHeartbeats 4000000 in
theorem t_X11_group {e : mEv} (hG : mGeo (mw0 e) lw_kept) (l : Launch) (N : Nat) {σ σ' : mS} {v : Int} (h : f_X11_group N σ = some (v, σ')) : mMet l (mw0 e) lw_kept 6 yX11_group cX11_group 1 (some .int) [.inr (.inr (0, 0))] σ (some (.inl v)) σ' := by
  refine mMet_intro (plainFor_of_name (by decide)) hG (Nat.le_of_ble_eq_true rfl) (fun f hl hR C0 hFin => ?_)
  subst hl
  have hFr := mFr_of hR hFin
  unfold f_X11_group at h
  show mWW f (mw0 e) sc0 1 (0, [some (.inr (.inr (0, 0)))], [], σ)
  refine m_blk C0 (pX11_ok rfl) kX11_group_ok 0 1 (1, [some (.inr (.inr (0, 0)))], [.inr (.inr (0, 0))], σ) (Ps := []) rfl trivial ?_
  obtain ⟨s211, hq212, h⟩ := g_bind h
  refine c_V (rest := []) C0 hFr (t_X11_makeGroup hG f.2.1 N hq212) lk_X11_65 (k_at kX11_group_ok 1 rfl) rfl rfl rfl rfl ⟨_, _, rfl⟩ (by decide) (by decide) (Nat.le_of_ble_eq_true rfl) ?_
  refine m_blk C0 (pX11_ok rfl) kX11_group_ok 2 3 (11, [some (.inr (.inr (0, 0)))], [.inl (s211 5 0 0)], s211) (Ps := []) rfl trivial ?_
  cases h
  exact m_iret C0 hFin (k_at kX11_group_ok 5 rfl) (Or.inl rfl)
set_option maxRecDepth 100000 in
set_option maxHeartbeats 4000000 in
theorem p_X1_kind_4 {e : mEv} (hG : mGeo (mw0 e) lw_kept) (N : Nat) {f : mFx} (C0 : mCx f (mw0 e) sc0 cX1_kind 3 RX1 lw_kept) (hFr : mFr f 0) : ∀ (n : Nat) (x1 : Int) (x2 : Int) (σ : mS) (out : (Int × mS) ⊕ (Int × mS)), L_X1_kind_4 N n x1 x2 σ = some out → (∀ v s, out = .inl (v, s) → mFin f (mw0 e) (some .int) (some (.inl v)) s) → (∀ (o1 : Int) (s : mS), out = .inr (o1, s) → mWW f (mw0 e) sc0 3 (76, [none, some (.inl o1), none], [], s)) → mWW f (mw0 e) sc0 3 (4, [some (.inr (.inr (5, 0))), some (.inl x1), some (.inl x2)], [], σ) := by
  intro n
  induction n with
  | zero =>
    intro x1 x2 σ out h hX hK
    cases h
  | succ n IH =>
    intro x1 x2 σ out h hX hK
    rw [L_X1_kind_4_s] at h
    refine m_blk C0 (pX1_ok rfl) kX1_kind_ok 4 3 (9, [some (.inr (.inr (5, 0))), some (.inl x1), some (.inl x2)], [.inl (σ 5 0 0), .inl x2], σ) (Ps := []) rfl trivial ?_
    refine b_ige C0 kX1_kind_ok 7 (off := 67) (tgt := 76) rfl (by decide) (fun hb218 => ?_) (fun hb218 => ?_)
    · replace h := g_pos hb218 h
      cases h
      refine m_mask [false, true, false] (ls' := [none, some (.inl x1), none]) rfl ?_
      exact hK _ _ rfl
    · replace h := g_neg hb218 h
      obtain ⟨hc, h⟩ := g_if h
      refine m_blk C0 (pX1_ok rfl) kX1_kind_ok 8 6 (22, [some (.inr (.inr (5, 0))), some (.inl x1), some (.inl x2)], [.inl (σ 5 0 0), .inl (σ 18 0 x2.toNat)], σ) (Ps := [0 ≤ x2 ∧ x2 < 48]) rfl (And.intro hc trivial) ?_
      refine b_ine C0 kX1_kind_ok 14 (off := 5) (tgt := 27) rfl (by decide) (fun hb217 => ?_) (fun hb217 => ?_)
      · replace h := g_neg hb217 h
        refine m_blk C0 (pX1_ok rfl) kX1_kind_ok 17 1 (28, [some (.inr (.inr (5, 0))), some (.inl x1), some (.inl x2)], [.inl x1], σ) (Ps := []) rfl trivial ?_
        refine b_ne C0 kX1_kind_ok 18 (off := 36) (tgt := 64) rfl (by decide) (fun hb216 => ?_) (fun hb216 => ?_)
        · replace h := g_neg hb216 h
          refine m_blk C0 (pX1_ok rfl) kX1_kind_ok 40 2 (69, [some (.inr (.inr (5, 0))), some (.inl x1), some (.inl x2)], [.inl 1], σ) (Ps := []) rfl trivial ?_
          refine m_blk C0 (pX1_ok rfl) kX1_kind_ok 43 3 (4, [some (.inr (.inr (5, 0))), some (.inl 1), some (.inl (mw (x2 + 1)))], [], σ) (Ps := []) rfl trivial ?_
          refine m_mask [true, true, true] (ls' := [some (.inr (.inr (5, 0))), some (.inl 1), some (.inl (mw (x2 + 1)))]) rfl ?_
          exact IH _ _ _ _ h hX hK
        · replace h := g_pos hb216 h
          obtain ⟨hc, h⟩ := g_if h
          refine m_blk C0 (pX1_ok rfl) kX1_kind_ok 19 6 (39, [some (.inr (.inr (5, 0))), some (.inl x1), some (.inl x2)], [.inl (σ 7 x2.toNat 0)], σ) (Ps := [0 ≤ x2 ∧ x2 < 48, 0 ≤ (0 : Int) ∧ (0 : Int) < 3]) rfl (And.intro hc (And.intro (by decide) trivial)) ?_
          refine b_lt C0 kX1_kind_ok 25 (off := 25) (tgt := 64) rfl (by decide) (fun hb215 => ?_) (fun hb215 => ?_)
          · replace h := g_pos hb215 h
            refine m_blk C0 (pX1_ok rfl) kX1_kind_ok 40 2 (69, [some (.inr (.inr (5, 0))), some (.inl x1), some (.inl x2)], [.inl 1], σ) (Ps := []) rfl trivial ?_
            refine m_blk C0 (pX1_ok rfl) kX1_kind_ok 43 3 (4, [some (.inr (.inr (5, 0))), some (.inl 1), some (.inl (mw (x2 + 1)))], [], σ) (Ps := []) rfl trivial ?_
            refine m_mask [true, true, true] (ls' := [some (.inr (.inr (5, 0))), some (.inl 1), some (.inl (mw (x2 + 1)))]) rfl ?_
            exact IH _ _ _ _ h hX hK
          · replace h := g_neg hb215 h
            obtain ⟨hc, h⟩ := g_if h
            refine m_blk C0 (pX1_ok rfl) kX1_kind_ok 26 6 (50, [some (.inr (.inr (5, 0))), some (.inl x1), some (.inl x2)], [.inl (σ 7 x2.toNat 1)], σ) (Ps := [0 ≤ x2 ∧ x2 < 48, 0 ≤ (1 : Int) ∧ (1 : Int) < 3]) rfl (And.intro hc (And.intro (by decide) trivial)) ?_
            refine b_lt C0 kX1_kind_ok 32 (off := 14) (tgt := 64) rfl (by decide) (fun hb214 => ?_) (fun hb214 => ?_)
            · replace h := g_pos hb214 h
              refine m_blk C0 (pX1_ok rfl) kX1_kind_ok 40 2 (69, [some (.inr (.inr (5, 0))), some (.inl x1), some (.inl x2)], [.inl 1], σ) (Ps := []) rfl trivial ?_
              refine m_blk C0 (pX1_ok rfl) kX1_kind_ok 43 3 (4, [some (.inr (.inr (5, 0))), some (.inl 1), some (.inl (mw (x2 + 1)))], [], σ) (Ps := []) rfl trivial ?_
              refine m_mask [true, true, true] (ls' := [some (.inr (.inr (5, 0))), some (.inl 1), some (.inl (mw (x2 + 1)))]) rfl ?_
              exact IH _ _ _ _ h hX hK
            · replace h := g_neg hb214 h
              obtain ⟨hc, h⟩ := g_if h
              refine m_blk C0 (pX1_ok rfl) kX1_kind_ok 33 6 (61, [some (.inr (.inr (5, 0))), some (.inl x1), some (.inl x2)], [.inl (σ 7 x2.toNat 2)], σ) (Ps := [0 ≤ x2 ∧ x2 < 48, 0 ≤ (2 : Int) ∧ (2 : Int) < 3]) rfl (And.intro hc (And.intro (by decide) trivial)) ?_
              refine b_ge C0 kX1_kind_ok 39 (off := 7) (tgt := 68) rfl (by decide) (fun hb213 => ?_) (fun hb213 => ?_)
              · replace h := g_pos hb213 h
                refine m_blk C0 (pX1_ok rfl) kX1_kind_ok 42 4 (4, [some (.inr (.inr (5, 0))), some (.inl 0), some (.inl (mw (x2 + 1)))], [], σ) (Ps := []) rfl trivial ?_
                refine m_mask [true, true, true] (ls' := [some (.inr (.inr (5, 0))), some (.inl 0), some (.inl (mw (x2 + 1)))]) rfl ?_
                exact IH _ _ _ _ h hX hK
              · replace h := g_neg hb213 h
                refine m_blk C0 (pX1_ok rfl) kX1_kind_ok 40 2 (69, [some (.inr (.inr (5, 0))), some (.inl x1), some (.inl x2)], [.inl 1], σ) (Ps := []) rfl trivial ?_
                refine m_blk C0 (pX1_ok rfl) kX1_kind_ok 43 3 (4, [some (.inr (.inr (5, 0))), some (.inl 1), some (.inl (mw (x2 + 1)))], [], σ) (Ps := []) rfl trivial ?_
                refine m_mask [true, true, true] (ls' := [some (.inr (.inr (5, 0))), some (.inl 1), some (.inl (mw (x2 + 1)))]) rfl ?_
                exact IH _ _ _ _ h hX hK
      · replace h := g_pos hb217 h
        refine m_blk C0 (pX1_ok rfl) kX1_kind_ok 15 1 (26, [some (.inr (.inr (5, 0))), some (.inl x1), some (.inl x2)], [.inl 0], σ) (Ps := []) rfl trivial ?_
        cases h
        exact m_iret C0 (hX _ _ rfl) (k_at kX1_kind_ok 16 rfl) (Or.inl rfl)
set_option maxRecDepth 100000 in
set_option maxHeartbeats 4000000 in
theorem t_X1_kind {e : mEv} (hG : mGeo (mw0 e) lw_kept) (l : Launch) (N : Nat) {σ σ' : mS} {v : Int} (h : f_X1_kind N σ = some (v, σ')) : mMet l (mw0 e) lw_kept 0 yX1_kind cX1_kind 3 (some .int) [.inr (.inr (5, 0))] σ (some (.inl v)) σ' := by
  refine mMet_intro (plainFor_of_name (by decide)) hG (Nat.le_of_ble_eq_true rfl) (fun f hl hR C0 hFin => ?_)
  subst hl
  have hFr := mFr_of hR hFin
  unfold f_X1_kind at h
  show mWW f (mw0 e) sc0 3 (0, [some (.inr (.inr (5, 0))), none, none], [], σ)
  refine m_blk C0 (pX1_ok rfl) kX1_kind_ok 0 4 (4, [some (.inr (.inr (5, 0))), some (.inl 0), some (.inl 0)], [], σ) (Ps := []) rfl trivial ?_
  obtain ⟨o, hq222, h⟩ := g_bind h
  refine m_mask [true, true, true] (ls' := [some (.inr (.inr (5, 0))), some (.inl 0), some (.inl 0)]) rfl ?_
  rcases o with ⟨v223, s224⟩ | ⟨o220, s219⟩
  · cases h
    exact p_X1_kind_4 hG N C0 hFr N _ _ _ _ hq222 (fun v s e => by cases e; exact hFin) (fun _ _ e => by cases e)
  · refine p_X1_kind_4 hG N C0 hFr N _ _ _ _ hq222 (fun v s e => by cases e) (fun _ _ e => ?_)
    cases e
    refine m_blk C0 (pX1_ok rfl) kX1_kind_ok 46 1 (77, [none, some (.inl o220), none], [.inl o220], s219) (Ps := []) rfl trivial ?_
    refine b_eq C0 kX1_kind_ok 47 (off := 7) (tgt := 84) rfl (by decide) (fun hb221 => ?_) (fun hb221 => ?_)
    · replace h := g_pos hb221 h
      refine m_blk C0 (pX1_ok rfl) kX1_kind_ok 50 1 (85, [none, some (.inl o220), none], [.inl 1], s219) (Ps := []) rfl trivial ?_
      cases h
      exact m_iret C0 hFin (k_at kX1_kind_ok 51 rfl) (Or.inl rfl)
    · replace h := g_neg hb221 h
      refine m_blk C0 (pX1_ok rfl) kX1_kind_ok 48 2 (85, [none, some (.inl o220), none], [.inl 2], s219) (Ps := []) rfl trivial ?_
      cases h
      exact m_iret C0 hFin (k_at kX1_kind_ok 51 rfl) (Or.inl rfl)
