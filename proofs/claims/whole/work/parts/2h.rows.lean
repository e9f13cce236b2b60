set_option maxRecDepth 100000 in
set_option maxHeartbeats 4000000 in
theorem t_X11_series {e : mEv} (hG : mGeo (mw0 e) lw_kept) (l : Launch) (N : Nat) {a1 : Int} {a2 : Int} {σ σ' : mS} {v : Int} (h : f_X11_series N a1 a2 σ = some (v, σ')) : mMet l (mw0 e) lw_kept 5 yX11_series cX11_series 3 (some .int) [.inr (.inr (0, 0)), .inl a1, .inl a2] σ (some (.inl v)) σ' := by
  refine mMet_intro (plainFor_of_name (by decide)) hG (Nat.le_of_ble_eq_true rfl) (fun f hl hR C0 hFin => ?_)
  subst hl
  have hFr := mFr_of hR hFin
  unfold f_X11_series at h
  show mWW f (mw0 e) sc0 3 (0, [some (.inr (.inr (0, 0))), some (.inl a1), some (.inl a2)], [], σ)
  refine m_blk C0 (pX11_ok rfl) kX11_series_ok 0 1 (1, [some (.inr (.inr (0, 0))), some (.inl a1), some (.inl a2)], [.inl a1], σ) (Ps := []) rfl trivial ?_
  refine b_lt C0 kX11_series_ok 1 (off := 21) (tgt := 22) rfl (by decide) (fun hb790 => ?_) (fun hb790 => ?_)
  · replace h := g_pos hb790 h
    refine m_blk C0 (pX11_ok rfl) kX11_series_ok 10 1 (23, [some (.inr (.inr (0, 0))), some (.inl a1), some (.inl a2)], [.inl (-1)], σ) (Ps := []) rfl trivial ?_
    cases h
    exact m_iret C0 hFin (k_at kX11_series_ok 11 rfl) (Or.inl rfl)
  · replace h := g_neg hb790 h
    refine m_blk C0 (pX11_ok rfl) kX11_series_ok 2 2 (8, [some (.inr (.inr (0, 0))), some (.inl a1), some (.inl a2)], [.inl 200, .inl a1], σ) (Ps := []) rfl trivial ?_
    refine b_igt C0 kX11_series_ok 4 (off := 14) (tgt := 22) rfl (by decide) (fun hb789 => ?_) (fun hb789 => ?_)
    · replace h := g_pos hb789 h
      refine m_blk C0 (pX11_ok rfl) kX11_series_ok 10 1 (23, [some (.inr (.inr (0, 0))), some (.inl a1), some (.inl a2)], [.inl (-1)], σ) (Ps := []) rfl trivial ?_
      cases h
      exact m_iret C0 hFin (k_at kX11_series_ok 11 rfl) (Or.inl rfl)
    · replace h := g_neg hb789 h
      refine m_blk C0 (pX11_ok rfl) kX11_series_ok 5 3 (16, [some (.inr (.inr (0, 0))), some (.inl a1), some (.inl a2)], [.inl a2, .inr (.inr (26, 0))], σ) (Ps := []) rfl trivial ?_
      obtain ⟨⟨v762, s761⟩, hq788, h⟩ := g_bind h
      refine c_V (rest := []) C0 hFr (t_X9_has hG f.2.1 N hq788) lk_X11_142 (k_at kX11_series_ok 8 rfl) rfl rfl rfl rfl ⟨_, _, rfl⟩ (by decide) (by decide) (Nat.le_of_ble_eq_true rfl) ?_
      refine b_ne C0 kX11_series_ok 9 (off := 5) (tgt := 24) rfl (by decide) (fun hb787 => ?_) (fun hb787 => ?_)
      · replace h := g_neg hb787 h
        obtain ⟨hc, h⟩ := g_if h
        refine m_blk C0 (pX11_ok rfl) kX11_series_ok 12 10 (42, [some (.inr (.inr (0, 0))), some (.inl a1), some (.inl a2)], [.inr (.inr (28, a2.toNat)), .inr (.inr (5, 0)), .inl a1, .inr (.inr (29, 0))], s761) (Ps := [0 ≤ a2 ∧ a2 < 16]) rfl (And.intro hc trivial) ?_
        obtain ⟨⟨v785, s784⟩, hq786, h⟩ := g_bind h
        refine c_V (rest := []) C0 hFr (t_X4_at_r28 hG f.2.1 N hq786) lk_X11_189 (k_at kX11_series_ok 22 rfl) rfl rfl rfl rfl ⟨_, _, rfl⟩ (by decide) (by decide) (Nat.le_of_ble_eq_true rfl) ?_
        cases h
        exact m_iret C0 hFin (k_at kX11_series_ok 23 rfl) (Or.inl rfl)
      · replace h := g_pos hb787 h
        refine m_blk C0 (pX11_ok rfl) kX11_series_ok 10 1 (23, [some (.inr (.inr (0, 0))), some (.inl a1), some (.inl a2)], [.inl (-1)], s761) (Ps := []) rfl trivial ?_
        cases h
        exact m_iret C0 hFin (k_at kX11_series_ok 11 rfl) (Or.inl rfl)
set_option maxRecDepth 100000 in
set_option maxHeartbeats 4000000 in
theorem t_X0_has {e : mEv} (hG : mGeo (mw0 e) lw_kept) (l : Launch) (N : Nat) {a1 : Int} {σ σ' : mS} {v : Int} (h : f_X0_has N a1 σ = some (v, σ')) : mMet l (mw0 e) lw_kept 0 yX0_has cX0_has 2 (some .boolean) [.inr (.inr (42, 0)), .inl a1] σ (some (.inl v)) σ' := by
  refine mMet_intro (plainFor_of_name (by decide)) hG (Nat.le_of_ble_eq_true rfl) (fun f hl hR C0 hFin => ?_)
  subst hl
  have hFr := mFr_of hR hFin
  unfold f_X0_has at h
  show mWW f (mw0 e) sc0 2 (0, [some (.inr (.inr (42, 0))), some (.inl a1)], [], σ)
  refine m_blk C0 (pX0_ok rfl) kX0_has_ok 0 1 (1, [some (.inr (.inr (42, 0))), some (.inl a1)], [.inl a1], σ) (Ps := []) rfl trivial ?_
  refine b_lt C0 kX0_has_ok 1 (off := 15) (tgt := 16) rfl (by decide) (fun hb795 => ?_) (fun hb795 => ?_)
  · replace h := g_pos hb795 h
    refine m_blk C0 (pX0_ok rfl) kX0_has_ok 8 1 (17, [some (.inr (.inr (42, 0))), some (.inl a1)], [.inl 0], σ) (Ps := []) rfl trivial ?_
    cases h
    exact m_iret C0 hFin (k_at kX0_has_ok 9 rfl) (Or.inr ⟨rfl, by decide⟩)
  · replace h := g_neg hb795 h
    refine m_blk C0 (pX0_ok rfl) kX0_has_ok 2 3 (9, [some (.inr (.inr (42, 0))), some (.inl a1)], [.inl (σ 42 0 0), .inl a1], σ) (Ps := []) rfl trivial ?_
    refine b_ige C0 kX0_has_ok 5 (off := 7) (tgt := 16) rfl (by decide) (fun hb794 => ?_) (fun hb794 => ?_)
    · replace h := g_pos hb794 h
      refine m_blk C0 (pX0_ok rfl) kX0_has_ok 8 1 (17, [some (.inr (.inr (42, 0))), some (.inl a1)], [.inl 0], σ) (Ps := []) rfl trivial ?_
      cases h
      exact m_iret C0 hFin (k_at kX0_has_ok 9 rfl) (Or.inr ⟨rfl, by decide⟩)
    · replace h := g_neg hb794 h
      refine m_blk C0 (pX0_ok rfl) kX0_has_ok 6 2 (17, [some (.inr (.inr (42, 0))), some (.inl a1)], [.inl 1], σ) (Ps := []) rfl trivial ?_
      cases h
      exact m_iret C0 hFin (k_at kX0_has_ok 9 rfl) (Or.inr ⟨rfl, by decide⟩)
set_option maxRecDepth 100000 in
set_option maxHeartbeats 4000000 in
theorem p_J7_fill_53178_r33_5 {e : mEv} (hG : mGeo (mw0 e) lw_kept) (N : Nat) {f : mFx} (C0 : mCx f (mw0 e) sc0 cJ7_fill_53178 4 RJ7 lw_kept) (hFr : mFr f 0) : ∀ (n : Nat) (y0 : Nat) (x1 : Int) (x2 : Int) (x3 : Int) (σ : mS) (σ' : mS), L_J7_fill_53178_r33_5 N n y0 x1 x2 x3 σ = some σ' → mWW f (mw0 e) sc0 4 (20, [none, none, none, none], [], σ') → mWW f (mw0 e) sc0 4 (5, [some (.inr (.inr (33, y0))), some (.inl x1), some (.inl x2), some (.inl x3)], [], σ) := by
  intro n
  induction n with
  | zero =>
    intro y0 x1 x2 x3 σ σ' h hK
    cases h
  | succ n IH =>
    intro y0 x1 x2 x3 σ σ' h hK
    rw [L_J7_fill_53178_r33_5_s] at h
    refine m_blk C0 (pJ7_ok rfl) kJ7_fill_53178_ok 5 2 (7, [some (.inr (.inr (33, y0))), some (.inl x1), some (.inl x2), some (.inl x3)], [.inl x3, .inl x2], σ) (Ps := []) rfl trivial ?_
    refine b_ige C0 kJ7_fill_53178_ok 7 (off := 13) (tgt := 20) rfl (by decide) (fun hb798 => ?_) (fun hb798 => ?_)
    · replace h := g_pos hb798 h
      cases h
      refine m_mask [false, false, false, false] (ls' := [none, none, none, none]) rfl ?_
      exact hK
    · replace h := g_neg hb798 h
      obtain ⟨hc, h⟩ := g_if h
      refine m_blk C0 (pJ7_ok rfl) kJ7_fill_53178_ok 8 4 (14, [some (.inr (.inr (33, y0))), some (.inl x1), some (.inl x2), some (.inl x3)], [], (mup σ 33 y0 x2.toNat x1)) (Ps := [0 ≤ x2 ∧ x2 < 165]) rfl (And.intro hc trivial) ?_
      refine m_blk C0 (pJ7_ok rfl) kJ7_fill_53178_ok 12 2 (5, [some (.inr (.inr (33, y0))), some (.inl x1), some (.inl (mw (x2 + 1))), some (.inl x3)], [], (mup σ 33 y0 x2.toNat x1)) (Ps := []) rfl trivial ?_
      refine m_mask [true, true, true, true] (ls' := [some (.inr (.inr (33, y0))), some (.inl x1), some (.inl (mw (x2 + 1))), some (.inl x3)]) rfl ?_
      exact IH _ _ _ _ _ _ h hK
set_option maxRecDepth 100000 in
set_option maxHeartbeats 4000000 in
theorem t_J7_fill_53178_r33 {e : mEv} (hG : mGeo (mw0 e) lw_kept) (l : Launch) (N : Nat) {q0 : Nat} {a1 : Int} {σ σ' : mS} (h : f_J7_fill_53178_r33 N q0 a1 σ = some σ') : mMet l (mw0 e) lw_kept 0 yJ7_fill_53178 cJ7_fill_53178 4 none [.inr (.inr (33, q0)), .inl a1] σ none σ' := by
  refine mMet_intro (by decide +kernel) hG (Nat.le_of_ble_eq_true rfl) (fun f hl hR C0 hFin => ?_)
  subst hl
  have hFr := mFr_of hR hFin
  unfold f_J7_fill_53178_r33 at h
  show mWW f (mw0 e) sc0 4 (0, [some (.inr (.inr (33, q0))), some (.inl a1), none, none], [], σ)
  refine m_blk C0 (pJ7_ok rfl) kJ7_fill_53178_ok 0 5 (5, [some (.inr (.inr (33, q0))), some (.inl a1), some (.inl 0), some (.inl 165)], [], σ) (Ps := []) rfl trivial ?_
  obtain ⟨s799, hq800, h⟩ := g_bind h
  refine m_mask [true, true, true, true] (ls' := [some (.inr (.inr (33, q0))), some (.inl a1), some (.inl 0), some (.inl 165)]) rfl ?_
  refine p_J7_fill_53178_r33_5 hG N C0 hFr N _ _ _ _ _ _ hq800 ?_
  cases h
  exact m_vret C0 hFin (k_at kJ7_fill_53178_ok 14 rfl)
set_option maxRecDepth 100000 in
set_option maxHeartbeats 4000000 in
theorem t_X0_copyInto_r33 {e : mEv} (hG : mGeo (mw0 e) lw_kept) (l : Launch) (N : Nat) {q1 : Nat} {a2 : Int} {σ σ' : mS} (h : f_X0_copyInto_r33 N q1 a2 σ = some σ') : mMet l (mw0 e) lw_kept 1 yX0_copyInto cX0_copyInto 4 none [.inr (.inr (42, 0)), .inr (.inr (33, q1)), .inl a2] σ none σ' := by
  refine mMet_intro (plainFor_of_name (by decide)) hG (Nat.le_of_ble_eq_true rfl) (fun f hl hR C0 hFin => ?_)
  subst hl
  have hFr := mFr_of hR hFin
  unfold f_X0_copyInto_r33 at h
  show mWW f (mw0 e) sc0 4 (0, [some (.inr (.inr (42, 0))), some (.inr (.inr (33, q1))), some (.inl a2), none], [], σ)
  obtain ⟨hc, h⟩ := g_if h
  refine m_blk C0 (pX0_ok rfl) kX0_copyInto_ok 0 10 (14, [some (.inr (.inr (42, 0))), some (.inr (.inr (33, q1))), some (.inl a2), some (.inr (.inr (47, (σ 43 0 a2.toNat).toNat)))], [.inl 0, .inr (.inr (33, q1))], σ) (Ps := [0 ≤ a2 ∧ a2 < 6, 0 ≤ (σ 43 0 a2.toNat) ∧ (σ 43 0 a2.toNat) < 7]) rfl (And.intro hc.1 (And.intro hc.2 trivial)) ?_
  obtain ⟨s801, hq805, h⟩ := g_bind h
  refine c_S (rest := []) C0 hFr (t_J7_fill_53178_r33 hG f.2.1 N hq805) lk_X0_93 (k_at kX0_copyInto_ok 10 rfl) rfl rfl rfl (by decide) (by decide) (Nat.le_of_ble_eq_true rfl) ?_
  obtain ⟨hc, h⟩ := g_if h
  refine m_blk C0 (pX0_ok rfl) kX0_copyInto_ok 11 11 (34, [some (.inr (.inr (42, 0))), some (.inr (.inr (33, q1))), some (.inl a2), some (.inr (.inr (47, (σ 43 0 a2.toNat).toNat)))], [.inl (s801 47 ((σ 43 0 a2.toNat).toNat) 0), .inr (.inr (33, q1)), .inl 0, .inr (.inr (51, 64 * ((σ 43 0 a2.toNat).toNat) + (s801 44 0 a2.toNat).toNat))], s801) (Ps := [0 ≤ a2 ∧ a2 < 6, 0 ≤ (s801 44 0 a2.toNat) ∧ (s801 44 0 a2.toNat) < ((gmo ((σ 43 0 a2.toNat).toNat) : Nat) : Int)]) rfl (And.intro hc.1 (And.intro hc.2 trivial)) ?_
  obtain ⟨⟨v803, s802⟩, hq804, h⟩ := g_bind h
  refine c_S (rest := [.inr (.inr (33, q1)), .inl 0, .inr (.inr (51, 64 * ((σ 43 0 a2.toNat).toNat) + (s801 44 0 a2.toNat).toNat))]) C0 hFr (t_X7_firstOf hG f.2.1 N hq804) lk_X0_99 (k_at kX0_copyInto_ok 22 rfl) rfl rfl rfl (by decide) (by decide) (Nat.le_of_ble_eq_true rfl) ?_
  refine m_blk C0 (pX0_ok rfl) kX0_copyInto_ok 23 2 (41, [some (.inr (.inr (42, 0))), some (.inr (.inr (33, q1))), some (.inl a2), some (.inr (.inr (47, (σ 43 0 a2.toNat).toNat)))], [.inl (s802 47 ((σ 43 0 a2.toNat).toNat) 1), .inl v803, .inr (.inr (33, q1)), .inl 0, .inr (.inr (51, 64 * ((σ 43 0 a2.toNat).toNat) + (s801 44 0 a2.toNat).toNat))], s802) (Ps := []) rfl trivial ?_
  obtain ⟨hc, h⟩ := g_if h
  refine c_copy (rest := []) C0 hFr lkc_2 (k_at kX0_copyInto_ok 25 rfl) rfl rfl rfl (by decide) (Nat.le_of_ble_eq_true rfl) hc ?_
  cases h
  exact m_vret C0 hFin (k_at kX0_copyInto_ok 26 rfl)
set_option maxRecDepth 100000 in
set_option maxHeartbeats 4000000 in
theorem t_X11_few {e : mEv} (hG : mGeo (mw0 e) lw_kept) (l : Launch) (N : Nat) {a1 : Int} {a2 : Int} {σ σ' : mS} {v : Int} (h : f_X11_few N a1 a2 σ = some (v, σ')) : mMet l (mw0 e) lw_kept 7 yX11_few cX11_few 3 (some .int) [.inr (.inr (0, 0)), .inl a1, .inl a2] σ (some (.inl v)) σ' := by
  refine mMet_intro (plainFor_of_name (by decide)) hG (Nat.le_of_ble_eq_true rfl) (fun f hl hR C0 hFin => ?_)
  subst hl
  have hFr := mFr_of hR hFin
  unfold f_X11_few at h
  show mWW f (mw0 e) sc0 3 (0, [some (.inr (.inr (0, 0))), some (.inl a1), some (.inl a2)], [], σ)
  refine m_blk C0 (pX11_ok rfl) kX11_few_ok 0 7 (15, [some (.inr (.inr (0, 0))), some (.inl a1), some (.inl a2)], [.inr (.inr (37, 0)), .inr (.inr (5, 0)), .inr (.inr (42, 0))], σ) (Ps := []) rfl trivial ?_
  obtain ⟨s791, hq815, h⟩ := g_bind h
  refine c_V (rest := []) C0 hFr (t_X0_find hG f.2.1 N hq815) lk_X11_110 (k_at kX11_few_ok 7 rfl) rfl rfl rfl rfl ⟨_, _, rfl⟩ (by decide) (by decide) (Nat.le_of_ble_eq_true rfl) ?_
  refine m_blk C0 (pX11_ok rfl) kX11_few_ok 8 3 (23, [some (.inr (.inr (0, 0))), some (.inl a1), some (.inl a2)], [.inl a1, .inr (.inr (31, 0))], s791) (Ps := []) rfl trivial ?_
  obtain ⟨⟨v793, s792⟩, hq814, h⟩ := g_bind h
  refine c_V (rest := []) C0 hFr (t_X6_has hG f.2.1 N hq814) lk_X11_146 (k_at kX11_few_ok 11 rfl) rfl rfl rfl rfl ⟨_, _, rfl⟩ (by decide) (by decide) (Nat.le_of_ble_eq_true rfl) ?_
  refine b_eq C0 kX11_few_ok 12 (off := 14) (tgt := 40) rfl (by decide) (fun hb813 => ?_) (fun hb813 => ?_)
  · replace h := g_pos hb813 h
    refine m_blk C0 (pX11_ok rfl) kX11_few_ok 18 1 (42, [some (.inr (.inr (0, 0))), some (.inl a1), some (.inl a2)], [.inl (-2)], s792) (Ps := []) rfl trivial ?_
    cases h
    exact m_iret C0 hFin (k_at kX11_few_ok 19 rfl) (Or.inl rfl)
  · replace h := g_neg hb813 h
    refine m_blk C0 (pX11_ok rfl) kX11_few_ok 13 3 (34, [some (.inr (.inr (0, 0))), some (.inl a1), some (.inl a2)], [.inl a2, .inr (.inr (42, 0))], s792) (Ps := []) rfl trivial ?_
    obtain ⟨⟨v797, s796⟩, hq812, h⟩ := g_bind h
    refine c_V (rest := []) C0 hFr (t_X0_has hG f.2.1 N hq812) lk_X11_192 (k_at kX11_few_ok 16 rfl) rfl rfl rfl rfl ⟨_, _, rfl⟩ (by decide) (by decide) (Nat.le_of_ble_eq_true rfl) ?_
    refine b_ne C0 kX11_few_ok 17 (off := 6) (tgt := 43) rfl (by decide) (fun hb811 => ?_) (fun hb811 => ?_)
    · replace h := g_neg hb811 h
      obtain ⟨hc, h⟩ := g_if h
      refine m_blk C0 (pX11_ok rfl) kX11_few_ok 20 8 (57, [some (.inr (.inr (0, 0))), some (.inl a1), some (.inl a2)], [.inl a2, .inr (.inr (33, a1.toNat)), .inr (.inr (42, 0))], s796) (Ps := [0 ≤ a1 ∧ a1 < 8]) rfl (And.intro hc trivial) ?_
      obtain ⟨s806, hq810, h⟩ := g_bind h
      refine c_V (rest := []) C0 hFr (t_X0_copyInto_r33 hG f.2.1 N hq810) lk_X11_193 (k_at kX11_few_ok 28 rfl) rfl rfl rfl rfl ⟨_, _, rfl⟩ (by decide) (by decide) (Nat.le_of_ble_eq_true rfl) ?_
      refine m_blk C0 (pX11_ok rfl) kX11_few_ok 29 3 (65, [some (.inr (.inr (0, 0))), some (.inl a1), some (.inl a2)], [.inl a1, .inr (.inr (31, 0))], s806) (Ps := []) rfl trivial ?_
      obtain ⟨⟨v808, s807⟩, hq809, h⟩ := g_bind h
      refine c_V (rest := []) C0 hFr (t_X6_degreeOf hG f.2.1 N hq809) lk_X11_162 (k_at kX11_few_ok 32 rfl) rfl rfl rfl rfl ⟨_, _, rfl⟩ (by decide) (by decide) (Nat.le_of_ble_eq_true rfl) ?_
      cases h
      exact m_iret C0 hFin (k_at kX11_few_ok 33 rfl) (Or.inl rfl)
    · replace h := g_pos hb811 h
      refine m_blk C0 (pX11_ok rfl) kX11_few_ok 18 1 (42, [some (.inr (.inr (0, 0))), some (.inl a1), some (.inl a2)], [.inl (-2)], s796) (Ps := []) rfl trivial ?_
      cases h
      exact m_iret C0 hFin (k_at kX11_few_ok 19 rfl) (Or.inl rfl)
set_option maxRecDepth 100000 in
set_option maxHeartbeats 4000000 in
theorem t_X11_laws {e : mEv} (hG : mGeo (mw0 e) lw_kept) (l : Launch) (N : Nat) {a1 : Int} {a2 : Int} {σ σ' : mS} {v : Int} (h : f_X11_laws N a1 a2 σ = some (v, σ')) : mMet l (mw0 e) lw_kept 7 yX11_laws cX11_laws 4 (some .int) [.inr (.inr (0, 0)), .inl a1, .inl a2] σ (some (.inl v)) σ' := by
  refine mMet_intro (plainFor_of_name (by decide)) hG (Nat.le_of_ble_eq_true rfl) (fun f hl hR C0 hFin => ?_)
  subst hl
  have hFr := mFr_of hR hFin
  unfold f_X11_laws at h
  show mWW f (mw0 e) sc0 4 (0, [some (.inr (.inr (0, 0))), some (.inl a1), some (.inl a2), none], [], σ)
  refine m_blk C0 (pX11_ok rfl) kX11_laws_ok 0 1 (1, [some (.inr (.inr (0, 0))), some (.inl a1), some (.inl a2), none], [.inl a1], σ) (Ps := []) rfl trivial ?_
  refine b_lt C0 kX11_laws_ok 1 (off := 18) (tgt := 19) rfl (by decide) (fun hb825 => ?_) (fun hb825 => ?_)
  · replace h := g_pos hb825 h
    refine m_blk C0 (pX11_ok rfl) kX11_laws_ok 10 1 (20, [some (.inr (.inr (0, 0))), some (.inl a1), some (.inl a2), none], [.inl (-1)], σ) (Ps := []) rfl trivial ?_
    cases h
    exact m_iret C0 hFin (k_at kX11_laws_ok 11 rfl) (Or.inl rfl)
  · replace h := g_neg hb825 h
    refine m_blk C0 (pX11_ok rfl) kX11_laws_ok 2 2 (7, [some (.inr (.inr (0, 0))), some (.inl a1), some (.inl a2), none], [.inl 6, .inl a1], σ) (Ps := []) rfl trivial ?_
    refine b_igt C0 kX11_laws_ok 4 (off := 12) (tgt := 19) rfl (by decide) (fun hb824 => ?_) (fun hb824 => ?_)
    · replace h := g_pos hb824 h
      refine m_blk C0 (pX11_ok rfl) kX11_laws_ok 10 1 (20, [some (.inr (.inr (0, 0))), some (.inl a1), some (.inl a2), none], [.inl (-1)], σ) (Ps := []) rfl trivial ?_
      cases h
      exact m_iret C0 hFin (k_at kX11_laws_ok 11 rfl) (Or.inl rfl)
    · replace h := g_neg hb824 h
      refine m_blk C0 (pX11_ok rfl) kX11_laws_ok 5 1 (11, [some (.inr (.inr (0, 0))), some (.inl a1), some (.inl a2), none], [.inl a2], σ) (Ps := []) rfl trivial ?_
      refine b_lt C0 kX11_laws_ok 6 (off := 8) (tgt := 19) rfl (by decide) (fun hb823 => ?_) (fun hb823 => ?_)
      · replace h := g_pos hb823 h
        refine m_blk C0 (pX11_ok rfl) kX11_laws_ok 10 1 (20, [some (.inr (.inr (0, 0))), some (.inl a1), some (.inl a2), none], [.inl (-1)], σ) (Ps := []) rfl trivial ?_
        cases h
        exact m_iret C0 hFin (k_at kX11_laws_ok 11 rfl) (Or.inl rfl)
      · replace h := g_neg hb823 h
        refine m_blk C0 (pX11_ok rfl) kX11_laws_ok 7 2 (16, [some (.inr (.inr (0, 0))), some (.inl a1), some (.inl a2), none], [.inl 1, .inl a2], σ) (Ps := []) rfl trivial ?_
        refine b_ile C0 kX11_laws_ok 9 (off := 5) (tgt := 21) rfl (by decide) (fun hb822 => ?_) (fun hb822 => ?_)
        · replace h := g_pos hb822 h
          refine m_blk C0 (pX11_ok rfl) kX11_laws_ok 12 7 (36, [some (.inr (.inr (0, 0))), some (.inl a1), some (.inl a2), none], [.inr (.inr (37, 0)), .inr (.inr (5, 0)), .inr (.inr (42, 0))], σ) (Ps := []) rfl trivial ?_
          obtain ⟨s816, hq821, h⟩ := g_bind h
          refine c_V (rest := []) C0 hFr (t_X0_find hG f.2.1 N hq821) lk_X11_110 (k_at kX11_laws_ok 19 rfl) rfl rfl rfl rfl ⟨_, _, rfl⟩ (by decide) (by decide) (Nat.le_of_ble_eq_true rfl) ?_
          obtain ⟨hc, h⟩ := g_if h
          refine m_blk C0 (pX11_ok rfl) kX11_laws_ok 20 8 (53, [some (.inr (.inr (0, 0))), some (.inl a1), some (.inl a2), some (.inl (s816 47 a1.toNat 3))], [.inl a2], s816) (Ps := [0 ≤ a1 ∧ a1 < 7]) rfl (And.intro hc trivial) ?_
          refine b_ne C0 kX11_laws_ok 28 (off := 7) (tgt := 60) rfl (by decide) (fun hb820 => ?_) (fun hb820 => ?_)
          · replace h := g_neg hb820 h
            refine m_blk C0 (pX11_ok rfl) kX11_laws_ok 31 4 (64, [some (.inr (.inr (0, 0))), some (.inl a1), some (.inl a2), some (.inl (s816 47 a1.toNat 3))], [.inl 0, .inl a1, .inr (.inr (0, 0)), .inl (s816 47 a1.toNat 3)], s816) (Ps := []) rfl trivial ?_
            obtain ⟨⟨v818, s817⟩, hq819, h⟩ := g_bind h
            refine c_V (rest := [.inl (s816 47 a1.toNat 3)]) C0 hFr (t_X11_count hG f.2.1 N hq819) lk_X11_204 (k_at kX11_laws_ok 35 rfl) rfl rfl rfl rfl ⟨_, _, rfl⟩ (by decide) (by decide) (Nat.le_of_ble_eq_true rfl) ?_
            refine m_blk C0 (pX11_ok rfl) kX11_laws_ok 36 1 (68, [some (.inr (.inr (0, 0))), some (.inl a1), some (.inl a2), some (.inl (s816 47 a1.toNat 3))], [.inl (mw ((s816 47 a1.toNat 3) - v818))], s817) (Ps := []) rfl trivial ?_
            cases h
            exact m_iret C0 hFin (k_at kX11_laws_ok 37 rfl) (Or.inl rfl)
          · replace h := g_pos hb820 h
            refine m_blk C0 (pX11_ok rfl) kX11_laws_ok 29 2 (68, [some (.inr (.inr (0, 0))), some (.inl a1), some (.inl a2), some (.inl (s816 47 a1.toNat 3))], [.inl (s816 47 a1.toNat 3)], s816) (Ps := []) rfl trivial ?_
            cases h
            exact m_iret C0 hFin (k_at kX11_laws_ok 37 rfl) (Or.inl rfl)
        · replace h := g_neg hb822 h
          refine m_blk C0 (pX11_ok rfl) kX11_laws_ok 10 1 (20, [some (.inr (.inr (0, 0))), some (.inl a1), some (.inl a2), none], [.inl (-1)], σ) (Ps := []) rfl trivial ?_
          cases h
          exact m_iret C0 hFin (k_at kX11_laws_ok 11 rfl) (Or.inl rfl)
set_option maxRecDepth 100000 in
set_option maxHeartbeats 4000000 in
theorem t_X5_begin {e : mEv} (hG : mGeo (mw0 e) lw_kept) (l : Launch) (N : Nat) {a1 : Int} {σ σ' : mS} (h : f_X5_begin N a1 σ = some σ') : mMet l (mw0 e) lw_kept 0 yX5_begin cX5_begin 2 none [.inr (.inr (61, 0)), .inl a1] σ none σ' := by
  refine mMet_intro (plainFor_of_name (by decide)) hG (Nat.le_of_ble_eq_true rfl) (fun f hl hR C0 hFin => ?_)
  subst hl
  have hFr := mFr_of hR hFin
  unfold f_X5_begin at h
  show mWW f (mw0 e) sc0 2 (0, [some (.inr (.inr (61, 0))), some (.inl a1)], [], σ)
  refine m_blk C0 (pX5_ok rfl) kX5_begin_ok 0 3 (5, [some (.inr (.inr (61, 0))), some (.inl a1)], [], (mup σ 61 0 0 0)) (Ps := []) rfl trivial ?_
  refine m_blk C0 (pX5_ok rfl) kX5_begin_ok 3 3 (10, [some (.inr (.inr (61, 0))), some (.inl a1)], [], (mup (mup σ 61 0 0 0) 61 0 1 a1)) (Ps := []) rfl trivial ?_
  cases h
  exact m_vret C0 hFin (k_at kX5_begin_ok 6 rfl)
set_option maxRecDepth 100000 in
set_option maxHeartbeats 4000000 in
theorem t_X5_add_r49 {e : mEv} (hG : mGeo (mw0 e) lw_kept) (l : Launch) (N : Nat) {a1 : Int} {a2 : Int} {q3 : Nat} {σ σ' : mS} (h : f_X5_add_r49 N a1 a2 q3 σ = some σ') : mMet l (mw0 e) lw_kept 1 yX5_add cX5_add 4 none [.inr (.inr (61, 0)), .inl a1, .inl a2, .inr (.inr (49, q3))] σ none σ' := by
  refine mMet_intro (plainFor_of_name (by decide)) hG (Nat.le_of_ble_eq_true rfl) (fun f hl hR C0 hFin => ?_)
  subst hl
  have hFr := mFr_of hR hFin
  unfold f_X5_add_r49 at h
  show mWW f (mw0 e) sc0 4 (0, [some (.inr (.inr (61, 0))), some (.inl a1), some (.inl a2), some (.inr (.inr (49, q3)))], [], σ)
  refine m_blk C0 (pX5_ok rfl) kX5_add_ok 0 3 (6, [some (.inr (.inr (61, 0))), some (.inl a1), some (.inl a2), some (.inr (.inr (49, q3)))], [.inl 84, .inl (σ 61 0 0)], σ) (Ps := []) rfl trivial ?_
  refine b_ige C0 kX5_add_ok 3 (off := 50) (tgt := 56) rfl (by decide) (fun hb836 => ?_) (fun hb836 => ?_)
  · replace h := g_pos hb836 h
    cases h
    exact m_vret C0 hFin (k_at kX5_add_ok 32 rfl)
  · replace h := g_neg hb836 h
    obtain ⟨hc, h⟩ := g_if h
    refine m_blk C0 (pX5_ok rfl) kX5_add_ok 4 6 (19, [some (.inr (.inr (61, 0))), some (.inl a1), some (.inl a2), some (.inr (.inr (49, q3)))], [], (mup σ 62 0 ((σ 61 0 0).toNat) a1)) (Ps := [0 ≤ (σ 61 0 0) ∧ (σ 61 0 0) < 84]) rfl (And.intro hc trivial) ?_
    refine m_blk C0 (pX5_ok rfl) kX5_add_ok 10 6 (29, [some (.inr (.inr (61, 0))), some (.inl a1), some (.inl a2), some (.inr (.inr (49, q3)))], [], (mup (mup σ 62 0 ((σ 61 0 0).toNat) a1) 63 0 ((σ 61 0 0).toNat) a2)) (Ps := [0 ≤ (σ 61 0 0) ∧ (σ 61 0 0) < 84]) rfl (And.intro hc trivial) ?_
    refine m_blk C0 (pX5_ok rfl) kX5_add_ok 16 9 (43, [some (.inr (.inr (61, 0))), some (.inl a1), some (.inl a2), some (.inr (.inr (49, q3)))], [.inl 6, .inl 0, .inr (.inr (65, (σ 61 0 0).toNat)), .inl 0, .inr (.inr (49, q3))], (mup (mup σ 62 0 ((σ 61 0 0).toNat) a1) 63 0 ((σ 61 0 0).toNat) a2)) (Ps := [0 ≤ (σ 61 0 0) ∧ (σ 61 0 0) < 84]) rfl (And.intro hc trivial) ?_
    refine c_copy (rest := []) C0 hFr lkc_4 (k_at kX5_add_ok 25 rfl) rfl rfl rfl (by decide) (Nat.le_of_ble_eq_true rfl) (show 0 ≤ (0 : Int) ∧ 0 ≤ (0 : Int) ∧ 0 ≤ (6 : Int) ∧ (0 : Int) + 6 ≤ 6 ∧ (0 : Int) + 6 ≤ 6 from by decide) ?_
    refine m_blk C0 (pX5_ok rfl) kX5_add_ok 26 6 (56, [some (.inr (.inr (61, 0))), some (.inl a1), some (.inl a2), some (.inr (.inr (49, q3)))], [], (mup (mcp (mup (mup σ 62 0 ((σ 61 0 0).toNat) a1) 63 0 ((σ 61 0 0).toNat) a2) 49 q3 0 65 ((σ 61 0 0).toNat) 0 6) 61 0 0 (mw ((σ 61 0 0) + 1)))) (Ps := []) rfl trivial ?_
    cases h
    exact m_vret C0 hFin (k_at kX5_add_ok 32 rfl)
set_option maxRecDepth 100000 in
set_option maxHeartbeats 4000000 in
theorem p_X3_split_r33_34 {e : mEv} (hG : mGeo (mw0 e) lw_kept) (N : Nat) {f : mFx} (C0 : mCx f (mw0 e) sc0 cX3_split 4 RX3 lw_kept) (hFr : mFr f 2) : ∀ (n : Nat) (y0 : Nat) (x3 : Int) (σ : mS) (σ' : mS), L_X3_split_r33_34 N n y0 x3 σ = some σ' → mWW f (mw0 e) sc0 4 (86, [none, none, none, none], [], σ') → mWW f (mw0 e) sc0 4 (34, [some (.inr (.inr (47, y0))), none, some (.inr (.inr (61, 0))), some (.inl x3)], [], σ) := by
  intro n
  induction n with
  | zero =>
    intro y0 x3 σ σ' h hK
    cases h
  | succ n IH =>
    intro y0 x3 σ σ' h hK
    rw [L_X3_split_r33_34_s] at h
    refine m_blk C0 (pX3_ok rfl) kX3_split_ok 18 3 (39, [some (.inr (.inr (47, y0))), none, some (.inr (.inr (61, 0))), some (.inl x3)], [.inl (σ 47 y0 7), .inl x3], σ) (Ps := []) rfl trivial ?_
    refine b_ige C0 kX3_split_ok 21 (off := 47) (tgt := 86) rfl (by decide) (fun hb840 => ?_) (fun hb840 => ?_)
    · replace h := g_pos hb840 h
      cases h
      refine m_mask [false, false, false, false] (ls' := [none, none, none, none]) rfl ?_
      exact hK
    · replace h := g_neg hb840 h
      obtain ⟨hc, h⟩ := g_if h
      refine m_blk C0 (pX3_ok rfl) kX3_split_ok 22 4 (48, [some (.inr (.inr (47, y0))), none, some (.inr (.inr (61, 0))), some (.inl x3)], [.inl (σ 60 y0 x3.toNat)], σ) (Ps := [0 ≤ x3 ∧ x3 < ((gwd y0 : Nat) : Int)]) rfl (And.intro hc trivial) ?_
      refine b_eq C0 kX3_split_ok 26 (off := 32) (tgt := 80) rfl (by decide) (fun hb839 => ?_) (fun hb839 => ?_)
      · replace h := g_pos hb839 h
        refine m_blk C0 (pX3_ok rfl) kX3_split_ok 44 2 (34, [some (.inr (.inr (47, y0))), none, some (.inr (.inr (61, 0))), some (.inl (mw (x3 + 1)))], [], σ) (Ps := []) rfl trivial ?_
        refine m_mask [true, false, true, true] (ls' := [some (.inr (.inr (47, y0))), none, some (.inr (.inr (61, 0))), some (.inl (mw (x3 + 1)))]) rfl ?_
        exact IH _ _ _ _ h hK
      · replace h := g_neg hb839 h
        obtain ⟨hc, h⟩ := g_if h
        refine m_blk C0 (pX3_ok rfl) kX3_split_ok 27 16 (77, [some (.inr (.inr (47, y0))), none, some (.inr (.inr (61, 0))), some (.inl x3)], [.inr (.inr (49, 64 * y0 + (σ 53 y0 x3.toNat).toNat)), .inl (σ 47 y0 0), .inl (mw ((32003 : Int) - (σ 60 y0 x3.toNat))), .inr (.inr (61, 0))], σ) (Ps := [0 ≤ x3 ∧ x3 < ((gwd y0 : Nat) : Int), 0 ≤ x3 ∧ x3 < ((gwd y0 : Nat) : Int), 0 ≤ (σ 53 y0 x3.toNat) ∧ (σ 53 y0 x3.toNat) < ((gmo y0 : Nat) : Int)]) rfl (And.intro hc.1 (And.intro hc.1 (And.intro hc.2 trivial))) ?_
        obtain ⟨s837, hq838, h⟩ := g_bind h
        refine c_V (rest := []) C0 hFr (t_X5_add_r49 hG f.2.1 N hq838) lk_X3_95 (k_at kX3_split_ok 43 rfl) rfl rfl rfl rfl ⟨_, _, rfl⟩ (by decide) (by decide) (Nat.le_of_ble_eq_true rfl) ?_
        refine m_blk C0 (pX3_ok rfl) kX3_split_ok 44 2 (34, [some (.inr (.inr (47, y0))), none, some (.inr (.inr (61, 0))), some (.inl (mw (x3 + 1)))], [], s837) (Ps := []) rfl trivial ?_
        refine m_mask [true, false, true, true] (ls' := [some (.inr (.inr (47, y0))), none, some (.inr (.inr (61, 0))), some (.inl (mw (x3 + 1)))]) rfl ?_
        exact IH _ _ _ _ h hK
set_option maxRecDepth 100000 in
set_option maxHeartbeats 4000000 in
theorem t_X3_split_r33 {e : mEv} (hG : mGeo (mw0 e) lw_kept) (l : Launch) (N : Nat) {q0 : Nat} {q1 : Nat} {σ σ' : mS} (h : f_X3_split_r33 N q0 q1 σ = some σ') : mMet l (mw0 e) lw_kept 2 yX3_split cX3_split 4 none [.inr (.inr (47, q0)), .inr (.inr (33, q1)), .inr (.inr (61, 0))] σ none σ' := by
  refine mMet_intro (plainFor_of_name (by decide)) hG (Nat.le_of_ble_eq_true rfl) (fun f hl hR C0 hFin => ?_)
  subst hl
  have hFr := mFr_of hR hFin
  unfold f_X3_split_r33 at h
  show mWW f (mw0 e) sc0 4 (0, [some (.inr (.inr (47, q0))), some (.inr (.inr (33, q1))), some (.inr (.inr (61, 0))), none], [], σ)
  refine m_blk C0 (pX3_ok rfl) kX3_split_ok 0 3 (5, [some (.inr (.inr (47, q0))), some (.inr (.inr (33, q1))), some (.inr (.inr (61, 0))), none], [.inl (σ 47 q0 0), .inr (.inr (33, q1))], σ) (Ps := []) rfl trivial ?_
  obtain ⟨⟨v833, s832⟩, hq845, h⟩ := g_bind h
  refine c_S (rest := [.inr (.inr (33, q1))]) C0 hFr (t_X7_firstOf hG f.2.1 N hq845) lk_X3_92 (k_at kX3_split_ok 3 rfl) rfl rfl rfl (by decide) (by decide) (Nat.le_of_ble_eq_true rfl) ?_
  refine m_blk C0 (pX3_ok rfl) kX3_split_ok 4 5 (17, [some (.inr (.inr (47, q0))), some (.inr (.inr (33, q1))), some (.inr (.inr (61, 0))), none], [.inl (s832 47 q0 1), .inl 0, .inr (.inr (59, q0)), .inl v833, .inr (.inr (33, q1))], s832) (Ps := []) rfl trivial ?_
  obtain ⟨hc, h⟩ := g_if h
  refine c_copy (rest := []) C0 hFr lkc_1 (k_at kX3_split_ok 9 rfl) rfl rfl rfl (by decide) (Nat.le_of_ble_eq_true rfl) hc ?_
  refine m_blk C0 (pX3_ok rfl) kX3_split_ok 10 3 (25, [some (.inr (.inr (47, q0))), some (.inr (.inr (33, q1))), some (.inr (.inr (61, 0))), none], [.inl 0, .inr (.inr (60, q0))], (mcp s832 33 q1 v833 59 q0 0 (s832 47 q0 1))) (Ps := []) rfl trivial ?_
  obtain ⟨s834, hq844, h⟩ := g_bind h
  refine c_S (rest := []) C0 hFr (t_J7_fill_53178_r60 hG f.2.1 N hq844) lk_X3_76 (k_at kX3_split_ok 13 rfl) rfl rfl rfl (by decide) (by decide) (Nat.le_of_ble_eq_true rfl) ?_
  refine m_blk C0 (pX3_ok rfl) kX3_split_ok 14 1 (29, [some (.inr (.inr (47, q0))), some (.inr (.inr (33, q1))), some (.inr (.inr (61, 0))), none], [.inr (.inr (47, q0))], s834) (Ps := []) rfl trivial ?_
  obtain ⟨s835, hq843, h⟩ := g_bind h
  refine c_V (rest := []) C0 hFr (t_X3_reduceWork hG f.2.1 N hq843) lk_X3_82 (k_at kX3_split_ok 15 rfl) rfl rfl rfl rfl ⟨_, _, rfl⟩ (by decide) (by decide) (Nat.le_of_ble_eq_true rfl) ?_
  refine m_blk C0 (pX3_ok rfl) kX3_split_ok 16 2 (34, [some (.inr (.inr (47, q0))), some (.inr (.inr (33, q1))), some (.inr (.inr (61, 0))), some (.inl 0)], [], s835) (Ps := []) rfl trivial ?_
  obtain ⟨s841, hq842, h⟩ := g_bind h
  refine m_mask [true, false, true, true] (ls' := [some (.inr (.inr (47, q0))), none, some (.inr (.inr (61, 0))), some (.inl 0)]) rfl ?_
  refine p_X3_split_r33_34 hG N C0 hFr N _ _ _ _ hq842 ?_
  cases h
  exact m_vret C0 hFin (k_at kX3_split_ok 46 rfl)
set_option maxRecDepth 100000 in
set_option maxHeartbeats 4000000 in
theorem p_X0_split_r33_10 {e : mEv} (hG : mGeo (mw0 e) lw_kept) (N : Nat) {f : mFx} (C0 : mCx f (mw0 e) sc0 cX0_split 4 RX0 lw_kept) (hFr : mFr f 3) : ∀ (n : Nat) (y1 : Nat) (x3 : Int) (σ : mS) (σ' : mS), L_X0_split_r33_10 N n y1 x3 σ = some σ' → mWW f (mw0 e) sc0 4 (33, [none, none, none, none], [], σ') → mWW f (mw0 e) sc0 4 (10, [some (.inr (.inr (42, 0))), some (.inr (.inr (33, y1))), some (.inr (.inr (61, 0))), some (.inl x3)], [], σ) := by
  intro n
  induction n with
  | zero =>
    intro y1 x3 σ σ' h hK
    cases h
  | succ n IH =>
    intro y1 x3 σ σ' h hK
    rw [L_X0_split_r33_10_s] at h
    refine m_blk C0 (pX0_ok rfl) kX0_split_ok 6 2 (13, [some (.inr (.inr (42, 0))), some (.inr (.inr (33, y1))), some (.inr (.inr (61, 0))), some (.inl x3)], [.inl 6, .inl x3], σ) (Ps := []) rfl trivial ?_
    refine b_igt C0 kX0_split_ok 8 (off := 20) (tgt := 33) rfl (by decide) (fun hb848 => ?_) (fun hb848 => ?_)
    · replace h := g_pos hb848 h
      cases h
      refine m_mask [false, false, false, false] (ls' := [none, none, none, none]) rfl ?_
      exact hK
    · replace h := g_neg hb848 h
      obtain ⟨hc, h⟩ := g_if h
      refine m_blk C0 (pX0_ok rfl) kX0_split_ok 9 6 (24, [some (.inr (.inr (42, 0))), some (.inr (.inr (33, y1))), some (.inr (.inr (61, 0))), some (.inl x3)], [.inr (.inr (61, 0)), .inr (.inr (33, y1)), .inr (.inr (47, x3.toNat))], σ) (Ps := [0 ≤ x3 ∧ x3 < 7]) rfl (And.intro hc trivial) ?_
      obtain ⟨s846, hq847, h⟩ := g_bind h
      refine c_V (rest := []) C0 hFr (t_X3_split_r33 hG f.2.1 N hq847) lk_X0_143 (k_at kX0_split_ok 15 rfl) rfl rfl rfl rfl ⟨_, _, rfl⟩ (by decide) (by decide) (Nat.le_of_ble_eq_true rfl) ?_
      refine m_blk C0 (pX0_ok rfl) kX0_split_ok 16 2 (10, [some (.inr (.inr (42, 0))), some (.inr (.inr (33, y1))), some (.inr (.inr (61, 0))), some (.inl (mw (x3 + 1)))], [], s846) (Ps := []) rfl trivial ?_
      refine m_mask [true, true, true, true] (ls' := [some (.inr (.inr (42, 0))), some (.inr (.inr (33, y1))), some (.inr (.inr (61, 0))), some (.inl (mw (x3 + 1)))]) rfl ?_
      exact IH _ _ _ _ h hK
set_option maxRecDepth 100000 in
set_option maxHeartbeats 4000000 in
theorem t_X0_split_r33 {e : mEv} (hG : mGeo (mw0 e) lw_kept) (l : Launch) (N : Nat) {q1 : Nat} {σ σ' : mS} (h : f_X0_split_r33 N q1 σ = some σ') : mMet l (mw0 e) lw_kept 3 yX0_split cX0_split 4 none [.inr (.inr (42, 0)), .inr (.inr (33, q1)), .inr (.inr (61, 0))] σ none σ' := by
  refine mMet_intro (plainFor_of_name (by decide)) hG (Nat.le_of_ble_eq_true rfl) (fun f hl hR C0 hFin => ?_)
  subst hl
  have hFr := mFr_of hR hFin
  unfold f_X0_split_r33 at h
  show mWW f (mw0 e) sc0 4 (0, [some (.inr (.inr (42, 0))), some (.inr (.inr (33, q1))), some (.inr (.inr (61, 0))), none], [], σ)
  refine m_blk C0 (pX0_ok rfl) kX0_split_ok 0 3 (5, [some (.inr (.inr (42, 0))), some (.inr (.inr (33, q1))), some (.inr (.inr (61, 0))), none], [.inl (σ 42 0 0), .inr (.inr (61, 0))], σ) (Ps := []) rfl trivial ?_
  obtain ⟨s831, hq851, h⟩ := g_bind h
  refine c_V (rest := []) C0 hFr (t_X5_begin hG f.2.1 N hq851) lk_X0_138 (k_at kX0_split_ok 3 rfl) rfl rfl rfl rfl ⟨_, _, rfl⟩ (by decide) (by decide) (Nat.le_of_ble_eq_true rfl) ?_
  refine m_blk C0 (pX0_ok rfl) kX0_split_ok 4 2 (10, [some (.inr (.inr (42, 0))), some (.inr (.inr (33, q1))), some (.inr (.inr (61, 0))), some (.inl 0)], [], s831) (Ps := []) rfl trivial ?_
  obtain ⟨s849, hq850, h⟩ := g_bind h
  refine m_mask [true, true, true, true] (ls' := [some (.inr (.inr (42, 0))), some (.inr (.inr (33, q1))), some (.inr (.inr (61, 0))), some (.inl 0)]) rfl ?_
  refine p_X0_split_r33_10 hG N C0 hFr N _ _ _ _ hq850 ?_
  cases h
  exact m_vret C0 hFin (k_at kX0_split_ok 18 rfl)
set_option maxRecDepth 100000 in
set_option maxHeartbeats 4000000 in
theorem t_X11_made {e : mEv} (hG : mGeo (mw0 e) lw_kept) (l : Launch) (N : Nat) {a1 : Int} {σ σ' : mS} {v : Int} (h : f_X11_made N a1 σ = some (v, σ')) : mMet l (mw0 e) lw_kept 7 yX11_made cX11_made 2 (some .int) [.inr (.inr (0, 0)), .inl a1] σ (some (.inl v)) σ' := by
  refine mMet_intro (plainFor_of_name (by decide)) hG (Nat.le_of_ble_eq_true rfl) (fun f hl hR C0 hFin => ?_)
  subst hl
  have hFr := mFr_of hR hFin
  unfold f_X11_made at h
  show mWW f (mw0 e) sc0 2 (0, [some (.inr (.inr (0, 0))), some (.inl a1)], [], σ)
  refine m_blk C0 (pX11_ok rfl) kX11_made_ok 0 3 (3, [some (.inr (.inr (0, 0))), some (.inl a1)], [.inl 0, .inl a1, .inr (.inr (0, 0))], σ) (Ps := []) rfl trivial ?_
  obtain ⟨⟨v827, s826⟩, hq858, h⟩ := g_bind h
  refine c_V (rest := []) C0 hFr (t_X11_stays hG f.2.1 N hq858) lk_X11_208 (k_at kX11_made_ok 3 rfl) rfl rfl rfl rfl ⟨_, _, rfl⟩ (by decide) (by decide) (Nat.le_of_ble_eq_true rfl) ?_
  refine m_blk C0 (pX11_ok rfl) kX11_made_ok 4 1 (7, [some (.inr (.inr (0, 0))), some (.inl a1)], [.inl 1, .inl v827], s826) (Ps := []) rfl trivial ?_
  refine b_ine C0 kX11_made_ok 5 (off := 16) (tgt := 23) rfl (by decide) (fun hb857 => ?_) (fun hb857 => ?_)
  · replace h := g_neg hb857 h
    refine m_blk C0 (pX11_ok rfl) kX11_made_ok 12 1 (24, [some (.inr (.inr (0, 0))), some (.inl a1)], [.inl (-1)], s826) (Ps := []) rfl trivial ?_
    cases h
    exact m_iret C0 hFin (k_at kX11_made_ok 13 rfl) (Or.inl rfl)
  · replace h := g_pos hb857 h
    refine m_blk C0 (pX11_ok rfl) kX11_made_ok 6 3 (15, [some (.inr (.inr (0, 0))), some (.inl a1)], [.inl a1, .inr (.inr (31, 0))], s826) (Ps := []) rfl trivial ?_
    obtain ⟨⟨v829, s828⟩, hq856, h⟩ := g_bind h
    refine c_V (rest := []) C0 hFr (t_X6_degreeOf hG f.2.1 N hq856) lk_X11_162 (k_at kX11_made_ok 9 rfl) rfl rfl rfl rfl ⟨_, _, rfl⟩ (by decide) (by decide) (Nat.le_of_ble_eq_true rfl) ?_
    refine m_blk C0 (pX11_ok rfl) kX11_made_ok 10 1 (20, [some (.inr (.inr (0, 0))), some (.inl a1)], [.inl 6, .inl v829], s828) (Ps := []) rfl trivial ?_
    refine b_ile C0 kX11_made_ok 11 (off := 5) (tgt := 25) rfl (by decide) (fun hb855 => ?_) (fun hb855 => ?_)
    · replace h := g_pos hb855 h
      refine m_blk C0 (pX11_ok rfl) kX11_made_ok 14 7 (40, [some (.inr (.inr (0, 0))), some (.inl a1)], [.inr (.inr (37, 0)), .inr (.inr (5, 0)), .inr (.inr (42, 0))], s828) (Ps := []) rfl trivial ?_
      obtain ⟨s830, hq854, h⟩ := g_bind h
      refine c_V (rest := []) C0 hFr (t_X0_find hG f.2.1 N hq854) lk_X11_110 (k_at kX11_made_ok 21 rfl) rfl rfl rfl rfl ⟨_, _, rfl⟩ (by decide) (by decide) (Nat.le_of_ble_eq_true rfl) ?_
      obtain ⟨hc, h⟩ := g_if h
      refine m_blk C0 (pX11_ok rfl) kX11_made_ok 22 9 (60, [some (.inr (.inr (0, 0))), some (.inl a1)], [.inr (.inr (61, 0)), .inr (.inr (33, a1.toNat)), .inr (.inr (42, 0))], s830) (Ps := [0 ≤ a1 ∧ a1 < 8]) rfl (And.intro hc trivial) ?_
      obtain ⟨s852, hq853, h⟩ := g_bind h
      refine c_V (rest := []) C0 hFr (t_X0_split_r33 hG f.2.1 N hq853) lk_X11_211 (k_at kX11_made_ok 31 rfl) rfl rfl rfl rfl ⟨_, _, rfl⟩ (by decide) (by decide) (Nat.le_of_ble_eq_true rfl) ?_
      refine m_blk C0 (pX11_ok rfl) kX11_made_ok 32 3 (70, [some (.inr (.inr (0, 0))), some (.inl a1)], [.inl (s852 61 0 0)], s852) (Ps := []) rfl trivial ?_
      cases h
      exact m_iret C0 hFin (k_at kX11_made_ok 35 rfl) (Or.inl rfl)
    · replace h := g_neg hb855 h
      refine m_blk C0 (pX11_ok rfl) kX11_made_ok 12 1 (24, [some (.inr (.inr (0, 0))), some (.inl a1)], [.inl (-1)], s828) (Ps := []) rfl trivial ?_
      cases h
      exact m_iret C0 hFin (k_at kX11_made_ok 13 rfl) (Or.inl rfl)
set_option maxRecDepth 100000 in
set_option maxHeartbeats 4000000 in
theorem t_X5_tell {e : mEv} (hG : mGeo (mw0 e) lw_kept) (l : Launch) (N : Nat) {a1 : Int} {a2 : Int} {σ σ' : mS} {v : Int} (h : f_X5_tell N a1 a2 σ = some (v, σ')) : mMet l (mw0 e) lw_kept 0 yX5_tell cX5_tell 3 (some .int) [.inr (.inr (61, 0)), .inl a1, .inl a2] σ (some (.inl v)) σ' := by
  refine mMet_intro (plainFor_of_name (by decide)) hG (Nat.le_of_ble_eq_true rfl) (fun f hl hR C0 hFin => ?_)
  subst hl
  have hFr := mFr_of hR hFin
  unfold f_X5_tell at h
  show mWW f (mw0 e) sc0 3 (0, [some (.inr (.inr (61, 0))), some (.inl a1), some (.inl a2)], [], σ)
  refine m_blk C0 (pX5_ok rfl) kX5_tell_ok 0 1 (1, [some (.inr (.inr (61, 0))), some (.inl a1), some (.inl a2)], [.inl a1], σ) (Ps := []) rfl trivial ?_
  refine b_lt C0 kX5_tell_ok 1 (off := 25) (tgt := 26) rfl (by decide) (fun hb864 => ?_) (fun hb864 => ?_)
  · replace h := g_pos hb864 h
    refine m_blk C0 (pX5_ok rfl) kX5_tell_ok 14 1 (27, [some (.inr (.inr (61, 0))), some (.inl a1), some (.inl a2)], [.inl (-1)], σ) (Ps := []) rfl trivial ?_
    cases h
    exact m_iret C0 hFin (k_at kX5_tell_ok 15 rfl) (Or.inl rfl)
  · replace h := g_neg hb864 h
    refine m_blk C0 (pX5_ok rfl) kX5_tell_ok 2 3 (9, [some (.inr (.inr (61, 0))), some (.inl a1), some (.inl a2)], [.inl (σ 61 0 0), .inl a1], σ) (Ps := []) rfl trivial ?_
    refine b_ige C0 kX5_tell_ok 5 (off := 17) (tgt := 26) rfl (by decide) (fun hb863 => ?_) (fun hb863 => ?_)
    · replace h := g_pos hb863 h
      refine m_blk C0 (pX5_ok rfl) kX5_tell_ok 14 1 (27, [some (.inr (.inr (61, 0))), some (.inl a1), some (.inl a2)], [.inl (-1)], σ) (Ps := []) rfl trivial ?_
      cases h
      exact m_iret C0 hFin (k_at kX5_tell_ok 15 rfl) (Or.inl rfl)
    · replace h := g_neg hb863 h
      refine m_blk C0 (pX5_ok rfl) kX5_tell_ok 6 1 (13, [some (.inr (.inr (61, 0))), some (.inl a1), some (.inl a2)], [.inl a2], σ) (Ps := []) rfl trivial ?_
      refine b_lt C0 kX5_tell_ok 7 (off := 13) (tgt := 26) rfl (by decide) (fun hb862 => ?_) (fun hb862 => ?_)
      · replace h := g_pos hb862 h
        refine m_blk C0 (pX5_ok rfl) kX5_tell_ok 14 1 (27, [some (.inr (.inr (61, 0))), some (.inl a1), some (.inl a2)], [.inl (-1)], σ) (Ps := []) rfl trivial ?_
        cases h
        exact m_iret C0 hFin (k_at kX5_tell_ok 15 rfl) (Or.inl rfl)
      · replace h := g_neg hb862 h
        refine m_blk C0 (pX5_ok rfl) kX5_tell_ok 8 5 (23, [some (.inr (.inr (61, 0))), some (.inl a1), some (.inl a2)], [.inl (mw ((2 : Int) + (σ 61 0 1))), .inl a2], σ) (Ps := []) rfl trivial ?_
        refine b_ilt C0 kX5_tell_ok 13 (off := 5) (tgt := 28) rfl (by decide) (fun hb861 => ?_) (fun hb861 => ?_)
        · replace h := g_pos hb861 h
          refine m_blk C0 (pX5_ok rfl) kX5_tell_ok 16 1 (29, [some (.inr (.inr (61, 0))), some (.inl a1), some (.inl a2)], [.inl a2], σ) (Ps := []) rfl trivial ?_
          refine b_ne C0 kX5_tell_ok 17 (off := 10) (tgt := 39) rfl (by decide) (fun hb860 => ?_) (fun hb860 => ?_)
          · replace h := g_neg hb860 h
            refine m_blk C0 (pX5_ok rfl) kX5_tell_ok 23 2 (41, [some (.inr (.inr (61, 0))), some (.inl a1), some (.inl a2)], [.inl 1, .inl a2], σ) (Ps := []) rfl trivial ?_
            refine b_ine C0 kX5_tell_ok 25 (off := 12) (tgt := 53) rfl (by decide) (fun hb859 => ?_) (fun hb859 => ?_)
            · replace h := g_neg hb859 h
              obtain ⟨hc, h⟩ := g_if h
              refine m_blk C0 (pX5_ok rfl) kX5_tell_ok 31 8 (63, [some (.inr (.inr (61, 0))), some (.inl a1), some (.inl a2)], [.inl (σ 65 a1.toNat ((mw (a2 - 2)).toNat))], σ) (Ps := [0 ≤ a1 ∧ a1 < 84, 0 ≤ (mw (a2 - 2)) ∧ (mw (a2 - 2)) < 6]) rfl (And.intro hc.1 (And.intro hc.2 trivial)) ?_
              cases h
              exact m_iret C0 hFin (k_at kX5_tell_ok 39 rfl) (Or.inl rfl)
            · replace h := g_pos hb859 h
              obtain ⟨hc, h⟩ := g_if h
              refine m_blk C0 (pX5_ok rfl) kX5_tell_ok 26 5 (63, [some (.inr (.inr (61, 0))), some (.inl a1), some (.inl a2)], [.inl (σ 63 0 a1.toNat)], σ) (Ps := [0 ≤ a1 ∧ a1 < 84]) rfl (And.intro hc trivial) ?_
              cases h
              exact m_iret C0 hFin (k_at kX5_tell_ok 39 rfl) (Or.inl rfl)
          · replace h := g_pos hb860 h
            obtain ⟨hc, h⟩ := g_if h
            refine m_blk C0 (pX5_ok rfl) kX5_tell_ok 18 4 (38, [some (.inr (.inr (61, 0))), some (.inl a1), some (.inl a2)], [.inl (σ 62 0 a1.toNat)], σ) (Ps := [0 ≤ a1 ∧ a1 < 84]) rfl (And.intro hc trivial) ?_
            cases h
            exact m_iret C0 hFin (k_at kX5_tell_ok 22 rfl) (Or.inl rfl)
        · replace h := g_neg hb861 h
          refine m_blk C0 (pX5_ok rfl) kX5_tell_ok 14 1 (27, [some (.inr (.inr (61, 0))), some (.inl a1), some (.inl a2)], [.inl (-1)], σ) (Ps := []) rfl trivial ?_
          cases h
          exact m_iret C0 hFin (k_at kX5_tell_ok 15 rfl) (Or.inl rfl)
set_option maxRecDepth 100000 in
set_option maxHeartbeats 4000000 in
theorem t_X11_part {e : mEv} (hG : mGeo (mw0 e) lw_kept) (l : Launch) (N : Nat) {a1 : Int} {a2 : Int} {σ σ' : mS} {v : Int} (h : f_X11_part N a1 a2 σ = some (v, σ')) : mMet l (mw0 e) lw_kept 1 yX11_part cX11_part 3 (some .int) [.inr (.inr (0, 0)), .inl a1, .inl a2] σ (some (.inl v)) σ' := by
  refine mMet_intro (plainFor_of_name (by decide)) hG (Nat.le_of_ble_eq_true rfl) (fun f hl hR C0 hFin => ?_)
  subst hl
  have hFr := mFr_of hR hFin
  unfold f_X11_part at h
  show mWW f (mw0 e) sc0 3 (0, [some (.inr (.inr (0, 0))), some (.inl a1), some (.inl a2)], [], σ)
  refine m_blk C0 (pX11_ok rfl) kX11_part_ok 0 4 (6, [some (.inr (.inr (0, 0))), some (.inl a1), some (.inl a2)], [.inl a2, .inl a1, .inr (.inr (61, 0))], σ) (Ps := []) rfl trivial ?_
  obtain ⟨⟨v866, s865⟩, hq867, h⟩ := g_bind h
  refine c_V (rest := []) C0 hFr (t_X5_tell hG f.2.1 N hq867) lk_X11_216 (k_at kX11_part_ok 4 rfl) rfl rfl rfl rfl ⟨_, _, rfl⟩ (by decide) (by decide) (Nat.le_of_ble_eq_true rfl) ?_
  cases h
  exact m_iret C0 hFin (k_at kX11_part_ok 5 rfl) (Or.inl rfl)
set_option maxRecDepth 100000 in
set_option maxHeartbeats 4000000 in
theorem p_X6_fillLetterPowers_14 {e : mEv} (hG : mGeo (mw0 e) lw_kept) (N : Nat) {f : mFx} (C0 : mCx f (mw0 e) sc0 cX6_fillLetterPowers 5 RX6 lw_kept) (hFr : mFr f 0) : ∀ (n : Nat) (x2 : Int) (y3 : Nat) (x4 : Int) (σ : mS) (σ' : mS), L_X6_fillLetterPowers_14 N n x2 y3 x4 σ = some σ' → mWW f (mw0 e) sc0 5 (43, [none, none, none, none, none], [], σ') → mWW f (mw0 e) sc0 5 (14, [none, none, some (.inl x2), some (.inr (.inr (36, y3))), some (.inl x4)], [], σ) := by
  intro n
  induction n with
  | zero =>
    intro x2 y3 x4 σ σ' h hK
    cases h
  | succ n IH =>
    intro x2 y3 x4 σ σ' h hK
    rw [L_X6_fillLetterPowers_14_s] at h
    refine m_blk C0 (pX6_ok rfl) kX6_fillLetterPowers_ok 11 2 (18, [none, none, some (.inl x2), some (.inr (.inr (36, y3))), some (.inl x4)], [.inl 8, .inl x4], σ) (Ps := []) rfl trivial ?_
    refine b_igt C0 kX6_fillLetterPowers_ok 13 (off := 25) (tgt := 43) rfl (by decide) (fun hb872 => ?_) (fun hb872 => ?_)
    · replace h := g_pos hb872 h
      cases h
      refine m_mask [false, false, false, false, false] (ls' := [none, none, none, none, none]) rfl ?_
      exact hK
    · replace h := g_neg hb872 h
      obtain ⟨hc, h⟩ := g_if h
      refine m_blk C0 (pX6_ok rfl) kX6_fillLetterPowers_ok 14 12 (37, [none, none, some (.inl x2), some (.inr (.inr (36, y3))), some (.inl x4)], [], (mup σ 36 y3 x4.toNat (o_rem (mw ((σ 36 y3 ((mw (x4 - 1)).toNat)) * x2)) 32003))) (Ps := [0 ≤ (mw (x4 - 1)) ∧ (mw (x4 - 1)) < 9, ¬ (32003 : Int) = 0, 0 ≤ x4 ∧ x4 < 9]) rfl (And.intro hc.1 (And.intro (by decide) (And.intro hc.2 trivial))) ?_
      refine m_blk C0 (pX6_ok rfl) kX6_fillLetterPowers_ok 26 2 (14, [none, none, some (.inl x2), some (.inr (.inr (36, y3))), some (.inl (mw (x4 + 1)))], [], (mup σ 36 y3 x4.toNat (o_rem (mw ((σ 36 y3 ((mw (x4 - 1)).toNat)) * x2)) 32003))) (Ps := []) rfl trivial ?_
      refine m_mask [false, false, true, true, true] (ls' := [none, none, some (.inl x2), some (.inr (.inr (36, y3))), some (.inl (mw (x4 + 1)))]) rfl ?_
      exact IH _ _ _ _ _ h hK
set_option maxRecDepth 100000 in
set_option maxHeartbeats 4000000 in
theorem t_X6_fillLetterPowers {e : mEv} (hG : mGeo (mw0 e) lw_kept) (l : Launch) (N : Nat) {a1 : Int} {a2 : Int} {σ σ' : mS} (h : f_X6_fillLetterPowers N a1 a2 σ = some σ') : mMet l (mw0 e) lw_kept 0 yX6_fillLetterPowers cX6_fillLetterPowers 5 none [.inr (.inr (31, 0)), .inl a1, .inl a2] σ none σ' := by
  refine mMet_intro (plainFor_of_name (by decide)) hG (Nat.le_of_ble_eq_true rfl) (fun f hl hR C0 hFin => ?_)
  subst hl
  have hFr := mFr_of hR hFin
  unfold f_X6_fillLetterPowers at h
  show mWW f (mw0 e) sc0 5 (0, [some (.inr (.inr (31, 0))), some (.inl a1), some (.inl a2), none, none], [], σ)
  obtain ⟨hc, h⟩ := g_if h
  refine m_blk C0 (pX6_ok rfl) kX6_fillLetterPowers_ok 0 9 (11, [some (.inr (.inr (31, 0))), some (.inl a1), some (.inl a2), some (.inr (.inr (36, a1.toNat))), none], [], (mup σ 36 a1.toNat 0 1)) (Ps := [0 ≤ a1 ∧ a1 < 3, 0 ≤ (0 : Int) ∧ (0 : Int) < 9]) rfl (And.intro hc (And.intro (by decide) trivial)) ?_
  refine m_blk C0 (pX6_ok rfl) kX6_fillLetterPowers_ok 9 2 (14, [some (.inr (.inr (31, 0))), some (.inl a1), some (.inl a2), some (.inr (.inr (36, a1.toNat))), some (.inl 1)], [], (mup σ 36 a1.toNat 0 1)) (Ps := []) rfl trivial ?_
  obtain ⟨s873, hq874, h⟩ := g_bind h
  refine m_mask [false, false, true, true, true] (ls' := [none, none, some (.inl a2), some (.inr (.inr (36, a1.toNat))), some (.inl 1)]) rfl ?_
  refine p_X6_fillLetterPowers_14 hG N C0 hFr N _ _ _ _ _ hq874 ?_
  cases h
  exact m_vret C0 hFin (k_at kX6_fillLetterPowers_ok 28 rfl)
set_option maxRecDepth 100000 in
set_option maxHeartbeats 4000000 in
theorem p_X6_valueAt_56 {e : mEv} (hG : mGeo (mw0 e) lw_kept) (N : Nat) {f : mFx} (C0 : mCx f (mw0 e) sc0 cX6_valueAt 9 RX6 lw_kept) (hFr : mFr f 2) : ∀ (n : Nat) (x1 : Int) (x5 : Int) (x6 : Int) (x7 : Int) (x8 : Int) (σ : mS) (o7 : Int) (σ' : mS), L_X6_valueAt_56 N n x1 x5 x6 x7 x8 σ = some (o7, σ') → mWW f (mw0 e) sc0 9 (103, [some (.inr (.inr (31, 0))), some (.inl x1), none, none, none, some (.inl x5), some (.inl x6), some (.inl o7), none], [], σ') → mWW f (mw0 e) sc0 9 (56, [some (.inr (.inr (31, 0))), some (.inl x1), none, none, none, some (.inl x5), some (.inl x6), some (.inl x7), some (.inl x8)], [], σ) := by
  intro n
  induction n with
  | zero =>
    intro x1 x5 x6 x7 x8 σ o7 σ' h hK
    cases h
  | succ n IH =>
    intro x1 x5 x6 x7 x8 σ o7 σ' h hK
    rw [L_X6_valueAt_56_s] at h
    refine m_blk C0 (pX6_ok rfl) kX6_valueAt_ok 31 2 (59, [some (.inr (.inr (31, 0))), some (.inl x1), none, none, none, some (.inl x5), some (.inl x6), some (.inl x7), some (.inl x8)], [.inl 3, .inl x8], σ) (Ps := []) rfl trivial ?_
    refine b_ige C0 kX6_valueAt_ok 33 (off := 44) (tgt := 103) rfl (by decide) (fun hb883 => ?_) (fun hb883 => ?_)
    · replace h := g_pos hb883 h
      cases h
      refine m_mask [true, true, false, false, false, true, true, true, false] (ls' := [some (.inr (.inr (31, 0))), some (.inl x1), none, none, none, some (.inl x5), some (.inl x6), some (.inl x7), none]) rfl ?_
      exact hK
    · replace h := g_neg hb883 h
      refine m_blk C0 (pX6_ok rfl) kX6_valueAt_ok 34 1 (64, [some (.inr (.inr (31, 0))), some (.inl x1), none, none, none, some (.inl x5), some (.inl x6), some (.inl x7), some (.inl x8)], [.inl x7], σ) (Ps := []) rfl trivial ?_
      refine b_eq C0 kX6_valueAt_ok 35 (off := 39) (tgt := 103) rfl (by decide) (fun hb882 => ?_) (fun hb882 => ?_)
      · replace h := g_pos hb882 h
        cases h
        refine m_mask [true, true, false, false, false, true, true, true, false] (ls' := [some (.inr (.inr (31, 0))), some (.inl x1), none, none, none, some (.inl x5), some (.inl x6), some (.inl x7), none]) rfl ?_
        exact hK
      · replace h := g_neg hb882 h
        obtain ⟨hc, h⟩ := g_if h
        refine m_blk C0 (pX6_ok rfl) kX6_valueAt_ok 36 16 (95, [some (.inr (.inr (31, 0))), some (.inl x1), none, none, none, some (.inl x5), some (.inl x6), some (.inl x7), some (.inl x8)], [.inl (o_rem (mw (x7 * (σ 36 x8.toNat ((σ 39 x8.toNat x6.toNat).toNat)))) 32003)], σ) (Ps := [0 ≤ x8 ∧ x8 < 3, 0 ≤ x8 ∧ x8 < 3, 0 ≤ x6 ∧ x6 < 165, 0 ≤ (σ 39 x8.toNat x6.toNat) ∧ (σ 39 x8.toNat x6.toNat) < 9, ¬ (32003 : Int) = 0]) rfl (And.intro hc.1 (And.intro hc.1 (And.intro hc.2.1 (And.intro hc.2.2 (And.intro (by decide) trivial))))) ?_
        refine m_blk C0 (pX6_ok rfl) kX6_valueAt_ok 52 3 (56, [some (.inr (.inr (31, 0))), some (.inl x1), none, none, none, some (.inl x5), some (.inl x6), some (.inl (o_rem (mw (x7 * (σ 36 x8.toNat ((σ 39 x8.toNat x6.toNat).toNat)))) 32003)), some (.inl (mw (x8 + 1)))], [], σ) (Ps := []) rfl trivial ?_
        refine m_mask [true, true, false, false, false, true, true, true, true] (ls' := [some (.inr (.inr (31, 0))), some (.inl x1), none, none, none, some (.inl x5), some (.inl x6), some (.inl (o_rem (mw (x7 * (σ 36 x8.toNat ((σ 39 x8.toNat x6.toNat).toNat)))) 32003)), some (.inl (mw (x8 + 1)))]) rfl ?_
        exact IH _ _ _ _ _ _ _ _ h hK
set_option maxRecDepth 100000 in
set_option maxHeartbeats 4000000 in
theorem p_X6_valueAt_34 {e : mEv} (hG : mGeo (mw0 e) lw_kept) (N : Nat) {f : mFx} (C0 : mCx f (mw0 e) sc0 cX6_valueAt 9 RX6 lw_kept) (hFr : mFr f 2) : ∀ (n : Nat) (x1 : Int) (x5 : Int) (x6 : Int) (σ : mS) (o5 : Int) (σ' : mS), L_X6_valueAt_34 N n x1 x5 x6 σ = some (o5, σ') → mWW f (mw0 e) sc0 9 (120, [none, none, none, none, none, some (.inl o5), none, none, none], [], σ') → mWW f (mw0 e) sc0 9 (34, [some (.inr (.inr (31, 0))), some (.inl x1), none, none, none, some (.inl x5), some (.inl x6), none, none], [], σ) := by
  intro n
  induction n with
  | zero =>
    intro x1 x5 x6 σ o5 σ' h hK
    cases h
  | succ n IH =>
    intro x1 x5 x6 σ o5 σ' h hK
    rw [L_X6_valueAt_34_s] at h
    refine m_blk C0 (pX6_ok rfl) kX6_valueAt_ok 19 2 (39, [some (.inr (.inr (31, 0))), some (.inl x1), none, none, none, some (.inl x5), some (.inl x6), none, none], [.inl 165, .inl x6], σ) (Ps := []) rfl trivial ?_
    refine b_ige C0 kX6_valueAt_ok 21 (off := 81) (tgt := 120) rfl (by decide) (fun hb887 => ?_) (fun hb887 => ?_)
    · replace h := g_pos hb887 h
      cases h
      refine m_mask [false, false, false, false, false, true, false, false, false] (ls' := [none, none, none, none, none, some (.inl x5), none, none, none]) rfl ?_
      exact hK
    · replace h := g_neg hb887 h
      obtain ⟨hc, h⟩ := g_if h
      refine m_blk C0 (pX6_ok rfl) kX6_valueAt_ok 22 9 (56, [some (.inr (.inr (31, 0))), some (.inl x1), none, none, none, some (.inl x5), some (.inl x6), some (.inl (σ 33 x1.toNat x6.toNat)), some (.inl 0)], [], σ) (Ps := [0 ≤ x1 ∧ x1 < 8, 0 ≤ x6 ∧ x6 < 165]) rfl (And.intro hc.1 (And.intro hc.2 trivial)) ?_
      obtain ⟨⟨o885, s884⟩, hq886, h⟩ := g_bind h
      refine m_mask [true, true, false, false, false, true, true, true, true] (ls' := [some (.inr (.inr (31, 0))), some (.inl x1), none, none, none, some (.inl x5), some (.inl x6), some (.inl (σ 33 x1.toNat x6.toNat)), some (.inl 0)]) rfl ?_
      refine p_X6_valueAt_56 hG N C0 hFr N _ _ _ _ _ _ _ _ hq886 ?_
      refine m_blk C0 (pX6_ok rfl) kX6_valueAt_ok 55 8 (34, [some (.inr (.inr (31, 0))), some (.inl x1), none, none, none, some (.inl (o_rem (mw (x5 + o885)) 32003)), some (.inl (mw (x6 + 1))), some (.inl o885), none], [], s884) (Ps := [¬ (32003 : Int) = 0]) rfl (And.intro (by decide) trivial) ?_
      refine m_mask [true, true, false, false, false, true, true, false, false] (ls' := [some (.inr (.inr (31, 0))), some (.inl x1), none, none, none, some (.inl (o_rem (mw (x5 + o885)) 32003)), some (.inl (mw (x6 + 1))), none, none]) rfl ?_
      exact IH _ _ _ _ _ _ h hK
set_option maxRecDepth 100000 in
set_option maxHeartbeats 4000000 in
theorem t_X6_valueAt {e : mEv} (hG : mGeo (mw0 e) lw_kept) (l : Launch) (N : Nat) {a1 : Int} {a2 : Int} {a3 : Int} {a4 : Int} {σ σ' : mS} {v : Int} (h : f_X6_valueAt N a1 a2 a3 a4 σ = some (v, σ')) : mMet l (mw0 e) lw_kept 2 yX6_valueAt cX6_valueAt 9 (some .int) [.inr (.inr (31, 0)), .inl a1, .inl a2, .inl a3, .inl a4] σ (some (.inl v)) σ' := by
  refine mMet_intro (plainFor_of_name (by decide)) hG (Nat.le_of_ble_eq_true rfl) (fun f hl hR C0 hFin => ?_)
  subst hl
  have hFr := mFr_of hR hFin
  unfold f_X6_valueAt at h
  show mWW f (mw0 e) sc0 9 (0, [some (.inr (.inr (31, 0))), some (.inl a1), some (.inl a2), some (.inl a3), some (.inl a4), none, none, none, none], [], σ)
  refine m_blk C0 (pX6_ok rfl) kX6_valueAt_ok 0 3 (3, [some (.inr (.inr (31, 0))), some (.inl a1), some (.inl a2), some (.inl a3), some (.inl a4), none, none, none, none], [.inl a2, .inl 0, .inr (.inr (31, 0))], σ) (Ps := []) rfl trivial ?_
  obtain ⟨⟨v871, s870⟩, hq896, h⟩ := g_bind h
  refine c_SN (rest := [.inl 0, .inr (.inr (31, 0))]) C0 hFr (t_X11_leftOver hG f.2.1 N hq896) lk_X6_97 (k_at kX6_valueAt_ok 3 rfl) rfl rfl rfl (by decide) (by decide) (Nat.le_of_ble_eq_true rfl) ?_
  obtain ⟨s875, hq895, h⟩ := g_bind h
  refine c_V (rest := []) C0 hFr (t_X6_fillLetterPowers hG f.2.1 N hq895) lk_X6_100 (k_at kX6_valueAt_ok 4 rfl) rfl rfl rfl rfl ⟨_, _, rfl⟩ (by decide) (by decide) (Nat.le_of_ble_eq_true rfl) ?_
  refine m_blk C0 (pX6_ok rfl) kX6_valueAt_ok 5 3 (12, [some (.inr (.inr (31, 0))), some (.inl a1), some (.inl a2), some (.inl a3), some (.inl a4), none, none, none, none], [.inl a3, .inl 1, .inr (.inr (31, 0))], s875) (Ps := []) rfl trivial ?_
  obtain ⟨⟨v877, s876⟩, hq894, h⟩ := g_bind h
  refine c_SN (rest := [.inl 1, .inr (.inr (31, 0))]) C0 hFr (t_X11_leftOver hG f.2.1 N hq894) lk_X6_97 (k_at kX6_valueAt_ok 8 rfl) rfl rfl rfl (by decide) (by decide) (Nat.le_of_ble_eq_true rfl) ?_
  obtain ⟨s878, hq893, h⟩ := g_bind h
  refine c_V (rest := []) C0 hFr (t_X6_fillLetterPowers hG f.2.1 N hq893) lk_X6_100 (k_at kX6_valueAt_ok 9 rfl) rfl rfl rfl rfl ⟨_, _, rfl⟩ (by decide) (by decide) (Nat.le_of_ble_eq_true rfl) ?_
  refine m_blk C0 (pX6_ok rfl) kX6_valueAt_ok 10 3 (22, [some (.inr (.inr (31, 0))), some (.inl a1), some (.inl a2), some (.inl a3), some (.inl a4), none, none, none, none], [.inl a4, .inl 2, .inr (.inr (31, 0))], s878) (Ps := []) rfl trivial ?_
  obtain ⟨⟨v880, s879⟩, hq892, h⟩ := g_bind h
  refine c_SN (rest := [.inl 2, .inr (.inr (31, 0))]) C0 hFr (t_X11_leftOver hG f.2.1 N hq892) lk_X6_97 (k_at kX6_valueAt_ok 13 rfl) rfl rfl rfl (by decide) (by decide) (Nat.le_of_ble_eq_true rfl) ?_
  obtain ⟨s881, hq891, h⟩ := g_bind h
  refine c_V (rest := []) C0 hFr (t_X6_fillLetterPowers hG f.2.1 N hq891) lk_X6_100 (k_at kX6_valueAt_ok 14 rfl) rfl rfl rfl rfl ⟨_, _, rfl⟩ (by decide) (by decide) (Nat.le_of_ble_eq_true rfl) ?_
  refine m_blk C0 (pX6_ok rfl) kX6_valueAt_ok 15 4 (34, [some (.inr (.inr (31, 0))), some (.inl a1), some (.inl a2), some (.inl a3), some (.inl a4), some (.inl 0), some (.inl 0), none, none], [], s881) (Ps := []) rfl trivial ?_
  obtain ⟨⟨o889, s888⟩, hq890, h⟩ := g_bind h
  refine m_mask [true, true, false, false, false, true, true, false, false] (ls' := [some (.inr (.inr (31, 0))), some (.inl a1), none, none, none, some (.inl 0), some (.inl 0), none, none]) rfl ?_
  refine p_X6_valueAt_34 hG N C0 hFr N _ _ _ _ _ _ hq890 ?_
  refine m_blk C0 (pX6_ok rfl) kX6_valueAt_ok 63 1 (122, [none, none, none, none, none, some (.inl o889), none, none, none], [.inl o889], s888) (Ps := []) rfl trivial ?_
  cases h
  exact m_iret C0 hFin (k_at kX6_valueAt_ok 64 rfl) (Or.inl rfl)
set_option maxRecDepth 100000 in
set_option maxHeartbeats 4000000 in
theorem t_X11_value {e : mEv} (hG : mGeo (mw0 e) lw_kept) (l : Launch) (N : Nat) {a1 : Int} {a2 : Int} {a3 : Int} {a4 : Int} {σ σ' : mS} {v : Int} (h : f_X11_value N a1 a2 a3 a4 σ = some (v, σ')) : mMet l (mw0 e) lw_kept 3 yX11_value cX11_value 5 (some .int) [.inr (.inr (0, 0)), .inl a1, .inl a2, .inl a3, .inl a4] σ (some (.inl v)) σ' := by
  refine mMet_intro (plainFor_of_name (by decide)) hG (Nat.le_of_ble_eq_true rfl) (fun f hl hR C0 hFin => ?_)
  subst hl
  have hFr := mFr_of hR hFin
  unfold f_X11_value at h
  show mWW f (mw0 e) sc0 5 (0, [some (.inr (.inr (0, 0))), some (.inl a1), some (.inl a2), some (.inl a3), some (.inl a4)], [], σ)
  refine m_blk C0 (pX11_ok rfl) kX11_value_ok 0 3 (5, [some (.inr (.inr (0, 0))), some (.inl a1), some (.inl a2), some (.inl a3), some (.inl a4)], [.inl a1, .inr (.inr (31, 0))], σ) (Ps := []) rfl trivial ?_
  obtain ⟨⟨v869, s868⟩, hq901, h⟩ := g_bind h
  refine c_V (rest := []) C0 hFr (t_X6_has hG f.2.1 N hq901) lk_X11_146 (k_at kX11_value_ok 3 rfl) rfl rfl rfl rfl ⟨_, _, rfl⟩ (by decide) (by decide) (Nat.le_of_ble_eq_true rfl) ?_
  refine b_eq C0 kX11_value_ok 4 (off := 18) (tgt := 26) rfl (by decide) (fun hb900 => ?_) (fun hb900 => ?_)
  · replace h := g_pos hb900 h
    refine m_blk C0 (pX11_ok rfl) kX11_value_ok 13 1 (27, [some (.inr (.inr (0, 0))), some (.inl a1), some (.inl a2), some (.inl a3), some (.inl a4)], [.inl (-1)], s868) (Ps := []) rfl trivial ?_
    cases h
    exact m_iret C0 hFin (k_at kX11_value_ok 14 rfl) (Or.inl rfl)
  · replace h := g_neg hb900 h
    refine m_blk C0 (pX11_ok rfl) kX11_value_ok 5 6 (20, [some (.inr (.inr (0, 0))), some (.inl a1), some (.inl a2), some (.inl a3), some (.inl a4)], [.inl a4, .inl a3, .inl a2, .inl a1, .inr (.inr (31, 0))], s868) (Ps := []) rfl trivial ?_
    obtain ⟨⟨v898, s897⟩, hq899, h⟩ := g_bind h
    refine c_V (rest := []) C0 hFr (t_X6_valueAt hG f.2.1 N hq899) lk_X11_218 (k_at kX11_value_ok 11 rfl) rfl rfl rfl rfl ⟨_, _, rfl⟩ (by decide) (by decide) (Nat.le_of_ble_eq_true rfl) ?_
    refine m_blk C0 (pX11_ok rfl) kX11_value_ok 12 1 (27, [some (.inr (.inr (0, 0))), some (.inl a1), some (.inl a2), some (.inl a3), some (.inl a4)], [.inl v898], s897) (Ps := []) rfl trivial ?_
    cases h
    exact m_iret C0 hFin (k_at kX11_value_ok 14 rfl) (Or.inl rfl)
set_option maxRecDepth 100000 in
set_option maxHeartbeats 4000000 in
theorem p_X2_lead_r7_2 {e : mEv} (hG : mGeo (mw0 e) lw_kept) (N : Nat) {f : mFx} (C0 : mCx f (mw0 e) sc0 cX2_lead 3 RX2 lw_kept) (hFr : mFr f 1) : ∀ (n : Nat) (y1 : Nat) (x2 : Int) (σ : mS) (σ' : mS), L_X2_lead_r7_2 N n y1 x2 σ = some σ' → mWW f (mw0 e) sc0 3 (46, [none, none, none], [], σ') → mWW f (mw0 e) sc0 3 (2, [some (.inr (.inr (66, 0))), some (.inr (.inr (7, y1))), some (.inl x2)], [], σ) := by
  intro n
  induction n with
  | zero =>
    intro y1 x2 σ σ' h hK
    cases h
  | succ n IH =>
    intro y1 x2 σ σ' h hK
    rw [L_X2_lead_r7_2_s] at h
    refine m_blk C0 (pX2_ok rfl) kX2_lead_ok 2 2 (4, [some (.inr (.inr (66, 0))), some (.inr (.inr (7, y1))), some (.inl x2)], [.inl 3, .inl x2], σ) (Ps := []) rfl trivial ?_
    refine b_ige C0 kX2_lead_ok 4 (off := 42) (tgt := 46) rfl (by decide) (fun hb906 => ?_) (fun hb906 => ?_)
    · replace h := g_pos hb906 h
      cases h
      refine m_mask [false, false, false] (ls' := [none, none, none]) rfl ?_
      exact hK
    · replace h := g_neg hb906 h
      obtain ⟨hc, h⟩ := g_if h
      refine m_blk C0 (pX2_ok rfl) kX2_lead_ok 5 5 (14, [some (.inr (.inr (66, 0))), some (.inr (.inr (7, y1))), some (.inl x2)], [.inl (σ 7 y1 x2.toNat), .inr (.inr (70, 0))], σ) (Ps := [0 ≤ x2 ∧ x2 < 3]) rfl (And.intro hc trivial) ?_
      obtain ⟨⟨v903, s902⟩, hq905, h⟩ := g_bind h
      refine c_SN (rest := [.inr (.inr (70, 0))]) C0 hFr (t_X11_indexOfCode hG f.2.1 N hq905) lk_X2_53 (k_at kX2_lead_ok 10 rfl) rfl rfl rfl (by decide) (by decide) (Nat.le_of_ble_eq_true rfl) ?_
      obtain ⟨hc, h⟩ := g_if h
      refine m_blk C0 (pX2_ok rfl) kX2_lead_ok 11 3 (20, [some (.inr (.inr (66, 0))), some (.inr (.inr (7, y1))), some (.inl x2)], [.inl (s902 7 y1 x2.toNat), .inl v903, .inr (.inr (70, 0))], s902) (Ps := [0 ≤ x2 ∧ x2 < 3]) rfl (And.intro hc trivial) ?_
      refine b_ge C0 kX2_lead_ok 14 (off := 13) (tgt := 33) rfl (by decide) (fun hb904 => ?_) (fun hb904 => ?_)
      · replace h := g_pos hb904 h
        obtain ⟨hc, h⟩ := g_if h
        refine m_blk C0 (pX2_ok rfl) kX2_lead_ok 21 5 (40, [some (.inr (.inr (66, 0))), some (.inr (.inr (7, y1))), some (.inl x2)], [], (mup s902 70 0 v903.toNat (s902 67 0 x2.toNat))) (Ps := [0 ≤ x2 ∧ x2 < 3, 0 ≤ v903 ∧ v903 < 3]) rfl (And.intro hc.1 (And.intro hc.2 trivial)) ?_
        refine m_blk C0 (pX2_ok rfl) kX2_lead_ok 26 2 (2, [some (.inr (.inr (66, 0))), some (.inr (.inr (7, y1))), some (.inl (mw (x2 + 1)))], [], (mup s902 70 0 v903.toNat (s902 67 0 x2.toNat))) (Ps := []) rfl trivial ?_
        refine m_mask [true, true, true] (ls' := [some (.inr (.inr (66, 0))), some (.inr (.inr (7, y1))), some (.inl (mw (x2 + 1)))]) rfl ?_
        exact IH _ _ _ _ h hK
      · replace h := g_neg hb904 h
        obtain ⟨hc, h⟩ := g_if h
        refine m_blk C0 (pX2_ok rfl) kX2_lead_ok 15 6 (39, [some (.inr (.inr (66, 0))), some (.inr (.inr (7, y1))), some (.inl x2)], [.inl (mw (-(s902 67 0 x2.toNat))), .inl v903, .inr (.inr (70, 0))], s902) (Ps := [0 ≤ x2 ∧ x2 < 3]) rfl (And.intro hc trivial) ?_
        obtain ⟨hc, h⟩ := g_if h
        refine m_blk C0 (pX2_ok rfl) kX2_lead_ok 25 1 (40, [some (.inr (.inr (66, 0))), some (.inr (.inr (7, y1))), some (.inl x2)], [], (mup s902 70 0 v903.toNat (mw (-(s902 67 0 x2.toNat))))) (Ps := [0 ≤ v903 ∧ v903 < 3]) rfl (And.intro hc trivial) ?_
        refine m_blk C0 (pX2_ok rfl) kX2_lead_ok 26 2 (2, [some (.inr (.inr (66, 0))), some (.inr (.inr (7, y1))), some (.inl (mw (x2 + 1)))], [], (mup s902 70 0 v903.toNat (mw (-(s902 67 0 x2.toNat))))) (Ps := []) rfl trivial ?_
        refine m_mask [true, true, true] (ls' := [some (.inr (.inr (66, 0))), some (.inr (.inr (7, y1))), some (.inl (mw (x2 + 1)))]) rfl ?_
        exact IH _ _ _ _ h hK
set_option maxRecDepth 100000 in
set_option maxHeartbeats 4000000 in
theorem t_X2_lead_r7 {e : mEv} (hG : mGeo (mw0 e) lw_kept) (l : Launch) (N : Nat) {q1 : Nat} {σ σ' : mS} (h : f_X2_lead_r7 N q1 σ = some σ') : mMet l (mw0 e) lw_kept 1 yX2_lead cX2_lead 3 none [.inr (.inr (66, 0)), .inr (.inr (7, q1))] σ none σ' := by
  refine mMet_intro (plainFor_of_name (by decide)) hG (Nat.le_of_ble_eq_true rfl) (fun f hl hR C0 hFin => ?_)
  subst hl
  have hFr := mFr_of hR hFin
  unfold f_X2_lead_r7 at h
  show mWW f (mw0 e) sc0 3 (0, [some (.inr (.inr (66, 0))), some (.inr (.inr (7, q1))), none], [], σ)
  refine m_blk C0 (pX2_ok rfl) kX2_lead_ok 0 2 (2, [some (.inr (.inr (66, 0))), some (.inr (.inr (7, q1))), some (.inl 0)], [], σ) (Ps := []) rfl trivial ?_
  obtain ⟨s907, hq908, h⟩ := g_bind h
  refine m_mask [true, true, true] (ls' := [some (.inr (.inr (66, 0))), some (.inr (.inr (7, q1))), some (.inl 0)]) rfl ?_
  refine p_X2_lead_r7_2 hG N C0 hFr N _ _ _ _ hq908 ?_
  cases h
  exact m_vret C0 hFin (k_at kX2_lead_ok 28 rfl)
