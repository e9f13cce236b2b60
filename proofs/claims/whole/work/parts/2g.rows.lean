set_option maxRecDepth 100000 in
set_option maxHeartbeats 4000000 in
theorem p_X6_averageInto_r28_11 {e : mEv} (hG : mGeo (mw0 e) lw_kept) (N : Nat) {f : mFx} (C0 : mCx f (mw0 e) sc0 cX6_averageInto 7 RX6 lw_kept) (hFr : mFr f 3) : ∀ (n : Nat) (x1 : Int) (x2 : Int) (y4 : Nat) (x5 : Int) (σ : mS) (σ' : mS), L_X6_averageInto_r28_11 N n x1 x2 y4 x5 σ = some σ' → mWW f (mw0 e) sc0 7 (48, [some (.inr (.inr (31, 0))), some (.inl x1), none, some (.inr (.inr (5, 0))), none, none, none], [], σ') → mWW f (mw0 e) sc0 7 (11, [some (.inr (.inr (31, 0))), some (.inl x1), some (.inl x2), some (.inr (.inr (5, 0))), some (.inr (.inr (28, y4))), some (.inl x5), none], [], σ) := by
  intro n
  induction n with
  | zero =>
    intro x1 x2 y4 x5 σ σ' h hK
    cases h
  | succ n IH =>
    intro x1 x2 y4 x5 σ σ' h hK
    rw [L_X6_averageInto_r28_11_s] at h
    refine m_blk C0 (pX6_ok rfl) kX6_averageInto_ok 6 3 (17, [some (.inr (.inr (31, 0))), some (.inl x1), some (.inl x2), some (.inr (.inr (5, 0))), some (.inr (.inr (28, y4))), some (.inl x5), none], [.inl (σ 5 0 0), .inl x5], σ) (Ps := []) rfl trivial ?_
    refine b_ige C0 kX6_averageInto_ok 9 (off := 31) (tgt := 48) rfl (by decide) (fun hb668 => ?_) (fun hb668 => ?_)
    · replace h := g_pos hb668 h
      cases h
      refine m_mask [true, true, false, true, false, false, false] (ls' := [some (.inr (.inr (31, 0))), some (.inl x1), none, some (.inr (.inr (5, 0))), none, none, none]) rfl ?_
      exact hK
    · replace h := g_neg hb668 h
      obtain ⟨hc, h⟩ := g_if h
      refine m_blk C0 (pX6_ok rfl) kX6_averageInto_ok 10 12 (39, [some (.inr (.inr (31, 0))), some (.inl x1), some (.inl x2), some (.inr (.inr (5, 0))), some (.inr (.inr (28, y4))), some (.inl x5), none], [.inl (σ 28 y4 x5.toNat), .inr (.inr (7, x5.toNat)), .inr (.inr (33, x2.toNat)), .inr (.inr (31, 0))], σ) (Ps := [0 ≤ x2 ∧ x2 < 8, 0 ≤ x5 ∧ x5 < 48, 0 ≤ x5 ∧ x5 < 48]) rfl (And.intro hc.1 (And.intro hc.2 (And.intro hc.2 trivial))) ?_
      obtain ⟨s666, hq667, h⟩ := g_bind h
      refine c_V (rest := []) C0 hFr (t_X6_addTurned_r33_r7 hG f.2.1 N hq667) lk_X6_64 (k_at kX6_averageInto_ok 22 rfl) rfl rfl rfl rfl ⟨_, _, rfl⟩ (by decide) (by decide) (Nat.le_of_ble_eq_true rfl) ?_
      refine m_blk C0 (pX6_ok rfl) kX6_averageInto_ok 23 2 (11, [some (.inr (.inr (31, 0))), some (.inl x1), some (.inl x2), some (.inr (.inr (5, 0))), some (.inr (.inr (28, y4))), some (.inl (mw (x5 + 1))), none], [], s666) (Ps := []) rfl trivial ?_
      refine m_mask [true, true, true, true, true, true, false] (ls' := [some (.inr (.inr (31, 0))), some (.inl x1), some (.inl x2), some (.inr (.inr (5, 0))), some (.inr (.inr (28, y4))), some (.inl (mw (x5 + 1))), none]) rfl ?_
      exact IH _ _ _ _ _ _ h hK
set_option maxRecDepth 100000 in
set_option maxHeartbeats 4000000 in
theorem p_X6_averageInto_r28_60 {e : mEv} (hG : mGeo (mw0 e) lw_kept) (N : Nat) {f : mFx} (C0 : mCx f (mw0 e) sc0 cX6_averageInto 7 RX6 lw_kept) (hFr : mFr f 3) : ∀ (n : Nat) (x1 : Int) (x5 : Int) (x6 : Int) (σ : mS) (σ' : mS), L_X6_averageInto_r28_60 N n x1 x5 x6 σ = some σ' → mWW f (mw0 e) sc0 7 (95, [some (.inr (.inr (31, 0))), some (.inl x1), none, none, none, none, none], [], σ') → mWW f (mw0 e) sc0 7 (60, [some (.inr (.inr (31, 0))), some (.inl x1), none, none, none, some (.inl x5), some (.inl x6)], [], σ) := by
  intro n
  induction n with
  | zero =>
    intro x1 x5 x6 σ σ' h hK
    cases h
  | succ n IH =>
    intro x1 x5 x6 σ σ' h hK
    rw [L_X6_averageInto_r28_60_s] at h
    refine m_blk C0 (pX6_ok rfl) kX6_averageInto_ok 31 2 (65, [some (.inr (.inr (31, 0))), some (.inl x1), none, none, none, some (.inl x5), some (.inl x6)], [.inl 165, .inl x6], σ) (Ps := []) rfl trivial ?_
    refine b_ige C0 kX6_averageInto_ok 33 (off := 30) (tgt := 95) rfl (by decide) (fun hb672 => ?_) (fun hb672 => ?_)
    · replace h := g_pos hb672 h
      cases h
      refine m_mask [true, true, false, false, false, false, false] (ls' := [some (.inr (.inr (31, 0))), some (.inl x1), none, none, none, none, none]) rfl ?_
      exact hK
    · replace h := g_neg hb672 h
      obtain ⟨hc, h⟩ := g_if h
      refine m_blk C0 (pX6_ok rfl) kX6_averageInto_ok 34 12 (89, [some (.inr (.inr (31, 0))), some (.inl x1), none, none, none, some (.inl x5), some (.inl x6)], [], (mup σ 34 0 x6.toNat (o_rem (mw ((σ 34 0 x6.toNat) * x5)) 32003))) (Ps := [0 ≤ x6 ∧ x6 < 165, ¬ (32003 : Int) = 0, 0 ≤ x6 ∧ x6 < 165]) rfl (And.intro hc (And.intro (by decide) (And.intro hc trivial))) ?_
      refine m_blk C0 (pX6_ok rfl) kX6_averageInto_ok 46 2 (60, [some (.inr (.inr (31, 0))), some (.inl x1), none, none, none, some (.inl x5), some (.inl (mw (x6 + 1)))], [], (mup σ 34 0 x6.toNat (o_rem (mw ((σ 34 0 x6.toNat) * x5)) 32003))) (Ps := []) rfl trivial ?_
      refine m_mask [true, true, false, false, false, true, true] (ls' := [some (.inr (.inr (31, 0))), some (.inl x1), none, none, none, some (.inl x5), some (.inl (mw (x6 + 1)))]) rfl ?_
      exact IH _ _ _ _ _ h hK
set_option maxRecDepth 100000 in
set_option maxHeartbeats 4000000 in
theorem t_X6_averageInto_r28 {e : mEv} (hG : mGeo (mw0 e) lw_kept) (l : Launch) (N : Nat) {a1 : Int} {a2 : Int} {q4 : Nat} {σ σ' : mS} (h : f_X6_averageInto_r28 N a1 a2 q4 σ = some σ') : mMet l (mw0 e) lw_kept 3 yX6_averageInto cX6_averageInto 7 none [.inr (.inr (31, 0)), .inl a1, .inl a2, .inr (.inr (5, 0)), .inr (.inr (28, q4))] σ none σ' := by
  refine mMet_intro (plainFor_of_name (by decide)) hG (Nat.le_of_ble_eq_true rfl) (fun f hl hR C0 hFin => ?_)
  subst hl
  have hFr := mFr_of hR hFin
  unfold f_X6_averageInto_r28 at h
  show mWW f (mw0 e) sc0 7 (0, [some (.inr (.inr (31, 0))), some (.inl a1), some (.inl a2), some (.inr (.inr (5, 0))), some (.inr (.inr (28, q4))), none, none], [], σ)
  refine m_blk C0 (pX6_ok rfl) kX6_averageInto_ok 0 3 (5, [some (.inr (.inr (31, 0))), some (.inl a1), some (.inl a2), some (.inr (.inr (5, 0))), some (.inr (.inr (28, q4))), none, none], [.inl 0, .inr (.inr (34, 0))], σ) (Ps := []) rfl trivial ?_
  obtain ⟨s665, hq679, h⟩ := g_bind h
  refine c_S (rest := []) C0 hFr (t_J7_fill_53178_r34 hG f.2.1 N hq679) lk_X6_33 (k_at kX6_averageInto_ok 3 rfl) rfl rfl rfl (by decide) (by decide) (Nat.le_of_ble_eq_true rfl) ?_
  refine m_blk C0 (pX6_ok rfl) kX6_averageInto_ok 4 2 (11, [some (.inr (.inr (31, 0))), some (.inl a1), some (.inl a2), some (.inr (.inr (5, 0))), some (.inr (.inr (28, q4))), some (.inl 0), none], [], s665) (Ps := []) rfl trivial ?_
  obtain ⟨s669, hq678, h⟩ := g_bind h
  refine m_mask [true, true, true, true, true, true, false] (ls' := [some (.inr (.inr (31, 0))), some (.inl a1), some (.inl a2), some (.inr (.inr (5, 0))), some (.inr (.inr (28, q4))), some (.inl 0), none]) rfl ?_
  refine p_X6_averageInto_r28_11 hG N C0 hFr N _ _ _ _ _ _ hq678 ?_
  refine m_blk C0 (pX6_ok rfl) kX6_averageInto_ok 25 2 (52, [some (.inr (.inr (31, 0))), some (.inl a1), none, some (.inr (.inr (5, 0))), none, none, none], [.inl (s669 5 0 0)], s669) (Ps := []) rfl trivial ?_
  obtain ⟨⟨v671, s670⟩, hq677, h⟩ := g_bind h
  refine c_SN (rest := []) C0 hFr (t_X11_inverse hG f.2.1 N hq677) lk_X6_87 (k_at kX6_averageInto_ok 27 rfl) rfl rfl rfl (by decide) (by decide) (Nat.le_of_ble_eq_true rfl) ?_
  refine m_blk C0 (pX6_ok rfl) kX6_averageInto_ok 28 3 (60, [some (.inr (.inr (31, 0))), some (.inl a1), none, some (.inr (.inr (5, 0))), none, some (.inl v671), some (.inl 0)], [], s670) (Ps := []) rfl trivial ?_
  obtain ⟨s673, hq676, h⟩ := g_bind h
  refine m_mask [true, true, false, false, false, true, true] (ls' := [some (.inr (.inr (31, 0))), some (.inl a1), none, none, none, some (.inl v671), some (.inl 0)]) rfl ?_
  refine p_X6_averageInto_r28_60 hG N C0 hFr N _ _ _ _ _ hq676 ?_
  refine m_blk C0 (pX6_ok rfl) kX6_averageInto_ok 48 2 (97, [some (.inr (.inr (31, 0))), some (.inl a1), none, none, none, none, none], [.inl a1, .inr (.inr (31, 0))], s673) (Ps := []) rfl trivial ?_
  obtain ⟨s674, hq675, h⟩ := g_bind h
  refine c_V (rest := []) C0 hFr (t_X6_keepAside hG f.2.1 N hq675) lk_X6_54 (k_at kX6_averageInto_ok 50 rfl) rfl rfl rfl rfl ⟨_, _, rfl⟩ (by decide) (by decide) (Nat.le_of_ble_eq_true rfl) ?_
  cases h
  exact m_vret C0 hFin (k_at kX6_averageInto_ok 51 rfl)
set_option maxRecDepth 100000 in
set_option maxHeartbeats 4000000 in
theorem t_X11_mean {e : mEv} (hG : mGeo (mw0 e) lw_kept) (l : Launch) (N : Nat) {a1 : Int} {a2 : Int} {a3 : Int} {σ σ' : mS} {v : Int} (h : f_X11_mean N a1 a2 a3 σ = some (v, σ')) : mMet l (mw0 e) lw_kept 4 yX11_mean cX11_mean 4 (some .int) [.inr (.inr (0, 0)), .inl a1, .inl a2, .inl a3] σ (some (.inl v)) σ' := by
  refine mMet_intro (plainFor_of_name (by decide)) hG (Nat.le_of_ble_eq_true rfl) (fun f hl hR C0 hFin => ?_)
  subst hl
  have hFr := mFr_of hR hFin
  unfold f_X11_mean at h
  show mWW f (mw0 e) sc0 4 (0, [some (.inr (.inr (0, 0))), some (.inl a1), some (.inl a2), some (.inl a3)], [], σ)
  refine m_blk C0 (pX11_ok rfl) kX11_mean_ok 0 3 (5, [some (.inr (.inr (0, 0))), some (.inl a1), some (.inl a2), some (.inl a3)], [.inl a1, .inr (.inr (31, 0))], σ) (Ps := []) rfl trivial ?_
  obtain ⟨⟨v660, s659⟩, hq690, h⟩ := g_bind h
  refine c_V (rest := []) C0 hFr (t_X6_has hG f.2.1 N hq690) lk_X11_146 (k_at kX11_mean_ok 3 rfl) rfl rfl rfl rfl ⟨_, _, rfl⟩ (by decide) (by decide) (Nat.le_of_ble_eq_true rfl) ?_
  refine b_eq C0 kX11_mean_ok 4 (off := 25) (tgt := 33) rfl (by decide) (fun hb689 => ?_) (fun hb689 => ?_)
  · replace h := g_pos hb689 h
    refine m_blk C0 (pX11_ok rfl) kX11_mean_ok 15 1 (35, [some (.inr (.inr (0, 0))), some (.inl a1), some (.inl a2), some (.inl a3)], [.inl (-2)], s659) (Ps := []) rfl trivial ?_
    cases h
    exact m_iret C0 hFin (k_at kX11_mean_ok 16 rfl) (Or.inl rfl)
  · replace h := g_neg hb689 h
    refine m_blk C0 (pX11_ok rfl) kX11_mean_ok 5 3 (16, [some (.inr (.inr (0, 0))), some (.inl a1), some (.inl a2), some (.inl a3)], [.inl a2, .inr (.inr (31, 0))], s659) (Ps := []) rfl trivial ?_
    obtain ⟨⟨v662, s661⟩, hq688, h⟩ := g_bind h
    refine c_V (rest := []) C0 hFr (t_X6_has hG f.2.1 N hq688) lk_X11_146 (k_at kX11_mean_ok 8 rfl) rfl rfl rfl rfl ⟨_, _, rfl⟩ (by decide) (by decide) (Nat.le_of_ble_eq_true rfl) ?_
    refine b_eq C0 kX11_mean_ok 9 (off := 14) (tgt := 33) rfl (by decide) (fun hb687 => ?_) (fun hb687 => ?_)
    · replace h := g_pos hb687 h
      refine m_blk C0 (pX11_ok rfl) kX11_mean_ok 15 1 (35, [some (.inr (.inr (0, 0))), some (.inl a1), some (.inl a2), some (.inl a3)], [.inl (-2)], s661) (Ps := []) rfl trivial ?_
      cases h
      exact m_iret C0 hFin (k_at kX11_mean_ok 16 rfl) (Or.inl rfl)
    · replace h := g_neg hb687 h
      refine m_blk C0 (pX11_ok rfl) kX11_mean_ok 10 3 (27, [some (.inr (.inr (0, 0))), some (.inl a1), some (.inl a2), some (.inl a3)], [.inl a3, .inr (.inr (26, 0))], s661) (Ps := []) rfl trivial ?_
      obtain ⟨⟨v664, s663⟩, hq686, h⟩ := g_bind h
      refine c_V (rest := []) C0 hFr (t_X9_has hG f.2.1 N hq686) lk_X11_142 (k_at kX11_mean_ok 13 rfl) rfl rfl rfl rfl ⟨_, _, rfl⟩ (by decide) (by decide) (Nat.le_of_ble_eq_true rfl) ?_
      refine b_ne C0 kX11_mean_ok 14 (off := 6) (tgt := 36) rfl (by decide) (fun hb685 => ?_) (fun hb685 => ?_)
      · replace h := g_neg hb685 h
        obtain ⟨hc, h⟩ := g_if h
        refine m_blk C0 (pX11_ok rfl) kX11_mean_ok 17 11 (55, [some (.inr (.inr (0, 0))), some (.inl a1), some (.inl a2), some (.inl a3)], [.inr (.inr (28, a3.toNat)), .inr (.inr (5, 0)), .inl a2, .inl a1, .inr (.inr (31, 0))], s663) (Ps := [0 ≤ a3 ∧ a3 < 16]) rfl (And.intro hc trivial) ?_
        obtain ⟨s680, hq684, h⟩ := g_bind h
        refine c_V (rest := []) C0 hFr (t_X6_averageInto_r28 hG f.2.1 N hq684) lk_X11_177 (k_at kX11_mean_ok 28 rfl) rfl rfl rfl rfl ⟨_, _, rfl⟩ (by decide) (by decide) (Nat.le_of_ble_eq_true rfl) ?_
        refine m_blk C0 (pX11_ok rfl) kX11_mean_ok 29 3 (63, [some (.inr (.inr (0, 0))), some (.inl a1), some (.inl a2), some (.inl a3)], [.inl a1, .inr (.inr (31, 0))], s680) (Ps := []) rfl trivial ?_
        obtain ⟨⟨v682, s681⟩, hq683, h⟩ := g_bind h
        refine c_V (rest := []) C0 hFr (t_X6_degreeOf hG f.2.1 N hq683) lk_X11_162 (k_at kX11_mean_ok 32 rfl) rfl rfl rfl rfl ⟨_, _, rfl⟩ (by decide) (by decide) (Nat.le_of_ble_eq_true rfl) ?_
        cases h
        exact m_iret C0 hFin (k_at kX11_mean_ok 33 rfl) (Or.inl rfl)
      · replace h := g_pos hb685 h
        refine m_blk C0 (pX11_ok rfl) kX11_mean_ok 15 1 (35, [some (.inr (.inr (0, 0))), some (.inl a1), some (.inl a2), some (.inl a3)], [.inl (-2)], s663) (Ps := []) rfl trivial ?_
        cases h
        exact m_iret C0 hFin (k_at kX11_mean_ok 16 rfl) (Or.inl rfl)
set_option maxRecDepth 100000 in
set_option maxHeartbeats 4000000 in
theorem p_X6_isLeft_r28_22 {e : mEv} (hG : mGeo (mw0 e) lw_kept) (N : Nat) {f : mFx} (C0 : mCx f (mw0 e) sc0 cX6_isLeft 8 RX6 lw_kept) (hFr : mFr f 2) : ∀ (n : Nat) (y3 : Nat) (y4 : Nat) (x5 : Int) (x6 : Int) (σ : mS) (out : (Int × mS) ⊕ (mS)), L_X6_isLeft_r28_22 N n y3 y4 x5 x6 σ = some out → (∀ v s, out = .inl (v, s) → mFin f (mw0 e) (some .boolean) (some (.inl v)) s) → (∀  (s : mS), out = .inr s → mWW f (mw0 e) sc0 8 (91, [some (.inr (.inr (31, 0))), none, some (.inr (.inr (5, 0))), some (.inr (.inr (28, y3))), some (.inr (.inr (33, y4))), some (.inl x5), none, none], [], s)) → mWW f (mw0 e) sc0 8 (22, [some (.inr (.inr (31, 0))), none, some (.inr (.inr (5, 0))), some (.inr (.inr (28, y3))), some (.inr (.inr (33, y4))), some (.inl x5), some (.inl x6), none], [], σ) := by
  intro n
  induction n with
  | zero =>
    intro y3 y4 x5 x6 σ out h hX hK
    cases h
  | succ n IH =>
    intro y3 y4 x5 x6 σ out h hX hK
    rw [L_X6_isLeft_r28_22_s] at h
    obtain ⟨hc, h⟩ := g_if h
    refine m_blk C0 (pX6_ok rfl) kX6_isLeft_ok 12 3 (27, [some (.inr (.inr (31, 0))), none, some (.inr (.inr (5, 0))), some (.inr (.inr (28, y3))), some (.inr (.inr (33, y4))), some (.inl x5), some (.inl x6), none], [.inl (σ 33 y4 x5.toNat)], σ) (Ps := [0 ≤ x5 ∧ x5 < 165]) rfl (And.intro hc trivial) ?_
    refine b_eq C0 kX6_isLeft_ok 15 (off := 64) (tgt := 91) rfl (by decide) (fun hb706 => ?_) (fun hb706 => ?_)
    · replace h := g_pos hb706 h
      cases h
      refine m_mask [true, false, true, true, true, true, false, false] (ls' := [some (.inr (.inr (31, 0))), none, some (.inr (.inr (5, 0))), some (.inr (.inr (28, y3))), some (.inr (.inr (33, y4))), some (.inl x5), none, none]) rfl ?_
      exact hK _ rfl
    · replace h := g_neg hb706 h
      refine m_blk C0 (pX6_ok rfl) kX6_isLeft_ok 16 3 (36, [some (.inr (.inr (31, 0))), none, some (.inr (.inr (5, 0))), some (.inr (.inr (28, y3))), some (.inr (.inr (33, y4))), some (.inl x5), some (.inl x6), none], [.inl (σ 5 0 0), .inl x6], σ) (Ps := []) rfl trivial ?_
      refine b_ige C0 kX6_isLeft_ok 19 (off := 55) (tgt := 91) rfl (by decide) (fun hb705 => ?_) (fun hb705 => ?_)
      · replace h := g_pos hb705 h
        cases h
        refine m_mask [true, false, true, true, true, true, false, false] (ls' := [some (.inr (.inr (31, 0))), none, some (.inr (.inr (5, 0))), some (.inr (.inr (28, y3))), some (.inr (.inr (33, y4))), some (.inl x5), none, none]) rfl ?_
        exact hK _ rfl
      · replace h := g_neg hb705 h
        obtain ⟨hc, h⟩ := g_if h
        refine m_blk C0 (pX6_ok rfl) kX6_isLeft_ok 20 7 (52, [some (.inr (.inr (31, 0))), none, some (.inr (.inr (5, 0))), some (.inr (.inr (28, y3))), some (.inr (.inr (33, y4))), some (.inl x5), some (.inl x6), none], [.inl x5, .inr (.inr (7, x6.toNat)), .inr (.inr (37, 0))], σ) (Ps := [0 ≤ x6 ∧ x6 < 48]) rfl (And.intro hc trivial) ?_
        obtain ⟨⟨v696, s695⟩, hq704, h⟩ := g_bind h
        refine c_V (rest := []) C0 hFr (t_X7_turnedCode_r7 hG f.2.1 N hq704) lk_X6_68 (k_at kX6_isLeft_ok 27 rfl) rfl rfl rfl rfl ⟨_, _, rfl⟩ (by decide) (by decide) (Nat.le_of_ble_eq_true rfl) ?_
        refine m_blk C0 (pX6_ok rfl) kX6_isLeft_ok 28 3 (61, [some (.inr (.inr (31, 0))), none, some (.inr (.inr (5, 0))), some (.inr (.inr (28, y3))), some (.inr (.inr (33, y4))), some (.inl x5), some (.inl x6), some (.inl v696)], [.inl v696, .inr (.inr (33, y4))], s695) (Ps := []) rfl trivial ?_
        obtain ⟨⟨v698, s697⟩, hq703, h⟩ := g_bind h
        refine c_SN (rest := [.inr (.inr (33, y4))]) C0 hFr (t_X11_indexOfCode hG f.2.1 N hq703) lk_X6_72 (k_at kX6_isLeft_ok 31 rfl) rfl rfl rfl (by decide) (by decide) (Nat.le_of_ble_eq_true rfl) ?_
        obtain ⟨hc, h⟩ := g_if h
        refine m_blk C0 (pX6_ok rfl) kX6_isLeft_ok 32 9 (77, [some (.inr (.inr (31, 0))), none, some (.inr (.inr (5, 0))), some (.inr (.inr (28, y3))), some (.inr (.inr (33, y4))), some (.inl x5), some (.inl x6), some (.inl v696)], [.inl (s697 33 y4 x5.toNat), .inl (mw (v696 * (s697 28 y3 x6.toNat))), .inl (s697 33 y4 v698.toNat)], s697) (Ps := [0 ≤ v698 ∧ v698 < 165, 0 ≤ x6 ∧ x6 < 48, 0 ≤ x5 ∧ x5 < 165]) rfl (And.intro hc.1 (And.intro hc.2.1 (And.intro hc.2.2 trivial))) ?_
        obtain ⟨⟨v700, s699⟩, hq702, h⟩ := g_bind h
        refine c_SN (rest := [.inl (s697 33 y4 v698.toNat)]) C0 hFr (t_X11_signedNumber hG f.2.1 N hq702) lk_X6_75 (k_at kX6_isLeft_ok 41 rfl) rfl rfl rfl (by decide) (by decide) (Nat.le_of_ble_eq_true rfl) ?_
        refine b_ieq C0 kX6_isLeft_ok 42 (off := 5) (tgt := 85) rfl (by decide) (fun hb701 => ?_) (fun hb701 => ?_)
        · replace h := g_pos hb701 h
          refine m_blk C0 (pX6_ok rfl) kX6_isLeft_ok 45 2 (22, [some (.inr (.inr (31, 0))), none, some (.inr (.inr (5, 0))), some (.inr (.inr (28, y3))), some (.inr (.inr (33, y4))), some (.inl x5), some (.inl (mw (x6 + 1))), some (.inl v696)], [], s699) (Ps := []) rfl trivial ?_
          refine m_mask [true, false, true, true, true, true, true, false] (ls' := [some (.inr (.inr (31, 0))), none, some (.inr (.inr (5, 0))), some (.inr (.inr (28, y3))), some (.inr (.inr (33, y4))), some (.inl x5), some (.inl (mw (x6 + 1))), none]) rfl ?_
          exact IH _ _ _ _ _ _ h hX hK
        · replace h := g_neg hb701 h
          refine m_blk C0 (pX6_ok rfl) kX6_isLeft_ok 43 1 (84, [some (.inr (.inr (31, 0))), none, some (.inr (.inr (5, 0))), some (.inr (.inr (28, y3))), some (.inr (.inr (33, y4))), some (.inl x5), some (.inl x6), some (.inl v696)], [.inl 0], s699) (Ps := []) rfl trivial ?_
          cases h
          exact m_iret C0 (hX _ _ rfl) (k_at kX6_isLeft_ok 44 rfl) (Or.inr ⟨rfl, by decide⟩)
set_option maxRecDepth 100000 in
set_option maxHeartbeats 4000000 in
theorem p_X6_isLeft_r28_11 {e : mEv} (hG : mGeo (mw0 e) lw_kept) (N : Nat) {f : mFx} (C0 : mCx f (mw0 e) sc0 cX6_isLeft 8 RX6 lw_kept) (hFr : mFr f 2) : ∀ (n : Nat) (y3 : Nat) (y4 : Nat) (x5 : Int) (σ : mS) (out : (Int × mS) ⊕ (mS)), L_X6_isLeft_r28_11 N n y3 y4 x5 σ = some out → (∀ v s, out = .inl (v, s) → mFin f (mw0 e) (some .boolean) (some (.inl v)) s) → (∀  (s : mS), out = .inr s → mWW f (mw0 e) sc0 8 (97, [none, none, none, none, none, none, none, none], [], s)) → mWW f (mw0 e) sc0 8 (11, [some (.inr (.inr (31, 0))), none, some (.inr (.inr (5, 0))), some (.inr (.inr (28, y3))), some (.inr (.inr (33, y4))), some (.inl x5), none, none], [], σ) := by
  intro n
  induction n with
  | zero =>
    intro y3 y4 x5 σ out h hX hK
    cases h
  | succ n IH =>
    intro y3 y4 x5 σ out h hX hK
    rw [L_X6_isLeft_r28_11_s] at h
    refine m_blk C0 (pX6_ok rfl) kX6_isLeft_ok 7 2 (16, [some (.inr (.inr (31, 0))), none, some (.inr (.inr (5, 0))), some (.inr (.inr (28, y3))), some (.inr (.inr (33, y4))), some (.inl x5), none, none], [.inl 165, .inl x5], σ) (Ps := []) rfl trivial ?_
    refine b_ige C0 kX6_isLeft_ok 9 (off := 81) (tgt := 97) rfl (by decide) (fun hb711 => ?_) (fun hb711 => ?_)
    · replace h := g_pos hb711 h
      cases h
      refine m_mask [false, false, false, false, false, false, false, false] (ls' := [none, none, none, none, none, none, none, none]) rfl ?_
      exact hK _ rfl
    · replace h := g_neg hb711 h
      refine m_blk C0 (pX6_ok rfl) kX6_isLeft_ok 10 2 (22, [some (.inr (.inr (31, 0))), none, some (.inr (.inr (5, 0))), some (.inr (.inr (28, y3))), some (.inr (.inr (33, y4))), some (.inl x5), some (.inl 0), none], [], σ) (Ps := []) rfl trivial ?_
      obtain ⟨o, hq708, h⟩ := g_bind h
      refine m_mask [true, false, true, true, true, true, true, false] (ls' := [some (.inr (.inr (31, 0))), none, some (.inr (.inr (5, 0))), some (.inr (.inr (28, y3))), some (.inr (.inr (33, y4))), some (.inl x5), some (.inl 0), none]) rfl ?_
      rcases o with ⟨v709, s710⟩ | s707
      · cases h
        exact p_X6_isLeft_r28_22 hG N C0 hFr N _ _ _ _ _ _ hq708 (fun v s e => by cases e; exact hX _ _ rfl) (fun _ e => by cases e)
      · refine p_X6_isLeft_r28_22 hG N C0 hFr N _ _ _ _ _ _ hq708 (fun v s e => by cases e) (fun _ e => ?_)
        cases e
        refine m_blk C0 (pX6_ok rfl) kX6_isLeft_ok 47 2 (11, [some (.inr (.inr (31, 0))), none, some (.inr (.inr (5, 0))), some (.inr (.inr (28, y3))), some (.inr (.inr (33, y4))), some (.inl (mw (x5 + 1))), none, none], [], s707) (Ps := []) rfl trivial ?_
        refine m_mask [true, false, true, true, true, true, false, false] (ls' := [some (.inr (.inr (31, 0))), none, some (.inr (.inr (5, 0))), some (.inr (.inr (28, y3))), some (.inr (.inr (33, y4))), some (.inl (mw (x5 + 1))), none, none]) rfl ?_
        exact IH _ _ _ _ _ h hX hK
set_option maxRecDepth 100000 in
set_option maxHeartbeats 4000000 in
theorem t_X6_isLeft_r28 {e : mEv} (hG : mGeo (mw0 e) lw_kept) (l : Launch) (N : Nat) {a1 : Int} {q3 : Nat} {σ σ' : mS} {v : Int} (h : f_X6_isLeft_r28 N a1 q3 σ = some (v, σ')) : mMet l (mw0 e) lw_kept 2 yX6_isLeft cX6_isLeft 8 (some .boolean) [.inr (.inr (31, 0)), .inl a1, .inr (.inr (5, 0)), .inr (.inr (28, q3))] σ (some (.inl v)) σ' := by
  refine mMet_intro (plainFor_of_name (by decide)) hG (Nat.le_of_ble_eq_true rfl) (fun f hl hR C0 hFin => ?_)
  subst hl
  have hFr := mFr_of hR hFin
  unfold f_X6_isLeft_r28 at h
  show mWW f (mw0 e) sc0 8 (0, [some (.inr (.inr (31, 0))), some (.inl a1), some (.inr (.inr (5, 0))), some (.inr (.inr (28, q3))), none, none, none, none], [], σ)
  obtain ⟨hc, h⟩ := g_if h
  refine m_blk C0 (pX6_ok rfl) kX6_isLeft_ok 0 7 (11, [some (.inr (.inr (31, 0))), some (.inl a1), some (.inr (.inr (5, 0))), some (.inr (.inr (28, q3))), some (.inr (.inr (33, a1.toNat))), some (.inl 0), none, none], [], σ) (Ps := [0 ≤ a1 ∧ a1 < 8]) rfl (And.intro hc trivial) ?_
  obtain ⟨o, hq713, h⟩ := g_bind h
  refine m_mask [true, false, true, true, true, true, false, false] (ls' := [some (.inr (.inr (31, 0))), none, some (.inr (.inr (5, 0))), some (.inr (.inr (28, q3))), some (.inr (.inr (33, a1.toNat))), some (.inl 0), none, none]) rfl ?_
  rcases o with ⟨v714, s715⟩ | s712
  · cases h
    exact p_X6_isLeft_r28_11 hG N C0 hFr N _ _ _ _ _ hq713 (fun v s e => by cases e; exact hFin) (fun _ e => by cases e)
  · refine p_X6_isLeft_r28_11 hG N C0 hFr N _ _ _ _ _ hq713 (fun v s e => by cases e) (fun _ e => ?_)
    cases e
    refine m_blk C0 (pX6_ok rfl) kX6_isLeft_ok 49 1 (98, [none, none, none, none, none, none, none, none], [.inl 1], s712) (Ps := []) rfl trivial ?_
    cases h
    exact m_iret C0 hFin (k_at kX6_isLeft_ok 50 rfl) (Or.inr ⟨rfl, by decide⟩)
set_option maxRecDepth 100000 in
set_option maxHeartbeats 4000000 in
theorem t_X11_stays {e : mEv} (hG : mGeo (mw0 e) lw_kept) (l : Launch) (N : Nat) {a1 : Int} {a2 : Int} {σ σ' : mS} {v : Int} (h : f_X11_stays N a1 a2 σ = some (v, σ')) : mMet l (mw0 e) lw_kept 3 yX11_stays cX11_stays 3 (some .int) [.inr (.inr (0, 0)), .inl a1, .inl a2] σ (some (.inl v)) σ' := by
  refine mMet_intro (plainFor_of_name (by decide)) hG (Nat.le_of_ble_eq_true rfl) (fun f hl hR C0 hFin => ?_)
  subst hl
  have hFr := mFr_of hR hFin
  unfold f_X11_stays at h
  show mWW f (mw0 e) sc0 3 (0, [some (.inr (.inr (0, 0))), some (.inl a1), some (.inl a2)], [], σ)
  refine m_blk C0 (pX11_ok rfl) kX11_stays_ok 0 3 (5, [some (.inr (.inr (0, 0))), some (.inl a1), some (.inl a2)], [.inl a1, .inr (.inr (31, 0))], σ) (Ps := []) rfl trivial ?_
  obtain ⟨⟨v692, s691⟩, hq723, h⟩ := g_bind h
  refine c_V (rest := []) C0 hFr (t_X6_has hG f.2.1 N hq723) lk_X11_146 (k_at kX11_stays_ok 3 rfl) rfl rfl rfl rfl ⟨_, _, rfl⟩ (by decide) (by decide) (Nat.le_of_ble_eq_true rfl) ?_
  refine b_eq C0 kX11_stays_ok 4 (off := 14) (tgt := 22) rfl (by decide) (fun hb722 => ?_) (fun hb722 => ?_)
  · replace h := g_pos hb722 h
    refine m_blk C0 (pX11_ok rfl) kX11_stays_ok 10 1 (23, [some (.inr (.inr (0, 0))), some (.inl a1), some (.inl a2)], [.inl (-1)], s691) (Ps := []) rfl trivial ?_
    cases h
    exact m_iret C0 hFin (k_at kX11_stays_ok 11 rfl) (Or.inl rfl)
  · replace h := g_neg hb722 h
    refine m_blk C0 (pX11_ok rfl) kX11_stays_ok 5 3 (16, [some (.inr (.inr (0, 0))), some (.inl a1), some (.inl a2)], [.inl a2, .inr (.inr (26, 0))], s691) (Ps := []) rfl trivial ?_
    obtain ⟨⟨v694, s693⟩, hq721, h⟩ := g_bind h
    refine c_V (rest := []) C0 hFr (t_X9_has hG f.2.1 N hq721) lk_X11_142 (k_at kX11_stays_ok 8 rfl) rfl rfl rfl rfl ⟨_, _, rfl⟩ (by decide) (by decide) (Nat.le_of_ble_eq_true rfl) ?_
    refine b_ne C0 kX11_stays_ok 9 (off := 5) (tgt := 24) rfl (by decide) (fun hb720 => ?_) (fun hb720 => ?_)
    · replace h := g_neg hb720 h
      obtain ⟨hc, h⟩ := g_if h
      refine m_blk C0 (pX11_ok rfl) kX11_stays_ok 12 10 (42, [some (.inr (.inr (0, 0))), some (.inl a1), some (.inl a2)], [.inr (.inr (28, a2.toNat)), .inr (.inr (5, 0)), .inl a1, .inr (.inr (31, 0))], s693) (Ps := [0 ≤ a2 ∧ a2 < 16]) rfl (And.intro hc trivial) ?_
      obtain ⟨⟨v717, s716⟩, hq719, h⟩ := g_bind h
      refine c_V (rest := []) C0 hFr (t_X6_isLeft_r28 hG f.2.1 N hq719) lk_X11_181 (k_at kX11_stays_ok 22 rfl) rfl rfl rfl rfl ⟨_, _, rfl⟩ (by decide) (by decide) (Nat.le_of_ble_eq_true rfl) ?_
      refine b_eq C0 kX11_stays_ok 23 (off := 7) (tgt := 52) rfl (by decide) (fun hb718 => ?_) (fun hb718 => ?_)
      · replace h := g_pos hb718 h
        refine m_blk C0 (pX11_ok rfl) kX11_stays_ok 26 1 (53, [some (.inr (.inr (0, 0))), some (.inl a1), some (.inl a2)], [.inl 0], s716) (Ps := []) rfl trivial ?_
        cases h
        exact m_iret C0 hFin (k_at kX11_stays_ok 27 rfl) (Or.inl rfl)
      · replace h := g_neg hb718 h
        refine m_blk C0 (pX11_ok rfl) kX11_stays_ok 24 2 (53, [some (.inr (.inr (0, 0))), some (.inl a1), some (.inl a2)], [.inl 1], s716) (Ps := []) rfl trivial ?_
        cases h
        exact m_iret C0 hFin (k_at kX11_stays_ok 27 rfl) (Or.inl rfl)
    · replace h := g_pos hb720 h
      refine m_blk C0 (pX11_ok rfl) kX11_stays_ok 10 1 (23, [some (.inr (.inr (0, 0))), some (.inl a1), some (.inl a2)], [.inl (-1)], s693) (Ps := []) rfl trivial ?_
      cases h
      exact m_iret C0 hFin (k_at kX11_stays_ok 11 rfl) (Or.inl rfl)
set_option maxRecDepth 100000 in
set_option maxHeartbeats 4000000 in
theorem t_X7_widthOf {e : mEv} (hG : mGeo (mw0 e) lw_kept) (l : Launch) (N : Nat) {a0 : Int} {σ σ' : mS} {v : Int} (h : f_X7_widthOf N a0 σ = some (v, σ')) : mMet l (mw0 e) lw_kept 0 yX7_widthOf cX7_widthOf 1 (some .int) [.inl a0] σ (some (.inl v)) σ' := by
  refine mMet_intro (plainFor_of_name (by decide)) hG (Nat.le_of_ble_eq_true rfl) (fun f hl hR C0 hFin => ?_)
  subst hl
  have hFr := mFr_of hR hFin
  unfold f_X7_widthOf at h
  show mWW f (mw0 e) sc0 1 (0, [some (.inl a0)], [], σ)
  refine m_blk C0 (pX7_ok rfl) kX7_widthOf_ok 0 9 (9, [some (.inl a0)], [.inl (o_div (mw ((mw (a0 + 1)) * (mw (a0 + 2)))) 2)], σ) (Ps := [¬ (2 : Int) = 0]) rfl (And.intro (by decide) trivial) ?_
  cases h
  exact m_iret C0 hFin (k_at kX7_widthOf_ok 9 rfl) (Or.inl rfl)
set_option maxRecDepth 100000 in
set_option maxHeartbeats 4000000 in
theorem p_X6_isFirstOfLeft_r28_3 {e : mEv} (hG : mGeo (mw0 e) lw_kept) (N : Nat) {f : mFx} (C0 : mCx f (mw0 e) sc0 cX6_isFirstOfLeft 7 RX6 lw_kept) (hFr : mFr f 2) : ∀ (n : Nat) (x1 : Int) (y3 : Nat) (x4 : Int) (σ : mS) (out : (Int × mS) ⊕ (mS)), L_X6_isFirstOfLeft_r28_3 N n x1 y3 x4 σ = some out → (∀ v s, out = .inl (v, s) → mFin f (mw0 e) (some .boolean) (some (.inl v)) s) → (∀  (s : mS), out = .inr s → mWW f (mw0 e) sc0 7 (66, [none, none, none, none, none, none, none], [], s)) → mWW f (mw0 e) sc0 7 (3, [some (.inr (.inr (31, 0))), some (.inl x1), some (.inr (.inr (5, 0))), some (.inr (.inr (28, y3))), some (.inl x4), none, none], [], σ) := by
  intro n
  induction n with
  | zero =>
    intro x1 y3 x4 σ out h hX hK
    cases h
  | succ n IH =>
    intro x1 y3 x4 σ out h hX hK
    rw [L_X6_isFirstOfLeft_r28_3_s] at h
    refine m_blk C0 (pX6_ok rfl) kX6_isFirstOfLeft_ok 2 3 (9, [some (.inr (.inr (31, 0))), some (.inl x1), some (.inr (.inr (5, 0))), some (.inr (.inr (28, y3))), some (.inl x4), none, none], [.inl (σ 5 0 0), .inl x4], σ) (Ps := []) rfl trivial ?_
    refine b_ige C0 kX6_isFirstOfLeft_ok 5 (off := 57) (tgt := 66) rfl (by decide) (fun hb739 => ?_) (fun hb739 => ?_)
    · replace h := g_pos hb739 h
      cases h
      refine m_mask [false, false, false, false, false, false, false] (ls' := [none, none, none, none, none, none, none]) rfl ?_
      exact hK _ rfl
    · replace h := g_neg hb739 h
      obtain ⟨hc, h⟩ := g_if h
      refine m_blk C0 (pX6_ok rfl) kX6_isFirstOfLeft_ok 6 7 (24, [some (.inr (.inr (31, 0))), some (.inl x1), some (.inr (.inr (5, 0))), some (.inr (.inr (28, y3))), some (.inl x4), none, none], [.inl x1, .inr (.inr (7, x4.toNat)), .inr (.inr (37, 0))], σ) (Ps := [0 ≤ x4 ∧ x4 < 48]) rfl (And.intro hc trivial) ?_
      obtain ⟨⟨v731, s730⟩, hq738, h⟩ := g_bind h
      refine c_V (rest := []) C0 hFr (t_X7_turnedCode_r7 hG f.2.1 N hq738) lk_X6_68 (k_at kX6_isFirstOfLeft_ok 13 rfl) rfl rfl rfl rfl ⟨_, _, rfl⟩ (by decide) (by decide) (Nat.le_of_ble_eq_true rfl) ?_
      refine m_blk C0 (pX6_ok rfl) kX6_isFirstOfLeft_ok 14 2 (31, [some (.inr (.inr (31, 0))), some (.inl x1), some (.inr (.inr (5, 0))), some (.inr (.inr (28, y3))), some (.inl x4), some (.inl v731), none], [.inl v731], s730) (Ps := []) rfl trivial ?_
      obtain ⟨⟨v733, s732⟩, hq737, h⟩ := g_bind h
      refine c_SN (rest := []) C0 hFr (t_X11_indexOfCode hG f.2.1 N hq737) lk_X6_72 (k_at kX6_isFirstOfLeft_ok 16 rfl) rfl rfl rfl (by decide) (by decide) (Nat.le_of_ble_eq_true rfl) ?_
      refine m_blk C0 (pX6_ok rfl) kX6_isFirstOfLeft_ok 17 3 (39, [some (.inr (.inr (31, 0))), some (.inl x1), some (.inr (.inr (5, 0))), some (.inr (.inr (28, y3))), some (.inl x4), some (.inl v731), some (.inl v733)], [.inl x1, .inl v733], s732) (Ps := []) rfl trivial ?_
      refine b_ilt C0 kX6_isFirstOfLeft_ok 20 (off := 19) (tgt := 58) rfl (by decide) (fun hb736 => ?_) (fun hb736 => ?_)
      · replace h := g_pos hb736 h
        refine m_blk C0 (pX6_ok rfl) kX6_isFirstOfLeft_ok 30 1 (59, [some (.inr (.inr (31, 0))), some (.inl x1), some (.inr (.inr (5, 0))), some (.inr (.inr (28, y3))), some (.inl x4), some (.inl v731), some (.inl v733)], [.inl 0], s732) (Ps := []) rfl trivial ?_
        cases h
        exact m_iret C0 (hX _ _ rfl) (k_at kX6_isFirstOfLeft_ok 31 rfl) (Or.inr ⟨rfl, by decide⟩)
      · replace h := g_neg hb736 h
        refine m_blk C0 (pX6_ok rfl) kX6_isFirstOfLeft_ok 21 2 (45, [some (.inr (.inr (31, 0))), some (.inl x1), some (.inr (.inr (5, 0))), some (.inr (.inr (28, y3))), some (.inl x4), some (.inl v731), some (.inl v733)], [.inl x1, .inl v733], s732) (Ps := []) rfl trivial ?_
        refine b_ine C0 kX6_isFirstOfLeft_ok 23 (off := 15) (tgt := 60) rfl (by decide) (fun hb735 => ?_) (fun hb735 => ?_)
        · replace h := g_neg hb735 h
          refine m_blk C0 (pX6_ok rfl) kX6_isFirstOfLeft_ok 32 2 (3, [some (.inr (.inr (31, 0))), some (.inl x1), some (.inr (.inr (5, 0))), some (.inr (.inr (28, y3))), some (.inl (mw (x4 + 1))), some (.inl v731), some (.inl v733)], [], s732) (Ps := []) rfl trivial ?_
          refine m_mask [true, true, true, true, true, false, false] (ls' := [some (.inr (.inr (31, 0))), some (.inl x1), some (.inr (.inr (5, 0))), some (.inr (.inr (28, y3))), some (.inl (mw (x4 + 1))), none, none]) rfl ?_
          exact IH _ _ _ _ _ h hX hK
        · replace h := g_pos hb735 h
          obtain ⟨hc, h⟩ := g_if h
          refine m_blk C0 (pX6_ok rfl) kX6_isFirstOfLeft_ok 24 5 (55, [some (.inr (.inr (31, 0))), some (.inl x1), some (.inr (.inr (5, 0))), some (.inr (.inr (28, y3))), some (.inl x4), some (.inl v731), some (.inl v733)], [.inl (mw (v731 * (s732 28 y3 x4.toNat)))], s732) (Ps := [0 ≤ x4 ∧ x4 < 48]) rfl (And.intro hc trivial) ?_
          refine b_ge C0 kX6_isFirstOfLeft_ok 29 (off := 5) (tgt := 60) rfl (by decide) (fun hb734 => ?_) (fun hb734 => ?_)
          · replace h := g_pos hb734 h
            refine m_blk C0 (pX6_ok rfl) kX6_isFirstOfLeft_ok 32 2 (3, [some (.inr (.inr (31, 0))), some (.inl x1), some (.inr (.inr (5, 0))), some (.inr (.inr (28, y3))), some (.inl (mw (x4 + 1))), some (.inl v731), some (.inl v733)], [], s732) (Ps := []) rfl trivial ?_
            refine m_mask [true, true, true, true, true, false, false] (ls' := [some (.inr (.inr (31, 0))), some (.inl x1), some (.inr (.inr (5, 0))), some (.inr (.inr (28, y3))), some (.inl (mw (x4 + 1))), none, none]) rfl ?_
            exact IH _ _ _ _ _ h hX hK
          · replace h := g_neg hb734 h
            refine m_blk C0 (pX6_ok rfl) kX6_isFirstOfLeft_ok 30 1 (59, [some (.inr (.inr (31, 0))), some (.inl x1), some (.inr (.inr (5, 0))), some (.inr (.inr (28, y3))), some (.inl x4), some (.inl v731), some (.inl v733)], [.inl 0], s732) (Ps := []) rfl trivial ?_
            cases h
            exact m_iret C0 (hX _ _ rfl) (k_at kX6_isFirstOfLeft_ok 31 rfl) (Or.inr ⟨rfl, by decide⟩)
set_option maxRecDepth 100000 in
set_option maxHeartbeats 4000000 in
theorem t_X6_isFirstOfLeft_r28 {e : mEv} (hG : mGeo (mw0 e) lw_kept) (l : Launch) (N : Nat) {a1 : Int} {q3 : Nat} {σ σ' : mS} {v : Int} (h : f_X6_isFirstOfLeft_r28 N a1 q3 σ = some (v, σ')) : mMet l (mw0 e) lw_kept 2 yX6_isFirstOfLeft cX6_isFirstOfLeft 7 (some .boolean) [.inr (.inr (31, 0)), .inl a1, .inr (.inr (5, 0)), .inr (.inr (28, q3))] σ (some (.inl v)) σ' := by
  refine mMet_intro (plainFor_of_name (by decide)) hG (Nat.le_of_ble_eq_true rfl) (fun f hl hR C0 hFin => ?_)
  subst hl
  have hFr := mFr_of hR hFin
  unfold f_X6_isFirstOfLeft_r28 at h
  show mWW f (mw0 e) sc0 7 (0, [some (.inr (.inr (31, 0))), some (.inl a1), some (.inr (.inr (5, 0))), some (.inr (.inr (28, q3))), none, none, none], [], σ)
  refine m_blk C0 (pX6_ok rfl) kX6_isFirstOfLeft_ok 0 2 (3, [some (.inr (.inr (31, 0))), some (.inl a1), some (.inr (.inr (5, 0))), some (.inr (.inr (28, q3))), some (.inl 0), none, none], [], σ) (Ps := []) rfl trivial ?_
  obtain ⟨o, hq741, h⟩ := g_bind h
  refine m_mask [true, true, true, true, true, false, false] (ls' := [some (.inr (.inr (31, 0))), some (.inl a1), some (.inr (.inr (5, 0))), some (.inr (.inr (28, q3))), some (.inl 0), none, none]) rfl ?_
  rcases o with ⟨v742, s743⟩ | s740
  · cases h
    exact p_X6_isFirstOfLeft_r28_3 hG N C0 hFr N _ _ _ _ _ hq741 (fun v s e => by cases e; exact hFin) (fun _ e => by cases e)
  · refine p_X6_isFirstOfLeft_r28_3 hG N C0 hFr N _ _ _ _ _ hq741 (fun v s e => by cases e) (fun _ e => ?_)
    cases e
    refine m_blk C0 (pX6_ok rfl) kX6_isFirstOfLeft_ok 34 1 (67, [none, none, none, none, none, none, none], [.inl 1], s740) (Ps := []) rfl trivial ?_
    cases h
    exact m_iret C0 hFin (k_at kX6_isFirstOfLeft_ok 35 rfl) (Or.inr ⟨rfl, by decide⟩)
set_option maxRecDepth 100000 in
set_option maxHeartbeats 4000000 in
theorem p_X6_countLeft_r28_13 {e : mEv} (hG : mGeo (mw0 e) lw_kept) (N : Nat) {f : mFx} (C0 : mCx f (mw0 e) sc0 cX6_countLeft 7 RX6 lw_kept) (hFr : mFr f 3) : ∀ (n : Nat) (x1 : Int) (y3 : Nat) (x4 : Int) (x5 : Int) (x6 : Int) (σ : mS) (o4 : Int) (σ' : mS), L_X6_countLeft_r28_13 N n x1 y3 x4 x5 x6 σ = some (o4, σ') → mWW f (mw0 e) sc0 7 (52, [none, none, none, none, some (.inl o4), none, none], [], σ') → mWW f (mw0 e) sc0 7 (13, [some (.inr (.inr (31, 0))), some (.inl x1), some (.inr (.inr (5, 0))), some (.inr (.inr (28, y3))), some (.inl x4), some (.inl x5), some (.inl x6)], [], σ) := by
  intro n
  induction n with
  | zero =>
    intro x1 y3 x4 x5 x6 σ o4 σ' h hK
    cases h
  | succ n IH =>
    intro x1 y3 x4 x5 x6 σ o4 σ' h hK
    rw [L_X6_countLeft_r28_13_s] at h
    refine m_blk C0 (pX6_ok rfl) kX6_countLeft_ok 7 3 (18, [some (.inr (.inr (31, 0))), some (.inl x1), some (.inr (.inr (5, 0))), some (.inr (.inr (28, y3))), some (.inl x4), some (.inl x5), some (.inl x6)], [.inl x1, .inl x5, .inl x6], σ) (Ps := []) rfl trivial ?_
    obtain ⟨⟨v729, s728⟩, hq749, h⟩ := g_bind h
    refine c_S (rest := [.inl x5, .inl x6]) C0 hFr (t_X7_widthOf hG f.2.1 N hq749) lk_X6_90 (k_at kX6_countLeft_ok 10 rfl) rfl rfl rfl (by decide) (by decide) (Nat.le_of_ble_eq_true rfl) ?_
    refine m_blk C0 (pX6_ok rfl) kX6_countLeft_ok 11 1 (22, [some (.inr (.inr (31, 0))), some (.inl x1), some (.inr (.inr (5, 0))), some (.inr (.inr (28, y3))), some (.inl x4), some (.inl x5), some (.inl x6)], [.inl (mw (x5 + v729)), .inl x6], s728) (Ps := []) rfl trivial ?_
    refine b_ige C0 kX6_countLeft_ok 12 (off := 30) (tgt := 52) rfl (by decide) (fun hb748 => ?_) (fun hb748 => ?_)
    · replace h := g_pos hb748 h
      cases h
      refine m_mask [false, false, false, false, true, false, false] (ls' := [none, none, none, none, some (.inl x4), none, none]) rfl ?_
      exact hK
    · replace h := g_neg hb748 h
      refine m_blk C0 (pX6_ok rfl) kX6_countLeft_ok 13 5 (32, [some (.inr (.inr (31, 0))), some (.inl x1), some (.inr (.inr (5, 0))), some (.inr (.inr (28, y3))), some (.inl x4), some (.inl x5), some (.inl x6)], [.inr (.inr (28, y3)), .inr (.inr (5, 0)), .inl x6, .inr (.inr (31, 0)), .inl x4], s728) (Ps := []) rfl trivial ?_
      obtain ⟨⟨v745, s744⟩, hq747, h⟩ := g_bind h
      refine c_V (rest := [.inl x4]) C0 hFr (t_X6_isFirstOfLeft_r28 hG f.2.1 N hq747) lk_X6_93 (k_at kX6_countLeft_ok 18 rfl) rfl rfl rfl rfl ⟨_, _, rfl⟩ (by decide) (by decide) (Nat.le_of_ble_eq_true rfl) ?_
      refine b_eq C0 kX6_countLeft_ok 19 (off := 7) (tgt := 42) rfl (by decide) (fun hb746 => ?_) (fun hb746 => ?_)
      · replace h := g_pos hb746 h
        refine m_blk C0 (pX6_ok rfl) kX6_countLeft_ok 22 5 (13, [some (.inr (.inr (31, 0))), some (.inl x1), some (.inr (.inr (5, 0))), some (.inr (.inr (28, y3))), some (.inl (mw (x4 + 0))), some (.inl x5), some (.inl (mw (x6 + 1)))], [], s744) (Ps := []) rfl trivial ?_
        refine m_mask [true, true, true, true, true, true, true] (ls' := [some (.inr (.inr (31, 0))), some (.inl x1), some (.inr (.inr (5, 0))), some (.inr (.inr (28, y3))), some (.inl (mw (x4 + 0))), some (.inl x5), some (.inl (mw (x6 + 1)))]) rfl ?_
        exact IH _ _ _ _ _ _ _ _ h hK
      · replace h := g_neg hb746 h
        refine m_blk C0 (pX6_ok rfl) kX6_countLeft_ok 20 2 (43, [some (.inr (.inr (31, 0))), some (.inl x1), some (.inr (.inr (5, 0))), some (.inr (.inr (28, y3))), some (.inl x4), some (.inl x5), some (.inl x6)], [.inl 1, .inl x4], s744) (Ps := []) rfl trivial ?_
        refine m_blk C0 (pX6_ok rfl) kX6_countLeft_ok 23 4 (13, [some (.inr (.inr (31, 0))), some (.inl x1), some (.inr (.inr (5, 0))), some (.inr (.inr (28, y3))), some (.inl (mw (x4 + 1))), some (.inl x5), some (.inl (mw (x6 + 1)))], [], s744) (Ps := []) rfl trivial ?_
        refine m_mask [true, true, true, true, true, true, true] (ls' := [some (.inr (.inr (31, 0))), some (.inl x1), some (.inr (.inr (5, 0))), some (.inr (.inr (28, y3))), some (.inl (mw (x4 + 1))), some (.inl x5), some (.inl (mw (x6 + 1)))]) rfl ?_
        exact IH _ _ _ _ _ _ _ _ h hK
set_option maxRecDepth 100000 in
set_option maxHeartbeats 4000000 in
theorem t_X6_countLeft_r28 {e : mEv} (hG : mGeo (mw0 e) lw_kept) (l : Launch) (N : Nat) {a1 : Int} {q3 : Nat} {σ σ' : mS} {v : Int} (h : f_X6_countLeft_r28 N a1 q3 σ = some (v, σ')) : mMet l (mw0 e) lw_kept 3 yX6_countLeft cX6_countLeft 7 (some .int) [.inr (.inr (31, 0)), .inl a1, .inr (.inr (5, 0)), .inr (.inr (28, q3))] σ (some (.inl v)) σ' := by
  refine mMet_intro (plainFor_of_name (by decide)) hG (Nat.le_of_ble_eq_true rfl) (fun f hl hR C0 hFin => ?_)
  subst hl
  have hFr := mFr_of hR hFin
  unfold f_X6_countLeft_r28 at h
  show mWW f (mw0 e) sc0 7 (0, [some (.inr (.inr (31, 0))), some (.inl a1), some (.inr (.inr (5, 0))), some (.inr (.inr (28, q3))), none, none, none], [], σ)
  refine m_blk C0 (pX6_ok rfl) kX6_countLeft_ok 0 3 (4, [some (.inr (.inr (31, 0))), some (.inl a1), some (.inr (.inr (5, 0))), some (.inr (.inr (28, q3))), some (.inl 0), none, none], [.inl a1], σ) (Ps := []) rfl trivial ?_
  obtain ⟨⟨v727, s726⟩, hq753, h⟩ := g_bind h
  refine c_S (rest := []) C0 hFr (t_X7_firstOf hG f.2.1 N hq753) lk_X6_43 (k_at kX6_countLeft_ok 3 rfl) rfl rfl rfl (by decide) (by decide) (Nat.le_of_ble_eq_true rfl) ?_
  refine m_blk C0 (pX6_ok rfl) kX6_countLeft_ok 4 3 (13, [some (.inr (.inr (31, 0))), some (.inl a1), some (.inr (.inr (5, 0))), some (.inr (.inr (28, q3))), some (.inl 0), some (.inl v727), some (.inl v727)], [], s726) (Ps := []) rfl trivial ?_
  obtain ⟨⟨o751, s750⟩, hq752, h⟩ := g_bind h
  refine m_mask [true, true, true, true, true, true, true] (ls' := [some (.inr (.inr (31, 0))), some (.inl a1), some (.inr (.inr (5, 0))), some (.inr (.inr (28, q3))), some (.inl 0), some (.inl v727), some (.inl v727)]) rfl ?_
  refine p_X6_countLeft_r28_13 hG N C0 hFr N _ _ _ _ _ _ _ _ hq752 ?_
  refine m_blk C0 (pX6_ok rfl) kX6_countLeft_ok 27 1 (54, [none, none, none, none, some (.inl o751), none, none], [.inl o751], s750) (Ps := []) rfl trivial ?_
  cases h
  exact m_iret C0 hFin (k_at kX6_countLeft_ok 28 rfl) (Or.inl rfl)
set_option maxRecDepth 100000 in
set_option maxHeartbeats 4000000 in
theorem t_X11_count {e : mEv} (hG : mGeo (mw0 e) lw_kept) (l : Launch) (N : Nat) {a1 : Int} {a2 : Int} {σ σ' : mS} {v : Int} (h : f_X11_count N a1 a2 σ = some (v, σ')) : mMet l (mw0 e) lw_kept 4 yX11_count cX11_count 3 (some .int) [.inr (.inr (0, 0)), .inl a1, .inl a2] σ (some (.inl v)) σ' := by
  refine mMet_intro (plainFor_of_name (by decide)) hG (Nat.le_of_ble_eq_true rfl) (fun f hl hR C0 hFin => ?_)
  subst hl
  have hFr := mFr_of hR hFin
  unfold f_X11_count at h
  show mWW f (mw0 e) sc0 3 (0, [some (.inr (.inr (0, 0))), some (.inl a1), some (.inl a2)], [], σ)
  refine m_blk C0 (pX11_ok rfl) kX11_count_ok 0 1 (1, [some (.inr (.inr (0, 0))), some (.inl a1), some (.inl a2)], [.inl a1], σ) (Ps := []) rfl trivial ?_
  refine b_lt C0 kX11_count_ok 1 (off := 20) (tgt := 21) rfl (by decide) (fun hb760 => ?_) (fun hb760 => ?_)
  · replace h := g_pos hb760 h
    refine m_blk C0 (pX11_ok rfl) kX11_count_ok 10 1 (22, [some (.inr (.inr (0, 0))), some (.inl a1), some (.inl a2)], [.inl (-1)], σ) (Ps := []) rfl trivial ?_
    cases h
    exact m_iret C0 hFin (k_at kX11_count_ok 11 rfl) (Or.inl rfl)
  · replace h := g_neg hb760 h
    refine m_blk C0 (pX11_ok rfl) kX11_count_ok 2 2 (7, [some (.inr (.inr (0, 0))), some (.inl a1), some (.inl a2)], [.inl 8, .inl a1], σ) (Ps := []) rfl trivial ?_
    refine b_igt C0 kX11_count_ok 4 (off := 14) (tgt := 21) rfl (by decide) (fun hb759 => ?_) (fun hb759 => ?_)
    · replace h := g_pos hb759 h
      refine m_blk C0 (pX11_ok rfl) kX11_count_ok 10 1 (22, [some (.inr (.inr (0, 0))), some (.inl a1), some (.inl a2)], [.inl (-1)], σ) (Ps := []) rfl trivial ?_
      cases h
      exact m_iret C0 hFin (k_at kX11_count_ok 11 rfl) (Or.inl rfl)
    · replace h := g_neg hb759 h
      refine m_blk C0 (pX11_ok rfl) kX11_count_ok 5 3 (15, [some (.inr (.inr (0, 0))), some (.inl a1), some (.inl a2)], [.inl a2, .inr (.inr (26, 0))], σ) (Ps := []) rfl trivial ?_
      obtain ⟨⟨v725, s724⟩, hq758, h⟩ := g_bind h
      refine c_V (rest := []) C0 hFr (t_X9_has hG f.2.1 N hq758) lk_X11_142 (k_at kX11_count_ok 8 rfl) rfl rfl rfl rfl ⟨_, _, rfl⟩ (by decide) (by decide) (Nat.le_of_ble_eq_true rfl) ?_
      refine b_ne C0 kX11_count_ok 9 (off := 5) (tgt := 23) rfl (by decide) (fun hb757 => ?_) (fun hb757 => ?_)
      · replace h := g_neg hb757 h
        obtain ⟨hc, h⟩ := g_if h
        refine m_blk C0 (pX11_ok rfl) kX11_count_ok 12 10 (41, [some (.inr (.inr (0, 0))), some (.inl a1), some (.inl a2)], [.inr (.inr (28, a2.toNat)), .inr (.inr (5, 0)), .inl a1, .inr (.inr (31, 0))], s724) (Ps := [0 ≤ a2 ∧ a2 < 16]) rfl (And.intro hc trivial) ?_
        obtain ⟨⟨v755, s754⟩, hq756, h⟩ := g_bind h
        refine c_V (rest := []) C0 hFr (t_X6_countLeft_r28 hG f.2.1 N hq756) lk_X11_185 (k_at kX11_count_ok 22 rfl) rfl rfl rfl rfl ⟨_, _, rfl⟩ (by decide) (by decide) (Nat.le_of_ble_eq_true rfl) ?_
        cases h
        exact m_iret C0 hFin (k_at kX11_count_ok 23 rfl) (Or.inl rfl)
      · replace h := g_pos hb757 h
        refine m_blk C0 (pX11_ok rfl) kX11_count_ok 10 1 (22, [some (.inr (.inr (0, 0))), some (.inl a1), some (.inl a2)], [.inl (-1)], s724) (Ps := []) rfl trivial ?_
        cases h
        exact m_iret C0 hFin (k_at kX11_count_ok 11 rfl) (Or.inl rfl)
set_option maxRecDepth 100000 in
set_option maxHeartbeats 4000000 in
theorem p_J7_fill_53178_r30_5 {e : mEv} (hG : mGeo (mw0 e) lw_kept) (N : Nat) {f : mFx} (C0 : mCx f (mw0 e) sc0 cJ7_fill_53178 4 RJ7 lw_kept) (hFr : mFr f 0) : ∀ (n : Nat) (x1 : Int) (x2 : Int) (x3 : Int) (σ : mS) (σ' : mS), L_J7_fill_53178_r30_5 N n x1 x2 x3 σ = some σ' → mWW f (mw0 e) sc0 4 (20, [none, none, none, none], [], σ') → mWW f (mw0 e) sc0 4 (5, [some (.inr (.inr (30, 0))), some (.inl x1), some (.inl x2), some (.inl x3)], [], σ) := by
  intro n
  induction n with
  | zero =>
    intro x1 x2 x3 σ σ' h hK
    cases h
  | succ n IH =>
    intro x1 x2 x3 σ σ' h hK
    rw [L_J7_fill_53178_r30_5_s] at h
    refine m_blk C0 (pJ7_ok rfl) kJ7_fill_53178_ok 5 2 (7, [some (.inr (.inr (30, 0))), some (.inl x1), some (.inl x2), some (.inl x3)], [.inl x3, .inl x2], σ) (Ps := []) rfl trivial ?_
    refine b_ige C0 kJ7_fill_53178_ok 7 (off := 13) (tgt := 20) rfl (by decide) (fun hb764 => ?_) (fun hb764 => ?_)
    · replace h := g_pos hb764 h
      cases h
      refine m_mask [false, false, false, false] (ls' := [none, none, none, none]) rfl ?_
      exact hK
    · replace h := g_neg hb764 h
      obtain ⟨hc, h⟩ := g_if h
      refine m_blk C0 (pJ7_ok rfl) kJ7_fill_53178_ok 8 4 (14, [some (.inr (.inr (30, 0))), some (.inl x1), some (.inl x2), some (.inl x3)], [], (mup σ 30 0 x2.toNat x1)) (Ps := [0 ≤ x2 ∧ x2 < 201]) rfl (And.intro hc trivial) ?_
      refine m_blk C0 (pJ7_ok rfl) kJ7_fill_53178_ok 12 2 (5, [some (.inr (.inr (30, 0))), some (.inl x1), some (.inl (mw (x2 + 1))), some (.inl x3)], [], (mup σ 30 0 x2.toNat x1)) (Ps := []) rfl trivial ?_
      refine m_mask [true, true, true, true] (ls' := [some (.inr (.inr (30, 0))), some (.inl x1), some (.inl (mw (x2 + 1))), some (.inl x3)]) rfl ?_
      exact IH _ _ _ _ _ h hK
set_option maxRecDepth 100000 in
set_option maxHeartbeats 4000000 in
theorem t_J7_fill_53178_r30 {e : mEv} (hG : mGeo (mw0 e) lw_kept) (l : Launch) (N : Nat) {a1 : Int} {σ σ' : mS} (h : f_J7_fill_53178_r30 N a1 σ = some σ') : mMet l (mw0 e) lw_kept 0 yJ7_fill_53178 cJ7_fill_53178 4 none [.inr (.inr (30, 0)), .inl a1] σ none σ' := by
  refine mMet_intro (by decide +kernel) hG (Nat.le_of_ble_eq_true rfl) (fun f hl hR C0 hFin => ?_)
  subst hl
  have hFr := mFr_of hR hFin
  unfold f_J7_fill_53178_r30 at h
  show mWW f (mw0 e) sc0 4 (0, [some (.inr (.inr (30, 0))), some (.inl a1), none, none], [], σ)
  refine m_blk C0 (pJ7_ok rfl) kJ7_fill_53178_ok 0 5 (5, [some (.inr (.inr (30, 0))), some (.inl a1), some (.inl 0), some (.inl 201)], [], σ) (Ps := []) rfl trivial ?_
  obtain ⟨s765, hq766, h⟩ := g_bind h
  refine m_mask [true, true, true, true] (ls' := [some (.inr (.inr (30, 0))), some (.inl a1), some (.inl 0), some (.inl 201)]) rfl ?_
  refine p_J7_fill_53178_r30_5 hG N C0 hFr N _ _ _ _ _ hq766 ?_
  cases h
  exact m_vret C0 hFin (k_at kJ7_fill_53178_ok 14 rfl)
set_option maxRecDepth 100000 in
set_option maxHeartbeats 4000000 in
theorem p_X4_oneByD_r7_45 {e : mEv} (hG : mGeo (mw0 e) lw_kept) (N : Nat) {f : mFx} (C0 : mCx f (mw0 e) sc0 cX4_oneByD 7 RX4 lw_kept) (hFr : mFr f 3) : ∀ (n : Nat) (x1 : Int) (x4 : Int) (x5 : Int) (x6 : Int) (σ : mS) (σ' : mS), L_X4_oneByD_r7_45 N n x1 x4 x5 x6 σ = some σ' → mWW f (mw0 e) sc0 7 (85, [some (.inr (.inr (29, 0))), some (.inl x1), some (.inr (.inr (23, 0))), none, some (.inl x4), none, none], [], σ') → mWW f (mw0 e) sc0 7 (45, [some (.inr (.inr (29, 0))), some (.inl x1), some (.inr (.inr (23, 0))), none, some (.inl x4), some (.inl x5), some (.inl x6)], [], σ) := by
  intro n
  induction n with
  | zero =>
    intro x1 x4 x5 x6 σ σ' h hK
    cases h
  | succ n IH =>
    intro x1 x4 x5 x6 σ σ' h hK
    rw [L_X4_oneByD_r7_45_s] at h
    refine m_blk C0 (pX4_ok rfl) kX4_oneByD_ok 25 2 (48, [some (.inr (.inr (29, 0))), some (.inl x1), some (.inr (.inr (23, 0))), none, some (.inl x4), some (.inl x5), some (.inl x6)], [.inl x1, .inl x6], σ) (Ps := []) rfl trivial ?_
    refine b_igt C0 kX4_oneByD_ok 27 (off := 37) (tgt := 85) rfl (by decide) (fun hb768 => ?_) (fun hb768 => ?_)
    · replace h := g_pos hb768 h
      cases h
      refine m_mask [true, true, true, false, true, false, false] (ls' := [some (.inr (.inr (29, 0))), some (.inl x1), some (.inr (.inr (23, 0))), none, some (.inl x4), none, none]) rfl ?_
      exact hK
    · replace h := g_neg hb768 h
      obtain ⟨hc, h⟩ := g_if h
      refine m_blk C0 (pX4_ok rfl) kX4_oneByD_ok 28 16 (77, [some (.inr (.inr (29, 0))), some (.inl x1), some (.inr (.inr (23, 0))), none, some (.inl x4), some (.inl x5), some (.inl x6)], [.inl (mw ((σ 25 0 x4.toNat) * (σ 30 0 ((mw (x6 - x5)).toNat)))), .inl (σ 30 0 x6.toNat), .inl x6, .inr (.inr (30, 0))], σ) (Ps := [0 ≤ x6 ∧ x6 < 201, 0 ≤ x4 ∧ x4 < 3, 0 ≤ (mw (x6 - x5)) ∧ (mw (x6 - x5)) < 201]) rfl (And.intro hc.1 (And.intro hc.2.1 (And.intro hc.2.2 trivial))) ?_
      refine m_blk C0 (pX4_ok rfl) kX4_oneByD_ok 44 2 (79, [some (.inr (.inr (29, 0))), some (.inl x1), some (.inr (.inr (23, 0))), none, some (.inl x4), some (.inl x5), some (.inl x6)], [], (mup σ 30 0 x6.toNat (mw ((σ 30 0 x6.toNat) + (mw ((σ 25 0 x4.toNat) * (σ 30 0 ((mw (x6 - x5)).toNat)))))))) (Ps := [0 ≤ x6 ∧ x6 < 201]) rfl (And.intro hc.1 trivial) ?_
      refine m_blk C0 (pX4_ok rfl) kX4_oneByD_ok 46 2 (45, [some (.inr (.inr (29, 0))), some (.inl x1), some (.inr (.inr (23, 0))), none, some (.inl x4), some (.inl x5), some (.inl (mw (x6 + 1)))], [], (mup σ 30 0 x6.toNat (mw ((σ 30 0 x6.toNat) + (mw ((σ 25 0 x4.toNat) * (σ 30 0 ((mw (x6 - x5)).toNat)))))))) (Ps := []) rfl trivial ?_
      refine m_mask [true, true, true, false, true, true, true] (ls' := [some (.inr (.inr (29, 0))), some (.inl x1), some (.inr (.inr (23, 0))), none, some (.inl x4), some (.inl x5), some (.inl (mw (x6 + 1)))]) rfl ?_
      exact IH _ _ _ _ _ _ h hK
set_option maxRecDepth 100000 in
set_option maxHeartbeats 4000000 in
theorem p_X4_oneByD_r7_23 {e : mEv} (hG : mGeo (mw0 e) lw_kept) (N : Nat) {f : mFx} (C0 : mCx f (mw0 e) sc0 cX4_oneByD 7 RX4 lw_kept) (hFr : mFr f 3) : ∀ (n : Nat) (x1 : Int) (x4 : Int) (σ : mS) (σ' : mS), L_X4_oneByD_r7_23 N n x1 x4 σ = some σ' → mWW f (mw0 e) sc0 7 (91, [some (.inr (.inr (29, 0))), some (.inl x1), none, none, none, none, none], [], σ') → mWW f (mw0 e) sc0 7 (23, [some (.inr (.inr (29, 0))), some (.inl x1), some (.inr (.inr (23, 0))), none, some (.inl x4), none, none], [], σ) := by
  intro n
  induction n with
  | zero =>
    intro x1 x4 σ σ' h hK
    cases h
  | succ n IH =>
    intro x1 x4 σ σ' h hK
    rw [L_X4_oneByD_r7_23_s] at h
    refine m_blk C0 (pX4_ok rfl) kX4_oneByD_ok 14 3 (29, [some (.inr (.inr (29, 0))), some (.inl x1), some (.inr (.inr (23, 0))), none, some (.inl x4), none, none], [.inl (σ 23 0 2), .inl x4], σ) (Ps := []) rfl trivial ?_
    refine b_ige C0 kX4_oneByD_ok 17 (off := 62) (tgt := 91) rfl (by decide) (fun hb771 => ?_) (fun hb771 => ?_)
    · replace h := g_pos hb771 h
      cases h
      refine m_mask [true, true, false, false, false, false, false] (ls' := [some (.inr (.inr (29, 0))), some (.inl x1), none, none, none, none, none]) rfl ?_
      exact hK
    · replace h := g_neg hb771 h
      obtain ⟨hc, h⟩ := g_if h
      refine m_blk C0 (pX4_ok rfl) kX4_oneByD_ok 18 7 (45, [some (.inr (.inr (29, 0))), some (.inl x1), some (.inr (.inr (23, 0))), none, some (.inl x4), some (.inl (σ 24 0 x4.toNat)), some (.inl (σ 24 0 x4.toNat))], [], σ) (Ps := [0 ≤ x4 ∧ x4 < 3]) rfl (And.intro hc trivial) ?_
      obtain ⟨s769, hq770, h⟩ := g_bind h
      refine m_mask [true, true, true, false, true, true, true] (ls' := [some (.inr (.inr (29, 0))), some (.inl x1), some (.inr (.inr (23, 0))), none, some (.inl x4), some (.inl (σ 24 0 x4.toNat)), some (.inl (σ 24 0 x4.toNat))]) rfl ?_
      refine p_X4_oneByD_r7_45 hG N C0 hFr N _ _ _ _ _ _ hq770 ?_
      refine m_blk C0 (pX4_ok rfl) kX4_oneByD_ok 48 2 (23, [some (.inr (.inr (29, 0))), some (.inl x1), some (.inr (.inr (23, 0))), none, some (.inl (mw (x4 + 1))), none, none], [], s769) (Ps := []) rfl trivial ?_
      refine m_mask [true, true, true, false, true, false, false] (ls' := [some (.inr (.inr (29, 0))), some (.inl x1), some (.inr (.inr (23, 0))), none, some (.inl (mw (x4 + 1))), none, none]) rfl ?_
      exact IH _ _ _ _ h hK
set_option maxRecDepth 100000 in
set_option maxHeartbeats 4000000 in
theorem t_X4_oneByD_r7 {e : mEv} (hG : mGeo (mw0 e) lw_kept) (l : Launch) (N : Nat) {a1 : Int} {q3 : Nat} {σ σ' : mS} {v : Int} (h : f_X4_oneByD_r7 N a1 q3 σ = some (v, σ')) : mMet l (mw0 e) lw_kept 3 yX4_oneByD cX4_oneByD 7 (some .int) [.inr (.inr (29, 0)), .inl a1, .inr (.inr (23, 0)), .inr (.inr (7, q3))] σ (some (.inl v)) σ' := by
  refine mMet_intro (plainFor_of_name (by decide)) hG (Nat.le_of_ble_eq_true rfl) (fun f hl hR C0 hFin => ?_)
  subst hl
  have hFr := mFr_of hR hFin
  unfold f_X4_oneByD_r7 at h
  show mWW f (mw0 e) sc0 7 (0, [some (.inr (.inr (29, 0))), some (.inl a1), some (.inr (.inr (23, 0))), some (.inr (.inr (7, q3))), none, none, none], [], σ)
  refine m_blk C0 (pX4_ok rfl) kX4_oneByD_ok 0 2 (2, [some (.inr (.inr (29, 0))), some (.inl a1), some (.inr (.inr (23, 0))), some (.inr (.inr (7, q3))), none, none, none], [.inr (.inr (7, q3)), .inr (.inr (23, 0))], σ) (Ps := []) rfl trivial ?_
  obtain ⟨s763, hq775, h⟩ := g_bind h
  refine c_V (rest := []) C0 hFr (t_X8_read_r7 hG f.2.1 N hq775) lk_X4_42 (k_at kX4_oneByD_ok 2 rfl) rfl rfl rfl rfl ⟨_, _, rfl⟩ (by decide) (by decide) (Nat.le_of_ble_eq_true rfl) ?_
  refine m_blk C0 (pX4_ok rfl) kX4_oneByD_ok 3 3 (10, [some (.inr (.inr (29, 0))), some (.inl a1), some (.inr (.inr (23, 0))), some (.inr (.inr (7, q3))), none, none, none], [.inl 0, .inr (.inr (30, 0))], s763) (Ps := []) rfl trivial ?_
  obtain ⟨s767, hq774, h⟩ := g_bind h
  refine c_S (rest := []) C0 hFr (t_J7_fill_53178_r30 hG f.2.1 N hq774) lk_X4_48 (k_at kX4_oneByD_ok 6 rfl) rfl rfl rfl (by decide) (by decide) (Nat.le_of_ble_eq_true rfl) ?_
  refine m_blk C0 (pX4_ok rfl) kX4_oneByD_ok 7 5 (20, [some (.inr (.inr (29, 0))), some (.inl a1), some (.inr (.inr (23, 0))), some (.inr (.inr (7, q3))), none, none, none], [], (mup s767 30 0 0 1)) (Ps := [0 ≤ (0 : Int) ∧ (0 : Int) < 201]) rfl (And.intro (by decide) trivial) ?_
  refine m_blk C0 (pX4_ok rfl) kX4_oneByD_ok 12 2 (23, [some (.inr (.inr (29, 0))), some (.inl a1), some (.inr (.inr (23, 0))), some (.inr (.inr (7, q3))), some (.inl 0), none, none], [], (mup s767 30 0 0 1)) (Ps := []) rfl trivial ?_
  obtain ⟨s772, hq773, h⟩ := g_bind h
  refine m_mask [true, true, true, false, true, false, false] (ls' := [some (.inr (.inr (29, 0))), some (.inl a1), some (.inr (.inr (23, 0))), none, some (.inl 0), none, none]) rfl ?_
  refine p_X4_oneByD_r7_23 hG N C0 hFr N _ _ _ _ hq773 ?_
  obtain ⟨hc, h⟩ := g_if h
  refine m_blk C0 (pX4_ok rfl) kX4_oneByD_ok 50 4 (97, [some (.inr (.inr (29, 0))), some (.inl a1), none, none, none, none, none], [.inl (s772 30 0 a1.toNat)], s772) (Ps := [0 ≤ a1 ∧ a1 < 201]) rfl (And.intro hc trivial) ?_
  cases h
  exact m_iret C0 hFin (k_at kX4_oneByD_ok 54 rfl) (Or.inl rfl)
set_option maxRecDepth 100000 in
set_option maxHeartbeats 4000000 in
theorem p_X4_at_r28_6 {e : mEv} (hG : mGeo (mw0 e) lw_kept) (N : Nat) {f : mFx} (C0 : mCx f (mw0 e) sc0 cX4_at 7 RX4 lw_kept) (hFr : mFr f 4) : ∀ (n : Nat) (x1 : Int) (y3 : Nat) (x4 : Int) (x5 : Int) (σ : mS) (o4 : Int) (σ' : mS), L_X4_at_r28_6 N n x1 y3 x4 x5 σ = some (o4, σ') → mWW f (mw0 e) sc0 7 (64, [none, none, some (.inr (.inr (5, 0))), none, some (.inl o4), none, none], [], σ') → mWW f (mw0 e) sc0 7 (6, [some (.inr (.inr (29, 0))), some (.inl x1), some (.inr (.inr (5, 0))), some (.inr (.inr (28, y3))), some (.inl x4), some (.inl x5), none], [], σ) := by
  intro n
  induction n with
  | zero =>
    intro x1 y3 x4 x5 σ o4 σ' h hK
    cases h
  | succ n IH =>
    intro x1 y3 x4 x5 σ o4 σ' h hK
    rw [L_X4_at_r28_6_s] at h
    refine m_blk C0 (pX4_ok rfl) kX4_at_ok 4 3 (12, [some (.inr (.inr (29, 0))), some (.inl x1), some (.inr (.inr (5, 0))), some (.inr (.inr (28, y3))), some (.inl x4), some (.inl x5), none], [.inl (σ 5 0 2), .inl x5], σ) (Ps := []) rfl trivial ?_
    refine b_ige C0 kX4_at_ok 7 (off := 52) (tgt := 64) rfl (by decide) (fun hb779 => ?_) (fun hb779 => ?_)
    · replace h := g_pos hb779 h
      cases h
      refine m_mask [false, false, true, false, true, false, false] (ls' := [none, none, some (.inr (.inr (5, 0))), none, some (.inl x4), none, none]) rfl ?_
      exact hK
    · replace h := g_neg hb779 h
      obtain ⟨hc, h⟩ := g_if h
      refine m_blk C0 (pX4_ok rfl) kX4_at_ok 8 16 (40, [some (.inr (.inr (29, 0))), some (.inl x1), some (.inr (.inr (5, 0))), some (.inr (.inr (28, y3))), some (.inl x4), some (.inl x5), some (.inl (σ 20 0 x5.toNat))], [.inl x1, .inr (.inr (29, 0)), .inl (mw ((σ 28 y3 ((σ 20 0 x5.toNat).toNat)) * (σ 21 0 x5.toNat))), .inl x4], σ) (Ps := [0 ≤ x5 ∧ x5 < 48, 0 ≤ (σ 20 0 x5.toNat) ∧ (σ 20 0 x5.toNat) < 48, 0 ≤ x5 ∧ x5 < 48]) rfl (And.intro hc.1 (And.intro hc.2 (And.intro hc.1 trivial))) ?_
      refine m_blk C0 (pX4_ok rfl) kX4_at_ok 24 6 (51, [some (.inr (.inr (29, 0))), some (.inl x1), some (.inr (.inr (5, 0))), some (.inr (.inr (28, y3))), some (.inl x4), some (.inl x5), some (.inl (σ 20 0 x5.toNat))], [.inr (.inr (7, (σ 20 0 x5.toNat).toNat)), .inr (.inr (23, 0)), .inl x1, .inr (.inr (29, 0)), .inl (mw ((σ 28 y3 ((σ 20 0 x5.toNat).toNat)) * (σ 21 0 x5.toNat))), .inl x4], σ) (Ps := [0 ≤ (σ 20 0 x5.toNat) ∧ (σ 20 0 x5.toNat) < 48]) rfl (And.intro hc.2 trivial) ?_
      obtain ⟨⟨v777, s776⟩, hq778, h⟩ := g_bind h
      refine c_V (rest := [.inl (mw ((σ 28 y3 ((σ 20 0 x5.toNat).toNat)) * (σ 21 0 x5.toNat))), .inl x4]) C0 hFr (t_X4_oneByD_r7 hG f.2.1 N hq778) lk_X4_35 (k_at kX4_at_ok 30 rfl) rfl rfl rfl rfl ⟨_, _, rfl⟩ (by decide) (by decide) (Nat.le_of_ble_eq_true rfl) ?_
      refine m_blk C0 (pX4_ok rfl) kX4_at_ok 31 5 (6, [some (.inr (.inr (29, 0))), some (.inl x1), some (.inr (.inr (5, 0))), some (.inr (.inr (28, y3))), some (.inl (mw (x4 + (mw ((mw ((σ 28 y3 ((σ 20 0 x5.toNat).toNat)) * (σ 21 0 x5.toNat))) * v777))))), some (.inl (mw (x5 + 1))), some (.inl (σ 20 0 x5.toNat))], [], s776) (Ps := []) rfl trivial ?_
      refine m_mask [true, true, true, true, true, true, false] (ls' := [some (.inr (.inr (29, 0))), some (.inl x1), some (.inr (.inr (5, 0))), some (.inr (.inr (28, y3))), some (.inl (mw (x4 + (mw ((mw ((σ 28 y3 ((σ 20 0 x5.toNat).toNat)) * (σ 21 0 x5.toNat))) * v777))))), some (.inl (mw (x5 + 1))), none]) rfl ?_
      exact IH _ _ _ _ _ _ _ h hK
set_option maxRecDepth 100000 in
set_option maxHeartbeats 4000000 in
theorem t_X4_at_r28 {e : mEv} (hG : mGeo (mw0 e) lw_kept) (l : Launch) (N : Nat) {a1 : Int} {q3 : Nat} {σ σ' : mS} {v : Int} (h : f_X4_at_r28 N a1 q3 σ = some (v, σ')) : mMet l (mw0 e) lw_kept 4 yX4_at cX4_at 7 (some .int) [.inr (.inr (29, 0)), .inl a1, .inr (.inr (5, 0)), .inr (.inr (28, q3))] σ (some (.inl v)) σ' := by
  refine mMet_intro (plainFor_of_name (by decide)) hG (Nat.le_of_ble_eq_true rfl) (fun f hl hR C0 hFin => ?_)
  subst hl
  have hFr := mFr_of hR hFin
  unfold f_X4_at_r28 at h
  show mWW f (mw0 e) sc0 7 (0, [some (.inr (.inr (29, 0))), some (.inl a1), some (.inr (.inr (5, 0))), some (.inr (.inr (28, q3))), none, none, none], [], σ)
  refine m_blk C0 (pX4_ok rfl) kX4_at_ok 0 4 (6, [some (.inr (.inr (29, 0))), some (.inl a1), some (.inr (.inr (5, 0))), some (.inr (.inr (28, q3))), some (.inl 0), some (.inl 0), none], [], σ) (Ps := []) rfl trivial ?_
  obtain ⟨⟨o781, s780⟩, hq783, h⟩ := g_bind h
  refine m_mask [true, true, true, true, true, true, false] (ls' := [some (.inr (.inr (29, 0))), some (.inl a1), some (.inr (.inr (5, 0))), some (.inr (.inr (28, q3))), some (.inl 0), some (.inl 0), none]) rfl ?_
  refine p_X4_at_r28_6 hG N C0 hFr N _ _ _ _ _ _ _ hq783 ?_
  refine m_blk C0 (pX4_ok rfl) kX4_at_ok 36 2 (68, [none, none, some (.inr (.inr (5, 0))), none, some (.inl o781), none, none], [.inl (s780 5 0 0)], s780) (Ps := []) rfl trivial ?_
  refine b_le C0 kX4_at_ok 38 (off := 13) (tgt := 81) rfl (by decide) (fun hb782 => ?_) (fun hb782 => ?_)
  · replace h := g_pos hb782 h
    refine m_blk C0 (pX4_ok rfl) kX4_at_ok 44 1 (82, [none, none, some (.inr (.inr (5, 0))), none, some (.inl o781), none, none], [.inl 0], s780) (Ps := []) rfl trivial ?_
    cases h
    exact m_iret C0 hFin (k_at kX4_at_ok 45 rfl) (Or.inl rfl)
  · replace h := g_neg hb782 h
    obtain ⟨hc, h⟩ := g_if h
    refine m_blk C0 (pX4_ok rfl) kX4_at_ok 39 5 (82, [none, none, some (.inr (.inr (5, 0))), none, some (.inl o781), none, none], [.inl (o_div o781 (s780 5 0 0))], s780) (Ps := [¬ (s780 5 0 0) = 0]) rfl (And.intro hc trivial) ?_
    cases h
    exact m_iret C0 hFin (k_at kX4_at_ok 45 rfl) (Or.inl rfl)
