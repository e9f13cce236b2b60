set_option maxRecDepth 100000 in
set_option maxHeartbeats 4000000 in
theorem t_X12_image {e : mEv} (hG : mGeo (mw0 e) lw_kept) (l : Launch) (N : Nat) {a1 : Int} {a2 : Int} {σ σ' : mS} {v : Int} (h : f_X12_image N a1 a2 σ = some (v, σ')) : mMet l (mw0 e) lw_kept 1 yX12_image cX12_image 3 (some .int) [.inr (.inr (71, 0)), .inl a1, .inl a2] σ (some (.inl v)) σ' := by
  refine mMet_intro (plainFor_of_name (by decide)) hG (Nat.le_of_ble_eq_true rfl) (fun f hl hR C0 hFin => ?_)
  subst hl
  have hFr := mFr_of hR hFin
  unfold f_X12_image at h
  show mWW f (mw0 e) sc0 3 (0, [some (.inr (.inr (71, 0))), some (.inl a1), some (.inl a2)], [], σ)
  refine m_blk C0 (pX12_ok rfl) kX12_image_ok 0 6 (8, [some (.inr (.inr (71, 0))), some (.inl a1), some (.inl a2)], [.inl (mw ((σ 71 0 40) - 1)), .inl 0, .inl a1], σ) (Ps := []) rfl trivial ?_
  obtain ⟨⟨v2054, s2053⟩, hq2060, h⟩ := g_bind h
  refine c_S (rest := []) C0 hFr (t_X12_isIn hG f.2.1 N hq2060) lk_X12_110 (k_at kX12_image_ok 6 rfl) rfl rfl rfl (by decide) (by decide) (Nat.le_of_ble_eq_true rfl) ?_
  refine b_eq C0 kX12_image_ok 7 (off := 25) (tgt := 36) rfl (by decide) (fun hb2059 => ?_) (fun hb2059 => ?_)
  · replace h := g_pos hb2059 h
    refine m_blk C0 (pX12_ok rfl) kX12_image_ok 22 1 (37, [some (.inr (.inr (71, 0))), some (.inl a1), some (.inl a2)], [.inl 0], s2053) (Ps := []) rfl trivial ?_
    cases h
    exact m_iret C0 hFin (k_at kX12_image_ok 23 rfl) (Or.inl rfl)
  · replace h := g_neg hb2059 h
    refine m_blk C0 (pX12_ok rfl) kX12_image_ok 8 3 (17, [some (.inr (.inr (71, 0))), some (.inl a1), some (.inl a2)], [.inl 2, .inl 0, .inl a2], s2053) (Ps := []) rfl trivial ?_
    obtain ⟨⟨v2056, s2055⟩, hq2058, h⟩ := g_bind h
    refine c_S (rest := []) C0 hFr (t_X12_isIn hG f.2.1 N hq2058) lk_X12_110 (k_at kX12_image_ok 11 rfl) rfl rfl rfl (by decide) (by decide) (Nat.le_of_ble_eq_true rfl) ?_
    refine b_eq C0 kX12_image_ok 12 (off := 16) (tgt := 36) rfl (by decide) (fun hb2057 => ?_) (fun hb2057 => ?_)
    · replace h := g_pos hb2057 h
      refine m_blk C0 (pX12_ok rfl) kX12_image_ok 22 1 (37, [some (.inr (.inr (71, 0))), some (.inl a1), some (.inl a2)], [.inl 0], s2055) (Ps := []) rfl trivial ?_
      cases h
      exact m_iret C0 hFin (k_at kX12_image_ok 23 rfl) (Or.inl rfl)
    · replace h := g_neg hb2057 h
      obtain ⟨hc, h⟩ := g_if h
      refine m_blk C0 (pX12_ok rfl) kX12_image_ok 13 9 (37, [some (.inr (.inr (71, 0))), some (.inl a1), some (.inl a2)], [.inl (s2055 97 0 ((mw ((mw ((3 : Int) * a1)) + a2)).toNat))], s2055) (Ps := [0 ≤ (mw ((mw ((3 : Int) * a1)) + a2)) ∧ (mw ((mw ((3 : Int) * a1)) + a2)) < 144]) rfl (And.intro hc trivial) ?_
      cases h
      exact m_iret C0 hFin (k_at kX12_image_ok 23 rfl) (Or.inl rfl)
set_option maxRecDepth 100000 in
set_option maxHeartbeats 4000000 in
theorem p_X12_leads_3 {e : mEv} (hG : mGeo (mw0 e) lw_kept) (N : Nat) {f : mFx} (C0 : mCx f (mw0 e) sc0 cX12_leads 5 RX12 lw_kept) (hFr : mFr f 2) : ∀ (n : Nat) (x1 : Int) (x2 : Int) (x3 : Int) (x4 : Int) (σ : mS) (out : (Int × mS) ⊕ (mS)), L_X12_leads_3 N n x1 x2 x3 x4 σ = some out → (∀ v s, out = .inl (v, s) → mFin f (mw0 e) (some .int) (some (.inl v)) s) → (∀  (s : mS), out = .inr s → mWW f (mw0 e) sc0 5 (64, [none, none, none, none, none], [], s)) → mWW f (mw0 e) sc0 5 (3, [some (.inr (.inr (71, 0))), some (.inl x1), some (.inl x2), some (.inl x3), some (.inl x4)], [], σ) := by
  intro n
  induction n with
  | zero =>
    intro x1 x2 x3 x4 σ out h hX hK
    cases h
  | succ n IH =>
    intro x1 x2 x3 x4 σ out h hX hK
    rw [L_X12_leads_3_s] at h
    refine m_blk C0 (pX12_ok rfl) kX12_leads_ok 2 3 (9, [some (.inr (.inr (71, 0))), some (.inl x1), some (.inl x2), some (.inl x3), some (.inl x4)], [.inl (σ 71 0 6), .inl x4], σ) (Ps := []) rfl trivial ?_
    refine b_ige C0 kX12_leads_ok 5 (off := 55) (tgt := 64) rfl (by decide) (fun hb2067 => ?_) (fun hb2067 => ?_)
    · replace h := g_pos hb2067 h
      cases h
      refine m_mask [false, false, false, false, false] (ls' := [none, none, none, none, none]) rfl ?_
      exact hK _ rfl
    · replace h := g_neg hb2067 h
      refine m_blk C0 (pX12_ok rfl) kX12_leads_ok 6 2 (16, [some (.inr (.inr (71, 0))), some (.inl x1), some (.inl x2), some (.inl x3), some (.inl x4)], [.inl (σ 71 0 41)], σ) (Ps := []) rfl trivial ?_
      refine b_eq C0 kX12_leads_ok 8 (off := 48) (tgt := 64) rfl (by decide) (fun hb2066 => ?_) (fun hb2066 => ?_)
      · replace h := g_pos hb2066 h
        cases h
        refine m_mask [false, false, false, false, false] (ls' := [none, none, none, none, none]) rfl ?_
        exact hK _ rfl
      · replace h := g_neg hb2066 h
        refine m_blk C0 (pX12_ok rfl) kX12_leads_ok 9 2 (22, [some (.inr (.inr (71, 0))), some (.inl x1), some (.inl x2), some (.inl x3), some (.inl x4)], [.inl x4, .inr (.inr (71, 0))], σ) (Ps := []) rfl trivial ?_
        obtain ⟨s2061, hq2065, h⟩ := g_bind h
        refine c_V (rest := []) C0 hFr (t_X12_leads0 hG f.2.1 N hq2065) lk_X12_299 (k_at kX12_leads_ok 11 rfl) rfl rfl rfl rfl ⟨_, _, rfl⟩ (by decide) (by decide) (Nat.le_of_ble_eq_true rfl) ?_
        refine m_blk C0 (pX12_ok rfl) kX12_leads_ok 12 5 (32, [some (.inr (.inr (71, 0))), some (.inl x1), some (.inl x2), some (.inl x3), some (.inl x4)], [.inl x1, .inl (s2061 98 0 0)], s2061) (Ps := [0 ≤ (0 : Int) ∧ (0 : Int) < 3]) rfl (And.intro (by decide) trivial) ?_
        refine b_ine C0 kX12_leads_ok 17 (off := 26) (tgt := 58) rfl (by decide) (fun hb2064 => ?_) (fun hb2064 => ?_)
        · replace h := g_neg hb2064 h
          refine m_blk C0 (pX12_ok rfl) kX12_leads_ok 32 2 (3, [some (.inr (.inr (71, 0))), some (.inl x1), some (.inl x2), some (.inl x3), some (.inl (mw (x4 + 1)))], [], s2061) (Ps := []) rfl trivial ?_
          refine m_mask [true, true, true, true, true] (ls' := [some (.inr (.inr (71, 0))), some (.inl x1), some (.inl x2), some (.inl x3), some (.inl (mw (x4 + 1)))]) rfl ?_
          exact IH _ _ _ _ _ _ h hX hK
        · replace h := g_pos hb2064 h
          refine m_blk C0 (pX12_ok rfl) kX12_leads_ok 18 5 (42, [some (.inr (.inr (71, 0))), some (.inl x1), some (.inl x2), some (.inl x3), some (.inl x4)], [.inl x2, .inl (s2061 98 0 1)], s2061) (Ps := [0 ≤ (1 : Int) ∧ (1 : Int) < 3]) rfl (And.intro (by decide) trivial) ?_
          refine b_ine C0 kX12_leads_ok 23 (off := 16) (tgt := 58) rfl (by decide) (fun hb2063 => ?_) (fun hb2063 => ?_)
          · replace h := g_neg hb2063 h
            refine m_blk C0 (pX12_ok rfl) kX12_leads_ok 32 2 (3, [some (.inr (.inr (71, 0))), some (.inl x1), some (.inl x2), some (.inl x3), some (.inl (mw (x4 + 1)))], [], s2061) (Ps := []) rfl trivial ?_
            refine m_mask [true, true, true, true, true] (ls' := [some (.inr (.inr (71, 0))), some (.inl x1), some (.inl x2), some (.inl x3), some (.inl (mw (x4 + 1)))]) rfl ?_
            exact IH _ _ _ _ _ _ h hX hK
          · replace h := g_pos hb2063 h
            refine m_blk C0 (pX12_ok rfl) kX12_leads_ok 24 5 (52, [some (.inr (.inr (71, 0))), some (.inl x1), some (.inl x2), some (.inl x3), some (.inl x4)], [.inl x3, .inl (s2061 98 0 2)], s2061) (Ps := [0 ≤ (2 : Int) ∧ (2 : Int) < 3]) rfl (And.intro (by decide) trivial) ?_
            refine b_ine C0 kX12_leads_ok 29 (off := 6) (tgt := 58) rfl (by decide) (fun hb2062 => ?_) (fun hb2062 => ?_)
            · replace h := g_neg hb2062 h
              refine m_blk C0 (pX12_ok rfl) kX12_leads_ok 32 2 (3, [some (.inr (.inr (71, 0))), some (.inl x1), some (.inl x2), some (.inl x3), some (.inl (mw (x4 + 1)))], [], s2061) (Ps := []) rfl trivial ?_
              refine m_mask [true, true, true, true, true] (ls' := [some (.inr (.inr (71, 0))), some (.inl x1), some (.inl x2), some (.inl x3), some (.inl (mw (x4 + 1)))]) rfl ?_
              exact IH _ _ _ _ _ _ h hX hK
            · replace h := g_pos hb2062 h
              refine m_blk C0 (pX12_ok rfl) kX12_leads_ok 30 1 (57, [some (.inr (.inr (71, 0))), some (.inl x1), some (.inl x2), some (.inl x3), some (.inl x4)], [.inl x4], s2061) (Ps := []) rfl trivial ?_
              cases h
              exact m_iret C0 (hX _ _ rfl) (k_at kX12_leads_ok 31 rfl) (Or.inl rfl)
set_option maxRecDepth 100000 in
set_option maxHeartbeats 4000000 in
theorem t_X12_leads {e : mEv} (hG : mGeo (mw0 e) lw_kept) (l : Launch) (N : Nat) {a1 : Int} {a2 : Int} {a3 : Int} {σ σ' : mS} {v : Int} (h : f_X12_leads N a1 a2 a3 σ = some (v, σ')) : mMet l (mw0 e) lw_kept 2 yX12_leads cX12_leads 5 (some .int) [.inr (.inr (71, 0)), .inl a1, .inl a2, .inl a3] σ (some (.inl v)) σ' := by
  refine mMet_intro (plainFor_of_name (by decide)) hG (Nat.le_of_ble_eq_true rfl) (fun f hl hR C0 hFin => ?_)
  subst hl
  have hFr := mFr_of hR hFin
  unfold f_X12_leads at h
  show mWW f (mw0 e) sc0 5 (0, [some (.inr (.inr (71, 0))), some (.inl a1), some (.inl a2), some (.inl a3), none], [], σ)
  refine m_blk C0 (pX12_ok rfl) kX12_leads_ok 0 2 (3, [some (.inr (.inr (71, 0))), some (.inl a1), some (.inl a2), some (.inl a3), some (.inl 0)], [], σ) (Ps := []) rfl trivial ?_
  obtain ⟨o, hq2069, h⟩ := g_bind h
  refine m_mask [true, true, true, true, true] (ls' := [some (.inr (.inr (71, 0))), some (.inl a1), some (.inl a2), some (.inl a3), some (.inl 0)]) rfl ?_
  rcases o with ⟨v2070, s2071⟩ | s2068
  · cases h
    exact p_X12_leads_3 hG N C0 hFr N _ _ _ _ _ _ hq2069 (fun v s e => by cases e; exact hFin) (fun _ e => by cases e)
  · refine p_X12_leads_3 hG N C0 hFr N _ _ _ _ _ _ hq2069 (fun v s e => by cases e) (fun _ e => ?_)
    cases e
    refine m_blk C0 (pX12_ok rfl) kX12_leads_ok 34 1 (65, [none, none, none, none, none], [.inl (-1)], s2068) (Ps := []) rfl trivial ?_
    cases h
    exact m_iret C0 hFin (k_at kX12_leads_ok 35 rfl) (Or.inl rfl)
