set_option maxRecDepth 100000 in
set_option maxHeartbeats 4000000 in
theorem t_X12_laws {e : mEv} (hG : mGeo (mw0 e) lw_kept) (l : Launch) (N : Nat) {a1 : Int} {a2 : Int} {σ σ' : mS} {v : Int} (h : f_X12_laws N a1 a2 σ = some (v, σ')) : mMet l (mw0 e) lw_kept 12 yX12_laws cX12_laws 3 (some .int) [.inr (.inr (71, 0)), .inl a1, .inl a2] σ (some (.inl v)) σ' := by
  refine mMet_intro (plainFor_of_name (by decide)) hG (Nat.le_of_ble_eq_true rfl) (fun f hl hR C0 hFin => ?_)
  subst hl
  have hFr := mFr_of hR hFin
  unfold f_X12_laws at h
  show mWW f (mw0 e) sc0 3 (0, [some (.inr (.inr (71, 0))), some (.inl a1), some (.inl a2)], [], σ)
  refine m_blk C0 (pX12_ok rfl) kX12_laws_ok 0 3 (4, [some (.inr (.inr (71, 0))), some (.inl a1), some (.inl a2)], [.inl 6, .inl 0, .inl a1], σ) (Ps := []) rfl trivial ?_
  obtain ⟨⟨v1926, s1925⟩, hq1938, h⟩ := g_bind h
  refine c_S (rest := []) C0 hFr (t_X12_isIn hG f.2.1 N hq1938) lk_X12_110 (k_at kX12_laws_ok 3 rfl) rfl rfl rfl (by decide) (by decide) (Nat.le_of_ble_eq_true rfl) ?_
  refine b_eq C0 kX12_laws_ok 4 (off := 12) (tgt := 19) rfl (by decide) (fun hb1937 => ?_) (fun hb1937 => ?_)
  · replace h := g_pos hb1937 h
    refine m_blk C0 (pX12_ok rfl) kX12_laws_ok 10 1 (20, [some (.inr (.inr (71, 0))), some (.inl a1), some (.inl a2)], [.inl (-1)], s1925) (Ps := []) rfl trivial ?_
    cases h
    exact m_iret C0 hFin (k_at kX12_laws_ok 11 rfl) (Or.inl rfl)
  · replace h := g_neg hb1937 h
    refine m_blk C0 (pX12_ok rfl) kX12_laws_ok 5 3 (13, [some (.inr (.inr (71, 0))), some (.inl a1), some (.inl a2)], [.inl 1, .inl 0, .inl a2], s1925) (Ps := []) rfl trivial ?_
    obtain ⟨⟨v1928, s1927⟩, hq1936, h⟩ := g_bind h
    refine c_S (rest := []) C0 hFr (t_X12_isIn hG f.2.1 N hq1936) lk_X12_110 (k_at kX12_laws_ok 8 rfl) rfl rfl rfl (by decide) (by decide) (Nat.le_of_ble_eq_true rfl) ?_
    refine b_ne C0 kX12_laws_ok 9 (off := 5) (tgt := 21) rfl (by decide) (fun hb1935 => ?_) (fun hb1935 => ?_)
    · replace h := g_neg hb1935 h
      refine m_blk C0 (pX12_ok rfl) kX12_laws_ok 12 2 (23, [some (.inr (.inr (71, 0))), some (.inl a1), some (.inl a2)], [.inl a1, .inr (.inr (71, 0))], s1927) (Ps := []) rfl trivial ?_
      obtain ⟨s1929, hq1934, h⟩ := g_bind h
      refine c_V (rest := []) C0 hFr (t_X12_list hG f.2.1 N hq1934) lk_X12_262 (k_at kX12_laws_ok 14 rfl) rfl rfl rfl rfl ⟨_, _, rfl⟩ (by decide) (by decide) (Nat.le_of_ble_eq_true rfl) ?_
      refine m_blk C0 (pX12_ok rfl) kX12_laws_ok 15 1 (27, [some (.inr (.inr (71, 0))), some (.inl a1), some (.inl a2)], [.inl a2], s1929) (Ps := []) rfl trivial ?_
      refine b_ne C0 kX12_laws_ok 16 (off := 10) (tgt := 37) rfl (by decide) (fun hb1933 => ?_) (fun hb1933 => ?_)
      · replace h := g_neg hb1933 h
        refine m_blk C0 (pX12_ok rfl) kX12_laws_ok 20 5 (44, [some (.inr (.inr (71, 0))), some (.inl a1), some (.inl a2)], [.inl 0, .inl a1, .inr (.inr (71, 0)), .inl (s1929 71 0 26)], s1929) (Ps := []) rfl trivial ?_
        obtain ⟨⟨v1931, s1930⟩, hq1932, h⟩ := g_bind h
        refine c_V (rest := [.inl (s1929 71 0 26)]) C0 hFr (t_X12_count0 hG f.2.1 N hq1932) lk_X12_244 (k_at kX12_laws_ok 25 rfl) rfl rfl rfl rfl ⟨_, _, rfl⟩ (by decide) (by decide) (Nat.le_of_ble_eq_true rfl) ?_
        refine m_blk C0 (pX12_ok rfl) kX12_laws_ok 26 1 (48, [some (.inr (.inr (71, 0))), some (.inl a1), some (.inl a2)], [.inl (mw ((s1929 71 0 26) - v1931))], s1930) (Ps := []) rfl trivial ?_
        cases h
        exact m_iret C0 hFin (k_at kX12_laws_ok 27 rfl) (Or.inl rfl)
      · replace h := g_pos hb1933 h
        refine m_blk C0 (pX12_ok rfl) kX12_laws_ok 17 3 (48, [some (.inr (.inr (71, 0))), some (.inl a1), some (.inl a2)], [.inl (s1929 71 0 26)], s1929) (Ps := []) rfl trivial ?_
        cases h
        exact m_iret C0 hFin (k_at kX12_laws_ok 27 rfl) (Or.inl rfl)
    · replace h := g_pos hb1935 h
      refine m_blk C0 (pX12_ok rfl) kX12_laws_ok 10 1 (20, [some (.inr (.inr (71, 0))), some (.inl a1), some (.inl a2)], [.inl (-1)], s1927) (Ps := []) rfl trivial ?_
      cases h
      exact m_iret C0 hFin (k_at kX12_laws_ok 11 rfl) (Or.inl rfl)
set_option maxRecDepth 100000 in
set_option maxHeartbeats 4000000 in
theorem p_X12_made_56 {e : mEv} (hG : mGeo (mw0 e) lw_kept) (N : Nat) {f : mFx} (C0 : mCx f (mw0 e) sc0 cX12_made 6 RX12 lw_kept) (hFr : mFr f 13) : ∀ (n : Nat) (x1 : Int) (x2 : Int) (x3 : Int) (σ : mS) (σ' : mS), L_X12_made_56 N n x1 x2 x3 σ = some σ' → mWW f (mw0 e) sc0 6 (112, [some (.inr (.inr (71, 0))), some (.inl x1), some (.inl x2), none, none, none], [], σ') → mWW f (mw0 e) sc0 6 (56, [some (.inr (.inr (71, 0))), some (.inl x1), some (.inl x2), some (.inl x3), none, none], [], σ) := by
  intro n
  induction n with
  | zero =>
    intro x1 x2 x3 σ σ' h hK
    cases h
  | succ n IH =>
    intro x1 x2 x3 σ σ' h hK
    rw [L_X12_made_56_s] at h
    refine m_blk C0 (pX12_ok rfl) kX12_made_ok 32 2 (60, [some (.inr (.inr (71, 0))), some (.inl x1), some (.inl x2), some (.inl x3), none, none], [.inl 729, .inl x3], σ) (Ps := []) rfl trivial ?_
    refine b_ige C0 kX12_made_ok 34 (off := 52) (tgt := 112) rfl (by decide) (fun hb1947 => ?_) (fun hb1947 => ?_)
    · replace h := g_pos hb1947 h
      cases h
      refine m_mask [true, true, true, false, false, false] (ls' := [some (.inr (.inr (71, 0))), some (.inl x1), some (.inl x2), none, none, none]) rfl ?_
      exact hK
    · replace h := g_neg hb1947 h
      refine m_blk C0 (pX12_ok rfl) kX12_made_ok 35 16 (85, [some (.inr (.inr (71, 0))), some (.inl x1), some (.inl x2), some (.inl x3), none, none], [.inl (mw ((mw ((o_div x3 81) + (o_rem (o_div x3 9) 9))) + (o_rem x3 9))), .inl x3, .inr (.inr (87, 0))], σ) (Ps := [¬ (81 : Int) = 0, ¬ (9 : Int) = 0, ¬ (9 : Int) = 0, ¬ (9 : Int) = 0]) rfl (And.intro (by decide) (And.intro (by decide) (And.intro (by decide) (And.intro (by decide) trivial)))) ?_
      refine m_blk C0 (pX12_ok rfl) kX12_made_ok 51 1 (86, [some (.inr (.inr (71, 0))), some (.inl x1), some (.inl x2), some (.inl x3), none, none], [.inl x2, .inl (mw ((mw ((o_div x3 81) + (o_rem (o_div x3 9) 9))) + (o_rem x3 9))), .inl x3, .inr (.inr (87, 0))], σ) (Ps := []) rfl trivial ?_
      refine b_ine C0 kX12_made_ok 52 (off := 18) (tgt := 104) rfl (by decide) (fun hb1946 => ?_) (fun hb1946 => ?_)
      · replace h := g_neg hb1946 h
        obtain ⟨hc, h⟩ := g_if h
        refine m_blk C0 (pX12_ok rfl) kX12_made_ok 62 2 (106, [some (.inr (.inr (71, 0))), some (.inl x1), some (.inl x2), some (.inl x3), none, none], [], (mup σ 87 0 x3.toNat 0)) (Ps := [0 ≤ x3 ∧ x3 < 729]) rfl (And.intro hc trivial) ?_
        refine m_blk C0 (pX12_ok rfl) kX12_made_ok 64 2 (56, [some (.inr (.inr (71, 0))), some (.inl x1), some (.inl x2), some (.inl (mw (x3 + 1))), none, none], [], (mup σ 87 0 x3.toNat 0)) (Ps := []) rfl trivial ?_
        refine m_mask [true, true, true, true, false, false] (ls' := [some (.inr (.inr (71, 0))), some (.inl x1), some (.inl x2), some (.inl (mw (x3 + 1))), none, none]) rfl ?_
        exact IH _ _ _ _ _ h hK
      · replace h := g_pos hb1946 h
        obtain ⟨hc, h⟩ := g_if h
        refine m_blk C0 (pX12_ok rfl) kX12_made_ok 53 9 (105, [some (.inr (.inr (71, 0))), some (.inl x1), some (.inl x2), some (.inl x3), none, none], [.inl (σ 81 0 ((mw ((mw ((729 : Int) * x1)) + x3)).toNat)), .inl x3, .inr (.inr (87, 0))], σ) (Ps := [0 ≤ (mw ((mw ((729 : Int) * x1)) + x3)) ∧ (mw ((mw ((729 : Int) * x1)) + x3)) < 7290]) rfl (And.intro hc trivial) ?_
        obtain ⟨hc, h⟩ := g_if h
        refine m_blk C0 (pX12_ok rfl) kX12_made_ok 63 1 (106, [some (.inr (.inr (71, 0))), some (.inl x1), some (.inl x2), some (.inl x3), none, none], [], (mup σ 87 0 x3.toNat (σ 81 0 ((mw ((mw ((729 : Int) * x1)) + x3)).toNat)))) (Ps := [0 ≤ x3 ∧ x3 < 729]) rfl (And.intro hc trivial) ?_
        refine m_blk C0 (pX12_ok rfl) kX12_made_ok 64 2 (56, [some (.inr (.inr (71, 0))), some (.inl x1), some (.inl x2), some (.inl (mw (x3 + 1))), none, none], [], (mup σ 87 0 x3.toNat (σ 81 0 ((mw ((mw ((729 : Int) * x1)) + x3)).toNat)))) (Ps := []) rfl trivial ?_
        refine m_mask [true, true, true, true, false, false] (ls' := [some (.inr (.inr (71, 0))), some (.inl x1), some (.inl x2), some (.inl (mw (x3 + 1))), none, none]) rfl ?_
        exact IH _ _ _ _ _ h hK
set_option maxRecDepth 100000 in
set_option maxHeartbeats 4000000 in
theorem p_X12_made_175 {e : mEv} (hG : mGeo (mw0 e) lw_kept) (N : Nat) {f : mFx} (C0 : mCx f (mw0 e) sc0 cX12_made 6 RX12 lw_kept) (hFr : mFr f 13) : ∀ (n : Nat) (x1 : Int) (x2 : Int) (x3 : Int) (x4 : Int) (x5 : Int) (σ : mS) (σ' : mS), L_X12_made_175 N n x1 x2 x3 x4 x5 σ = some σ' → mWW f (mw0 e) sc0 6 (221, [some (.inr (.inr (71, 0))), some (.inl x1), some (.inl x2), some (.inl x3), some (.inl x4), none], [], σ') → mWW f (mw0 e) sc0 6 (175, [some (.inr (.inr (71, 0))), some (.inl x1), some (.inl x2), some (.inl x3), some (.inl x4), some (.inl x5)], [], σ) := by
  intro n
  induction n with
  | zero =>
    intro x1 x2 x3 x4 x5 σ σ' h hK
    cases h
  | succ n IH =>
    intro x1 x2 x3 x4 x5 σ σ' h hK
    rw [L_X12_made_175_s] at h
    refine m_blk C0 (pX12_ok rfl) kX12_made_ok 100 2 (179, [some (.inr (.inr (71, 0))), some (.inl x1), some (.inl x2), some (.inl x3), some (.inl x4), some (.inl x5)], [.inl 40, .inl x5], σ) (Ps := []) rfl trivial ?_
    refine b_ige C0 kX12_made_ok 102 (off := 42) (tgt := 221) rfl (by decide) (fun hb1951 => ?_) (fun hb1951 => ?_)
    · replace h := g_pos hb1951 h
      cases h
      refine m_mask [true, true, true, true, true, false] (ls' := [some (.inr (.inr (71, 0))), some (.inl x1), some (.inl x2), some (.inl x3), some (.inl x4), none]) rfl ?_
      exact hK
    · replace h := g_neg hb1951 h
      obtain ⟨hc, h⟩ := g_if h
      refine m_blk C0 (pX12_ok rfl) kX12_made_ok 103 16 (210, [some (.inr (.inr (71, 0))), some (.inl x1), some (.inl x2), some (.inl x3), some (.inl x4), some (.inl x5)], [.inl (mw ((40 : Int) * (σ 89 0 x4.toNat))), .inr (.inr (85, 0)), .inl (mw ((mw ((40 : Int) * (σ 71 0 32))) + x5)), .inr (.inr (95, 0))], σ) (Ps := [0 ≤ x4 ∧ x4 < 30]) rfl (And.intro hc.1 trivial) ?_
      refine m_blk C0 (pX12_ok rfl) kX12_made_ok 119 4 (215, [some (.inr (.inr (71, 0))), some (.inl x1), some (.inl x2), some (.inl x3), some (.inl x4), some (.inl x5)], [], (mup σ 95 0 ((mw ((mw ((40 : Int) * (σ 71 0 32))) + x5)).toNat) (σ 85 0 ((mw ((mw ((40 : Int) * (σ 89 0 x4.toNat))) + x5)).toNat)))) (Ps := [0 ≤ (mw ((mw ((40 : Int) * (σ 89 0 x4.toNat))) + x5)) ∧ (mw ((mw ((40 : Int) * (σ 89 0 x4.toNat))) + x5)) < 16000, 0 ≤ (mw ((mw ((40 : Int) * (σ 71 0 32))) + x5)) ∧ (mw ((mw ((40 : Int) * (σ 71 0 32))) + x5)) < 8000]) rfl (And.intro hc.2.1 (And.intro hc.2.2 trivial)) ?_
      refine m_blk C0 (pX12_ok rfl) kX12_made_ok 123 2 (175, [some (.inr (.inr (71, 0))), some (.inl x1), some (.inl x2), some (.inl x3), some (.inl x4), some (.inl (mw (x5 + 1)))], [], (mup σ 95 0 ((mw ((mw ((40 : Int) * (σ 71 0 32))) + x5)).toNat) (σ 85 0 ((mw ((mw ((40 : Int) * (σ 89 0 x4.toNat))) + x5)).toNat)))) (Ps := []) rfl trivial ?_
      refine m_mask [true, true, true, true, true, true] (ls' := [some (.inr (.inr (71, 0))), some (.inl x1), some (.inl x2), some (.inl x3), some (.inl x4), some (.inl (mw (x5 + 1)))]) rfl ?_
      exact IH _ _ _ _ _ _ _ h hK
set_option maxRecDepth 100000 in
set_option maxHeartbeats 4000000 in
theorem p_X12_made_120 {e : mEv} (hG : mGeo (mw0 e) lw_kept) (N : Nat) {f : mFx} (C0 : mCx f (mw0 e) sc0 cX12_made 6 RX12 lw_kept) (hFr : mFr f 13) : ∀ (n : Nat) (x1 : Int) (x2 : Int) (x3 : Int) (x4 : Int) (σ : mS) (σ' : mS), L_X12_made_120 N n x1 x2 x3 x4 σ = some σ' → mWW f (mw0 e) sc0 6 (237, [some (.inr (.inr (71, 0))), some (.inl x1), some (.inl x2), none, none, none], [], σ') → mWW f (mw0 e) sc0 6 (120, [some (.inr (.inr (71, 0))), some (.inl x1), some (.inl x2), some (.inl x3), some (.inl x4), none], [], σ) := by
  intro n
  induction n with
  | zero =>
    intro x1 x2 x3 x4 σ σ' h hK
    cases h
  | succ n IH =>
    intro x1 x2 x3 x4 σ σ' h hK
    rw [L_X12_made_120_s] at h
    refine m_blk C0 (pX12_ok rfl) kX12_made_ok 71 3 (126, [some (.inr (.inr (71, 0))), some (.inl x1), some (.inl x2), some (.inl x3), some (.inl x4), none], [.inl (σ 71 0 27), .inl x4], σ) (Ps := []) rfl trivial ?_
    refine b_ige C0 kX12_made_ok 74 (off := 111) (tgt := 237) rfl (by decide) (fun hb1956 => ?_) (fun hb1956 => ?_)
    · replace h := g_pos hb1956 h
      cases h
      refine m_mask [true, true, true, false, false, false] (ls' := [some (.inr (.inr (71, 0))), some (.inl x1), some (.inl x2), none, none, none]) rfl ?_
      exact hK
    · replace h := g_neg hb1956 h
      refine m_blk C0 (pX12_ok rfl) kX12_made_ok 75 1 (130, [some (.inr (.inr (71, 0))), some (.inl x1), some (.inl x2), some (.inl x3), some (.inl x4), none], [.inl x3], σ) (Ps := []) rfl trivial ?_
      refine b_eq C0 kX12_made_ok 76 (off := 107) (tgt := 237) rfl (by decide) (fun hb1955 => ?_) (fun hb1955 => ?_)
      · replace h := g_pos hb1955 h
        cases h
        refine m_mask [true, true, true, false, false, false] (ls' := [some (.inr (.inr (71, 0))), some (.inl x1), some (.inl x2), none, none, none]) rfl ?_
        exact hK
      · replace h := g_neg hb1955 h
        obtain ⟨hc, h⟩ := g_if h
        refine m_blk C0 (pX12_ok rfl) kX12_made_ok 77 4 (140, [some (.inr (.inr (71, 0))), some (.inl x1), some (.inl x2), some (.inl x3), some (.inl x4), none], [.inl (σ 91 0 x4.toNat)], σ) (Ps := [0 ≤ x4 ∧ x4 < 30]) rfl (And.intro hc trivial) ?_
        refine b_ne C0 kX12_made_ok 81 (off := 6) (tgt := 146) rfl (by decide) (fun hb1954 => ?_) (fun hb1954 => ?_)
        · replace h := g_neg hb1954 h
          obtain ⟨hc, h⟩ := g_if h
          refine m_blk C0 (pX12_ok rfl) kX12_made_ok 83 9 (162, [some (.inr (.inr (71, 0))), some (.inl x1), some (.inl x2), some (.inl x3), some (.inl x4), none], [], (mup σ 93 0 ((σ 71 0 32).toNat) (σ 91 0 x4.toNat))) (Ps := [0 ≤ x4 ∧ x4 < 30, 0 ≤ (σ 71 0 32) ∧ (σ 71 0 32) < 200]) rfl (And.intro hc.1 (And.intro hc.2 trivial)) ?_
          refine m_blk C0 (pX12_ok rfl) kX12_made_ok 92 6 (172, [some (.inr (.inr (71, 0))), some (.inl x1), some (.inl x2), some (.inl x3), some (.inl x4), none], [], (mup (mup σ 93 0 ((σ 71 0 32).toNat) (σ 91 0 x4.toNat)) 94 0 ((σ 71 0 32).toNat) x2)) (Ps := [0 ≤ (σ 71 0 32) ∧ (σ 71 0 32) < 200]) rfl (And.intro hc.2 trivial) ?_
          refine m_blk C0 (pX12_ok rfl) kX12_made_ok 98 2 (175, [some (.inr (.inr (71, 0))), some (.inl x1), some (.inl x2), some (.inl x3), some (.inl x4), some (.inl 0)], [], (mup (mup σ 93 0 ((σ 71 0 32).toNat) (σ 91 0 x4.toNat)) 94 0 ((σ 71 0 32).toNat) x2)) (Ps := []) rfl trivial ?_
          obtain ⟨s1952, hq1953, h⟩ := g_bind h
          refine m_mask [true, true, true, true, true, true] (ls' := [some (.inr (.inr (71, 0))), some (.inl x1), some (.inl x2), some (.inl x3), some (.inl x4), some (.inl 0)]) rfl ?_
          refine p_X12_made_175 hG N C0 hFr N _ _ _ _ _ _ _ hq1953 ?_
          refine m_blk C0 (pX12_ok rfl) kX12_made_ok 125 6 (231, [some (.inr (.inr (71, 0))), some (.inl x1), some (.inl x2), some (.inl x3), some (.inl x4), none], [], (mup s1952 71 0 32 (mw ((s1952 71 0 32) + 1)))) (Ps := []) rfl trivial ?_
          refine m_blk C0 (pX12_ok rfl) kX12_made_ok 131 2 (120, [some (.inr (.inr (71, 0))), some (.inl x1), some (.inl x2), some (.inl x3), some (.inl (mw (x4 + 1))), none], [], (mup s1952 71 0 32 (mw ((s1952 71 0 32) + 1)))) (Ps := []) rfl trivial ?_
          refine m_mask [true, true, true, true, true, false] (ls' := [some (.inr (.inr (71, 0))), some (.inl x1), some (.inl x2), some (.inl x3), some (.inl (mw (x4 + 1))), none]) rfl ?_
          exact IH _ _ _ _ _ _ h hK
        · replace h := g_pos hb1954 h
          refine m_blk C0 (pX12_ok rfl) kX12_made_ok 82 1 (231, [some (.inr (.inr (71, 0))), some (.inl x1), some (.inl x2), some (.inl x3), some (.inl x4), none], [], σ) (Ps := []) rfl trivial ?_
          refine m_blk C0 (pX12_ok rfl) kX12_made_ok 131 2 (120, [some (.inr (.inr (71, 0))), some (.inl x1), some (.inl x2), some (.inl x3), some (.inl (mw (x4 + 1))), none], [], σ) (Ps := []) rfl trivial ?_
          refine m_mask [true, true, true, true, true, false] (ls' := [some (.inr (.inr (71, 0))), some (.inl x1), some (.inl x2), some (.inl x3), some (.inl (mw (x4 + 1))), none]) rfl ?_
          exact IH _ _ _ _ _ _ h hK
set_option maxRecDepth 100000 in
set_option maxHeartbeats 4000000 in
theorem p_X12_made_43 {e : mEv} (hG : mGeo (mw0 e) lw_kept) (N : Nat) {f : mFx} (C0 : mCx f (mw0 e) sc0 cX12_made 6 RX12 lw_kept) (hFr : mFr f 13) : ∀ (n : Nat) (x1 : Int) (x2 : Int) (σ : mS) (σ' : mS), L_X12_made_43 N n x1 x2 σ = some σ' → mWW f (mw0 e) sc0 6 (243, [some (.inr (.inr (71, 0))), none, none, none, none, none], [], σ') → mWW f (mw0 e) sc0 6 (43, [some (.inr (.inr (71, 0))), some (.inl x1), some (.inl x2), none, none, none], [], σ) := by
  intro n
  induction n with
  | zero =>
    intro x1 x2 σ σ' h hK
    cases h
  | succ n IH =>
    intro x1 x2 σ σ' h hK
    rw [L_X12_made_43_s] at h
    refine m_blk C0 (pX12_ok rfl) kX12_made_ok 24 2 (46, [some (.inr (.inr (71, 0))), some (.inl x1), some (.inl x2), none, none, none], [.inl 7, .inl x2], σ) (Ps := []) rfl trivial ?_
    refine b_ige C0 kX12_made_ok 26 (off := 197) (tgt := 243) rfl (by decide) (fun hb1962 => ?_) (fun hb1962 => ?_)
    · replace h := g_pos hb1962 h
      cases h
      refine m_mask [true, false, false, false, false, false] (ls' := [some (.inr (.inr (71, 0))), none, none, none, none, none]) rfl ?_
      exact hK
    · replace h := g_neg hb1962 h
      refine m_blk C0 (pX12_ok rfl) kX12_made_ok 27 2 (51, [some (.inr (.inr (71, 0))), some (.inl x1), some (.inl x2), none, none, none], [.inl x2, .inr (.inr (71, 0))], σ) (Ps := []) rfl trivial ?_
      obtain ⟨s1945, hq1961, h⟩ := g_bind h
      refine c_V (rest := []) C0 hFr (t_X12_plainOf hG f.2.1 N hq1961) lk_X12_277 (k_at kX12_made_ok 29 rfl) rfl rfl rfl rfl ⟨_, _, rfl⟩ (by decide) (by decide) (Nat.le_of_ble_eq_true rfl) ?_
      refine m_blk C0 (pX12_ok rfl) kX12_made_ok 30 2 (56, [some (.inr (.inr (71, 0))), some (.inl x1), some (.inl x2), some (.inl 0), none, none], [], s1945) (Ps := []) rfl trivial ?_
      obtain ⟨s1948, hq1960, h⟩ := g_bind h
      refine m_mask [true, true, true, true, false, false] (ls' := [some (.inr (.inr (71, 0))), some (.inl x1), some (.inl x2), some (.inl 0), none, none]) rfl ?_
      refine p_X12_made_56 hG N C0 hFr N _ _ _ _ _ hq1960 ?_
      refine m_blk C0 (pX12_ok rfl) kX12_made_ok 66 1 (113, [some (.inr (.inr (71, 0))), some (.inl x1), some (.inl x2), none, none, none], [.inr (.inr (71, 0))], s1948) (Ps := []) rfl trivial ?_
      obtain ⟨⟨v1950, s1949⟩, hq1959, h⟩ := g_bind h
      refine c_V (rest := []) C0 hFr (t_X12_lessens hG f.2.1 N hq1959) lk_X12_271 (k_at kX12_made_ok 67 rfl) rfl rfl rfl rfl ⟨_, _, rfl⟩ (by decide) (by decide) (Nat.le_of_ble_eq_true rfl) ?_
      refine m_blk C0 (pX12_ok rfl) kX12_made_ok 68 3 (120, [some (.inr (.inr (71, 0))), some (.inl x1), some (.inl x2), some (.inl v1950), some (.inl 0), none], [], s1949) (Ps := []) rfl trivial ?_
      obtain ⟨s1957, hq1958, h⟩ := g_bind h
      refine m_mask [true, true, true, true, true, false] (ls' := [some (.inr (.inr (71, 0))), some (.inl x1), some (.inl x2), some (.inl v1950), some (.inl 0), none]) rfl ?_
      refine p_X12_made_120 hG N C0 hFr N _ _ _ _ _ _ hq1958 ?_
      refine m_blk C0 (pX12_ok rfl) kX12_made_ok 133 2 (43, [some (.inr (.inr (71, 0))), some (.inl x1), some (.inl (mw (x2 + 1))), none, none, none], [], s1957) (Ps := []) rfl trivial ?_
      refine m_mask [true, true, true, false, false, false] (ls' := [some (.inr (.inr (71, 0))), some (.inl x1), some (.inl (mw (x2 + 1))), none, none, none]) rfl ?_
      exact IH _ _ _ _ h hK
set_option maxRecDepth 100000 in
set_option maxHeartbeats 4000000 in
theorem t_X12_made {e : mEv} (hG : mGeo (mw0 e) lw_kept) (l : Launch) (N : Nat) {a1 : Int} {σ σ' : mS} {v : Int} (h : f_X12_made N a1 σ = some (v, σ')) : mMet l (mw0 e) lw_kept 13 yX12_made cX12_made 6 (some .int) [.inr (.inr (71, 0)), .inl a1] σ (some (.inl v)) σ' := by
  refine mMet_intro (plainFor_of_name (by decide)) hG (Nat.le_of_ble_eq_true rfl) (fun f hl hR C0 hFin => ?_)
  subst hl
  have hFr := mFr_of hR hFin
  unfold f_X12_made at h
  show mWW f (mw0 e) sc0 6 (0, [some (.inr (.inr (71, 0))), some (.inl a1), none, none, none, none], [], σ)
  refine m_blk C0 (pX12_ok rfl) kX12_made_ok 0 1 (1, [some (.inr (.inr (71, 0))), some (.inl a1), none, none, none, none], [.inl a1], σ) (Ps := []) rfl trivial ?_
  obtain ⟨⟨v1940, s1939⟩, hq1970, h⟩ := g_bind h
  refine c_S (rest := []) C0 hFr (t_X12_isPoly hG f.2.1 N hq1970) lk_X12_184 (k_at kX12_made_ok 1 rfl) rfl rfl rfl (by decide) (by decide) (Nat.le_of_ble_eq_true rfl) ?_
  refine b_eq C0 kX12_made_ok 2 (off := 22) (tgt := 26) rfl (by decide) (fun hb1969 => ?_) (fun hb1969 => ?_)
  · replace h := g_pos hb1969 h
    refine m_blk C0 (pX12_ok rfl) kX12_made_ok 13 1 (27, [some (.inr (.inr (71, 0))), some (.inl a1), none, none, none, none], [.inl (-1)], s1939) (Ps := []) rfl trivial ?_
    cases h
    exact m_iret C0 hFin (k_at kX12_made_ok 14 rfl) (Or.inl rfl)
  · replace h := g_neg hb1969 h
    refine m_blk C0 (pX12_ok rfl) kX12_made_ok 3 3 (10, [some (.inr (.inr (71, 0))), some (.inl a1), none, none, none, none], [.inl 0, .inl a1, .inr (.inr (71, 0))], s1939) (Ps := []) rfl trivial ?_
    obtain ⟨⟨v1942, s1941⟩, hq1968, h⟩ := g_bind h
    refine c_V (rest := []) C0 hFr (t_X12_stays0 hG f.2.1 N hq1968) lk_X12_237 (k_at kX12_made_ok 6 rfl) rfl rfl rfl rfl ⟨_, _, rfl⟩ (by decide) (by decide) (Nat.le_of_ble_eq_true rfl) ?_
    refine b_eq C0 kX12_made_ok 7 (off := 13) (tgt := 26) rfl (by decide) (fun hb1967 => ?_) (fun hb1967 => ?_)
    · replace h := g_pos hb1967 h
      refine m_blk C0 (pX12_ok rfl) kX12_made_ok 13 1 (27, [some (.inr (.inr (71, 0))), some (.inl a1), none, none, none, none], [.inl (-1)], s1941) (Ps := []) rfl trivial ?_
      cases h
      exact m_iret C0 hFin (k_at kX12_made_ok 14 rfl) (Or.inl rfl)
    · replace h := g_neg hb1967 h
      refine m_blk C0 (pX12_ok rfl) kX12_made_ok 8 2 (18, [some (.inr (.inr (71, 0))), some (.inl a1), none, none, none, none], [.inl a1, .inr (.inr (71, 0))], s1941) (Ps := []) rfl trivial ?_
      obtain ⟨⟨v1944, s1943⟩, hq1966, h⟩ := g_bind h
      refine c_V (rest := []) C0 hFr (t_X12_degree0 hG f.2.1 N hq1966) lk_X12_197 (k_at kX12_made_ok 10 rfl) rfl rfl rfl rfl ⟨_, _, rfl⟩ (by decide) (by decide) (Nat.le_of_ble_eq_true rfl) ?_
      refine m_blk C0 (pX12_ok rfl) kX12_made_ok 11 1 (23, [some (.inr (.inr (71, 0))), some (.inl a1), none, none, none, none], [.inl 6, .inl v1944], s1943) (Ps := []) rfl trivial ?_
      refine b_ile C0 kX12_made_ok 12 (off := 5) (tgt := 28) rfl (by decide) (fun hb1965 => ?_) (fun hb1965 => ?_)
      · replace h := g_pos hb1965 h
        refine m_blk C0 (pX12_ok rfl) kX12_made_ok 15 3 (33, [some (.inr (.inr (71, 0))), some (.inl a1), none, none, none, none], [], (mup s1943 71 0 32 0)) (Ps := []) rfl trivial ?_
        refine m_blk C0 (pX12_ok rfl) kX12_made_ok 18 4 (41, [some (.inr (.inr (71, 0))), some (.inl a1), none, none, none, none], [], (mup (mup s1943 71 0 32 0) 71 0 36 (s1943 71 0 19))) (Ps := []) rfl trivial ?_
        refine m_blk C0 (pX12_ok rfl) kX12_made_ok 22 2 (43, [some (.inr (.inr (71, 0))), some (.inl a1), some (.inl 0), none, none, none], [], (mup (mup s1943 71 0 32 0) 71 0 36 (s1943 71 0 19))) (Ps := []) rfl trivial ?_
        obtain ⟨s1963, hq1964, h⟩ := g_bind h
        refine m_mask [true, true, true, false, false, false] (ls' := [some (.inr (.inr (71, 0))), some (.inl a1), some (.inl 0), none, none, none]) rfl ?_
        refine p_X12_made_43 hG N C0 hFr N _ _ _ _ hq1964 ?_
        refine m_blk C0 (pX12_ok rfl) kX12_made_ok 135 2 (247, [some (.inr (.inr (71, 0))), none, none, none, none, none], [.inl (s1963 71 0 32)], s1963) (Ps := []) rfl trivial ?_
        cases h
        exact m_iret C0 hFin (k_at kX12_made_ok 137 rfl) (Or.inl rfl)
      · replace h := g_neg hb1965 h
        refine m_blk C0 (pX12_ok rfl) kX12_made_ok 13 1 (27, [some (.inr (.inr (71, 0))), some (.inl a1), none, none, none, none], [.inl (-1)], s1943) (Ps := []) rfl trivial ?_
        cases h
        exact m_iret C0 hFin (k_at kX12_made_ok 14 rfl) (Or.inl rfl)
set_option maxRecDepth 100000 in
set_option maxHeartbeats 4000000 in
theorem t_X12_part {e : mEv} (hG : mGeo (mw0 e) lw_kept) (l : Launch) (N : Nat) {a1 : Int} {a2 : Int} {σ σ' : mS} {v : Int} (h : f_X12_part N a1 a2 σ = some (v, σ')) : mMet l (mw0 e) lw_kept 1 yX12_part cX12_part 3 (some .int) [.inr (.inr (71, 0)), .inl a1, .inl a2] σ (some (.inl v)) σ' := by
  refine mMet_intro (plainFor_of_name (by decide)) hG (Nat.le_of_ble_eq_true rfl) (fun f hl hR C0 hFin => ?_)
  subst hl
  have hFr := mFr_of hR hFin
  unfold f_X12_part at h
  show mWW f (mw0 e) sc0 3 (0, [some (.inr (.inr (71, 0))), some (.inl a1), some (.inl a2)], [], σ)
  refine m_blk C0 (pX12_ok rfl) kX12_part_ok 0 6 (8, [some (.inr (.inr (71, 0))), some (.inl a1), some (.inl a2)], [.inl (mw ((σ 71 0 32) - 1)), .inl 0, .inl a1], σ) (Ps := []) rfl trivial ?_
  obtain ⟨⟨v1972, s1971⟩, hq1980, h⟩ := g_bind h
  refine c_S (rest := []) C0 hFr (t_X12_isIn hG f.2.1 N hq1980) lk_X12_110 (k_at kX12_part_ok 6 rfl) rfl rfl rfl (by decide) (by decide) (Nat.le_of_ble_eq_true rfl) ?_
  refine b_ne C0 kX12_part_ok 7 (off := 5) (tgt := 16) rfl (by decide) (fun hb1979 => ?_) (fun hb1979 => ?_)
  · replace h := g_neg hb1979 h
    refine m_blk C0 (pX12_ok rfl) kX12_part_ok 10 1 (17, [some (.inr (.inr (71, 0))), some (.inl a1), some (.inl a2)], [.inl a2], s1971) (Ps := []) rfl trivial ?_
    refine b_ne C0 kX12_part_ok 11 (off := 12) (tgt := 29) rfl (by decide) (fun hb1978 => ?_) (fun hb1978 => ?_)
    · replace h := g_neg hb1978 h
      refine m_blk C0 (pX12_ok rfl) kX12_part_ok 17 2 (31, [some (.inr (.inr (71, 0))), some (.inl a1), some (.inl a2)], [.inl 1, .inl a2], s1971) (Ps := []) rfl trivial ?_
      refine b_ine C0 kX12_part_ok 19 (off := 12) (tgt := 43) rfl (by decide) (fun hb1977 => ?_) (fun hb1977 => ?_)
      · replace h := g_neg hb1977 h
        refine m_blk C0 (pX12_ok rfl) kX12_part_ok 25 6 (51, [some (.inr (.inr (71, 0))), some (.inl a1), some (.inl a2)], [.inl (mw ((1 : Int) + (s1971 71 0 36))), .inl 2, .inl a2], s1971) (Ps := []) rfl trivial ?_
        obtain ⟨⟨v1974, s1973⟩, hq1976, h⟩ := g_bind h
        refine c_S (rest := []) C0 hFr (t_X12_isIn hG f.2.1 N hq1976) lk_X12_110 (k_at kX12_part_ok 31 rfl) rfl rfl rfl (by decide) (by decide) (Nat.le_of_ble_eq_true rfl) ?_
        refine b_eq C0 kX12_part_ok 32 (off := 19) (tgt := 73) rfl (by decide) (fun hb1975 => ?_) (fun hb1975 => ?_)
        · replace h := g_pos hb1975 h
          refine m_blk C0 (pX12_ok rfl) kX12_part_ok 44 1 (74, [some (.inr (.inr (71, 0))), some (.inl a1), some (.inl a2)], [.inl (-1)], s1973) (Ps := []) rfl trivial ?_
          cases h
          exact m_iret C0 hFin (k_at kX12_part_ok 45 rfl) (Or.inl rfl)
        · replace h := g_neg hb1975 h
          obtain ⟨hc, h⟩ := g_if h
          refine m_blk C0 (pX12_ok rfl) kX12_part_ok 33 11 (74, [some (.inr (.inr (71, 0))), some (.inl a1), some (.inl a2)], [.inl (s1973 95 0 ((mw ((mw ((mw ((40 : Int) * a1)) + a2)) - 2)).toNat))], s1973) (Ps := [0 ≤ (mw ((mw ((mw ((40 : Int) * a1)) + a2)) - 2)) ∧ (mw ((mw ((mw ((40 : Int) * a1)) + a2)) - 2)) < 8000]) rfl (And.intro hc trivial) ?_
          cases h
          exact m_iret C0 hFin (k_at kX12_part_ok 45 rfl) (Or.inl rfl)
      · replace h := g_pos hb1977 h
        obtain ⟨hc, h⟩ := g_if h
        refine m_blk C0 (pX12_ok rfl) kX12_part_ok 20 5 (74, [some (.inr (.inr (71, 0))), some (.inl a1), some (.inl a2)], [.inl (s1971 94 0 a1.toNat)], s1971) (Ps := [0 ≤ a1 ∧ a1 < 200]) rfl (And.intro hc trivial) ?_
        cases h
        exact m_iret C0 hFin (k_at kX12_part_ok 45 rfl) (Or.inl rfl)
    · replace h := g_pos hb1978 h
      obtain ⟨hc, h⟩ := g_if h
      refine m_blk C0 (pX12_ok rfl) kX12_part_ok 12 5 (74, [some (.inr (.inr (71, 0))), some (.inl a1), some (.inl a2)], [.inl (s1971 93 0 a1.toNat)], s1971) (Ps := [0 ≤ a1 ∧ a1 < 200]) rfl (And.intro hc trivial) ?_
      cases h
      exact m_iret C0 hFin (k_at kX12_part_ok 45 rfl) (Or.inl rfl)
  · replace h := g_pos hb1979 h
    refine m_blk C0 (pX12_ok rfl) kX12_part_ok 8 1 (15, [some (.inr (.inr (71, 0))), some (.inl a1), some (.inl a2)], [.inl (-1)], s1971) (Ps := []) rfl trivial ?_
    cases h
    exact m_iret C0 hFin (k_at kX12_part_ok 9 rfl) (Or.inl rfl)
set_option maxRecDepth 100000 in
set_option maxHeartbeats 4000000 in
theorem p_X12_power_5 {e : mEv} (hG : mGeo (mw0 e) lw_kept) (N : Nat) {f : mFx} (C0 : mCx f (mw0 e) sc0 cX12_power 5 RX12 lw_kept) (hFr : mFr f 0) : ∀ (n : Nat) (x0 : Int) (x1 : Int) (x2 : Int) (x4 : Int) (σ : mS) (o2 : Int) (σ' : mS), L_X12_power_5 N n x0 x1 x2 x4 σ = some (o2, σ') → mWW f (mw0 e) sc0 5 (26, [none, none, some (.inr (.inl o2)), none, none], [], σ') → mWW f (mw0 e) sc0 5 (5, [some (.inl x0), some (.inl x1), some (.inr (.inl x2)), none, some (.inl x4)], [], σ) := by
  intro n
  induction n with
  | zero =>
    intro x0 x1 x2 x4 σ o2 σ' h hK
    cases h
  | succ n IH =>
    intro x0 x1 x2 x4 σ o2 σ' h hK
    rw [L_X12_power_5_s] at h
    refine m_blk C0 (pX12_ok rfl) kX12_power_ok 4 2 (8, [some (.inl x0), some (.inl x1), some (.inr (.inl x2)), none, some (.inl x4)], [.inl x1, .inl x4], σ) (Ps := []) rfl trivial ?_
    refine b_ige C0 kX12_power_ok 6 (off := 18) (tgt := 26) rfl (by decide) (fun hb1989 => ?_) (fun hb1989 => ?_)
    · replace h := g_pos hb1989 h
      cases h
      refine m_mask [false, false, true, false, false] (ls' := [none, none, some (.inr (.inl x2)), none, none]) rfl ?_
      exact hK
    · replace h := g_neg hb1989 h
      refine m_blk C0 (pX12_ok rfl) kX12_power_ok 7 9 (5, [some (.inl x0), some (.inl x1), some (.inr (.inl (o_lrem (mx (x2 * x0)) 32003))), none, some (.inl (mw (x4 + 1)))], [], σ) (Ps := [¬ (32003 : Int) = 0]) rfl (And.intro (by decide) trivial) ?_
      refine m_mask [true, true, true, false, true] (ls' := [some (.inl x0), some (.inl x1), some (.inr (.inl (o_lrem (mx (x2 * x0)) 32003))), none, some (.inl (mw (x4 + 1)))]) rfl ?_
      exact IH _ _ _ _ _ _ _ h hK
set_option maxRecDepth 100000 in
set_option maxHeartbeats 4000000 in
theorem t_X12_power {e : mEv} (hG : mGeo (mw0 e) lw_kept) (l : Launch) (N : Nat) {a0 : Int} {a1 : Int} {σ σ' : mS} {v : Int} (h : f_X12_power N a0 a1 σ = some (v, σ')) : mMet l (mw0 e) lw_kept 0 yX12_power cX12_power 5 (some .int) [.inl a0, .inl a1] σ (some (.inl v)) σ' := by
  refine mMet_intro (plainFor_of_name (by decide)) hG (Nat.le_of_ble_eq_true rfl) (fun f hl hR C0 hFin => ?_)
  subst hl
  have hFr := mFr_of hR hFin
  unfold f_X12_power at h
  show mWW f (mw0 e) sc0 5 (0, [some (.inl a0), some (.inl a1), none, none, none], [], σ)
  refine m_blk C0 (pX12_ok rfl) kX12_power_ok 0 4 (5, [some (.inl a0), some (.inl a1), some (.inr (.inl 1)), none, some (.inl 0)], [], σ) (Ps := []) rfl trivial ?_
  obtain ⟨⟨o1991, s1990⟩, hq1992, h⟩ := g_bind h
  refine m_mask [true, true, true, false, true] (ls' := [some (.inl a0), some (.inl a1), some (.inr (.inl 1)), none, some (.inl 0)]) rfl ?_
  refine p_X12_power_5 hG N C0 hFr N _ _ _ _ _ _ _ hq1992 ?_
  refine m_blk C0 (pX12_ok rfl) kX12_power_ok 16 2 (28, [none, none, some (.inr (.inl o1991)), none, none], [.inl (mw o1991)], s1990) (Ps := []) rfl trivial ?_
  cases h
  exact m_iret C0 hFin (k_at kX12_power_ok 18 rfl) (Or.inl rfl)
set_option maxRecDepth 100000 in
set_option maxHeartbeats 4000000 in
theorem p_X12_value_38 {e : mEv} (hG : mGeo (mw0 e) lw_kept) (N : Nat) {f : mFx} (C0 : mCx f (mw0 e) sc0 cX12_value 10 RX12 lw_kept) (hFr : mFr f 2) : ∀ (n : Nat) (x1 : Int) (x2 : Int) (x3 : Int) (x4 : Int) (x5 : Int) (x7 : Int) (x8 : Int) (x9 : Int) (σ : mS) (o5 : Int) (σ' : mS), L_X12_value_38 N n x1 x2 x3 x4 x5 x7 x8 x9 σ = some (o5, σ') → mWW f (mw0 e) sc0 10 (141, [some (.inr (.inr (71, 0))), some (.inl x1), some (.inl x2), some (.inl x3), some (.inl x4), some (.inr (.inl o5)), none, some (.inl x7), some (.inl x8), none], [], σ') → mWW f (mw0 e) sc0 10 (38, [some (.inr (.inr (71, 0))), some (.inl x1), some (.inl x2), some (.inl x3), some (.inl x4), some (.inr (.inl x5)), none, some (.inl x7), some (.inl x8), some (.inl x9)], [], σ) := by
  intro n
  induction n with
  | zero =>
    intro x1 x2 x3 x4 x5 x7 x8 x9 σ o5 σ' h hK
    cases h
  | succ n IH =>
    intro x1 x2 x3 x4 x5 x7 x8 x9 σ o5 σ' h hK
    rw [L_X12_value_38_s] at h
    refine m_blk C0 (pX12_ok rfl) kX12_value_ok 21 6 (48, [some (.inr (.inr (71, 0))), some (.inl x1), some (.inl x2), some (.inl x3), some (.inl x4), some (.inr (.inl x5)), none, some (.inl x7), some (.inl x8), some (.inl x9)], [.inl 9, .inl (mw ((mw (x7 + x8)) + x9))], σ) (Ps := []) rfl trivial ?_
    refine b_ige C0 kX12_value_ok 27 (off := 93) (tgt := 141) rfl (by decide) (fun hb2012 => ?_) (fun hb2012 => ?_)
    · replace h := g_pos hb2012 h
      cases h
      refine m_mask [true, true, true, true, true, true, false, true, true, false] (ls' := [some (.inr (.inr (71, 0))), some (.inl x1), some (.inl x2), some (.inl x3), some (.inl x4), some (.inr (.inl x5)), none, some (.inl x7), some (.inl x8), none]) rfl ?_
      exact hK
    · replace h := g_neg hb2012 h
      refine m_blk C0 (pX12_ok rfl) kX12_value_ok 28 6 (61, [some (.inr (.inr (71, 0))), some (.inl x1), some (.inl x2), some (.inl x3), some (.inl x4), some (.inr (.inl x5)), none, some (.inl x7), some (.inl x8), some (.inl x9)], [.inl x9, .inl x8, .inl x7, .inl x1, .inr (.inr (71, 0)), .inr (.inl x5)], σ) (Ps := []) rfl trivial ?_
      obtain ⟨⟨v1984, s1983⟩, hq2011, h⟩ := g_bind h
      refine c_V (rest := [.inr (.inl x5)]) C0 hFr (t_X12_of_ hG f.2.1 N hq2011) lk_X12_194 (k_at kX12_value_ok 34 rfl) rfl rfl rfl rfl ⟨_, _, rfl⟩ (by decide) (by decide) (Nat.le_of_ble_eq_true rfl) ?_
      refine b_ne C0 kX12_value_ok 35 (off := 7) (tgt := 71) rfl (by decide) (fun hb2010 => ?_) (fun hb2010 => ?_)
      · replace h := g_neg hb2010 h
        refine m_blk C0 (pX12_ok rfl) kX12_value_ok 38 5 (79, [some (.inr (.inr (71, 0))), some (.inl x1), some (.inl x2), some (.inl x3), some (.inl x4), some (.inr (.inl x5)), none, some (.inl x7), some (.inl x8), some (.inl x9)], [.inl x9, .inl x8, .inl x7, .inl x1, .inr (.inr (71, 0)), .inr (.inl x5)], s1983) (Ps := []) rfl trivial ?_
        obtain ⟨⟨v1986, s1985⟩, hq2009, h⟩ := g_bind h
        refine c_V (rest := [.inr (.inl x5)]) C0 hFr (t_X12_of_ hG f.2.1 N hq2009) lk_X12_194 (k_at kX12_value_ok 43 rfl) rfl rfl rfl rfl ⟨_, _, rfl⟩ (by decide) (by decide) (Nat.le_of_ble_eq_true rfl) ?_
        refine m_blk C0 (pX12_ok rfl) kX12_value_ok 44 3 (85, [some (.inr (.inr (71, 0))), some (.inl x1), some (.inl x2), some (.inl x3), some (.inl x4), some (.inr (.inl x5)), none, some (.inl x7), some (.inl x8), some (.inl x9)], [.inr (.inl x2), .inr (.inl v1986), .inr (.inl x5)], s1985) (Ps := []) rfl trivial ?_
        obtain ⟨⟨v1988, s1987⟩, hq2008, h⟩ := g_bind h
        refine c_S (rest := [.inr (.inl v1986), .inr (.inl x5)]) C0 hFr (t_X12_left hG f.2.1 N hq2008) lk_X12_190 (k_at kX12_value_ok 47 rfl) rfl rfl rfl (by decide) (by decide) (Nat.le_of_ble_eq_true rfl) ?_
        refine m_blk C0 (pX12_ok rfl) kX12_value_ok 48 1 (90, [some (.inr (.inr (71, 0))), some (.inl x1), some (.inl x2), some (.inl x3), some (.inl x4), some (.inr (.inl x5)), none, some (.inl x7), some (.inl x8), some (.inl x9)], [.inl x7, .inl v1988, .inr (.inl v1986), .inr (.inl x5)], s1987) (Ps := []) rfl trivial ?_
        obtain ⟨⟨v1994, s1993⟩, hq2007, h⟩ := g_bind h
        refine c_S (rest := [.inr (.inl v1986), .inr (.inl x5)]) C0 hFr (t_X12_power hG f.2.1 N hq2007) lk_X12_289 (k_at kX12_value_ok 49 rfl) rfl rfl rfl (by decide) (by decide) (Nat.le_of_ble_eq_true rfl) ?_
        refine m_blk C0 (pX12_ok rfl) kX12_value_ok 50 6 (101, [some (.inr (.inr (71, 0))), some (.inl x1), some (.inl x2), some (.inl x3), some (.inl x4), some (.inr (.inl x5)), none, some (.inl x7), some (.inl x8), some (.inl x9)], [.inr (.inl x3), .inr (.inl (o_lrem (mx (v1986 * v1994)) 32003)), .inr (.inl x5)], s1993) (Ps := [¬ (32003 : Int) = 0]) rfl (And.intro (by decide) trivial) ?_
        obtain ⟨⟨v1996, s1995⟩, hq2006, h⟩ := g_bind h
        refine c_S (rest := [.inr (.inl (o_lrem (mx (v1986 * v1994)) 32003)), .inr (.inl x5)]) C0 hFr (t_X12_left hG f.2.1 N hq2006) lk_X12_190 (k_at kX12_value_ok 56 rfl) rfl rfl rfl (by decide) (by decide) (Nat.le_of_ble_eq_true rfl) ?_
        refine m_blk C0 (pX12_ok rfl) kX12_value_ok 57 1 (106, [some (.inr (.inr (71, 0))), some (.inl x1), some (.inl x2), some (.inl x3), some (.inl x4), some (.inr (.inl x5)), none, some (.inl x7), some (.inl x8), some (.inl x9)], [.inl x8, .inl v1996, .inr (.inl (o_lrem (mx (v1986 * v1994)) 32003)), .inr (.inl x5)], s1995) (Ps := []) rfl trivial ?_
        obtain ⟨⟨v1998, s1997⟩, hq2005, h⟩ := g_bind h
        refine c_S (rest := [.inr (.inl (o_lrem (mx (v1986 * v1994)) 32003)), .inr (.inl x5)]) C0 hFr (t_X12_power hG f.2.1 N hq2005) lk_X12_289 (k_at kX12_value_ok 58 rfl) rfl rfl rfl (by decide) (by decide) (Nat.le_of_ble_eq_true rfl) ?_
        refine m_blk C0 (pX12_ok rfl) kX12_value_ok 59 6 (118, [some (.inr (.inr (71, 0))), some (.inl x1), some (.inl x2), some (.inl x3), some (.inl x4), some (.inr (.inl x5)), none, some (.inl x7), some (.inl x8), some (.inl x9)], [.inr (.inl x4), .inr (.inl (o_lrem (mx ((o_lrem (mx (v1986 * v1994)) 32003) * v1998)) 32003)), .inr (.inl x5)], s1997) (Ps := [¬ (32003 : Int) = 0]) rfl (And.intro (by decide) trivial) ?_
        obtain ⟨⟨v2000, s1999⟩, hq2004, h⟩ := g_bind h
        refine c_S (rest := [.inr (.inl (o_lrem (mx ((o_lrem (mx (v1986 * v1994)) 32003) * v1998)) 32003)), .inr (.inl x5)]) C0 hFr (t_X12_left hG f.2.1 N hq2004) lk_X12_190 (k_at kX12_value_ok 65 rfl) rfl rfl rfl (by decide) (by decide) (Nat.le_of_ble_eq_true rfl) ?_
        refine m_blk C0 (pX12_ok rfl) kX12_value_ok 66 1 (123, [some (.inr (.inr (71, 0))), some (.inl x1), some (.inl x2), some (.inl x3), some (.inl x4), some (.inr (.inl x5)), none, some (.inl x7), some (.inl x8), some (.inl x9)], [.inl x9, .inl v2000, .inr (.inl (o_lrem (mx ((o_lrem (mx (v1986 * v1994)) 32003) * v1998)) 32003)), .inr (.inl x5)], s1999) (Ps := []) rfl trivial ?_
        obtain ⟨⟨v2002, s2001⟩, hq2003, h⟩ := g_bind h
        refine c_S (rest := [.inr (.inl (o_lrem (mx ((o_lrem (mx (v1986 * v1994)) 32003) * v1998)) 32003)), .inr (.inl x5)]) C0 hFr (t_X12_power hG f.2.1 N hq2003) lk_X12_289 (k_at kX12_value_ok 67 rfl) rfl rfl rfl (by decide) (by decide) (Nat.le_of_ble_eq_true rfl) ?_
        refine m_blk C0 (pX12_ok rfl) kX12_value_ok 68 8 (38, [some (.inr (.inr (71, 0))), some (.inl x1), some (.inl x2), some (.inl x3), some (.inl x4), some (.inr (.inl (mx (x5 + (o_lrem (mx ((o_lrem (mx ((o_lrem (mx (v1986 * v1994)) 32003) * v1998)) 32003) * v2002)) 32003))))), none, some (.inl x7), some (.inl x8), some (.inl (mw (x9 + 1)))], [], s2001) (Ps := [¬ (32003 : Int) = 0]) rfl (And.intro (by decide) trivial) ?_
        refine m_mask [true, true, true, true, true, true, false, true, true, true] (ls' := [some (.inr (.inr (71, 0))), some (.inl x1), some (.inl x2), some (.inl x3), some (.inl x4), some (.inr (.inl (mx (x5 + (o_lrem (mx ((o_lrem (mx ((o_lrem (mx (v1986 * v1994)) 32003) * v1998)) 32003) * v2002)) 32003))))), none, some (.inl x7), some (.inl x8), some (.inl (mw (x9 + 1)))]) rfl ?_
        exact IH _ _ _ _ _ _ _ _ _ _ _ h hK
      · replace h := g_pos hb2010 h
        refine m_blk C0 (pX12_ok rfl) kX12_value_ok 36 2 (132, [some (.inr (.inr (71, 0))), some (.inl x1), some (.inl x2), some (.inl x3), some (.inl x4), some (.inr (.inl x5)), none, some (.inl x7), some (.inl x8), some (.inl x9)], [.inr (.inl 0), .inr (.inl x5)], s1983) (Ps := []) rfl trivial ?_
        refine m_blk C0 (pX12_ok rfl) kX12_value_ok 72 4 (38, [some (.inr (.inr (71, 0))), some (.inl x1), some (.inl x2), some (.inl x3), some (.inl x4), some (.inr (.inl (mx (x5 + 0)))), none, some (.inl x7), some (.inl x8), some (.inl (mw (x9 + 1)))], [], s1983) (Ps := []) rfl trivial ?_
        refine m_mask [true, true, true, true, true, true, false, true, true, true] (ls' := [some (.inr (.inr (71, 0))), some (.inl x1), some (.inl x2), some (.inl x3), some (.inl x4), some (.inr (.inl (mx (x5 + 0)))), none, some (.inl x7), some (.inl x8), some (.inl (mw (x9 + 1)))]) rfl ?_
        exact IH _ _ _ _ _ _ _ _ _ _ _ h hK
set_option maxRecDepth 100000 in
set_option maxHeartbeats 4000000 in
theorem p_X12_value_25 {e : mEv} (hG : mGeo (mw0 e) lw_kept) (N : Nat) {f : mFx} (C0 : mCx f (mw0 e) sc0 cX12_value 10 RX12 lw_kept) (hFr : mFr f 2) : ∀ (n : Nat) (x1 : Int) (x2 : Int) (x3 : Int) (x4 : Int) (x5 : Int) (x7 : Int) (x8 : Int) (σ : mS) (o5 : Int) (σ' : mS), L_X12_value_25 N n x1 x2 x3 x4 x5 x7 x8 σ = some (o5, σ') → mWW f (mw0 e) sc0 10 (147, [some (.inr (.inr (71, 0))), some (.inl x1), some (.inl x2), some (.inl x3), some (.inl x4), some (.inr (.inl o5)), none, some (.inl x7), none, none], [], σ') → mWW f (mw0 e) sc0 10 (25, [some (.inr (.inr (71, 0))), some (.inl x1), some (.inl x2), some (.inl x3), some (.inl x4), some (.inr (.inl x5)), none, some (.inl x7), some (.inl x8), none], [], σ) := by
  intro n
  induction n with
  | zero =>
    intro x1 x2 x3 x4 x5 x7 x8 σ o5 σ' h hK
    cases h
  | succ n IH =>
    intro x1 x2 x3 x4 x5 x7 x8 σ o5 σ' h hK
    rw [L_X12_value_25_s] at h
    refine m_blk C0 (pX12_ok rfl) kX12_value_ok 14 4 (32, [some (.inr (.inr (71, 0))), some (.inl x1), some (.inl x2), some (.inl x3), some (.inl x4), some (.inr (.inl x5)), none, some (.inl x7), some (.inl x8), none], [.inl 9, .inl (mw (x7 + x8))], σ) (Ps := []) rfl trivial ?_
    refine b_ige C0 kX12_value_ok 18 (off := 115) (tgt := 147) rfl (by decide) (fun hb2016 => ?_) (fun hb2016 => ?_)
    · replace h := g_pos hb2016 h
      cases h
      refine m_mask [true, true, true, true, true, true, false, true, false, false] (ls' := [some (.inr (.inr (71, 0))), some (.inl x1), some (.inl x2), some (.inl x3), some (.inl x4), some (.inr (.inl x5)), none, some (.inl x7), none, none]) rfl ?_
      exact hK
    · replace h := g_neg hb2016 h
      refine m_blk C0 (pX12_ok rfl) kX12_value_ok 19 2 (38, [some (.inr (.inr (71, 0))), some (.inl x1), some (.inl x2), some (.inl x3), some (.inl x4), some (.inr (.inl x5)), none, some (.inl x7), some (.inl x8), some (.inl 0)], [], σ) (Ps := []) rfl trivial ?_
      obtain ⟨⟨o2014, s2013⟩, hq2015, h⟩ := g_bind h
      refine m_mask [true, true, true, true, true, true, false, true, true, true] (ls' := [some (.inr (.inr (71, 0))), some (.inl x1), some (.inl x2), some (.inl x3), some (.inl x4), some (.inr (.inl x5)), none, some (.inl x7), some (.inl x8), some (.inl 0)]) rfl ?_
      refine p_X12_value_38 hG N C0 hFr N _ _ _ _ _ _ _ _ _ _ _ hq2015 ?_
      refine m_blk C0 (pX12_ok rfl) kX12_value_ok 76 2 (25, [some (.inr (.inr (71, 0))), some (.inl x1), some (.inl x2), some (.inl x3), some (.inl x4), some (.inr (.inl o2014)), none, some (.inl x7), some (.inl (mw (x8 + 1))), none], [], s2013) (Ps := []) rfl trivial ?_
      refine m_mask [true, true, true, true, true, true, false, true, true, false] (ls' := [some (.inr (.inr (71, 0))), some (.inl x1), some (.inl x2), some (.inl x3), some (.inl x4), some (.inr (.inl o2014)), none, some (.inl x7), some (.inl (mw (x8 + 1))), none]) rfl ?_
      exact IH _ _ _ _ _ _ _ _ _ _ h hK
set_option maxRecDepth 100000 in
set_option maxHeartbeats 4000000 in
theorem p_X12_value_15 {e : mEv} (hG : mGeo (mw0 e) lw_kept) (N : Nat) {f : mFx} (C0 : mCx f (mw0 e) sc0 cX12_value 10 RX12 lw_kept) (hFr : mFr f 2) : ∀ (n : Nat) (x1 : Int) (x2 : Int) (x3 : Int) (x4 : Int) (x5 : Int) (x7 : Int) (σ : mS) (o5 : Int) (σ' : mS), L_X12_value_15 N n x1 x2 x3 x4 x5 x7 σ = some (o5, σ') → mWW f (mw0 e) sc0 10 (153, [none, none, none, none, none, some (.inr (.inl o5)), none, none, none, none], [], σ') → mWW f (mw0 e) sc0 10 (15, [some (.inr (.inr (71, 0))), some (.inl x1), some (.inl x2), some (.inl x3), some (.inl x4), some (.inr (.inl x5)), none, some (.inl x7), none, none], [], σ) := by
  intro n
  induction n with
  | zero =>
    intro x1 x2 x3 x4 x5 x7 σ o5 σ' h hK
    cases h
  | succ n IH =>
    intro x1 x2 x3 x4 x5 x7 σ o5 σ' h hK
    rw [L_X12_value_15_s] at h
    refine m_blk C0 (pX12_ok rfl) kX12_value_ok 9 2 (19, [some (.inr (.inr (71, 0))), some (.inl x1), some (.inl x2), some (.inl x3), some (.inl x4), some (.inr (.inl x5)), none, some (.inl x7), none, none], [.inl 9, .inl x7], σ) (Ps := []) rfl trivial ?_
    refine b_ige C0 kX12_value_ok 11 (off := 134) (tgt := 153) rfl (by decide) (fun hb2020 => ?_) (fun hb2020 => ?_)
    · replace h := g_pos hb2020 h
      cases h
      refine m_mask [false, false, false, false, false, true, false, false, false, false] (ls' := [none, none, none, none, none, some (.inr (.inl x5)), none, none, none, none]) rfl ?_
      exact hK
    · replace h := g_neg hb2020 h
      refine m_blk C0 (pX12_ok rfl) kX12_value_ok 12 2 (25, [some (.inr (.inr (71, 0))), some (.inl x1), some (.inl x2), some (.inl x3), some (.inl x4), some (.inr (.inl x5)), none, some (.inl x7), some (.inl 0), none], [], σ) (Ps := []) rfl trivial ?_
      obtain ⟨⟨o2018, s2017⟩, hq2019, h⟩ := g_bind h
      refine m_mask [true, true, true, true, true, true, false, true, true, false] (ls' := [some (.inr (.inr (71, 0))), some (.inl x1), some (.inl x2), some (.inl x3), some (.inl x4), some (.inr (.inl x5)), none, some (.inl x7), some (.inl 0), none]) rfl ?_
      refine p_X12_value_25 hG N C0 hFr N _ _ _ _ _ _ _ _ _ _ hq2019 ?_
      refine m_blk C0 (pX12_ok rfl) kX12_value_ok 78 2 (15, [some (.inr (.inr (71, 0))), some (.inl x1), some (.inl x2), some (.inl x3), some (.inl x4), some (.inr (.inl o2018)), none, some (.inl (mw (x7 + 1))), none, none], [], s2017) (Ps := []) rfl trivial ?_
      refine m_mask [true, true, true, true, true, true, false, true, false, false] (ls' := [some (.inr (.inr (71, 0))), some (.inl x1), some (.inl x2), some (.inl x3), some (.inl x4), some (.inr (.inl o2018)), none, some (.inl (mw (x7 + 1))), none, none]) rfl ?_
      exact IH _ _ _ _ _ _ _ _ _ h hK
set_option maxRecDepth 100000 in
set_option maxHeartbeats 4000000 in
theorem t_X12_value {e : mEv} (hG : mGeo (mw0 e) lw_kept) (l : Launch) (N : Nat) {a1 : Int} {a2 : Int} {a3 : Int} {a4 : Int} {σ σ' : mS} {v : Int} (h : f_X12_value N a1 a2 a3 a4 σ = some (v, σ')) : mMet l (mw0 e) lw_kept 2 yX12_value cX12_value 10 (some .int) [.inr (.inr (71, 0)), .inl a1, .inl a2, .inl a3, .inl a4] σ (some (.inl v)) σ' := by
  refine mMet_intro (plainFor_of_name (by decide)) hG (Nat.le_of_ble_eq_true rfl) (fun f hl hR C0 hFin => ?_)
  subst hl
  have hFr := mFr_of hR hFin
  unfold f_X12_value at h
  show mWW f (mw0 e) sc0 10 (0, [some (.inr (.inr (71, 0))), some (.inl a1), some (.inl a2), some (.inl a3), some (.inl a4), none, none, none, none, none], [], σ)
  refine m_blk C0 (pX12_ok rfl) kX12_value_ok 0 1 (1, [some (.inr (.inr (71, 0))), some (.inl a1), some (.inl a2), some (.inl a3), some (.inl a4), none, none, none, none, none], [.inl a1], σ) (Ps := []) rfl trivial ?_
  obtain ⟨⟨v1982, s1981⟩, hq2028, h⟩ := g_bind h
  refine c_S (rest := []) C0 hFr (t_X12_isPoly hG f.2.1 N hq2028) lk_X12_184 (k_at kX12_value_ok 1 rfl) rfl rfl rfl (by decide) (by decide) (Nat.le_of_ble_eq_true rfl) ?_
  refine b_ne C0 kX12_value_ok 2 (off := 5) (tgt := 9) rfl (by decide) (fun hb2027 => ?_) (fun hb2027 => ?_)
  · replace h := g_neg hb2027 h
    refine m_blk C0 (pX12_ok rfl) kX12_value_ok 5 4 (15, [some (.inr (.inr (71, 0))), some (.inl a1), some (.inl a2), some (.inl a3), some (.inl a4), some (.inr (.inl 0)), none, some (.inl 0), none, none], [], s1981) (Ps := []) rfl trivial ?_
    obtain ⟨⟨o2022, s2021⟩, hq2026, h⟩ := g_bind h
    refine m_mask [true, true, true, true, true, true, false, true, false, false] (ls' := [some (.inr (.inr (71, 0))), some (.inl a1), some (.inl a2), some (.inl a3), some (.inl a4), some (.inr (.inl 0)), none, some (.inl 0), none, none]) rfl ?_
    refine p_X12_value_15 hG N C0 hFr N _ _ _ _ _ _ _ _ _ hq2026 ?_
    refine m_blk C0 (pX12_ok rfl) kX12_value_ok 80 1 (155, [none, none, none, none, none, some (.inr (.inl o2022)), none, none, none, none], [.inr (.inl o2022)], s2021) (Ps := []) rfl trivial ?_
    obtain ⟨⟨v2024, s2023⟩, hq2025, h⟩ := g_bind h
    refine c_S (rest := []) C0 hFr (t_X12_left hG f.2.1 N hq2025) lk_X12_190 (k_at kX12_value_ok 81 rfl) rfl rfl rfl (by decide) (by decide) (Nat.le_of_ble_eq_true rfl) ?_
    cases h
    exact m_iret C0 hFin (k_at kX12_value_ok 82 rfl) (Or.inl rfl)
  · replace h := g_pos hb2027 h
    refine m_blk C0 (pX12_ok rfl) kX12_value_ok 3 1 (8, [some (.inr (.inr (71, 0))), some (.inl a1), some (.inl a2), some (.inl a3), some (.inl a4), none, none, none, none, none], [.inl (-1)], s1981) (Ps := []) rfl trivial ?_
    cases h
    exact m_iret C0 hFin (k_at kX12_value_ok 4 rfl) (Or.inl rfl)
set_option maxRecDepth 100000 in
set_option maxHeartbeats 4000000 in
theorem p_X12_leads0_2 {e : mEv} (hG : mGeo (mw0 e) lw_kept) (N : Nat) {f : mFx} (C0 : mCx f (mw0 e) sc0 cX12_leads0 4 RX12 lw_kept) (hFr : mFr f 1) : ∀ (n : Nat) (x1 : Int) (x2 : Int) (σ : mS) (σ' : mS), L_X12_leads0_2 N n x1 x2 σ = some σ' → mWW f (mw0 e) sc0 4 (55, [none, none, none, none], [], σ') → mWW f (mw0 e) sc0 4 (2, [some (.inr (.inr (71, 0))), some (.inl x1), some (.inl x2), none], [], σ) := by
  intro n
  induction n with
  | zero =>
    intro x1 x2 σ σ' h hK
    cases h
  | succ n IH =>
    intro x1 x2 σ σ' h hK
    rw [L_X12_leads0_2_s] at h
    refine m_blk C0 (pX12_ok rfl) kX12_leads0_ok 2 2 (4, [some (.inr (.inr (71, 0))), some (.inl x1), some (.inl x2), none], [.inl 3, .inl x2], σ) (Ps := []) rfl trivial ?_
    refine b_ige C0 kX12_leads0_ok 4 (off := 51) (tgt := 55) rfl (by decide) (fun hb2033 => ?_) (fun hb2033 => ?_)
    · replace h := g_pos hb2033 h
      cases h
      refine m_mask [false, false, false, false] (ls' := [none, none, none, none]) rfl ?_
      exact hK
    · replace h := g_neg hb2033 h
      obtain ⟨hc, h⟩ := g_if h
      refine m_blk C0 (pX12_ok rfl) kX12_leads0_ok 5 12 (23, [some (.inr (.inr (71, 0))), some (.inl x1), some (.inl x2), some (.inl (σ 74 0 ((mw ((mw ((3 : Int) * x1)) + x2)).toNat)))], [.inl (σ 74 0 ((mw ((mw ((3 : Int) * x1)) + x2)).toNat)), .inr (.inr (98, 0))], σ) (Ps := [0 ≤ (mw ((mw ((3 : Int) * x1)) + x2)) ∧ (mw ((mw ((3 : Int) * x1)) + x2)) < 144]) rfl (And.intro hc trivial) ?_
      obtain ⟨⟨v2030, s2029⟩, hq2032, h⟩ := g_bind h
      refine c_S (rest := [.inr (.inr (98, 0))]) C0 hFr (t_X12_size hG f.2.1 N hq2032) lk_X12_106 (k_at kX12_leads0_ok 17 rfl) rfl rfl rfl (by decide) (by decide) (Nat.le_of_ble_eq_true rfl) ?_
      refine m_blk C0 (pX12_ok rfl) kX12_leads0_ok 18 3 (29, [some (.inr (.inr (71, 0))), some (.inl x1), some (.inl x2), some (.inl (σ 74 0 ((mw ((mw ((3 : Int) * x1)) + x2)).toNat)))], [.inl (σ 74 0 ((mw ((mw ((3 : Int) * x1)) + x2)).toNat)), .inl (mw (v2030 - 1)), .inr (.inr (98, 0))], s2029) (Ps := []) rfl trivial ?_
      refine b_ge C0 kX12_leads0_ok 21 (off := 13) (tgt := 42) rfl (by decide) (fun hb2031 => ?_) (fun hb2031 => ?_)
      · replace h := g_pos hb2031 h
        obtain ⟨hc, h⟩ := g_if h
        refine m_blk C0 (pX12_ok rfl) kX12_leads0_ok 28 5 (49, [some (.inr (.inr (71, 0))), some (.inl x1), some (.inl x2), some (.inl (σ 74 0 ((mw ((mw ((3 : Int) * x1)) + x2)).toNat)))], [], (mup s2029 98 0 ((mw (v2030 - 1)).toNat) (s2029 96 0 x2.toNat))) (Ps := [0 ≤ x2 ∧ x2 < 3, 0 ≤ (mw (v2030 - 1)) ∧ (mw (v2030 - 1)) < 3]) rfl (And.intro hc.1 (And.intro hc.2 trivial)) ?_
        refine m_blk C0 (pX12_ok rfl) kX12_leads0_ok 33 2 (2, [some (.inr (.inr (71, 0))), some (.inl x1), some (.inl (mw (x2 + 1))), some (.inl (σ 74 0 ((mw ((mw ((3 : Int) * x1)) + x2)).toNat)))], [], (mup s2029 98 0 ((mw (v2030 - 1)).toNat) (s2029 96 0 x2.toNat))) (Ps := []) rfl trivial ?_
        refine m_mask [true, true, true, false] (ls' := [some (.inr (.inr (71, 0))), some (.inl x1), some (.inl (mw (x2 + 1))), none]) rfl ?_
        exact IH _ _ _ _ h hK
      · replace h := g_neg hb2031 h
        obtain ⟨hc, h⟩ := g_if h
        refine m_blk C0 (pX12_ok rfl) kX12_leads0_ok 22 6 (48, [some (.inr (.inr (71, 0))), some (.inl x1), some (.inl x2), some (.inl (σ 74 0 ((mw ((mw ((3 : Int) * x1)) + x2)).toNat)))], [.inl (mw (-(s2029 96 0 x2.toNat))), .inl (mw (v2030 - 1)), .inr (.inr (98, 0))], s2029) (Ps := [0 ≤ x2 ∧ x2 < 3]) rfl (And.intro hc trivial) ?_
        obtain ⟨hc, h⟩ := g_if h
        refine m_blk C0 (pX12_ok rfl) kX12_leads0_ok 32 1 (49, [some (.inr (.inr (71, 0))), some (.inl x1), some (.inl x2), some (.inl (σ 74 0 ((mw ((mw ((3 : Int) * x1)) + x2)).toNat)))], [], (mup s2029 98 0 ((mw (v2030 - 1)).toNat) (mw (-(s2029 96 0 x2.toNat))))) (Ps := [0 ≤ (mw (v2030 - 1)) ∧ (mw (v2030 - 1)) < 3]) rfl (And.intro hc trivial) ?_
        refine m_blk C0 (pX12_ok rfl) kX12_leads0_ok 33 2 (2, [some (.inr (.inr (71, 0))), some (.inl x1), some (.inl (mw (x2 + 1))), some (.inl (σ 74 0 ((mw ((mw ((3 : Int) * x1)) + x2)).toNat)))], [], (mup s2029 98 0 ((mw (v2030 - 1)).toNat) (mw (-(s2029 96 0 x2.toNat))))) (Ps := []) rfl trivial ?_
        refine m_mask [true, true, true, false] (ls' := [some (.inr (.inr (71, 0))), some (.inl x1), some (.inl (mw (x2 + 1))), none]) rfl ?_
        exact IH _ _ _ _ h hK
set_option maxRecDepth 100000 in
set_option maxHeartbeats 4000000 in
theorem t_X12_leads0 {e : mEv} (hG : mGeo (mw0 e) lw_kept) (l : Launch) (N : Nat) {a1 : Int} {σ σ' : mS} (h : f_X12_leads0 N a1 σ = some σ') : mMet l (mw0 e) lw_kept 1 yX12_leads0 cX12_leads0 4 none [.inr (.inr (71, 0)), .inl a1] σ none σ' := by
  refine mMet_intro (plainFor_of_name (by decide)) hG (Nat.le_of_ble_eq_true rfl) (fun f hl hR C0 hFin => ?_)
  subst hl
  have hFr := mFr_of hR hFin
  unfold f_X12_leads0 at h
  show mWW f (mw0 e) sc0 4 (0, [some (.inr (.inr (71, 0))), some (.inl a1), none, none], [], σ)
  refine m_blk C0 (pX12_ok rfl) kX12_leads0_ok 0 2 (2, [some (.inr (.inr (71, 0))), some (.inl a1), some (.inl 0), none], [], σ) (Ps := []) rfl trivial ?_
  obtain ⟨s2034, hq2035, h⟩ := g_bind h
  refine m_mask [true, true, true, false] (ls' := [some (.inr (.inr (71, 0))), some (.inl a1), some (.inl 0), none]) rfl ?_
  refine p_X12_leads0_2 hG N C0 hFr N _ _ _ _ hq2035 ?_
  cases h
  exact m_vret C0 hFin (k_at kX12_leads0_ok 35 rfl)
set_option maxRecDepth 100000 in
set_option maxHeartbeats 4000000 in
theorem p_X12_images_55 {e : mEv} (hG : mGeo (mw0 e) lw_kept) (N : Nat) {f : mFx} (C0 : mCx f (mw0 e) sc0 cX12_images 7 RX12 lw_kept) (hFr : mFr f 2) : ∀ (n : Nat) (x4 : Int) (x5 : Int) (x6 : Int) (σ : mS) (o5 : Int) (σ' : mS), L_X12_images_55 N n x4 x5 x6 σ = some (o5, σ') → mWW f (mw0 e) sc0 7 (140, [some (.inr (.inr (71, 0))), none, none, none, some (.inl x4), some (.inl o5), none], [], σ') → mWW f (mw0 e) sc0 7 (55, [some (.inr (.inr (71, 0))), none, none, none, some (.inl x4), some (.inl x5), some (.inl x6)], [], σ) := by
  intro n
  induction n with
  | zero =>
    intro x4 x5 x6 σ o5 σ' h hK
    cases h
  | succ n IH =>
    intro x4 x5 x6 σ o5 σ' h hK
    rw [L_X12_images_55_s] at h
    refine m_blk C0 (pX12_ok rfl) kX12_images_ok 34 3 (61, [some (.inr (.inr (71, 0))), none, none, none, some (.inl x4), some (.inl x5), some (.inl x6)], [.inl (σ 71 0 40), .inl x6], σ) (Ps := []) rfl trivial ?_
    refine b_ige C0 kX12_images_ok 37 (off := 79) (tgt := 140) rfl (by decide) (fun hb2041 => ?_) (fun hb2041 => ?_)
    · replace h := g_pos hb2041 h
      cases h
      refine m_mask [true, false, false, false, true, true, false] (ls' := [some (.inr (.inr (71, 0))), none, none, none, some (.inl x4), some (.inl x5), none]) rfl ?_
      exact hK
    · replace h := g_neg hb2041 h
      refine m_blk C0 (pX12_ok rfl) kX12_images_ok 38 1 (66, [some (.inr (.inr (71, 0))), none, none, none, some (.inl x4), some (.inl x5), some (.inl x6)], [.inl x5], σ) (Ps := []) rfl trivial ?_
      refine b_ne C0 kX12_images_ok 39 (off := 61) (tgt := 127) rfl (by decide) (fun hb2040 => ?_) (fun hb2040 => ?_)
      · replace h := g_neg hb2040 h
        refine m_blk C0 (pX12_ok rfl) kX12_images_ok 77 2 (132, [some (.inr (.inr (71, 0))), none, none, none, some (.inl x4), some (.inl x5), some (.inl x6)], [.inl 1], σ) (Ps := []) rfl trivial ?_
        refine m_blk C0 (pX12_ok rfl) kX12_images_ok 80 3 (55, [some (.inr (.inr (71, 0))), none, none, none, some (.inl x4), some (.inl 1), some (.inl (mw (x6 + 1)))], [], σ) (Ps := []) rfl trivial ?_
        refine m_mask [true, false, false, false, true, true, true] (ls' := [some (.inr (.inr (71, 0))), none, none, none, some (.inl x4), some (.inl 1), some (.inl (mw (x6 + 1)))]) rfl ?_
        exact IH _ _ _ _ _ _ h hK
      · replace h := g_pos hb2040 h
        obtain ⟨hc, h⟩ := g_if h
        refine m_blk C0 (pX12_ok rfl) kX12_images_ok 40 10 (84, [some (.inr (.inr (71, 0))), none, none, none, some (.inl x4), some (.inl x5), some (.inl x6)], [.inl (σ 98 0 0), .inl (σ 97 0 ((mw ((3 : Int) * x6)).toNat))], σ) (Ps := [0 ≤ (mw ((3 : Int) * x6)) ∧ (mw ((3 : Int) * x6)) < 144, 0 ≤ (0 : Int) ∧ (0 : Int) < 3]) rfl (And.intro hc (And.intro (by decide) trivial)) ?_
        refine b_ine C0 kX12_images_ok 50 (off := 47) (tgt := 131) rfl (by decide) (fun hb2039 => ?_) (fun hb2039 => ?_)
        · replace h := g_neg hb2039 h
          refine m_blk C0 (pX12_ok rfl) kX12_images_ok 79 4 (55, [some (.inr (.inr (71, 0))), none, none, none, some (.inl x4), some (.inl 0), some (.inl (mw (x6 + 1)))], [], σ) (Ps := []) rfl trivial ?_
          refine m_mask [true, false, false, false, true, true, true] (ls' := [some (.inr (.inr (71, 0))), none, none, none, some (.inl x4), some (.inl 0), some (.inl (mw (x6 + 1)))]) rfl ?_
          exact IH _ _ _ _ _ _ h hK
        · replace h := g_pos hb2039 h
          obtain ⟨hc, h⟩ := g_if h
          refine m_blk C0 (pX12_ok rfl) kX12_images_ok 51 12 (104, [some (.inr (.inr (71, 0))), none, none, none, some (.inl x4), some (.inl x5), some (.inl x6)], [.inl (σ 98 0 1), .inl (σ 97 0 ((mw ((mw ((3 : Int) * x6)) + 1)).toNat))], σ) (Ps := [0 ≤ (mw ((mw ((3 : Int) * x6)) + 1)) ∧ (mw ((mw ((3 : Int) * x6)) + 1)) < 144, 0 ≤ (1 : Int) ∧ (1 : Int) < 3]) rfl (And.intro hc (And.intro (by decide) trivial)) ?_
          refine b_ine C0 kX12_images_ok 63 (off := 27) (tgt := 131) rfl (by decide) (fun hb2038 => ?_) (fun hb2038 => ?_)
          · replace h := g_neg hb2038 h
            refine m_blk C0 (pX12_ok rfl) kX12_images_ok 79 4 (55, [some (.inr (.inr (71, 0))), none, none, none, some (.inl x4), some (.inl 0), some (.inl (mw (x6 + 1)))], [], σ) (Ps := []) rfl trivial ?_
            refine m_mask [true, false, false, false, true, true, true] (ls' := [some (.inr (.inr (71, 0))), none, none, none, some (.inl x4), some (.inl 0), some (.inl (mw (x6 + 1)))]) rfl ?_
            exact IH _ _ _ _ _ _ h hK
          · replace h := g_pos hb2038 h
            obtain ⟨hc, h⟩ := g_if h
            refine m_blk C0 (pX12_ok rfl) kX12_images_ok 64 12 (124, [some (.inr (.inr (71, 0))), none, none, none, some (.inl x4), some (.inl x5), some (.inl x6)], [.inl (σ 98 0 2), .inl (σ 97 0 ((mw ((mw ((3 : Int) * x6)) + 2)).toNat))], σ) (Ps := [0 ≤ (mw ((mw ((3 : Int) * x6)) + 2)) ∧ (mw ((mw ((3 : Int) * x6)) + 2)) < 144, 0 ≤ (2 : Int) ∧ (2 : Int) < 3]) rfl (And.intro hc (And.intro (by decide) trivial)) ?_
            refine b_ine C0 kX12_images_ok 76 (off := 7) (tgt := 131) rfl (by decide) (fun hb2037 => ?_) (fun hb2037 => ?_)
            · replace h := g_neg hb2037 h
              refine m_blk C0 (pX12_ok rfl) kX12_images_ok 79 4 (55, [some (.inr (.inr (71, 0))), none, none, none, some (.inl x4), some (.inl 0), some (.inl (mw (x6 + 1)))], [], σ) (Ps := []) rfl trivial ?_
              refine m_mask [true, false, false, false, true, true, true] (ls' := [some (.inr (.inr (71, 0))), none, none, none, some (.inl x4), some (.inl 0), some (.inl (mw (x6 + 1)))]) rfl ?_
              exact IH _ _ _ _ _ _ h hK
            · replace h := g_pos hb2037 h
              refine m_blk C0 (pX12_ok rfl) kX12_images_ok 77 2 (132, [some (.inr (.inr (71, 0))), none, none, none, some (.inl x4), some (.inl x5), some (.inl x6)], [.inl 1], σ) (Ps := []) rfl trivial ?_
              refine m_blk C0 (pX12_ok rfl) kX12_images_ok 80 3 (55, [some (.inr (.inr (71, 0))), none, none, none, some (.inl x4), some (.inl 1), some (.inl (mw (x6 + 1)))], [], σ) (Ps := []) rfl trivial ?_
              refine m_mask [true, false, false, false, true, true, true] (ls' := [some (.inr (.inr (71, 0))), none, none, none, some (.inl x4), some (.inl 1), some (.inl (mw (x6 + 1)))]) rfl ?_
              exact IH _ _ _ _ _ _ h hK
set_option maxRecDepth 100000 in
set_option maxHeartbeats 4000000 in
theorem p_X12_images_151 {e : mEv} (hG : mGeo (mw0 e) lw_kept) (N : Nat) {f : mFx} (C0 : mCx f (mw0 e) sc0 cX12_images 7 RX12 lw_kept) (hFr : mFr f 2) : ∀ (n : Nat) (x4 : Int) (x6 : Int) (σ : mS) (σ' : mS), L_X12_images_151 N n x4 x6 σ = some σ' → mWW f (mw0 e) sc0 7 (184, [some (.inr (.inr (71, 0))), none, none, none, some (.inl x4), none, none], [], σ') → mWW f (mw0 e) sc0 7 (151, [some (.inr (.inr (71, 0))), none, none, none, some (.inl x4), none, some (.inl x6)], [], σ) := by
  intro n
  induction n with
  | zero =>
    intro x4 x6 σ σ' h hK
    cases h
  | succ n IH =>
    intro x4 x6 σ σ' h hK
    rw [L_X12_images_151_s] at h
    refine m_blk C0 (pX12_ok rfl) kX12_images_ok 88 2 (154, [some (.inr (.inr (71, 0))), none, none, none, some (.inl x4), none, some (.inl x6)], [.inl 3, .inl x6], σ) (Ps := []) rfl trivial ?_
    refine b_ige C0 kX12_images_ok 90 (off := 30) (tgt := 184) rfl (by decide) (fun hb2044 => ?_) (fun hb2044 => ?_)
    · replace h := g_pos hb2044 h
      cases h
      refine m_mask [true, false, false, false, true, false, false] (ls' := [some (.inr (.inr (71, 0))), none, none, none, some (.inl x4), none, none]) rfl ?_
      exact hK
    · replace h := g_neg hb2044 h
      obtain ⟨hc, h⟩ := g_if h
      refine m_blk C0 (pX12_ok rfl) kX12_images_ok 91 13 (178, [some (.inr (.inr (71, 0))), none, none, none, some (.inl x4), none, some (.inl x6)], [], (mup σ 97 0 ((mw ((mw ((3 : Int) * (σ 71 0 40))) + x6)).toNat) (σ 98 0 x6.toNat))) (Ps := [0 ≤ x6 ∧ x6 < 3, 0 ≤ (mw ((mw ((3 : Int) * (σ 71 0 40))) + x6)) ∧ (mw ((mw ((3 : Int) * (σ 71 0 40))) + x6)) < 144]) rfl (And.intro hc.1 (And.intro hc.2 trivial)) ?_
      refine m_blk C0 (pX12_ok rfl) kX12_images_ok 104 2 (151, [some (.inr (.inr (71, 0))), none, none, none, some (.inl x4), none, some (.inl (mw (x6 + 1)))], [], (mup σ 97 0 ((mw ((mw ((3 : Int) * (σ 71 0 40))) + x6)).toNat) (σ 98 0 x6.toNat))) (Ps := []) rfl trivial ?_
      refine m_mask [true, false, false, false, true, false, true] (ls' := [some (.inr (.inr (71, 0))), none, none, none, some (.inl x4), none, some (.inl (mw (x6 + 1)))]) rfl ?_
      exact IH _ _ _ _ h hK
set_option maxRecDepth 100000 in
set_option maxHeartbeats 4000000 in
theorem p_X12_images_34 {e : mEv} (hG : mGeo (mw0 e) lw_kept) (N : Nat) {f : mFx} (C0 : mCx f (mw0 e) sc0 cX12_images 7 RX12 lw_kept) (hFr : mFr f 2) : ∀ (n : Nat) (x4 : Int) (σ : mS) (σ' : mS), L_X12_images_34 N n x4 σ = some σ' → mWW f (mw0 e) sc0 7 (200, [some (.inr (.inr (71, 0))), none, none, none, none, none, none], [], σ') → mWW f (mw0 e) sc0 7 (34, [some (.inr (.inr (71, 0))), none, none, none, some (.inl x4), none, none], [], σ) := by
  intro n
  induction n with
  | zero =>
    intro x4 σ σ' h hK
    cases h
  | succ n IH =>
    intro x4 σ σ' h hK
    rw [L_X12_images_34_s] at h
    refine m_blk C0 (pX12_ok rfl) kX12_images_ok 23 3 (40, [some (.inr (.inr (71, 0))), none, none, none, some (.inl x4), none, none], [.inl (σ 71 0 6), .inl x4], σ) (Ps := []) rfl trivial ?_
    refine b_ige C0 kX12_images_ok 26 (off := 160) (tgt := 200) rfl (by decide) (fun hb2050 => ?_) (fun hb2050 => ?_)
    · replace h := g_pos hb2050 h
      cases h
      refine m_mask [true, false, false, false, false, false, false] (ls' := [some (.inr (.inr (71, 0))), none, none, none, none, none, none]) rfl ?_
      exact hK
    · replace h := g_neg hb2050 h
      refine m_blk C0 (pX12_ok rfl) kX12_images_ok 27 2 (46, [some (.inr (.inr (71, 0))), none, none, none, some (.inl x4), none, none], [.inl x4, .inr (.inr (71, 0))], σ) (Ps := []) rfl trivial ?_
      obtain ⟨s2036, hq2049, h⟩ := g_bind h
      refine c_V (rest := []) C0 hFr (t_X12_leads0 hG f.2.1 N hq2049) lk_X12_299 (k_at kX12_images_ok 29 rfl) rfl rfl rfl rfl ⟨_, _, rfl⟩ (by decide) (by decide) (Nat.le_of_ble_eq_true rfl) ?_
      refine m_blk C0 (pX12_ok rfl) kX12_images_ok 30 4 (55, [some (.inr (.inr (71, 0))), none, none, none, some (.inl x4), some (.inl 0), some (.inl 0)], [], s2036) (Ps := []) rfl trivial ?_
      obtain ⟨⟨o2043, s2042⟩, hq2048, h⟩ := g_bind h
      refine m_mask [true, false, false, false, true, true, true] (ls' := [some (.inr (.inr (71, 0))), none, none, none, some (.inl x4), some (.inl 0), some (.inl 0)]) rfl ?_
      refine p_X12_images_55 hG N C0 hFr N _ _ _ _ _ _ hq2048 ?_
      refine m_blk C0 (pX12_ok rfl) kX12_images_ok 83 1 (142, [some (.inr (.inr (71, 0))), none, none, none, some (.inl x4), some (.inl o2043), none], [.inl o2043], s2042) (Ps := []) rfl trivial ?_
      refine b_eq C0 kX12_images_ok 84 (off := 6) (tgt := 148) rfl (by decide) (fun hb2047 => ?_) (fun hb2047 => ?_)
      · replace h := g_pos hb2047 h
        refine m_blk C0 (pX12_ok rfl) kX12_images_ok 86 2 (151, [some (.inr (.inr (71, 0))), none, none, none, some (.inl x4), some (.inl o2043), some (.inl 0)], [], s2042) (Ps := []) rfl trivial ?_
        obtain ⟨s2045, hq2046, h⟩ := g_bind h
        refine m_mask [true, false, false, false, true, false, true] (ls' := [some (.inr (.inr (71, 0))), none, none, none, some (.inl x4), none, some (.inl 0)]) rfl ?_
        refine p_X12_images_151 hG N C0 hFr N _ _ _ _ hq2046 ?_
        refine m_blk C0 (pX12_ok rfl) kX12_images_ok 106 6 (194, [some (.inr (.inr (71, 0))), none, none, none, some (.inl x4), none, none], [], (mup s2045 71 0 40 (mw ((s2045 71 0 40) + 1)))) (Ps := []) rfl trivial ?_
        refine m_blk C0 (pX12_ok rfl) kX12_images_ok 112 2 (34, [some (.inr (.inr (71, 0))), none, none, none, some (.inl (mw (x4 + 1))), none, none], [], (mup s2045 71 0 40 (mw ((s2045 71 0 40) + 1)))) (Ps := []) rfl trivial ?_
        refine m_mask [true, false, false, false, true, false, false] (ls' := [some (.inr (.inr (71, 0))), none, none, none, some (.inl (mw (x4 + 1))), none, none]) rfl ?_
        exact IH _ _ _ h hK
      · replace h := g_neg hb2047 h
        refine m_blk C0 (pX12_ok rfl) kX12_images_ok 85 1 (194, [some (.inr (.inr (71, 0))), none, none, none, some (.inl x4), some (.inl o2043), none], [], s2042) (Ps := []) rfl trivial ?_
        refine m_blk C0 (pX12_ok rfl) kX12_images_ok 112 2 (34, [some (.inr (.inr (71, 0))), none, none, none, some (.inl (mw (x4 + 1))), some (.inl o2043), none], [], s2042) (Ps := []) rfl trivial ?_
        refine m_mask [true, false, false, false, true, false, false] (ls' := [some (.inr (.inr (71, 0))), none, none, none, some (.inl (mw (x4 + 1))), none, none]) rfl ?_
        exact IH _ _ _ h hK
set_option maxRecDepth 100000 in
set_option maxHeartbeats 4000000 in
theorem t_X12_images {e : mEv} (hG : mGeo (mw0 e) lw_kept) (l : Launch) (N : Nat) {a1 : Int} {a2 : Int} {a3 : Int} {σ σ' : mS} {v : Int} (h : f_X12_images N a1 a2 a3 σ = some (v, σ')) : mMet l (mw0 e) lw_kept 2 yX12_images cX12_images 7 (some .int) [.inr (.inr (71, 0)), .inl a1, .inl a2, .inl a3] σ (some (.inl v)) σ' := by
  refine mMet_intro (plainFor_of_name (by decide)) hG (Nat.le_of_ble_eq_true rfl) (fun f hl hR C0 hFin => ?_)
  subst hl
  have hFr := mFr_of hR hFin
  unfold f_X12_images at h
  show mWW f (mw0 e) sc0 7 (0, [some (.inr (.inr (71, 0))), some (.inl a1), some (.inl a2), some (.inl a3), none, none, none], [], σ)
  refine m_blk C0 (pX12_ok rfl) kX12_images_ok 0 5 (7, [some (.inr (.inr (71, 0))), some (.inl a1), some (.inl a2), some (.inl a3), none, none, none], [], (mup σ 96 0 0 a1)) (Ps := [0 ≤ (0 : Int) ∧ (0 : Int) < 3]) rfl (And.intro (by decide) trivial) ?_
  refine m_blk C0 (pX12_ok rfl) kX12_images_ok 5 5 (14, [some (.inr (.inr (71, 0))), some (.inl a1), some (.inl a2), some (.inl a3), none, none, none], [], (mup (mup σ 96 0 0 a1) 96 0 1 a2)) (Ps := [0 ≤ (1 : Int) ∧ (1 : Int) < 3]) rfl (And.intro (by decide) trivial) ?_
  refine m_blk C0 (pX12_ok rfl) kX12_images_ok 10 5 (21, [some (.inr (.inr (71, 0))), some (.inl a1), some (.inl a2), some (.inl a3), none, none, none], [], (mup (mup (mup σ 96 0 0 a1) 96 0 1 a2) 96 0 2 a3)) (Ps := [0 ≤ (2 : Int) ∧ (2 : Int) < 3]) rfl (And.intro (by decide) trivial) ?_
  refine m_blk C0 (pX12_ok rfl) kX12_images_ok 15 3 (26, [some (.inr (.inr (71, 0))), some (.inl a1), some (.inl a2), some (.inl a3), none, none, none], [], (mup (mup (mup (mup σ 96 0 0 a1) 96 0 1 a2) 96 0 2 a3) 71 0 41 1)) (Ps := [(1 : Int) = 0 ∨ (1 : Int) = 1]) rfl (And.intro (by decide) trivial) ?_
  refine m_blk C0 (pX12_ok rfl) kX12_images_ok 18 3 (31, [some (.inr (.inr (71, 0))), some (.inl a1), some (.inl a2), some (.inl a3), none, none, none], [], (mup (mup (mup (mup (mup σ 96 0 0 a1) 96 0 1 a2) 96 0 2 a3) 71 0 41 1) 71 0 40 0)) (Ps := []) rfl trivial ?_
  refine m_blk C0 (pX12_ok rfl) kX12_images_ok 21 2 (34, [some (.inr (.inr (71, 0))), some (.inl a1), some (.inl a2), some (.inl a3), some (.inl 0), none, none], [], (mup (mup (mup (mup (mup σ 96 0 0 a1) 96 0 1 a2) 96 0 2 a3) 71 0 41 1) 71 0 40 0)) (Ps := []) rfl trivial ?_
  obtain ⟨s2051, hq2052, h⟩ := g_bind h
  refine m_mask [true, false, false, false, true, false, false] (ls' := [some (.inr (.inr (71, 0))), none, none, none, some (.inl 0), none, none]) rfl ?_
  refine p_X12_images_34 hG N C0 hFr N _ _ _ hq2052 ?_
  refine m_blk C0 (pX12_ok rfl) kX12_images_ok 114 2 (204, [some (.inr (.inr (71, 0))), none, none, none, none, none, none], [.inl (s2051 71 0 40)], s2051) (Ps := []) rfl trivial ?_
  cases h
  exact m_iret C0 hFin (k_at kX12_images_ok 116 rfl) (Or.inl rfl)
