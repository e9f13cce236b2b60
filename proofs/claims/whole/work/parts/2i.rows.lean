set_option maxRecDepth 100000 in
set_option maxHeartbeats 4000000 in
theorem t_X2_isLedTo {e : mEv} (hG : mGeo (mw0 e) lw_kept) (l : Launch) (N : Nat) {a1 : Int} {a2 : Int} {a3 : Int} {σ σ' : mS} {v : Int} (h : f_X2_isLedTo N a1 a2 a3 σ = some (v, σ')) : mMet l (mw0 e) lw_kept 0 yX2_isLedTo cX2_isLedTo 4 (some .boolean) [.inr (.inr (66, 0)), .inl a1, .inl a2, .inl a3] σ (some (.inl v)) σ' := by
  refine mMet_intro (plainFor_of_name (by decide)) hG (Nat.le_of_ble_eq_true rfl) (fun f hl hR C0 hFin => ?_)
  subst hl
  have hFr := mFr_of hR hFin
  unfold f_X2_isLedTo at h
  show mWW f (mw0 e) sc0 4 (0, [some (.inr (.inr (66, 0))), some (.inl a1), some (.inl a2), some (.inl a3)], [], σ)
  refine m_blk C0 (pX2_ok rfl) kX2_isLedTo_ok 0 5 (7, [some (.inr (.inr (66, 0))), some (.inl a1), some (.inl a2), some (.inl a3)], [.inl a1, .inl (σ 70 0 0)], σ) (Ps := [0 ≤ (0 : Int) ∧ (0 : Int) < 3]) rfl (And.intro (by decide) trivial) ?_
  refine b_ine C0 kX2_isLedTo_ok 5 (off := 27) (tgt := 34) rfl (by decide) (fun hb912 => ?_) (fun hb912 => ?_)
  · replace h := g_neg hb912 h
    refine m_blk C0 (pX2_ok rfl) kX2_isLedTo_ok 20 1 (35, [some (.inr (.inr (66, 0))), some (.inl a1), some (.inl a2), some (.inl a3)], [.inl 0], σ) (Ps := []) rfl trivial ?_
    cases h
    exact m_iret C0 hFin (k_at kX2_isLedTo_ok 21 rfl) (Or.inr ⟨rfl, by decide⟩)
  · replace h := g_pos hb912 h
    refine m_blk C0 (pX2_ok rfl) kX2_isLedTo_ok 6 5 (17, [some (.inr (.inr (66, 0))), some (.inl a1), some (.inl a2), some (.inl a3)], [.inl a2, .inl (σ 70 0 1)], σ) (Ps := [0 ≤ (1 : Int) ∧ (1 : Int) < 3]) rfl (And.intro (by decide) trivial) ?_
    refine b_ine C0 kX2_isLedTo_ok 11 (off := 17) (tgt := 34) rfl (by decide) (fun hb911 => ?_) (fun hb911 => ?_)
    · replace h := g_neg hb911 h
      refine m_blk C0 (pX2_ok rfl) kX2_isLedTo_ok 20 1 (35, [some (.inr (.inr (66, 0))), some (.inl a1), some (.inl a2), some (.inl a3)], [.inl 0], σ) (Ps := []) rfl trivial ?_
      cases h
      exact m_iret C0 hFin (k_at kX2_isLedTo_ok 21 rfl) (Or.inr ⟨rfl, by decide⟩)
    · replace h := g_pos hb911 h
      refine m_blk C0 (pX2_ok rfl) kX2_isLedTo_ok 12 5 (27, [some (.inr (.inr (66, 0))), some (.inl a1), some (.inl a2), some (.inl a3)], [.inl a3, .inl (σ 70 0 2)], σ) (Ps := [0 ≤ (2 : Int) ∧ (2 : Int) < 3]) rfl (And.intro (by decide) trivial) ?_
      refine b_ine C0 kX2_isLedTo_ok 17 (off := 7) (tgt := 34) rfl (by decide) (fun hb910 => ?_) (fun hb910 => ?_)
      · replace h := g_neg hb910 h
        refine m_blk C0 (pX2_ok rfl) kX2_isLedTo_ok 20 1 (35, [some (.inr (.inr (66, 0))), some (.inl a1), some (.inl a2), some (.inl a3)], [.inl 0], σ) (Ps := []) rfl trivial ?_
        cases h
        exact m_iret C0 hFin (k_at kX2_isLedTo_ok 21 rfl) (Or.inr ⟨rfl, by decide⟩)
      · replace h := g_pos hb910 h
        refine m_blk C0 (pX2_ok rfl) kX2_isLedTo_ok 18 2 (35, [some (.inr (.inr (66, 0))), some (.inl a1), some (.inl a2), some (.inl a3)], [.inl 1], σ) (Ps := []) rfl trivial ?_
        cases h
        exact m_iret C0 hFin (k_at kX2_isLedTo_ok 21 rfl) (Or.inr ⟨rfl, by decide⟩)
set_option maxRecDepth 100000 in
set_option maxHeartbeats 4000000 in
theorem p_X2_isLedKnown_2 {e : mEv} (hG : mGeo (mw0 e) lw_kept) (N : Nat) {f : mFx} (C0 : mCx f (mw0 e) sc0 cX2_isLedKnown 2 RX2 lw_kept) (hFr : mFr f 1) : ∀ (n : Nat) (x1 : Int) (σ : mS) (out : (Int × mS) ⊕ (mS)), L_X2_isLedKnown_2 N n x1 σ = some out → (∀ v s, out = .inl (v, s) → mFin f (mw0 e) (some .boolean) (some (.inl v)) s) → (∀  (s : mS), out = .inr s → mWW f (mw0 e) sc0 2 (49, [none, none], [], s)) → mWW f (mw0 e) sc0 2 (2, [some (.inr (.inr (66, 0))), some (.inl x1)], [], σ) := by
  intro n
  induction n with
  | zero =>
    intro x1 σ out h hX hK
    cases h
  | succ n IH =>
    intro x1 σ out h hX hK
    rw [L_X2_isLedKnown_2_s] at h
    refine m_blk C0 (pX2_ok rfl) kX2_isLedKnown_ok 2 3 (7, [some (.inr (.inr (66, 0))), some (.inl x1)], [.inl (σ 66 0 0), .inl x1], σ) (Ps := []) rfl trivial ?_
    refine b_ige C0 kX2_isLedKnown_ok 5 (off := 42) (tgt := 49) rfl (by decide) (fun hb917 => ?_) (fun hb917 => ?_)
    · replace h := g_pos hb917 h
      cases h
      refine m_mask [false, false] (ls' := [none, none]) rfl ?_
      exact hK _ rfl
    · replace h := g_neg hb917 h
      obtain ⟨hc, h⟩ := g_if h
      refine m_blk C0 (pX2_ok rfl) kX2_isLedKnown_ok 6 16 (32, [some (.inr (.inr (66, 0))), some (.inl x1)], [.inl x1, .inr (.inr (68, 0)), .inl (σ 69 x1.toNat 1), .inl (σ 69 x1.toNat 0), .inr (.inr (66, 0))], σ) (Ps := [0 ≤ x1 ∧ x1 < 48, 0 ≤ (0 : Int) ∧ (0 : Int) < 3, 0 ≤ x1 ∧ x1 < 48, 0 ≤ (1 : Int) ∧ (1 : Int) < 3]) rfl (And.intro hc (And.intro (by decide) (And.intro hc (And.intro (by decide) trivial)))) ?_
      refine m_blk C0 (pX2_ok rfl) kX2_isLedKnown_ok 22 3 (35, [some (.inr (.inr (66, 0))), some (.inl x1)], [.inl (σ 69 x1.toNat 2), .inl (σ 69 x1.toNat 1), .inl (σ 69 x1.toNat 0), .inr (.inr (66, 0))], σ) (Ps := [0 ≤ x1 ∧ x1 < 48, 0 ≤ (2 : Int) ∧ (2 : Int) < 3]) rfl (And.intro hc (And.intro (by decide) trivial)) ?_
      obtain ⟨⟨v914, s913⟩, hq916, h⟩ := g_bind h
      refine c_V (rest := []) C0 hFr (t_X2_isLedTo hG f.2.1 N hq916) lk_X2_57 (k_at kX2_isLedKnown_ok 25 rfl) rfl rfl rfl rfl ⟨_, _, rfl⟩ (by decide) (by decide) (Nat.le_of_ble_eq_true rfl) ?_
      refine b_eq C0 kX2_isLedKnown_ok 26 (off := 5) (tgt := 43) rfl (by decide) (fun hb915 => ?_) (fun hb915 => ?_)
      · replace h := g_pos hb915 h
        refine m_blk C0 (pX2_ok rfl) kX2_isLedKnown_ok 29 2 (2, [some (.inr (.inr (66, 0))), some (.inl (mw (x1 + 1)))], [], s913) (Ps := []) rfl trivial ?_
        refine m_mask [true, true] (ls' := [some (.inr (.inr (66, 0))), some (.inl (mw (x1 + 1)))]) rfl ?_
        exact IH _ _ _ h hX hK
      · replace h := g_neg hb915 h
        refine m_blk C0 (pX2_ok rfl) kX2_isLedKnown_ok 27 1 (42, [some (.inr (.inr (66, 0))), some (.inl x1)], [.inl 1], s913) (Ps := []) rfl trivial ?_
        cases h
        exact m_iret C0 (hX _ _ rfl) (k_at kX2_isLedKnown_ok 28 rfl) (Or.inr ⟨rfl, by decide⟩)
set_option maxRecDepth 100000 in
set_option maxHeartbeats 4000000 in
theorem t_X2_isLedKnown {e : mEv} (hG : mGeo (mw0 e) lw_kept) (l : Launch) (N : Nat) {σ σ' : mS} {v : Int} (h : f_X2_isLedKnown N σ = some (v, σ')) : mMet l (mw0 e) lw_kept 1 yX2_isLedKnown cX2_isLedKnown 2 (some .boolean) [.inr (.inr (66, 0))] σ (some (.inl v)) σ' := by
  refine mMet_intro (plainFor_of_name (by decide)) hG (Nat.le_of_ble_eq_true rfl) (fun f hl hR C0 hFin => ?_)
  subst hl
  have hFr := mFr_of hR hFin
  unfold f_X2_isLedKnown at h
  show mWW f (mw0 e) sc0 2 (0, [some (.inr (.inr (66, 0))), none], [], σ)
  refine m_blk C0 (pX2_ok rfl) kX2_isLedKnown_ok 0 2 (2, [some (.inr (.inr (66, 0))), some (.inl 0)], [], σ) (Ps := []) rfl trivial ?_
  obtain ⟨o, hq919, h⟩ := g_bind h
  refine m_mask [true, true] (ls' := [some (.inr (.inr (66, 0))), some (.inl 0)]) rfl ?_
  rcases o with ⟨v920, s921⟩ | s918
  · cases h
    exact p_X2_isLedKnown_2 hG N C0 hFr N _ _ _ hq919 (fun v s e => by cases e; exact hFin) (fun _ e => by cases e)
  · refine p_X2_isLedKnown_2 hG N C0 hFr N _ _ _ hq919 (fun v s e => by cases e) (fun _ e => ?_)
    cases e
    refine m_blk C0 (pX2_ok rfl) kX2_isLedKnown_ok 31 1 (50, [none, none], [.inl 0], s918) (Ps := []) rfl trivial ?_
    cases h
    exact m_iret C0 hFin (k_at kX2_isLedKnown_ok 32 rfl) (Or.inr ⟨rfl, by decide⟩)
set_option maxRecDepth 100000 in
set_option maxHeartbeats 4000000 in
theorem p_X2_find_35 {e : mEv} (hG : mGeo (mw0 e) lw_kept) (N : Nat) {f : mFx} (C0 : mCx f (mw0 e) sc0 cX2_find 6 RX2 lw_kept) (hFr : mFr f 2) : ∀ (n : Nat) (x5 : Int) (σ : mS) (σ' : mS), L_X2_find_35 N n x5 σ = some σ' → mWW f (mw0 e) sc0 6 (106, [none, none, none, none, none, none], [], σ') → mWW f (mw0 e) sc0 6 (35, [some (.inr (.inr (66, 0))), some (.inr (.inr (5, 0))), none, none, none, some (.inl x5)], [], σ) := by
  intro n
  induction n with
  | zero =>
    intro x5 σ σ' h hK
    cases h
  | succ n IH =>
    intro x5 σ σ' h hK
    rw [L_X2_find_35_s] at h
    refine m_blk C0 (pX2_ok rfl) kX2_find_ok 23 3 (41, [some (.inr (.inr (66, 0))), some (.inr (.inr (5, 0))), none, none, none, some (.inl x5)], [.inl (σ 5 0 0), .inl x5], σ) (Ps := []) rfl trivial ?_
    refine b_ige C0 kX2_find_ok 26 (off := 65) (tgt := 106) rfl (by decide) (fun hb928 => ?_) (fun hb928 => ?_)
    · replace h := g_pos hb928 h
      cases h
      refine m_mask [false, false, false, false, false, false] (ls' := [none, none, none, none, none, none]) rfl ?_
      exact hK
    · replace h := g_neg hb928 h
      obtain ⟨hc, h⟩ := g_if h
      refine m_blk C0 (pX2_ok rfl) kX2_find_ok 27 5 (52, [some (.inr (.inr (66, 0))), some (.inr (.inr (5, 0))), none, none, none, some (.inl x5)], [.inr (.inr (7, x5.toNat)), .inr (.inr (66, 0))], σ) (Ps := [0 ≤ x5 ∧ x5 < 48]) rfl (And.intro hc trivial) ?_
      obtain ⟨s909, hq927, h⟩ := g_bind h
      refine c_V (rest := []) C0 hFr (t_X2_lead_r7 hG f.2.1 N hq927) lk_X2_39 (k_at kX2_find_ok 32 rfl) rfl rfl rfl rfl ⟨_, _, rfl⟩ (by decide) (by decide) (Nat.le_of_ble_eq_true rfl) ?_
      refine m_blk C0 (pX2_ok rfl) kX2_find_ok 33 1 (56, [some (.inr (.inr (66, 0))), some (.inr (.inr (5, 0))), none, none, none, some (.inl x5)], [.inr (.inr (66, 0))], s909) (Ps := []) rfl trivial ?_
      obtain ⟨⟨v923, s922⟩, hq926, h⟩ := g_bind h
      refine c_V (rest := []) C0 hFr (t_X2_isLedKnown hG f.2.1 N hq926) lk_X2_43 (k_at kX2_find_ok 34 rfl) rfl rfl rfl rfl ⟨_, _, rfl⟩ (by decide) (by decide) (Nat.le_of_ble_eq_true rfl) ?_
      refine b_ne C0 kX2_find_ok 35 (off := 41) (tgt := 100) rfl (by decide) (fun hb925 => ?_) (fun hb925 => ?_)
      · replace h := g_neg hb925 h
        refine m_blk C0 (pX2_ok rfl) kX2_find_ok 57 2 (35, [some (.inr (.inr (66, 0))), some (.inr (.inr (5, 0))), none, none, none, some (.inl (mw (x5 + 1)))], [], s922) (Ps := []) rfl trivial ?_
        refine m_mask [true, true, false, false, false, true] (ls' := [some (.inr (.inr (66, 0))), some (.inr (.inr (5, 0))), none, none, none, some (.inl (mw (x5 + 1)))]) rfl ?_
        exact IH _ _ _ h hK
      · replace h := g_pos hb925 h
        refine m_blk C0 (pX2_ok rfl) kX2_find_ok 36 3 (68, [some (.inr (.inr (66, 0))), some (.inr (.inr (5, 0))), none, none, none, some (.inl x5)], [.inl 48, .inl (s922 66 0 0)], s922) (Ps := []) rfl trivial ?_
        refine b_ige C0 kX2_find_ok 39 (off := 32) (tgt := 100) rfl (by decide) (fun hb924 => ?_) (fun hb924 => ?_)
        · replace h := g_pos hb924 h
          refine m_blk C0 (pX2_ok rfl) kX2_find_ok 57 2 (35, [some (.inr (.inr (66, 0))), some (.inr (.inr (5, 0))), none, none, none, some (.inl (mw (x5 + 1)))], [], s922) (Ps := []) rfl trivial ?_
          refine m_mask [true, true, false, false, false, true] (ls' := [some (.inr (.inr (66, 0))), some (.inr (.inr (5, 0))), none, none, none, some (.inl (mw (x5 + 1)))]) rfl ?_
          exact IH _ _ _ h hK
        · replace h := g_neg hb924 h
          obtain ⟨hc, h⟩ := g_if h
          refine m_blk C0 (pX2_ok rfl) kX2_find_ok 40 10 (87, [some (.inr (.inr (66, 0))), some (.inr (.inr (5, 0))), none, none, none, some (.inl x5)], [.inl 3, .inl 0, .inr (.inr (69, (s922 66 0 0).toNat)), .inl 0, .inr (.inr (70, 0))], s922) (Ps := [0 ≤ (s922 66 0 0) ∧ (s922 66 0 0) < 48]) rfl (And.intro hc trivial) ?_
          refine c_copy (rest := []) C0 hFr lkc_5 (k_at kX2_find_ok 50 rfl) rfl rfl rfl (by decide) (Nat.le_of_ble_eq_true rfl) (show 0 ≤ (0 : Int) ∧ 0 ≤ (0 : Int) ∧ 0 ≤ (3 : Int) ∧ (0 : Int) + 3 ≤ 3 ∧ (0 : Int) + 3 ≤ 3 from by decide) ?_
          refine m_blk C0 (pX2_ok rfl) kX2_find_ok 51 6 (100, [some (.inr (.inr (66, 0))), some (.inr (.inr (5, 0))), none, none, none, some (.inl x5)], [], (mup (mcp s922 70 0 0 69 ((s922 66 0 0).toNat) 0 3) 66 0 0 (mw ((s922 66 0 0) + 1)))) (Ps := []) rfl trivial ?_
          refine m_blk C0 (pX2_ok rfl) kX2_find_ok 57 2 (35, [some (.inr (.inr (66, 0))), some (.inr (.inr (5, 0))), none, none, none, some (.inl (mw (x5 + 1)))], [], (mup (mcp s922 70 0 0 69 ((s922 66 0 0).toNat) 0 3) 66 0 0 (mw ((s922 66 0 0) + 1)))) (Ps := []) rfl trivial ?_
          refine m_mask [true, true, false, false, false, true] (ls' := [some (.inr (.inr (66, 0))), some (.inr (.inr (5, 0))), none, none, none, some (.inl (mw (x5 + 1)))]) rfl ?_
          exact IH _ _ _ h hK
set_option maxRecDepth 100000 in
set_option maxHeartbeats 4000000 in
theorem t_X2_find {e : mEv} (hG : mGeo (mw0 e) lw_kept) (l : Launch) (N : Nat) {a2 : Int} {a3 : Int} {a4 : Int} {σ σ' : mS} (h : f_X2_find N a2 a3 a4 σ = some σ') : mMet l (mw0 e) lw_kept 2 yX2_find cX2_find 6 none [.inr (.inr (66, 0)), .inr (.inr (5, 0)), .inl a2, .inl a3, .inl a4] σ none σ' := by
  refine mMet_intro (plainFor_of_name (by decide)) hG (Nat.le_of_ble_eq_true rfl) (fun f hl hR C0 hFin => ?_)
  subst hl
  have hFr := mFr_of hR hFin
  unfold f_X2_find at h
  show mWW f (mw0 e) sc0 6 (0, [some (.inr (.inr (66, 0))), some (.inr (.inr (5, 0))), some (.inl a2), some (.inl a3), some (.inl a4), none], [], σ)
  refine m_blk C0 (pX2_ok rfl) kX2_find_ok 0 5 (7, [some (.inr (.inr (66, 0))), some (.inr (.inr (5, 0))), some (.inl a2), some (.inl a3), some (.inl a4), none], [], (mup σ 67 0 0 a2)) (Ps := [0 ≤ (0 : Int) ∧ (0 : Int) < 3]) rfl (And.intro (by decide) trivial) ?_
  refine m_blk C0 (pX2_ok rfl) kX2_find_ok 5 5 (14, [some (.inr (.inr (66, 0))), some (.inr (.inr (5, 0))), some (.inl a2), some (.inl a3), some (.inl a4), none], [], (mup (mup σ 67 0 0 a2) 67 0 1 a3)) (Ps := [0 ≤ (1 : Int) ∧ (1 : Int) < 3]) rfl (And.intro (by decide) trivial) ?_
  refine m_blk C0 (pX2_ok rfl) kX2_find_ok 10 5 (22, [some (.inr (.inr (66, 0))), some (.inr (.inr (5, 0))), some (.inl a2), some (.inl a3), some (.inl a4), none], [], (mup (mup (mup σ 67 0 0 a2) 67 0 1 a3) 67 0 2 a4)) (Ps := [0 ≤ (2 : Int) ∧ (2 : Int) < 3]) rfl (And.intro (by decide) trivial) ?_
  refine m_blk C0 (pX2_ok rfl) kX2_find_ok 15 3 (27, [some (.inr (.inr (66, 0))), some (.inr (.inr (5, 0))), some (.inl a2), some (.inl a3), some (.inl a4), none], [], (mup (mup (mup (mup σ 67 0 0 a2) 67 0 1 a3) 67 0 2 a4) 66 0 1 1)) (Ps := [(1 : Int) = 0 ∨ (1 : Int) = 1]) rfl (And.intro (by decide) trivial) ?_
  refine m_blk C0 (pX2_ok rfl) kX2_find_ok 18 3 (32, [some (.inr (.inr (66, 0))), some (.inr (.inr (5, 0))), some (.inl a2), some (.inl a3), some (.inl a4), none], [], (mup (mup (mup (mup (mup σ 67 0 0 a2) 67 0 1 a3) 67 0 2 a4) 66 0 1 1) 66 0 0 0)) (Ps := []) rfl trivial ?_
  refine m_blk C0 (pX2_ok rfl) kX2_find_ok 21 2 (35, [some (.inr (.inr (66, 0))), some (.inr (.inr (5, 0))), some (.inl a2), some (.inl a3), some (.inl a4), some (.inl 0)], [], (mup (mup (mup (mup (mup σ 67 0 0 a2) 67 0 1 a3) 67 0 2 a4) 66 0 1 1) 66 0 0 0)) (Ps := []) rfl trivial ?_
  obtain ⟨s929, hq930, h⟩ := g_bind h
  refine m_mask [true, true, false, false, false, true] (ls' := [some (.inr (.inr (66, 0))), some (.inr (.inr (5, 0))), none, none, none, some (.inl 0)]) rfl ?_
  refine p_X2_find_35 hG N C0 hFr N _ _ _ hq930 ?_
  cases h
  exact m_vret C0 hFin (k_at kX2_find_ok 59 rfl)
set_option maxRecDepth 100000 in
set_option maxHeartbeats 4000000 in
theorem t_X11_images {e : mEv} (hG : mGeo (mw0 e) lw_kept) (l : Launch) (N : Nat) {a1 : Int} {a2 : Int} {a3 : Int} {σ σ' : mS} {v : Int} (h : f_X11_images N a1 a2 a3 σ = some (v, σ')) : mMet l (mw0 e) lw_kept 3 yX11_images cX11_images 4 (some .int) [.inr (.inr (0, 0)), .inl a1, .inl a2, .inl a3] σ (some (.inl v)) σ' := by
  refine mMet_intro (plainFor_of_name (by decide)) hG (Nat.le_of_ble_eq_true rfl) (fun f hl hR C0 hFin => ?_)
  subst hl
  have hFr := mFr_of hR hFin
  unfold f_X11_images at h
  show mWW f (mw0 e) sc0 4 (0, [some (.inr (.inr (0, 0))), some (.inl a1), some (.inl a2), some (.inl a3)], [], σ)
  refine m_blk C0 (pX11_ok rfl) kX11_images_ok 0 7 (11, [some (.inr (.inr (0, 0))), some (.inl a1), some (.inl a2), some (.inl a3)], [.inl a3, .inl a2, .inl a1, .inr (.inr (5, 0)), .inr (.inr (66, 0))], σ) (Ps := []) rfl trivial ?_
  obtain ⟨s931, hq932, h⟩ := g_bind h
  refine c_V (rest := []) C0 hFr (t_X2_find hG f.2.1 N hq932) lk_X11_222 (k_at kX11_images_ok 7 rfl) rfl rfl rfl rfl ⟨_, _, rfl⟩ (by decide) (by decide) (Nat.le_of_ble_eq_true rfl) ?_
  refine m_blk C0 (pX11_ok rfl) kX11_images_ok 8 3 (21, [some (.inr (.inr (0, 0))), some (.inl a1), some (.inl a2), some (.inl a3)], [.inl (s931 66 0 0)], s931) (Ps := []) rfl trivial ?_
  cases h
  exact m_iret C0 hFin (k_at kX11_images_ok 11 rfl) (Or.inl rfl)
set_option maxRecDepth 100000 in
set_option maxHeartbeats 4000000 in
theorem t_X2_tell {e : mEv} (hG : mGeo (mw0 e) lw_kept) (l : Launch) (N : Nat) {a1 : Int} {a2 : Int} {σ σ' : mS} {v : Int} (h : f_X2_tell N a1 a2 σ = some (v, σ')) : mMet l (mw0 e) lw_kept 0 yX2_tell cX2_tell 3 (some .int) [.inr (.inr (66, 0)), .inl a1, .inl a2] σ (some (.inl v)) σ' := by
  refine mMet_intro (plainFor_of_name (by decide)) hG (Nat.le_of_ble_eq_true rfl) (fun f hl hR C0 hFin => ?_)
  subst hl
  have hFr := mFr_of hR hFin
  unfold f_X2_tell at h
  show mWW f (mw0 e) sc0 3 (0, [some (.inr (.inr (66, 0))), some (.inl a1), some (.inl a2)], [], σ)
  refine m_blk C0 (pX2_ok rfl) kX2_tell_ok 0 1 (1, [some (.inr (.inr (66, 0))), some (.inl a1), some (.inl a2)], [.inl a1], σ) (Ps := []) rfl trivial ?_
  refine b_lt C0 kX2_tell_ok 1 (off := 31) (tgt := 32) rfl (by decide) (fun hb936 => ?_) (fun hb936 => ?_)
  · replace h := g_pos hb936 h
    refine m_blk C0 (pX2_ok rfl) kX2_tell_ok 18 1 (33, [some (.inr (.inr (66, 0))), some (.inl a1), some (.inl a2)], [.inl 0], σ) (Ps := []) rfl trivial ?_
    cases h
    exact m_iret C0 hFin (k_at kX2_tell_ok 19 rfl) (Or.inl rfl)
  · replace h := g_neg hb936 h
    refine m_blk C0 (pX2_ok rfl) kX2_tell_ok 2 3 (9, [some (.inr (.inr (66, 0))), some (.inl a1), some (.inl a2)], [.inl (σ 66 0 0), .inl a1], σ) (Ps := []) rfl trivial ?_
    refine b_ige C0 kX2_tell_ok 5 (off := 23) (tgt := 32) rfl (by decide) (fun hb935 => ?_) (fun hb935 => ?_)
    · replace h := g_pos hb935 h
      refine m_blk C0 (pX2_ok rfl) kX2_tell_ok 18 1 (33, [some (.inr (.inr (66, 0))), some (.inl a1), some (.inl a2)], [.inl 0], σ) (Ps := []) rfl trivial ?_
      cases h
      exact m_iret C0 hFin (k_at kX2_tell_ok 19 rfl) (Or.inl rfl)
    · replace h := g_neg hb935 h
      refine m_blk C0 (pX2_ok rfl) kX2_tell_ok 6 1 (13, [some (.inr (.inr (66, 0))), some (.inl a1), some (.inl a2)], [.inl a2], σ) (Ps := []) rfl trivial ?_
      refine b_lt C0 kX2_tell_ok 7 (off := 19) (tgt := 32) rfl (by decide) (fun hb934 => ?_) (fun hb934 => ?_)
      · replace h := g_pos hb934 h
        refine m_blk C0 (pX2_ok rfl) kX2_tell_ok 18 1 (33, [some (.inr (.inr (66, 0))), some (.inl a1), some (.inl a2)], [.inl 0], σ) (Ps := []) rfl trivial ?_
        cases h
        exact m_iret C0 hFin (k_at kX2_tell_ok 19 rfl) (Or.inl rfl)
      · replace h := g_neg hb934 h
        refine m_blk C0 (pX2_ok rfl) kX2_tell_ok 8 2 (18, [some (.inr (.inr (66, 0))), some (.inl a1), some (.inl a2)], [.inl 3, .inl a2], σ) (Ps := []) rfl trivial ?_
        refine b_ige C0 kX2_tell_ok 10 (off := 14) (tgt := 32) rfl (by decide) (fun hb933 => ?_) (fun hb933 => ?_)
        · replace h := g_pos hb933 h
          refine m_blk C0 (pX2_ok rfl) kX2_tell_ok 18 1 (33, [some (.inr (.inr (66, 0))), some (.inl a1), some (.inl a2)], [.inl 0], σ) (Ps := []) rfl trivial ?_
          cases h
          exact m_iret C0 hFin (k_at kX2_tell_ok 19 rfl) (Or.inl rfl)
        · replace h := g_neg hb933 h
          obtain ⟨hc, h⟩ := g_if h
          refine m_blk C0 (pX2_ok rfl) kX2_tell_ok 11 7 (33, [some (.inr (.inr (66, 0))), some (.inl a1), some (.inl a2)], [.inl (σ 69 a1.toNat a2.toNat)], σ) (Ps := [0 ≤ a1 ∧ a1 < 48, 0 ≤ a2 ∧ a2 < 3]) rfl (And.intro hc.1 (And.intro hc.2 trivial)) ?_
          cases h
          exact m_iret C0 hFin (k_at kX2_tell_ok 19 rfl) (Or.inl rfl)
set_option maxRecDepth 100000 in
set_option maxHeartbeats 4000000 in
theorem t_X11_image {e : mEv} (hG : mGeo (mw0 e) lw_kept) (l : Launch) (N : Nat) {a1 : Int} {a2 : Int} {σ σ' : mS} {v : Int} (h : f_X11_image N a1 a2 σ = some (v, σ')) : mMet l (mw0 e) lw_kept 1 yX11_image cX11_image 3 (some .int) [.inr (.inr (0, 0)), .inl a1, .inl a2] σ (some (.inl v)) σ' := by
  refine mMet_intro (plainFor_of_name (by decide)) hG (Nat.le_of_ble_eq_true rfl) (fun f hl hR C0 hFin => ?_)
  subst hl
  have hFr := mFr_of hR hFin
  unfold f_X11_image at h
  show mWW f (mw0 e) sc0 3 (0, [some (.inr (.inr (0, 0))), some (.inl a1), some (.inl a2)], [], σ)
  refine m_blk C0 (pX11_ok rfl) kX11_image_ok 0 4 (6, [some (.inr (.inr (0, 0))), some (.inl a1), some (.inl a2)], [.inl a2, .inl a1, .inr (.inr (66, 0))], σ) (Ps := []) rfl trivial ?_
  obtain ⟨⟨v938, s937⟩, hq939, h⟩ := g_bind h
  refine c_V (rest := []) C0 hFr (t_X2_tell hG f.2.1 N hq939) lk_X11_226 (k_at kX11_image_ok 4 rfl) rfl rfl rfl rfl ⟨_, _, rfl⟩ (by decide) (by decide) (Nat.le_of_ble_eq_true rfl) ?_
  cases h
  exact m_iret C0 hFin (k_at kX11_image_ok 5 rfl) (Or.inl rfl)
set_option maxRecDepth 100000 in
set_option maxHeartbeats 4000000 in
theorem p_X2_leastLeading_3 {e : mEv} (hG : mGeo (mw0 e) lw_kept) (N : Nat) {f : mFx} (C0 : mCx f (mw0 e) sc0 cX2_leastLeading 6 RX2 lw_kept) (hFr : mFr f 2) : ∀ (n : Nat) (x2 : Int) (x3 : Int) (x4 : Int) (x5 : Int) (σ : mS) (out : (Int × mS) ⊕ (mS)), L_X2_leastLeading_3 N n x2 x3 x4 x5 σ = some out → (∀ v s, out = .inl (v, s) → mFin f (mw0 e) (some .int) (some (.inl v)) s) → (∀  (s : mS), out = .inr s → mWW f (mw0 e) sc0 6 (50, [none, none, none, none, none, none], [], s)) → mWW f (mw0 e) sc0 6 (3, [some (.inr (.inr (66, 0))), some (.inr (.inr (5, 0))), some (.inl x2), some (.inl x3), some (.inl x4), some (.inl x5)], [], σ) := by
  intro n
  induction n with
  | zero =>
    intro x2 x3 x4 x5 σ out h hX hK
    cases h
  | succ n IH =>
    intro x2 x3 x4 x5 σ out h hX hK
    rw [L_X2_leastLeading_3_s] at h
    refine m_blk C0 (pX2_ok rfl) kX2_leastLeading_ok 2 2 (7, [some (.inr (.inr (66, 0))), some (.inr (.inr (5, 0))), some (.inl x2), some (.inl x3), some (.inl x4), some (.inl x5)], [.inl (σ 66 0 1)], σ) (Ps := []) rfl trivial ?_
    refine b_eq C0 kX2_leastLeading_ok 4 (off := 43) (tgt := 50) rfl (by decide) (fun hb947 => ?_) (fun hb947 => ?_)
    · replace h := g_pos hb947 h
      cases h
      refine m_mask [false, false, false, false, false, false] (ls' := [none, none, none, none, none, none]) rfl ?_
      exact hK _ rfl
    · replace h := g_neg hb947 h
      refine m_blk C0 (pX2_ok rfl) kX2_leastLeading_ok 5 3 (16, [some (.inr (.inr (66, 0))), some (.inr (.inr (5, 0))), some (.inl x2), some (.inl x3), some (.inl x4), some (.inl x5)], [.inl (σ 5 0 0), .inl x5], σ) (Ps := []) rfl trivial ?_
      refine b_ige C0 kX2_leastLeading_ok 8 (off := 34) (tgt := 50) rfl (by decide) (fun hb946 => ?_) (fun hb946 => ?_)
      · replace h := g_pos hb946 h
        cases h
        refine m_mask [false, false, false, false, false, false] (ls' := [none, none, none, none, none, none]) rfl ?_
        exact hK _ rfl
      · replace h := g_neg hb946 h
        obtain ⟨hc, h⟩ := g_if h
        refine m_blk C0 (pX2_ok rfl) kX2_leastLeading_ok 9 5 (27, [some (.inr (.inr (66, 0))), some (.inr (.inr (5, 0))), some (.inl x2), some (.inl x3), some (.inl x4), some (.inl x5)], [.inr (.inr (7, x5.toNat)), .inr (.inr (66, 0))], σ) (Ps := [0 ≤ x5 ∧ x5 < 48]) rfl (And.intro hc trivial) ?_
        obtain ⟨s940, hq945, h⟩ := g_bind h
        refine c_V (rest := []) C0 hFr (t_X2_lead_r7 hG f.2.1 N hq945) lk_X2_39 (k_at kX2_leastLeading_ok 14 rfl) rfl rfl rfl rfl ⟨_, _, rfl⟩ (by decide) (by decide) (Nat.le_of_ble_eq_true rfl) ?_
        refine m_blk C0 (pX2_ok rfl) kX2_leastLeading_ok 15 4 (35, [some (.inr (.inr (66, 0))), some (.inr (.inr (5, 0))), some (.inl x2), some (.inl x3), some (.inl x4), some (.inl x5)], [.inl x4, .inl x3, .inl x2, .inr (.inr (66, 0))], s940) (Ps := []) rfl trivial ?_
        obtain ⟨⟨v942, s941⟩, hq944, h⟩ := g_bind h
        refine c_V (rest := []) C0 hFr (t_X2_isLedTo hG f.2.1 N hq944) lk_X2_57 (k_at kX2_leastLeading_ok 19 rfl) rfl rfl rfl rfl ⟨_, _, rfl⟩ (by decide) (by decide) (Nat.le_of_ble_eq_true rfl) ?_
        refine b_eq C0 kX2_leastLeading_ok 20 (off := 6) (tgt := 44) rfl (by decide) (fun hb943 => ?_) (fun hb943 => ?_)
        · replace h := g_pos hb943 h
          refine m_blk C0 (pX2_ok rfl) kX2_leastLeading_ok 23 2 (3, [some (.inr (.inr (66, 0))), some (.inr (.inr (5, 0))), some (.inl x2), some (.inl x3), some (.inl x4), some (.inl (mw (x5 + 1)))], [], s941) (Ps := []) rfl trivial ?_
          refine m_mask [true, true, true, true, true, true] (ls' := [some (.inr (.inr (66, 0))), some (.inr (.inr (5, 0))), some (.inl x2), some (.inl x3), some (.inl x4), some (.inl (mw (x5 + 1)))]) rfl ?_
          exact IH _ _ _ _ _ _ h hX hK
        · replace h := g_neg hb943 h
          refine m_blk C0 (pX2_ok rfl) kX2_leastLeading_ok 21 1 (43, [some (.inr (.inr (66, 0))), some (.inr (.inr (5, 0))), some (.inl x2), some (.inl x3), some (.inl x4), some (.inl x5)], [.inl x5], s941) (Ps := []) rfl trivial ?_
          cases h
          exact m_iret C0 (hX _ _ rfl) (k_at kX2_leastLeading_ok 22 rfl) (Or.inl rfl)
set_option maxRecDepth 100000 in
set_option maxHeartbeats 4000000 in
theorem t_X2_leastLeading {e : mEv} (hG : mGeo (mw0 e) lw_kept) (l : Launch) (N : Nat) {a2 : Int} {a3 : Int} {a4 : Int} {σ σ' : mS} {v : Int} (h : f_X2_leastLeading N a2 a3 a4 σ = some (v, σ')) : mMet l (mw0 e) lw_kept 2 yX2_leastLeading cX2_leastLeading 6 (some .int) [.inr (.inr (66, 0)), .inr (.inr (5, 0)), .inl a2, .inl a3, .inl a4] σ (some (.inl v)) σ' := by
  refine mMet_intro (plainFor_of_name (by decide)) hG (Nat.le_of_ble_eq_true rfl) (fun f hl hR C0 hFin => ?_)
  subst hl
  have hFr := mFr_of hR hFin
  unfold f_X2_leastLeading at h
  show mWW f (mw0 e) sc0 6 (0, [some (.inr (.inr (66, 0))), some (.inr (.inr (5, 0))), some (.inl a2), some (.inl a3), some (.inl a4), none], [], σ)
  refine m_blk C0 (pX2_ok rfl) kX2_leastLeading_ok 0 2 (3, [some (.inr (.inr (66, 0))), some (.inr (.inr (5, 0))), some (.inl a2), some (.inl a3), some (.inl a4), some (.inl 0)], [], σ) (Ps := []) rfl trivial ?_
  obtain ⟨o, hq949, h⟩ := g_bind h
  refine m_mask [true, true, true, true, true, true] (ls' := [some (.inr (.inr (66, 0))), some (.inr (.inr (5, 0))), some (.inl a2), some (.inl a3), some (.inl a4), some (.inl 0)]) rfl ?_
  rcases o with ⟨v950, s951⟩ | s948
  · cases h
    exact p_X2_leastLeading_3 hG N C0 hFr N _ _ _ _ _ _ hq949 (fun v s e => by cases e; exact hFin) (fun _ e => by cases e)
  · refine p_X2_leastLeading_3 hG N C0 hFr N _ _ _ _ _ _ hq949 (fun v s e => by cases e) (fun _ e => ?_)
    cases e
    refine m_blk C0 (pX2_ok rfl) kX2_leastLeading_ok 25 1 (51, [none, none, none, none, none, none], [.inl (-1)], s948) (Ps := []) rfl trivial ?_
    cases h
    exact m_iret C0 hFin (k_at kX2_leastLeading_ok 26 rfl) (Or.inl rfl)
set_option maxRecDepth 100000 in
set_option maxHeartbeats 4000000 in
theorem t_X11_leads {e : mEv} (hG : mGeo (mw0 e) lw_kept) (l : Launch) (N : Nat) {a1 : Int} {a2 : Int} {a3 : Int} {σ σ' : mS} {v : Int} (h : f_X11_leads N a1 a2 a3 σ = some (v, σ')) : mMet l (mw0 e) lw_kept 3 yX11_leads cX11_leads 4 (some .int) [.inr (.inr (0, 0)), .inl a1, .inl a2, .inl a3] σ (some (.inl v)) σ' := by
  refine mMet_intro (plainFor_of_name (by decide)) hG (Nat.le_of_ble_eq_true rfl) (fun f hl hR C0 hFin => ?_)
  subst hl
  have hFr := mFr_of hR hFin
  unfold f_X11_leads at h
  show mWW f (mw0 e) sc0 4 (0, [some (.inr (.inr (0, 0))), some (.inl a1), some (.inl a2), some (.inl a3)], [], σ)
  refine m_blk C0 (pX11_ok rfl) kX11_leads_ok 0 7 (11, [some (.inr (.inr (0, 0))), some (.inl a1), some (.inl a2), some (.inl a3)], [.inl a3, .inl a2, .inl a1, .inr (.inr (5, 0)), .inr (.inr (66, 0))], σ) (Ps := []) rfl trivial ?_
  obtain ⟨⟨v953, s952⟩, hq954, h⟩ := g_bind h
  refine c_V (rest := []) C0 hFr (t_X2_leastLeading hG f.2.1 N hq954) lk_X11_227 (k_at kX11_leads_ok 7 rfl) rfl rfl rfl rfl ⟨_, _, rfl⟩ (by decide) (by decide) (Nat.le_of_ble_eq_true rfl) ?_
  cases h
  exact m_iret C0 hFin (k_at kX11_leads_ok 8 rfl) (Or.inl rfl)
set_option maxRecDepth 100000 in
set_option maxHeartbeats 4000000 in
theorem t_X12_isCode {e : mEv} (hG : mGeo (mw0 e) lw_kept) (l : Launch) (N : Nat) {a0 : Int} {σ σ' : mS} {v : Int} (h : f_X12_isCode N a0 σ = some (v, σ')) : mMet l (mw0 e) lw_kept 0 yX12_isCode cX12_isCode 1 (some .boolean) [.inl a0] σ (some (.inl v)) σ' := by
  refine mMet_intro (plainFor_of_name (by decide)) hG (Nat.le_of_ble_eq_true rfl) (fun f hl hR C0 hFin => ?_)
  subst hl
  have hFr := mFr_of hR hFin
  unfold f_X12_isCode at h
  show mWW f (mw0 e) sc0 1 (0, [some (.inl a0)], [], σ)
  refine m_blk C0 (pX12_ok rfl) kX12_isCode_ok 0 2 (3, [some (.inl a0)], [.inl (-3), .inl a0], σ) (Ps := []) rfl trivial ?_
  refine b_ilt C0 kX12_isCode_ok 2 (off := 16) (tgt := 19) rfl (by decide) (fun hb957 => ?_) (fun hb957 => ?_)
  · replace h := g_pos hb957 h
    refine m_blk C0 (pX12_ok rfl) kX12_isCode_ok 10 1 (20, [some (.inl a0)], [.inl 0], σ) (Ps := []) rfl trivial ?_
    cases h
    exact m_iret C0 hFin (k_at kX12_isCode_ok 11 rfl) (Or.inr ⟨rfl, by decide⟩)
  · replace h := g_neg hb957 h
    refine m_blk C0 (pX12_ok rfl) kX12_isCode_ok 3 2 (8, [some (.inl a0)], [.inl 3, .inl a0], σ) (Ps := []) rfl trivial ?_
    refine b_igt C0 kX12_isCode_ok 5 (off := 11) (tgt := 19) rfl (by decide) (fun hb956 => ?_) (fun hb956 => ?_)
    · replace h := g_pos hb956 h
      refine m_blk C0 (pX12_ok rfl) kX12_isCode_ok 10 1 (20, [some (.inl a0)], [.inl 0], σ) (Ps := []) rfl trivial ?_
      cases h
      exact m_iret C0 hFin (k_at kX12_isCode_ok 11 rfl) (Or.inr ⟨rfl, by decide⟩)
    · replace h := g_neg hb956 h
      refine m_blk C0 (pX12_ok rfl) kX12_isCode_ok 6 1 (12, [some (.inl a0)], [.inl a0], σ) (Ps := []) rfl trivial ?_
      refine b_eq C0 kX12_isCode_ok 7 (off := 7) (tgt := 19) rfl (by decide) (fun hb955 => ?_) (fun hb955 => ?_)
      · replace h := g_pos hb955 h
        refine m_blk C0 (pX12_ok rfl) kX12_isCode_ok 10 1 (20, [some (.inl a0)], [.inl 0], σ) (Ps := []) rfl trivial ?_
        cases h
        exact m_iret C0 hFin (k_at kX12_isCode_ok 11 rfl) (Or.inr ⟨rfl, by decide⟩)
      · replace h := g_neg hb955 h
        refine m_blk C0 (pX12_ok rfl) kX12_isCode_ok 8 2 (20, [some (.inl a0)], [.inl 1], σ) (Ps := []) rfl trivial ?_
        cases h
        exact m_iret C0 hFin (k_at kX12_isCode_ok 11 rfl) (Or.inr ⟨rfl, by decide⟩)
set_option maxRecDepth 100000 in
set_option maxHeartbeats 4000000 in
theorem t_X12_isIn {e : mEv} (hG : mGeo (mw0 e) lw_kept) (l : Launch) (N : Nat) {a0 : Int} {a1 : Int} {a2 : Int} {σ σ' : mS} {v : Int} (h : f_X12_isIn N a0 a1 a2 σ = some (v, σ')) : mMet l (mw0 e) lw_kept 0 yX12_isIn cX12_isIn 3 (some .boolean) [.inl a0, .inl a1, .inl a2] σ (some (.inl v)) σ' := by
  refine mMet_intro (plainFor_of_name (by decide)) hG (Nat.le_of_ble_eq_true rfl) (fun f hl hR C0 hFin => ?_)
  subst hl
  have hFr := mFr_of hR hFin
  unfold f_X12_isIn at h
  show mWW f (mw0 e) sc0 3 (0, [some (.inl a0), some (.inl a1), some (.inl a2)], [], σ)
  refine m_blk C0 (pX12_ok rfl) kX12_isIn_ok 0 2 (2, [some (.inl a0), some (.inl a1), some (.inl a2)], [.inl a1, .inl a0], σ) (Ps := []) rfl trivial ?_
  refine b_ilt C0 kX12_isIn_ok 2 (off := 12) (tgt := 14) rfl (by decide) (fun hb961 => ?_) (fun hb961 => ?_)
  · replace h := g_pos hb961 h
    refine m_blk C0 (pX12_ok rfl) kX12_isIn_ok 8 1 (15, [some (.inl a0), some (.inl a1), some (.inl a2)], [.inl 0], σ) (Ps := []) rfl trivial ?_
    cases h
    exact m_iret C0 hFin (k_at kX12_isIn_ok 9 rfl) (Or.inr ⟨rfl, by decide⟩)
  · replace h := g_neg hb961 h
    refine m_blk C0 (pX12_ok rfl) kX12_isIn_ok 3 2 (7, [some (.inl a0), some (.inl a1), some (.inl a2)], [.inl a2, .inl a0], σ) (Ps := []) rfl trivial ?_
    refine b_igt C0 kX12_isIn_ok 5 (off := 7) (tgt := 14) rfl (by decide) (fun hb960 => ?_) (fun hb960 => ?_)
    · replace h := g_pos hb960 h
      refine m_blk C0 (pX12_ok rfl) kX12_isIn_ok 8 1 (15, [some (.inl a0), some (.inl a1), some (.inl a2)], [.inl 0], σ) (Ps := []) rfl trivial ?_
      cases h
      exact m_iret C0 hFin (k_at kX12_isIn_ok 9 rfl) (Or.inr ⟨rfl, by decide⟩)
    · replace h := g_neg hb960 h
      refine m_blk C0 (pX12_ok rfl) kX12_isIn_ok 6 2 (15, [some (.inl a0), some (.inl a1), some (.inl a2)], [.inl 1], σ) (Ps := []) rfl trivial ?_
      cases h
      exact m_iret C0 hFin (k_at kX12_isIn_ok 9 rfl) (Or.inr ⟨rfl, by decide⟩)
set_option maxRecDepth 100000 in
set_option maxHeartbeats 4000000 in
theorem t_X12_size {e : mEv} (hG : mGeo (mw0 e) lw_kept) (l : Launch) (N : Nat) {a0 : Int} {σ σ' : mS} {v : Int} (h : f_X12_size N a0 σ = some (v, σ')) : mMet l (mw0 e) lw_kept 0 yX12_size cX12_size 1 (some .int) [.inl a0] σ (some (.inl v)) σ' := by
  refine mMet_intro (plainFor_of_name (by decide)) hG (Nat.le_of_ble_eq_true rfl) (fun f hl hR C0 hFin => ?_)
  subst hl
  have hFr := mFr_of hR hFin
  unfold f_X12_size at h
  show mWW f (mw0 e) sc0 1 (0, [some (.inl a0)], [], σ)
  refine m_blk C0 (pX12_ok rfl) kX12_size_ok 0 1 (1, [some (.inl a0)], [.inl a0], σ) (Ps := []) rfl trivial ?_
  refine b_ge C0 kX12_size_ok 1 (off := 8) (tgt := 9) rfl (by decide) (fun hb981 => ?_) (fun hb981 => ?_)
  · replace h := g_pos hb981 h
    refine m_blk C0 (pX12_ok rfl) kX12_size_ok 5 1 (10, [some (.inl a0)], [.inl a0], σ) (Ps := []) rfl trivial ?_
    cases h
    exact m_iret C0 hFin (k_at kX12_size_ok 6 rfl) (Or.inl rfl)
  · replace h := g_neg hb981 h
    refine m_blk C0 (pX12_ok rfl) kX12_size_ok 2 3 (10, [some (.inl a0)], [.inl (mw (-a0))], σ) (Ps := []) rfl trivial ?_
    cases h
    exact m_iret C0 hFin (k_at kX12_size_ok 6 rfl) (Or.inl rfl)
set_option maxRecDepth 100000 in
set_option maxHeartbeats 4000000 in
theorem t_X12_turn {e : mEv} (hG : mGeo (mw0 e) lw_kept) (l : Launch) (N : Nat) {a1 : Int} {a2 : Int} {a3 : Int} {a4 : Int} {σ σ' : mS} {v : Int} (h : f_X12_turn N a1 a2 a3 a4 σ = some (v, σ')) : mMet l (mw0 e) lw_kept 1 yX12_turn cX12_turn 6 (some .boolean) [.inr (.inr (71, 0)), .inl a1, .inl a2, .inl a3, .inl a4] σ (some (.inl v)) σ' := by
  refine mMet_intro (plainFor_of_name (by decide)) hG (Nat.le_of_ble_eq_true rfl) (fun f hl hR C0 hFin => ?_)
  subst hl
  have hFr := mFr_of hR hFin
  unfold f_X12_turn at h
  show mWW f (mw0 e) sc0 6 (0, [some (.inr (.inr (71, 0))), some (.inl a1), some (.inl a2), some (.inl a3), some (.inl a4), none], [], σ)
  refine m_blk C0 (pX12_ok rfl) kX12_turn_ok 0 1 (1, [some (.inr (.inr (71, 0))), some (.inl a1), some (.inl a2), some (.inl a3), some (.inl a4), none], [.inl a2], σ) (Ps := []) rfl trivial ?_
  obtain ⟨⟨v959, s958⟩, hq1028, h⟩ := g_bind h
  refine c_S (rest := []) C0 hFr (t_X12_isCode hG f.2.1 N hq1028) lk_X12_102 (k_at kX12_turn_ok 1 rfl) rfl rfl rfl (by decide) (by decide) (Nat.le_of_ble_eq_true rfl) ?_
  refine b_eq C0 kX12_turn_ok 2 (off := 57) (tgt := 61) rfl (by decide) (fun hb1027 => ?_) (fun hb1027 => ?_)
  · replace h := g_pos hb1027 h
    refine m_blk C0 (pX12_ok rfl) kX12_turn_ok 26 5 (67, [some (.inr (.inr (71, 0))), some (.inl a1), some (.inl a2), some (.inl a3), some (.inl a4), some (.inl 0)], [.inl 3, .inl 0, .inl a1], s958) (Ps := []) rfl trivial ?_
    obtain ⟨⟨v963, s962⟩, hq966, h⟩ := g_bind h
    refine c_S (rest := []) C0 hFr (t_X12_isIn hG f.2.1 N hq966) lk_X12_110 (k_at kX12_turn_ok 31 rfl) rfl rfl rfl (by decide) (by decide) (Nat.le_of_ble_eq_true rfl) ?_
    refine b_eq C0 kX12_turn_ok 32 (off := 8) (tgt := 78) rfl (by decide) (fun hb965 => ?_) (fun hb965 => ?_)
    · replace h := g_pos hb965 h
      refine m_blk C0 (pX12_ok rfl) kX12_turn_ok 35 1 (79, [some (.inr (.inr (71, 0))), some (.inl a1), some (.inl a2), some (.inl a3), some (.inl a4), some (.inl 0)], [.inl 0], s962) (Ps := []) rfl trivial ?_
      cases h
      exact m_iret C0 hFin (k_at kX12_turn_ok 36 rfl) (Or.inr ⟨rfl, by decide⟩)
    · replace h := g_neg hb965 h
      refine m_blk C0 (pX12_ok rfl) kX12_turn_ok 33 1 (75, [some (.inr (.inr (71, 0))), some (.inl a1), some (.inl a2), some (.inl a3), some (.inl a4), some (.inl 0)], [.inl 0], s962) (Ps := []) rfl trivial ?_
      refine b_ne C0 kX12_turn_ok 34 (off := 5) (tgt := 80) rfl (by decide) (fun hb964 => ?_) (fun hb964 => ?_)
      · replace h := g_neg hb964 h
        obtain ⟨hc, h⟩ := g_if h
        refine m_blk C0 (pX12_ok rfl) kX12_turn_ok 37 5 (87, [some (.inr (.inr (71, 0))), some (.inl a1), some (.inl a2), some (.inl a3), some (.inl a4), some (.inl 0)], [], (mup s962 72 0 a1.toNat 1)) (Ps := [0 ≤ a1 ∧ a1 < 4, (1 : Int) = 0 ∨ (1 : Int) = 1]) rfl (And.intro hc.1 (And.intro (by decide) trivial)) ?_
        refine m_blk C0 (pX12_ok rfl) kX12_turn_ok 42 7 (96, [some (.inr (.inr (71, 0))), some (.inl a1), some (.inl a2), some (.inl a3), some (.inl a4), some (.inl 0)], [], (mup (mup s962 72 0 a1.toNat 1) 73 0 ((mw ((3 : Int) * a1)).toNat) a2)) (Ps := [0 ≤ (mw ((3 : Int) * a1)) ∧ (mw ((3 : Int) * a1)) < 12]) rfl (And.intro hc.2.1 trivial) ?_
        refine m_blk C0 (pX12_ok rfl) kX12_turn_ok 49 9 (107, [some (.inr (.inr (71, 0))), some (.inl a1), some (.inl a2), some (.inl a3), some (.inl a4), some (.inl 0)], [], (mup (mup (mup s962 72 0 a1.toNat 1) 73 0 ((mw ((3 : Int) * a1)).toNat) a2) 73 0 ((mw ((mw ((3 : Int) * a1)) + 1)).toNat) a3)) (Ps := [0 ≤ (mw ((mw ((3 : Int) * a1)) + 1)) ∧ (mw ((mw ((3 : Int) * a1)) + 1)) < 12]) rfl (And.intro hc.2.2.1 trivial) ?_
        refine m_blk C0 (pX12_ok rfl) kX12_turn_ok 58 9 (119, [some (.inr (.inr (71, 0))), some (.inl a1), some (.inl a2), some (.inl a3), some (.inl a4), some (.inl 0)], [], (mup (mup (mup (mup s962 72 0 a1.toNat 1) 73 0 ((mw ((3 : Int) * a1)).toNat) a2) 73 0 ((mw ((mw ((3 : Int) * a1)) + 1)).toNat) a3) 73 0 ((mw ((mw ((3 : Int) * a1)) + 2)).toNat) a4)) (Ps := [0 ≤ (mw ((mw ((3 : Int) * a1)) + 2)) ∧ (mw ((mw ((3 : Int) * a1)) + 2)) < 12]) rfl (And.intro hc.2.2.2 trivial) ?_
        refine m_blk C0 (pX12_ok rfl) kX12_turn_ok 67 1 (120, [some (.inr (.inr (71, 0))), some (.inl a1), some (.inl a2), some (.inl a3), some (.inl a4), some (.inl 0)], [.inl 1], (mup (mup (mup (mup s962 72 0 a1.toNat 1) 73 0 ((mw ((3 : Int) * a1)).toNat) a2) 73 0 ((mw ((mw ((3 : Int) * a1)) + 1)).toNat) a3) 73 0 ((mw ((mw ((3 : Int) * a1)) + 2)).toNat) a4)) (Ps := []) rfl trivial ?_
        cases h
        exact m_iret C0 hFin (k_at kX12_turn_ok 68 rfl) (Or.inr ⟨rfl, by decide⟩)
      · replace h := g_pos hb964 h
        refine m_blk C0 (pX12_ok rfl) kX12_turn_ok 35 1 (79, [some (.inr (.inr (71, 0))), some (.inl a1), some (.inl a2), some (.inl a3), some (.inl a4), some (.inl 0)], [.inl 0], s962) (Ps := []) rfl trivial ?_
        cases h
        exact m_iret C0 hFin (k_at kX12_turn_ok 36 rfl) (Or.inr ⟨rfl, by decide⟩)
  · replace h := g_neg hb1027 h
    refine m_blk C0 (pX12_ok rfl) kX12_turn_ok 3 1 (8, [some (.inr (.inr (71, 0))), some (.inl a1), some (.inl a2), some (.inl a3), some (.inl a4), none], [.inl a3], s958) (Ps := []) rfl trivial ?_
    obtain ⟨⟨v968, s967⟩, hq1026, h⟩ := g_bind h
    refine c_S (rest := []) C0 hFr (t_X12_isCode hG f.2.1 N hq1026) lk_X12_102 (k_at kX12_turn_ok 4 rfl) rfl rfl rfl (by decide) (by decide) (Nat.le_of_ble_eq_true rfl) ?_
    refine b_eq C0 kX12_turn_ok 5 (off := 50) (tgt := 61) rfl (by decide) (fun hb1025 => ?_) (fun hb1025 => ?_)
    · replace h := g_pos hb1025 h
      refine m_blk C0 (pX12_ok rfl) kX12_turn_ok 26 5 (67, [some (.inr (.inr (71, 0))), some (.inl a1), some (.inl a2), some (.inl a3), some (.inl a4), some (.inl 0)], [.inl 3, .inl 0, .inl a1], s967) (Ps := []) rfl trivial ?_
      obtain ⟨⟨v970, s969⟩, hq973, h⟩ := g_bind h
      refine c_S (rest := []) C0 hFr (t_X12_isIn hG f.2.1 N hq973) lk_X12_110 (k_at kX12_turn_ok 31 rfl) rfl rfl rfl (by decide) (by decide) (Nat.le_of_ble_eq_true rfl) ?_
      refine b_eq C0 kX12_turn_ok 32 (off := 8) (tgt := 78) rfl (by decide) (fun hb972 => ?_) (fun hb972 => ?_)
      · replace h := g_pos hb972 h
        refine m_blk C0 (pX12_ok rfl) kX12_turn_ok 35 1 (79, [some (.inr (.inr (71, 0))), some (.inl a1), some (.inl a2), some (.inl a3), some (.inl a4), some (.inl 0)], [.inl 0], s969) (Ps := []) rfl trivial ?_
        cases h
        exact m_iret C0 hFin (k_at kX12_turn_ok 36 rfl) (Or.inr ⟨rfl, by decide⟩)
      · replace h := g_neg hb972 h
        refine m_blk C0 (pX12_ok rfl) kX12_turn_ok 33 1 (75, [some (.inr (.inr (71, 0))), some (.inl a1), some (.inl a2), some (.inl a3), some (.inl a4), some (.inl 0)], [.inl 0], s969) (Ps := []) rfl trivial ?_
        refine b_ne C0 kX12_turn_ok 34 (off := 5) (tgt := 80) rfl (by decide) (fun hb971 => ?_) (fun hb971 => ?_)
        · replace h := g_neg hb971 h
          obtain ⟨hc, h⟩ := g_if h
          refine m_blk C0 (pX12_ok rfl) kX12_turn_ok 37 5 (87, [some (.inr (.inr (71, 0))), some (.inl a1), some (.inl a2), some (.inl a3), some (.inl a4), some (.inl 0)], [], (mup s969 72 0 a1.toNat 1)) (Ps := [0 ≤ a1 ∧ a1 < 4, (1 : Int) = 0 ∨ (1 : Int) = 1]) rfl (And.intro hc.1 (And.intro (by decide) trivial)) ?_
          refine m_blk C0 (pX12_ok rfl) kX12_turn_ok 42 7 (96, [some (.inr (.inr (71, 0))), some (.inl a1), some (.inl a2), some (.inl a3), some (.inl a4), some (.inl 0)], [], (mup (mup s969 72 0 a1.toNat 1) 73 0 ((mw ((3 : Int) * a1)).toNat) a2)) (Ps := [0 ≤ (mw ((3 : Int) * a1)) ∧ (mw ((3 : Int) * a1)) < 12]) rfl (And.intro hc.2.1 trivial) ?_
          refine m_blk C0 (pX12_ok rfl) kX12_turn_ok 49 9 (107, [some (.inr (.inr (71, 0))), some (.inl a1), some (.inl a2), some (.inl a3), some (.inl a4), some (.inl 0)], [], (mup (mup (mup s969 72 0 a1.toNat 1) 73 0 ((mw ((3 : Int) * a1)).toNat) a2) 73 0 ((mw ((mw ((3 : Int) * a1)) + 1)).toNat) a3)) (Ps := [0 ≤ (mw ((mw ((3 : Int) * a1)) + 1)) ∧ (mw ((mw ((3 : Int) * a1)) + 1)) < 12]) rfl (And.intro hc.2.2.1 trivial) ?_
          refine m_blk C0 (pX12_ok rfl) kX12_turn_ok 58 9 (119, [some (.inr (.inr (71, 0))), some (.inl a1), some (.inl a2), some (.inl a3), some (.inl a4), some (.inl 0)], [], (mup (mup (mup (mup s969 72 0 a1.toNat 1) 73 0 ((mw ((3 : Int) * a1)).toNat) a2) 73 0 ((mw ((mw ((3 : Int) * a1)) + 1)).toNat) a3) 73 0 ((mw ((mw ((3 : Int) * a1)) + 2)).toNat) a4)) (Ps := [0 ≤ (mw ((mw ((3 : Int) * a1)) + 2)) ∧ (mw ((mw ((3 : Int) * a1)) + 2)) < 12]) rfl (And.intro hc.2.2.2 trivial) ?_
          refine m_blk C0 (pX12_ok rfl) kX12_turn_ok 67 1 (120, [some (.inr (.inr (71, 0))), some (.inl a1), some (.inl a2), some (.inl a3), some (.inl a4), some (.inl 0)], [.inl 1], (mup (mup (mup (mup s969 72 0 a1.toNat 1) 73 0 ((mw ((3 : Int) * a1)).toNat) a2) 73 0 ((mw ((mw ((3 : Int) * a1)) + 1)).toNat) a3) 73 0 ((mw ((mw ((3 : Int) * a1)) + 2)).toNat) a4)) (Ps := []) rfl trivial ?_
          cases h
          exact m_iret C0 hFin (k_at kX12_turn_ok 68 rfl) (Or.inr ⟨rfl, by decide⟩)
        · replace h := g_pos hb971 h
          refine m_blk C0 (pX12_ok rfl) kX12_turn_ok 35 1 (79, [some (.inr (.inr (71, 0))), some (.inl a1), some (.inl a2), some (.inl a3), some (.inl a4), some (.inl 0)], [.inl 0], s969) (Ps := []) rfl trivial ?_
          cases h
          exact m_iret C0 hFin (k_at kX12_turn_ok 36 rfl) (Or.inr ⟨rfl, by decide⟩)
    · replace h := g_neg hb1025 h
      refine m_blk C0 (pX12_ok rfl) kX12_turn_ok 6 1 (16, [some (.inr (.inr (71, 0))), some (.inl a1), some (.inl a2), some (.inl a3), some (.inl a4), none], [.inl a4], s967) (Ps := []) rfl trivial ?_
      obtain ⟨⟨v975, s974⟩, hq1024, h⟩ := g_bind h
      refine c_S (rest := []) C0 hFr (t_X12_isCode hG f.2.1 N hq1024) lk_X12_102 (k_at kX12_turn_ok 7 rfl) rfl rfl rfl (by decide) (by decide) (Nat.le_of_ble_eq_true rfl) ?_
      refine b_eq C0 kX12_turn_ok 8 (off := 42) (tgt := 61) rfl (by decide) (fun hb1023 => ?_) (fun hb1023 => ?_)
      · replace h := g_pos hb1023 h
        refine m_blk C0 (pX12_ok rfl) kX12_turn_ok 26 5 (67, [some (.inr (.inr (71, 0))), some (.inl a1), some (.inl a2), some (.inl a3), some (.inl a4), some (.inl 0)], [.inl 3, .inl 0, .inl a1], s974) (Ps := []) rfl trivial ?_
        obtain ⟨⟨v977, s976⟩, hq980, h⟩ := g_bind h
        refine c_S (rest := []) C0 hFr (t_X12_isIn hG f.2.1 N hq980) lk_X12_110 (k_at kX12_turn_ok 31 rfl) rfl rfl rfl (by decide) (by decide) (Nat.le_of_ble_eq_true rfl) ?_
        refine b_eq C0 kX12_turn_ok 32 (off := 8) (tgt := 78) rfl (by decide) (fun hb979 => ?_) (fun hb979 => ?_)
        · replace h := g_pos hb979 h
          refine m_blk C0 (pX12_ok rfl) kX12_turn_ok 35 1 (79, [some (.inr (.inr (71, 0))), some (.inl a1), some (.inl a2), some (.inl a3), some (.inl a4), some (.inl 0)], [.inl 0], s976) (Ps := []) rfl trivial ?_
          cases h
          exact m_iret C0 hFin (k_at kX12_turn_ok 36 rfl) (Or.inr ⟨rfl, by decide⟩)
        · replace h := g_neg hb979 h
          refine m_blk C0 (pX12_ok rfl) kX12_turn_ok 33 1 (75, [some (.inr (.inr (71, 0))), some (.inl a1), some (.inl a2), some (.inl a3), some (.inl a4), some (.inl 0)], [.inl 0], s976) (Ps := []) rfl trivial ?_
          refine b_ne C0 kX12_turn_ok 34 (off := 5) (tgt := 80) rfl (by decide) (fun hb978 => ?_) (fun hb978 => ?_)
          · replace h := g_neg hb978 h
            obtain ⟨hc, h⟩ := g_if h
            refine m_blk C0 (pX12_ok rfl) kX12_turn_ok 37 5 (87, [some (.inr (.inr (71, 0))), some (.inl a1), some (.inl a2), some (.inl a3), some (.inl a4), some (.inl 0)], [], (mup s976 72 0 a1.toNat 1)) (Ps := [0 ≤ a1 ∧ a1 < 4, (1 : Int) = 0 ∨ (1 : Int) = 1]) rfl (And.intro hc.1 (And.intro (by decide) trivial)) ?_
            refine m_blk C0 (pX12_ok rfl) kX12_turn_ok 42 7 (96, [some (.inr (.inr (71, 0))), some (.inl a1), some (.inl a2), some (.inl a3), some (.inl a4), some (.inl 0)], [], (mup (mup s976 72 0 a1.toNat 1) 73 0 ((mw ((3 : Int) * a1)).toNat) a2)) (Ps := [0 ≤ (mw ((3 : Int) * a1)) ∧ (mw ((3 : Int) * a1)) < 12]) rfl (And.intro hc.2.1 trivial) ?_
            refine m_blk C0 (pX12_ok rfl) kX12_turn_ok 49 9 (107, [some (.inr (.inr (71, 0))), some (.inl a1), some (.inl a2), some (.inl a3), some (.inl a4), some (.inl 0)], [], (mup (mup (mup s976 72 0 a1.toNat 1) 73 0 ((mw ((3 : Int) * a1)).toNat) a2) 73 0 ((mw ((mw ((3 : Int) * a1)) + 1)).toNat) a3)) (Ps := [0 ≤ (mw ((mw ((3 : Int) * a1)) + 1)) ∧ (mw ((mw ((3 : Int) * a1)) + 1)) < 12]) rfl (And.intro hc.2.2.1 trivial) ?_
            refine m_blk C0 (pX12_ok rfl) kX12_turn_ok 58 9 (119, [some (.inr (.inr (71, 0))), some (.inl a1), some (.inl a2), some (.inl a3), some (.inl a4), some (.inl 0)], [], (mup (mup (mup (mup s976 72 0 a1.toNat 1) 73 0 ((mw ((3 : Int) * a1)).toNat) a2) 73 0 ((mw ((mw ((3 : Int) * a1)) + 1)).toNat) a3) 73 0 ((mw ((mw ((3 : Int) * a1)) + 2)).toNat) a4)) (Ps := [0 ≤ (mw ((mw ((3 : Int) * a1)) + 2)) ∧ (mw ((mw ((3 : Int) * a1)) + 2)) < 12]) rfl (And.intro hc.2.2.2 trivial) ?_
            refine m_blk C0 (pX12_ok rfl) kX12_turn_ok 67 1 (120, [some (.inr (.inr (71, 0))), some (.inl a1), some (.inl a2), some (.inl a3), some (.inl a4), some (.inl 0)], [.inl 1], (mup (mup (mup (mup s976 72 0 a1.toNat 1) 73 0 ((mw ((3 : Int) * a1)).toNat) a2) 73 0 ((mw ((mw ((3 : Int) * a1)) + 1)).toNat) a3) 73 0 ((mw ((mw ((3 : Int) * a1)) + 2)).toNat) a4)) (Ps := []) rfl trivial ?_
            cases h
            exact m_iret C0 hFin (k_at kX12_turn_ok 68 rfl) (Or.inr ⟨rfl, by decide⟩)
          · replace h := g_pos hb978 h
            refine m_blk C0 (pX12_ok rfl) kX12_turn_ok 35 1 (79, [some (.inr (.inr (71, 0))), some (.inl a1), some (.inl a2), some (.inl a3), some (.inl a4), some (.inl 0)], [.inl 0], s976) (Ps := []) rfl trivial ?_
            cases h
            exact m_iret C0 hFin (k_at kX12_turn_ok 36 rfl) (Or.inr ⟨rfl, by decide⟩)
      · replace h := g_neg hb1023 h
        refine m_blk C0 (pX12_ok rfl) kX12_turn_ok 9 1 (23, [some (.inr (.inr (71, 0))), some (.inl a1), some (.inl a2), some (.inl a3), some (.inl a4), none], [.inl a2], s974) (Ps := []) rfl trivial ?_
        obtain ⟨⟨v983, s982⟩, hq1022, h⟩ := g_bind h
        refine c_S (rest := []) C0 hFr (t_X12_size hG f.2.1 N hq1022) lk_X12_106 (k_at kX12_turn_ok 10 rfl) rfl rfl rfl (by decide) (by decide) (Nat.le_of_ble_eq_true rfl) ?_
        refine m_blk C0 (pX12_ok rfl) kX12_turn_ok 11 1 (27, [some (.inr (.inr (71, 0))), some (.inl a1), some (.inl a2), some (.inl a3), some (.inl a4), none], [.inl a3, .inl v983], s982) (Ps := []) rfl trivial ?_
        obtain ⟨⟨v985, s984⟩, hq1021, h⟩ := g_bind h
        refine c_S (rest := [.inl v983]) C0 hFr (t_X12_size hG f.2.1 N hq1021) lk_X12_106 (k_at kX12_turn_ok 12 rfl) rfl rfl rfl (by decide) (by decide) (Nat.le_of_ble_eq_true rfl) ?_
        refine b_ieq C0 kX12_turn_ok 13 (off := 31) (tgt := 61) rfl (by decide) (fun hb1020 => ?_) (fun hb1020 => ?_)
        · replace h := g_pos hb1020 h
          refine m_blk C0 (pX12_ok rfl) kX12_turn_ok 26 5 (67, [some (.inr (.inr (71, 0))), some (.inl a1), some (.inl a2), some (.inl a3), some (.inl a4), some (.inl 0)], [.inl 3, .inl 0, .inl a1], s984) (Ps := []) rfl trivial ?_
          obtain ⟨⟨v987, s986⟩, hq990, h⟩ := g_bind h
          refine c_S (rest := []) C0 hFr (t_X12_isIn hG f.2.1 N hq990) lk_X12_110 (k_at kX12_turn_ok 31 rfl) rfl rfl rfl (by decide) (by decide) (Nat.le_of_ble_eq_true rfl) ?_
          refine b_eq C0 kX12_turn_ok 32 (off := 8) (tgt := 78) rfl (by decide) (fun hb989 => ?_) (fun hb989 => ?_)
          · replace h := g_pos hb989 h
            refine m_blk C0 (pX12_ok rfl) kX12_turn_ok 35 1 (79, [some (.inr (.inr (71, 0))), some (.inl a1), some (.inl a2), some (.inl a3), some (.inl a4), some (.inl 0)], [.inl 0], s986) (Ps := []) rfl trivial ?_
            cases h
            exact m_iret C0 hFin (k_at kX12_turn_ok 36 rfl) (Or.inr ⟨rfl, by decide⟩)
          · replace h := g_neg hb989 h
            refine m_blk C0 (pX12_ok rfl) kX12_turn_ok 33 1 (75, [some (.inr (.inr (71, 0))), some (.inl a1), some (.inl a2), some (.inl a3), some (.inl a4), some (.inl 0)], [.inl 0], s986) (Ps := []) rfl trivial ?_
            refine b_ne C0 kX12_turn_ok 34 (off := 5) (tgt := 80) rfl (by decide) (fun hb988 => ?_) (fun hb988 => ?_)
            · replace h := g_neg hb988 h
              obtain ⟨hc, h⟩ := g_if h
              refine m_blk C0 (pX12_ok rfl) kX12_turn_ok 37 5 (87, [some (.inr (.inr (71, 0))), some (.inl a1), some (.inl a2), some (.inl a3), some (.inl a4), some (.inl 0)], [], (mup s986 72 0 a1.toNat 1)) (Ps := [0 ≤ a1 ∧ a1 < 4, (1 : Int) = 0 ∨ (1 : Int) = 1]) rfl (And.intro hc.1 (And.intro (by decide) trivial)) ?_
              refine m_blk C0 (pX12_ok rfl) kX12_turn_ok 42 7 (96, [some (.inr (.inr (71, 0))), some (.inl a1), some (.inl a2), some (.inl a3), some (.inl a4), some (.inl 0)], [], (mup (mup s986 72 0 a1.toNat 1) 73 0 ((mw ((3 : Int) * a1)).toNat) a2)) (Ps := [0 ≤ (mw ((3 : Int) * a1)) ∧ (mw ((3 : Int) * a1)) < 12]) rfl (And.intro hc.2.1 trivial) ?_
              refine m_blk C0 (pX12_ok rfl) kX12_turn_ok 49 9 (107, [some (.inr (.inr (71, 0))), some (.inl a1), some (.inl a2), some (.inl a3), some (.inl a4), some (.inl 0)], [], (mup (mup (mup s986 72 0 a1.toNat 1) 73 0 ((mw ((3 : Int) * a1)).toNat) a2) 73 0 ((mw ((mw ((3 : Int) * a1)) + 1)).toNat) a3)) (Ps := [0 ≤ (mw ((mw ((3 : Int) * a1)) + 1)) ∧ (mw ((mw ((3 : Int) * a1)) + 1)) < 12]) rfl (And.intro hc.2.2.1 trivial) ?_
              refine m_blk C0 (pX12_ok rfl) kX12_turn_ok 58 9 (119, [some (.inr (.inr (71, 0))), some (.inl a1), some (.inl a2), some (.inl a3), some (.inl a4), some (.inl 0)], [], (mup (mup (mup (mup s986 72 0 a1.toNat 1) 73 0 ((mw ((3 : Int) * a1)).toNat) a2) 73 0 ((mw ((mw ((3 : Int) * a1)) + 1)).toNat) a3) 73 0 ((mw ((mw ((3 : Int) * a1)) + 2)).toNat) a4)) (Ps := [0 ≤ (mw ((mw ((3 : Int) * a1)) + 2)) ∧ (mw ((mw ((3 : Int) * a1)) + 2)) < 12]) rfl (And.intro hc.2.2.2 trivial) ?_
              refine m_blk C0 (pX12_ok rfl) kX12_turn_ok 67 1 (120, [some (.inr (.inr (71, 0))), some (.inl a1), some (.inl a2), some (.inl a3), some (.inl a4), some (.inl 0)], [.inl 1], (mup (mup (mup (mup s986 72 0 a1.toNat 1) 73 0 ((mw ((3 : Int) * a1)).toNat) a2) 73 0 ((mw ((mw ((3 : Int) * a1)) + 1)).toNat) a3) 73 0 ((mw ((mw ((3 : Int) * a1)) + 2)).toNat) a4)) (Ps := []) rfl trivial ?_
              cases h
              exact m_iret C0 hFin (k_at kX12_turn_ok 68 rfl) (Or.inr ⟨rfl, by decide⟩)
            · replace h := g_pos hb988 h
              refine m_blk C0 (pX12_ok rfl) kX12_turn_ok 35 1 (79, [some (.inr (.inr (71, 0))), some (.inl a1), some (.inl a2), some (.inl a3), some (.inl a4), some (.inl 0)], [.inl 0], s986) (Ps := []) rfl trivial ?_
              cases h
              exact m_iret C0 hFin (k_at kX12_turn_ok 36 rfl) (Or.inr ⟨rfl, by decide⟩)
        · replace h := g_neg hb1020 h
          refine m_blk C0 (pX12_ok rfl) kX12_turn_ok 14 1 (34, [some (.inr (.inr (71, 0))), some (.inl a1), some (.inl a2), some (.inl a3), some (.inl a4), none], [.inl a3], s984) (Ps := []) rfl trivial ?_
          obtain ⟨⟨v992, s991⟩, hq1019, h⟩ := g_bind h
          refine c_S (rest := []) C0 hFr (t_X12_size hG f.2.1 N hq1019) lk_X12_106 (k_at kX12_turn_ok 15 rfl) rfl rfl rfl (by decide) (by decide) (Nat.le_of_ble_eq_true rfl) ?_
          refine m_blk C0 (pX12_ok rfl) kX12_turn_ok 16 1 (39, [some (.inr (.inr (71, 0))), some (.inl a1), some (.inl a2), some (.inl a3), some (.inl a4), none], [.inl a4, .inl v992], s991) (Ps := []) rfl trivial ?_
          obtain ⟨⟨v994, s993⟩, hq1018, h⟩ := g_bind h
          refine c_S (rest := [.inl v992]) C0 hFr (t_X12_size hG f.2.1 N hq1018) lk_X12_106 (k_at kX12_turn_ok 17 rfl) rfl rfl rfl (by decide) (by decide) (Nat.le_of_ble_eq_true rfl) ?_
          refine b_ieq C0 kX12_turn_ok 18 (off := 19) (tgt := 61) rfl (by decide) (fun hb1017 => ?_) (fun hb1017 => ?_)
          · replace h := g_pos hb1017 h
            refine m_blk C0 (pX12_ok rfl) kX12_turn_ok 26 5 (67, [some (.inr (.inr (71, 0))), some (.inl a1), some (.inl a2), some (.inl a3), some (.inl a4), some (.inl 0)], [.inl 3, .inl 0, .inl a1], s993) (Ps := []) rfl trivial ?_
            obtain ⟨⟨v996, s995⟩, hq999, h⟩ := g_bind h
            refine c_S (rest := []) C0 hFr (t_X12_isIn hG f.2.1 N hq999) lk_X12_110 (k_at kX12_turn_ok 31 rfl) rfl rfl rfl (by decide) (by decide) (Nat.le_of_ble_eq_true rfl) ?_
            refine b_eq C0 kX12_turn_ok 32 (off := 8) (tgt := 78) rfl (by decide) (fun hb998 => ?_) (fun hb998 => ?_)
            · replace h := g_pos hb998 h
              refine m_blk C0 (pX12_ok rfl) kX12_turn_ok 35 1 (79, [some (.inr (.inr (71, 0))), some (.inl a1), some (.inl a2), some (.inl a3), some (.inl a4), some (.inl 0)], [.inl 0], s995) (Ps := []) rfl trivial ?_
              cases h
              exact m_iret C0 hFin (k_at kX12_turn_ok 36 rfl) (Or.inr ⟨rfl, by decide⟩)
            · replace h := g_neg hb998 h
              refine m_blk C0 (pX12_ok rfl) kX12_turn_ok 33 1 (75, [some (.inr (.inr (71, 0))), some (.inl a1), some (.inl a2), some (.inl a3), some (.inl a4), some (.inl 0)], [.inl 0], s995) (Ps := []) rfl trivial ?_
              refine b_ne C0 kX12_turn_ok 34 (off := 5) (tgt := 80) rfl (by decide) (fun hb997 => ?_) (fun hb997 => ?_)
              · replace h := g_neg hb997 h
                obtain ⟨hc, h⟩ := g_if h
                refine m_blk C0 (pX12_ok rfl) kX12_turn_ok 37 5 (87, [some (.inr (.inr (71, 0))), some (.inl a1), some (.inl a2), some (.inl a3), some (.inl a4), some (.inl 0)], [], (mup s995 72 0 a1.toNat 1)) (Ps := [0 ≤ a1 ∧ a1 < 4, (1 : Int) = 0 ∨ (1 : Int) = 1]) rfl (And.intro hc.1 (And.intro (by decide) trivial)) ?_
                refine m_blk C0 (pX12_ok rfl) kX12_turn_ok 42 7 (96, [some (.inr (.inr (71, 0))), some (.inl a1), some (.inl a2), some (.inl a3), some (.inl a4), some (.inl 0)], [], (mup (mup s995 72 0 a1.toNat 1) 73 0 ((mw ((3 : Int) * a1)).toNat) a2)) (Ps := [0 ≤ (mw ((3 : Int) * a1)) ∧ (mw ((3 : Int) * a1)) < 12]) rfl (And.intro hc.2.1 trivial) ?_
                refine m_blk C0 (pX12_ok rfl) kX12_turn_ok 49 9 (107, [some (.inr (.inr (71, 0))), some (.inl a1), some (.inl a2), some (.inl a3), some (.inl a4), some (.inl 0)], [], (mup (mup (mup s995 72 0 a1.toNat 1) 73 0 ((mw ((3 : Int) * a1)).toNat) a2) 73 0 ((mw ((mw ((3 : Int) * a1)) + 1)).toNat) a3)) (Ps := [0 ≤ (mw ((mw ((3 : Int) * a1)) + 1)) ∧ (mw ((mw ((3 : Int) * a1)) + 1)) < 12]) rfl (And.intro hc.2.2.1 trivial) ?_
                refine m_blk C0 (pX12_ok rfl) kX12_turn_ok 58 9 (119, [some (.inr (.inr (71, 0))), some (.inl a1), some (.inl a2), some (.inl a3), some (.inl a4), some (.inl 0)], [], (mup (mup (mup (mup s995 72 0 a1.toNat 1) 73 0 ((mw ((3 : Int) * a1)).toNat) a2) 73 0 ((mw ((mw ((3 : Int) * a1)) + 1)).toNat) a3) 73 0 ((mw ((mw ((3 : Int) * a1)) + 2)).toNat) a4)) (Ps := [0 ≤ (mw ((mw ((3 : Int) * a1)) + 2)) ∧ (mw ((mw ((3 : Int) * a1)) + 2)) < 12]) rfl (And.intro hc.2.2.2 trivial) ?_
                refine m_blk C0 (pX12_ok rfl) kX12_turn_ok 67 1 (120, [some (.inr (.inr (71, 0))), some (.inl a1), some (.inl a2), some (.inl a3), some (.inl a4), some (.inl 0)], [.inl 1], (mup (mup (mup (mup s995 72 0 a1.toNat 1) 73 0 ((mw ((3 : Int) * a1)).toNat) a2) 73 0 ((mw ((mw ((3 : Int) * a1)) + 1)).toNat) a3) 73 0 ((mw ((mw ((3 : Int) * a1)) + 2)).toNat) a4)) (Ps := []) rfl trivial ?_
                cases h
                exact m_iret C0 hFin (k_at kX12_turn_ok 68 rfl) (Or.inr ⟨rfl, by decide⟩)
              · replace h := g_pos hb997 h
                refine m_blk C0 (pX12_ok rfl) kX12_turn_ok 35 1 (79, [some (.inr (.inr (71, 0))), some (.inl a1), some (.inl a2), some (.inl a3), some (.inl a4), some (.inl 0)], [.inl 0], s995) (Ps := []) rfl trivial ?_
                cases h
                exact m_iret C0 hFin (k_at kX12_turn_ok 36 rfl) (Or.inr ⟨rfl, by decide⟩)
          · replace h := g_neg hb1017 h
            refine m_blk C0 (pX12_ok rfl) kX12_turn_ok 19 1 (46, [some (.inr (.inr (71, 0))), some (.inl a1), some (.inl a2), some (.inl a3), some (.inl a4), none], [.inl a2], s993) (Ps := []) rfl trivial ?_
            obtain ⟨⟨v1001, s1000⟩, hq1016, h⟩ := g_bind h
            refine c_S (rest := []) C0 hFr (t_X12_size hG f.2.1 N hq1016) lk_X12_106 (k_at kX12_turn_ok 20 rfl) rfl rfl rfl (by decide) (by decide) (Nat.le_of_ble_eq_true rfl) ?_
            refine m_blk C0 (pX12_ok rfl) kX12_turn_ok 21 1 (51, [some (.inr (.inr (71, 0))), some (.inl a1), some (.inl a2), some (.inl a3), some (.inl a4), none], [.inl a4, .inl v1001], s1000) (Ps := []) rfl trivial ?_
            obtain ⟨⟨v1003, s1002⟩, hq1015, h⟩ := g_bind h
            refine c_S (rest := [.inl v1001]) C0 hFr (t_X12_size hG f.2.1 N hq1015) lk_X12_106 (k_at kX12_turn_ok 22 rfl) rfl rfl rfl (by decide) (by decide) (Nat.le_of_ble_eq_true rfl) ?_
            refine b_ieq C0 kX12_turn_ok 23 (off := 7) (tgt := 61) rfl (by decide) (fun hb1014 => ?_) (fun hb1014 => ?_)
            · replace h := g_pos hb1014 h
              refine m_blk C0 (pX12_ok rfl) kX12_turn_ok 26 5 (67, [some (.inr (.inr (71, 0))), some (.inl a1), some (.inl a2), some (.inl a3), some (.inl a4), some (.inl 0)], [.inl 3, .inl 0, .inl a1], s1002) (Ps := []) rfl trivial ?_
              obtain ⟨⟨v1005, s1004⟩, hq1008, h⟩ := g_bind h
              refine c_S (rest := []) C0 hFr (t_X12_isIn hG f.2.1 N hq1008) lk_X12_110 (k_at kX12_turn_ok 31 rfl) rfl rfl rfl (by decide) (by decide) (Nat.le_of_ble_eq_true rfl) ?_
              refine b_eq C0 kX12_turn_ok 32 (off := 8) (tgt := 78) rfl (by decide) (fun hb1007 => ?_) (fun hb1007 => ?_)
              · replace h := g_pos hb1007 h
                refine m_blk C0 (pX12_ok rfl) kX12_turn_ok 35 1 (79, [some (.inr (.inr (71, 0))), some (.inl a1), some (.inl a2), some (.inl a3), some (.inl a4), some (.inl 0)], [.inl 0], s1004) (Ps := []) rfl trivial ?_
                cases h
                exact m_iret C0 hFin (k_at kX12_turn_ok 36 rfl) (Or.inr ⟨rfl, by decide⟩)
              · replace h := g_neg hb1007 h
                refine m_blk C0 (pX12_ok rfl) kX12_turn_ok 33 1 (75, [some (.inr (.inr (71, 0))), some (.inl a1), some (.inl a2), some (.inl a3), some (.inl a4), some (.inl 0)], [.inl 0], s1004) (Ps := []) rfl trivial ?_
                refine b_ne C0 kX12_turn_ok 34 (off := 5) (tgt := 80) rfl (by decide) (fun hb1006 => ?_) (fun hb1006 => ?_)
                · replace h := g_neg hb1006 h
                  obtain ⟨hc, h⟩ := g_if h
                  refine m_blk C0 (pX12_ok rfl) kX12_turn_ok 37 5 (87, [some (.inr (.inr (71, 0))), some (.inl a1), some (.inl a2), some (.inl a3), some (.inl a4), some (.inl 0)], [], (mup s1004 72 0 a1.toNat 1)) (Ps := [0 ≤ a1 ∧ a1 < 4, (1 : Int) = 0 ∨ (1 : Int) = 1]) rfl (And.intro hc.1 (And.intro (by decide) trivial)) ?_
                  refine m_blk C0 (pX12_ok rfl) kX12_turn_ok 42 7 (96, [some (.inr (.inr (71, 0))), some (.inl a1), some (.inl a2), some (.inl a3), some (.inl a4), some (.inl 0)], [], (mup (mup s1004 72 0 a1.toNat 1) 73 0 ((mw ((3 : Int) * a1)).toNat) a2)) (Ps := [0 ≤ (mw ((3 : Int) * a1)) ∧ (mw ((3 : Int) * a1)) < 12]) rfl (And.intro hc.2.1 trivial) ?_
                  refine m_blk C0 (pX12_ok rfl) kX12_turn_ok 49 9 (107, [some (.inr (.inr (71, 0))), some (.inl a1), some (.inl a2), some (.inl a3), some (.inl a4), some (.inl 0)], [], (mup (mup (mup s1004 72 0 a1.toNat 1) 73 0 ((mw ((3 : Int) * a1)).toNat) a2) 73 0 ((mw ((mw ((3 : Int) * a1)) + 1)).toNat) a3)) (Ps := [0 ≤ (mw ((mw ((3 : Int) * a1)) + 1)) ∧ (mw ((mw ((3 : Int) * a1)) + 1)) < 12]) rfl (And.intro hc.2.2.1 trivial) ?_
                  refine m_blk C0 (pX12_ok rfl) kX12_turn_ok 58 9 (119, [some (.inr (.inr (71, 0))), some (.inl a1), some (.inl a2), some (.inl a3), some (.inl a4), some (.inl 0)], [], (mup (mup (mup (mup s1004 72 0 a1.toNat 1) 73 0 ((mw ((3 : Int) * a1)).toNat) a2) 73 0 ((mw ((mw ((3 : Int) * a1)) + 1)).toNat) a3) 73 0 ((mw ((mw ((3 : Int) * a1)) + 2)).toNat) a4)) (Ps := [0 ≤ (mw ((mw ((3 : Int) * a1)) + 2)) ∧ (mw ((mw ((3 : Int) * a1)) + 2)) < 12]) rfl (And.intro hc.2.2.2 trivial) ?_
                  refine m_blk C0 (pX12_ok rfl) kX12_turn_ok 67 1 (120, [some (.inr (.inr (71, 0))), some (.inl a1), some (.inl a2), some (.inl a3), some (.inl a4), some (.inl 0)], [.inl 1], (mup (mup (mup (mup s1004 72 0 a1.toNat 1) 73 0 ((mw ((3 : Int) * a1)).toNat) a2) 73 0 ((mw ((mw ((3 : Int) * a1)) + 1)).toNat) a3) 73 0 ((mw ((mw ((3 : Int) * a1)) + 2)).toNat) a4)) (Ps := []) rfl trivial ?_
                  cases h
                  exact m_iret C0 hFin (k_at kX12_turn_ok 68 rfl) (Or.inr ⟨rfl, by decide⟩)
                · replace h := g_pos hb1006 h
                  refine m_blk C0 (pX12_ok rfl) kX12_turn_ok 35 1 (79, [some (.inr (.inr (71, 0))), some (.inl a1), some (.inl a2), some (.inl a3), some (.inl a4), some (.inl 0)], [.inl 0], s1004) (Ps := []) rfl trivial ?_
                  cases h
                  exact m_iret C0 hFin (k_at kX12_turn_ok 36 rfl) (Or.inr ⟨rfl, by decide⟩)
            · replace h := g_neg hb1014 h
              refine m_blk C0 (pX12_ok rfl) kX12_turn_ok 24 2 (62, [some (.inr (.inr (71, 0))), some (.inl a1), some (.inl a2), some (.inl a3), some (.inl a4), none], [.inl 1], s1002) (Ps := []) rfl trivial ?_
              refine m_blk C0 (pX12_ok rfl) kX12_turn_ok 27 4 (67, [some (.inr (.inr (71, 0))), some (.inl a1), some (.inl a2), some (.inl a3), some (.inl a4), some (.inl 1)], [.inl 3, .inl 0, .inl a1], s1002) (Ps := []) rfl trivial ?_
              obtain ⟨⟨v1010, s1009⟩, hq1013, h⟩ := g_bind h
              refine c_S (rest := []) C0 hFr (t_X12_isIn hG f.2.1 N hq1013) lk_X12_110 (k_at kX12_turn_ok 31 rfl) rfl rfl rfl (by decide) (by decide) (Nat.le_of_ble_eq_true rfl) ?_
              refine b_eq C0 kX12_turn_ok 32 (off := 8) (tgt := 78) rfl (by decide) (fun hb1012 => ?_) (fun hb1012 => ?_)
              · replace h := g_pos hb1012 h
                refine m_blk C0 (pX12_ok rfl) kX12_turn_ok 35 1 (79, [some (.inr (.inr (71, 0))), some (.inl a1), some (.inl a2), some (.inl a3), some (.inl a4), some (.inl 1)], [.inl 0], s1009) (Ps := []) rfl trivial ?_
                cases h
                exact m_iret C0 hFin (k_at kX12_turn_ok 36 rfl) (Or.inr ⟨rfl, by decide⟩)
              · replace h := g_neg hb1012 h
                refine m_blk C0 (pX12_ok rfl) kX12_turn_ok 33 1 (75, [some (.inr (.inr (71, 0))), some (.inl a1), some (.inl a2), some (.inl a3), some (.inl a4), some (.inl 1)], [.inl 1], s1009) (Ps := []) rfl trivial ?_
                refine b_ne C0 kX12_turn_ok 34 (off := 5) (tgt := 80) rfl (by decide) (fun hb1011 => ?_) (fun hb1011 => ?_)
                · replace h := g_neg hb1011 h
                  obtain ⟨hc, h⟩ := g_if h
                  refine m_blk C0 (pX12_ok rfl) kX12_turn_ok 37 5 (87, [some (.inr (.inr (71, 0))), some (.inl a1), some (.inl a2), some (.inl a3), some (.inl a4), some (.inl 1)], [], (mup s1009 72 0 a1.toNat 1)) (Ps := [0 ≤ a1 ∧ a1 < 4, (1 : Int) = 0 ∨ (1 : Int) = 1]) rfl (And.intro hc.1 (And.intro (by decide) trivial)) ?_
                  refine m_blk C0 (pX12_ok rfl) kX12_turn_ok 42 7 (96, [some (.inr (.inr (71, 0))), some (.inl a1), some (.inl a2), some (.inl a3), some (.inl a4), some (.inl 1)], [], (mup (mup s1009 72 0 a1.toNat 1) 73 0 ((mw ((3 : Int) * a1)).toNat) a2)) (Ps := [0 ≤ (mw ((3 : Int) * a1)) ∧ (mw ((3 : Int) * a1)) < 12]) rfl (And.intro hc.2.1 trivial) ?_
                  refine m_blk C0 (pX12_ok rfl) kX12_turn_ok 49 9 (107, [some (.inr (.inr (71, 0))), some (.inl a1), some (.inl a2), some (.inl a3), some (.inl a4), some (.inl 1)], [], (mup (mup (mup s1009 72 0 a1.toNat 1) 73 0 ((mw ((3 : Int) * a1)).toNat) a2) 73 0 ((mw ((mw ((3 : Int) * a1)) + 1)).toNat) a3)) (Ps := [0 ≤ (mw ((mw ((3 : Int) * a1)) + 1)) ∧ (mw ((mw ((3 : Int) * a1)) + 1)) < 12]) rfl (And.intro hc.2.2.1 trivial) ?_
                  refine m_blk C0 (pX12_ok rfl) kX12_turn_ok 58 9 (119, [some (.inr (.inr (71, 0))), some (.inl a1), some (.inl a2), some (.inl a3), some (.inl a4), some (.inl 1)], [], (mup (mup (mup (mup s1009 72 0 a1.toNat 1) 73 0 ((mw ((3 : Int) * a1)).toNat) a2) 73 0 ((mw ((mw ((3 : Int) * a1)) + 1)).toNat) a3) 73 0 ((mw ((mw ((3 : Int) * a1)) + 2)).toNat) a4)) (Ps := [0 ≤ (mw ((mw ((3 : Int) * a1)) + 2)) ∧ (mw ((mw ((3 : Int) * a1)) + 2)) < 12]) rfl (And.intro hc.2.2.2 trivial) ?_
                  refine m_blk C0 (pX12_ok rfl) kX12_turn_ok 67 1 (120, [some (.inr (.inr (71, 0))), some (.inl a1), some (.inl a2), some (.inl a3), some (.inl a4), some (.inl 1)], [.inl 1], (mup (mup (mup (mup s1009 72 0 a1.toNat 1) 73 0 ((mw ((3 : Int) * a1)).toNat) a2) 73 0 ((mw ((mw ((3 : Int) * a1)) + 1)).toNat) a3) 73 0 ((mw ((mw ((3 : Int) * a1)) + 2)).toNat) a4)) (Ps := []) rfl trivial ?_
                  cases h
                  exact m_iret C0 hFin (k_at kX12_turn_ok 68 rfl) (Or.inr ⟨rfl, by decide⟩)
                · replace h := g_pos hb1011 h
                  refine m_blk C0 (pX12_ok rfl) kX12_turn_ok 35 1 (79, [some (.inr (.inr (71, 0))), some (.inl a1), some (.inl a2), some (.inl a3), some (.inl a4), some (.inl 1)], [.inl 0], s1009) (Ps := []) rfl trivial ?_
                  cases h
                  exact m_iret C0 hFin (k_at kX12_turn_ok 36 rfl) (Or.inr ⟨rfl, by decide⟩)
