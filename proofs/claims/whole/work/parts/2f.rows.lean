set_option maxRecDepth 100000 in
set_option maxHeartbeats 4000000 in
theorem t_X7_are {e : mEv} (hG : mGeo (mw0 e) lw_kept) (l : Launch) (N : Nat) {a0 : Int} {a1 : Int} {a2 : Int} {σ σ' : mS} {v : Int} (h : f_X7_are N a0 a1 a2 σ = some (v, σ')) : mMet l (mw0 e) lw_kept 0 yX7_are cX7_are 3 (some .boolean) [.inl a0, .inl a1, .inl a2] σ (some (.inl v)) σ' := by
  refine mMet_intro (plainFor_of_name (by decide)) hG (Nat.le_of_ble_eq_true rfl) (fun f hl hR C0 hFin => ?_)
  subst hl
  have hFr := mFr_of hR hFin
  unfold f_X7_are at h
  show mWW f (mw0 e) sc0 3 (0, [some (.inl a0), some (.inl a1), some (.inl a2)], [], σ)
  refine m_blk C0 (pX7_ok rfl) kX7_are_ok 0 1 (1, [some (.inl a0), some (.inl a1), some (.inl a2)], [.inl a0], σ) (Ps := []) rfl trivial ?_
  refine b_lt C0 kX7_are_ok 1 (off := 29) (tgt := 30) rfl (by decide) (fun hb506 => ?_) (fun hb506 => ?_)
  · replace h := g_pos hb506 h
    refine m_blk C0 (pX7_ok rfl) kX7_are_ok 15 1 (31, [some (.inl a0), some (.inl a1), some (.inl a2)], [.inl 0], σ) (Ps := []) rfl trivial ?_
    cases h
    exact m_iret C0 hFin (k_at kX7_are_ok 16 rfl) (Or.inr ⟨rfl, by decide⟩)
  · replace h := g_neg hb506 h
    refine m_blk C0 (pX7_ok rfl) kX7_are_ok 2 2 (7, [some (.inl a0), some (.inl a1), some (.inl a2)], [.inl 8, .inl a0], σ) (Ps := []) rfl trivial ?_
    refine b_igt C0 kX7_are_ok 4 (off := 23) (tgt := 30) rfl (by decide) (fun hb505 => ?_) (fun hb505 => ?_)
    · replace h := g_pos hb505 h
      refine m_blk C0 (pX7_ok rfl) kX7_are_ok 15 1 (31, [some (.inl a0), some (.inl a1), some (.inl a2)], [.inl 0], σ) (Ps := []) rfl trivial ?_
      cases h
      exact m_iret C0 hFin (k_at kX7_are_ok 16 rfl) (Or.inr ⟨rfl, by decide⟩)
    · replace h := g_neg hb505 h
      refine m_blk C0 (pX7_ok rfl) kX7_are_ok 5 1 (11, [some (.inl a0), some (.inl a1), some (.inl a2)], [.inl a1], σ) (Ps := []) rfl trivial ?_
      refine b_lt C0 kX7_are_ok 6 (off := 19) (tgt := 30) rfl (by decide) (fun hb504 => ?_) (fun hb504 => ?_)
      · replace h := g_pos hb504 h
        refine m_blk C0 (pX7_ok rfl) kX7_are_ok 15 1 (31, [some (.inl a0), some (.inl a1), some (.inl a2)], [.inl 0], σ) (Ps := []) rfl trivial ?_
        cases h
        exact m_iret C0 hFin (k_at kX7_are_ok 16 rfl) (Or.inr ⟨rfl, by decide⟩)
      · replace h := g_neg hb504 h
        refine m_blk C0 (pX7_ok rfl) kX7_are_ok 7 2 (17, [some (.inl a0), some (.inl a1), some (.inl a2)], [.inl 8, .inl a1], σ) (Ps := []) rfl trivial ?_
        refine b_igt C0 kX7_are_ok 9 (off := 13) (tgt := 30) rfl (by decide) (fun hb503 => ?_) (fun hb503 => ?_)
        · replace h := g_pos hb503 h
          refine m_blk C0 (pX7_ok rfl) kX7_are_ok 15 1 (31, [some (.inl a0), some (.inl a1), some (.inl a2)], [.inl 0], σ) (Ps := []) rfl trivial ?_
          cases h
          exact m_iret C0 hFin (k_at kX7_are_ok 16 rfl) (Or.inr ⟨rfl, by decide⟩)
        · replace h := g_neg hb503 h
          refine m_blk C0 (pX7_ok rfl) kX7_are_ok 10 1 (21, [some (.inl a0), some (.inl a1), some (.inl a2)], [.inl a2], σ) (Ps := []) rfl trivial ?_
          refine b_lt C0 kX7_are_ok 11 (off := 9) (tgt := 30) rfl (by decide) (fun hb502 => ?_) (fun hb502 => ?_)
          · replace h := g_pos hb502 h
            refine m_blk C0 (pX7_ok rfl) kX7_are_ok 15 1 (31, [some (.inl a0), some (.inl a1), some (.inl a2)], [.inl 0], σ) (Ps := []) rfl trivial ?_
            cases h
            exact m_iret C0 hFin (k_at kX7_are_ok 16 rfl) (Or.inr ⟨rfl, by decide⟩)
          · replace h := g_neg hb502 h
            refine m_blk C0 (pX7_ok rfl) kX7_are_ok 12 2 (27, [some (.inl a0), some (.inl a1), some (.inl a2)], [.inl 8, .inl a2], σ) (Ps := []) rfl trivial ?_
            refine b_ile C0 kX7_are_ok 14 (off := 5) (tgt := 32) rfl (by decide) (fun hb501 => ?_) (fun hb501 => ?_)
            · replace h := g_pos hb501 h
              refine m_blk C0 (pX7_ok rfl) kX7_are_ok 17 6 (39, [some (.inl a0), some (.inl a1), some (.inl a2)], [.inl 8, .inl (mw ((mw (a0 + a1)) + a2))], σ) (Ps := []) rfl trivial ?_
              refine b_igt C0 kX7_are_ok 23 (off := 7) (tgt := 46) rfl (by decide) (fun hb500 => ?_) (fun hb500 => ?_)
              · replace h := g_pos hb500 h
                refine m_blk C0 (pX7_ok rfl) kX7_are_ok 26 1 (47, [some (.inl a0), some (.inl a1), some (.inl a2)], [.inl 0], σ) (Ps := []) rfl trivial ?_
                cases h
                exact m_iret C0 hFin (k_at kX7_are_ok 27 rfl) (Or.inr ⟨rfl, by decide⟩)
              · replace h := g_neg hb500 h
                refine m_blk C0 (pX7_ok rfl) kX7_are_ok 24 2 (47, [some (.inl a0), some (.inl a1), some (.inl a2)], [.inl 1], σ) (Ps := []) rfl trivial ?_
                cases h
                exact m_iret C0 hFin (k_at kX7_are_ok 27 rfl) (Or.inr ⟨rfl, by decide⟩)
            · replace h := g_neg hb501 h
              refine m_blk C0 (pX7_ok rfl) kX7_are_ok 15 1 (31, [some (.inl a0), some (.inl a1), some (.inl a2)], [.inl 0], σ) (Ps := []) rfl trivial ?_
              cases h
              exact m_iret C0 hFin (k_at kX7_are_ok 16 rfl) (Or.inr ⟨rfl, by decide⟩)
set_option maxRecDepth 100000 in
set_option maxHeartbeats 4000000 in
theorem t_X11_put {e : mEv} (hG : mGeo (mw0 e) lw_kept) (l : Launch) (N : Nat) {a1 : Int} {a2 : Int} {a3 : Int} {a4 : Int} {a5 : Int} {σ σ' : mS} {v : Int} (h : f_X11_put N a1 a2 a3 a4 a5 σ = some (v, σ')) : mMet l (mw0 e) lw_kept 2 yX11_put cX11_put 6 (some .boolean) [.inr (.inr (0, 0)), .inl a1, .inl a2, .inl a3, .inl a4, .inl a5] σ (some (.inl v)) σ' := by
  refine mMet_intro (plainFor_of_name (by decide)) hG (Nat.le_of_ble_eq_true rfl) (fun f hl hR C0 hFin => ?_)
  subst hl
  have hFr := mFr_of hR hFin
  unfold f_X11_put at h
  show mWW f (mw0 e) sc0 6 (0, [some (.inr (.inr (0, 0))), some (.inl a1), some (.inl a2), some (.inl a3), some (.inl a4), some (.inl a5)], [], σ)
  refine m_blk C0 (pX11_ok rfl) kX11_put_ok 0 3 (5, [some (.inr (.inr (0, 0))), some (.inl a1), some (.inl a2), some (.inl a3), some (.inl a4), some (.inl a5)], [.inl a1, .inr (.inr (31, 0))], σ) (Ps := []) rfl trivial ?_
  obtain ⟨⟨v499, s498⟩, hq518, h⟩ := g_bind h
  refine c_V (rest := []) C0 hFr (t_X6_has hG f.2.1 N hq518) lk_X11_146 (k_at kX11_put_ok 3 rfl) rfl rfl rfl rfl ⟨_, _, rfl⟩ (by decide) (by decide) (Nat.le_of_ble_eq_true rfl) ?_
  refine b_eq C0 kX11_put_ok 4 (off := 13) (tgt := 21) rfl (by decide) (fun hb517 => ?_) (fun hb517 => ?_)
  · replace h := g_pos hb517 h
    refine m_blk C0 (pX11_ok rfl) kX11_put_ok 10 1 (22, [some (.inr (.inr (0, 0))), some (.inl a1), some (.inl a2), some (.inl a3), some (.inl a4), some (.inl a5)], [.inl 0], s498) (Ps := []) rfl trivial ?_
    cases h
    exact m_iret C0 hFin (k_at kX11_put_ok 11 rfl) (Or.inr ⟨rfl, by decide⟩)
  · replace h := g_neg hb517 h
    refine m_blk C0 (pX11_ok rfl) kX11_put_ok 5 3 (15, [some (.inr (.inr (0, 0))), some (.inl a1), some (.inl a2), some (.inl a3), some (.inl a4), some (.inl a5)], [.inl a4, .inl a3, .inl a2], s498) (Ps := []) rfl trivial ?_
    obtain ⟨⟨v508, s507⟩, hq516, h⟩ := g_bind h
    refine c_S (rest := []) C0 hFr (t_X7_are hG f.2.1 N hq516) lk_X11_147 (k_at kX11_put_ok 8 rfl) rfl rfl rfl (by decide) (by decide) (Nat.le_of_ble_eq_true rfl) ?_
    refine b_ne C0 kX11_put_ok 9 (off := 5) (tgt := 23) rfl (by decide) (fun hb515 => ?_) (fun hb515 => ?_)
    · replace h := g_neg hb515 h
      obtain ⟨hc, h⟩ := g_if h
      refine m_blk C0 (pX11_ok rfl) kX11_put_ok 12 8 (36, [some (.inr (.inr (0, 0))), some (.inl a1), some (.inl a2), some (.inl a3), some (.inl a4), some (.inl a5)], [.inl a4, .inl a3, .inl a2, .inr (.inr (33, a1.toNat))], s507) (Ps := [0 ≤ a1 ∧ a1 < 8]) rfl (And.intro hc trivial) ?_
      obtain ⟨⟨v510, s509⟩, hq514, h⟩ := g_bind h
      refine c_S (rest := [.inr (.inr (33, a1.toNat))]) C0 hFr (t_X7_indexOf hG f.2.1 N hq514) lk_X11_154 (k_at kX11_put_ok 20 rfl) rfl rfl rfl (by decide) (by decide) (Nat.le_of_ble_eq_true rfl) ?_
      refine m_blk C0 (pX11_ok rfl) kX11_put_ok 21 1 (41, [some (.inr (.inr (0, 0))), some (.inl a1), some (.inl a2), some (.inl a3), some (.inl a4), some (.inl a5)], [.inl a5, .inl v510, .inr (.inr (33, a1.toNat))], s509) (Ps := []) rfl trivial ?_
      obtain ⟨⟨v512, s511⟩, hq513, h⟩ := g_bind h
      refine c_S (rest := [.inl v510, .inr (.inr (33, a1.toNat))]) C0 hFr (t_X11_leftOver hG f.2.1 N hq513) lk_X11_158 (k_at kX11_put_ok 22 rfl) rfl rfl rfl (by decide) (by decide) (Nat.le_of_ble_eq_true rfl) ?_
      obtain ⟨hc, h⟩ := g_if h
      refine m_blk C0 (pX11_ok rfl) kX11_put_ok 23 1 (45, [some (.inr (.inr (0, 0))), some (.inl a1), some (.inl a2), some (.inl a3), some (.inl a4), some (.inl a5)], [], (mup s511 33 a1.toNat v510.toNat v512)) (Ps := [0 ≤ v510 ∧ v510 < 165]) rfl (And.intro hc trivial) ?_
      refine m_blk C0 (pX11_ok rfl) kX11_put_ok 24 1 (46, [some (.inr (.inr (0, 0))), some (.inl a1), some (.inl a2), some (.inl a3), some (.inl a4), some (.inl a5)], [.inl 1], (mup s511 33 a1.toNat v510.toNat v512)) (Ps := []) rfl trivial ?_
      cases h
      exact m_iret C0 hFin (k_at kX11_put_ok 25 rfl) (Or.inr ⟨rfl, by decide⟩)
    · replace h := g_pos hb515 h
      refine m_blk C0 (pX11_ok rfl) kX11_put_ok 10 1 (22, [some (.inr (.inr (0, 0))), some (.inl a1), some (.inl a2), some (.inl a3), some (.inl a4), some (.inl a5)], [.inl 0], s507) (Ps := []) rfl trivial ?_
      cases h
      exact m_iret C0 hFin (k_at kX11_put_ok 11 rfl) (Or.inr ⟨rfl, by decide⟩)
set_option maxRecDepth 100000 in
set_option maxHeartbeats 4000000 in
theorem t_X11_number {e : mEv} (hG : mGeo (mw0 e) lw_kept) (l : Launch) (N : Nat) {a1 : Int} {a2 : Int} {a3 : Int} {a4 : Int} {σ σ' : mS} {v : Int} (h : f_X11_number N a1 a2 a3 a4 σ = some (v, σ')) : mMet l (mw0 e) lw_kept 1 yX11_number cX11_number 5 (some .int) [.inr (.inr (0, 0)), .inl a1, .inl a2, .inl a3, .inl a4] σ (some (.inl v)) σ' := by
  refine mMet_intro (plainFor_of_name (by decide)) hG (Nat.le_of_ble_eq_true rfl) (fun f hl hR C0 hFin => ?_)
  subst hl
  have hFr := mFr_of hR hFin
  unfold f_X11_number at h
  show mWW f (mw0 e) sc0 5 (0, [some (.inr (.inr (0, 0))), some (.inl a1), some (.inl a2), some (.inl a3), some (.inl a4)], [], σ)
  refine m_blk C0 (pX11_ok rfl) kX11_number_ok 0 3 (5, [some (.inr (.inr (0, 0))), some (.inl a1), some (.inl a2), some (.inl a3), some (.inl a4)], [.inl a1, .inr (.inr (31, 0))], σ) (Ps := []) rfl trivial ?_
  obtain ⟨⟨v520, s519⟩, hq529, h⟩ := g_bind h
  refine c_V (rest := []) C0 hFr (t_X6_has hG f.2.1 N hq529) lk_X11_146 (k_at kX11_number_ok 3 rfl) rfl rfl rfl rfl ⟨_, _, rfl⟩ (by decide) (by decide) (Nat.le_of_ble_eq_true rfl) ?_
  refine b_eq C0 kX11_number_ok 4 (off := 33) (tgt := 41) rfl (by decide) (fun hb528 => ?_) (fun hb528 => ?_)
  · replace h := g_pos hb528 h
    refine m_blk C0 (pX11_ok rfl) kX11_number_ok 21 1 (42, [some (.inr (.inr (0, 0))), some (.inl a1), some (.inl a2), some (.inl a3), some (.inl a4)], [.inl 0], s519) (Ps := []) rfl trivial ?_
    cases h
    exact m_iret C0 hFin (k_at kX11_number_ok 22 rfl) (Or.inl rfl)
  · replace h := g_neg hb528 h
    refine m_blk C0 (pX11_ok rfl) kX11_number_ok 5 3 (15, [some (.inr (.inr (0, 0))), some (.inl a1), some (.inl a2), some (.inl a3), some (.inl a4)], [.inl a4, .inl a3, .inl a2], s519) (Ps := []) rfl trivial ?_
    obtain ⟨⟨v522, s521⟩, hq527, h⟩ := g_bind h
    refine c_S (rest := []) C0 hFr (t_X7_are hG f.2.1 N hq527) lk_X11_147 (k_at kX11_number_ok 8 rfl) rfl rfl rfl (by decide) (by decide) (Nat.le_of_ble_eq_true rfl) ?_
    refine b_eq C0 kX11_number_ok 9 (off := 23) (tgt := 41) rfl (by decide) (fun hb526 => ?_) (fun hb526 => ?_)
    · replace h := g_pos hb526 h
      refine m_blk C0 (pX11_ok rfl) kX11_number_ok 21 1 (42, [some (.inr (.inr (0, 0))), some (.inl a1), some (.inl a2), some (.inl a3), some (.inl a4)], [.inl 0], s521) (Ps := []) rfl trivial ?_
      cases h
      exact m_iret C0 hFin (k_at kX11_number_ok 22 rfl) (Or.inl rfl)
    · replace h := g_neg hb526 h
      obtain ⟨hc, h⟩ := g_if h
      refine m_blk C0 (pX11_ok rfl) kX11_number_ok 10 8 (34, [some (.inr (.inr (0, 0))), some (.inl a1), some (.inl a2), some (.inl a3), some (.inl a4)], [.inl a4, .inl a3, .inl a2, .inr (.inr (33, a1.toNat))], s521) (Ps := [0 ≤ a1 ∧ a1 < 8]) rfl (And.intro hc trivial) ?_
      obtain ⟨⟨v524, s523⟩, hq525, h⟩ := g_bind h
      refine c_S (rest := [.inr (.inr (33, a1.toNat))]) C0 hFr (t_X7_indexOf hG f.2.1 N hq525) lk_X11_154 (k_at kX11_number_ok 18 rfl) rfl rfl rfl (by decide) (by decide) (Nat.le_of_ble_eq_true rfl) ?_
      obtain ⟨hc, h⟩ := g_if h
      refine m_blk C0 (pX11_ok rfl) kX11_number_ok 19 2 (42, [some (.inr (.inr (0, 0))), some (.inl a1), some (.inl a2), some (.inl a3), some (.inl a4)], [.inl (s523 33 a1.toNat v524.toNat)], s523) (Ps := [0 ≤ v524 ∧ v524 < 165]) rfl (And.intro hc trivial) ?_
      cases h
      exact m_iret C0 hFin (k_at kX11_number_ok 22 rfl) (Or.inl rfl)
set_option maxRecDepth 100000 in
set_option maxHeartbeats 4000000 in
theorem p_X6_degreeOf_4 {e : mEv} (hG : mGeo (mw0 e) lw_kept) (N : Nat) {f : mFx} (C0 : mCx f (mw0 e) sc0 cX6_degreeOf 3 RX6 lw_kept) (hFr : mFr f 0) : ∀ (n : Nat) (x1 : Int) (x2 : Int) (σ : mS) (out : (Int × mS) ⊕ (mS)), L_X6_degreeOf_4 N n x1 x2 σ = some out → (∀ v s, out = .inl (v, s) → mFin f (mw0 e) (some .int) (some (.inl v)) s) → (∀  (s : mS), out = .inr s → mWW f (mw0 e) sc0 3 (35, [none, none, none], [], s)) → mWW f (mw0 e) sc0 3 (4, [some (.inr (.inr (31, 0))), some (.inl x1), some (.inl x2)], [], σ) := by
  intro n
  induction n with
  | zero =>
    intro x1 x2 σ out h hX hK
    cases h
  | succ n IH =>
    intro x1 x2 σ out h hX hK
    rw [L_X6_degreeOf_4_s] at h
    refine m_blk C0 (pX6_ok rfl) kX6_degreeOf_ok 2 1 (5, [some (.inr (.inr (31, 0))), some (.inl x1), some (.inl x2)], [.inl x2], σ) (Ps := []) rfl trivial ?_
    refine b_lt C0 kX6_degreeOf_ok 3 (off := 30) (tgt := 35) rfl (by decide) (fun hb533 => ?_) (fun hb533 => ?_)
    · replace h := g_pos hb533 h
      cases h
      refine m_mask [false, false, false] (ls' := [none, none, none]) rfl ?_
      exact hK _ rfl
    · replace h := g_neg hb533 h
      obtain ⟨hc, h⟩ := g_if h
      refine m_blk C0 (pX6_ok rfl) kX6_degreeOf_ok 4 6 (16, [some (.inr (.inr (31, 0))), some (.inl x1), some (.inl x2)], [.inl (σ 33 x1.toNat x2.toNat)], σ) (Ps := [0 ≤ x1 ∧ x1 < 8, 0 ≤ x2 ∧ x2 < 165]) rfl (And.intro hc.1 (And.intro hc.2 trivial)) ?_
      refine b_eq C0 kX6_degreeOf_ok 10 (off := 13) (tgt := 29) rfl (by decide) (fun hb532 => ?_) (fun hb532 => ?_)
      · replace h := g_pos hb532 h
        refine m_blk C0 (pX6_ok rfl) kX6_degreeOf_ok 17 2 (4, [some (.inr (.inr (31, 0))), some (.inl x1), some (.inl (mw (x2 + (-1))))], [], σ) (Ps := []) rfl trivial ?_
        refine m_mask [true, true, true] (ls' := [some (.inr (.inr (31, 0))), some (.inl x1), some (.inl (mw (x2 + (-1))))]) rfl ?_
        exact IH _ _ _ _ h hX hK
      · replace h := g_neg hb532 h
        obtain ⟨hc, h⟩ := g_if h
        refine m_blk C0 (pX6_ok rfl) kX6_degreeOf_ok 11 5 (28, [some (.inr (.inr (31, 0))), some (.inl x1), some (.inl x2)], [.inl (σ 40 0 x2.toNat)], σ) (Ps := [0 ≤ x2 ∧ x2 < 165]) rfl (And.intro hc trivial) ?_
        cases h
        exact m_iret C0 (hX _ _ rfl) (k_at kX6_degreeOf_ok 16 rfl) (Or.inl rfl)
set_option maxRecDepth 100000 in
set_option maxHeartbeats 4000000 in
theorem t_X6_degreeOf {e : mEv} (hG : mGeo (mw0 e) lw_kept) (l : Launch) (N : Nat) {a1 : Int} {σ σ' : mS} {v : Int} (h : f_X6_degreeOf N a1 σ = some (v, σ')) : mMet l (mw0 e) lw_kept 0 yX6_degreeOf cX6_degreeOf 3 (some .int) [.inr (.inr (31, 0)), .inl a1] σ (some (.inl v)) σ' := by
  refine mMet_intro (plainFor_of_name (by decide)) hG (Nat.le_of_ble_eq_true rfl) (fun f hl hR C0 hFin => ?_)
  subst hl
  have hFr := mFr_of hR hFin
  unfold f_X6_degreeOf at h
  show mWW f (mw0 e) sc0 3 (0, [some (.inr (.inr (31, 0))), some (.inl a1), none], [], σ)
  refine m_blk C0 (pX6_ok rfl) kX6_degreeOf_ok 0 2 (4, [some (.inr (.inr (31, 0))), some (.inl a1), some (.inl 164)], [], σ) (Ps := []) rfl trivial ?_
  obtain ⟨o, hq535, h⟩ := g_bind h
  refine m_mask [true, true, true] (ls' := [some (.inr (.inr (31, 0))), some (.inl a1), some (.inl 164)]) rfl ?_
  rcases o with ⟨v536, s537⟩ | s534
  · cases h
    exact p_X6_degreeOf_4 hG N C0 hFr N _ _ _ _ hq535 (fun v s e => by cases e; exact hFin) (fun _ e => by cases e)
  · refine p_X6_degreeOf_4 hG N C0 hFr N _ _ _ _ hq535 (fun v s e => by cases e) (fun _ e => ?_)
    cases e
    refine m_blk C0 (pX6_ok rfl) kX6_degreeOf_ok 19 1 (36, [none, none, none], [.inl (-1)], s534) (Ps := []) rfl trivial ?_
    cases h
    exact m_iret C0 hFin (k_at kX6_degreeOf_ok 20 rfl) (Or.inl rfl)
set_option maxRecDepth 100000 in
set_option maxHeartbeats 4000000 in
theorem t_X11_degree {e : mEv} (hG : mGeo (mw0 e) lw_kept) (l : Launch) (N : Nat) {a1 : Int} {σ σ' : mS} {v : Int} (h : f_X11_degree N a1 σ = some (v, σ')) : mMet l (mw0 e) lw_kept 1 yX11_degree cX11_degree 2 (some .int) [.inr (.inr (0, 0)), .inl a1] σ (some (.inl v)) σ' := by
  refine mMet_intro (plainFor_of_name (by decide)) hG (Nat.le_of_ble_eq_true rfl) (fun f hl hR C0 hFin => ?_)
  subst hl
  have hFr := mFr_of hR hFin
  unfold f_X11_degree at h
  show mWW f (mw0 e) sc0 2 (0, [some (.inr (.inr (0, 0))), some (.inl a1)], [], σ)
  refine m_blk C0 (pX11_ok rfl) kX11_degree_ok 0 3 (5, [some (.inr (.inr (0, 0))), some (.inl a1)], [.inl a1, .inr (.inr (31, 0))], σ) (Ps := []) rfl trivial ?_
  obtain ⟨⟨v531, s530⟩, hq542, h⟩ := g_bind h
  refine c_V (rest := []) C0 hFr (t_X6_has hG f.2.1 N hq542) lk_X11_146 (k_at kX11_degree_ok 3 rfl) rfl rfl rfl rfl ⟨_, _, rfl⟩ (by decide) (by decide) (Nat.le_of_ble_eq_true rfl) ?_
  refine b_eq C0 kX11_degree_ok 4 (off := 14) (tgt := 22) rfl (by decide) (fun hb541 => ?_) (fun hb541 => ?_)
  · replace h := g_pos hb541 h
    refine m_blk C0 (pX11_ok rfl) kX11_degree_ok 10 1 (23, [some (.inr (.inr (0, 0))), some (.inl a1)], [.inl (-1)], s530) (Ps := []) rfl trivial ?_
    cases h
    exact m_iret C0 hFin (k_at kX11_degree_ok 11 rfl) (Or.inl rfl)
  · replace h := g_neg hb541 h
    refine m_blk C0 (pX11_ok rfl) kX11_degree_ok 5 3 (16, [some (.inr (.inr (0, 0))), some (.inl a1)], [.inl a1, .inr (.inr (31, 0))], s530) (Ps := []) rfl trivial ?_
    obtain ⟨⟨v539, s538⟩, hq540, h⟩ := g_bind h
    refine c_V (rest := []) C0 hFr (t_X6_degreeOf hG f.2.1 N hq540) lk_X11_162 (k_at kX11_degree_ok 8 rfl) rfl rfl rfl rfl ⟨_, _, rfl⟩ (by decide) (by decide) (Nat.le_of_ble_eq_true rfl) ?_
    refine m_blk C0 (pX11_ok rfl) kX11_degree_ok 9 1 (23, [some (.inr (.inr (0, 0))), some (.inl a1)], [.inl v539], s538) (Ps := []) rfl trivial ?_
    cases h
    exact m_iret C0 hFin (k_at kX11_degree_ok 11 rfl) (Or.inl rfl)
set_option maxRecDepth 100000 in
set_option maxHeartbeats 4000000 in
theorem p_X6_combine_3 {e : mEv} (hG : mGeo (mw0 e) lw_kept) (N : Nat) {f : mFx} (C0 : mCx f (mw0 e) sc0 cX6_combine 7 RX6 lw_kept) (hFr : mFr f 0) : ∀ (n : Nat) (x1 : Int) (x2 : Int) (x3 : Int) (x4 : Int) (x5 : Int) (x6 : Int) (σ : mS) (σ' : mS), L_X6_combine_3 N n x1 x2 x3 x4 x5 x6 σ = some σ' → mWW f (mw0 e) sc0 7 (63, [none, none, none, none, none, none, none], [], σ') → mWW f (mw0 e) sc0 7 (3, [some (.inr (.inr (31, 0))), some (.inl x1), some (.inl x2), some (.inl x3), some (.inl x4), some (.inl x5), some (.inl x6)], [], σ) := by
  intro n
  induction n with
  | zero =>
    intro x1 x2 x3 x4 x5 x6 σ σ' h hK
    cases h
  | succ n IH =>
    intro x1 x2 x3 x4 x5 x6 σ σ' h hK
    rw [L_X6_combine_3_s] at h
    refine m_blk C0 (pX6_ok rfl) kX6_combine_ok 2 2 (8, [some (.inr (.inr (31, 0))), some (.inl x1), some (.inl x2), some (.inl x3), some (.inl x4), some (.inl x5), some (.inl x6)], [.inl 165, .inl x6], σ) (Ps := []) rfl trivial ?_
    refine b_ige C0 kX6_combine_ok 4 (off := 55) (tgt := 63) rfl (by decide) (fun hb553 => ?_) (fun hb553 => ?_)
    · replace h := g_pos hb553 h
      cases h
      refine m_mask [false, false, false, false, false, false, false] (ls' := [none, none, none, none, none, none, none]) rfl ?_
      exact hK
    · replace h := g_neg hb553 h
      obtain ⟨hc, h⟩ := g_if h
      refine m_blk C0 (pX6_ok rfl) kX6_combine_ok 5 16 (35, [some (.inr (.inr (31, 0))), some (.inl x1), some (.inl x2), some (.inl x3), some (.inl x4), some (.inl x5), some (.inl x6)], [.inr (.inr (31, 0)), .inl (o_rem (mw ((σ 33 x2.toNat x6.toNat) * x3)) 32003), .inl x6, .inr (.inr (33, x1.toNat))], σ) (Ps := [0 ≤ x1 ∧ x1 < 8, 0 ≤ x2 ∧ x2 < 8, 0 ≤ x6 ∧ x6 < 165, ¬ (32003 : Int) = 0]) rfl (And.intro hc.1 (And.intro hc.2.1 (And.intro hc.2.2.1 (And.intro (by decide) trivial)))) ?_
      refine m_blk C0 (pX6_ok rfl) kX6_combine_ok 21 13 (57, [some (.inr (.inr (31, 0))), some (.inl x1), some (.inl x2), some (.inl x3), some (.inl x4), some (.inl x5), some (.inl x6)], [], (mup σ 33 x1.toNat x6.toNat (o_rem (mw ((o_rem (mw ((σ 33 x2.toNat x6.toNat) * x3)) 32003) + (o_rem (mw ((σ 33 x4.toNat x6.toNat) * x5)) 32003))) 32003))) (Ps := [0 ≤ x4 ∧ x4 < 8, 0 ≤ x6 ∧ x6 < 165, ¬ (32003 : Int) = 0, ¬ (32003 : Int) = 0, 0 ≤ x6 ∧ x6 < 165]) rfl (And.intro hc.2.2.2 (And.intro hc.2.2.1 (And.intro (by decide) (And.intro (by decide) (And.intro hc.2.2.1 trivial))))) ?_
      refine m_blk C0 (pX6_ok rfl) kX6_combine_ok 34 2 (3, [some (.inr (.inr (31, 0))), some (.inl x1), some (.inl x2), some (.inl x3), some (.inl x4), some (.inl x5), some (.inl (mw (x6 + 1)))], [], (mup σ 33 x1.toNat x6.toNat (o_rem (mw ((o_rem (mw ((σ 33 x2.toNat x6.toNat) * x3)) 32003) + (o_rem (mw ((σ 33 x4.toNat x6.toNat) * x5)) 32003))) 32003))) (Ps := []) rfl trivial ?_
      refine m_mask [true, true, true, true, true, true, true] (ls' := [some (.inr (.inr (31, 0))), some (.inl x1), some (.inl x2), some (.inl x3), some (.inl x4), some (.inl x5), some (.inl (mw (x6 + 1)))]) rfl ?_
      exact IH _ _ _ _ _ _ _ _ h hK
set_option maxRecDepth 100000 in
set_option maxHeartbeats 4000000 in
theorem t_X6_combine {e : mEv} (hG : mGeo (mw0 e) lw_kept) (l : Launch) (N : Nat) {a1 : Int} {a2 : Int} {a3 : Int} {a4 : Int} {a5 : Int} {σ σ' : mS} (h : f_X6_combine N a1 a2 a3 a4 a5 σ = some σ') : mMet l (mw0 e) lw_kept 0 yX6_combine cX6_combine 7 none [.inr (.inr (31, 0)), .inl a1, .inl a2, .inl a3, .inl a4, .inl a5] σ none σ' := by
  refine mMet_intro (plainFor_of_name (by decide)) hG (Nat.le_of_ble_eq_true rfl) (fun f hl hR C0 hFin => ?_)
  subst hl
  have hFr := mFr_of hR hFin
  unfold f_X6_combine at h
  show mWW f (mw0 e) sc0 7 (0, [some (.inr (.inr (31, 0))), some (.inl a1), some (.inl a2), some (.inl a3), some (.inl a4), some (.inl a5), none], [], σ)
  refine m_blk C0 (pX6_ok rfl) kX6_combine_ok 0 2 (3, [some (.inr (.inr (31, 0))), some (.inl a1), some (.inl a2), some (.inl a3), some (.inl a4), some (.inl a5), some (.inl 0)], [], σ) (Ps := []) rfl trivial ?_
  obtain ⟨s554, hq555, h⟩ := g_bind h
  refine m_mask [true, true, true, true, true, true, true] (ls' := [some (.inr (.inr (31, 0))), some (.inl a1), some (.inl a2), some (.inl a3), some (.inl a4), some (.inl a5), some (.inl 0)]) rfl ?_
  refine p_X6_combine_3 hG N C0 hFr N _ _ _ _ _ _ _ _ hq555 ?_
  cases h
  exact m_vret C0 hFin (k_at kX6_combine_ok 36 rfl)
set_option maxRecDepth 100000 in
set_option maxHeartbeats 4000000 in
theorem t_X11_sum {e : mEv} (hG : mGeo (mw0 e) lw_kept) (l : Launch) (N : Nat) {a1 : Int} {a2 : Int} {a3 : Int} {a4 : Int} {a5 : Int} {σ σ' : mS} {v : Int} (h : f_X11_sum N a1 a2 a3 a4 a5 σ = some (v, σ')) : mMet l (mw0 e) lw_kept 2 yX11_sum cX11_sum 6 (some .int) [.inr (.inr (0, 0)), .inl a1, .inl a2, .inl a3, .inl a4, .inl a5] σ (some (.inl v)) σ' := by
  refine mMet_intro (plainFor_of_name (by decide)) hG (Nat.le_of_ble_eq_true rfl) (fun f hl hR C0 hFin => ?_)
  subst hl
  have hFr := mFr_of hR hFin
  unfold f_X11_sum at h
  show mWW f (mw0 e) sc0 6 (0, [some (.inr (.inr (0, 0))), some (.inl a1), some (.inl a2), some (.inl a3), some (.inl a4), some (.inl a5)], [], σ)
  refine m_blk C0 (pX11_ok rfl) kX11_sum_ok 0 3 (5, [some (.inr (.inr (0, 0))), some (.inl a1), some (.inl a2), some (.inl a3), some (.inl a4), some (.inl a5)], [.inl a1, .inr (.inr (31, 0))], σ) (Ps := []) rfl trivial ?_
  obtain ⟨⟨v544, s543⟩, hq568, h⟩ := g_bind h
  refine c_V (rest := []) C0 hFr (t_X6_has hG f.2.1 N hq568) lk_X11_146 (k_at kX11_sum_ok 3 rfl) rfl rfl rfl rfl ⟨_, _, rfl⟩ (by decide) (by decide) (Nat.le_of_ble_eq_true rfl) ?_
  refine b_eq C0 kX11_sum_ok 4 (off := 26) (tgt := 34) rfl (by decide) (fun hb567 => ?_) (fun hb567 => ?_)
  · replace h := g_pos hb567 h
    refine m_blk C0 (pX11_ok rfl) kX11_sum_ok 15 1 (36, [some (.inr (.inr (0, 0))), some (.inl a1), some (.inl a2), some (.inl a3), some (.inl a4), some (.inl a5)], [.inl (-2)], s543) (Ps := []) rfl trivial ?_
    cases h
    exact m_iret C0 hFin (k_at kX11_sum_ok 16 rfl) (Or.inl rfl)
  · replace h := g_neg hb567 h
    refine m_blk C0 (pX11_ok rfl) kX11_sum_ok 5 3 (16, [some (.inr (.inr (0, 0))), some (.inl a1), some (.inl a2), some (.inl a3), some (.inl a4), some (.inl a5)], [.inl a2, .inr (.inr (31, 0))], s543) (Ps := []) rfl trivial ?_
    obtain ⟨⟨v546, s545⟩, hq566, h⟩ := g_bind h
    refine c_V (rest := []) C0 hFr (t_X6_has hG f.2.1 N hq566) lk_X11_146 (k_at kX11_sum_ok 8 rfl) rfl rfl rfl rfl ⟨_, _, rfl⟩ (by decide) (by decide) (Nat.le_of_ble_eq_true rfl) ?_
    refine b_eq C0 kX11_sum_ok 9 (off := 15) (tgt := 34) rfl (by decide) (fun hb565 => ?_) (fun hb565 => ?_)
    · replace h := g_pos hb565 h
      refine m_blk C0 (pX11_ok rfl) kX11_sum_ok 15 1 (36, [some (.inr (.inr (0, 0))), some (.inl a1), some (.inl a2), some (.inl a3), some (.inl a4), some (.inl a5)], [.inl (-2)], s545) (Ps := []) rfl trivial ?_
      cases h
      exact m_iret C0 hFin (k_at kX11_sum_ok 16 rfl) (Or.inl rfl)
    · replace h := g_neg hb565 h
      refine m_blk C0 (pX11_ok rfl) kX11_sum_ok 10 3 (28, [some (.inr (.inr (0, 0))), some (.inl a1), some (.inl a2), some (.inl a3), some (.inl a4), some (.inl a5)], [.inl a4, .inr (.inr (31, 0))], s545) (Ps := []) rfl trivial ?_
      obtain ⟨⟨v548, s547⟩, hq564, h⟩ := g_bind h
      refine c_V (rest := []) C0 hFr (t_X6_has hG f.2.1 N hq564) lk_X11_146 (k_at kX11_sum_ok 13 rfl) rfl rfl rfl rfl ⟨_, _, rfl⟩ (by decide) (by decide) (Nat.le_of_ble_eq_true rfl) ?_
      refine b_ne C0 kX11_sum_ok 14 (off := 6) (tgt := 37) rfl (by decide) (fun hb563 => ?_) (fun hb563 => ?_)
      · replace h := g_neg hb563 h
        refine m_blk C0 (pX11_ok rfl) kX11_sum_ok 17 5 (44, [some (.inr (.inr (0, 0))), some (.inl a1), some (.inl a2), some (.inl a3), some (.inl a4), some (.inl a5)], [.inl a3, .inl a2, .inl a1, .inr (.inr (31, 0))], s547) (Ps := []) rfl trivial ?_
        obtain ⟨⟨v550, s549⟩, hq562, h⟩ := g_bind h
        refine c_S (rest := [.inl a2, .inl a1, .inr (.inr (31, 0))]) C0 hFr (t_X11_leftOver hG f.2.1 N hq562) lk_X11_158 (k_at kX11_sum_ok 22 rfl) rfl rfl rfl (by decide) (by decide) (Nat.le_of_ble_eq_true rfl) ?_
        refine m_blk C0 (pX11_ok rfl) kX11_sum_ok 23 2 (51, [some (.inr (.inr (0, 0))), some (.inl a1), some (.inl a2), some (.inl a3), some (.inl a4), some (.inl a5)], [.inl a5, .inl a4, .inl v550, .inl a2, .inl a1, .inr (.inr (31, 0))], s549) (Ps := []) rfl trivial ?_
        obtain ⟨⟨v552, s551⟩, hq561, h⟩ := g_bind h
        refine c_S (rest := [.inl a4, .inl v550, .inl a2, .inl a1, .inr (.inr (31, 0))]) C0 hFr (t_X11_leftOver hG f.2.1 N hq561) lk_X11_158 (k_at kX11_sum_ok 25 rfl) rfl rfl rfl (by decide) (by decide) (Nat.le_of_ble_eq_true rfl) ?_
        obtain ⟨s556, hq560, h⟩ := g_bind h
        refine c_V (rest := []) C0 hFr (t_X6_combine hG f.2.1 N hq560) lk_X11_165 (k_at kX11_sum_ok 26 rfl) rfl rfl rfl rfl ⟨_, _, rfl⟩ (by decide) (by decide) (Nat.le_of_ble_eq_true rfl) ?_
        refine m_blk C0 (pX11_ok rfl) kX11_sum_ok 27 3 (62, [some (.inr (.inr (0, 0))), some (.inl a1), some (.inl a2), some (.inl a3), some (.inl a4), some (.inl a5)], [.inl a1, .inr (.inr (31, 0))], s556) (Ps := []) rfl trivial ?_
        obtain ⟨⟨v558, s557⟩, hq559, h⟩ := g_bind h
        refine c_V (rest := []) C0 hFr (t_X6_degreeOf hG f.2.1 N hq559) lk_X11_162 (k_at kX11_sum_ok 30 rfl) rfl rfl rfl rfl ⟨_, _, rfl⟩ (by decide) (by decide) (Nat.le_of_ble_eq_true rfl) ?_
        cases h
        exact m_iret C0 hFin (k_at kX11_sum_ok 31 rfl) (Or.inl rfl)
      · replace h := g_pos hb563 h
        refine m_blk C0 (pX11_ok rfl) kX11_sum_ok 15 1 (36, [some (.inr (.inr (0, 0))), some (.inl a1), some (.inl a2), some (.inl a3), some (.inl a4), some (.inl a5)], [.inl (-2)], s547) (Ps := []) rfl trivial ?_
        cases h
        exact m_iret C0 hFin (k_at kX11_sum_ok 16 rfl) (Or.inl rfl)
set_option maxRecDepth 100000 in
set_option maxHeartbeats 4000000 in
theorem p_J7_fill_53178_r34_5 {e : mEv} (hG : mGeo (mw0 e) lw_kept) (N : Nat) {f : mFx} (C0 : mCx f (mw0 e) sc0 cJ7_fill_53178 4 RJ7 lw_kept) (hFr : mFr f 0) : ∀ (n : Nat) (x1 : Int) (x2 : Int) (x3 : Int) (σ : mS) (σ' : mS), L_J7_fill_53178_r34_5 N n x1 x2 x3 σ = some σ' → mWW f (mw0 e) sc0 4 (20, [none, none, none, none], [], σ') → mWW f (mw0 e) sc0 4 (5, [some (.inr (.inr (34, 0))), some (.inl x1), some (.inl x2), some (.inl x3)], [], σ) := by
  intro n
  induction n with
  | zero =>
    intro x1 x2 x3 σ σ' h hK
    cases h
  | succ n IH =>
    intro x1 x2 x3 σ σ' h hK
    rw [L_J7_fill_53178_r34_5_s] at h
    refine m_blk C0 (pJ7_ok rfl) kJ7_fill_53178_ok 5 2 (7, [some (.inr (.inr (34, 0))), some (.inl x1), some (.inl x2), some (.inl x3)], [.inl x3, .inl x2], σ) (Ps := []) rfl trivial ?_
    refine b_ige C0 kJ7_fill_53178_ok 7 (off := 13) (tgt := 20) rfl (by decide) (fun hb579 => ?_) (fun hb579 => ?_)
    · replace h := g_pos hb579 h
      cases h
      refine m_mask [false, false, false, false] (ls' := [none, none, none, none]) rfl ?_
      exact hK
    · replace h := g_neg hb579 h
      obtain ⟨hc, h⟩ := g_if h
      refine m_blk C0 (pJ7_ok rfl) kJ7_fill_53178_ok 8 4 (14, [some (.inr (.inr (34, 0))), some (.inl x1), some (.inl x2), some (.inl x3)], [], (mup σ 34 0 x2.toNat x1)) (Ps := [0 ≤ x2 ∧ x2 < 165]) rfl (And.intro hc trivial) ?_
      refine m_blk C0 (pJ7_ok rfl) kJ7_fill_53178_ok 12 2 (5, [some (.inr (.inr (34, 0))), some (.inl x1), some (.inl (mw (x2 + 1))), some (.inl x3)], [], (mup σ 34 0 x2.toNat x1)) (Ps := []) rfl trivial ?_
      refine m_mask [true, true, true, true] (ls' := [some (.inr (.inr (34, 0))), some (.inl x1), some (.inl (mw (x2 + 1))), some (.inl x3)]) rfl ?_
      exact IH _ _ _ _ _ h hK
set_option maxRecDepth 100000 in
set_option maxHeartbeats 4000000 in
theorem t_J7_fill_53178_r34 {e : mEv} (hG : mGeo (mw0 e) lw_kept) (l : Launch) (N : Nat) {a1 : Int} {σ σ' : mS} (h : f_J7_fill_53178_r34 N a1 σ = some σ') : mMet l (mw0 e) lw_kept 0 yJ7_fill_53178 cJ7_fill_53178 4 none [.inr (.inr (34, 0)), .inl a1] σ none σ' := by
  refine mMet_intro (by decide +kernel) hG (Nat.le_of_ble_eq_true rfl) (fun f hl hR C0 hFin => ?_)
  subst hl
  have hFr := mFr_of hR hFin
  unfold f_J7_fill_53178_r34 at h
  show mWW f (mw0 e) sc0 4 (0, [some (.inr (.inr (34, 0))), some (.inl a1), none, none], [], σ)
  refine m_blk C0 (pJ7_ok rfl) kJ7_fill_53178_ok 0 5 (5, [some (.inr (.inr (34, 0))), some (.inl a1), some (.inl 0), some (.inl 165)], [], σ) (Ps := []) rfl trivial ?_
  obtain ⟨s580, hq581, h⟩ := g_bind h
  refine m_mask [true, true, true, true] (ls' := [some (.inr (.inr (34, 0))), some (.inl a1), some (.inl 0), some (.inl 165)]) rfl ?_
  refine p_J7_fill_53178_r34_5 hG N C0 hFr N _ _ _ _ _ hq581 ?_
  cases h
  exact m_vret C0 hFin (k_at kJ7_fill_53178_ok 14 rfl)
set_option maxRecDepth 100000 in
set_option maxHeartbeats 4000000 in
theorem t_X6_addAside {e : mEv} (hG : mGeo (mw0 e) lw_kept) (l : Launch) (N : Nat) {a1 : Int} {a2 : Int} {σ σ' : mS} (h : f_X6_addAside N a1 a2 σ = some σ') : mMet l (mw0 e) lw_kept 0 yX6_addAside cX6_addAside 3 none [.inr (.inr (31, 0)), .inl a1, .inl a2] σ none σ' := by
  refine mMet_intro (plainFor_of_name (by decide)) hG (Nat.le_of_ble_eq_true rfl) (fun f hl hR C0 hFin => ?_)
  subst hl
  have hFr := mFr_of hR hFin
  unfold f_X6_addAside at h
  show mWW f (mw0 e) sc0 3 (0, [some (.inr (.inr (31, 0))), some (.inl a1), some (.inl a2)], [], σ)
  refine m_blk C0 (pX6_ok rfl) kX6_addAside_ok 0 1 (1, [some (.inr (.inr (31, 0))), some (.inl a1), some (.inl a2)], [.inl a1], σ) (Ps := []) rfl trivial ?_
  refine b_lt C0 kX6_addAside_ok 1 (off := 28) (tgt := 29) rfl (by decide) (fun hb590 => ?_) (fun hb590 => ?_)
  · replace h := g_pos hb590 h
    cases h
    exact m_vret C0 hFin (k_at kX6_addAside_ok 17 rfl)
  · replace h := g_neg hb590 h
    refine m_blk C0 (pX6_ok rfl) kX6_addAside_ok 2 2 (8, [some (.inr (.inr (31, 0))), some (.inl a1), some (.inl a2)], [.inl 165, .inl a1], σ) (Ps := []) rfl trivial ?_
    refine b_ige C0 kX6_addAside_ok 4 (off := 21) (tgt := 29) rfl (by decide) (fun hb589 => ?_) (fun hb589 => ?_)
    · replace h := g_pos hb589 h
      cases h
      exact m_vret C0 hFin (k_at kX6_addAside_ok 17 rfl)
    · replace h := g_neg hb589 h
      obtain ⟨hc, h⟩ := g_if h
      refine m_blk C0 (pX6_ok rfl) kX6_addAside_ok 5 12 (29, [some (.inr (.inr (31, 0))), some (.inl a1), some (.inl a2)], [], (mup σ 34 0 a1.toNat (o_rem (mw ((σ 34 0 a1.toNat) + a2)) 32003))) (Ps := [0 ≤ a1 ∧ a1 < 165, ¬ (32003 : Int) = 0, 0 ≤ a1 ∧ a1 < 165]) rfl (And.intro hc (And.intro (by decide) (And.intro hc trivial))) ?_
      cases h
      exact m_vret C0 hFin (k_at kX6_addAside_ok 17 rfl)
set_option maxRecDepth 100000 in
set_option maxHeartbeats 4000000 in
theorem t_X6_keepAside {e : mEv} (hG : mGeo (mw0 e) lw_kept) (l : Launch) (N : Nat) {a1 : Int} {σ σ' : mS} (h : f_X6_keepAside N a1 σ = some σ') : mMet l (mw0 e) lw_kept 1 yX6_keepAside cX6_keepAside 2 none [.inr (.inr (31, 0)), .inl a1] σ none σ' := by
  refine mMet_intro (plainFor_of_name (by decide)) hG (Nat.le_of_ble_eq_true rfl) (fun f hl hR C0 hFin => ?_)
  subst hl
  have hFr := mFr_of hR hFin
  unfold f_X6_keepAside at h
  show mWW f (mw0 e) sc0 2 (0, [some (.inr (.inr (31, 0))), some (.inl a1)], [], σ)
  obtain ⟨hc, h⟩ := g_if h
  refine m_blk C0 (pX6_ok rfl) kX6_keepAside_ok 0 9 (15, [some (.inr (.inr (31, 0))), some (.inl a1)], [.inl 165, .inl 0, .inr (.inr (33, a1.toNat)), .inl 0, .inr (.inr (34, 0))], σ) (Ps := [0 ≤ a1 ∧ a1 < 8]) rfl (And.intro hc trivial) ?_
  refine c_copy (rest := []) C0 hFr lkc_3 (k_at kX6_keepAside_ok 9 rfl) rfl rfl rfl (by decide) (Nat.le_of_ble_eq_true rfl) (show 0 ≤ (0 : Int) ∧ 0 ≤ (0 : Int) ∧ 0 ≤ (165 : Int) ∧ (0 : Int) + 165 ≤ 165 ∧ (0 : Int) + 165 ≤ 165 from by decide) ?_
  cases h
  exact m_vret C0 hFin (k_at kX6_keepAside_ok 10 rfl)
set_option maxRecDepth 100000 in
set_option maxHeartbeats 4000000 in
theorem p_X6_multiply_45 {e : mEv} (hG : mGeo (mw0 e) lw_kept) (N : Nat) {f : mFx} (C0 : mCx f (mw0 e) sc0 cX6_multiply 8 RX6 lw_kept) (hFr : mFr f 2) : ∀ (n : Nat) (x1 : Int) (x2 : Int) (x3 : Int) (x4 : Int) (x5 : Int) (x6 : Int) (x7 : Int) (σ : mS) (σ' : mS), L_X6_multiply_45 N n x1 x2 x3 x4 x5 x6 x7 σ = some σ' → mWW f (mw0 e) sc0 8 (106, [some (.inr (.inr (31, 0))), some (.inl x1), some (.inl x2), some (.inl x3), some (.inl x4), some (.inl x5), none, none], [], σ') → mWW f (mw0 e) sc0 8 (45, [some (.inr (.inr (31, 0))), some (.inl x1), some (.inl x2), some (.inl x3), some (.inl x4), some (.inl x5), some (.inl x6), some (.inl x7)], [], σ) := by
  intro n
  induction n with
  | zero =>
    intro x1 x2 x3 x4 x5 x6 x7 σ σ' h hK
    cases h
  | succ n IH =>
    intro x1 x2 x3 x4 x5 x6 x7 σ σ' h hK
    rw [L_X6_multiply_45_s] at h
    refine m_blk C0 (pX6_ok rfl) kX6_multiply_ok 25 1 (47, [some (.inr (.inr (31, 0))), some (.inl x1), some (.inl x2), some (.inl x3), some (.inl x4), some (.inl x5), some (.inl x6), some (.inl x7)], [.inl x6], σ) (Ps := []) rfl trivial ?_
    refine b_eq C0 kX6_multiply_ok 26 (off := 59) (tgt := 106) rfl (by decide) (fun hb596 => ?_) (fun hb596 => ?_)
    · replace h := g_pos hb596 h
      cases h
      refine m_mask [true, true, true, true, true, true, false, false] (ls' := [some (.inr (.inr (31, 0))), some (.inl x1), some (.inl x2), some (.inl x3), some (.inl x4), some (.inl x5), none, none]) rfl ?_
      exact hK
    · replace h := g_neg hb596 h
      refine m_blk C0 (pX6_ok rfl) kX6_multiply_ok 27 2 (54, [some (.inr (.inr (31, 0))), some (.inl x1), some (.inl x2), some (.inl x3), some (.inl x4), some (.inl x5), some (.inl x6), some (.inl x7)], [.inl x4, .inl x7], σ) (Ps := []) rfl trivial ?_
      refine b_ige C0 kX6_multiply_ok 29 (off := 52) (tgt := 106) rfl (by decide) (fun hb595 => ?_) (fun hb595 => ?_)
      · replace h := g_pos hb595 h
        cases h
        refine m_mask [true, true, true, true, true, true, false, false] (ls' := [some (.inr (.inr (31, 0))), some (.inl x1), some (.inl x2), some (.inl x3), some (.inl x4), some (.inl x5), none, none]) rfl ?_
        exact hK
      · replace h := g_neg hb595 h
        obtain ⟨hc, h⟩ := g_if h
        refine m_blk C0 (pX6_ok rfl) kX6_multiply_ok 30 6 (66, [some (.inr (.inr (31, 0))), some (.inl x1), some (.inl x2), some (.inl x3), some (.inl x4), some (.inl x5), some (.inl x6), some (.inl x7)], [.inl (σ 33 x3.toNat x7.toNat)], σ) (Ps := [0 ≤ x3 ∧ x3 < 8, 0 ≤ x7 ∧ x7 < 165]) rfl (And.intro hc.1 (And.intro hc.2 trivial)) ?_
        refine b_eq C0 kX6_multiply_ok 36 (off := 34) (tgt := 100) rfl (by decide) (fun hb594 => ?_) (fun hb594 => ?_)
        · replace h := g_pos hb594 h
          refine m_blk C0 (pX6_ok rfl) kX6_multiply_ok 54 2 (45, [some (.inr (.inr (31, 0))), some (.inl x1), some (.inl x2), some (.inl x3), some (.inl x4), some (.inl x5), some (.inl x6), some (.inl (mw (x7 + 1)))], [], σ) (Ps := []) rfl trivial ?_
          refine m_mask [true, true, true, true, true, true, true, true] (ls' := [some (.inr (.inr (31, 0))), some (.inl x1), some (.inl x2), some (.inl x3), some (.inl x4), some (.inl x5), some (.inl x6), some (.inl (mw (x7 + 1)))]) rfl ?_
          exact IH _ _ _ _ _ _ _ _ _ h hK
        · replace h := g_neg hb594 h
          refine m_blk C0 (pX6_ok rfl) kX6_multiply_ok 37 5 (78, [some (.inr (.inr (31, 0))), some (.inl x1), some (.inl x2), some (.inl x3), some (.inl x4), some (.inl x5), some (.inl x6), some (.inl x7)], [.inl x7, .inl x5, .inr (.inr (37, 0)), .inr (.inr (31, 0))], σ) (Ps := []) rfl trivial ?_
          obtain ⟨⟨v588, s587⟩, hq593, h⟩ := g_bind h
          refine c_V (rest := [.inr (.inr (31, 0))]) C0 hFr (t_X7_indexOfProduct hG f.2.1 N hq593) lk_X6_46 (k_at kX6_multiply_ok 42 rfl) rfl rfl rfl rfl ⟨_, _, rfl⟩ (by decide) (by decide) (Nat.le_of_ble_eq_true rfl) ?_
          obtain ⟨hc, h⟩ := g_if h
          refine m_blk C0 (pX6_ok rfl) kX6_multiply_ok 43 10 (97, [some (.inr (.inr (31, 0))), some (.inl x1), some (.inl x2), some (.inl x3), some (.inl x4), some (.inl x5), some (.inl x6), some (.inl x7)], [.inl (o_rem (mw (x6 * (s587 33 x3.toNat x7.toNat))) 32003), .inl v588, .inr (.inr (31, 0))], s587) (Ps := [0 ≤ x3 ∧ x3 < 8, 0 ≤ x7 ∧ x7 < 165, ¬ (32003 : Int) = 0]) rfl (And.intro hc.1 (And.intro hc.2 (And.intro (by decide) trivial))) ?_
          obtain ⟨s591, hq592, h⟩ := g_bind h
          refine c_V (rest := []) C0 hFr (t_X6_addAside hG f.2.1 N hq592) lk_X6_50 (k_at kX6_multiply_ok 53 rfl) rfl rfl rfl rfl ⟨_, _, rfl⟩ (by decide) (by decide) (Nat.le_of_ble_eq_true rfl) ?_
          refine m_blk C0 (pX6_ok rfl) kX6_multiply_ok 54 2 (45, [some (.inr (.inr (31, 0))), some (.inl x1), some (.inl x2), some (.inl x3), some (.inl x4), some (.inl x5), some (.inl x6), some (.inl (mw (x7 + 1)))], [], s591) (Ps := []) rfl trivial ?_
          refine m_mask [true, true, true, true, true, true, true, true] (ls' := [some (.inr (.inr (31, 0))), some (.inl x1), some (.inl x2), some (.inl x3), some (.inl x4), some (.inl x5), some (.inl x6), some (.inl (mw (x7 + 1)))]) rfl ?_
          exact IH _ _ _ _ _ _ _ _ _ h hK
set_option maxRecDepth 100000 in
set_option maxHeartbeats 4000000 in
theorem p_X6_multiply_23 {e : mEv} (hG : mGeo (mw0 e) lw_kept) (N : Nat) {f : mFx} (C0 : mCx f (mw0 e) sc0 cX6_multiply 8 RX6 lw_kept) (hFr : mFr f 2) : ∀ (n : Nat) (x1 : Int) (x2 : Int) (x3 : Int) (x4 : Int) (x5 : Int) (σ : mS) (σ' : mS), L_X6_multiply_23 N n x1 x2 x3 x4 x5 σ = some σ' → mWW f (mw0 e) sc0 8 (112, [some (.inr (.inr (31, 0))), some (.inl x1), none, none, none, none, none, none], [], σ') → mWW f (mw0 e) sc0 8 (23, [some (.inr (.inr (31, 0))), some (.inl x1), some (.inl x2), some (.inl x3), some (.inl x4), some (.inl x5), none, none], [], σ) := by
  intro n
  induction n with
  | zero =>
    intro x1 x2 x3 x4 x5 σ σ' h hK
    cases h
  | succ n IH =>
    intro x1 x2 x3 x4 x5 σ σ' h hK
    rw [L_X6_multiply_23_s] at h
    refine m_blk C0 (pX6_ok rfl) kX6_multiply_ok 13 2 (28, [some (.inr (.inr (31, 0))), some (.inl x1), some (.inl x2), some (.inl x3), some (.inl x4), some (.inl x5), none, none], [.inl 165, .inl x5], σ) (Ps := []) rfl trivial ?_
    refine b_ige C0 kX6_multiply_ok 15 (off := 84) (tgt := 112) rfl (by decide) (fun hb599 => ?_) (fun hb599 => ?_)
    · replace h := g_pos hb599 h
      cases h
      refine m_mask [true, true, false, false, false, false, false, false] (ls' := [some (.inr (.inr (31, 0))), some (.inl x1), none, none, none, none, none, none]) rfl ?_
      exact hK
    · replace h := g_neg hb599 h
      obtain ⟨hc, h⟩ := g_if h
      refine m_blk C0 (pX6_ok rfl) kX6_multiply_ok 16 9 (45, [some (.inr (.inr (31, 0))), some (.inl x1), some (.inl x2), some (.inl x3), some (.inl x4), some (.inl x5), some (.inl (σ 33 x2.toNat x5.toNat)), some (.inl 0)], [], σ) (Ps := [0 ≤ x2 ∧ x2 < 8, 0 ≤ x5 ∧ x5 < 165]) rfl (And.intro hc.1 (And.intro hc.2 trivial)) ?_
      obtain ⟨s597, hq598, h⟩ := g_bind h
      refine m_mask [true, true, true, true, true, true, true, true] (ls' := [some (.inr (.inr (31, 0))), some (.inl x1), some (.inl x2), some (.inl x3), some (.inl x4), some (.inl x5), some (.inl (σ 33 x2.toNat x5.toNat)), some (.inl 0)]) rfl ?_
      refine p_X6_multiply_45 hG N C0 hFr N _ _ _ _ _ _ _ _ _ hq598 ?_
      refine m_blk C0 (pX6_ok rfl) kX6_multiply_ok 56 2 (23, [some (.inr (.inr (31, 0))), some (.inl x1), some (.inl x2), some (.inl x3), some (.inl x4), some (.inl (mw (x5 + 1))), none, none], [], s597) (Ps := []) rfl trivial ?_
      refine m_mask [true, true, true, true, true, true, false, false] (ls' := [some (.inr (.inr (31, 0))), some (.inl x1), some (.inl x2), some (.inl x3), some (.inl x4), some (.inl (mw (x5 + 1))), none, none]) rfl ?_
      exact IH _ _ _ _ _ _ _ h hK
set_option maxRecDepth 100000 in
set_option maxHeartbeats 4000000 in
theorem t_X6_multiply {e : mEv} (hG : mGeo (mw0 e) lw_kept) (l : Launch) (N : Nat) {a1 : Int} {a2 : Int} {a3 : Int} {σ σ' : mS} (h : f_X6_multiply N a1 a2 a3 σ = some σ') : mMet l (mw0 e) lw_kept 2 yX6_multiply cX6_multiply 8 none [.inr (.inr (31, 0)), .inl a1, .inl a2, .inl a3] σ none σ' := by
  refine mMet_intro (plainFor_of_name (by decide)) hG (Nat.le_of_ble_eq_true rfl) (fun f hl hR C0 hFin => ?_)
  subst hl
  have hFr := mFr_of hR hFin
  unfold f_X6_multiply at h
  show mWW f (mw0 e) sc0 8 (0, [some (.inr (.inr (31, 0))), some (.inl a1), some (.inl a2), some (.inl a3), none, none, none, none], [], σ)
  refine m_blk C0 (pX6_ok rfl) kX6_multiply_ok 0 3 (5, [some (.inr (.inr (31, 0))), some (.inl a1), some (.inl a2), some (.inl a3), none, none, none, none], [.inl 0, .inr (.inr (34, 0))], σ) (Ps := []) rfl trivial ?_
  obtain ⟨s582, hq606, h⟩ := g_bind h
  refine c_S (rest := []) C0 hFr (t_J7_fill_53178_r34 hG f.2.1 N hq606) lk_X6_33 (k_at kX6_multiply_ok 3 rfl) rfl rfl rfl (by decide) (by decide) (Nat.le_of_ble_eq_true rfl) ?_
  refine m_blk C0 (pX6_ok rfl) kX6_multiply_ok 4 2 (10, [some (.inr (.inr (31, 0))), some (.inl a1), some (.inl a2), some (.inl a3), none, none, none, none], [.inl a3, .inr (.inr (31, 0))], s582) (Ps := []) rfl trivial ?_
  obtain ⟨⟨v584, s583⟩, hq605, h⟩ := g_bind h
  refine c_V (rest := []) C0 hFr (t_X6_degreeOf hG f.2.1 N hq605) lk_X6_39 (k_at kX6_multiply_ok 6 rfl) rfl rfl rfl rfl ⟨_, _, rfl⟩ (by decide) (by decide) (Nat.le_of_ble_eq_true rfl) ?_
  refine m_blk C0 (pX6_ok rfl) kX6_multiply_ok 7 2 (15, [some (.inr (.inr (31, 0))), some (.inl a1), some (.inl a2), some (.inl a3), none, none, none, none], [.inl (mw (v584 + 1))], s583) (Ps := []) rfl trivial ?_
  obtain ⟨⟨v586, s585⟩, hq604, h⟩ := g_bind h
  refine c_S (rest := []) C0 hFr (t_X7_firstOf hG f.2.1 N hq604) lk_X6_43 (k_at kX6_multiply_ok 9 rfl) rfl rfl rfl (by decide) (by decide) (Nat.le_of_ble_eq_true rfl) ?_
  refine m_blk C0 (pX6_ok rfl) kX6_multiply_ok 10 3 (23, [some (.inr (.inr (31, 0))), some (.inl a1), some (.inl a2), some (.inl a3), some (.inl v586), some (.inl 0), none, none], [], s585) (Ps := []) rfl trivial ?_
  obtain ⟨s600, hq603, h⟩ := g_bind h
  refine m_mask [true, true, true, true, true, true, false, false] (ls' := [some (.inr (.inr (31, 0))), some (.inl a1), some (.inl a2), some (.inl a3), some (.inl v586), some (.inl 0), none, none]) rfl ?_
  refine p_X6_multiply_23 hG N C0 hFr N _ _ _ _ _ _ _ hq603 ?_
  refine m_blk C0 (pX6_ok rfl) kX6_multiply_ok 58 2 (114, [some (.inr (.inr (31, 0))), some (.inl a1), none, none, none, none, none, none], [.inl a1, .inr (.inr (31, 0))], s600) (Ps := []) rfl trivial ?_
  obtain ⟨s601, hq602, h⟩ := g_bind h
  refine c_V (rest := []) C0 hFr (t_X6_keepAside hG f.2.1 N hq602) lk_X6_54 (k_at kX6_multiply_ok 60 rfl) rfl rfl rfl rfl ⟨_, _, rfl⟩ (by decide) (by decide) (Nat.le_of_ble_eq_true rfl) ?_
  cases h
  exact m_vret C0 hFin (k_at kX6_multiply_ok 61 rfl)
set_option maxRecDepth 100000 in
set_option maxHeartbeats 4000000 in
theorem t_X11_product {e : mEv} (hG : mGeo (mw0 e) lw_kept) (l : Launch) (N : Nat) {a1 : Int} {a2 : Int} {a3 : Int} {σ σ' : mS} {v : Int} (h : f_X11_product N a1 a2 a3 σ = some (v, σ')) : mMet l (mw0 e) lw_kept 3 yX11_product cX11_product 4 (some .int) [.inr (.inr (0, 0)), .inl a1, .inl a2, .inl a3] σ (some (.inl v)) σ' := by
  refine mMet_intro (plainFor_of_name (by decide)) hG (Nat.le_of_ble_eq_true rfl) (fun f hl hR C0 hFin => ?_)
  subst hl
  have hFr := mFr_of hR hFin
  unfold f_X11_product at h
  show mWW f (mw0 e) sc0 4 (0, [some (.inr (.inr (0, 0))), some (.inl a1), some (.inl a2), some (.inl a3)], [], σ)
  refine m_blk C0 (pX11_ok rfl) kX11_product_ok 0 3 (5, [some (.inr (.inr (0, 0))), some (.inl a1), some (.inl a2), some (.inl a3)], [.inl a1, .inr (.inr (31, 0))], σ) (Ps := []) rfl trivial ?_
  obtain ⟨⟨v570, s569⟩, hq620, h⟩ := g_bind h
  refine c_V (rest := []) C0 hFr (t_X6_has hG f.2.1 N hq620) lk_X11_146 (k_at kX11_product_ok 3 rfl) rfl rfl rfl rfl ⟨_, _, rfl⟩ (by decide) (by decide) (Nat.le_of_ble_eq_true rfl) ?_
  refine b_eq C0 kX11_product_ok 4 (off := 25) (tgt := 33) rfl (by decide) (fun hb619 => ?_) (fun hb619 => ?_)
  · replace h := g_pos hb619 h
    refine m_blk C0 (pX11_ok rfl) kX11_product_ok 15 1 (35, [some (.inr (.inr (0, 0))), some (.inl a1), some (.inl a2), some (.inl a3)], [.inl (-2)], s569) (Ps := []) rfl trivial ?_
    cases h
    exact m_iret C0 hFin (k_at kX11_product_ok 16 rfl) (Or.inl rfl)
  · replace h := g_neg hb619 h
    refine m_blk C0 (pX11_ok rfl) kX11_product_ok 5 3 (16, [some (.inr (.inr (0, 0))), some (.inl a1), some (.inl a2), some (.inl a3)], [.inl a2, .inr (.inr (31, 0))], s569) (Ps := []) rfl trivial ?_
    obtain ⟨⟨v572, s571⟩, hq618, h⟩ := g_bind h
    refine c_V (rest := []) C0 hFr (t_X6_has hG f.2.1 N hq618) lk_X11_146 (k_at kX11_product_ok 8 rfl) rfl rfl rfl rfl ⟨_, _, rfl⟩ (by decide) (by decide) (Nat.le_of_ble_eq_true rfl) ?_
    refine b_eq C0 kX11_product_ok 9 (off := 14) (tgt := 33) rfl (by decide) (fun hb617 => ?_) (fun hb617 => ?_)
    · replace h := g_pos hb617 h
      refine m_blk C0 (pX11_ok rfl) kX11_product_ok 15 1 (35, [some (.inr (.inr (0, 0))), some (.inl a1), some (.inl a2), some (.inl a3)], [.inl (-2)], s571) (Ps := []) rfl trivial ?_
      cases h
      exact m_iret C0 hFin (k_at kX11_product_ok 16 rfl) (Or.inl rfl)
    · replace h := g_neg hb617 h
      refine m_blk C0 (pX11_ok rfl) kX11_product_ok 10 3 (27, [some (.inr (.inr (0, 0))), some (.inl a1), some (.inl a2), some (.inl a3)], [.inl a3, .inr (.inr (31, 0))], s571) (Ps := []) rfl trivial ?_
      obtain ⟨⟨v574, s573⟩, hq616, h⟩ := g_bind h
      refine c_V (rest := []) C0 hFr (t_X6_has hG f.2.1 N hq616) lk_X11_146 (k_at kX11_product_ok 13 rfl) rfl rfl rfl rfl ⟨_, _, rfl⟩ (by decide) (by decide) (Nat.le_of_ble_eq_true rfl) ?_
      refine b_ne C0 kX11_product_ok 14 (off := 6) (tgt := 36) rfl (by decide) (fun hb615 => ?_) (fun hb615 => ?_)
      · replace h := g_neg hb615 h
        refine m_blk C0 (pX11_ok rfl) kX11_product_ok 17 3 (41, [some (.inr (.inr (0, 0))), some (.inl a1), some (.inl a2), some (.inl a3)], [.inl a2, .inr (.inr (31, 0))], s573) (Ps := []) rfl trivial ?_
        obtain ⟨⟨v576, s575⟩, hq614, h⟩ := g_bind h
        refine c_V (rest := []) C0 hFr (t_X6_degreeOf hG f.2.1 N hq614) lk_X11_162 (k_at kX11_product_ok 20 rfl) rfl rfl rfl rfl ⟨_, _, rfl⟩ (by decide) (by decide) (Nat.le_of_ble_eq_true rfl) ?_
        refine m_blk C0 (pX11_ok rfl) kX11_product_ok 21 3 (49, [some (.inr (.inr (0, 0))), some (.inl a1), some (.inl a2), some (.inl a3)], [.inl a3, .inr (.inr (31, 0)), .inl v576], s575) (Ps := []) rfl trivial ?_
        obtain ⟨⟨v578, s577⟩, hq613, h⟩ := g_bind h
        refine c_V (rest := [.inl v576]) C0 hFr (t_X6_degreeOf hG f.2.1 N hq613) lk_X11_162 (k_at kX11_product_ok 24 rfl) rfl rfl rfl rfl ⟨_, _, rfl⟩ (by decide) (by decide) (Nat.le_of_ble_eq_true rfl) ?_
        refine m_blk C0 (pX11_ok rfl) kX11_product_ok 25 2 (55, [some (.inr (.inr (0, 0))), some (.inl a1), some (.inl a2), some (.inl a3)], [.inl 8, .inl (mw (v576 + v578))], s577) (Ps := []) rfl trivial ?_
        refine b_ile C0 kX11_product_ok 27 (off := 6) (tgt := 61) rfl (by decide) (fun hb612 => ?_) (fun hb612 => ?_)
        · replace h := g_pos hb612 h
          refine m_blk C0 (pX11_ok rfl) kX11_product_ok 30 5 (68, [some (.inr (.inr (0, 0))), some (.inl a1), some (.inl a2), some (.inl a3)], [.inl a3, .inl a2, .inl a1, .inr (.inr (31, 0))], s577) (Ps := []) rfl trivial ?_
          obtain ⟨s607, hq611, h⟩ := g_bind h
          refine c_V (rest := []) C0 hFr (t_X6_multiply hG f.2.1 N hq611) lk_X11_169 (k_at kX11_product_ok 35 rfl) rfl rfl rfl rfl ⟨_, _, rfl⟩ (by decide) (by decide) (Nat.le_of_ble_eq_true rfl) ?_
          refine m_blk C0 (pX11_ok rfl) kX11_product_ok 36 3 (76, [some (.inr (.inr (0, 0))), some (.inl a1), some (.inl a2), some (.inl a3)], [.inl a1, .inr (.inr (31, 0))], s607) (Ps := []) rfl trivial ?_
          obtain ⟨⟨v609, s608⟩, hq610, h⟩ := g_bind h
          refine c_V (rest := []) C0 hFr (t_X6_degreeOf hG f.2.1 N hq610) lk_X11_162 (k_at kX11_product_ok 39 rfl) rfl rfl rfl rfl ⟨_, _, rfl⟩ (by decide) (by decide) (Nat.le_of_ble_eq_true rfl) ?_
          cases h
          exact m_iret C0 hFin (k_at kX11_product_ok 40 rfl) (Or.inl rfl)
        · replace h := g_neg hb612 h
          refine m_blk C0 (pX11_ok rfl) kX11_product_ok 28 1 (60, [some (.inr (.inr (0, 0))), some (.inl a1), some (.inl a2), some (.inl a3)], [.inl (-2)], s577) (Ps := []) rfl trivial ?_
          cases h
          exact m_iret C0 hFin (k_at kX11_product_ok 29 rfl) (Or.inl rfl)
      · replace h := g_pos hb615 h
        refine m_blk C0 (pX11_ok rfl) kX11_product_ok 15 1 (35, [some (.inr (.inr (0, 0))), some (.inl a1), some (.inl a2), some (.inl a3)], [.inl (-2)], s573) (Ps := []) rfl trivial ?_
        cases h
        exact m_iret C0 hFin (k_at kX11_product_ok 16 rfl) (Or.inl rfl)
set_option maxRecDepth 100000 in
set_option maxHeartbeats 4000000 in
theorem p_X6_addTurned_r33_r7_3 {e : mEv} (hG : mGeo (mw0 e) lw_kept) (N : Nat) {f : mFx} (C0 : mCx f (mw0 e) sc0 cX6_addTurned 6 RX6 lw_kept) (hFr : mFr f 2) : ∀ (n : Nat) (y1 : Nat) (y2 : Nat) (x3 : Int) (x4 : Int) (σ : mS) (σ' : mS), L_X6_addTurned_r33_r7_3 N n y1 y2 x3 x4 σ = some σ' → mWW f (mw0 e) sc0 6 (56, [none, none, none, none, none, none], [], σ') → mWW f (mw0 e) sc0 6 (3, [some (.inr (.inr (31, 0))), some (.inr (.inr (33, y1))), some (.inr (.inr (7, y2))), some (.inl x3), some (.inl x4), none], [], σ) := by
  intro n
  induction n with
  | zero =>
    intro y1 y2 x3 x4 σ σ' h hK
    cases h
  | succ n IH =>
    intro y1 y2 x3 x4 σ σ' h hK
    rw [L_X6_addTurned_r33_r7_3_s] at h
    refine m_blk C0 (pX6_ok rfl) kX6_addTurned_ok 2 2 (8, [some (.inr (.inr (31, 0))), some (.inr (.inr (33, y1))), some (.inr (.inr (7, y2))), some (.inl x3), some (.inl x4), none], [.inl 165, .inl x4], σ) (Ps := []) rfl trivial ?_
    refine b_ige C0 kX6_addTurned_ok 4 (off := 48) (tgt := 56) rfl (by decide) (fun hb640 => ?_) (fun hb640 => ?_)
    · replace h := g_pos hb640 h
      cases h
      refine m_mask [false, false, false, false, false, false] (ls' := [none, none, none, none, none, none]) rfl ?_
      exact hK
    · replace h := g_neg hb640 h
      obtain ⟨hc, h⟩ := g_if h
      refine m_blk C0 (pX6_ok rfl) kX6_addTurned_ok 5 3 (15, [some (.inr (.inr (31, 0))), some (.inr (.inr (33, y1))), some (.inr (.inr (7, y2))), some (.inl x3), some (.inl x4), none], [.inl (σ 33 y1 x4.toNat)], σ) (Ps := [0 ≤ x4 ∧ x4 < 165]) rfl (And.intro hc trivial) ?_
      refine b_eq C0 kX6_addTurned_ok 8 (off := 35) (tgt := 50) rfl (by decide) (fun hb639 => ?_) (fun hb639 => ?_)
      · replace h := g_pos hb639 h
        refine m_blk C0 (pX6_ok rfl) kX6_addTurned_ok 26 2 (3, [some (.inr (.inr (31, 0))), some (.inr (.inr (33, y1))), some (.inr (.inr (7, y2))), some (.inl x3), some (.inl (mw (x4 + 1))), none], [], σ) (Ps := []) rfl trivial ?_
        refine m_mask [true, true, true, true, true, false] (ls' := [some (.inr (.inr (31, 0))), some (.inr (.inr (33, y1))), some (.inr (.inr (7, y2))), some (.inl x3), some (.inl (mw (x4 + 1))), none]) rfl ?_
        exact IH _ _ _ _ _ _ h hK
      · replace h := g_neg hb639 h
        refine m_blk C0 (pX6_ok rfl) kX6_addTurned_ok 9 4 (25, [some (.inr (.inr (31, 0))), some (.inr (.inr (33, y1))), some (.inr (.inr (7, y2))), some (.inl x3), some (.inl x4), none], [.inl x4, .inr (.inr (7, y2)), .inr (.inr (37, 0))], σ) (Ps := []) rfl trivial ?_
        obtain ⟨⟨v629, s628⟩, hq638, h⟩ := g_bind h
        refine c_V (rest := []) C0 hFr (t_X7_turnedCode_r7 hG f.2.1 N hq638) lk_X6_68 (k_at kX6_addTurned_ok 13 rfl) rfl rfl rfl rfl ⟨_, _, rfl⟩ (by decide) (by decide) (Nat.le_of_ble_eq_true rfl) ?_
        refine m_blk C0 (pX6_ok rfl) kX6_addTurned_ok 14 3 (33, [some (.inr (.inr (31, 0))), some (.inr (.inr (33, y1))), some (.inr (.inr (7, y2))), some (.inl x3), some (.inl x4), some (.inl v629)], [.inl v629, .inr (.inr (31, 0))], s628) (Ps := []) rfl trivial ?_
        obtain ⟨⟨v631, s630⟩, hq637, h⟩ := g_bind h
        refine c_SN (rest := [.inr (.inr (31, 0))]) C0 hFr (t_X11_indexOfCode hG f.2.1 N hq637) lk_X6_72 (k_at kX6_addTurned_ok 17 rfl) rfl rfl rfl (by decide) (by decide) (Nat.le_of_ble_eq_true rfl) ?_
        obtain ⟨hc, h⟩ := g_if h
        refine m_blk C0 (pX6_ok rfl) kX6_addTurned_ok 18 6 (44, [some (.inr (.inr (31, 0))), some (.inr (.inr (33, y1))), some (.inr (.inr (7, y2))), some (.inl x3), some (.inl x4), some (.inl v629)], [.inl (s630 33 y1 x4.toNat), .inl (mw (v629 * x3)), .inl v631, .inr (.inr (31, 0))], s630) (Ps := [0 ≤ x4 ∧ x4 < 165]) rfl (And.intro hc trivial) ?_
        obtain ⟨⟨v633, s632⟩, hq636, h⟩ := g_bind h
        refine c_SN (rest := [.inl v631, .inr (.inr (31, 0))]) C0 hFr (t_X11_signedNumber hG f.2.1 N hq636) lk_X6_75 (k_at kX6_addTurned_ok 24 rfl) rfl rfl rfl (by decide) (by decide) (Nat.le_of_ble_eq_true rfl) ?_
        obtain ⟨s634, hq635, h⟩ := g_bind h
        refine c_V (rest := []) C0 hFr (t_X6_addAside hG f.2.1 N hq635) lk_X6_50 (k_at kX6_addTurned_ok 25 rfl) rfl rfl rfl rfl ⟨_, _, rfl⟩ (by decide) (by decide) (Nat.le_of_ble_eq_true rfl) ?_
        refine m_blk C0 (pX6_ok rfl) kX6_addTurned_ok 26 2 (3, [some (.inr (.inr (31, 0))), some (.inr (.inr (33, y1))), some (.inr (.inr (7, y2))), some (.inl x3), some (.inl (mw (x4 + 1))), some (.inl v629)], [], s634) (Ps := []) rfl trivial ?_
        refine m_mask [true, true, true, true, true, false] (ls' := [some (.inr (.inr (31, 0))), some (.inr (.inr (33, y1))), some (.inr (.inr (7, y2))), some (.inl x3), some (.inl (mw (x4 + 1))), none]) rfl ?_
        exact IH _ _ _ _ _ _ h hK
set_option maxRecDepth 100000 in
set_option maxHeartbeats 4000000 in
theorem t_X6_addTurned_r33_r7 {e : mEv} (hG : mGeo (mw0 e) lw_kept) (l : Launch) (N : Nat) {q1 : Nat} {q2 : Nat} {a3 : Int} {σ σ' : mS} (h : f_X6_addTurned_r33_r7 N q1 q2 a3 σ = some σ') : mMet l (mw0 e) lw_kept 2 yX6_addTurned cX6_addTurned 6 none [.inr (.inr (31, 0)), .inr (.inr (33, q1)), .inr (.inr (7, q2)), .inl a3] σ none σ' := by
  refine mMet_intro (plainFor_of_name (by decide)) hG (Nat.le_of_ble_eq_true rfl) (fun f hl hR C0 hFin => ?_)
  subst hl
  have hFr := mFr_of hR hFin
  unfold f_X6_addTurned_r33_r7 at h
  show mWW f (mw0 e) sc0 6 (0, [some (.inr (.inr (31, 0))), some (.inr (.inr (33, q1))), some (.inr (.inr (7, q2))), some (.inl a3), none, none], [], σ)
  refine m_blk C0 (pX6_ok rfl) kX6_addTurned_ok 0 2 (3, [some (.inr (.inr (31, 0))), some (.inr (.inr (33, q1))), some (.inr (.inr (7, q2))), some (.inl a3), some (.inl 0), none], [], σ) (Ps := []) rfl trivial ?_
  obtain ⟨s641, hq642, h⟩ := g_bind h
  refine m_mask [true, true, true, true, true, false] (ls' := [some (.inr (.inr (31, 0))), some (.inr (.inr (33, q1))), some (.inr (.inr (7, q2))), some (.inl a3), some (.inl 0), none]) rfl ?_
  refine p_X6_addTurned_r33_r7_3 hG N C0 hFr N _ _ _ _ _ _ hq642 ?_
  cases h
  exact m_vret C0 hFin (k_at kX6_addTurned_ok 28 rfl)
set_option maxRecDepth 100000 in
set_option maxHeartbeats 4000000 in
theorem t_X6_turnInto_r7 {e : mEv} (hG : mGeo (mw0 e) lw_kept) (l : Launch) (N : Nat) {a1 : Int} {a2 : Int} {q3 : Nat} {σ σ' : mS} (h : f_X6_turnInto_r7 N a1 a2 q3 σ = some σ') : mMet l (mw0 e) lw_kept 3 yX6_turnInto cX6_turnInto 4 none [.inr (.inr (31, 0)), .inl a1, .inl a2, .inr (.inr (7, q3))] σ none σ' := by
  refine mMet_intro (plainFor_of_name (by decide)) hG (Nat.le_of_ble_eq_true rfl) (fun f hl hR C0 hFin => ?_)
  subst hl
  have hFr := mFr_of hR hFin
  unfold f_X6_turnInto_r7 at h
  show mWW f (mw0 e) sc0 4 (0, [some (.inr (.inr (31, 0))), some (.inl a1), some (.inl a2), some (.inr (.inr (7, q3)))], [], σ)
  refine m_blk C0 (pX6_ok rfl) kX6_turnInto_ok 0 3 (5, [some (.inr (.inr (31, 0))), some (.inl a1), some (.inl a2), some (.inr (.inr (7, q3)))], [.inl 0, .inr (.inr (34, 0))], σ) (Ps := []) rfl trivial ?_
  obtain ⟨s627, hq647, h⟩ := g_bind h
  refine c_S (rest := []) C0 hFr (t_J7_fill_53178_r34 hG f.2.1 N hq647) lk_X6_33 (k_at kX6_turnInto_ok 3 rfl) rfl rfl rfl (by decide) (by decide) (Nat.le_of_ble_eq_true rfl) ?_
  obtain ⟨hc, h⟩ := g_if h
  refine m_blk C0 (pX6_ok rfl) kX6_turnInto_ok 4 7 (17, [some (.inr (.inr (31, 0))), some (.inl a1), some (.inl a2), some (.inr (.inr (7, q3)))], [.inl 1, .inr (.inr (7, q3)), .inr (.inr (33, a2.toNat)), .inr (.inr (31, 0))], s627) (Ps := [0 ≤ a2 ∧ a2 < 8]) rfl (And.intro hc trivial) ?_
  obtain ⟨s643, hq646, h⟩ := g_bind h
  refine c_V (rest := []) C0 hFr (t_X6_addTurned_r33_r7 hG f.2.1 N hq646) lk_X6_64 (k_at kX6_turnInto_ok 11 rfl) rfl rfl rfl rfl ⟨_, _, rfl⟩ (by decide) (by decide) (Nat.le_of_ble_eq_true rfl) ?_
  refine m_blk C0 (pX6_ok rfl) kX6_turnInto_ok 12 2 (22, [some (.inr (.inr (31, 0))), some (.inl a1), some (.inl a2), some (.inr (.inr (7, q3)))], [.inl a1, .inr (.inr (31, 0))], s643) (Ps := []) rfl trivial ?_
  obtain ⟨s644, hq645, h⟩ := g_bind h
  refine c_V (rest := []) C0 hFr (t_X6_keepAside hG f.2.1 N hq645) lk_X6_54 (k_at kX6_turnInto_ok 14 rfl) rfl rfl rfl rfl ⟨_, _, rfl⟩ (by decide) (by decide) (Nat.le_of_ble_eq_true rfl) ?_
  cases h
  exact m_vret C0 hFin (k_at kX6_turnInto_ok 15 rfl)
set_option maxRecDepth 100000 in
set_option maxHeartbeats 4000000 in
theorem t_X11_turned {e : mEv} (hG : mGeo (mw0 e) lw_kept) (l : Launch) (N : Nat) {a1 : Int} {a2 : Int} {a3 : Int} {σ σ' : mS} {v : Int} (h : f_X11_turned N a1 a2 a3 σ = some (v, σ')) : mMet l (mw0 e) lw_kept 4 yX11_turned cX11_turned 4 (some .int) [.inr (.inr (0, 0)), .inl a1, .inl a2, .inl a3] σ (some (.inl v)) σ' := by
  refine mMet_intro (plainFor_of_name (by decide)) hG (Nat.le_of_ble_eq_true rfl) (fun f hl hR C0 hFin => ?_)
  subst hl
  have hFr := mFr_of hR hFin
  unfold f_X11_turned at h
  show mWW f (mw0 e) sc0 4 (0, [some (.inr (.inr (0, 0))), some (.inl a1), some (.inl a2), some (.inl a3)], [], σ)
  refine m_blk C0 (pX11_ok rfl) kX11_turned_ok 0 3 (5, [some (.inr (.inr (0, 0))), some (.inl a1), some (.inl a2), some (.inl a3)], [.inl a1, .inr (.inr (31, 0))], σ) (Ps := []) rfl trivial ?_
  obtain ⟨⟨v622, s621⟩, hq658, h⟩ := g_bind h
  refine c_V (rest := []) C0 hFr (t_X6_has hG f.2.1 N hq658) lk_X11_146 (k_at kX11_turned_ok 3 rfl) rfl rfl rfl rfl ⟨_, _, rfl⟩ (by decide) (by decide) (Nat.le_of_ble_eq_true rfl) ?_
  refine b_eq C0 kX11_turned_ok 4 (off := 25) (tgt := 33) rfl (by decide) (fun hb657 => ?_) (fun hb657 => ?_)
  · replace h := g_pos hb657 h
    refine m_blk C0 (pX11_ok rfl) kX11_turned_ok 15 1 (35, [some (.inr (.inr (0, 0))), some (.inl a1), some (.inl a2), some (.inl a3)], [.inl (-2)], s621) (Ps := []) rfl trivial ?_
    cases h
    exact m_iret C0 hFin (k_at kX11_turned_ok 16 rfl) (Or.inl rfl)
  · replace h := g_neg hb657 h
    refine m_blk C0 (pX11_ok rfl) kX11_turned_ok 5 3 (16, [some (.inr (.inr (0, 0))), some (.inl a1), some (.inl a2), some (.inl a3)], [.inl a2, .inr (.inr (31, 0))], s621) (Ps := []) rfl trivial ?_
    obtain ⟨⟨v624, s623⟩, hq656, h⟩ := g_bind h
    refine c_V (rest := []) C0 hFr (t_X6_has hG f.2.1 N hq656) lk_X11_146 (k_at kX11_turned_ok 8 rfl) rfl rfl rfl rfl ⟨_, _, rfl⟩ (by decide) (by decide) (Nat.le_of_ble_eq_true rfl) ?_
    refine b_eq C0 kX11_turned_ok 9 (off := 14) (tgt := 33) rfl (by decide) (fun hb655 => ?_) (fun hb655 => ?_)
    · replace h := g_pos hb655 h
      refine m_blk C0 (pX11_ok rfl) kX11_turned_ok 15 1 (35, [some (.inr (.inr (0, 0))), some (.inl a1), some (.inl a2), some (.inl a3)], [.inl (-2)], s623) (Ps := []) rfl trivial ?_
      cases h
      exact m_iret C0 hFin (k_at kX11_turned_ok 16 rfl) (Or.inl rfl)
    · replace h := g_neg hb655 h
      refine m_blk C0 (pX11_ok rfl) kX11_turned_ok 10 3 (27, [some (.inr (.inr (0, 0))), some (.inl a1), some (.inl a2), some (.inl a3)], [.inl a3, .inr (.inr (5, 0))], s623) (Ps := []) rfl trivial ?_
      obtain ⟨⟨v626, s625⟩, hq654, h⟩ := g_bind h
      refine c_V (rest := []) C0 hFr (t_X1_has hG f.2.1 N hq654) lk_X11_118 (k_at kX11_turned_ok 13 rfl) rfl rfl rfl rfl ⟨_, _, rfl⟩ (by decide) (by decide) (Nat.le_of_ble_eq_true rfl) ?_
      refine b_ne C0 kX11_turned_ok 14 (off := 6) (tgt := 36) rfl (by decide) (fun hb653 => ?_) (fun hb653 => ?_)
      · replace h := g_neg hb653 h
        obtain ⟨hc, h⟩ := g_if h
        refine m_blk C0 (pX11_ok rfl) kX11_turned_ok 17 9 (51, [some (.inr (.inr (0, 0))), some (.inl a1), some (.inl a2), some (.inl a3)], [.inr (.inr (7, a3.toNat)), .inl a2, .inl a1, .inr (.inr (31, 0))], s625) (Ps := [0 ≤ a3 ∧ a3 < 48]) rfl (And.intro hc trivial) ?_
        obtain ⟨s648, hq652, h⟩ := g_bind h
        refine c_V (rest := []) C0 hFr (t_X6_turnInto_r7 hG f.2.1 N hq652) lk_X11_173 (k_at kX11_turned_ok 26 rfl) rfl rfl rfl rfl ⟨_, _, rfl⟩ (by decide) (by decide) (Nat.le_of_ble_eq_true rfl) ?_
        refine m_blk C0 (pX11_ok rfl) kX11_turned_ok 27 3 (59, [some (.inr (.inr (0, 0))), some (.inl a1), some (.inl a2), some (.inl a3)], [.inl a1, .inr (.inr (31, 0))], s648) (Ps := []) rfl trivial ?_
        obtain ⟨⟨v650, s649⟩, hq651, h⟩ := g_bind h
        refine c_V (rest := []) C0 hFr (t_X6_degreeOf hG f.2.1 N hq651) lk_X11_162 (k_at kX11_turned_ok 30 rfl) rfl rfl rfl rfl ⟨_, _, rfl⟩ (by decide) (by decide) (Nat.le_of_ble_eq_true rfl) ?_
        cases h
        exact m_iret C0 hFin (k_at kX11_turned_ok 31 rfl) (Or.inl rfl)
      · replace h := g_pos hb653 h
        refine m_blk C0 (pX11_ok rfl) kX11_turned_ok 15 1 (35, [some (.inr (.inr (0, 0))), some (.inl a1), some (.inl a2), some (.inl a3)], [.inl (-2)], s625) (Ps := []) rfl trivial ?_
        cases h
        exact m_iret C0 hFin (k_at kX11_turned_ok 16 rfl) (Or.inl rfl)
