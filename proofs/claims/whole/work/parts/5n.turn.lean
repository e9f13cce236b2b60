/-! turn and drop -/
theorem cok_iff {a : Int} : cok a ↔ a ≠ 0 ∧ -3 ≤ a ∧ a ≤ 3 := by
  unfold cok
  omega
theorem X10_isCode_eq {N : Nat} {a : Int} {σ : mS} : (cok a → f_X10_isCode N a σ = some (1, σ)) ∧ (¬ cok a → f_X10_isCode N a σ = some (0, σ)) := by
  unfold f_X10_isCode
  rw [cok_iff]
  by_cases q0 : a = 0
  · rw [if_pos q0]; exact ⟨fun h => absurd q0 h.1, fun _ => rfl⟩
  · rw [if_neg q0]
    by_cases q1 : a < -3
    · rw [if_pos q1]; exact ⟨fun h => by omega, fun _ => rfl⟩
    · rw [if_neg q1]
      by_cases q2 : 3 < a
      · rw [if_pos q2]; exact ⟨fun h => by omega, fun _ => rfl⟩
      · rw [if_neg q2]; exact ⟨fun _ => rfl, fun h => absurd ⟨q0, by omega, by omega⟩ h⟩
theorem X12_isCode_eq {N : Nat} {a : Int} {σ : mS} : (cok a → f_X12_isCode N a σ = some (1, σ)) ∧ (¬ cok a → f_X12_isCode N a σ = some (0, σ)) := by
  unfold f_X12_isCode
  rw [cok_iff]
  by_cases q1 : a < -3
  · rw [if_pos q1]; exact ⟨fun h => by omega, fun _ => rfl⟩
  · rw [if_neg q1]
    by_cases q2 : 3 < a
    · rw [if_pos q2]; exact ⟨fun h => by omega, fun _ => rfl⟩
    · rw [if_neg q2]
      by_cases q0 : a = 0
      · rw [if_pos q0]; exact ⟨fun h => absurd q0 h.1, fun _ => rfl⟩
      · rw [if_neg q0]; exact ⟨fun _ => rfl, fun h => absurd ⟨q0, by omega, by omega⟩ h⟩
theorem cok_abs {a : Int} (h : cok a) : 1 ≤ a.natAbs ∧ a.natAbs ≤ 3 := by rcases h with rfl | rfl | rfl | rfl | rfl | rfl <;> decide
theorem X10_areTurn_eq {N : Nat} {a b c : Int} {σ : mS} : (tok (a, b, c) → f_X10_areTurn N a b c σ = some (1, σ)) ∧ (¬ tok (a, b, c) → f_X10_areTurn N a b c σ = some (0, σ)) := by
  unfold f_X10_areTurn
  by_cases ha : cok a
  · rw [X10_isCode_eq.1 ha, Option.bind_some]
    try dsimp only
    rw [if_neg (by decide)]
    by_cases hb : cok b
    · rw [X10_isCode_eq.1 hb, Option.bind_some]
      try dsimp only
      rw [if_neg (by decide)]
      by_cases hc : cok c
      · rw [X10_isCode_eq.1 hc, Option.bind_some]
        try dsimp only
        rw [if_neg (by decide), X11_ixc ha, Option.bind_some]
        try dsimp only
        rw [X11_ixc hb, Option.bind_some]
        try dsimp only
        rw [X11_ixc hc, Option.bind_some]
        try dsimp only
        have xa := cok_abs ha
        have xb := cok_abs hb
        have xc := cok_abs hc
        by_cases q1 : a.natAbs = b.natAbs
        · rw [if_pos (by omega)]; exact ⟨fun h => absurd q1 h.2.2.2.1, fun _ => rfl⟩
        · rw [if_neg (by omega)]
          by_cases q2 : a.natAbs = c.natAbs
          · rw [if_pos (by omega)]; exact ⟨fun h => absurd q2 h.2.2.2.2.1, fun _ => rfl⟩
          · rw [if_neg (by omega)]
            by_cases q3 : b.natAbs = c.natAbs
            · rw [if_pos (by omega)]; exact ⟨fun h => absurd q3 h.2.2.2.2.2, fun _ => rfl⟩
            · rw [if_neg (by omega)]; exact ⟨fun _ => rfl, fun h => absurd ⟨ha, hb, hc, q1, q2, q3⟩ h⟩
      · rw [X10_isCode_eq.2 hc, Option.bind_some]
        exact ⟨fun h => absurd h.2.2.1 hc, fun _ => rfl⟩
    · rw [X10_isCode_eq.2 hb, Option.bind_some]
      exact ⟨fun h => absurd h.2.1 hb, fun _ => rfl⟩
  · rw [X10_isCode_eq.2 ha, Option.bind_some]
    exact ⟨fun h => absurd h.1 ha, fun _ => rfl⟩
def tst (T : Nat → Option tn) (i : Nat) (x : Option tn) (k : Nat) : Option tn := if k = i then x else T k
theorem tst_s (T : Nat → Option tn) (i : Nat) (x : Option tn) : tst T i x i = x := if_pos rfl
theorem tst_o (T : Nat → Option tn) {i k : Nat} (x : Option tn) (h : k ≠ i) : tst T i x k = T k := if_neg h
theorem X11_turn_eq {N : Nat} {i a b c : Int} {T : Nat → Option tn} {σ : mS} (hT : TC σ T) : (0 ≤ i ∧ i < 4 ∧ tok (a, b, c) → ∃ σ', f_X11_turn N i a b c σ = some (1, σ') ∧ fr [3, 4] σ σ' ∧ TC σ' (tst T i.toNat (some (a, b, c)))) ∧ (¬ (0 ≤ i ∧ i < 4 ∧ tok (a, b, c)) → f_X11_turn N i a b c σ = some (0, σ)) := by
  unfold f_X11_turn f_X10_tell
  refine ⟨fun ⟨h1, h2, h3⟩ => ?_, fun h => ?_⟩
  · rw [if_neg (by omega), if_neg (by omega), X10_areTurn_eq.1 h3, Option.bind_some]
    try dsimp only
    rw [if_neg (by decide), if_pos (by omega), Option.bind_some]
    try dsimp only
    rw [if_pos (Or.inr rfl)]
    refine ⟨_, rfl, fr_mup (fr_mup (fr_mup (fr_mup fr_rfl (by decide)) (by decide)) (by decide)) (by decide), fun k hk => ?_⟩
    by_cases e : k = i.toNat
    · subst e
      rw [tst_s]
      refine ⟨by rw [mup_s]; rfl, fun t ht => ?_⟩
      cases ht
      refine ⟨h3, ?_⟩
      simp [mup_def]
    · rw [tst_o T _ e]
      obtain ⟨t1, t2⟩ := hT k hk
      refine ⟨by rw [mup_k e, mup_r (by decide), mup_r (by decide), mup_r (by decide)]; exact t1, fun t ht => ?_⟩
      have cell : ∀ j, mup (mup (mup (mup σ 3 i.toNat 0 a) 3 i.toNat 1 b) 3 i.toNat 2 c) 4 0 i.toNat 1 3 k j = σ 3 k j := fun j => by rw [mup_r (by decide), mup_i e, mup_i e, mup_i e]
      rw [cell 0, cell 1, cell 2]
      exact t2 t ht
  · by_cases q1 : i < 0
    · rw [if_pos q1, Option.bind_some]; rfl
    · rw [if_neg q1]
      by_cases q2 : 4 ≤ i
      · rw [if_pos q2, Option.bind_some]; rfl
      · rw [if_neg q2, X10_areTurn_eq.2 (fun z => h ⟨by omega, by omega, z⟩), Option.bind_some]; rfl
theorem X11_drop_eq {N : Nat} {i : Int} {T : Nat → Option tn} {σ : mS} (hT : TC σ T) : (0 ≤ i ∧ i < 4 ∧ (T i.toNat).isSome = true → ∃ σ', f_X11_drop N i σ = some (1, σ') ∧ fr [4] σ σ' ∧ TC σ' (tst T i.toNat none)) ∧ (¬ (0 ≤ i ∧ i < 4 ∧ (T i.toNat).isSome = true) → f_X11_drop N i σ = some (0, σ)) := by
  unfold f_X11_drop f_X10_forget
  refine ⟨fun ⟨h1, h2, h3⟩ => ?_, fun h => ?_⟩
  · obtain ⟨t1, -⟩ := hT i.toNat (by omega)
    rw [h3] at t1
    rw [if_neg (by omega), if_neg (by omega), if_pos (by omega), t1, if_neg (by decide), if_pos (by omega), Option.bind_some]
    try dsimp only
    rw [if_pos (Or.inr rfl)]
    refine ⟨_, rfl, fr_mup fr_rfl (by decide), fun k hk => ?_⟩
    by_cases e : k = i.toNat
    · subst e
      rw [tst_s]
      exact ⟨by rw [mup_s]; rfl, fun t ht => by cases ht⟩
    · rw [tst_o T _ e, mup_k e, mup_r (by decide), mup_r (by decide), mup_r (by decide)]
      exact hT k hk
  · by_cases q1 : i < 0
    · rw [if_pos q1, Option.bind_some]; rfl
    · rw [if_neg q1]
      by_cases q2 : 4 ≤ i
      · rw [if_pos q2, Option.bind_some]; rfl
      · obtain ⟨t1, -⟩ := hT i.toNat (by omega)
        have h3 : (T i.toNat).isSome = false := by
          cases hb : (T i.toNat).isSome with
          | false => rfl
          | true => exact absurd ⟨by omega, by omega, hb⟩ h
        rw [h3] at t1
        rw [if_neg q2, if_pos (by omega), if_pos (by rw [t1]; rfl), Option.bind_some]; rfl
theorem X12_isIn_eq {N : Nat} {a l m : Int} {σ : mS} : (l ≤ a ∧ a ≤ m → f_X12_isIn N a l m σ = some (1, σ)) ∧ (¬ (l ≤ a ∧ a ≤ m) → f_X12_isIn N a l m σ = some (0, σ)) := by
  unfold f_X12_isIn
  by_cases q1 : a < l
  · rw [if_pos q1]; exact ⟨fun h => by omega, fun _ => rfl⟩
  · rw [if_neg q1]
    by_cases q2 : m < a
    · rw [if_pos q2]; exact ⟨fun h => by omega, fun _ => rfl⟩
    · rw [if_neg q2]; exact ⟨fun _ => rfl, fun h => absurd ⟨by omega, by omega⟩ h⟩
theorem X12_refuse {N : Nat} {i : Int} {X : mS → Option (Int × mS)} {σ : mS} : (Option.bind (f_X12_isIn N i 0 3 σ) fun ⟨v, s⟩ => if v = 0 then some ((0 : Int), s) else if (0 : Int) = 0 then some ((0 : Int), s) else X s) = some (0, σ) := by
  by_cases q : 0 ≤ i ∧ i ≤ 3
  · rw [X12_isIn_eq.1 q]; rfl
  · rw [X12_isIn_eq.2 q]; rfl
theorem X12_turn_eq {N : Nat} {i a b c : Int} {T : Nat → Option tn} {σ : mS} (hT : TR σ T) : (0 ≤ i ∧ i < 4 ∧ tok (a, b, c) → ∃ σ', f_X12_turn N i a b c σ = some (1, σ') ∧ fr [72, 73] σ σ' ∧ TR σ' (tst T i.toNat (some (a, b, c)))) ∧ (¬ (0 ≤ i ∧ i < 4 ∧ tok (a, b, c)) → f_X12_turn N i a b c σ = some (0, σ)) := by
  unfold f_X12_turn
  refine ⟨fun ⟨h1, h2, h3⟩ => ?_, fun h => ?_⟩
  · obtain ⟨ka, kb, kc, n1, n2, n3⟩ := h3
    try dsimp only at ka kb kc n1 n2 n3
    have e1 : mw (3 * i) = 3 * i := mw_id (by omega) (by omega)
    have e2 : mw (3 * i + 1) = 3 * i + 1 := mw_id (by omega) (by omega)
    have e3 : mw (3 * i + 2) = 3 * i + 2 := mw_id (by omega) (by omega)
    have u1 : (3 * i).toNat = 3 * i.toNat := by omega
    have u2 : (3 * i + 1).toNat = 3 * i.toNat + 1 := by omega
    have u3 : (3 * i + 2).toNat = 3 * i.toNat + 2 := by omega
    rw [X12_isCode_eq.1 ka, Option.bind_some]
    try dsimp only
    rw [if_neg (by decide), X12_isCode_eq.1 kb, Option.bind_some]
    try dsimp only
    rw [if_neg (by decide), X12_isCode_eq.1 kc, Option.bind_some]
    try dsimp only
    rw [if_neg (by decide), X12_size_eq ka, Option.bind_some]
    try dsimp only
    rw [X12_size_eq kb, Option.bind_some]
    try dsimp only
    rw [if_neg (by omega), X12_size_eq kb, Option.bind_some]
    try dsimp only
    rw [X12_size_eq kc, Option.bind_some]
    try dsimp only
    rw [if_neg (by omega), X12_size_eq ka, Option.bind_some]
    try dsimp only
    rw [X12_size_eq kc, Option.bind_some]
    try dsimp only
    rw [if_neg (by omega), X12_isIn_eq.1 ⟨by omega, by omega⟩, Option.bind_some]
    try dsimp only
    rw [if_neg (by decide), if_neg (by decide), e1, e2, e3, u1, u2, u3, if_pos (by omega)]
    refine ⟨_, rfl, fr_mup (fr_mup (fr_mup (fr_mup fr_rfl (by decide)) (by decide)) (by decide)) (by decide), fun k hk => ?_⟩
    by_cases e : k = i.toNat
    · subst e
      rw [tst_s]
      refine ⟨by rw [mup_r (by decide), mup_r (by decide), mup_r (by decide), mup_s]; rfl, fun t ht => ?_⟩
      cases ht
      refine ⟨⟨ka, kb, kc, n1, n2, n3⟩, ?_⟩
      simp [mup_def]
    · rw [tst_o T _ e]
      obtain ⟨t1, t2⟩ := hT k hk
      refine ⟨by rw [mup_r (by decide), mup_r (by decide), mup_r (by decide), mup_k e]; exact t1, fun t ht => ?_⟩
      have cell : ∀ j, j < 3 → mup (mup (mup (mup σ 72 0 i.toNat 1) 73 0 (3 * i.toNat) a) 73 0 (3 * i.toNat + 1) b) 73 0 (3 * i.toNat + 2) c 73 0 (3 * k + j) = σ 73 0 (3 * k + j) := fun j hj => by rw [mup_k (by omega), mup_k (by omega), mup_k (by omega), mup_r (by decide)]
      have cell0 := cell 0 (by decide)
      simp only [Nat.add_zero] at cell0
      rw [cell0, cell 1 (by decide), cell 2 (by decide)]
      exact t2 t ht
  · by_cases ha : cok a
    · rw [X12_isCode_eq.1 ha, Option.bind_some]
      try dsimp only
      rw [if_neg (by decide)]
      by_cases hb : cok b
      · rw [X12_isCode_eq.1 hb, Option.bind_some]
        try dsimp only
        rw [if_neg (by decide)]
        by_cases hc : cok c
        · rw [X12_isCode_eq.1 hc, Option.bind_some]
          try dsimp only
          rw [if_neg (by decide), X12_size_eq ha, Option.bind_some]
          try dsimp only
          rw [X12_size_eq hb, Option.bind_some]
          try dsimp only
          by_cases q1 : a.natAbs = b.natAbs
          · rw [if_pos (by omega)]
            by_cases qq : 0 ≤ i ∧ i ≤ 3
            · rw [X12_isIn_eq.1 qq]; rfl
            · rw [X12_isIn_eq.2 qq]; rfl
          · rw [if_neg (by omega), X12_size_eq hb, Option.bind_some]
            try dsimp only
            rw [X12_size_eq hc, Option.bind_some]
            try dsimp only
            by_cases q2 : b.natAbs = c.natAbs
            · rw [if_pos (by omega)]
              by_cases qq : 0 ≤ i ∧ i ≤ 3
              · rw [X12_isIn_eq.1 qq]; rfl
              · rw [X12_isIn_eq.2 qq]; rfl
            · rw [if_neg (by omega), X12_size_eq ha, Option.bind_some]
              try dsimp only
              rw [X12_size_eq hc, Option.bind_some]
              try dsimp only
              by_cases q3 : a.natAbs = c.natAbs
              · rw [if_pos (by omega)]
                by_cases qq : 0 ≤ i ∧ i ≤ 3
                · rw [X12_isIn_eq.1 qq]; rfl
                · rw [X12_isIn_eq.2 qq]; rfl
              · rw [if_neg (by omega), X12_isIn_eq.2 (fun z => h ⟨by omega, by omega, ha, hb, hc, q1, q3, q2⟩), Option.bind_some]; rfl
        · rw [X12_isCode_eq.2 hc, Option.bind_some]
          try dsimp only
          rw [if_pos rfl]
          by_cases qq : 0 ≤ i ∧ i ≤ 3
          · rw [X12_isIn_eq.1 qq]; rfl
          · rw [X12_isIn_eq.2 qq]; rfl
      · rw [X12_isCode_eq.2 hb, Option.bind_some]
        try dsimp only
        rw [if_pos rfl]
        by_cases qq : 0 ≤ i ∧ i ≤ 3
        · rw [X12_isIn_eq.1 qq]; rfl
        · rw [X12_isIn_eq.2 qq]; rfl
    · rw [X12_isCode_eq.2 ha, Option.bind_some]
      try dsimp only
      rw [if_pos rfl]
      by_cases qq : 0 ≤ i ∧ i ≤ 3
      · rw [X12_isIn_eq.1 qq]; rfl
      · rw [X12_isIn_eq.2 qq]; rfl
theorem X12_drop_eq {N : Nat} {i : Int} {T : Nat → Option tn} {σ : mS} (hT : TR σ T) : (0 ≤ i ∧ i < 4 ∧ (T i.toNat).isSome = true → ∃ σ', f_X12_drop N i σ = some (1, σ') ∧ fr [72] σ σ' ∧ TR σ' (tst T i.toNat none)) ∧ (¬ (0 ≤ i ∧ i < 4 ∧ (T i.toNat).isSome = true) → f_X12_drop N i σ = some (0, σ)) := by
  unfold f_X12_drop
  refine ⟨fun ⟨h1, h2, h3⟩ => ?_, fun h => ?_⟩
  · obtain ⟨t1, -⟩ := hT i.toNat (by omega)
    rw [h3] at t1
    rw [X12_isIn_eq.1 ⟨by omega, by omega⟩, Option.bind_some]
    try dsimp only
    rw [if_neg (by decide), if_pos (by omega), if_neg (by rw [t1]; decide), if_pos (by omega)]
    refine ⟨_, rfl, fr_mup fr_rfl (by decide), fun k hk => ?_⟩
    by_cases e : k = i.toNat
    · subst e
      rw [tst_s]
      exact ⟨by rw [mup_s]; rfl, fun t ht => by cases ht⟩
    · rw [tst_o T _ e, mup_k e, mup_r (by decide), mup_r (by decide), mup_r (by decide)]
      exact hT k hk
  · by_cases q : 0 ≤ i ∧ i ≤ 3
    · obtain ⟨t1, -⟩ := hT i.toNat (by omega)
      have h3 : (T i.toNat).isSome = false := by
        cases hb : (T i.toNat).isSome with
        | false => rfl
        | true => exact absurd ⟨by omega, by omega, hb⟩ h
      rw [h3] at t1
      rw [X12_isIn_eq.1 q, Option.bind_some]
      try dsimp only
      rw [if_neg (by decide), if_pos (by omega), if_pos (by rw [t1]; rfl)]
    · rw [X12_isIn_eq.2 q, Option.bind_some]; rfl
