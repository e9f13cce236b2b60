/-! products of polynomials, as rows of numbers: pure -/
def cv (A B : Nat → Int) (c : Nat) : Int := sm (fun a => A a * B (c - a)) (c + 1)
def oneP (a : Nat) : Int := if a = 0 then 1 else 0
theorem sm_shift (F : Nat → Int) (a : Nat) : ∀ n, sm (fun b => if a ≤ b then F b else 0) (a + n) = sm (fun b => F (a + b)) n
  | 0 => by
    rw [Nat.add_zero]
    exact sm_z (fun k hk => if_neg (by omega))
  | n + 1 => by
    rw [show a + (n + 1) = (a + n) + 1 from by omega, sm_s, sm_s, sm_shift F a n, if_pos (by omega)]
theorem sm_ind (G : Nat → Int) {b c : Nat} (h : b ≤ c) : sm G (b + 1) = sm (fun a => if a ≤ b then G a else 0) (c + 1) := by
  rw [sm_to (m := b + 1) (c + 1) (by omega) (fun k h1 h2 => if_neg (by omega))]
  exact sm_cg (b + 1) (fun a ha => by rw [if_pos (by omega)])
theorem cv_as (A B C : Nat → Int) (c : Nat) : cv (cv A B) C c = cv A (cv B C) c := by
  have e1 : cv (cv A B) C c = sm (fun b => sm (fun a => if a ≤ b then A a * (B (b - a) * C (c - b)) else 0) (c + 1)) (c + 1) := by
    unfold cv
    refine sm_cg (c + 1) (fun b hb => ?_)
    rw [← sm_mulr, sm_ind (fun a => A a * B (b - a) * C (c - b)) (show b ≤ c by omega)]
    exact sm_cg (c + 1) (fun a _ => by rw [Int.mul_assoc])
  rw [e1, sm_swap]
  unfold cv
  refine sm_cg (c + 1) (fun a ha => ?_)
  have e2 := sm_shift (fun b => A a * (B (b - a) * C (c - b))) a (c - a + 1)
  rw [show a + (c - a + 1) = c + 1 from by omega] at e2
  rw [e2, ← sm_mul]
  exact sm_cg (c - a + 1) (fun b hb => by
    rw [show a + b - a = b from by omega, show c - (a + b) = c - a - b from by omega])
theorem cv_1l (A : Nat → Int) (c : Nat) : cv oneP A c = A c := by
  unfold cv oneP
  rw [sm_one (x := 0) (c + 1) (by omega) (fun k _ h => by rw [if_neg h, Int.zero_mul]), if_pos rfl, Int.one_mul, Nat.sub_zero]
theorem cv_1r (A : Nat → Int) (c : Nat) : cv A oneP c = A c := by
  unfold cv oneP
  rw [sm_one (x := c) (c + 1) (by omega) (fun k hk h => by rw [if_neg (by omega), Int.mul_zero]), if_pos (by omega), Int.mul_one]
theorem em_cv {A A' B B' : Nat → Int} (hA : ∀ a, em (A a) (A' a)) (hB : ∀ a, em (B a) (B' a)) (c : Nat) : em (cv A B c) (cv A' B' c) := em_sm (c + 1) (fun a _ => em_mul (hA a) (hB (c - a)))
theorem cv_cg {A A' B B' : Nat → Int} (hA : ∀ a, A a = A' a) (hB : ∀ a, B a = B' a) (c : Nat) : cv A B c = cv A' B' c := sm_cg (c + 1) (fun a _ => by rw [hA, hB])
/-- of one degree -/
def hom (d : Nat) (A : Nat → Int) : Prop := ∀ a, dg a ≠ d → A a = 0
theorem dg_lt {a : Nat} (h : dg a ≤ 8) : a < 729 := by unfold dg at h; omega
theorem hom_cv {d e : Nat} {A B : Nat → Int} (hA : hom d A) (hB : hom e B) (h : d + e ≤ 8) : hom (d + e) (cv A B) := by
  intro c hc
  refine sm_z (fun a ha => ?_)
  by_cases q1 : dg a = d
  · by_cases q2 : dg (c - a) = e
    · have := (add_ax (dg_lt (a := a) (by omega)) (dg_lt (a := c - a) (by omega)) (by omega) (by omega) (by omega)).2
      rw [show a + (c - a) = c from by omega] at this
      omega
    · rw [hB _ q2, Int.mul_zero]
  · rw [hA _ q1, Int.zero_mul]
theorem hom_1 : hom 0 oneP := by
  intro a ha
  unfold oneP
  rw [if_neg (fun e => ha (by rw [e]; decide))]
-- MEAN for SIGN 0 of one POWERS alone
def meanM (E : Nat → tn) (n x k : Nat) : Int := sm (fun g => if tX (E g) x = k then tS (E g) x else 0) n * (iv n : Int) % 32003
theorem meanM_rg (E : Nat → tn) (n x k : Nat) : 0 ≤ meanM E n x k ∧ meanM E n x k < 32003 := md_lt _
theorem meanM_hom {E : Nat → tn} {n x : Nat} (hG : GP E n) (hx : x < 165) : hom (pD x) (PR (meanM E n x)) := by
  intro a ha
  unfold PR
  by_cases hd : dg a ≤ 8
  · rw [if_pos hd]
    unfold meanM
    rw [sm_z (fun g hg => if_neg (fun z => ?_))]
    · simp
    · have ht := hG.2.2.1 g hg
      have h1 := tX_d ht hx
      rw [z] at h1
      have h2 := dg_ax (xa_lt (dg_lt hd) hd)
      rw [ax_xa (dg_lt hd) hd] at h2
      omega
  · rw [if_neg hd]
-- the FEW, told by degree and POWERS, and PRODUCTS of them, told by the numbers of the FEW
def fwd (L : List (Nat × Nat)) (i : Nat) : Nat := (L.getD i (0, 0)).1
def fwP (E : Nat → tn) (n : Nat) (L : List (Nat × Nat)) (i : Nat) : Nat → Int := PR (meanM E n (L.getD i (0, 0)).2)
def pvL (E : Nat → tn) (n : Nat) (L : List (Nat × Nat)) (l : List Nat) : Nat → Int := l.foldr (fun i A => cv (fwP E n L i) A) oneP
theorem pvL_c (E : Nat → tn) (n : Nat) (L : List (Nat × Nat)) (i : Nat) (l : List Nat) : pvL E n L (i :: l) = cv (fwP E n L i) (pvL E n L l) := rfl
def lsd (L : List (Nat × Nat)) : List Nat → Nat
  | [] => 0
  | i :: l => fwd L i + lsd L l
/-- a list of FEW: degrees 1 .. 6, powers of that degree -/
def LOK (L : List (Nat × Nat)) : Prop := ∀ i, i < L.length → 1 ≤ fwd L i ∧ fwd L i ≤ 6 ∧ (L.getD i (0, 0)).2 < 165 ∧ pD (L.getD i (0, 0)).2 = fwd L i
theorem fwP_hom {E : Nat → tn} {n : Nat} {L : List (Nat × Nat)} {i : Nat} (hG : GP E n) (hL : LOK L) (hi : i < L.length) : hom (fwd L i) (fwP E n L i) := by
  obtain ⟨-, -, h3, h4⟩ := hL i hi
  rw [← h4]
  exact meanM_hom hG h3
theorem pvL_hom {E : Nat → tn} {n : Nat} {L : List (Nat × Nat)} (hG : GP E n) (hL : LOK L) : ∀ l : List Nat, (∀ i, i ∈ l → i < L.length) → lsd L l ≤ 8 → hom (lsd L l) (pvL E n L l)
  | [], _, _ => hom_1
  | i :: l, h, hd => by
    rw [pvL_c]
    have hd' : fwd L i + lsd L l ≤ 8 := hd
    exact hom_cv (fwP_hom hG hL (h i (by simp))) (pvL_hom hG hL l (fun j hj => h j (by simp [hj])) (by omega)) hd'
/-- the same product, one behind the other -/
theorem pvL_l (E : Nat → tn) (n : Nat) (L : List (Nat × Nat)) : ∀ (l : List Nat) (A : Nat → Int) (c : Nat), l.foldl (fun A i => cv A (fwP E n L i)) A c = cv A (pvL E n L l) c
  | [], A, c => (cv_1r A c).symm
  | i :: l, A, c => by
    show l.foldl (fun A i => cv A (fwP E n L i)) (cv A (fwP E n L i)) c = _
    rw [pvL_l E n L l, pvL_c, cv_as]
theorem getD_ap {α : Type} {l l' : List α} {k : Nat} {z : α} (h : k < l.length) : (l ++ l').getD k z = l.getD k z := by rw [List.getD_eq_getElem?_getD, List.getElem?_append_left h, ← List.getD_eq_getElem?_getD]
theorem getD_la {α : Type} {l : List α} {x z : α} : (l ++ [x]).getD l.length z = x := by
  rw [List.getD_eq_getElem?_getD, List.getElem?_append_right (Nat.le_refl _), Nat.sub_self]
  rfl
theorem fwd_ap {L : List (Nat × Nat)} {x : Nat × Nat} {i : Nat} (h : i < L.length) : fwd (L ++ [x]) i = fwd L i := by unfold fwd; rw [getD_ap h]
theorem pvL_ap (E : Nat → tn) (n : Nat) {L : List (Nat × Nat)} {x : Nat × Nat} : ∀ l : List Nat, (∀ i, i ∈ l → i < L.length) → pvL E n (L ++ [x]) l = pvL E n L l
  | [], _ => rfl
  | i :: l, h => by
    rw [pvL_c, pvL_c, pvL_ap E n l (fun j hj => h j (by simp [hj]))]
    unfold fwP
    rw [getD_ap (h i (by simp))]
-- PRODUCTS of a degree, in their order
def EN (ds : Nat → Nat) (n : Nat) : Nat → Nat → Nat → List (List Nat)
  | 0, _, _ => []
  | f + 1, i, d => if n ≤ i then (if d = 0 then [[]] else []) else (if ds i ≤ d then (EN ds n f i (d - ds i)).map (fun l => i :: l) else []) ++ EN ds n f (i + 1) d
theorem EN_s (ds : Nat → Nat) (n f i d : Nat) : EN ds n (f + 1) i d = if n ≤ i then (if d = 0 then [[]] else []) else (if ds i ≤ d then (EN ds n f i (d - ds i)).map (fun l => i :: l) else []) ++ EN ds n f (i + 1) d := rfl
theorem EN_f {ds : Nat → Nat} {n : Nat} (hd : ∀ i, i < n → 1 ≤ ds i) : ∀ (f f' i d : Nat), d + (n - i) < f → d + (n - i) < f' → EN ds n f i d = EN ds n f' i d := by
  intro f
  induction f with
  | zero => intro f' i d h; exact absurd h (Nat.not_lt_zero _)
  | succ f ih =>
    intro f' i d h1 h2
    obtain ⟨f', rfl⟩ : ∃ f2, f' = f2 + 1 := ⟨f' - 1, by omega⟩
    rw [EN_s, EN_s]
    by_cases q : n ≤ i
    · rw [if_pos q, if_pos q]
    · rw [if_neg q, if_neg q, ih f' (i + 1) d (by omega) (by omega)]
      by_cases q2 : ds i ≤ d
      · have := hd i (by omega)
        rw [if_pos q2, if_pos q2, ih f' i (d - ds i) (by omega) (by omega)]
      · rw [if_neg q2, if_neg q2]
/-- from FEW i on, of degree d -/
def enl (ds : Nat → Nat) (n i d : Nat) : List (List Nat) := EN ds n (d + (n - i) + 1) i d
theorem enl_s {ds : Nat → Nat} {n i d : Nat} (hd : ∀ i, i < n → 1 ≤ ds i) (hi : i < n) : enl ds n i d = (if ds i ≤ d then (enl ds n i (d - ds i)).map (fun l => i :: l) else []) ++ enl ds n (i + 1) d := by
  unfold enl
  rw [EN_s, if_neg (by omega), EN_f hd _ (d + (n - (i + 1)) + 1) (i + 1) d (by omega) (by omega)]
  by_cases q : ds i ≤ d
  · have := hd i hi
    rw [if_pos q, if_pos q, EN_f hd _ (d - ds i + (n - i) + 1) i (d - ds i) (by omega) (by omega)]
  · rw [if_neg q, if_neg q]
theorem enl_n {ds : Nat → Nat} {n i d : Nat} (hi : n ≤ i) : enl ds n i d = if d = 0 then [[]] else [] := by
  unfold enl
  rw [EN_s, if_pos hi]
theorem enl_cg {ds ds' : Nat → Nat} {n : Nat} (h : ∀ i, i < n → ds i = ds' i) (i d : Nat) : enl ds n i d = enl ds' n i d := by
  have key : ∀ (f i d : Nat), EN ds n f i d = EN ds' n f i d := by
    intro f
    induction f with
    | zero => intro i d; rfl
    | succ f ih =>
      intro i d
      rw [EN_s, EN_s]
      by_cases q : n ≤ i
      · rw [if_pos q, if_pos q]
      · rw [if_neg q, if_neg q, h i (by omega), ih, ih]
  exact key _ _ _
theorem enl_i {ds : Nat → Nat} {n : Nat} (hd : ∀ i, i < n → 1 ≤ ds i) (P : Nat → Nat → List (List Nat) → Prop) (h0 : ∀ i d, n ≤ i → P i d (if d = 0 then [[]] else [])) (hs : ∀ i d, i < n → (ds i ≤ d → P i (d - ds i) (enl ds n i (d - ds i))) → P (i + 1) d (enl ds n (i + 1) d) → P i d ((if ds i ≤ d then (enl ds n i (d - ds i)).map (fun l => i :: l) else []) ++ enl ds n (i + 1) d)) : ∀ i d, P i d (enl ds n i d) := by
  have key : ∀ m i d, d + (n - i) ≤ m → P i d (enl ds n i d) := by
    intro m
    induction m with
    | zero =>
      intro i d h
      rw [enl_n (show n ≤ i by omega)]
      exact h0 i d (by omega)
    | succ m ih =>
      intro i d h
      by_cases q : n ≤ i
      · rw [enl_n q]; exact h0 i d q
      · rw [enl_s hd (by omega)]
        have := hd i (by omega)
        exact hs i d (by omega) (fun q2 => ih i (d - ds i) (by omega)) (ih (i + 1) d (by omega))
  intro i d
  exact key _ i d (Nat.le_refl _)
/-- the numbers in a product: from i on, below n; its degree -/
theorem enl_mem {L : List (Nat × Nat)} (hL : LOK L) : ∀ i d, ∀ l ∈ enl (fwd L) L.length i d, lsd L l = d ∧ ∀ j, j ∈ l → i ≤ j ∧ j < L.length := by
  refine enl_i (fun i hi => (hL i hi).1) (fun i d X => ∀ l ∈ X, lsd L l = d ∧ ∀ j, j ∈ l → i ≤ j ∧ j < L.length) (fun i d hi l hl => ?_) (fun i d hi h1 h2 l hl => ?_)
  · by_cases e : d = 0
    · rw [if_pos e] at hl
      have : l = [] := by simpa using hl
      subst this
      exact ⟨e.symm, fun j hj => absurd hj (by simp)⟩
    · rw [if_neg e] at hl
      exact absurd hl (by simp)
  · rcases List.mem_append.mp hl with q | q
    · by_cases e : fwd L i ≤ d
      · rw [if_pos e] at q
        obtain ⟨l', k1, k2⟩ := List.mem_map.mp q
        subst k2
        obtain ⟨m1, m2⟩ := h1 e l' k1
        refine ⟨?_, fun j hj => ?_⟩
        · show fwd L i + lsd L l' = d
          omega
        · rcases List.mem_cons.mp hj with z | z
          · rw [z]; exact ⟨Nat.le_refl _, hi⟩
          · exact m2 j z
      · rw [if_neg e] at q
        exact absurd q (by simp)
    · obtain ⟨m1, m2⟩ := h2 l q
      exact ⟨m1, fun j hj => by have := m2 j hj; omega⟩
/-- the least of the FEW that come -/
def lst (l : List Nat) : Nat := l.headD 6
theorem enl_fil {ds : Nat → Nat} {n : Nat} (hd : ∀ i, i < n → 1 ≤ ds i) (hn : n ≤ 6) {i0 : Nat} (hi0 : i0 ≤ n) : ∀ i d, i ≤ i0 → (enl ds n i d).filter (fun l => decide (i0 ≤ lst l)) = enl ds n i0 d := by
  have top : ∀ i d, i0 ≤ i → (enl ds n i d).filter (fun l => decide (i0 ≤ lst l)) = enl ds n i d := by
    refine enl_i hd (fun i d X => i0 ≤ i → X.filter (fun l => decide (i0 ≤ lst l)) = X) (fun i d hi _ => ?_) (fun i d hi h1 h2 h => ?_)
    · by_cases e : d = 0
      · rw [if_pos e]
        simp [lst]
        omega
      · rw [if_neg e]; rfl
    · rw [List.filter_append, h2 (by omega)]
      congr 1
      by_cases e : ds i ≤ d
      · rw [if_pos e, List.filter_eq_self]
        intro l hl
        obtain ⟨l', -, k2⟩ := List.mem_map.mp hl
        subst k2
        exact decide_eq_true (show i0 ≤ i from h)
      · rw [if_neg e]; rfl
  have key : ∀ m i d, i0 - i ≤ m → i ≤ i0 → (enl ds n i d).filter (fun l => decide (i0 ≤ lst l)) = enl ds n i0 d := by
    intro m
    induction m with
    | zero =>
      intro i d h1 h2
      have : i = i0 := by omega
      subst this
      exact top i d (Nat.le_refl _)
    | succ m ih =>
      intro i d h1 h2
      by_cases q : i = i0
      · subst q; exact top i d (Nat.le_refl _)
      · rw [enl_s hd (by omega), List.filter_append, ih (i + 1) d (by omega) (by omega)]
        have : List.filter (fun l => decide (i0 ≤ lst l)) (if ds i ≤ d then (enl ds n i (d - ds i)).map (fun l => i :: l) else []) = [] := by
          by_cases e : ds i ≤ d
          · rw [if_pos e, List.filter_eq_nil_iff]
            intro l hl
            obtain ⟨l', -, k2⟩ := List.mem_map.mp hl
            subst k2
            show ¬ decide (i0 ≤ i) = true
            rw [decide_eq_false (by omega)]
            decide
          · rw [if_neg e]; rfl
        rw [this, List.nil_append]
  intro i d h
  exact key _ i d (Nat.le_refl _) h
/-- one of the FEW more, of degree e -/
theorem enl_lt {ds : Nat → Nat} {n : Nat} (hd : ∀ i, i < n + 1 → 1 ≤ ds i) : ∀ i d, i ≤ n → d < ds n → enl ds (n + 1) i d = enl ds n i d := by
  have key : ∀ m i d, d + (n - i) ≤ m → i ≤ n → d < ds n → enl ds (n + 1) i d = enl ds n i d := by
    intro m
    induction m with
    | zero =>
      intro i d h1 h2 h3
      have : i = n := by omega
      subst this
      rw [enl_s hd (by omega), if_neg (by omega), List.nil_append, enl_n (Nat.le_refl _), enl_n (Nat.le_refl _)]
    | succ m ih =>
      intro i d h1 h2 h3
      by_cases q : i = n
      · subst q
        rw [enl_s hd (by omega), if_neg (by omega), List.nil_append, enl_n (Nat.le_refl _), enl_n (Nat.le_refl _)]
      · have := hd i (by omega)
        rw [enl_s hd (by omega), enl_s (fun i hi => hd i (by omega)) (show i < n by omega), ih (i + 1) d (by omega) (by omega) h3]
        by_cases q2 : ds i ≤ d
        · rw [if_pos q2, if_pos q2, ih i (d - ds i) (by omega) (by omega) (by omega)]
        · rw [if_neg q2, if_neg q2]
  intro i d h1 h2
  exact key _ i d (Nat.le_refl _) h1 h2
theorem enl_eq {ds : Nat → Nat} {n : Nat} (hd : ∀ i, i < n + 1 → 1 ≤ ds i) : ∀ m i, n - i ≤ m → i ≤ n → enl ds (n + 1) i (ds n) = enl ds n i (ds n) ++ [[n]] := by
  have hn := hd n (by omega)
  intro m
  induction m with
  | zero =>
    intro i h1 h2
    have : i = n := by omega
    subst this
    rw [enl_s hd (by omega), if_pos (Nat.le_refl _), Nat.sub_self, enl_lt hd i 0 (Nat.le_refl _) (by omega), enl_n (Nat.le_refl _), enl_n (Nat.le_refl _), enl_n (Nat.le_refl _), if_pos rfl, if_neg (by omega)]
    rfl
  | succ m ih =>
    intro i h1 h2
    by_cases q : i = n
    · subst q
      rw [enl_s hd (by omega), if_pos (Nat.le_refl _), Nat.sub_self, enl_lt hd i 0 (Nat.le_refl _) (by omega), enl_n (Nat.le_refl _), enl_n (Nat.le_refl _), enl_n (Nat.le_refl _), if_pos rfl, if_neg (by omega)]
      rfl
    · have := hd i (by omega)
      rw [enl_s hd (by omega), enl_s (fun i hi => hd i (by omega)) (show i < n by omega), ih (i + 1) (by omega) (by omega), ← List.append_assoc]
      by_cases q2 : ds i ≤ ds n
      · rw [if_pos q2, if_pos q2, enl_lt hd i (ds n - ds i) (by omega) (by omega)]
      · rw [if_neg q2, if_neg q2]
