theorem fcR_eq {α : Type} : ∀ (l : List (List Nat)) (k : List (List Nat) → α), fcR l k = k l
  | [], _ => rfl
  | x :: l, k => by unfold fcR; rw [fcR_eq l]
theorem elm_n {w : List Nat} {ws rows : List (List Nat)} (h : stp rows w.tail = none) : elm (w :: ws) rows = elm ws rows := by
  unfold elm
  rw [h]
  cases ws <;> rfl
theorem elm_y {w r : List Nat} {ws rows : List (List Nat)} (h : stp rows w.tail = some r) : elm (w :: ws) rows = elm ws (rows ++ [r]) := by
  rw [elm]
  rw [h]
  exact fcR_eq _ _
theorem elm_ok {V : Nat → Nat → Int} {W : Nat} {cs : List (List Nat)} (hc : ∀ q, q < cs.length → vok W (cs.getD q []).tail ∧ ∀ k, k < W → em (V q k) (wv (cs.getD q []).tail k)) : ∀ (k j : Nat) (rows : List (List Nat)), j + k = cs.length → LR (fun f => V ((frs V W j).getD f 0)) (frs V W j).length W rows → LR (fun f => V ((frs V W cs.length).getD f 0)) (frs V W cs.length).length W (elm (cs.drop j) rows) := by
  intro k
  induction k with
  | zero =>
    intro j rows hj h
    have : j = cs.length := by omega
    subst this
    rw [List.drop_eq_nil_of_le (Nat.le_refl _)]
    exact h
  | succ k ih =>
    intro j rows hj h
    have hjl : j < cs.length := by omega
    obtain ⟨h1, h2⟩ := hc j hjl
    have hg : cs[j] = cs.getD j [] := by rw [List.getD_eq_getElem?_getD, List.getElem?_eq_getElem hjl]; rfl
    rw [List.drop_eq_getElem_cons hjl, hg]
    have hs := stp_ok (V' := fun f => if f = (frs V W j).length then V j else V ((frs V W j).getD f 0)) h h1 (fun f hf k _ => congrFun (if_neg (show ¬ f = (frs V W j).length by omega)) k) (fun k hk => by show em ((if (frs V W j).length = (frs V W j).length then V j else V ((frs V W j).getD (frs V W j).length 0)) k) _; rw [if_pos rfl]; exact h2 k hk)
    try dsimp only at hs
    rw [if_pos rfl] at hs
    rcases hs with ⟨e, hin⟩ | ⟨r, e, hnin, hL⟩
    · rw [elm_n e]
      refine ih (j + 1) rows (by omega) ?_
      rw [frs_in hin]
      exact h
    · rw [elm_y e]
      refine ih (j + 1) (rows ++ [r]) (by omega) ?_
      rw [frs_out hnin, show (frs V W j ++ [j]).length = (frs V W j).length + 1 from by simp]
      have hfun : (fun f => V ((frs V W j ++ [j]).getD f 0)) = (fun f => V ((frs V W j ++ [j]).getD f 0)) := rfl
      obtain ⟨a1, a2, x, a3⟩ := hL
      refine ⟨a1, a2, x, ?_⟩
      obtain ⟨c1, c2, c3, c4, c5⟩ := a3
      have hV : ∀ f, f < (frs V W j).length + 1 → ∀ k, k < W → em ((if f = (frs V W j).length then V j else V ((frs V W j).getD f 0)) k) (V ((frs V W j ++ [j]).getD f 0) k) := fun f hf k _ => by
        by_cases q : f = (frs V W j).length
        · rw [if_pos q, q, getD_la]; exact em_r _
        · rw [if_neg q, getD_ap (show f < (frs V W j).length by omega)]; exact em_r _
      exact ⟨fun f hf k hk => em_t (c1 f hf k hk) (em_sm _ (fun g hg => em_mul (em_r _) (hV g hg k hk))), c2, c3, fun g hg => inS_cg (fun f hf k hk => em_r _) (hV g hg) (c4 g hg), Ind_cg hV c5⟩
/-- what a sparse list bears -/
noncomputable def sA (s : List Nat) (a : Nat) : Int := (svn a s : Int)
theorem sA_c (q : Nat) (s : List Nat) (a : Nat) : sA (q :: s) a = (if q / 65536 = a then ((q % 65536 : Nat) : Int) else 0) + sA s a := svn_c a q s
theorem sA_ap (a : Nat) : ∀ s t : List Nat, sA (s ++ t) a = sA s a + sA t a
  | [], t => by show sA t a = 0 + sA t a; omega
  | q :: s, t => by
    rw [List.cons_append, sA_c, sA_c, sA_ap a s t]; omega
theorem spz_c (a c : Nat) (ks w : List Nat) (hc : c < 65536) (b : Nat) : sA (spz (a :: ks) (c :: w)) b = (if a = b then (c : Int) else 0) + sA (spz ks w) b := by
  show sA (Bool.rec ((a * 65536 + c) :: spz ks w) (spz ks w) (Nat.beq c 0)) b = _
  rcases beq_0 (v := c) with ⟨hb, h0⟩ | ⟨hb, h0⟩
  · rw [hb, h0]
    show sA (spz ks w) b = _
    split <;> omega
  · rw [hb]
    show sA ((a * 65536 + c) :: spz ks w) b = _
    rw [sA_c, show (a * 65536 + c) / 65536 = a from by omega, show (a * 65536 + c) % 65536 = c from by omega]
theorem spz_at : ∀ (ks w : List Nat) (b : Nat), ks.length = w.length → (∀ k, w.getD k 0 < 65536) → sA (spz ks w) b = sm (fun y => if ks.getD y 0 = b then (w.getD y 0 : Int) else 0) ks.length
  | [], [], _, _, _ => rfl
  | [], _ :: _, _, h, _ => absurd h (by simp)
  | _ :: _, [], _, h, _ => absurd h (by simp)
  | a :: ks, c :: w, b, h, hw => by
    rw [spz_c a c ks w (hw 0), spz_at ks w b (by simpa using h) (fun k => hw (k + 1))]
    have : ∀ n, sm (fun y => if (a :: ks).getD y 0 = b then ((c :: w).getD y 0 : Int) else 0) (n + 1) = (if a = b then (c : Int) else 0) + sm (fun y => if ks.getD y 0 = b then (w.getD y 0 : Int) else 0) n := by
      intro n
      induction n with
      | zero => rw [sm_s]; show (0 : Int) + _ = _ + 0; rw [Int.zero_add, Int.add_zero]; rfl
      | succ n ih => rw [sm_s, ih, sm_s, Int.add_assoc]; rfl
    exact (this ks.length).symm
theorem LYL_d {d : Nat} (hd : d ≤ 6) : (LYL.getD d []).length = wd d ∧ ∀ y, y < wd d → (LYL.getD d []).getD y 0 = ly d y := by
  have h : ∀ d ∈ List.range 7, (LYL.getD d []).length = wd d ∧ ∀ y ∈ List.range (wd d), (LYL.getD d []).getD y 0 = ly d y := by decide +kernel
  obtain ⟨a, b⟩ := h d (List.mem_range.mpr (by omega))
  exact ⟨a, fun y hy => b y (List.mem_range.mpr hy)⟩
/-- a dense list of degree d, told sparsely -/
theorem sp_ok {d : Nat} {A : Nat → Int} {w : List Nat} (hd : d ≤ 6) (hA : hom d A) (hw : vok (wd d) w) (h : ∀ y, y < wd d → em (A (ly d y)) (wv w y)) (a : Nat) : em (A a) (sA (spz (LYL.getD d []) w) a) := by
  obtain ⟨l1, l2⟩ := LYL_d hd
  rw [spz_at _ _ _ (by rw [l1, hw.1]) (fun k => by have := hw.2 k; omega), l1]
  by_cases q : dg a = d
  · obtain ⟨y, hy, ey⟩ := dg_hit (show d ≤ 8 by omega) q
    rw [sm_one (x := y) (wd d) hy (fun y' hy' hne => if_neg (by
      rw [l2 y' hy', ← ey]
      exact fun z => hne (ly_inj (by omega) hy' hy z))), if_pos (by rw [l2 y hy]; exact ey), ← ey]
    exact h y hy
  · rw [hA a q, sm_z (fun y hy => if_neg (by
      rw [l2 y hy]
      intro z
      exact q (by rw [← z]; exact ly_dg (by omega) hy)))]
    exact em_r _
theorem cv_add (A B C : Nat → Int) (c : Nat) : cv (fun a => A a + B a) C c = cv A C c + cv B C c := by
  unfold cv
  rw [← sm_add]
  exact sm_cg (c + 1) (fun a _ => Int.add_mul _ _ _)
theorem cv_sgl (k : Nat) (z : Int) (B : Nat → Int) (c : Nat) : cv (fun a => if k = a then z else 0) B c = if k ≤ c then z * B (c - k) else 0 := by
  unfold cv
  by_cases q : k ≤ c
  · rw [if_pos q, sm_one (x := k) (c + 1) (by omega) (fun a _ hne => by show (if k = a then z else 0) * _ = 0; rw [if_neg (fun e => hne e.symm), Int.zero_mul])]
    show (if k = k then z else 0) * _ = _
    rw [if_pos rfl]
  · rw [if_neg q]
    exact sm_z (fun a ha => by show (if k = a then z else 0) * _ = 0; rw [if_neg (by omega), Int.zero_mul])
theorem mls_1 (u b : Nat) : ∀ s2 : List Nat, em (sA (s2.map fun v => (u / 65536 + v / 65536) * 65536 + u % 65536 * (v % 65536) % 32003) b) (if u / 65536 ≤ b then ((u % 65536 : Nat) : Int) * sA s2 (b - u / 65536) else 0)
  | [] => by
    show em 0 _
    split
    · show em 0 (_ * 0); rw [Int.mul_zero]; exact em_r _
    · exact em_r _
  | v :: s2 => by
    rw [List.map_cons, sA_c]
    have hm : u % 65536 * (v % 65536) % 32003 < 32003 := Nat.mod_lt _ (by decide)
    rw [show ((u / 65536 + v / 65536) * 65536 + u % 65536 * (v % 65536) % 32003) / 65536 = u / 65536 + v / 65536 from by omega, show ((u / 65536 + v / 65536) * 65536 + u % 65536 * (v % 65536) % 32003) % 65536 = u % 65536 * (v % 65536) % 32003 from by omega]
    have ih := mls_1 u b s2
    by_cases q : u / 65536 ≤ b
    · rw [if_pos q] at ih ⊢
      rw [sA_c, Int.mul_add]
      refine em_add ?_ ih
      by_cases e : v / 65536 = b - u / 65536
      · rw [if_pos (by omega), if_pos e, Int.natCast_emod, Int.natCast_mul]
        exact em_md _
      · rw [if_neg (by omega), if_neg e, Int.mul_zero]
        exact em_r _
    · rw [if_neg q] at ih ⊢
      rw [if_neg (by omega), Int.zero_add]
      exact ih
theorem mls_ok (s2 : List Nat) (b : Nat) : ∀ s1 : List Nat, em (sA (mls s1 s2) b) (cv (sA s1) (sA s2) b)
  | [] => by
    have e : cv (sA []) (sA s2) b = 0 := by
      unfold cv
      exact sm_z (fun a _ => by show (0 : Int) * _ = 0; rw [Int.zero_mul])
    rw [e]
    exact em_r _
  | u :: s1 => by
    have e : mls (u :: s1) s2 = (s2.map fun v => (u / 65536 + v / 65536) * 65536 + u % 65536 * (v % 65536) % 32003) ++ mls s1 s2 := by
      unfold mls
      rw [List.flatMap_cons]
    rw [e, sA_ap]
    have e2 : cv (sA (u :: s1)) (sA s2) b = (if u / 65536 ≤ b then ((u % 65536 : Nat) : Int) * sA s2 (b - u / 65536) else 0) + cv (sA s1) (sA s2) b := by
      rw [← cv_sgl (u / 65536) ((u % 65536 : Nat) : Int) (sA s2) b, ← cv_add]
      exact cv_cg (fun a => sA_c u s1 a) (fun _ => rfl) b
    rw [e2]
    exact em_add (mls_1 u b s2) (mls_ok s2 b s1)
theorem getD_mapl {u : Nat → Nat} : ∀ (w : List Nat) (k : Nat), k < w.length → (w.map u).getD k 0 = u (w.getD k 0)
  | [], k, h => absurd h (Nat.not_lt_zero _)
  | x :: l, 0, _ => rfl
  | x :: l, k + 1, h => getD_mapl l k (by simpa using h)
theorem mld_ok {d : Nat} {A B : Nat → Int} {s1 s2 : List Nat} (hd : d ≤ 6) (h1 : ∀ a, em (A a) (sA s1 a)) (h2 : ∀ a, em (B a) (sA s2 a)) : vok (wd d) (mld (LYL.getD d []) s1 s2) ∧ ∀ y, y < wd d → em (cv A B (ly d y)) (wv (mld (LYL.getD d []) s1 s2) y) := by
  obtain ⟨l1, l2⟩ := LYL_d hd
  unfold mld
  rw [fcL_eq]
  have hl : ((LYL.getD d []).map fun b => svn b (mls s1 s2) % 32003).length = wd d := by rw [List.length_map, l1]
  refine ⟨⟨hl, fun k => ?_⟩, fun y hy => ?_⟩
  · by_cases q : k < wd d
    · rw [getD_mapl _ k (by rw [l1]; exact q)]; exact Nat.mod_lt _ (by decide)
    · rw [getD_out (by rw [hl]; omega)]; decide
  · unfold wv
    rw [getD_mapl _ y (by rw [l1]; exact hy), l2 y hy, Int.natCast_emod]
    refine em_t (em_cv h1 h2 _) (em_t (em_sy (mls_ok s2 _ s1)) (em_sy (em_md _)))
