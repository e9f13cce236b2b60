/-! sums over a group's turns by the bits of its set -/
theorem sm_set {E : Nat → tn} {n m : Nat} (hG : GP E n) (hm : btS m (gS E n)) (F : tn → Int) : sm (fun g => F (E g)) n = sm (fun c => if m.testBit c = true then F (T48 c) else 0) 48 := by
  have e1 : sm (fun g => F (E g)) n = sm (fun g => sm (fun c => if E g = T48 c then F (T48 c) else 0) 48) n := sm_cg n (fun g hg => by
    have ht := hG.2.2.1 g hg
    rw [sm_one (x := tix (E g)) 48 (tix_lt ht) (fun c hc hne => if_neg (fun z => hne (by rw [z] at ht ⊢; exact T48_inj hc (tix_lt ht) (T48_tix ht).symm))), if_pos (T48_tix ht).symm, T48_tix ht])
  rw [e1, sm_swap]
  refine sm_cg 48 (fun c hc => ?_)
  by_cases q : m.testBit c = true
  · obtain ⟨-, g, hg, eg⟩ := (hm c hc).mp q
    rw [if_pos q, sm_one (x := g) n hg (fun g' hg' hne => if_neg (fun z => hne (hG.2.2.2.1 g' g hg' hg (z.trans eg.symm)))), if_pos eg]
  · rw [if_neg q]
    exact sm_z (fun g hg => if_neg (fun z => q ((hm c hc).mpr ⟨hc, g, hg, z⟩)))
def lsm (f : Nat → Int) : List Nat → Int
  | [] => 0
  | c :: l => f c + lsm f l
theorem lsm_ap (f : Nat → Int) : ∀ l l', lsm f (l ++ l') = lsm f l + lsm f l'
  | [], l' => by show lsm f l' = 0 + lsm f l'; omega
  | c :: l, l' => by
    show f c + lsm f (l ++ l') = f c + lsm f l + lsm f l'
    rw [lsm_ap f l l']; omega
theorem sm_bts (f : Nat → Int) (p : Nat → Bool) : ∀ k, sm (fun c => if p c = true then f c else 0) k = lsm f ((List.range k).filter p)
  | 0 => rfl
  | k + 1 => by
    rw [sm_s, sm_bts f p k, List.range_succ, List.filter_append, lsm_ap]
    congr 1
    by_cases q : p k = true
    · rw [if_pos q, List.filter_cons_of_pos q]
      show f k = f k + 0
      omega
    · rw [if_neg q, List.filter_cons_of_neg q]
      rfl
theorem lsm_cg {f g : Nat → Int} : ∀ l : List Nat, (∀ c ∈ l, f c = g c) → lsm f l = lsm g l
  | [], _ => rfl
  | c :: l, h => by
    show f c + lsm f l = g c + lsm g l
    rw [h c (List.mem_cons_self ..), lsm_cg l (fun x hx => h x (List.mem_cons_of_mem _ hx))]
theorem lsm_em {f g : Nat → Int} : ∀ l : List Nat, (∀ c ∈ l, em (f c) (g c)) → em (lsm f l) (lsm g l)
  | [], _ => em_r _
  | c :: l, h => em_add (h c (List.mem_cons_self ..)) (lsm_em l (fun x hx => h x (List.mem_cons_of_mem _ hx)))
theorem lsm_1 : ∀ l : List Nat, lsm (fun _ => 1) l = (l.length : Int)
  | [] => rfl
  | c :: l => by
    show 1 + lsm (fun _ => 1) l = _
    rw [lsm_1 l, List.length_cons]; omega
theorem sm_n1 : ∀ n, sm (fun _ => 1) n = (n : Int)
  | 0 => rfl
  | n + 1 => by rw [sm_s, sm_n1 n]; omega
theorem bts_len {E : Nat → tn} {n m : Nat} (hG : GP E n) (hm : btS m (gS E n)) : (bts m).length = n := by
  have h1 := sm_set hG hm (fun _ => 1)
  rw [sm_n1, sm_bts (fun _ => 1) (fun c => m.testBit c), lsm_1] at h1
  have : ((bts m).length : Int) = (n : Int) := h1.symm
  omega
theorem imk_ok : ∀ c ∈ List.range 48, ∀ x ∈ List.range 84, imk (ax x / 81) (ax x / 9 % 9) (ax x % 9) (tqc (T48 c)) / 65536 = ax (tX (T48 c) x) ∧ ((imk (ax x / 81) (ax x / 9 % 9) (ax x % 9) (tqc (T48 c)) % 65536 : Nat) : Int) = tS (T48 c) x % 32003 := by decide +kernel
theorem TQ_ok {c : Nat} (hc : c < 48) : TQ.getD c 0 = tqc (T48 c) := by
  have h : ∀ c ∈ List.range 48, TQ.getD c 0 = tqc (T48 c) := by decide +kernel
  exact h c (List.mem_range.mpr hc)
theorem svn_c (b q : Nat) (l : List Nat) : (svn b (q :: l) : Int) = (if q / 65536 = b then ((q % 65536 : Nat) : Int) else 0) + (svn b l : Int) := by
  show ((Bool.rec (svn b l) (q % 65536 + svn b l) (Nat.beq (q / 65536) b) : Nat) : Int) = _
  by_cases h : q / 65536 = b
  · rw [if_pos h, show Nat.beq (q / 65536) b = true from by rw [h]; exact Nat.beq_refl b]
    show ((q % 65536 + svn b l : Nat) : Int) = _
    omega
  · rw [if_neg h, show Nat.beq (q / 65536) b = false from by
      cases hb : Nat.beq (q / 65536) b with
      | false => rfl
      | true => exact absurd (Nat.eq_of_beq_eq_true hb) h]
    show ((svn b l : Nat) : Int) = _
    omega
theorem svn_l (b : Nat) : ∀ l : List Nat, (svn b l : Int) = lsm (fun q => if q / 65536 = b then ((q % 65536 : Nat) : Int) else 0) l
  | [] => rfl
  | q :: l => by rw [svn_c, svn_l b l]; rfl
theorem lsm_map (f : Nat → Int) (u : Nat → Nat) : ∀ l : List Nat, lsm f (l.map u) = lsm (fun c => f (u c)) l
  | [] => rfl
  | c :: l => by
    show f (u c) + lsm f (l.map u) = f (u c) + lsm (fun c => f (u c)) l
    rw [lsm_map f u l]
/-- the list's mean -/
theorem mnl_ok {E : Nat → tn} {n m d x y : Nat} (hG : GP E n) (hm : btS m (gS E n)) (hd : d ≤ 6) (hx : x < 84) (hy : y < wd d) : ((svn (ly d y) ((bts m).map (fun c => imk (ax x / 81) (ax x / 9 % 9) (ax x % 9) (TQ.getD c 0))) * iv n % 32003 : Nat) : Int) = meanM E n x (fst9 d + y) := by
  have hp := (fst_pD (show d ≤ 8 by omega) hy).1
  unfold meanM
  rw [sm_set hG hm (fun t => if tX t x = fst9 d + y then tS t x else 0), sm_bts (fun c => if tX (T48 c) x = fst9 d + y then tS (T48 c) x else 0) (fun c => m.testBit c)]
  rw [show ((svn (ly d y) ((bts m).map (fun c => imk (ax x / 81) (ax x / 9 % 9) (ax x % 9) (TQ.getD c 0))) * iv n % 32003 : Nat) : Int) = (svn (ly d y) ((bts m).map (fun c => imk (ax x / 81) (ax x / 9 % 9) (ax x % 9) (TQ.getD c 0))) : Int) * (iv n : Int) % 32003 from by omega]
  refine em_mul ?_ (em_r _)
  rw [svn_l, lsm_map]
  refine lsm_em _ (fun c hc => ?_)
  have hc48 : c < 48 := List.mem_range.mp (List.mem_filter.mp hc).1
  obtain ⟨i1, i2⟩ := imk_ok c (List.mem_range.mpr hc48) x (List.mem_range.mpr hx)
  try dsimp only
  rw [TQ_ok hc48, i1, i2]
  have hX := tX_lt (T48_ok c (List.mem_range.mpr hc48)) (show x < 165 by omega)
  by_cases q : tX (T48 c) x = fst9 d + y
  · rw [if_pos q, if_pos (by rw [q]; rfl)]
    exact em_md _
  · have hq : ¬ ax (tX (T48 c) x) = ly d y := fun z => q (ax_inj hX hp z)
    rw [if_neg q, if_neg hq]
    exact em_r _
