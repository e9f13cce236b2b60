/-! Powers(): the table of powers -/
def ctk (d r k : Nat) : Nat := d * (d + 1) * (d + 2) / 6 + r * (r + 1) / 2 + k
theorem ctk_ok : ∀ d ∈ List.range 9, ∀ r ∈ List.range (d + 1), ∀ k ∈ List.range (r + 1), ctk d r k < 165 ∧ pe (ctk d r k) 0 = d - r ∧ pe (ctk d r k) 1 = r - k ∧ pe (ctk d r k) 2 = k ∧ pD (ctk d r k) = d := by decide +kernel
theorem ctk_r : ∀ d ∈ List.range 9, ∀ r ∈ List.range (d + 1), ctk d r (r + 1) = ctk d (r + 1) 0 := by decide +kernel
theorem ctk_d : ∀ d ∈ List.range 9, ctk d (d + 1) 0 = ctk (d + 1) 0 0 := by decide +kernel
theorem ctk_s (d r k : Nat) : ctk d r (k + 1) = ctk d r k + 1 := rfl
/-- the first c powers -/
def gP (i c : Nat) (x : Nat) : Int32 := if x < c then Int32.ofInt (pe x i : Int) else 0
def gD (c : Nat) (x : Nat) : Int32 := if x < c then Int32.ofInt (pD x : Int) else 0
theorem gP_s (i c : Nat) : upd (gP i c) c (Int32.ofInt (pe c i : Int)) = gP i (c + 1) := by
  funext x
  by_cases h : x = c
  · subst h
    rw [pk_us]
    unfold gP
    rw [if_pos (by omega)]
  · rw [pk_un h]
    unfold gP
    by_cases h2 : x < c
    · rw [if_pos h2, if_pos (by omega)]
    · rw [if_neg h2, if_neg (by omega)]
theorem gD_s (c : Nat) : upd (gD c) c (Int32.ofInt (pD c : Int)) = gD (c + 1) := by
  funext x
  by_cases h : x = c
  · subst h
    rw [pk_us]
    unfold gD
    rw [if_pos (by omega)]
  · rw [pk_un h]
    unfold gD
    by_cases h2 : x < c
    · rw [if_pos h2, if_pos (by omega)]
    · rw [if_neg h2, if_neg (by omega)]
def opP (op : Nat × Nat → Option va_E) (cA : Nat → ClassId) (base : Nat) (f0 f1 f2 f3 : Nat → Int32) : Nat × Nat → Option va_E := fun q => if q = (37, 0) then some (.inr (7, [.ref (base + 209), .ref (base + 213), .ref (base + 214)])) else if q = (39, 0) then some (.inl (cA 1, 165, .inl f0)) else if q = (39, 1) then some (.inl (cA 1, 165, .inl f1)) else if q = (39, 2) then some (.inl (cA 1, 165, .inl f2)) else if q = (40, 0) then some (.inl (cA 1, 165, .inl f3)) else op q
section OPP
variable {op : Nat × Nat → Option va_E} {cA : Nat → ClassId} {base : Nat} {f0 f1 f2 f3 g : Nat → Int32}
theorem opP_0 : opS (opP op cA base f0 f1 f2 f3) (39, 0) (some (.inl (cA 1, 165, .inl g))) = opP op cA base g f1 f2 f3 := by
  funext q
  unfold opS opP
  by_cases h : q = (39, 0)
  · subst h; rfl
  · rw [if_neg h, if_neg h, if_neg h]
theorem opP_1 : opS (opP op cA base f0 f1 f2 f3) (39, 1) (some (.inl (cA 1, 165, .inl g))) = opP op cA base f0 g f2 f3 := by
  funext q
  unfold opS opP
  by_cases h : q = (39, 1)
  · subst h; rfl
  · rw [if_neg h, if_neg h, if_neg h]
theorem opP_2 : opS (opP op cA base f0 f1 f2 f3) (39, 2) (some (.inl (cA 1, 165, .inl g))) = opP op cA base f0 f1 g f3 := by
  funext q
  unfold opS opP
  by_cases h : q = (39, 2)
  · subst h; rfl
  · rw [if_neg h, if_neg h, if_neg h]
theorem opP_3 : opS (opP op cA base f0 f1 f2 f3) (40, 0) (some (.inl (cA 1, 165, .inl g))) = opP op cA base f0 f1 f2 g := by
  funext q
  unfold opS opP
  by_cases h : q = (40, 0)
  · subst h; rfl
  · rw [if_neg h, if_neg h, if_neg h]
end OPP
theorem iadd1 (c : Nat) : Int32.ofInt (c : Int) + Int32.ofInt 1 = Int32.ofInt ((c + 1 : Nat) : Int) := by rw [← Int32.ofInt_add]; rfl
theorem isub2 {a b : Nat} (h : b ≤ a) : Int32.ofInt (a : Int) - Int32.ofInt (b : Int) = Int32.ofInt ((a - b : Nat) : Int) := by
  rw [← Int32.ofInt_sub]
  exact congrArg Int32.ofInt (by omega)
theorem ilt {a b : Nat} (ha : a < 1000) (hb : b < 1000) : Int32.ofInt (a : Int) < Int32.ofInt (b : Int) ↔ a < b := by
  rw [ofI_lt (mw_id (by omega) (by omega)) (mw_id (by omega) (by omega))]
  omega
theorem ile {a b : Nat} (ha : a < 1000) (hb : b < 1000) : Int32.ofInt (a : Int) ≤ Int32.ofInt (b : Int) ↔ a ≤ b := by
  rw [ofI_le (mw_id (by omega) (by omega)) (mw_id (by omega) (by omega))]
  omega
theorem icl {a : Nat} (ha : a < 1000) : (Int32.ofInt (a : Int)).toNatClampNeg = a := by
  rw [ofI_clamp (mw_id (by omega) (by omega))]
  omega
theorem iin {a N : Nat} (ha : a < N) (hN : N < 1000) : vp_in (Int32.ofInt (a : Int)) N := ofI_in (mw_id (by omega) (by omega)) (by omega)
theorem pw_l0 : Cond.fieldLink RX7 11 (TX7 0).1 (TX7 0).2.1 (TX7 0).2.2.1 ∈ lw_kept := kept_t 192 (by decide +kernel) rfl
theorem pw_l1 : Cond.fieldLink RX7 16 (TX7 1).1 (TX7 1).2.1 (TX7 1).2.2.1 ∈ lw_kept := kept_t 194 (by decide +kernel) rfl
theorem mEn_cg {w : mWd} {σ σ' : mS} {q : Nat × Nat} (h : ∀ k, σ q.1 q.2 k = σ' q.1 q.2 k) : mEn w σ q = mEn w σ' q := by
  unfold mEn mF
  simp only [h]
theorem pe_big (i : Nat) {x : Nat} (h : 165 ≤ x) : pe x i = 0 ∧ pD x = 0 := by
  have e : pwl.getD x (0, 0, 0) = (0, 0, 0) := by
    rw [List.getD_eq_getElem?_getD, List.getElem?_eq_none (Nat.le_trans (show pwl.length ≤ 165 by decide +kernel) h)]
    rfl
  have e0 : pI x = 0 ∧ pJ x = 0 ∧ pK x = 0 := by unfold pI pJ pK; rw [e]; exact ⟨rfl, rfl, rfl⟩
  refine ⟨?_, by unfold pD; omega⟩
  unfold pe
  split
  · exact e0.1
  · split
    · exact e0.2.1
    · exact e0.2.2
theorem gP_165 (i : Nat) : gP i 165 = fun k => Int32.ofInt (s1 39 i k) := by
  funext x
  show (if x < 165 then Int32.ofInt (pe x i : Int) else 0) = Int32.ofInt (pe x i : Int)
  by_cases h : x < 165
  · rw [if_pos h]
  · rw [if_neg h, (pe_big i (by omega)).1]; exact i0.symm
theorem gD_165 : gD 165 = fun k => Int32.ofInt (s1 40 0 k) := by
  funext x
  show (if x < 165 then Int32.ofInt (pD x : Int) else 0) = Int32.ofInt (pD x : Int)
  by_cases h : x < 165
  · rw [if_pos h]
  · rw [if_neg h, (pe_big 0 (by omega)).2]; exact i0.symm
theorem pw_open {D : va_G} {cA : Nat → ClassId} {base : Nat} {op : Nat × Nat → Option va_E} (h0 : op (39, 0) = none) (h1 : op (39, 1) = none) (h2 : op (39, 2) = none) (h3 : op (40, 0) = none) (q : Nat × Nat) : fbE (wC D cA base) s0 (opS op (37, 0) (some (.inr (7, [.ref (base + 209), .ref (base + 213), .ref (base + 214)])))) q = fbE (wC D cA base) s0 (opP op cA base (gP 0 0) (gP 1 0) (gP 2 0) (gD 0)) q := by
  have z : ∀ i, gP i 0 = fun _ => Int32.ofInt 0 := fun i => by funext x; show (if x < 0 then _ else _) = _; rw [if_neg (Nat.not_lt_zero _)]; exact i0.symm
  have zD : gD 0 = fun _ => Int32.ofInt 0 := by funext x; show (if x < 0 then _ else _) = _; rw [if_neg (Nat.not_lt_zero _)]; exact i0.symm
  rw [z, z, z, zD]
  unfold fbE
  by_cases e : q = (37, 0)
  · subst e; rw [opS_s]; rfl
  · rw [opS_n e]
    by_cases e0 : q = (39, 0)
    · subst e0; rw [h0]; rfl
    by_cases e1 : q = (39, 1)
    · subst e1; rw [h1]; rfl
    by_cases e2 : q = (39, 2)
    · subst e2; rw [h2]; rfl
    by_cases e3 : q = (40, 0)
    · subst e3; rw [h3]; rfl
    unfold opP
    rw [if_neg e, if_neg e0, if_neg e1, if_neg e2, if_neg e3]
theorem pw_shut {D : va_G} {cA : Nat → ClassId} {base : Nat} {op : Nat × Nat → Option va_E} (h0 : op (39, 0) = none) (h1 : op (39, 1) = none) (h2 : op (39, 2) = none) (h3 : op (40, 0) = none) {q : Nat × Nat} (hq : q.1 = 39 → q = (39, 0) ∨ q = (39, 1) ∨ q = (39, 2)) (hq2 : q.1 = 40 → q = (40, 0)) : fbE (wC D cA base) s0 (opP op cA base (gP 0 165) (gP 1 165) (gP 2 165) (gD 165)) q = fbE (wC D cA base) s1 (opS op (37, 0) none) q := by
  rw [gP_165, gP_165, gP_165, gD_165]
  unfold fbE
  by_cases e : q = (37, 0)
  · subst e; rw [opS_s]; rfl
  · rw [opS_n e]
    by_cases e0 : q = (39, 0)
    · subst e0; rw [h0]; rfl
    by_cases e1 : q = (39, 1)
    · subst e1; rw [h1]; rfl
    by_cases e2 : q = (39, 2)
    · subst e2; rw [h2]; rfl
    by_cases e3 : q = (40, 0)
    · subst e3; rw [h3]; rfl
    unfold opP
    rw [if_neg e, if_neg e0, if_neg e1, if_neg e2, if_neg e3]
    have n39 : q.1 ≠ 39 := fun z => by rcases hq z with a | a | a <;> contradiction
    have n40 : q.1 ≠ 40 := fun z => absurd (hq2 z) e3
    cases op q with
    | some x => rfl
    | none =>
      refine mEn_cg (fun k => ?_)
      show s0 q.1 q.2 k = s1 q.1 q.2 k
      unfold s1
      have b1 : Nat.beq q.1 39 = false := by cases h : Nat.beq q.1 39 with
        | false => rfl
        | true => exact absurd (Nat.eq_of_beq_eq_true h) n39
      have b2 : Nat.beq q.1 40 = false := by cases h : Nat.beq q.1 40 with
        | false => rfl
        | true => exact absurd (Nat.eq_of_beq_eq_true h) n40
      rw [b1, b2]
      rfl
theorem pw_vc : ∀ k ∈ List.range 215, ((vcC k).1 = 39 → vcC k = (39, 0) ∨ vcC k = (39, 1) ∨ vcC k = (39, 2)) ∧ ((vcC k).1 = 40 → vcC k = (40, 0)) := by decide +kernel
section PWW
variable {p : Program} {l : Launch} {e : Env} {R : Room} {s : State} {m : MethodId} {args : Array Value} {below : List Frame} {meth : Method} {c : Code} {cells slots : Nat} {Q : State → Prop}
variable {D : va_G} {cA : Nat → ClassId} {base : Nat} {op : Nat × Nat → Option va_E}
/-- at pc, with the first x powers in place -/
def PW (p : Program) (l : Launch) (e : Env) (R : Room) (s : State) (m : MethodId) (args : Array Value) (below : List Frame) (meth : Method) (c : Code) (cells slots : Nat) (Q : State → Prop) (D : va_G) (cA : Nat → ClassId) (base : Nat) (op : Nat × Nat → Option va_E) (pc x : Nat) (lv : List (Nat × Value)) : Prop := ∀ (H : Heap) (locs : List Loc) (ls : Array Slot), FB (wC D cA base) vcC base s0 (opP op cA base (gP 0 x) (gP 1 x) (gP 2 x) (gD x)) 215 H → va_S (fbA base) s.heap H locs → lv_has ls 5 lv → W p l e R s m args below meth c H locs cells slots Q (F0 m pc ls [])
def lvP (base c d r k : Nat) : List (Nat × Value) := [(0, .ref (base + 208)), (1, .int (Int32.ofInt (c : Int))), (2, .int (Int32.ofInt (d : Int))), (3, .int (Int32.ofInt (r : Int))), (4, .int (Int32.ofInt (k : Int)))]
def lvP3 (base c d r : Nat) : List (Nat × Value) := [(0, .ref (base + 208)), (1, .int (Int32.ofInt (c : Int))), (2, .int (Int32.ofInt (d : Int))), (3, .int (Int32.ofInt (r : Int)))]
def lvP2 (base c d : Nat) : List (Nat × Value) := [(0, .ref (base + 208)), (1, .int (Int32.ofInt (c : Int))), (2, .int (Int32.ofInt (d : Int)))]
set_option maxRecDepth 20000 in
theorem pw_in (h38 : op (38, 0) = none) (hx : p.tables.exec = Jvm.exec) (hb : c.code = cX7_init) (hts : ∀ x ∈ lw_kept, x.before args s = true) (hown : s.vm.findClass RX7 = some m.cls) (hK : mK (wC D cA base) s) (hsz : s.heap.size + cells = base + 215) {d r : Nat} (hd : d < 9) (hr : r ≤ d)
    (kk : PW p l e R s m args below meth c cells slots Q D cA base op 114 (ctk d (r + 1) 0) (lvP3 base (ctk d (r + 1) 0) d r)) : ∀ (j k : Nat), k + j = r + 1 → PW p l e R s m args below meth c cells slots Q D cA base op 52 (ctk d r k) (lvP base (ctk d r k) d r k) := by
  intro j
  induction j with
  | zero =>
    intro k hkj H locs ls hF hS hl
    have ek : k = r + 1 := by omega
    subst ek
    have hcr := ctk_r d (List.mem_range.mpr hd) r (List.mem_range.mpr (by omega))
    refine lv_iload hx hb (k_at kX7_init_ok 29 rfl) (lv_at hl 4 rfl) ?_
    refine lv_iload_n hx hb (k_at kX7_init_ok 30 rfl) rfl (lv_at hl 3 rfl) ?_
    refine lv_icmp_gt hx hb (tgt := 114) (k_at kX7_init_ok 31 rfl) rfl (fun _ => ?_) (fun h => absurd ((ilt (by omega) (by omega)).mpr (by omega)) h)
    rw [hcr] at hF hl
    exact kk H locs ls hF hS (lv_sub hl [0, 1, 2, 3] rfl)
  | succ j ih =>
    intro k hkj H locs ls hF hS hl
    obtain ⟨c0, c1, c2, c3, c4⟩ := ctk_ok d (List.mem_range.mpr hd) r (List.mem_range.mpr (by omega)) k (List.mem_range.mpr (by omega))
    refine lv_iload hx hb (k_at kX7_init_ok 29 rfl) (lv_at hl 4 rfl) ?_
    refine lv_iload_n hx hb (k_at kX7_init_ok 30 rfl) rfl (lv_at hl 3 rfl) ?_
    refine lv_icmp_gt hx hb (tgt := 114) (k_at kX7_init_ok 31 rfl) rfl (fun h => absurd ((ilt (by omega) (by omega)).mp h) (by omega)) (fun _ => ?_)
    refine lv_iload_n hx hb (k_at kX7_init_ok 32 rfl) rfl (lv_at hl 1 rfl) ?_
    refine lv_sipush hx hb (k_at kX7_init_ok 33 rfl) (ofI_16 (by decide) (by decide)) ?_
    refine lv_icmp_ge hx hb (tgt := 114) (k_at kX7_init_ok 34 rfl) rfl (fun h => absurd ((ile (b := ctk d r k) (a := 165) (by omega) (by omega)).mp h) (by omega)) (fun _ => ?_)
    refine lv_aload_n hx hb (k_at kX7_init_ok 35 rfl) rfl (lv_at hl 0 rfl) ?_
    refine fb_get hx hb hts hK hF hown 208 (37, 0) (by decide) rfl (fs := [.ref (base + 209), .ref (base + 213), .ref (base + 214)]) rfl rfl inX7 0 (by decide) pw_l0 rfl (k_at kX7_init_ok 36 rfl) ?_
    refine lv_iconst hx hb (k_at kX7_init_ok 37 rfl) rfl ?_
    refine fb_aald hx hb hK hF 209 (by decide) (N := 3) (f := fun j => some (base + (210 + j))) (fbE_m (q := (38, 0)) h38 rfl) (a := base + 210) (iin (a := 0) (by decide) (by decide)) rfl (k_at kX7_init_ok 38 rfl) ?_
    refine lv_iload_n hx hb (k_at kX7_init_ok 39 rfl) rfl (lv_at hl 1 rfl) ?_
    refine lv_iload_n hx hb (k_at kX7_init_ok 40 rfl) rfl (lv_at hl 2 rfl) ?_
    refine lv_iload_n hx hb (k_at kX7_init_ok 41 rfl) rfl (lv_at hl 3 rfl) ?_
    refine lv_isub hx hb (k_at kX7_init_ok 42 rfl) ?_
    rw [isub2 hr, ← c1]
    refine fb_iast hx hb hK hF hS hsz 210 (39, 0) (by decide) rfl (fun k hk h => vc_u (Nat.lt_of_lt_of_le hk (by decide +kernel)) h (by decide +kernel)) (N := 165) (f := gP 0 (ctk d r k)) rfl (icl (by omega)) (iin c0 (by decide)) (k_at kX7_init_ok 43 rfl) ?_
    intro H locs hF hS
    rw [show wcA (wC D cA base) 1 = cA 1 from rfl, opP_0, gP_s] at hF
    refine lv_aload_n hx hb (k_at kX7_init_ok 44 rfl) rfl (lv_at hl 0 rfl) ?_
    refine fb_get hx hb hts hK hF hown 208 (37, 0) (by decide) rfl (fs := [.ref (base + 209), .ref (base + 213), .ref (base + 214)]) rfl rfl inX7 0 (by decide) pw_l0 rfl (k_at kX7_init_ok 45 rfl) ?_
    refine lv_iconst hx hb (k_at kX7_init_ok 46 rfl) rfl ?_
    refine fb_aald hx hb hK hF 209 (by decide) (N := 3) (f := fun j => some (base + (210 + j))) (fbE_m (q := (38, 0)) h38 rfl) (a := base + 211) (iin (a := 1) (by decide) (by decide)) rfl (k_at kX7_init_ok 47 rfl) ?_
    refine lv_iload_n hx hb (k_at kX7_init_ok 48 rfl) rfl (lv_at hl 1 rfl) ?_
    refine lv_iload_n hx hb (k_at kX7_init_ok 49 rfl) rfl (lv_at hl 3 rfl) ?_
    refine lv_iload hx hb (k_at kX7_init_ok 50 rfl) (lv_at hl 4 rfl) ?_
    refine lv_isub hx hb (k_at kX7_init_ok 51 rfl) ?_
    rw [isub2 (show k ≤ r by omega), ← c2]
    refine fb_iast hx hb hK hF hS hsz 211 (39, 1) (by decide) rfl (fun k hk h => vc_u (Nat.lt_of_lt_of_le hk (by decide +kernel)) h (by decide +kernel)) (N := 165) (f := gP 1 (ctk d r k)) rfl (icl (by omega)) (iin c0 (by decide)) (k_at kX7_init_ok 52 rfl) ?_
    intro H locs hF hS
    rw [show wcA (wC D cA base) 1 = cA 1 from rfl, opP_1, gP_s] at hF
    refine lv_aload_n hx hb (k_at kX7_init_ok 53 rfl) rfl (lv_at hl 0 rfl) ?_
    refine fb_get hx hb hts hK hF hown 208 (37, 0) (by decide) rfl (fs := [.ref (base + 209), .ref (base + 213), .ref (base + 214)]) rfl rfl inX7 0 (by decide) pw_l0 rfl (k_at kX7_init_ok 54 rfl) ?_
    refine lv_iconst hx hb (k_at kX7_init_ok 55 rfl) rfl ?_
    refine fb_aald hx hb hK hF 209 (by decide) (N := 3) (f := fun j => some (base + (210 + j))) (fbE_m (q := (38, 0)) h38 rfl) (a := base + 212) (iin (a := 2) (by decide) (by decide)) rfl (k_at kX7_init_ok 56 rfl) ?_
    refine lv_iload_n hx hb (k_at kX7_init_ok 57 rfl) rfl (lv_at hl 1 rfl) ?_
    refine lv_iload hx hb (k_at kX7_init_ok 58 rfl) (lv_at hl 4 rfl) ?_
    rw [show Int32.ofInt (k : Int) = Int32.ofInt ((pe (ctk d r k) 2 : Nat) : Int) from by rw [c3]]
    refine fb_iast hx hb hK hF hS hsz 212 (39, 2) (by decide) rfl (fun k hk h => vc_u (Nat.lt_of_lt_of_le hk (by decide +kernel)) h (by decide +kernel)) (N := 165) (f := gP 2 (ctk d r k)) rfl (icl (by omega)) (iin c0 (by decide)) (k_at kX7_init_ok 59 rfl) ?_
    intro H locs hF hS
    rw [show wcA (wC D cA base) 1 = cA 1 from rfl, opP_2, gP_s] at hF
    refine lv_aload_n hx hb (k_at kX7_init_ok 60 rfl) rfl (lv_at hl 0 rfl) ?_
    refine fb_get hx hb hts hK hF hown 208 (37, 0) (by decide) rfl (fs := [.ref (base + 209), .ref (base + 213), .ref (base + 214)]) rfl rfl inX7 1 (by decide) pw_l1 rfl (k_at kX7_init_ok 61 rfl) ?_
    refine lv_iload_n hx hb (k_at kX7_init_ok 62 rfl) rfl (lv_at hl 1 rfl) ?_
    refine lv_iload_n hx hb (k_at kX7_init_ok 63 rfl) rfl (lv_at hl 2 rfl) ?_
    rw [show Int32.ofInt (d : Int) = Int32.ofInt ((pD (ctk d r k) : Nat) : Int) from by rw [c4]]
    refine fb_iast hx hb hK hF hS hsz 213 (40, 0) (by decide) rfl (fun k hk h => vc_u (Nat.lt_of_lt_of_le hk (by decide +kernel)) h (by decide +kernel)) (N := 165) (f := gD (ctk d r k)) rfl (icl (by omega)) (iin c0 (by decide)) (k_at kX7_init_ok 64 rfl) ?_
    intro H locs hF hS
    rw [show wcA (wC D cA base) 1 = cA 1 from rfl, opP_3, gD_s] at hF
    refine lv_iinc hx hb (k_at kX7_init_ok 65 rfl) hl (k := 1) rfl (iadd1 _) (by decide) rfl ?_
    intro ls hl
    refine lv_iinc hx hb (k_at kX7_init_ok 66 rfl) hl (k := 4) rfl (iadd1 _) (by decide) rfl ?_
    intro ls hl
    refine lv_goto hx hb (tgt := 52) (k_at kX7_init_ok 67 rfl) rfl ?_
    exact ih (k + 1) (by omega) H locs ls hF hS (lv_sub hl [2, 1, 3, 4, 0] rfl)
theorem pw_r (h38 : op (38, 0) = none) (hx : p.tables.exec = Jvm.exec) (hb : c.code = cX7_init) (hts : ∀ x ∈ lw_kept, x.before args s = true) (hown : s.vm.findClass RX7 = some m.cls) (hK : mK (wC D cA base) s) (hsz : s.heap.size + cells = base + 215) {d : Nat} (hd : d < 9)
    (kk : PW p l e R s m args below meth c cells slots Q D cA base op 120 (ctk (d + 1) 0 0) (lvP2 base (ctk (d + 1) 0 0) d)) : ∀ (j r : Nat), r + j = d + 1 → PW p l e R s m args below meth c cells slots Q D cA base op 44 (ctk d r 0) (lvP3 base (ctk d r 0) d r) := by
  intro j
  induction j with
  | zero =>
    intro r hrj H locs ls hF hS hl
    have er : r = d + 1 := by omega
    subst er
    have hcd := ctk_d d (List.mem_range.mpr hd)
    refine lv_iload_n hx hb (k_at kX7_init_ok 24 rfl) rfl (lv_at hl 3 rfl) ?_
    refine lv_iload_n hx hb (k_at kX7_init_ok 25 rfl) rfl (lv_at hl 2 rfl) ?_
    refine lv_icmp_gt hx hb (tgt := 120) (k_at kX7_init_ok 26 rfl) rfl (fun _ => ?_) (fun h => absurd ((ilt (by omega) (by omega)).mpr (by omega)) h)
    rw [hcd] at hF hl
    exact kk H locs ls hF hS (lv_sub hl [0, 1, 2] rfl)
  | succ j ih =>
    intro r hrj H locs ls hF hS hl
    refine lv_iload_n hx hb (k_at kX7_init_ok 24 rfl) rfl (lv_at hl 3 rfl) ?_
    refine lv_iload_n hx hb (k_at kX7_init_ok 25 rfl) rfl (lv_at hl 2 rfl) ?_
    refine lv_icmp_gt hx hb (tgt := 120) (k_at kX7_init_ok 26 rfl) rfl (fun h => absurd ((ilt (by omega) (by omega)).mp h) (by omega)) (fun _ => ?_)
    refine lv_iconst hx hb (k_at kX7_init_ok 27 rfl) rfl ?_
    refine lv_istore hx hb (k_at kX7_init_ok 28 rfl) hl (by decide) rfl ?_
    intro ls hl
    refine pw_in h38 hx hb hts hown hK hsz hd (by omega) ?_ (r + 1) 0 (by omega) H locs ls hF hS (lv_sub hl [1, 2, 3, 4, 0] rfl)
    intro H locs ls hF hS hl
    refine lv_iinc hx hb (k_at kX7_init_ok 68 rfl) hl (k := 3) rfl (iadd1 _) (by decide) rfl ?_
    intro ls hl
    refine lv_goto hx hb (tgt := 44) (k_at kX7_init_ok 69 rfl) rfl ?_
    exact ih (r + 1) (by omega) H locs ls hF hS (lv_sub hl [1, 2, 3, 0] rfl)
theorem pw_d (h38 : op (38, 0) = none) (hx : p.tables.exec = Jvm.exec) (hb : c.code = cX7_init) (hts : ∀ x ∈ lw_kept, x.before args s = true) (hown : s.vm.findClass RX7 = some m.cls) (hK : mK (wC D cA base) s) (hsz : s.heap.size + cells = base + 215)
    (kk : PW p l e R s m args below meth c cells slots Q D cA base op 126 165 []) : ∀ (j d : Nat), d + j = 9 → PW p l e R s m args below meth c cells slots Q D cA base op 36 (ctk d 0 0) (lvP2 base (ctk d 0 0) d) := by
  intro j
  induction j with
  | zero =>
    intro d hdj H locs ls hF hS hl
    have ed : d = 9 := by omega
    subst ed
    refine lv_iload_n hx hb (k_at kX7_init_ok 19 rfl) rfl (lv_at hl 2 rfl) ?_
    refine lv_bipush hx hb (k_at kX7_init_ok 20 rfl) (ofI_8 (by decide) (by decide)) ?_
    refine lv_icmp_gt hx hb (tgt := 126) (k_at kX7_init_ok 21 rfl) rfl (fun _ => ?_) (fun h => absurd ((ilt (a := 8) (b := 9) (by omega) (by omega)).mpr (by omega)) h)
    exact kk H locs ls hF hS (lv_sub hl [] rfl)
  | succ j ih =>
    intro d hdj H locs ls hF hS hl
    refine lv_iload_n hx hb (k_at kX7_init_ok 19 rfl) rfl (lv_at hl 2 rfl) ?_
    refine lv_bipush hx hb (k_at kX7_init_ok 20 rfl) (ofI_8 (by decide) (by decide)) ?_
    refine lv_icmp_gt hx hb (tgt := 126) (k_at kX7_init_ok 21 rfl) rfl (fun h => absurd ((ilt (a := 8) (b := d) (by omega) (by omega)).mp h) (by omega)) (fun _ => ?_)
    refine lv_iconst hx hb (k_at kX7_init_ok 22 rfl) rfl ?_
    refine lv_istore_n hx hb (k_at kX7_init_ok 23 rfl) rfl hl (by decide) rfl ?_
    intro ls hl
    refine pw_r h38 hx hb hts hown hK hsz (show d < 9 by omega) ?_ (d + 1) 0 (by omega) H locs ls hF hS (lv_sub hl [1, 2, 3, 0] rfl)
    intro H locs ls hF hS hl
    refine lv_iinc hx hb (k_at kX7_init_ok 70 rfl) hl (k := 2) rfl (iadd1 _) (by decide) rfl ?_
    intro ls hl
    refine lv_goto hx hb (tgt := 36) (k_at kX7_init_ok 71 rfl) rfl ?_
    exact ih (d + 1) (by omega) H locs ls hF hS (lv_sub hl [1, 2, 0] rfl)
end PWW
