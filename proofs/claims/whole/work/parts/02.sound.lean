/-! THE PICTURED MACHINE IS TRUE: what a picture says of the heap (mRep), of a frame (mWW), and mstep against W -/
/-- geometry, classes, addresses, the arrays' classes, the cells, what may be written, the class list, the links between nest mates -/
abbrev mWd : Type := mG × va_G × (Nat → Nat → Nat) × (Nat → ClassId) × List (Nat × Nat) × (Nat → Prop) × List vw_C × List (String × Nat × MethodName × String)
abbrev wG (w : mWd) : mG := w.1
abbrev wD (w : mWd) : va_G := w.2.1
abbrev wad (w : mWd) : Nat → Nat → Nat := w.2.2.1
abbrev wcA (w : mWd) : Nat → ClassId := w.2.2.2.1
abbrev wV (w : mWd) : List (Nat × Nat) := w.2.2.2.2.1
abbrev wA (w : mWd) : Nat → Prop := w.2.2.2.2.2.1
abbrev wcl (w : mWd) : List vw_C := w.2.2.2.2.2.2.1
abbrev wN (w : mWd) : List (String × Nat × MethodName × String) := w.2.2.2.2.2.2.2
def mtys (c : Nat → ClassId) : List (ClassId × FieldType) := [(c 1, .int), (c 2, .long), (c 3, .boolean), (c 5, .array .int), (c 6, .object "TurnBench$Layer")]
def mV (ad : Nat → Nat → Nat) (v : mv) : Value := match v with
  | .inl z => .int (Int32.ofInt z)
  | .inr (.inl z) => .long (Int64.ofInt z)
  | .inr (.inr q) => .ref (ad q.1 q.2)
def mEn (w : mWd) (σ : mS) (q : Nat × Nat) : va_E := match gk (wG w) q.1 with
  | 0 => .inr (gc (wG w) q.1, (List.range (gn (wG w) q.1 q.2)).map fun k => mV (wad w) (mF (wG w) σ q.1 q.2 k))
  | 1 => .inl (wcA w 1, gn (wG w) q.1 q.2, .inl fun k => Int32.ofInt (σ q.1 q.2 k))
  | 2 => .inl (wcA w 2, gn (wG w) q.1 q.2, .inr (.inl fun k => Int64.ofInt (σ q.1 q.2 k)))
  | 3 => .inl (wcA w 3, gn (wG w) q.1 q.2, .inl fun k => Int32.ofInt (σ q.1 q.2 k))
  | 4 => .inl (wcA w 1, 0, .inl fun k => 0)
  | n + 5 => .inl (wcA w (n + 5), gn (wG w) q.1 q.2, .inr (.inr (.inr (.inr fun k => some (wad w (ge (wG w) q.1 q.2 k).1 (ge (wG w) q.1 q.2 k).2)))))
/-- what a cell's numbers may be -/
def mOkK (k : Nat) (z : Int) : Prop := match k with
  | 2 => mx z = z
  | 3 => z = 0 ∨ z = 1
  | _ => mw z = z
def mOkS (w : mWd) (σ : mS) : Prop := ∀ q ∈ wV w, ∀ k, k < gn (wG w) q.1 q.2 → mOkK (gk (wG w) q.1) (σ q.1 q.2 k)
def mRep (w : mWd) (σ : mS) (H : Heap) : Prop := va_P (wD w) (wcl w) ((wV w).map fun q => (wad w q.1 q.2, mEn w σ q)) H ∧ mOkS w σ
/-- the script: is there one, its cell, its length, its ints -/
abbrev mSc : Type := Prop × Nat × Nat × (Nat → Int32)
def mOkV (w : mWd) (sc : mSc) (v : mv) : Prop := match v with
  | .inl z => mw z = z
  | .inr (.inl z) => mx z = z
  | .inr (.inr q) => q ∈ wV w ∨ (sc.1 ∧ gk (wG w) q.1 = 4 ∧ gn (wG w) q.1 q.2 = sc.2.2.1)
def mLs (w : mWd) (sc : mSc) (nL : Nat) (ls : List (Option mv)) (L : Array Slot) : Prop := L.size = nL ∧ lv_wf L ∧ ls.length = nL ∧ ∀ (i : Nat) (v : mv), ls[i]? = some (some v) → L[i]? = some (.val (mV (wad w) v)) ∧ mOkV w sc v
/-- what is fixed of the world -/
def mGeo (w : mWd) (Ts : List Cond) : Prop :=
  (wV w).Nodup ∧ (∀ q ∈ wV w, ∀ q' ∈ wV w, wad w q.1 q.2 = wad w q'.1 q'.2 → q = q') ∧ (∀ q ∈ wV w, wA w (wad w q.1 q.2)) ∧
  (∀ q ∈ wV w, gk (wG w) q.1 = 0 → ∃ (C : String) (T : u_T) (ty : Nat → FieldType), (wcl w)[gc (wG w) q.1]? = some (C, T, gn (wG w) q.1 q.2) ∧ (∀ x ∈ u_ws C T (gn (wG w) q.1 q.2), x ∈ Ts) ∧ (∀ k, k < gn (wG w) q.1 q.2 → parseFieldDescriptor (T k).2.2.1 = some (ty k)) ∧ (∀ a, a < gn (wG w) q.1 q.2 → ∀ b, b < gn (wG w) q.1 q.2 → a ≠ b → (T a).2.1 ≠ (T b).2.1) ∧
    ∀ k, k < gn (wG w) q.1 q.2 → gf (wG w) q.1 q.2 k = none → ty k = cond (gb (wG w) q.1 k) .boolean .int) ∧
  (∀ q ∈ wV w, gk (wG w) q.1 = 0 → ∀ k q', gf (wG w) q.1 q.2 k = some q' → q' ∈ wV w) ∧ (∀ q ∈ wV w, 5 ≤ gk (wG w) q.1 → ∀ k, k < gn (wG w) q.1 q.2 → ge (wG w) q.1 q.2 k ∈ wV w) ∧
  (∀ q ∈ wV w, gk (wG w) q.1 ≠ 4 ∧ gk (wG w) q.1 ≤ 6 ∧ gn (wG w) q.1 q.2 < 2147483648)
/-- a frame: machine, launch, env, room, start, method, arguments, below, method, code, cells, slots, goal -/
abbrev mFx : Type := Program × Launch × Env × Room × State × MethodId × Array Value × List Frame × Method × Code × Nat × Nat × (State → Prop)
def mWk (f : mFx) (H : Heap) (locs : List Loc) (g : JFrame) : Prop := W f.1 f.2.1 f.2.2.1 f.2.2.2.1 f.2.2.2.2.1 f.2.2.2.2.2.1 f.2.2.2.2.2.2.1 f.2.2.2.2.2.2.2.1 f.2.2.2.2.2.2.2.2.1 f.2.2.2.2.2.2.2.2.2.1 H locs f.2.2.2.2.2.2.2.2.2.2.1 f.2.2.2.2.2.2.2.2.2.2.2.1 f.2.2.2.2.2.2.2.2.2.2.2.2 g
abbrev fs (f : mFx) : State := f.2.2.2.2.1
abbrev fm (f : mFx) : MethodId := f.2.2.2.2.2.1
abbrev fa (f : mFx) : Array Value := f.2.2.2.2.2.2.1
/-- the pool's words -/
def mPool (P : mP) (w : mWd) (own : String) (Ts : List Cond) : Prop :=
  (∀ j c k, P.1 j = some (c, k) → ∃ (C : String) (T : u_T) (N : Nat), (wcl w)[c]? = some (C, T, N) ∧ k < N ∧ Cond.fieldLink own j (T k).1 (T k).2.1 (T k).2.2.1 ∈ Ts) ∧
  (∀ j c k, P.2.1 j = some (c, k) → ∃ (C : String) (T : u_T) (N : Nat), (wcl w)[c]? = some (C, T, N) ∧ k < N ∧ Cond.fieldLink own j (T k).1 (T k).2.1 (T k).2.2.1 ∈ Ts ∧ (T k).2.2.2 = false) ∧
  (∀ j z, P.2.2 j = some z → mx z = z ∧ Cond.constantLong own j (Int64.ofInt z) ∈ Ts)
/-- what the tables say of classes, and of links between nest mates -/
def mK (w : mWd) (U : State) : Prop := va_K (wD w) (wcl w) (mtys (wcA w)) U ∧ ∀ q ∈ wN w, va_Nw (.methodLinkNest q.1 q.2.1 q.2.2.1 q.2.2.2) U
theorem mK_warm {w : mWd} {s U : State} (hW : s.WarmedH U.vm) (h : mK w s) : mK w U := ⟨va_K.moved hW.alike h.1, fun q hq => va_Nw.warmM hW (h.2 q hq)⟩
/-- what holds in a method's frame -/
def mCx (f : mFx) (w : mWd) (sc : mSc) (cc : ByteArray) (nL : Nat) (own : String) (Ts : List Cond) : Prop :=
  f.1.tables.exec = Jvm.exec ∧ f.2.2.2.2.2.2.2.2.2.1.code = cc ∧ f.2.2.2.2.2.2.2.2.2.1.maxLocals = nL ∧ (fs f).vm.findClass own = some (fm f).cls ∧ (∀ x ∈ Ts, x.before (fa f) (fs f) = true) ∧ mK w (fs f) ∧
  mGeo w Ts ∧ (sc.1 → va_X sc.2.1 sc.2.2.1 sc.2.2.2 (fs f) (fs f).heap ∧ sc.2.1 < (fs f).heap.size ∧ ¬ wA w sc.2.1 ∧ sc.2.2.1 < 2147483648 ∧ ∀ r i, gk (wG w) r = 4 → gn (wG w) r i = sc.2.2.1 → wad w r i = sc.2.1)
/-- the script's ints in the store -/
def mScr (w : mWd) (sc : mSc) (σ : mS) : Prop := sc.1 → ∀ r i, gk (wG w) r = 4 → ∀ k, k < sc.2.2.1 → σ r i k = (sc.2.2.2 k).toInt
def mWW (f : mFx) (w : mWd) (sc : mSc) (nL : Nat) (x : mC) : Prop := ∀ (H : Heap) (locs : List Loc) (L : Array Slot), mRep w x.2.2.2 H → mScr w sc x.2.2.2 → va_S (wA w) (fs f).heap H locs → mLs w sc nL x.2.1 L → (∀ v ∈ x.2.2.1, mOkV w sc v) → mWk f H locs (F0 (fm f) x.1 L (x.2.2.1.map (mV (wad w))))
-- numbers
theorem mw_id {z : Int} (h1 : -2147483648 ≤ z) (h2 : z < 2147483648) : mw z = z := Int32.toInt_ofInt_of_le h1 h2
theorem mx_id {z : Int} (h1 : -9223372036854775808 ≤ z) (h2 : z < 9223372036854775808) : mx z = z := Int64.toInt_ofInt_of_le h1 h2
theorem mw_ok (z : Int) : mw (mw z) = mw z := by unfold mw; rw [Int32.ofInt_toInt]
theorem mx_ok (z : Int) : mx (mx z) = mx z := by unfold mx; rw [Int64.ofInt_toInt]
theorem mw_of (x : Int32) : mw x.toInt = x.toInt := by unfold mw; rw [Int32.ofInt_toInt]
theorem mx_of (x : Int64) : mx x.toInt = x.toInt := by unfold mx; rw [Int64.ofInt_toInt]
theorem mw_rg {z : Int} (h : mw z = z) : -2147483648 ≤ z ∧ z < 2147483648 := by
  rw [← h]; exact ⟨Int32.le_toInt _, Int32.toInt_lt _⟩
theorem mx_rg {z : Int} (h : mx z = z) : -9223372036854775808 ≤ z ∧ z < 9223372036854775808 := by
  rw [← h]; exact ⟨Int64.le_toInt _, Int64.toInt_lt _⟩
theorem ofI_mw (z : Int) : Int32.ofInt (mw z) = Int32.ofInt z := by unfold mw; rw [Int32.ofInt_toInt]
theorem ofI_mx (z : Int) : Int64.ofInt (mx z) = Int64.ofInt z := by unfold mx; rw [Int64.ofInt_toInt]
theorem ofI_inj {a b : Int} (ha : mw a = a) (hb : mw b = b) (h : Int32.ofInt a = Int32.ofInt b) : a = b := by
  rw [← ha, ← hb]; unfold mw; rw [h]
theorem ofI_le {a b : Int} (ha : mw a = a) (hb : mw b = b) : Int32.ofInt a ≤ Int32.ofInt b ↔ a ≤ b := by
  rw [Int32.le_iff_toInt_le]; show mw a ≤ mw b ↔ _; rw [ha, hb]
theorem ofI_lt {a b : Int} (ha : mw a = a) (hb : mw b = b) : Int32.ofInt a < Int32.ofInt b ↔ a < b := by
  rw [Int32.lt_iff_toInt_lt]; show mw a < mw b ↔ _; rw [ha, hb]
theorem ofI_eq {a b : Int} (ha : mw a = a) (hb : mw b = b) : Int32.ofInt a = Int32.ofInt b ↔ a = b := ⟨ofI_inj ha hb, fun h => by rw [h]⟩
theorem ofL_lt {a b : Int} (ha : mx a = a) (hb : mx b = b) : Int64.ofInt a < Int64.ofInt b ↔ a < b := by
  rw [Int64.lt_iff_toInt_lt]; show mx a < mx b ↔ _; rw [ha, hb]
theorem ofL_eq {a b : Int} (ha : mx a = a) (hb : mx b = b) : Int64.ofInt a = Int64.ofInt b ↔ a = b := ⟨fun h => by rw [← ha, ← hb]; unfold mx; rw [h], fun h => by rw [h]⟩
theorem ofI_clamp {j : Int} (h : mw j = j) : (Int32.ofInt j).toNatClampNeg = j.toNat := by
  show (Int32.ofInt j).toInt.toNat = _
  show (mw j).toNat = _
  rw [h]
theorem ofI_in {j : Int} {n : Nat} (h : mw j = j) (h1 : 0 ≤ j ∧ j < (n : Int)) : vp_in (Int32.ofInt j) n := by
  rw [vp_in_iff]; show 0 ≤ mw j ∧ mw j < _; rw [h]; exact h1
theorem mrg_ok {lo hi n : Int} (h : mrg lo hi n = true) : lo ≤ n ∧ n < hi := by
  unfold mrg at h; rw [Bool.and_eq_true] at h; exact ⟨of_decide_eq_true h.1, of_decide_eq_true h.2⟩
theorem ofI_8 {n : Int} (h1 : -128 ≤ n) (h2 : n < 128) : (Int8.ofInt n).toInt32 = Int32.ofInt n := by
  apply Int32.toInt_inj.mp
  rw [Int8.toInt_toInt32, Int8.toInt_ofInt_of_le h1 h2, Int32.toInt_ofInt_of_le (by omega) (by omega)]
theorem ofI_16 {n : Int} (h1 : -32768 ≤ n) (h2 : n < 32768) : (Int16.ofInt n).toInt32 = Int32.ofInt n := by
  apply Int32.toInt_inj.mp
  rw [Int16.toInt_toInt32, Int16.toInt_ofInt_of_le h1 h2, Int32.toInt_ofInt_of_le (by omega) (by omega)]
theorem ofI_wide {z : Int} (h : mw z = z) : (Int32.ofInt z).toInt64 = Int64.ofInt z := by
  have hr := mw_rg h
  apply Int64.toInt_inj.mp
  rw [Int32.toInt_toInt64]
  show mw z = mx z
  rw [h, mx_id (by omega) (by omega)]
theorem ofI_narrow {z : Int} (h : mx z = z) : (Int64.ofInt z).toInt32 = Int32.ofInt (mw z) := by
  rw [ofI_mw]
  apply Int32.toInt_inj.mp
  rw [Int64.toInt_toInt32]
  have : (Int64.ofInt z).toInt = z := h
  rw [this, Int32.toInt_ofInt]
theorem ofI_cmp {a b : Int} (ha : mx a = a) (hb : mx b = b) : lg_cmp (Int64.ofInt a) (Int64.ofInt b) = Int32.ofInt (if a > b then 1 else if a = b then 0 else -1) := by
  unfold lg_cmp
  by_cases h : b < a
  · rw [if_pos ((ofL_lt hb ha).mpr h), if_pos h]; rfl
  · rw [if_neg (fun q => h ((ofL_lt hb ha).mp q)), if_neg h]
    by_cases h2 : a = b
    · rw [if_pos ((ofL_eq ha hb).mpr h2), if_pos h2]; rfl
    · rw [if_neg (fun q => h2 ((ofL_eq ha hb).mp q)), if_neg h2]; rfl
-- locals
def mLv (ad : Nat → Nat → Nat) (ls : List (Option mv)) : List (Nat × Value) := (List.range ls.length).filterMap fun i => match ls[i]? with
  | some (some v) => some (i, mV ad v)
  | _ => none
theorem mLv_mem {ad : Nat → Nat → Nat} {ls : List (Option mv)} {q : Nat × Value} : q ∈ mLv ad ls ↔ ∃ v, ls[q.1]? = some (some v) ∧ q.2 = mV ad v := by
  unfold mLv
  rw [List.mem_filterMap]
  constructor
  · rintro ⟨i, hi, h⟩
    split at h
    · rename_i v hv
      cases h
      exact ⟨v, hv, rfl⟩
    · cases h
  · rintro ⟨v, h1, h2⟩
    obtain ⟨i, x⟩ := q
    dsimp only at h1 h2
    subst h2
    refine ⟨i, List.mem_range.mpr (List.getElem?_eq_some_iff.mp h1).1, ?_⟩
    rw [h1]
theorem mLs_has {w : mWd} {sc : mSc} {nL : Nat} {ls : List (Option mv)} {L : Array Slot} (h : mLs w sc nL ls L) : lv_has L nL (mLv (wad w) ls) := by
  refine ⟨h.1, h.2.1, fun q hq => ?_⟩
  obtain ⟨v, h1, h2⟩ := mLv_mem.mp hq
  rw [h2]
  exact (h.2.2.2 _ _ h1).1
theorem mkill_len (ls : List (Option mv)) (k : Nat) : (mkill ls k).length = ls.length := by
  cases k with
  | zero => rfl
  | succ k =>
    show (match ls[k]? with | some (some (.inr (.inl _))) => ls.set k none | _ => ls).length = _
    split
    · exact List.length_set
    · rfl
theorem mkill_get {ls : List (Option mv)} {k j : Nat} {v : mv} (h : (mkill ls k)[j]? = some (some v)) : ls[j]? = some (some v) ∧ (j + 1 = k → ∀ z, v ≠ .inr (.inl z)) := by
  cases k with
  | zero => exact ⟨h, fun q => by omega⟩
  | succ k =>
    change (match ls[k]? with | some (some (.inr (.inl _))) => ls.set k none | _ => ls)[j]? = some (some v) at h
    split at h
    · rename_i z hz
      by_cases e : j = k
      · subst e
        rw [List.getElem?_set_self (List.getElem?_eq_some_iff.mp hz).1] at h
        cases h
      · rw [List.getElem?_set_ne (Ne.symm e)] at h
        exact ⟨h, fun q => absurd q (by omega)⟩
    · rename_i hz
      refine ⟨h, fun q z hv => ?_⟩
      have : j = k := by omega
      subst this; subst hv
      exact hz z h
theorem mV_cat1 {ad : Nat → Nat → Nat} {v : mv} (h : (mV ad v).category = 2) : ∃ z, v = .inr (.inl z) := by
  rcases v with z | z | q
  · cases h
  · exact ⟨z, rfl⟩
  · cases h
theorem mLs_st1 {w : mWd} {sc : mSc} {nL : Nat} {ls : List (Option mv)} {L L' : Array Slot} {k : Nat} {v : mv} (h : mLs w sc nL ls L) (hk : k < nL) (hv : mOkV w sc v)
    (h' : lv_has L' nL ((k, mV (wad w) v) :: (mLv (wad w) ls).filter (fun q => !(q.1 == k) && !(q.1 + 1 == k && q.2.category == 2)))) : mLs w sc nL (mst1 ls k v) L' := by
  refine ⟨h'.1, h'.2.1, by unfold mst1; rw [List.length_set, mkill_len]; exact h.2.2.1, fun i u hu => ?_⟩
  unfold mst1 at hu
  by_cases e : i = k
  · subst e
    rw [List.getElem?_set_self (by rw [mkill_len, h.2.2.1]; exact hk)] at hu
    cases hu
    exact ⟨h'.2.2 _ List.mem_cons_self, hv⟩
  · rw [List.getElem?_set_ne (Ne.symm e)] at hu
    obtain ⟨h1, h2⟩ := mkill_get hu
    obtain ⟨h3, h4⟩ := h.2.2.2 _ _ h1
    refine ⟨h'.2.2 (i, mV (wad w) u) (List.mem_cons_of_mem _ (List.mem_filter.mpr ⟨mLv_mem.mpr ⟨u, h1, rfl⟩, ?_⟩)), h4⟩
    by_cases e2 : i + 1 = k
    · have hc : ¬ (mV (wad w) u).category = 2 := fun q => by obtain ⟨z, hz⟩ := mV_cat1 q; exact h2 e2 z hz
      simp [e, hc]
    · simp [e, e2]
theorem mLs_st2 {w : mWd} {sc : mSc} {nL : Nat} {ls : List (Option mv)} {L L' : Array Slot} {k : Nat} {v : mv} (h : mLs w sc nL ls L) (hk : k + 1 < nL) (hv : mOkV w sc v)
    (h' : lv_has L' nL ((k, mV (wad w) v) :: (mLv (wad w) ls).filter (fun q => !(q.1 == k) && (!(q.1 == k + 1) && !(q.1 + 1 == k && q.2.category == 2))))) : mLs w sc nL (mst2 ls k v) L' := by
  refine ⟨h'.1, h'.2.1, by unfold mst2; rw [List.length_set, List.length_set, mkill_len]; exact h.2.2.1, fun i u hu => ?_⟩
  unfold mst2 at hu
  by_cases e0 : i = k + 1
  · subst e0
    rw [List.getElem?_set_self (by rw [List.length_set, mkill_len, h.2.2.1]; exact hk)] at hu
    cases hu
  rw [List.getElem?_set_ne (Ne.symm e0)] at hu
  by_cases e : i = k
  · subst e
    rw [List.getElem?_set_self (by rw [mkill_len, h.2.2.1]; omega)] at hu
    cases hu
    exact ⟨h'.2.2 _ List.mem_cons_self, hv⟩
  · rw [List.getElem?_set_ne (Ne.symm e)] at hu
    obtain ⟨h1, h2⟩ := mkill_get hu
    obtain ⟨h3, h4⟩ := h.2.2.2 _ _ h1
    refine ⟨h'.2.2 (i, mV (wad w) u) (List.mem_cons_of_mem _ (List.mem_filter.mpr ⟨mLv_mem.mpr ⟨u, h1, rfl⟩, ?_⟩)), h4⟩
    by_cases e2 : i + 1 = k
    · have hc : ¬ (mV (wad w) u).category = 2 := fun q => by obtain ⟨z, hz⟩ := mV_cat1 q; exact h2 e2 z hz
      simp [e, e0, hc]
    · simp [e, e0, e2]
-- the heap
theorem mWd_at {w : mWd} {σ : mS} {q : Nat × Nat} (h : q ∈ wV w) : ∃ k : Nat, (wV w)[k]? = some q ∧ ((wV w).map fun q => (wad w q.1 q.2, mEn w σ q))[k]? = some (wad w q.1 q.2, mEn w σ q) := by
  obtain ⟨k, hk⟩ := List.getElem?_of_mem h
  exact ⟨k, hk, by rw [List.getElem?_map, hk]; rfl⟩
theorem mWd_D {w : mWd} {Ts : List Cond} (hG : mGeo w Ts) (σ : mS) : va_D (wA w) ((wV w).map fun q => (wad w q.1 q.2, mEn w σ q)) := by
  obtain ⟨hn, hi, hA, -⟩ := hG
  refine ⟨fun i j p q hp hq e => ?_, fun k q hq => ?_⟩
  · rw [List.getElem?_map] at hp hq
    obtain ⟨p', hp', rfl⟩ := Option.map_eq_some_iff.mp hp
    obtain ⟨q', hq', rfl⟩ := Option.map_eq_some_iff.mp hq
    have e2 := hi p' (List.mem_of_getElem? hp') q' (List.mem_of_getElem? hq') e
    subst e2
    exact (List.getElem?_inj (List.getElem?_eq_some_iff.mp hp').1 hn).mp (hp'.trans hq'.symm)
  · rw [List.getElem?_map] at hq
    obtain ⟨q', hq', rfl⟩ := Option.map_eq_some_iff.mp hq
    exact hA q' (List.mem_of_getElem? hq')
theorem mEn_other {w : mWd} {σ : mS} {r i k : Nat} {z : Int} {q : Nat × Nat} (h : q ≠ (r, i)) : mEn w (mup σ r i k z) q = mEn w σ q := by
  have e : ∀ j, mup σ r i k z q.1 q.2 j = σ q.1 q.2 j := fun j => by
    rw [mup_def, if_neg]
    rintro ⟨h1, h2, -⟩
    exact h (Prod.ext h1 h2)
  unfold mEn mF
  simp only [e]
/-- a world with one entry changed is the world of the changed store -/
theorem mWd_set {w : mWd} {Ts : List Cond} (hG : mGeo w Ts) {σ : mS} {r i k : Nat} {z : Int} {j : Nat} {e : va_E} (hj : (wV w)[j]? = some (r, i)) (he : mEn w (mup σ r i k z) (r, i) = e) :
    ((wV w).map fun q => (wad w q.1 q.2, mEn w σ q)).set j (wad w r i, e) = (wV w).map fun q => (wad w q.1 q.2, mEn w (mup σ r i k z) q) := by
  apply List.ext_getElem?
  intro n
  by_cases en : n = j
  · subst en
    rw [List.getElem?_set_self (by rw [List.length_map]; exact (List.getElem?_eq_some_iff.mp hj).1), List.getElem?_map, hj]
    show _ = some (_, mEn w (mup σ r i k z) (r, i))
    rw [he]
  · rw [List.getElem?_set_ne (Ne.symm en), List.getElem?_map, List.getElem?_map]
    cases hv : (wV w)[n]? with
    | none => rfl
    | some q =>
      have hne : q ≠ (r, i) := by
        rintro rfl
        exact en ((List.getElem?_inj (List.getElem?_eq_some_iff.mp hv).1 hG.1).mp (hv.trans hj.symm))
      show some (_, mEn w σ q) = some (_, mEn w (mup σ r i k z) q)
      rw [mEn_other hne]
theorem mOkS_up {w : mWd} {σ : mS} {r i k : Nat} {z : Int} (h : mOkS w σ) (hz : mOkK (gk (wG w) r) z) : mOkS w (mup σ r i k z) := by
  intro q hq j hj
  rw [mup_def]
  split
  · rename_i e
    rw [e.1]; exact hz
  · exact h q hq j hj
theorem mScr_up {w : mWd} {sc : mSc} {σ : mS} {r i k : Nat} {z : Int} (h : mScr w sc σ) (hr : gk (wG w) r ≠ 4) : mScr w sc (mup σ r i k z) := by
  intro hs r' i' h4 j hj
  rw [mup_def]
  split
  · rename_i e
    rw [e.1] at h4; exact absurd h4 hr
  · exact h hs r' i' h4 j hj
