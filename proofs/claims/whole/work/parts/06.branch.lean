/-! branches, returns, calls, System.arraycopy; a method's contract out of the walk of its body -/
theorem ofI_z : Int32.ofInt 0 = 0 := by decide
theorem ofI_z0 : mw 0 = 0 := by decide
theorem ofI_eq0 {a : Int} (ha : mw a = a) : Int32.ofInt a = 0 ↔ a = 0 := by rw [← ofI_z]; exact ofI_eq ha ofI_z0
theorem ofI_lt0 {a : Int} (ha : mw a = a) : Int32.ofInt a < 0 ↔ a < 0 := by rw [← ofI_z]; exact ofI_lt ha ofI_z0
theorem ofI_gt0 {a : Int} (ha : mw a = a) : 0 < Int32.ofInt a ↔ 0 < a := by rw [← ofI_z]; exact ofI_lt ofI_z0 ha
theorem ofI_le0 {a : Int} (ha : mw a = a) : Int32.ofInt a ≤ 0 ↔ a ≤ 0 := by rw [← ofI_z]; exact ofI_le ha ofI_z0
theorem ofI_ge0 {a : Int} (ha : mw a = a) : 0 ≤ Int32.ofInt a ↔ 0 ≤ a := by rw [← ofI_z]; exact ofI_le ofI_z0 ha
section MBR
variable {f : mFx} {w : mWd} {sc : mSc} {cc : ByteArray} {nL : Nat} {own : String} {Ts : List Cond} {code : List mI} {pc : Nat} {off : Int} {tgt : Nat} {ls : List (Option mv)} {st : List mv} {σ : mS} {a b : Int}
theorem b_ok2 (h5 : ∀ v ∈ ((.inl b :: .inl a :: st : List mv)), mOkV w sc v) : mw a = a ∧ mw b = b ∧ ∀ v ∈ st, mOkV w sc v := ⟨h5 (.inl a) (List.mem_cons_of_mem _ List.mem_cons_self), h5 (.inl b) List.mem_cons_self, fun v hv => h5 v (List.mem_cons_of_mem _ (List.mem_cons_of_mem _ hv))⟩
theorem b_ok1 (h5 : ∀ v ∈ ((.inl a :: st : List mv)), mOkV w sc v) : mw a = a ∧ ∀ v ∈ st, mOkV w sc v := ⟨h5 (.inl a) List.mem_cons_self, fun v hv => h5 v (List.mem_cons_of_mem _ hv)⟩
theorem b_ieq (C0 : mCx f w sc cc nL own Ts) (hd : ∀ e ∈ code, decode cc e.1 = .ok (e.2.1, e.2.2)) (j : Nat) (hj : code[j]? = some (pc, .if_icmp .eq off, 3)) (ht : (pc : Int) + off = (tgt : Int)) (kt : a = b → mWW f w sc nL (tgt, ls, st, σ)) (kf : ¬ a = b → mWW f w sc nL (pc + 3, ls, st, σ)) : mWW f w sc nL (pc, ls, .inl b :: .inl a :: st, σ) := by
  have hdc := hd _ (List.mem_of_getElem? hj)
  dsimp only at hdc
  intro H locs L h1 h2 h3 h4 h5
  obtain ⟨ha, hb, hst⟩ := b_ok2 h5
  exact lv_icmp_eq C0.1 C0.2.1 hdc ht (fun q => kt ((ofI_eq ha hb).mp q) H locs L h1 h2 h3 h4 hst) (fun q => kf (fun e => q ((ofI_eq ha hb).mpr e)) H locs L h1 h2 h3 h4 hst)
theorem b_ine (C0 : mCx f w sc cc nL own Ts) (hd : ∀ e ∈ code, decode cc e.1 = .ok (e.2.1, e.2.2)) (j : Nat) (hj : code[j]? = some (pc, .if_icmp .ne off, 3)) (ht : (pc : Int) + off = (tgt : Int)) (kt : ¬ a = b → mWW f w sc nL (tgt, ls, st, σ)) (kf : a = b → mWW f w sc nL (pc + 3, ls, st, σ)) : mWW f w sc nL (pc, ls, .inl b :: .inl a :: st, σ) := by
  have hdc := hd _ (List.mem_of_getElem? hj)
  dsimp only at hdc
  intro H locs L h1 h2 h3 h4 h5
  obtain ⟨ha, hb, hst⟩ := b_ok2 h5
  exact lv_icmp_ne C0.1 C0.2.1 hdc ht (fun q => kt (fun e => q ((ofI_eq ha hb).mpr e)) H locs L h1 h2 h3 h4 hst) (fun q => kf ((ofI_eq ha hb).mp q) H locs L h1 h2 h3 h4 hst)
theorem b_ilt (C0 : mCx f w sc cc nL own Ts) (hd : ∀ e ∈ code, decode cc e.1 = .ok (e.2.1, e.2.2)) (j : Nat) (hj : code[j]? = some (pc, .if_icmp .lt off, 3)) (ht : (pc : Int) + off = (tgt : Int)) (kt : a < b → mWW f w sc nL (tgt, ls, st, σ)) (kf : ¬ a < b → mWW f w sc nL (pc + 3, ls, st, σ)) : mWW f w sc nL (pc, ls, .inl b :: .inl a :: st, σ) := by
  have hdc := hd _ (List.mem_of_getElem? hj)
  dsimp only at hdc
  intro H locs L h1 h2 h3 h4 h5
  obtain ⟨ha, hb, hst⟩ := b_ok2 h5
  exact lv_icmp_lt C0.1 C0.2.1 hdc ht (fun q => kt ((ofI_lt ha hb).mp q) H locs L h1 h2 h3 h4 hst) (fun q => kf (fun e => q ((ofI_lt ha hb).mpr e)) H locs L h1 h2 h3 h4 hst)
theorem b_ige (C0 : mCx f w sc cc nL own Ts) (hd : ∀ e ∈ code, decode cc e.1 = .ok (e.2.1, e.2.2)) (j : Nat) (hj : code[j]? = some (pc, .if_icmp .ge off, 3)) (ht : (pc : Int) + off = (tgt : Int)) (kt : b ≤ a → mWW f w sc nL (tgt, ls, st, σ)) (kf : ¬ b ≤ a → mWW f w sc nL (pc + 3, ls, st, σ)) : mWW f w sc nL (pc, ls, .inl b :: .inl a :: st, σ) := by
  have hdc := hd _ (List.mem_of_getElem? hj)
  dsimp only at hdc
  intro H locs L h1 h2 h3 h4 h5
  obtain ⟨ha, hb, hst⟩ := b_ok2 h5
  exact lv_icmp_ge C0.1 C0.2.1 hdc ht (fun q => kt ((ofI_le hb ha).mp q) H locs L h1 h2 h3 h4 hst) (fun q => kf (fun e => q ((ofI_le hb ha).mpr e)) H locs L h1 h2 h3 h4 hst)
theorem b_igt (C0 : mCx f w sc cc nL own Ts) (hd : ∀ e ∈ code, decode cc e.1 = .ok (e.2.1, e.2.2)) (j : Nat) (hj : code[j]? = some (pc, .if_icmp .gt off, 3)) (ht : (pc : Int) + off = (tgt : Int)) (kt : b < a → mWW f w sc nL (tgt, ls, st, σ)) (kf : ¬ b < a → mWW f w sc nL (pc + 3, ls, st, σ)) : mWW f w sc nL (pc, ls, .inl b :: .inl a :: st, σ) := by
  have hdc := hd _ (List.mem_of_getElem? hj)
  dsimp only at hdc
  intro H locs L h1 h2 h3 h4 h5
  obtain ⟨ha, hb, hst⟩ := b_ok2 h5
  exact lv_icmp_gt C0.1 C0.2.1 hdc ht (fun q => kt ((ofI_lt hb ha).mp q) H locs L h1 h2 h3 h4 hst) (fun q => kf (fun e => q ((ofI_lt hb ha).mpr e)) H locs L h1 h2 h3 h4 hst)
theorem b_ile (C0 : mCx f w sc cc nL own Ts) (hd : ∀ e ∈ code, decode cc e.1 = .ok (e.2.1, e.2.2)) (j : Nat) (hj : code[j]? = some (pc, .if_icmp .le off, 3)) (ht : (pc : Int) + off = (tgt : Int)) (kt : a ≤ b → mWW f w sc nL (tgt, ls, st, σ)) (kf : ¬ a ≤ b → mWW f w sc nL (pc + 3, ls, st, σ)) : mWW f w sc nL (pc, ls, .inl b :: .inl a :: st, σ) := by
  have hdc := hd _ (List.mem_of_getElem? hj)
  dsimp only at hdc
  intro H locs L h1 h2 h3 h4 h5
  obtain ⟨ha, hb, hst⟩ := b_ok2 h5
  exact lv_icmp_le C0.1 C0.2.1 hdc ht (fun q => kt ((ofI_le ha hb).mp q) H locs L h1 h2 h3 h4 hst) (fun q => kf (fun e => q ((ofI_le ha hb).mpr e)) H locs L h1 h2 h3 h4 hst)
theorem b_eq (C0 : mCx f w sc cc nL own Ts) (hd : ∀ e ∈ code, decode cc e.1 = .ok (e.2.1, e.2.2)) (j : Nat) (hj : code[j]? = some (pc, .ifCond .eq off, 3)) (ht : (pc : Int) + off = (tgt : Int)) (kt : a = 0 → mWW f w sc nL (tgt, ls, st, σ)) (kf : ¬ a = 0 → mWW f w sc nL (pc + 3, ls, st, σ)) : mWW f w sc nL (pc, ls, .inl a :: st, σ) := by
  have hdc := hd _ (List.mem_of_getElem? hj)
  dsimp only at hdc
  intro H locs L h1 h2 h3 h4 h5
  obtain ⟨ha, hst⟩ := b_ok1 h5
  exact lv_if_eq C0.1 C0.2.1 hdc ht (fun q => kt ((ofI_eq0 ha).mp q) H locs L h1 h2 h3 h4 hst) (fun q => kf (fun e => q ((ofI_eq0 ha).mpr e)) H locs L h1 h2 h3 h4 hst)
theorem b_ne (C0 : mCx f w sc cc nL own Ts) (hd : ∀ e ∈ code, decode cc e.1 = .ok (e.2.1, e.2.2)) (j : Nat) (hj : code[j]? = some (pc, .ifCond .ne off, 3)) (ht : (pc : Int) + off = (tgt : Int)) (kt : ¬ a = 0 → mWW f w sc nL (tgt, ls, st, σ)) (kf : a = 0 → mWW f w sc nL (pc + 3, ls, st, σ)) : mWW f w sc nL (pc, ls, .inl a :: st, σ) := by
  have hdc := hd _ (List.mem_of_getElem? hj)
  dsimp only at hdc
  intro H locs L h1 h2 h3 h4 h5
  obtain ⟨ha, hst⟩ := b_ok1 h5
  exact lv_if_ne C0.1 C0.2.1 hdc ht (fun q => kt (fun e => q ((ofI_eq0 ha).mpr e)) H locs L h1 h2 h3 h4 hst) (fun q => kf ((ofI_eq0 ha).mp q) H locs L h1 h2 h3 h4 hst)
theorem b_lt (C0 : mCx f w sc cc nL own Ts) (hd : ∀ e ∈ code, decode cc e.1 = .ok (e.2.1, e.2.2)) (j : Nat) (hj : code[j]? = some (pc, .ifCond .lt off, 3)) (ht : (pc : Int) + off = (tgt : Int)) (kt : a < 0 → mWW f w sc nL (tgt, ls, st, σ)) (kf : ¬ a < 0 → mWW f w sc nL (pc + 3, ls, st, σ)) : mWW f w sc nL (pc, ls, .inl a :: st, σ) := by
  have hdc := hd _ (List.mem_of_getElem? hj)
  dsimp only at hdc
  intro H locs L h1 h2 h3 h4 h5
  obtain ⟨ha, hst⟩ := b_ok1 h5
  exact lv_if_lt C0.1 C0.2.1 hdc ht (fun q => kt ((ofI_lt0 ha).mp q) H locs L h1 h2 h3 h4 hst) (fun q => kf (fun e => q ((ofI_lt0 ha).mpr e)) H locs L h1 h2 h3 h4 hst)
theorem b_ge (C0 : mCx f w sc cc nL own Ts) (hd : ∀ e ∈ code, decode cc e.1 = .ok (e.2.1, e.2.2)) (j : Nat) (hj : code[j]? = some (pc, .ifCond .ge off, 3)) (ht : (pc : Int) + off = (tgt : Int)) (kt : 0 ≤ a → mWW f w sc nL (tgt, ls, st, σ)) (kf : ¬ 0 ≤ a → mWW f w sc nL (pc + 3, ls, st, σ)) : mWW f w sc nL (pc, ls, .inl a :: st, σ) := by
  have hdc := hd _ (List.mem_of_getElem? hj)
  dsimp only at hdc
  intro H locs L h1 h2 h3 h4 h5
  obtain ⟨ha, hst⟩ := b_ok1 h5
  exact lv_if_ge C0.1 C0.2.1 hdc ht (fun q => kt ((ofI_ge0 ha).mp q) H locs L h1 h2 h3 h4 hst) (fun q => kf (fun e => q ((ofI_ge0 ha).mpr e)) H locs L h1 h2 h3 h4 hst)
theorem b_gt (C0 : mCx f w sc cc nL own Ts) (hd : ∀ e ∈ code, decode cc e.1 = .ok (e.2.1, e.2.2)) (j : Nat) (hj : code[j]? = some (pc, .ifCond .gt off, 3)) (ht : (pc : Int) + off = (tgt : Int)) (kt : 0 < a → mWW f w sc nL (tgt, ls, st, σ)) (kf : ¬ 0 < a → mWW f w sc nL (pc + 3, ls, st, σ)) : mWW f w sc nL (pc, ls, .inl a :: st, σ) := by
  have hdc := hd _ (List.mem_of_getElem? hj)
  dsimp only at hdc
  intro H locs L h1 h2 h3 h4 h5
  obtain ⟨ha, hst⟩ := b_ok1 h5
  exact lv_if_gt C0.1 C0.2.1 hdc ht (fun q => kt ((ofI_gt0 ha).mp q) H locs L h1 h2 h3 h4 hst) (fun q => kf (fun e => q ((ofI_gt0 ha).mpr e)) H locs L h1 h2 h3 h4 hst)
theorem b_le (C0 : mCx f w sc cc nL own Ts) (hd : ∀ e ∈ code, decode cc e.1 = .ok (e.2.1, e.2.2)) (j : Nat) (hj : code[j]? = some (pc, .ifCond .le off, 3)) (ht : (pc : Int) + off = (tgt : Int)) (kt : a ≤ 0 → mWW f w sc nL (tgt, ls, st, σ)) (kf : ¬ a ≤ 0 → mWW f w sc nL (pc + 3, ls, st, σ)) : mWW f w sc nL (pc, ls, .inl a :: st, σ) := by
  have hdc := hd _ (List.mem_of_getElem? hj)
  dsimp only at hdc
  intro H locs L h1 h2 h3 h4 h5
  obtain ⟨ha, hst⟩ := b_ok1 h5
  exact lv_if_le C0.1 C0.2.1 hdc ht (fun q => kt ((ofI_le0 ha).mp q) H locs L h1 h2 h3 h4 hst) (fun q => kf (fun e => q ((ofI_le0 ha).mpr e)) H locs L h1 h2 h3 h4 hst)
theorem b_tab (C0 : mCx f w sc cc nL own Ts) (hd : ∀ e ∈ code, decode cc e.1 = .ok (e.2.1, e.2.2)) (j : Nat) {dflt lo hi : Int} {offs : Array Int} {len : Nat} (hj : code[j]? = some (pc, .tableswitch dflt lo hi offs, len)) (kin : ∀ n : Nat, (a = lo + (n : Int)) → a ≤ hi → ∃ off tgt, offs[n]? = some off ∧ (pc : Int) + off = ((tgt : Nat) : Int) ∧ mWW f w sc nL (tgt, ls, st, σ)) (ht : (pc : Int) + dflt = (tgt : Int)) (kout : a < lo ∨ hi < a → mWW f w sc nL (tgt, ls, st, σ)) : mWW f w sc nL (pc, ls, .inl a :: st, σ) := by
  have hdc := hd _ (List.mem_of_getElem? hj)
  dsimp only at hdc
  intro H locs L h1 h2 h3 h4 h5
  obtain ⟨ha, hst⟩ := b_ok1 h5
  have e : (Int32.ofInt a).toInt = a := ha
  by_cases hq : a < lo ∨ hi < a
  · exact lv_tableOut C0.1 C0.2.1 hdc (by rw [e]; exact hq) ht (kout hq H locs L h1 h2 h3 h4 hst)
  · obtain ⟨off, tgt', q1, q2, q3⟩ := kin (a - lo).toNat (by omega) (by omega)
    exact lv_tableIn C0.1 C0.2.1 hdc (by rw [e]; omega) (by rw [e]; omega) (by rw [e]; exact q1) q2 (q3 H locs L h1 h2 h3 h4 hst)
end MBR
