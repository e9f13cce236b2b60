/-! mstep_ok, mrun_ok: a block of instructions; branches, switches, returns, calls -/
section MRUN
variable {f : mFx} {w : mWd} {sc : mSc} {cc : ByteArray} {nL : Nat} {own : String} {Ts : List Cond} {P : mP}
theorem k_if_ok {b : Bool} {r : mR} {y : mC} {Ps : List Prop} (h : k_if b r = some (y, Ps)) : b = true ∧ r = some (y, Ps) := by
  cases b with
  | false => cases h
  | true => exact ⟨rfl, h⟩
theorem k_if_len {len n : Nat} {r : mR} {y : mC} {Ps : List Prop} (h : k_if (Nat.beq len n) r = some (y, Ps)) : len = n ∧ r = some (y, Ps) := by
  obtain ⟨h1, h2⟩ := k_if_ok h
  exact ⟨Nat.eq_of_beq_eq_true h1, h2⟩
set_option maxHeartbeats 4000000 in
theorem mstep_ok (C0 : mCx f w sc cc nL own Ts) (hP0 : mPool P w own Ts) {i : Instr} {len : Nat} {x y : mC} {Ps : List Prop} (h : mstep (wG w) P i len x = some (y, Ps)) (hA : mAll Ps) (hd : decode cc x.1 = .ok (i, len)) (kk : mWW f w sc nL y) : mWW f w sc nL x := by
  have hx := C0.1
  have hb := C0.2.1
  have hown := C0.2.2.2.1
  have hts := C0.2.2.2.2.1
  cases i
  case iconst n =>
    obtain ⟨h1, h2⟩ := k_if_ok h
    rw [Bool.and_eq_true] at h1
    have e := Nat.eq_of_beq_eq_true h1.1
    have hn := mrg_ok h1.2
    subst e
    exact s_push h2 (mw_id hn.1 hn.2) (fun H locs L st k => lv_iconst hx hb hd rfl k) kk
  case bipush n =>
    obtain ⟨h1, h2⟩ := k_if_ok h
    rw [Bool.and_eq_true] at h1
    have e := Nat.eq_of_beq_eq_true h1.1
    have hn := mrg_ok h1.2
    subst e
    exact s_push h2 (mw_id (by omega) (by omega)) (fun H locs L st k => lv_bipush hx hb hd (ofI_8 hn.1 hn.2) k) kk
  case sipush n =>
    obtain ⟨h1, h2⟩ := k_if_ok h
    rw [Bool.and_eq_true] at h1
    have e := Nat.eq_of_beq_eq_true h1.1
    have hn := mrg_ok h1.2
    subst e
    exact s_push h2 (mw_id (by omega) (by omega)) (fun H locs L st k => lv_sipush hx hb hd (ofI_16 hn.1 hn.2) k) kk
  case lconst n =>
    obtain ⟨e, h2⟩ := k_if_len h
    subst e
    have hn := n.isLt
    exact s_push h2 (mx_id (by omega) (by omega)) (fun H locs L st k => lv_lconst hx hb hd (by rcases (show n = 0 ∨ n = 1 by omega) with rfl | rfl <;> rfl) k) kk
  case ldc2_w j =>
    unfold mstep at h
    dsimp only at h
    split at h
    · rename_i z hz
      obtain ⟨e, h2⟩ := k_if_len h
      subst e
      obtain ⟨q1, q2⟩ := hP0.2.2 j z hz
      exact s_push h2 q1 (fun H locs L st k => lv_ldc2 hx hb hown (hts _ q2) hd k) kk
    · cases h
  case iload_n j => obtain ⟨e, h2⟩ := k_if_len h; subst e; exact s_ldi h2 (fun H locs L st a hl k => lv_iload_n hx hb hd rfl hl k) kk
  case iload j => obtain ⟨e, h2⟩ := k_if_len h; subst e; exact s_ldi h2 (fun H locs L st a hl k => lv_iload hx hb hd hl k) kk
  case lload_n j => obtain ⟨e, h2⟩ := k_if_len h; subst e; exact s_ldl h2 (fun H locs L st a hl k => lv_lload_n hx hb hd rfl hl k) kk
  case lload j => obtain ⟨e, h2⟩ := k_if_len h; subst e; exact s_ldl h2 (fun H locs L st a hl k => lv_lload hx hb hd hl k) kk
  case aload_n j => obtain ⟨e, h2⟩ := k_if_len h; subst e; exact s_lda h2 (fun H locs L st a hl k => lv_aload_n hx hb hd rfl hl k) kk
  case aload j => obtain ⟨e, h2⟩ := k_if_len h; subst e; exact s_lda h2 (fun H locs L st a hl k => lv_aload hx hb hd hl k) kk
  case istore_n j => obtain ⟨e, h2⟩ := k_if_len h; subst e; exact s_sti h2 (fun H locs L st lv a hl hj k => lv_istore_n hx hb hd rfl hl hj rfl k) kk
  case istore j => obtain ⟨e, h2⟩ := k_if_len h; subst e; exact s_sti h2 (fun H locs L st lv a hl hj k => lv_istore hx hb hd hl hj rfl k) kk
  case lstore_n j => obtain ⟨e, h2⟩ := k_if_len h; subst e; exact s_stl h2 (fun H locs L st lv a hl hj k => lv_lstore_n hx hb hd rfl hl hj rfl k) kk
  case lstore j => obtain ⟨e, h2⟩ := k_if_len h; subst e; exact s_stl h2 (fun H locs L st lv a hl hj k => lv_lstore hx hb hd hl hj rfl k) kk
  case astore_n j => obtain ⟨e, h2⟩ := k_if_len h; subst e; exact s_sta h2 (fun H locs L st lv a hl hj k => lv_astore_n hx hb hd rfl hl hj rfl k) kk
  case astore j => obtain ⟨e, h2⟩ := k_if_len h; subst e; exact s_sta h2 (fun H locs L st lv a hl hj k => lv_astore hx hb hd hl hj rfl k) kk
  case iinc j d =>
    obtain ⟨e, h2⟩ := k_if_len h
    subst e
    obtain ⟨pc, ls, st, σ⟩ := x
    unfold k_inc at h2
    dsimp only at h2
    split at h2
    · rename_i z hz
      cases h2
      intro H locs L h1 h2 h3 h4 h5
      have hj : j < nL := by rw [← h4.2.2.1]; exact (List.getElem?_eq_some_iff.mp hz).1
      obtain ⟨k, hk⟩ := List.getElem?_of_mem (mLv_mem (ad := wad w) (ls := ls) (q := (j, .int (Int32.ofInt z))).mpr ⟨_, hz, rfl⟩)
      exact lv_iinc (v := Int32.ofInt (mw (z + d))) hx hb hd (mLs_has h4) hk (by rw [ofI_mw, Int32.ofInt_add]) hj rfl (fun L' hL' => kk H locs L' h1 h2 h3 (mLs_st1 (v := .inl (mw (z + d))) h4 hj (mw_ok _) hL') h5)
    · cases h2
  case iadd => obtain ⟨e, h2⟩ := k_if_len h; subst e; exact s_ii h2 (fun a b => mw_ok _) (fun H locs L st a b _ _ k => lv_iadd hx hb hd (by rw [← Int32.ofInt_add, ← ofI_mw]; exact k)) kk
  case isub => obtain ⟨e, h2⟩ := k_if_len h; subst e; exact s_ii h2 (fun a b => mw_ok _) (fun H locs L st a b _ _ k => lv_isub hx hb hd (by rw [← Int32.ofInt_sub, ← ofI_mw]; exact k)) kk
  case imul => obtain ⟨e, h2⟩ := k_if_len h; subst e; exact s_ii h2 (fun a b => mw_ok _) (fun H locs L st a b _ _ k => lv_imul hx hb hd (by rw [← Int32.ofInt_mul, ← ofI_mw]; exact k)) kk
  case iand => obtain ⟨e, h2⟩ := k_if_len h; subst e; exact s_ii h2 (fun a b => mw_of _) (fun H locs L st a b _ _ k => lv_iand hx hb hd (by rw [← Int32.ofInt_toInt (Int32.ofInt a &&& Int32.ofInt b)]; exact k)) kk
  case ior => obtain ⟨e, h2⟩ := k_if_len h; subst e; exact s_ii h2 (fun a b => mw_of _) (fun H locs L st a b _ _ k => lv_ior hx hb hd (by rw [← Int32.ofInt_toInt (Int32.ofInt a ||| Int32.ofInt b)]; exact k)) kk
  case ixor => obtain ⟨e, h2⟩ := k_if_len h; subst e; exact s_ii h2 (fun a b => mw_of _) (fun H locs L st a b _ _ k => lv_ixor hx hb hd (by rw [← Int32.ofInt_toInt (Int32.ofInt a ^^^ Int32.ofInt b)]; exact k)) kk
  case ishl => obtain ⟨e, h2⟩ := k_if_len h; subst e; exact s_ii h2 (fun a b => mw_of _) (fun H locs L st a b _ _ k => lv_ishl hx hb hd (by rw [← Int32.ofInt_toInt (Int32.ofInt a <<< (Int32.ofInt b &&& 31))]; exact k)) kk
  case ishr => obtain ⟨e, h2⟩ := k_if_len h; subst e; exact s_ii h2 (fun a b => mw_of _) (fun H locs L st a b _ _ k => lv_ishr hx hb hd (by rw [← Int32.ofInt_toInt (Int32.ofInt a >>> (Int32.ofInt b &&& 31))]; exact k)) kk
  case idiv => obtain ⟨e, h2⟩ := k_if_len h; subst e; exact s_iid h2 hA (fun a b => mw_of _) (fun H locs L st a b hb0 hne k => lv_idiv hx hb hd (fun q => hne (ofI_inj hb0 rfl q)) (by rw [← Int32.ofInt_toInt (Int32.ofInt a / Int32.ofInt b)]; exact k)) kk
  case irem => obtain ⟨e, h2⟩ := k_if_len h; subst e; exact s_iid h2 hA (fun a b => mw_of _) (fun H locs L st a b hb0 hne k => lv_irem hx hb hd (fun q => hne (ofI_inj hb0 rfl q)) (by rw [← Int32.ofInt_toInt (Int32.ofInt a - Int32.ofInt a / Int32.ofInt b * Int32.ofInt b)]; exact k)) kk
  case ineg => obtain ⟨e, h2⟩ := k_if_len h; subst e; exact s_i1 h2 (fun a => mw_ok _) (fun H locs L st a k => lv_ineg hx hb hd (by rw [← Int32.ofInt_neg, ← ofI_mw]; exact k)) kk
  case ladd => obtain ⟨e, h2⟩ := k_if_len h; subst e; exact s_ll h2 (fun a b => mx_ok _) (fun H locs L st a b k => lv_ladd hx hb hd (by rw [← Int64.ofInt_add, ← ofI_mx]; exact k)) kk
  case lsub => obtain ⟨e, h2⟩ := k_if_len h; subst e; exact s_ll h2 (fun a b => mx_ok _) (fun H locs L st a b k => lv_lsub hx hb hd (by rw [← Int64.ofInt_sub, ← ofI_mx]; exact k)) kk
  case lmul => obtain ⟨e, h2⟩ := k_if_len h; subst e; exact s_ll h2 (fun a b => mx_ok _) (fun H locs L st a b k => lv_lmul hx hb hd (by rw [← Int64.ofInt_mul, ← ofI_mx]; exact k)) kk
  case land => obtain ⟨e, h2⟩ := k_if_len h; subst e; exact s_ll h2 (fun a b => mx_of _) (fun H locs L st a b k => lv_land hx hb hd (by rw [← Int64.ofInt_toInt (Int64.ofInt a &&& Int64.ofInt b)]; exact k)) kk
  case lor => obtain ⟨e, h2⟩ := k_if_len h; subst e; exact s_ll h2 (fun a b => mx_of _) (fun H locs L st a b k => lv_lor hx hb hd (by rw [← Int64.ofInt_toInt (Int64.ofInt a ||| Int64.ofInt b)]; exact k)) kk
  case ldiv => obtain ⟨e, h2⟩ := k_if_len h; subst e; exact s_lld h2 hA (fun a b => mx_of _) (fun H locs L st a b hb0 hne k => lv_ldiv hx hb hd (fun q => hne ((ofL_eq hb0 rfl).mp q)) (by rw [← Int64.ofInt_toInt (Int64.ofInt a / Int64.ofInt b)]; exact k)) kk
  case lrem => obtain ⟨e, h2⟩ := k_if_len h; subst e; exact s_lld h2 hA (fun a b => mx_of _) (fun H locs L st a b hb0 hne k => lv_lrem hx hb hd (fun q => hne ((ofL_eq hb0 rfl).mp q)) (by rw [← Int64.ofInt_toInt (Int64.ofInt a - Int64.ofInt a / Int64.ofInt b * Int64.ofInt b)]; exact k)) kk
  case lshl => obtain ⟨e, h2⟩ := k_if_len h; subst e; exact s_li h2 (fun a b => mx_of _) (fun H locs L st a b k => lv_lshl hx hb hd (Int64.ofInt_toInt _).symm k) kk
  case lshr => obtain ⟨e, h2⟩ := k_if_len h; subst e; exact s_li h2 (fun a b => mx_of _) (fun H locs L st a b k => lv_lshr hx hb hd (Int64.ofInt_toInt _).symm k) kk
  case lushr => obtain ⟨e, h2⟩ := k_if_len h; subst e; exact s_li h2 (fun a b => mx_of _) (fun H locs L st a b k => lv_lushr hx hb hd (Int64.ofInt_toInt _).symm k) kk
  case i2l => obtain ⟨e, h2⟩ := k_if_len h; subst e; exact s_i2l h2 hx hb hd kk
  case l2i => obtain ⟨e, h2⟩ := k_if_len h; subst e; exact s_l2i h2 hx hb hd kk
  case lcmp => obtain ⟨e, h2⟩ := k_if_len h; subst e; exact s_lcmp h2 hx hb hd kk
  case dup => obtain ⟨e, h2⟩ := k_if_len h; subst e; exact s_dup h2 hx hb hd kk
  case dup2 => obtain ⟨e, h2⟩ := k_if_len h; subst e; exact s_dup2 h2 hx hb hd kk
  case pop => obtain ⟨e, h2⟩ := k_if_len h; subst e; exact s_pop h2 hx hb hd kk
  case goto off => obtain ⟨e, h2⟩ := k_if_len h; subst e; exact s_goto h2 hx hb hd kk
  case getfield j => obtain ⟨e, h2⟩ := k_if_len h; subst e; exact m_get C0 hP0 h2 hd kk
  case putfield j => obtain ⟨e, h2⟩ := k_if_len h; subst e; exact m_put C0 hP0 h2 hA hd kk
  case iaload => obtain ⟨e, h2⟩ := k_if_len h; subst e; exact m_iald C0 h2 hA hd kk
  case baload => obtain ⟨e, h2⟩ := k_if_len h; subst e; exact m_zald C0 h2 hA hd kk
  case laload => obtain ⟨e, h2⟩ := k_if_len h; subst e; exact m_lald C0 h2 hA hd kk
  case aaload => obtain ⟨e, h2⟩ := k_if_len h; subst e; exact m_aald C0 h2 hA hd kk
  case iastore => obtain ⟨e, h2⟩ := k_if_len h; subst e; exact m_iast C0 h2 hA hd kk
  case bastore => obtain ⟨e, h2⟩ := k_if_len h; subst e; exact m_zast C0 h2 hA hd kk
  case lastore => obtain ⟨e, h2⟩ := k_if_len h; subst e; exact m_last C0 h2 hA hd kk
  case arraylength => obtain ⟨e, h2⟩ := k_if_len h; subst e; exact m_alen C0 h2 hd kk
  all_goals cases h
theorem mrun_ok (C0 : mCx f w sc cc nL own Ts) (hP0 : mPool P w own Ts) {is : List mI} (hd : ∀ e ∈ is, decode cc e.1 = .ok (e.2.1, e.2.2)) : ∀ {x y : mC} {acc Ps : List Prop}, mrun (wG w) P is x acc = some (y, Ps) → ∃ B, Ps = acc ++ B ∧ (mAll B → mWW f w sc nL y → mWW f w sc nL x) := by
  induction is with
  | nil => intro x y acc Ps h; cases h; exact ⟨[], (List.append_nil _).symm, fun _ k => k⟩
  | cons e t ih =>
    intro x y acc Ps h
    obtain ⟨pc, i, len⟩ := e
    rw [mrun_cons] at h
    cases hq : Nat.beq x.1 pc with
    | false => dsimp only at h; rw [hq] at h; cases h
    | true =>
      dsimp only at h
      rw [hq] at h
      have hpc := Nat.eq_of_beq_eq_true hq
      dsimp only at h
      split at h
      · rename_i y1 A1 h1
        obtain ⟨B, hB, hk⟩ := ih (fun e he => hd e (List.mem_cons_of_mem _ he)) h
        refine ⟨A1 ++ B, by rw [hB, List.append_assoc], fun hA kk => ?_⟩
        obtain ⟨a1, a2⟩ := mAll_app hA
        exact mstep_ok C0 hP0 h1 a1 (by rw [hpc]; exact hd (pc, i, len) List.mem_cons_self) (hk a2 kk)
      · cases h
/-- a stretch of a method's code, by its place and length -/
theorem m_blk {code : List mI} (C0 : mCx f w sc cc nL own Ts) (hP0 : mPool P w own Ts) (hd : ∀ e ∈ code, decode cc e.1 = .ok (e.2.1, e.2.2)) (j n : Nat) {x : mC} (y : mC) {Ps : List Prop} (h : mrun (wG w) P ((code.drop j).take n) x [] = some (y, Ps)) (hA : mAll Ps) (kk : mWW f w sc nL y) : mWW f w sc nL x := by
  obtain ⟨B, hB, hk⟩ := mrun_ok C0 hP0 (fun e he => hd e (List.drop_subset _ _ (List.take_subset _ _ he))) h
  rw [List.nil_append] at hB
  subst hB
  exact hk hA kk
end MRUN
