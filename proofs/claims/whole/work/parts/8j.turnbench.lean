/-! TurnBench() -/
def jQ (w : mWd) (σ : mS) (A : Nat → Prop) : Array Value → State → Outcome → State → Prop := va_Qv (fun _ : Unit => True) (fun _ t => mRep w σ t.heap) A
theorem x11_tail {p : Program} {l : Launch} {e : Env} {R : Room} {s : State} {m : MethodId} {args : Array Value} {below : List Frame} {meth : Method} {c : Code} {H : Heap} {locs : List Loc} {cells slots mc ms : Nat} {ls : Array Slot} {D : va_G} {cA : Nat → ClassId} {base N : Nat} {σ' : mS} (hx : p.tables.exec = Jvm.exec) (hb : c.code = cX11_init) (hml : c.maxLocals = 1) (hown : s.vm.findClass RX11 = some m.cls) (hts : ∀ x ∈ lw_kept, x.before args s = true) (hK : mK (wC D cA base) s) (hr : meth.sig.returnType = none) (hlocks : meth.locks = false) (hR : mRep (wC D cA base) s1 H) (hS : va_S (fbA base) s.heap H locs) (hl : lv_has ls 1 (lv_args 0 [.ref (base + 0)])) (hmk : f_X11_makeGroup N s1 = some σ') (hRm : 6 ≤ R.frames ∧ 220 ≤ R.locals) (hcl : cells ≤ R.cells ∧ slots ≤ R.slots) (h1 : cells = mc := by rfl) (h2 : slots = ms := by rfl) : W p l e R s m args below meth c H locs cells slots (MQ below (jQ (wC D cA base) σ' (fbA base)) args s mc ms (fbA base)) (F0 m 92 ls []) := by
  subst h1; subst h2
  have C0 : mCx (p, l, e, R, s, m, args, below, meth, c, cells, slots, MQ below (jQ (wC D cA base) σ' (fbA base)) args s cells slots (fbA base)) (wC D cA base) sc0 cX11_init 1 RX11 lw_kept := ⟨hx, hb, hml, hown, hts, hK, geoC D cA base, fun h => h.elim⟩
  have key : mWW (p, l, e, R, s, m, args, below, meth, c, cells, slots, MQ below (jQ (wC D cA base) σ' (fbA base)) args s cells slots (fbA base)) (wC D cA base) sc0 1 (92, [some (.inr (.inr (0, 0)))], [], s1) := by
    refine m_blk C0 (pX11_ok rfl) kX11_init_ok 42 1 (93, [some (.inr (.inr (0, 0)))], [.inr (.inr (0, 0))], s1) (Ps := []) rfl trivial ?_
    refine m_callV (rest := []) C0 lk_X11_65.1 (0, 0) [] (t_X11_makeGroup (geoC D cA base) l N hmk) lk_X11_65.2.1 lk_X11_65.2.2 (k_at kX11_init_ok 43 rfl) rfl rfl rfl rfl ⟨_, _, rfl⟩ ⟨hRm.1, hRm.2⟩ hcl (Nat.zero_le _) mNext_0 ?_
    intro H1 locs1 L1 g1 g2 g3 g4 g5
    exact W.vret hx hb hr (fun t ht hW => ⟨⟨(), rfl, trivial, by show mRep _ _ t.heap; rw [ht]; exact g1⟩, g3.F ht⟩) g3.2.2 (k_at kX11_init_ok 44 rfl) hlocks
  refine key H locs ls hR (fun h => h.elim) hS ⟨hl.1, hl.2.1, rfl, fun i v hv => ?_⟩ (fun v hv => by cases hv)
  have hi : i = 0 := by
    have := (List.getElem?_eq_some_iff.mp hv).1
    have h1 : i < 1 := this
    omega
  subst hi
  cases hv
  exact ⟨lv_at hl 0 rfl, Or.inl (of_C (inVC.mpr ⟨0, by decide, rfl⟩))⟩
def kcX11 : List mI := [(0, .aload_n 0, 1), (1, .invokespecial 1, 3), (4, .aload_n 0, 1), (5, .new 7, 3), (8, .dup, 1), (9, .invokespecial 9, 3), (12, .putfield 10, 3), (15, .aload_n 0, 1), (16, .new 16, 3), (19, .dup, 1), (20, .invokespecial 18, 3), (23, .putfield 19, 3), (26, .aload_n 0, 1), (27, .new 23, 3), (30, .dup, 1), (31, .invokespecial 25, 3), (34, .putfield 26, 3), (37, .aload_n 0, 1), (38, .new 30, 3), (41, .dup, 1), (42, .invokespecial 32, 3), (45, .putfield 33, 3), (48, .aload_n 0, 1), (49, .new 37, 3), (52, .dup, 1), (53, .invokespecial 39, 3), (56, .putfield 40, 3), (59, .aload_n 0, 1), (60, .new 44, 3), (63, .dup, 1), (64, .invokespecial 46, 3), (67, .putfield 47, 3), (70, .aload_n 0, 1), (71, .new 51, 3), (74, .dup, 1), (75, .invokespecial 53, 3), (78, .putfield 54, 3), (81, .aload_n 0, 1), (82, .new 58, 3), (85, .dup, 1), (86, .invokespecial 60, 3), (89, .putfield 61, 3), (92, .aload_n 0, 1), (93, .invokevirtual 65, 3), (96, .return_, 1)]
set_option maxRecDepth 20000 in
theorem kcX11_ok : ∀ e ∈ kcX11, decode cX11_init e.1 = .ok (e.2.1, e.2.2) := fun e he => of_decide_eq_true (List.all_eq_true.mp (show kcX11.all (fun e => decide (decode cX11_init e.1 = .ok (e.2.1, e.2.2))) = true by decide +kernel) e he)
set_option maxRecDepth 20000 in
theorem i_X11 (l : Launch) {D : va_G} {cA : Nat → ClassId} {base zq : Nat} {op : Nat × Nat → Option va_E} (hop : op (0, 0) = some (.inr (11, [.null, .null, .null, .null, .null, .null, .null, .null]))) (hno : ∀ k, 1 ≤ k → k < nC → op (vcC k) = none) {N : Nat} {σ' : mS} (hmk : f_X11_makeGroup N s1 = some σ') : Met l yX11_init (Cond.code yX11_init cX11_init 1 none :: lw_kept) (bRm 10 833 15103) (va_Pc [.ref (base + 0)] (fun U => FB (wC D cA base) vcC base s0 op 1 U.heap ∧ bK (wC D cA base) base zq U)) (jQ (wC D cA base) σ' (fbA base)) 833 15103 (fbA base) := by
  refine i_introG (t := 0) (av := []) (by decide) rfl (Nat.le_of_ble_eq_true rfl) (fun p e s m args below meth c ls hx hb hml hown hts hin hr hlocks hBK hsz hF hS hl => ?_)
  have hK := hBK.1
  have SC : CallFix p m c cX11_init 1 s args lw_kept RX11 := ⟨hx, hb, hml, hown, hts⟩
  have hown : s.vm.findClass RX11 = some m.cls := hown
  have hcI : s.vm.findClass ("[" ++ FieldType.int.toString) = some (cA 1) := (hK.1.2 0 _ rfl).2
  have hcI2 : s.vm.findClass (FieldType.array .int).toString = some (cA 1) := hcI
  have hcZ : s.vm.findClass ("[" ++ FieldType.boolean.toString) = some (cA 3) := (hK.1.2 2 _ rfl).2
  have hcO : s.vm.findClass ("[" ++ (FieldType.array .int).toString) = some (cA 5) := (hK.1.2 3 _ rfl).2
  refine lv_aload_n hx hb (k_at kcX11_ok 0 rfl) rfl (lv_at hl 0 rfl) ?_
  refine fb_obj SC (kept_t 23 (by decide +kernel) rfl) (kept_t 24 (by decide +kernel) rfl) (kept_t 25 (by decide +kernel) rfl) hl.1 ⟨(Nat.le_of_ble_eq_true rfl), (Nat.le_of_ble_eq_true rfl)⟩ (k_at kcX11_ok 1 rfl) ?_
  refine W.eq (g2 := F0 m 4 ls []) rfl ?_
  refine lv_aload_n hx hb (k_at kcX11_ok 2 rfl) rfl (lv_at hl 0 rfl) ?_
  refine fb_new hx hb hts hK hF hS (by omega) (by omega) hown (ci := 10) rfl inX10 tyX10 tyX10_ok (kept_t 26 (by decide +kernel) rfl) (kept_t 27 (by decide +kernel) rfl) (kept_t 2 (by decide +kernel) rfl) (q0 := (1, 0)) rfl (fun k hk => vcn_ne hk (by decide +kernel) (by decide +kernel)) (fs := [.null, .null]) (by decide +kernel) (Nat.le_of_ble_eq_true rfl) (Nat.le_of_ble_eq_true rfl) (k_at kcX11_ok 3 rfl) ?_
  intro H hF hS
  refine lv_dup hx hb (k_at kcX11_ok 4 rfl) rfl ?_
  refine fb_callN (host := "TurnBench") (av := []) SC hBK (i_X10 l (opS_s _ _ _) (opS_no hno (show offC 1 0 < 2 by decide +kernel) (by decide))) (show (RX11, 9, yX10_init, "TurnBench") ∈ lw_nest by decide +kernel) (kept_t 2 (by decide +kernel) rfl) (kept_t 30 (by decide +kernel) rfl) (kept_t 29 (by decide +kernel) rfl) rfl (by decide +kernel) rfl ⟨(Nat.le_of_ble_eq_true rfl), (Nat.le_of_ble_eq_true rfl)⟩ hF hS (by omega) hl.1 (Nat.le_of_ble_eq_true rfl) ⟨(Nat.le_of_ble_eq_true rfl), (Nat.le_of_ble_eq_true rfl)⟩ (k_at kcX11_ok 5 rfl) ?_
  intro H locs hF hS
  rw [opS_opS, opS_none (q := (1, 0)) (hno 1 (by decide) (by decide +kernel))] at hF
  refine fb_put hx hb hts hK hin hF hS (by omega) hown 0 (0, 0) (by decide) rfl (fun k hk h => vc_u (Nat.lt_of_lt_of_le hk (by decide +kernel)) h (by decide +kernel)) (fs := [.null, .null, .null, .null, .null, .null, .null, .null]) hop rfl inX11 tyX11 tyX11_ok nmX11 0 (by decide) (kept_t 443 (by decide +kernel) rfl) rfl rfl rfl rfl (Nat.le_of_ble_eq_true rfl) (k_at kcX11_ok 6 rfl) ?_
  intro H locs hF hS
  replace hF : FB (wC D cA base) vcC base s0 (opS op (0, 0) (some (.inr (11, [.ref (base + 1), .null, .null, .null, .null, .null, .null, .null])))) 8 H := hF
  refine W.eq (g2 := F0 m 15 ls []) rfl ?_
  refine lv_aload_n hx hb (k_at kcX11_ok 7 rfl) rfl (lv_at hl 0 rfl) ?_
  refine fb_new hx hb hts hK hF hS (by omega) (by omega) hown (ci := 1) rfl inX1 tyX1 tyX1_ok (kept_t 45 (by decide +kernel) rfl) (kept_t 46 (by decide +kernel) rfl) (kept_t 3 (by decide +kernel) rfl) (q0 := (5, 0)) rfl (fun k hk => vcn_ne hk (by decide +kernel) (by decide +kernel)) (fs := [.int (Int32.ofInt 0), .int (Int32.ofInt 0), .int (Int32.ofInt 0), .int (Int32.ofInt 0), .null, .null, .null, .null, .null, .null, .null, .null, .null, .null, .null, .null, .null, .null]) (by decide +kernel) (Nat.le_of_ble_eq_true rfl) (Nat.le_of_ble_eq_true rfl) (k_at kcX11_ok 8 rfl) ?_
  intro H hF hS
  refine lv_dup hx hb (k_at kcX11_ok 9 rfl) rfl ?_
  refine fb_callN (host := "TurnBench") (av := []) SC hBK (i_X1 l (opS_s _ _ _) (opS_no (opS_no hno (show offC 0 0 < 1 by decide +kernel) (Nat.le_refl _)) (show offC 5 0 < 9 by decide +kernel) (by decide))) (show (RX11, 18, yX1_init, "TurnBench") ∈ lw_nest by decide +kernel) (kept_t 3 (by decide +kernel) rfl) (kept_t 49 (by decide +kernel) rfl) (kept_t 48 (by decide +kernel) rfl) rfl (by decide +kernel) rfl ⟨(Nat.le_of_ble_eq_true rfl), (Nat.le_of_ble_eq_true rfl)⟩ hF hS (by omega) hl.1 (Nat.le_of_ble_eq_true rfl) ⟨(Nat.le_of_ble_eq_true rfl), (Nat.le_of_ble_eq_true rfl)⟩ (k_at kcX11_ok 10 rfl) ?_
  intro H locs hF hS
  rw [opS_opS, opS_none (q := (5, 0)) ((opS_no hno (show offC 0 0 < 1 by decide +kernel) (Nat.le_refl _)) 8 (by decide) (by decide +kernel))] at hF
  refine fb_put hx hb hts hK hin hF hS (by omega) hown 0 (0, 0) (by decide) rfl (fun k hk h => vc_u (Nat.lt_of_lt_of_le hk (by decide +kernel)) h (by decide +kernel)) (fs := [.ref (base + 1), .null, .null, .null, .null, .null, .null, .null]) (opS_s _ _ _) rfl inX11 tyX11 tyX11_ok nmX11 1 (by decide) (kept_t 444 (by decide +kernel) rfl) rfl rfl rfl rfl (Nat.le_of_ble_eq_true rfl) (k_at kcX11_ok 11 rfl) ?_
  intro H locs hF hS
  rw [opS_opS] at hF
  replace hF : FB (wC D cA base) vcC base s0 (opS op (0, 0) (some (.inr (11, [.ref (base + 1), .ref (base + 8), .null, .null, .null, .null, .null, .null])))) 173 H := hF
  refine W.eq (g2 := F0 m 26 ls []) rfl ?_
  refine lv_aload_n hx hb (k_at kcX11_ok 12 rfl) rfl (lv_at hl 0 rfl) ?_
  refine fb_new hx hb hts hK hF hS (by omega) (by omega) hown (ci := 9) rfl inX9 tyX9 tyX9_ok (kept_t 152 (by decide +kernel) rfl) (kept_t 153 (by decide +kernel) rfl) (kept_t 5 (by decide +kernel) rfl) (q0 := (26, 0)) rfl (fun k hk => vcn_ne hk (by decide +kernel) (by decide +kernel)) (fs := [.int (Int32.ofInt 0), .null]) (by decide +kernel) (Nat.le_of_ble_eq_true rfl) (Nat.le_of_ble_eq_true rfl) (k_at kcX11_ok 13 rfl) ?_
  intro H hF hS
  refine lv_dup hx hb (k_at kcX11_ok 14 rfl) rfl ?_
  refine fb_callN (host := "TurnBench") (av := []) SC hBK (i_X9 l (opS_s _ _ _) (opS_no (opS_no hno (show offC 0 0 < 1 by decide +kernel) (Nat.le_refl _)) (show offC 26 0 < 174 by decide +kernel) (by decide))) (show (RX11, 25, yX9_init, "TurnBench") ∈ lw_nest by decide +kernel) (kept_t 5 (by decide +kernel) rfl) (kept_t 156 (by decide +kernel) rfl) (kept_t 155 (by decide +kernel) rfl) rfl (by decide +kernel) rfl ⟨(Nat.le_of_ble_eq_true rfl), (Nat.le_of_ble_eq_true rfl)⟩ hF hS (by omega) hl.1 (Nat.le_of_ble_eq_true rfl) ⟨(Nat.le_of_ble_eq_true rfl), (Nat.le_of_ble_eq_true rfl)⟩ (k_at kcX11_ok 15 rfl) ?_
  intro H locs hF hS
  rw [opS_opS, opS_none (q := (26, 0)) ((opS_no hno (show offC 0 0 < 1 by decide +kernel) (Nat.le_refl _)) 173 (by decide) (by decide +kernel))] at hF
  refine fb_put hx hb hts hK hin hF hS (by omega) hown 0 (0, 0) (by decide) rfl (fun k hk h => vc_u (Nat.lt_of_lt_of_le hk (by decide +kernel)) h (by decide +kernel)) (fs := [.ref (base + 1), .ref (base + 8), .null, .null, .null, .null, .null, .null]) (opS_s _ _ _) rfl inX11 tyX11 tyX11_ok nmX11 2 (by decide) (kept_t 445 (by decide +kernel) rfl) rfl rfl rfl rfl (Nat.le_of_ble_eq_true rfl) (k_at kcX11_ok 16 rfl) ?_
  intro H locs hF hS
  rw [opS_opS] at hF
  replace hF : FB (wC D cA base) vcC base s0 (opS op (0, 0) (some (.inr (11, [.ref (base + 1), .ref (base + 8), .ref (base + 173), .null, .null, .null, .null, .null])))) 191 H := hF
  refine W.eq (g2 := F0 m 37 ls []) rfl ?_
  refine lv_aload_n hx hb (k_at kcX11_ok 17 rfl) rfl (lv_at hl 0 rfl) ?_
  refine fb_new hx hb hts hK hF hS (by omega) (by omega) hown (ci := 4) rfl inX4 tyX4 tyX4_ok (kept_t 168 (by decide +kernel) rfl) (kept_t 169 (by decide +kernel) rfl) (kept_t 6 (by decide +kernel) rfl) (q0 := (29, 0)) rfl (fun k hk => vcn_ne hk (by decide +kernel) (by decide +kernel)) (fs := [.null]) (by decide +kernel) (Nat.le_of_ble_eq_true rfl) (Nat.le_of_ble_eq_true rfl) (k_at kcX11_ok 18 rfl) ?_
  intro H hF hS
  refine lv_dup hx hb (k_at kcX11_ok 19 rfl) rfl ?_
  refine fb_callN (host := "TurnBench") (av := []) SC hBK (i_X4 l (opS_s _ _ _) (opS_no (opS_no hno (show offC 0 0 < 1 by decide +kernel) (Nat.le_refl _)) (show offC 29 0 < 192 by decide +kernel) (by decide))) (show (RX11, 32, yX4_init, "TurnBench") ∈ lw_nest by decide +kernel) (kept_t 6 (by decide +kernel) rfl) (kept_t 172 (by decide +kernel) rfl) (kept_t 171 (by decide +kernel) rfl) rfl (by decide +kernel) rfl ⟨(Nat.le_of_ble_eq_true rfl), (Nat.le_of_ble_eq_true rfl)⟩ hF hS (by omega) hl.1 (Nat.le_of_ble_eq_true rfl) ⟨(Nat.le_of_ble_eq_true rfl), (Nat.le_of_ble_eq_true rfl)⟩ (k_at kcX11_ok 20 rfl) ?_
  intro H locs hF hS
  rw [opS_opS, opS_none (q := (29, 0)) ((opS_no hno (show offC 0 0 < 1 by decide +kernel) (Nat.le_refl _)) 191 (by decide) (by decide +kernel))] at hF
  refine fb_put hx hb hts hK hin hF hS (by omega) hown 0 (0, 0) (by decide) rfl (fun k hk h => vc_u (Nat.lt_of_lt_of_le hk (by decide +kernel)) h (by decide +kernel)) (fs := [.ref (base + 1), .ref (base + 8), .ref (base + 173), .null, .null, .null, .null, .null]) (opS_s _ _ _) rfl inX11 tyX11 tyX11_ok nmX11 3 (by decide) (kept_t 446 (by decide +kernel) rfl) rfl rfl rfl rfl (Nat.le_of_ble_eq_true rfl) (k_at kcX11_ok 21 rfl) ?_
  intro H locs hF hS
  rw [opS_opS] at hF
  replace hF : FB (wC D cA base) vcC base s0 (opS op (0, 0) (some (.inr (11, [.ref (base + 1), .ref (base + 8), .ref (base + 173), .ref (base + 191), .null, .null, .null, .null])))) 193 H := hF
  refine W.eq (g2 := F0 m 48 ls []) rfl ?_
  refine lv_aload_n hx hb (k_at kcX11_ok 22 rfl) rfl (lv_at hl 0 rfl) ?_
  refine fb_new hx hb hts hK hF hS (by omega) (by omega) hown (ci := 6) rfl inX6 tyX6 tyX6_ok (kept_t 178 (by decide +kernel) rfl) (kept_t 179 (by decide +kernel) rfl) (kept_t 7 (by decide +kernel) rfl) (q0 := (31, 0)) rfl (fun k hk => vcn_ne hk (by decide +kernel) (by decide +kernel)) (fs := [.null, .null, .null, .null]) (by decide +kernel) (Nat.le_of_ble_eq_true rfl) (Nat.le_of_ble_eq_true rfl) (k_at kcX11_ok 23 rfl) ?_
  intro H hF hS
  refine lv_dup hx hb (k_at kcX11_ok 24 rfl) rfl ?_
  refine fb_callN (host := "TurnBench") (av := []) SC hBK (i_X6 l (opS_s _ _ _) (opS_no (opS_no hno (show offC 0 0 < 1 by decide +kernel) (Nat.le_refl _)) (show offC 31 0 < 194 by decide +kernel) (by decide))) (show (RX11, 39, yX6_init, "TurnBench") ∈ lw_nest by decide +kernel) (kept_t 7 (by decide +kernel) rfl) (kept_t 182 (by decide +kernel) rfl) (kept_t 181 (by decide +kernel) rfl) rfl (by decide +kernel) rfl ⟨(Nat.le_of_ble_eq_true rfl), (Nat.le_of_ble_eq_true rfl)⟩ hF hS (by omega) hl.1 (Nat.le_of_ble_eq_true rfl) ⟨(Nat.le_of_ble_eq_true rfl), (Nat.le_of_ble_eq_true rfl)⟩ (k_at kcX11_ok 25 rfl) ?_
  intro H locs hF hS
  rw [opS_opS, opS_none (q := (31, 0)) ((opS_no hno (show offC 0 0 < 1 by decide +kernel) (Nat.le_refl _)) 193 (by decide) (by decide +kernel))] at hF
  refine fb_put hx hb hts hK hin hF hS (by omega) hown 0 (0, 0) (by decide) rfl (fun k hk h => vc_u (Nat.lt_of_lt_of_le hk (by decide +kernel)) h (by decide +kernel)) (fs := [.ref (base + 1), .ref (base + 8), .ref (base + 173), .ref (base + 191), .null, .null, .null, .null]) (opS_s _ _ _) rfl inX11 tyX11 tyX11_ok nmX11 4 (by decide) (kept_t 447 (by decide +kernel) rfl) rfl rfl rfl rfl (Nat.le_of_ble_eq_true rfl) (k_at kcX11_ok 26 rfl) ?_
  intro H locs hF hS
  rw [opS_opS] at hF
  replace hF : FB (wC D cA base) vcC base s1 (opS op (0, 0) (some (.inr (11, [.ref (base + 1), .ref (base + 8), .ref (base + 173), .ref (base + 191), .ref (base + 193), .null, .null, .null])))) 215 H := hF
  refine W.eq (g2 := F0 m 59 ls []) rfl ?_
  refine lv_aload_n hx hb (k_at kcX11_ok 27 rfl) rfl (lv_at hl 0 rfl) ?_
  refine fb_new hx hb hts hK hF hS (by omega) (by omega) hown (ci := 0) rfl inX0 tyX0 tyX0_ok (kept_t 219 (by decide +kernel) rfl) (kept_t 220 (by decide +kernel) rfl) (kept_t 9 (by decide +kernel) rfl) (q0 := (42, 0)) rfl (fun k hk => vcn_ne hk (by decide +kernel) (by decide +kernel)) (fs := [.int (Int32.ofInt 0), .int (Int32.ofInt 0), .null, .null, .null, .null]) (by decide +kernel) (Nat.le_of_ble_eq_true rfl) (Nat.le_of_ble_eq_true rfl) (k_at kcX11_ok 28 rfl) ?_
  intro H hF hS
  refine lv_dup hx hb (k_at kcX11_ok 29 rfl) rfl ?_
  refine fb_callI (av := []) SC hBK (i_X0 l (opS_s _ _ _) (opS_no (opS_no hno (show offC 0 0 < 1 by decide +kernel) (Nat.le_refl _)) (show offC 42 0 < 216 by decide +kernel) (by decide))) (kept_t 221 (by decide +kernel) rfl) (kept_t 9 (by decide +kernel) rfl) (kept_t 223 (by decide +kernel) rfl) (kept_t 222 (by decide +kernel) rfl) rfl (by decide +kernel) rfl ⟨(Nat.le_of_ble_eq_true rfl), (Nat.le_of_ble_eq_true rfl)⟩ hF hS (by omega) hl.1 (Nat.le_of_ble_eq_true rfl) ⟨(Nat.le_of_ble_eq_true rfl), (Nat.le_of_ble_eq_true rfl)⟩ (k_at kcX11_ok 30 rfl) ?_
  intro H locs hF hS
  rw [opS_opS, opS_none (q := (42, 0)) ((opS_no hno (show offC 0 0 < 1 by decide +kernel) (Nat.le_refl _)) 215 (by decide) (by decide +kernel))] at hF
  refine fb_put hx hb hts hK hin hF hS (by omega) hown 0 (0, 0) (by decide) rfl (fun k hk h => vc_u (Nat.lt_of_lt_of_le hk (by decide +kernel)) h (by decide +kernel)) (fs := [.ref (base + 1), .ref (base + 8), .ref (base + 173), .ref (base + 191), .ref (base + 193), .null, .null, .null]) (opS_s _ _ _) rfl inX11 tyX11 tyX11_ok nmX11 5 (by decide) (kept_t 448 (by decide +kernel) rfl) rfl rfl rfl rfl (Nat.le_of_ble_eq_true rfl) (k_at kcX11_ok 31 rfl) ?_
  intro H locs hF hS
  rw [opS_opS] at hF
  replace hF : FB (wC D cA base) vcC base s1 (opS op (0, 0) (some (.inr (11, [.ref (base + 1), .ref (base + 8), .ref (base + 173), .ref (base + 191), .ref (base + 193), .ref (base + 215), .null, .null])))) 694 H := hF
  refine W.eq (g2 := F0 m 70 ls []) rfl ?_
  refine lv_aload_n hx hb (k_at kcX11_ok 32 rfl) rfl (lv_at hl 0 rfl) ?_
  refine fb_new hx hb hts hK hF hS (by omega) (by omega) hown (ci := 5) rfl inX5 tyX5 tyX5_ok (kept_t 310 (by decide +kernel) rfl) (kept_t 311 (by decide +kernel) rfl) (kept_t 11 (by decide +kernel) rfl) (q0 := (61, 0)) rfl (fun k hk => vcn_ne hk (by decide +kernel) (by decide +kernel)) (fs := [.int (Int32.ofInt 0), .int (Int32.ofInt 0), .null, .null, .null]) (by decide +kernel) (Nat.le_of_ble_eq_true rfl) (Nat.le_of_ble_eq_true rfl) (k_at kcX11_ok 33 rfl) ?_
  intro H hF hS
  refine lv_dup hx hb (k_at kcX11_ok 34 rfl) rfl ?_
  refine fb_callN (host := "TurnBench") (av := []) SC hBK (i_X5 l (opS_s _ _ _) (opS_no (opS_no hno (show offC 0 0 < 1 by decide +kernel) (Nat.le_refl _)) (show offC 61 0 < 695 by decide +kernel) (by decide))) (show (RX11, 53, yX5_init, "TurnBench") ∈ lw_nest by decide +kernel) (kept_t 11 (by decide +kernel) rfl) (kept_t 314 (by decide +kernel) rfl) (kept_t 313 (by decide +kernel) rfl) rfl (by decide +kernel) rfl ⟨(Nat.le_of_ble_eq_true rfl), (Nat.le_of_ble_eq_true rfl)⟩ hF hS (by omega) hl.1 (Nat.le_of_ble_eq_true rfl) ⟨(Nat.le_of_ble_eq_true rfl), (Nat.le_of_ble_eq_true rfl)⟩ (k_at kcX11_ok 35 rfl) ?_
  intro H locs hF hS
  rw [opS_opS, opS_none (q := (61, 0)) ((opS_no hno (show offC 0 0 < 1 by decide +kernel) (Nat.le_refl _)) 694 (by decide) (by decide +kernel))] at hF
  refine fb_put hx hb hts hK hin hF hS (by omega) hown 0 (0, 0) (by decide) rfl (fun k hk h => vc_u (Nat.lt_of_lt_of_le hk (by decide +kernel)) h (by decide +kernel)) (fs := [.ref (base + 1), .ref (base + 8), .ref (base + 173), .ref (base + 191), .ref (base + 193), .ref (base + 215), .null, .null]) (opS_s _ _ _) rfl inX11 tyX11 tyX11_ok nmX11 6 (by decide) (kept_t 449 (by decide +kernel) rfl) rfl rfl rfl rfl (Nat.le_of_ble_eq_true rfl) (k_at kcX11_ok 36 rfl) ?_
  intro H locs hF hS
  rw [opS_opS] at hF
  replace hF : FB (wC D cA base) vcC base s1 (opS op (0, 0) (some (.inr (11, [.ref (base + 1), .ref (base + 8), .ref (base + 173), .ref (base + 191), .ref (base + 193), .ref (base + 215), .ref (base + 694), .null])))) 782 H := hF
  refine W.eq (g2 := F0 m 81 ls []) rfl ?_
  refine lv_aload_n hx hb (k_at kcX11_ok 37 rfl) rfl (lv_at hl 0 rfl) ?_
  refine fb_new hx hb hts hK hF hS (by omega) (by omega) hown (ci := 2) rfl inX2 tyX2 tyX2_ok (kept_t 334 (by decide +kernel) rfl) (kept_t 335 (by decide +kernel) rfl) (kept_t 12 (by decide +kernel) rfl) (q0 := (66, 0)) rfl (fun k hk => vcn_ne hk (by decide +kernel) (by decide +kernel)) (fs := [.int (Int32.ofInt 0), .int (Int32.ofInt 0), .null, .null, .null]) (by decide +kernel) (Nat.le_of_ble_eq_true rfl) (Nat.le_of_ble_eq_true rfl) (k_at kcX11_ok 38 rfl) ?_
  intro H hF hS
  refine lv_dup hx hb (k_at kcX11_ok 39 rfl) rfl ?_
  refine fb_callN (host := "TurnBench") (av := []) SC hBK (i_X2 l (opS_s _ _ _) (opS_no (opS_no hno (show offC 0 0 < 1 by decide +kernel) (Nat.le_refl _)) (show offC 66 0 < 783 by decide +kernel) (by decide))) (show (RX11, 60, yX2_init, "TurnBench") ∈ lw_nest by decide +kernel) (kept_t 12 (by decide +kernel) rfl) (kept_t 338 (by decide +kernel) rfl) (kept_t 337 (by decide +kernel) rfl) rfl (by decide +kernel) rfl ⟨(Nat.le_of_ble_eq_true rfl), (Nat.le_of_ble_eq_true rfl)⟩ hF hS (by omega) hl.1 (Nat.le_of_ble_eq_true rfl) ⟨(Nat.le_of_ble_eq_true rfl), (Nat.le_of_ble_eq_true rfl)⟩ (k_at kcX11_ok 40 rfl) ?_
  intro H locs hF hS
  rw [opS_opS, opS_none (q := (66, 0)) ((opS_no hno (show offC 0 0 < 1 by decide +kernel) (Nat.le_refl _)) 782 (by decide) (by decide +kernel))] at hF
  refine fb_put hx hb hts hK hin hF hS (by omega) hown 0 (0, 0) (by decide) rfl (fun k hk h => vc_u (Nat.lt_of_lt_of_le hk (by decide +kernel)) h (by decide +kernel)) (fs := [.ref (base + 1), .ref (base + 8), .ref (base + 173), .ref (base + 191), .ref (base + 193), .ref (base + 215), .ref (base + 694), .null]) (opS_s _ _ _) rfl inX11 tyX11 tyX11_ok nmX11 7 (by decide) (kept_t 450 (by decide +kernel) rfl) rfl rfl rfl rfl (Nat.le_of_ble_eq_true rfl) (k_at kcX11_ok 41 rfl) ?_
  intro H locs hF hS
  rw [opS_opS] at hF
  replace hF : FB (wC D cA base) vcC base s1 (opS op (0, 0) (some (.inr (11, [.ref (base + 1), .ref (base + 8), .ref (base + 173), .ref (base + 191), .ref (base + 193), .ref (base + 215), .ref (base + 694), .ref (base + 782)])))) 834 H := hF
  refine W.eq (g2 := F0 m 92 ls []) rfl ?_
  have hR : mRep (wC D cA base) s1 H := rep_C (FB_cg hF (fun k _ => fb_close rfl _)) (fun k hk => by
    by_cases e : k = 0
    · subst e; exact opS_s _ _ _
    · exact (opS_n (fun z => e (vc_u hk z rfl))).trans (hno k (by omega) hk)) (ok_s1 D cA base)
  exact x11_tail hx hb hml hown hts hK hr hlocks hR hS hl hmk ⟨(Nat.le_of_ble_eq_true rfl), (Nat.le_of_ble_eq_true rfl)⟩ ⟨(Nat.le_of_ble_eq_true rfl), (Nat.le_of_ble_eq_true rfl)⟩
