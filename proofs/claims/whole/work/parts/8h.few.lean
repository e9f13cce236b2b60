/-! Few() -/
def kcX0 : List mI := [(0, .aload_n 0, 1), (1, .invokespecial 3, 3), (4, .aload_n 0, 1), (5, .bipush 6, 2), (7, .newarray .int, 2), (9, .putfield 9, 3), (12, .aload_n 0, 1), (13, .bipush 6, 2), (15, .newarray .int, 2), (17, .putfield 15, 3), (20, .aload_n 0, 1), (21, .bipush 7, 2), (23, .anewarray 18, 3), (26, .putfield 20, 3), (29, .iconst 0, 1), (30, .istore_n 1, 1), (31, .iload_n 1, 1), (32, .bipush 6, 2), (34, .if_icmp .gt 23, 3), (37, .aload_n 0, 1), (38, .getfield 20, 3), (41, .iload_n 1, 1), (42, .new 18, 3), (45, .dup, 1), (46, .iload_n 1, 1), (47, .invokespecial 24, 3), (50, .aastore, 1), (51, .iinc 1 1, 3), (54, .goto (-23), 3), (57, .aload_n 0, 1), (58, .bipush 6, 2), (60, .invokestatic 27, 3), (63, .newarray .int, 2), (65, .putfield 33, 3), (68, .return_, 1)]
set_option maxRecDepth 20000 in
theorem kcX0_ok : ∀ e ∈ kcX0, decode cX0_init e.1 = .ok (e.2.1, e.2.2) := fun e he => of_decide_eq_true (List.all_eq_true.mp (show kcX0.all (fun e => decide (decode cX0_init e.1 = .ok (e.2.1, e.2.2))) = true by decide +kernel) e he)
set_option maxRecDepth 20000 in
theorem i_X0 (l : Launch) {D : va_G} {cA : Nat → ClassId} {base zq : Nat} {op : Nat × Nat → Option va_E} (hop : op (42, 0) = some (.inr (0, [.int (Int32.ofInt 0), .int (Int32.ofInt 0), .null, .null, .null, .null]))) (hno : ∀ k, 216 ≤ k → k < nC → op (vcC k) = none) : iMet l (wC D cA base) vcC base zq yX0_init cX0_init 2 6 478 7373 s1 op 216 215 [] s1 (opS op (42, 0) none) 694 := by
  refine i_intro (by decide) rfl (Nat.le_of_ble_eq_true rfl) (fun p e s m args below meth c ls hx hb hml hown hts hin hr hlocks hBK hsz hF hS hl => ?_)
  have hK := hBK.1
  have SC : CallFix p m c cX0_init 2 s args lw_kept RX0 := ⟨hx, hb, hml, hown, hts⟩
  have hown : s.vm.findClass RX0 = some m.cls := hown
  have hcI : s.vm.findClass ("[" ++ FieldType.int.toString) = some (cA 1) := (hK.1.2 0 _ rfl).2
  have hcI2 : s.vm.findClass (FieldType.array .int).toString = some (cA 1) := hcI
  have hcZ : s.vm.findClass ("[" ++ FieldType.boolean.toString) = some (cA 3) := (hK.1.2 2 _ rfl).2
  have hcO : s.vm.findClass ("[" ++ (FieldType.array .int).toString) = some (cA 5) := (hK.1.2 3 _ rfl).2
  refine lv_aload_n hx hb (k_at kcX0_ok 0 rfl) rfl (lv_at hl 0 rfl) ?_
  refine fb_obj SC (kept_t 224 (by decide +kernel) rfl) (kept_t 24 (by decide +kernel) rfl) (kept_t 25 (by decide +kernel) rfl) hl.1 ⟨(Nat.le_of_ble_eq_true rfl), (Nat.le_of_ble_eq_true rfl)⟩ (k_at kcX0_ok 1 rfl) ?_
  refine W.eq (g2 := F0 m 4 ls []) rfl ?_
  refine lv_aload_n hx hb (k_at kcX0_ok 2 rfl) rfl (lv_at hl 0 rfl) ?_
  refine lv_bipush hx hb (k_at kcX0_ok 3 rfl) (ofI_8 (by decide) (by decide)) ?_
  refine fb_newa (kd := 1) hx hb hts hK hF hS (by omega) (by omega) (atype := .int) (ty := .int) rfl (kept_t 43 (by decide +kernel) rfl) hcI (q0 := (43, 0)) rfl (hno 216 (by decide) (by decide +kernel)) (a0 := (6, .inl fun k => Int32.ofInt (s1 43 0 k))) rfl (N := 6) (fun cA => z_int (fun _ => i0) cA 6) (by decide) (by decide) (by decide) (Nat.le_of_ble_eq_true rfl) (Nat.le_of_ble_eq_true rfl) (k_at kcX0_ok 4 rfl) (fun _ h => h) ?_
  intro H hF hS
  refine fb_put hx hb hts hK hin hF hS (by omega) hown 215 (42, 0) (by decide) rfl (fun k hk h => vc_u (Nat.lt_of_lt_of_le hk (by decide +kernel)) h (by decide +kernel)) (fs := [.int (Int32.ofInt 0), .int (Int32.ofInt 0), .null, .null, .null, .null]) hop rfl inX0 tyX0 tyX0_ok nmX0 2 (by decide) (kept_t 292 (by decide +kernel) rfl) rfl rfl rfl rfl (Nat.le_of_ble_eq_true rfl) (k_at kcX0_ok 5 rfl) ?_
  intro H locs hF hS
  replace hF : FB (wC D cA base) vcC base s1 (opS op (42, 0) (some (.inr (0, [.int (Int32.ofInt 0), .int (Int32.ofInt 0), .ref (base + 216), .null, .null, .null])))) 217 H := hF
  refine W.eq (g2 := F0 m 12 ls []) rfl ?_
  refine lv_aload_n hx hb (k_at kcX0_ok 6 rfl) rfl (lv_at hl 0 rfl) ?_
  refine lv_bipush hx hb (k_at kcX0_ok 7 rfl) (ofI_8 (by decide) (by decide)) ?_
  refine fb_newa (kd := 1) hx hb hts hK hF hS (by omega) (by omega) (atype := .int) (ty := .int) rfl (kept_t 43 (by decide +kernel) rfl) hcI (q0 := (44, 0)) rfl ((opS_no hno (show offC 42 0 < 216 by decide +kernel) (Nat.le_refl _)) 217 (by decide) (by decide +kernel)) (a0 := (6, .inl fun k => Int32.ofInt (s1 44 0 k))) rfl (N := 6) (fun cA => z_int (fun _ => i0) cA 6) (by decide) (by decide) (by decide) (Nat.le_of_ble_eq_true rfl) (Nat.le_of_ble_eq_true rfl) (k_at kcX0_ok 8 rfl) (fun _ h => h) ?_
  intro H hF hS
  refine fb_put hx hb hts hK hin hF hS (by omega) hown 215 (42, 0) (by decide) rfl (fun k hk h => vc_u (Nat.lt_of_lt_of_le hk (by decide +kernel)) h (by decide +kernel)) (fs := [.int (Int32.ofInt 0), .int (Int32.ofInt 0), .ref (base + 216), .null, .null, .null]) (opS_s _ _ _) rfl inX0 tyX0 tyX0_ok nmX0 3 (by decide) (kept_t 293 (by decide +kernel) rfl) rfl rfl rfl rfl (Nat.le_of_ble_eq_true rfl) (k_at kcX0_ok 9 rfl) ?_
  intro H locs hF hS
  rw [opS_opS] at hF
  replace hF : FB (wC D cA base) vcC base s1 (opS op (42, 0) (some (.inr (0, [.int (Int32.ofInt 0), .int (Int32.ofInt 0), .ref (base + 216), .ref (base + 217), .null, .null])))) 218 H := hF
  refine W.eq (g2 := F0 m 20 ls []) rfl ?_
  refine lv_aload_n hx hb (k_at kcX0_ok 10 rfl) rfl (lv_at hl 0 rfl) ?_
  refine lv_bipush hx hb (k_at kcX0_ok 11 rfl) (ofI_8 (by decide) (by decide)) ?_
  refine fb_newq hx hb hts hK hBK.2.2.1 hF hS (by omega) (by omega) hown (kept_t 225 (by decide +kernel) rfl) (hK.1.2 4 _ rfl).2.choose_spec.choose_spec.2.2.2 (q0 := (45, 0)) rfl (fun k hk => vcn_ne hk (by decide +kernel) (by decide +kernel)) (N := 7) (by decide) (by decide) (by decide) (Nat.le_of_ble_eq_true rfl) (Nat.le_of_ble_eq_true rfl) (k_at kcX0_ok 12 rfl) ?_
  intro H hF hS
  refine fb_put hx hb hts hK hin hF hS (by omega) hown 215 (42, 0) (by decide) rfl (fun k hk h => vc_u (Nat.lt_of_lt_of_le hk (by decide +kernel)) h (by decide +kernel)) (fs := [.int (Int32.ofInt 0), .int (Int32.ofInt 0), .ref (base + 216), .ref (base + 217), .null, .null]) ((opS_n (by decide)).trans (opS_s _ _ _)) rfl inX0 tyX0 tyX0_ok nmX0 4 (by decide) (kept_t 294 (by decide +kernel) rfl) rfl rfl rfl rfl (Nat.le_of_ble_eq_true rfl) (k_at kcX0_ok 13 rfl) ?_
  intro H locs hF hS
  rw [opS_comm (by decide), opS_opS] at hF
  replace hF : FB (wC D cA base) vcC base s1 (opS (opS op (42, 0) (some (.inr (0, [.int (Int32.ofInt 0), .int (Int32.ofInt 0), .ref (base + 216), .ref (base + 217), .ref (base + 218), .null])))) (45, 0) (some (.inl (cA 6, 7, .inr (.inr (.inr (.inr (fun _ => none)))))))) 219 H := hF
  refine W.eq (g2 := F0 m 29 ls []) rfl ?_
  refine lv_iconst hx hb (k_at kcX0_ok 14 rfl) rfl ?_
  refine lv_istore_n hx hb (k_at kcX0_ok 15 rfl) rfl hl (by decide) rfl ?_
  intro ls hl
  replace hl : lv_has ls 2 [(1, .int (Int32.ofInt 0)), (0, .ref (base + 215))] := hl
  refine lv_iload_n hx hb (k_at kcX0_ok 16 rfl) rfl (lv_at hl 0 rfl) ?_
  refine lv_bipush hx hb (k_at kcX0_ok 17 rfl) (ofI_8 (by decide) (by decide)) ?_
  refine lv_icmp_gt hx hb (tgt := 57) (k_at kcX0_ok 18 rfl) rfl (fun h => absurd h (by decide)) (fun _ => ?_)
  refine lv_aload_n hx hb (k_at kcX0_ok 19 rfl) rfl (lv_at hl 1 rfl) ?_
  refine fb_get hx hb hts hK hF hown 215 (42, 0) (by decide) rfl (fs := [.int (Int32.ofInt 0), .int (Int32.ofInt 0), .ref (base + 216), .ref (base + 217), .ref (base + 218), .null]) ((opS_n (by decide)).trans (opS_s _ _ _)) rfl inX0 4 (by decide) (kept_t 294 (by decide +kernel) rfl) rfl (k_at kcX0_ok 20 rfl) ?_
  refine lv_iload_n hx hb (k_at kcX0_ok 21 rfl) rfl (lv_at hl 0 rfl) ?_
  refine fb_new hx hb hts hK hF hS (by omega) (by omega) hown (ci := 3) rfl inX3 tyX3 tyX3_ok (kept_t 225 (by decide +kernel) rfl) (kept_t 227 (by decide +kernel) rfl) (kept_t 10 (by decide +kernel) rfl) (q0 := (47, 0)) rfl (fun k hk => vcn_ne hk (by decide +kernel) (by decide +kernel)) (fs := [.int (Int32.ofInt 0), .int (Int32.ofInt 0), .int (Int32.ofInt 0), .int (Int32.ofInt 0), .null, .null, .null, .int (Int32.ofInt 0), .null, .null, .null, .null, .null, .null]) (by decide +kernel) (Nat.le_of_ble_eq_true rfl) (Nat.le_of_ble_eq_true rfl) (k_at kcX0_ok 22 rfl) ?_
  intro H hF hS
  refine lv_dup hx hb (k_at kcX0_ok 23 rfl) rfl ?_
  refine lv_iload_n hx hb (k_at kcX0_ok 24 rfl) rfl (lv_at hl 0 rfl) ?_
  refine fb_callI (av := [.int (Int32.ofInt 0)]) SC hBK (i_X3_0 l (opS_s _ _ _) (opS_no (opS_no (opS_no hno (show offC 42 0 < 216 by decide +kernel) (Nat.le_refl _)) (show offC 45 0 < 219 by decide +kernel) (by decide)) (show offC 47 0 < 220 by decide +kernel) (by decide))) (kept_t 228 (by decide +kernel) rfl) (kept_t 10 (by decide +kernel) rfl) (kept_t 230 (by decide +kernel) rfl) (kept_t 229 (by decide +kernel) rfl) rfl (by decide +kernel) rfl ⟨(Nat.le_of_ble_eq_true rfl), (Nat.le_of_ble_eq_true rfl)⟩ hF hS (by omega) hl.1 (Nat.le_of_ble_eq_true rfl) ⟨(Nat.le_of_ble_eq_true rfl), (Nat.le_of_ble_eq_true rfl)⟩ (k_at kcX0_ok 25 rfl) ?_
  intro H locs hF hS
  rw [opS_opS, opS_none (q := (47, 0)) ((opS_no (opS_no hno (show offC 42 0 < 216 by decide +kernel) (Nat.le_refl _)) (show offC 45 0 < 219 by decide +kernel) (by decide)) 219 (by decide) (by decide +kernel))] at hF
  refine fb_ast hx hb hK hF hS (by omega) 218 219 3 (45, 0) (by decide) rfl (fun k hk h => vc_u (Nat.lt_of_lt_of_le hk (by decide +kernel)) h (by decide +kernel)) (opS_s _ _ _) (by decide) (fbE_m ((opS_no (opS_no hno (show offC 42 0 < 216 by decide +kernel) (Nat.le_refl _)) (show offC 45 0 < 219 by decide +kernel) (by decide)) 219 (by decide) (by decide +kernel)) rfl) rfl rfl (z := 0) (j := 0) (by decide) (iin (a := 0) (by decide) (by decide)) (k_at kcX0_ok 26 rfl) ?_
  intro H locs hF hS
  rw [opS_opS] at hF
  replace hF : FB (wC D cA base) vcC base s1 (opS (opS op (42, 0) (some (.inr (0, [.int (Int32.ofInt 0), .int (Int32.ofInt 0), .ref (base + 216), .ref (base + 217), .ref (base + 218), .null])))) (45, 0) (some (.inl (cA 6, 7, .inr (.inr (.inr (.inr (va_up (fun _ => none) 0 (some (base + 219)))))))))) 233 H := hF
  refine lv_iinc hx hb (k_at kcX0_ok 27 rfl) hl (k := 0) rfl (iadd1 0) (by decide) rfl ?_
  intro ls hl
  replace hl : lv_has ls 2 [(1, .int (Int32.ofInt 1)), (0, .ref (base + 215))] := hl
  refine lv_goto hx hb (tgt := 31) (k_at kcX0_ok 28 rfl) rfl ?_
  refine lv_iload_n hx hb (k_at kcX0_ok 16 rfl) rfl (lv_at hl 0 rfl) ?_
  refine lv_bipush hx hb (k_at kcX0_ok 17 rfl) (ofI_8 (by decide) (by decide)) ?_
  refine lv_icmp_gt hx hb (tgt := 57) (k_at kcX0_ok 18 rfl) rfl (fun h => absurd h (by decide)) (fun _ => ?_)
  refine lv_aload_n hx hb (k_at kcX0_ok 19 rfl) rfl (lv_at hl 1 rfl) ?_
  refine fb_get hx hb hts hK hF hown 215 (42, 0) (by decide) rfl (fs := [.int (Int32.ofInt 0), .int (Int32.ofInt 0), .ref (base + 216), .ref (base + 217), .ref (base + 218), .null]) ((opS_n (by decide)).trans (opS_s _ _ _)) rfl inX0 4 (by decide) (kept_t 294 (by decide +kernel) rfl) rfl (k_at kcX0_ok 20 rfl) ?_
  refine lv_iload_n hx hb (k_at kcX0_ok 21 rfl) rfl (lv_at hl 0 rfl) ?_
  refine fb_new hx hb hts hK hF hS (by omega) (by omega) hown (ci := 3) rfl inX3 tyX3 tyX3_ok (kept_t 225 (by decide +kernel) rfl) (kept_t 227 (by decide +kernel) rfl) (kept_t 10 (by decide +kernel) rfl) (q0 := (47, 1)) rfl (fun k hk => vcn_ne hk (by decide +kernel) (by decide +kernel)) (fs := [.int (Int32.ofInt 0), .int (Int32.ofInt 0), .int (Int32.ofInt 0), .int (Int32.ofInt 0), .null, .null, .null, .int (Int32.ofInt 0), .null, .null, .null, .null, .null, .null]) (by decide +kernel) (Nat.le_of_ble_eq_true rfl) (Nat.le_of_ble_eq_true rfl) (k_at kcX0_ok 22 rfl) ?_
  intro H hF hS
  refine lv_dup hx hb (k_at kcX0_ok 23 rfl) rfl ?_
  refine lv_iload_n hx hb (k_at kcX0_ok 24 rfl) rfl (lv_at hl 0 rfl) ?_
  refine fb_callI (av := [.int (Int32.ofInt 1)]) SC hBK (i_X3_1 l (opS_s _ _ _) (opS_no (opS_no (opS_no hno (show offC 42 0 < 216 by decide +kernel) (Nat.le_refl _)) (show offC 45 0 < 219 by decide +kernel) (by decide)) (show offC 47 1 < 234 by decide +kernel) (by decide))) (kept_t 228 (by decide +kernel) rfl) (kept_t 10 (by decide +kernel) rfl) (kept_t 230 (by decide +kernel) rfl) (kept_t 229 (by decide +kernel) rfl) rfl (by decide +kernel) rfl ⟨(Nat.le_of_ble_eq_true rfl), (Nat.le_of_ble_eq_true rfl)⟩ hF hS (by omega) hl.1 (Nat.le_of_ble_eq_true rfl) ⟨(Nat.le_of_ble_eq_true rfl), (Nat.le_of_ble_eq_true rfl)⟩ (k_at kcX0_ok 25 rfl) ?_
  intro H locs hF hS
  rw [opS_opS, opS_none (q := (47, 1)) ((opS_no (opS_no hno (show offC 42 0 < 216 by decide +kernel) (Nat.le_refl _)) (show offC 45 0 < 219 by decide +kernel) (by decide)) 233 (by decide) (by decide +kernel))] at hF
  refine fb_ast hx hb hK hF hS (by omega) 218 233 3 (45, 0) (by decide) rfl (fun k hk h => vc_u (Nat.lt_of_lt_of_le hk (by decide +kernel)) h (by decide +kernel)) (opS_s _ _ _) (by decide) (fbE_m ((opS_no (opS_no hno (show offC 42 0 < 216 by decide +kernel) (Nat.le_refl _)) (show offC 45 0 < 219 by decide +kernel) (by decide)) 233 (by decide) (by decide +kernel)) rfl) rfl rfl (z := 1) (j := 1) (by decide) (iin (a := 1) (by decide) (by decide)) (k_at kcX0_ok 26 rfl) ?_
  intro H locs hF hS
  rw [opS_opS] at hF
  replace hF : FB (wC D cA base) vcC base s1 (opS (opS op (42, 0) (some (.inr (0, [.int (Int32.ofInt 0), .int (Int32.ofInt 0), .ref (base + 216), .ref (base + 217), .ref (base + 218), .null])))) (45, 0) (some (.inl (cA 6, 7, .inr (.inr (.inr (.inr (va_up (va_up (fun _ => none) 0 (some (base + 219))) 1 (some (base + 233)))))))))) 255 H := hF
  refine lv_iinc hx hb (k_at kcX0_ok 27 rfl) hl (k := 0) rfl (iadd1 1) (by decide) rfl ?_
  intro ls hl
  replace hl : lv_has ls 2 [(1, .int (Int32.ofInt 2)), (0, .ref (base + 215))] := hl
  refine lv_goto hx hb (tgt := 31) (k_at kcX0_ok 28 rfl) rfl ?_
  refine lv_iload_n hx hb (k_at kcX0_ok 16 rfl) rfl (lv_at hl 0 rfl) ?_
  refine lv_bipush hx hb (k_at kcX0_ok 17 rfl) (ofI_8 (by decide) (by decide)) ?_
  refine lv_icmp_gt hx hb (tgt := 57) (k_at kcX0_ok 18 rfl) rfl (fun h => absurd h (by decide)) (fun _ => ?_)
  refine lv_aload_n hx hb (k_at kcX0_ok 19 rfl) rfl (lv_at hl 1 rfl) ?_
  refine fb_get hx hb hts hK hF hown 215 (42, 0) (by decide) rfl (fs := [.int (Int32.ofInt 0), .int (Int32.ofInt 0), .ref (base + 216), .ref (base + 217), .ref (base + 218), .null]) ((opS_n (by decide)).trans (opS_s _ _ _)) rfl inX0 4 (by decide) (kept_t 294 (by decide +kernel) rfl) rfl (k_at kcX0_ok 20 rfl) ?_
  refine lv_iload_n hx hb (k_at kcX0_ok 21 rfl) rfl (lv_at hl 0 rfl) ?_
  refine fb_new hx hb hts hK hF hS (by omega) (by omega) hown (ci := 3) rfl inX3 tyX3 tyX3_ok (kept_t 225 (by decide +kernel) rfl) (kept_t 227 (by decide +kernel) rfl) (kept_t 10 (by decide +kernel) rfl) (q0 := (47, 2)) rfl (fun k hk => vcn_ne hk (by decide +kernel) (by decide +kernel)) (fs := [.int (Int32.ofInt 0), .int (Int32.ofInt 0), .int (Int32.ofInt 0), .int (Int32.ofInt 0), .null, .null, .null, .int (Int32.ofInt 0), .null, .null, .null, .null, .null, .null]) (by decide +kernel) (Nat.le_of_ble_eq_true rfl) (Nat.le_of_ble_eq_true rfl) (k_at kcX0_ok 22 rfl) ?_
  intro H hF hS
  refine lv_dup hx hb (k_at kcX0_ok 23 rfl) rfl ?_
  refine lv_iload_n hx hb (k_at kcX0_ok 24 rfl) rfl (lv_at hl 0 rfl) ?_
  refine fb_callI (av := [.int (Int32.ofInt 2)]) SC hBK (i_X3_2 l (opS_s _ _ _) (opS_no (opS_no (opS_no hno (show offC 42 0 < 216 by decide +kernel) (Nat.le_refl _)) (show offC 45 0 < 219 by decide +kernel) (by decide)) (show offC 47 2 < 256 by decide +kernel) (by decide))) (kept_t 228 (by decide +kernel) rfl) (kept_t 10 (by decide +kernel) rfl) (kept_t 230 (by decide +kernel) rfl) (kept_t 229 (by decide +kernel) rfl) rfl (by decide +kernel) rfl ⟨(Nat.le_of_ble_eq_true rfl), (Nat.le_of_ble_eq_true rfl)⟩ hF hS (by omega) hl.1 (Nat.le_of_ble_eq_true rfl) ⟨(Nat.le_of_ble_eq_true rfl), (Nat.le_of_ble_eq_true rfl)⟩ (k_at kcX0_ok 25 rfl) ?_
  intro H locs hF hS
  rw [opS_opS, opS_none (q := (47, 2)) ((opS_no (opS_no hno (show offC 42 0 < 216 by decide +kernel) (Nat.le_refl _)) (show offC 45 0 < 219 by decide +kernel) (by decide)) 255 (by decide) (by decide +kernel))] at hF
  refine fb_ast hx hb hK hF hS (by omega) 218 255 3 (45, 0) (by decide) rfl (fun k hk h => vc_u (Nat.lt_of_lt_of_le hk (by decide +kernel)) h (by decide +kernel)) (opS_s _ _ _) (by decide) (fbE_m ((opS_no (opS_no hno (show offC 42 0 < 216 by decide +kernel) (Nat.le_refl _)) (show offC 45 0 < 219 by decide +kernel) (by decide)) 255 (by decide) (by decide +kernel)) rfl) rfl rfl (z := 2) (j := 2) (by decide) (iin (a := 2) (by decide) (by decide)) (k_at kcX0_ok 26 rfl) ?_
  intro H locs hF hS
  rw [opS_opS] at hF
  replace hF : FB (wC D cA base) vcC base s1 (opS (opS op (42, 0) (some (.inr (0, [.int (Int32.ofInt 0), .int (Int32.ofInt 0), .ref (base + 216), .ref (base + 217), .ref (base + 218), .null])))) (45, 0) (some (.inl (cA 6, 7, .inr (.inr (.inr (.inr (va_up (va_up (va_up (fun _ => none) 0 (some (base + 219))) 1 (some (base + 233))) 2 (some (base + 255)))))))))) 289 H := hF
  refine lv_iinc hx hb (k_at kcX0_ok 27 rfl) hl (k := 0) rfl (iadd1 2) (by decide) rfl ?_
  intro ls hl
  replace hl : lv_has ls 2 [(1, .int (Int32.ofInt 3)), (0, .ref (base + 215))] := hl
  refine lv_goto hx hb (tgt := 31) (k_at kcX0_ok 28 rfl) rfl ?_
  refine lv_iload_n hx hb (k_at kcX0_ok 16 rfl) rfl (lv_at hl 0 rfl) ?_
  refine lv_bipush hx hb (k_at kcX0_ok 17 rfl) (ofI_8 (by decide) (by decide)) ?_
  refine lv_icmp_gt hx hb (tgt := 57) (k_at kcX0_ok 18 rfl) rfl (fun h => absurd h (by decide)) (fun _ => ?_)
  refine lv_aload_n hx hb (k_at kcX0_ok 19 rfl) rfl (lv_at hl 1 rfl) ?_
  refine fb_get hx hb hts hK hF hown 215 (42, 0) (by decide) rfl (fs := [.int (Int32.ofInt 0), .int (Int32.ofInt 0), .ref (base + 216), .ref (base + 217), .ref (base + 218), .null]) ((opS_n (by decide)).trans (opS_s _ _ _)) rfl inX0 4 (by decide) (kept_t 294 (by decide +kernel) rfl) rfl (k_at kcX0_ok 20 rfl) ?_
  refine lv_iload_n hx hb (k_at kcX0_ok 21 rfl) rfl (lv_at hl 0 rfl) ?_
  refine fb_new hx hb hts hK hF hS (by omega) (by omega) hown (ci := 3) rfl inX3 tyX3 tyX3_ok (kept_t 225 (by decide +kernel) rfl) (kept_t 227 (by decide +kernel) rfl) (kept_t 10 (by decide +kernel) rfl) (q0 := (47, 3)) rfl (fun k hk => vcn_ne hk (by decide +kernel) (by decide +kernel)) (fs := [.int (Int32.ofInt 0), .int (Int32.ofInt 0), .int (Int32.ofInt 0), .int (Int32.ofInt 0), .null, .null, .null, .int (Int32.ofInt 0), .null, .null, .null, .null, .null, .null]) (by decide +kernel) (Nat.le_of_ble_eq_true rfl) (Nat.le_of_ble_eq_true rfl) (k_at kcX0_ok 22 rfl) ?_
  intro H hF hS
  refine lv_dup hx hb (k_at kcX0_ok 23 rfl) rfl ?_
  refine lv_iload_n hx hb (k_at kcX0_ok 24 rfl) rfl (lv_at hl 0 rfl) ?_
  refine fb_callI (av := [.int (Int32.ofInt 3)]) SC hBK (i_X3_3 l (opS_s _ _ _) (opS_no (opS_no (opS_no hno (show offC 42 0 < 216 by decide +kernel) (Nat.le_refl _)) (show offC 45 0 < 219 by decide +kernel) (by decide)) (show offC 47 3 < 290 by decide +kernel) (by decide))) (kept_t 228 (by decide +kernel) rfl) (kept_t 10 (by decide +kernel) rfl) (kept_t 230 (by decide +kernel) rfl) (kept_t 229 (by decide +kernel) rfl) rfl (by decide +kernel) rfl ⟨(Nat.le_of_ble_eq_true rfl), (Nat.le_of_ble_eq_true rfl)⟩ hF hS (by omega) hl.1 (Nat.le_of_ble_eq_true rfl) ⟨(Nat.le_of_ble_eq_true rfl), (Nat.le_of_ble_eq_true rfl)⟩ (k_at kcX0_ok 25 rfl) ?_
  intro H locs hF hS
  rw [opS_opS, opS_none (q := (47, 3)) ((opS_no (opS_no hno (show offC 42 0 < 216 by decide +kernel) (Nat.le_refl _)) (show offC 45 0 < 219 by decide +kernel) (by decide)) 289 (by decide) (by decide +kernel))] at hF
  refine fb_ast hx hb hK hF hS (by omega) 218 289 3 (45, 0) (by decide) rfl (fun k hk h => vc_u (Nat.lt_of_lt_of_le hk (by decide +kernel)) h (by decide +kernel)) (opS_s _ _ _) (by decide) (fbE_m ((opS_no (opS_no hno (show offC 42 0 < 216 by decide +kernel) (Nat.le_refl _)) (show offC 45 0 < 219 by decide +kernel) (by decide)) 289 (by decide) (by decide +kernel)) rfl) rfl rfl (z := 3) (j := 3) (by decide) (iin (a := 3) (by decide) (by decide)) (k_at kcX0_ok 26 rfl) ?_
  intro H locs hF hS
  rw [opS_opS] at hF
  replace hF : FB (wC D cA base) vcC base s1 (opS (opS op (42, 0) (some (.inr (0, [.int (Int32.ofInt 0), .int (Int32.ofInt 0), .ref (base + 216), .ref (base + 217), .ref (base + 218), .null])))) (45, 0) (some (.inl (cA 6, 7, .inr (.inr (.inr (.inr (va_up (va_up (va_up (va_up (fun _ => none) 0 (some (base + 219))) 1 (some (base + 233))) 2 (some (base + 255))) 3 (some (base + 289)))))))))) 339 H := hF
  refine lv_iinc hx hb (k_at kcX0_ok 27 rfl) hl (k := 0) rfl (iadd1 3) (by decide) rfl ?_
  intro ls hl
  replace hl : lv_has ls 2 [(1, .int (Int32.ofInt 4)), (0, .ref (base + 215))] := hl
  refine lv_goto hx hb (tgt := 31) (k_at kcX0_ok 28 rfl) rfl ?_
  refine lv_iload_n hx hb (k_at kcX0_ok 16 rfl) rfl (lv_at hl 0 rfl) ?_
  refine lv_bipush hx hb (k_at kcX0_ok 17 rfl) (ofI_8 (by decide) (by decide)) ?_
  refine lv_icmp_gt hx hb (tgt := 57) (k_at kcX0_ok 18 rfl) rfl (fun h => absurd h (by decide)) (fun _ => ?_)
  refine lv_aload_n hx hb (k_at kcX0_ok 19 rfl) rfl (lv_at hl 1 rfl) ?_
  refine fb_get hx hb hts hK hF hown 215 (42, 0) (by decide) rfl (fs := [.int (Int32.ofInt 0), .int (Int32.ofInt 0), .ref (base + 216), .ref (base + 217), .ref (base + 218), .null]) ((opS_n (by decide)).trans (opS_s _ _ _)) rfl inX0 4 (by decide) (kept_t 294 (by decide +kernel) rfl) rfl (k_at kcX0_ok 20 rfl) ?_
  refine lv_iload_n hx hb (k_at kcX0_ok 21 rfl) rfl (lv_at hl 0 rfl) ?_
  refine fb_new hx hb hts hK hF hS (by omega) (by omega) hown (ci := 3) rfl inX3 tyX3 tyX3_ok (kept_t 225 (by decide +kernel) rfl) (kept_t 227 (by decide +kernel) rfl) (kept_t 10 (by decide +kernel) rfl) (q0 := (47, 4)) rfl (fun k hk => vcn_ne hk (by decide +kernel) (by decide +kernel)) (fs := [.int (Int32.ofInt 0), .int (Int32.ofInt 0), .int (Int32.ofInt 0), .int (Int32.ofInt 0), .null, .null, .null, .int (Int32.ofInt 0), .null, .null, .null, .null, .null, .null]) (by decide +kernel) (Nat.le_of_ble_eq_true rfl) (Nat.le_of_ble_eq_true rfl) (k_at kcX0_ok 22 rfl) ?_
  intro H hF hS
  refine lv_dup hx hb (k_at kcX0_ok 23 rfl) rfl ?_
  refine lv_iload_n hx hb (k_at kcX0_ok 24 rfl) rfl (lv_at hl 0 rfl) ?_
  refine fb_callI (av := [.int (Int32.ofInt 4)]) SC hBK (i_X3_4 l (opS_s _ _ _) (opS_no (opS_no (opS_no hno (show offC 42 0 < 216 by decide +kernel) (Nat.le_refl _)) (show offC 45 0 < 219 by decide +kernel) (by decide)) (show offC 47 4 < 340 by decide +kernel) (by decide))) (kept_t 228 (by decide +kernel) rfl) (kept_t 10 (by decide +kernel) rfl) (kept_t 230 (by decide +kernel) rfl) (kept_t 229 (by decide +kernel) rfl) rfl (by decide +kernel) rfl ⟨(Nat.le_of_ble_eq_true rfl), (Nat.le_of_ble_eq_true rfl)⟩ hF hS (by omega) hl.1 (Nat.le_of_ble_eq_true rfl) ⟨(Nat.le_of_ble_eq_true rfl), (Nat.le_of_ble_eq_true rfl)⟩ (k_at kcX0_ok 25 rfl) ?_
  intro H locs hF hS
  rw [opS_opS, opS_none (q := (47, 4)) ((opS_no (opS_no hno (show offC 42 0 < 216 by decide +kernel) (Nat.le_refl _)) (show offC 45 0 < 219 by decide +kernel) (by decide)) 339 (by decide) (by decide +kernel))] at hF
  refine fb_ast hx hb hK hF hS (by omega) 218 339 3 (45, 0) (by decide) rfl (fun k hk h => vc_u (Nat.lt_of_lt_of_le hk (by decide +kernel)) h (by decide +kernel)) (opS_s _ _ _) (by decide) (fbE_m ((opS_no (opS_no hno (show offC 42 0 < 216 by decide +kernel) (Nat.le_refl _)) (show offC 45 0 < 219 by decide +kernel) (by decide)) 339 (by decide) (by decide +kernel)) rfl) rfl rfl (z := 4) (j := 4) (by decide) (iin (a := 4) (by decide) (by decide)) (k_at kcX0_ok 26 rfl) ?_
  intro H locs hF hS
  rw [opS_opS] at hF
  replace hF : FB (wC D cA base) vcC base s1 (opS (opS op (42, 0) (some (.inr (0, [.int (Int32.ofInt 0), .int (Int32.ofInt 0), .ref (base + 216), .ref (base + 217), .ref (base + 218), .null])))) (45, 0) (some (.inl (cA 6, 7, .inr (.inr (.inr (.inr (va_up (va_up (va_up (va_up (va_up (fun _ => none) 0 (some (base + 219))) 1 (some (base + 233))) 2 (some (base + 255))) 3 (some (base + 289))) 4 (some (base + 339)))))))))) 421 H := hF
  refine lv_iinc hx hb (k_at kcX0_ok 27 rfl) hl (k := 0) rfl (iadd1 4) (by decide) rfl ?_
  intro ls hl
  replace hl : lv_has ls 2 [(1, .int (Int32.ofInt 5)), (0, .ref (base + 215))] := hl
  refine lv_goto hx hb (tgt := 31) (k_at kcX0_ok 28 rfl) rfl ?_
  refine lv_iload_n hx hb (k_at kcX0_ok 16 rfl) rfl (lv_at hl 0 rfl) ?_
  refine lv_bipush hx hb (k_at kcX0_ok 17 rfl) (ofI_8 (by decide) (by decide)) ?_
  refine lv_icmp_gt hx hb (tgt := 57) (k_at kcX0_ok 18 rfl) rfl (fun h => absurd h (by decide)) (fun _ => ?_)
  refine lv_aload_n hx hb (k_at kcX0_ok 19 rfl) rfl (lv_at hl 1 rfl) ?_
  refine fb_get hx hb hts hK hF hown 215 (42, 0) (by decide) rfl (fs := [.int (Int32.ofInt 0), .int (Int32.ofInt 0), .ref (base + 216), .ref (base + 217), .ref (base + 218), .null]) ((opS_n (by decide)).trans (opS_s _ _ _)) rfl inX0 4 (by decide) (kept_t 294 (by decide +kernel) rfl) rfl (k_at kcX0_ok 20 rfl) ?_
  refine lv_iload_n hx hb (k_at kcX0_ok 21 rfl) rfl (lv_at hl 0 rfl) ?_
  refine fb_new hx hb hts hK hF hS (by omega) (by omega) hown (ci := 3) rfl inX3 tyX3 tyX3_ok (kept_t 225 (by decide +kernel) rfl) (kept_t 227 (by decide +kernel) rfl) (kept_t 10 (by decide +kernel) rfl) (q0 := (47, 5)) rfl (fun k hk => vcn_ne hk (by decide +kernel) (by decide +kernel)) (fs := [.int (Int32.ofInt 0), .int (Int32.ofInt 0), .int (Int32.ofInt 0), .int (Int32.ofInt 0), .null, .null, .null, .int (Int32.ofInt 0), .null, .null, .null, .null, .null, .null]) (by decide +kernel) (Nat.le_of_ble_eq_true rfl) (Nat.le_of_ble_eq_true rfl) (k_at kcX0_ok 22 rfl) ?_
  intro H hF hS
  refine lv_dup hx hb (k_at kcX0_ok 23 rfl) rfl ?_
  refine lv_iload_n hx hb (k_at kcX0_ok 24 rfl) rfl (lv_at hl 0 rfl) ?_
  refine fb_callI (av := [.int (Int32.ofInt 5)]) SC hBK (i_X3_5 l (opS_s _ _ _) (opS_no (opS_no (opS_no hno (show offC 42 0 < 216 by decide +kernel) (Nat.le_refl _)) (show offC 45 0 < 219 by decide +kernel) (by decide)) (show offC 47 5 < 422 by decide +kernel) (by decide))) (kept_t 228 (by decide +kernel) rfl) (kept_t 10 (by decide +kernel) rfl) (kept_t 230 (by decide +kernel) rfl) (kept_t 229 (by decide +kernel) rfl) rfl (by decide +kernel) rfl ⟨(Nat.le_of_ble_eq_true rfl), (Nat.le_of_ble_eq_true rfl)⟩ hF hS (by omega) hl.1 (Nat.le_of_ble_eq_true rfl) ⟨(Nat.le_of_ble_eq_true rfl), (Nat.le_of_ble_eq_true rfl)⟩ (k_at kcX0_ok 25 rfl) ?_
  intro H locs hF hS
  rw [opS_opS, opS_none (q := (47, 5)) ((opS_no (opS_no hno (show offC 42 0 < 216 by decide +kernel) (Nat.le_refl _)) (show offC 45 0 < 219 by decide +kernel) (by decide)) 421 (by decide) (by decide +kernel))] at hF
  refine fb_ast hx hb hK hF hS (by omega) 218 421 3 (45, 0) (by decide) rfl (fun k hk h => vc_u (Nat.lt_of_lt_of_le hk (by decide +kernel)) h (by decide +kernel)) (opS_s _ _ _) (by decide) (fbE_m ((opS_no (opS_no hno (show offC 42 0 < 216 by decide +kernel) (Nat.le_refl _)) (show offC 45 0 < 219 by decide +kernel) (by decide)) 421 (by decide) (by decide +kernel)) rfl) rfl rfl (z := 5) (j := 5) (by decide) (iin (a := 5) (by decide) (by decide)) (k_at kcX0_ok 26 rfl) ?_
  intro H locs hF hS
  rw [opS_opS] at hF
  replace hF : FB (wC D cA base) vcC base s1 (opS (opS op (42, 0) (some (.inr (0, [.int (Int32.ofInt 0), .int (Int32.ofInt 0), .ref (base + 216), .ref (base + 217), .ref (base + 218), .null])))) (45, 0) (some (.inl (cA 6, 7, .inr (.inr (.inr (.inr (va_up (va_up (va_up (va_up (va_up (va_up (fun _ => none) 0 (some (base + 219))) 1 (some (base + 233))) 2 (some (base + 255))) 3 (some (base + 289))) 4 (some (base + 339))) 5 (some (base + 421)))))))))) 515 H := hF
  refine lv_iinc hx hb (k_at kcX0_ok 27 rfl) hl (k := 0) rfl (iadd1 5) (by decide) rfl ?_
  intro ls hl
  replace hl : lv_has ls 2 [(1, .int (Int32.ofInt 6)), (0, .ref (base + 215))] := hl
  refine lv_goto hx hb (tgt := 31) (k_at kcX0_ok 28 rfl) rfl ?_
  refine lv_iload_n hx hb (k_at kcX0_ok 16 rfl) rfl (lv_at hl 0 rfl) ?_
  refine lv_bipush hx hb (k_at kcX0_ok 17 rfl) (ofI_8 (by decide) (by decide)) ?_
  refine lv_icmp_gt hx hb (tgt := 57) (k_at kcX0_ok 18 rfl) rfl (fun h => absurd h (by decide)) (fun _ => ?_)
  refine lv_aload_n hx hb (k_at kcX0_ok 19 rfl) rfl (lv_at hl 1 rfl) ?_
  refine fb_get hx hb hts hK hF hown 215 (42, 0) (by decide) rfl (fs := [.int (Int32.ofInt 0), .int (Int32.ofInt 0), .ref (base + 216), .ref (base + 217), .ref (base + 218), .null]) ((opS_n (by decide)).trans (opS_s _ _ _)) rfl inX0 4 (by decide) (kept_t 294 (by decide +kernel) rfl) rfl (k_at kcX0_ok 20 rfl) ?_
  refine lv_iload_n hx hb (k_at kcX0_ok 21 rfl) rfl (lv_at hl 0 rfl) ?_
  refine fb_new hx hb hts hK hF hS (by omega) (by omega) hown (ci := 3) rfl inX3 tyX3 tyX3_ok (kept_t 225 (by decide +kernel) rfl) (kept_t 227 (by decide +kernel) rfl) (kept_t 10 (by decide +kernel) rfl) (q0 := (47, 6)) rfl (fun k hk => vcn_ne hk (by decide +kernel) (by decide +kernel)) (fs := [.int (Int32.ofInt 0), .int (Int32.ofInt 0), .int (Int32.ofInt 0), .int (Int32.ofInt 0), .null, .null, .null, .int (Int32.ofInt 0), .null, .null, .null, .null, .null, .null]) (by decide +kernel) (Nat.le_of_ble_eq_true rfl) (Nat.le_of_ble_eq_true rfl) (k_at kcX0_ok 22 rfl) ?_
  intro H hF hS
  refine lv_dup hx hb (k_at kcX0_ok 23 rfl) rfl ?_
  refine lv_iload_n hx hb (k_at kcX0_ok 24 rfl) rfl (lv_at hl 0 rfl) ?_
  refine fb_callI (av := [.int (Int32.ofInt 6)]) SC hBK (i_X3_6 l (opS_s _ _ _) (opS_no (opS_no (opS_no hno (show offC 42 0 < 216 by decide +kernel) (Nat.le_refl _)) (show offC 45 0 < 219 by decide +kernel) (by decide)) (show offC 47 6 < 516 by decide +kernel) (by decide))) (kept_t 228 (by decide +kernel) rfl) (kept_t 10 (by decide +kernel) rfl) (kept_t 230 (by decide +kernel) rfl) (kept_t 229 (by decide +kernel) rfl) rfl (by decide +kernel) rfl ⟨(Nat.le_of_ble_eq_true rfl), (Nat.le_of_ble_eq_true rfl)⟩ hF hS (by omega) hl.1 (Nat.le_of_ble_eq_true rfl) ⟨(Nat.le_of_ble_eq_true rfl), (Nat.le_of_ble_eq_true rfl)⟩ (k_at kcX0_ok 25 rfl) ?_
  intro H locs hF hS
  rw [opS_opS, opS_none (q := (47, 6)) ((opS_no (opS_no hno (show offC 42 0 < 216 by decide +kernel) (Nat.le_refl _)) (show offC 45 0 < 219 by decide +kernel) (by decide)) 515 (by decide) (by decide +kernel))] at hF
  refine fb_ast hx hb hK hF hS (by omega) 218 515 3 (45, 0) (by decide) rfl (fun k hk h => vc_u (Nat.lt_of_lt_of_le hk (by decide +kernel)) h (by decide +kernel)) (opS_s _ _ _) (by decide) (fbE_m ((opS_no (opS_no hno (show offC 42 0 < 216 by decide +kernel) (Nat.le_refl _)) (show offC 45 0 < 219 by decide +kernel) (by decide)) 515 (by decide) (by decide +kernel)) rfl) rfl rfl (z := 6) (j := 6) (by decide) (iin (a := 6) (by decide) (by decide)) (k_at kcX0_ok 26 rfl) ?_
  intro H locs hF hS
  rw [opS_opS] at hF
  replace hF : FB (wC D cA base) vcC base s1 (opS (opS op (42, 0) (some (.inr (0, [.int (Int32.ofInt 0), .int (Int32.ofInt 0), .ref (base + 216), .ref (base + 217), .ref (base + 218), .null])))) (45, 0) (some (.inl (cA 6, 7, .inr (.inr (.inr (.inr (va_up (va_up (va_up (va_up (va_up (va_up (va_up (fun _ => none) 0 (some (base + 219))) 1 (some (base + 233))) 2 (some (base + 255))) 3 (some (base + 289))) 4 (some (base + 339))) 5 (some (base + 421))) 6 (some (base + 515)))))))))) 693 H := hF
  refine lv_iinc hx hb (k_at kcX0_ok 27 rfl) hl (k := 0) rfl (iadd1 6) (by decide) rfl ?_
  intro ls hl
  replace hl : lv_has ls 2 [(1, .int (Int32.ofInt 7)), (0, .ref (base + 215))] := hl
  refine lv_goto hx hb (tgt := 31) (k_at kcX0_ok 28 rfl) rfl ?_
  refine lv_iload_n hx hb (k_at kcX0_ok 16 rfl) rfl (lv_at hl 0 rfl) ?_
  refine lv_bipush hx hb (k_at kcX0_ok 17 rfl) (ofI_8 (by decide) (by decide)) ?_
  refine lv_icmp_gt hx hb (tgt := 57) (k_at kcX0_ok 18 rfl) rfl (fun _ => ?_) (fun h => absurd (by decide) h)
  replace hF : FB (wC D cA base) vcC base s1 (opS op (42, 0) (some (.inr (0, [.int (Int32.ofInt 0), .int (Int32.ofInt 0), .ref (base + 216), .ref (base + 217), .ref (base + 218), .null])))) 693 H := fb_arr (t := 0) hF ((opS_n (by decide)).trans (hno 218 (by decide) (by decide +kernel))) (f' := fun j => some (base + lbC j)) rfl (fun j hj => by
    match j, hj with
    | 0, _ => rfl
    | 1, _ => rfl
    | 2, _ => rfl
    | 3, _ => rfl
    | 4, _ => rfl
    | 5, _ => rfl
    | 6, _ => rfl)
  refine lv_aload_n hx hb (k_at kcX0_ok 29 rfl) rfl (lv_at hl 1 rfl) ?_
  refine lv_bipush hx hb (k_at kcX0_ok 30 rfl) (ofI_8 (by decide) (by decide)) ?_
  refine fb_width SC hK (kept_t 288 (by decide +kernel) rfl) hF hS (by omega) (by omega) hl.1 (Nat.le_of_ble_eq_true rfl) ⟨(Nat.le_of_ble_eq_true rfl), (Nat.le_of_ble_eq_true rfl)⟩ ⟨(Nat.le_of_ble_eq_true rfl), (Nat.le_of_ble_eq_true rfl)⟩ (z := 6) (v := 28) (by decide) (by decide +kernel) (k_at kcX0_ok 31 rfl) ?_
  intro H locs hF hS
  refine fb_newa (kd := 1) hx hb hts hK hF hS (by omega) (by omega) (atype := .int) (ty := .int) rfl (kept_t 43 (by decide +kernel) rfl) hcI (q0 := (46, 0)) rfl ((opS_no hno (show offC 42 0 < 216 by decide +kernel) (Nat.le_refl _)) 693 (by decide) (by decide +kernel)) (a0 := (28, .inl fun k => Int32.ofInt (s1 46 0 k))) rfl (N := 28) (fun cA => z_int (fun _ => i0) cA 28) (by decide) (by decide) (by decide) (Nat.le_of_ble_eq_true rfl) (Nat.le_of_ble_eq_true rfl) (k_at kcX0_ok 32 rfl) (fun _ h => h) ?_
  intro H hF hS
  refine fb_put hx hb hts hK hin hF hS (by omega) hown 215 (42, 0) (by decide) rfl (fun k hk h => vc_u (Nat.lt_of_lt_of_le hk (by decide +kernel)) h (by decide +kernel)) (fs := [.int (Int32.ofInt 0), .int (Int32.ofInt 0), .ref (base + 216), .ref (base + 217), .ref (base + 218), .null]) (opS_s _ _ _) rfl inX0 tyX0 tyX0_ok nmX0 5 (by decide) (kept_t 296 (by decide +kernel) rfl) rfl rfl rfl rfl (Nat.le_of_ble_eq_true rfl) (k_at kcX0_ok 33 rfl) ?_
  intro H locs hF hS
  rw [opS_opS] at hF
  replace hF : FB (wC D cA base) vcC base s1 (opS op (42, 0) (some (.inr (0, [.int (Int32.ofInt 0), .int (Int32.ofInt 0), .ref (base + 216), .ref (base + 217), .ref (base + 218), .ref (base + 693)])))) 694 H := hF
  refine W.eq (g2 := F0 m 68 ls []) rfl ?_
  exact fb_ret hx hb hr hlocks hF hS (fun k _ => fb_close rfl _) (k_at kcX0_ok 34 rfl) rfl rfl
