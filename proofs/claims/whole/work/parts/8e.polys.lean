/-! Powers() and Polynomials() -/
def kcX7 : List mI := [(0, .aload_n 0, 1), (1, .invokespecial 3, 3), (4, .aload_n 0, 1), (5, .iconst 3, 1), (6, .sipush 165, 3), (9, .multianewarray 9 2, 4), (13, .putfield 11, 3), (16, .aload_n 0, 1), (17, .sipush 165, 3), (20, .newarray .int, 2), (22, .putfield 16, 3), (25, .aload_n 0, 1), (26, .iconst 3, 1), (27, .newarray .int, 2), (29, .putfield 20, 3), (32, .iconst 0, 1), (33, .istore_n 1, 1), (34, .iconst 0, 1), (35, .istore_n 2, 1), (36, .iload_n 2, 1), (37, .bipush 8, 2), (39, .if_icmp .gt 87, 3), (42, .iconst 0, 1), (43, .istore_n 3, 1), (44, .iload_n 3, 1), (45, .iload_n 2, 1), (46, .if_icmp .gt 74, 3), (49, .iconst 0, 1), (50, .istore 4, 2), (52, .iload 4, 2), (54, .iload_n 3, 1), (55, .if_icmp .gt 59, 3), (58, .iload_n 1, 1), (59, .sipush 165, 3), (62, .if_icmp .ge 52, 3), (65, .aload_n 0, 1), (66, .getfield 11, 3), (69, .iconst 0, 1), (70, .aaload, 1), (71, .iload_n 1, 1), (72, .iload_n 2, 1), (73, .iload_n 3, 1), (74, .isub, 1), (75, .iastore, 1), (76, .aload_n 0, 1), (77, .getfield 11, 3), (80, .iconst 1, 1), (81, .aaload, 1), (82, .iload_n 1, 1), (83, .iload_n 3, 1), (84, .iload 4, 2), (86, .isub, 1), (87, .iastore, 1), (88, .aload_n 0, 1), (89, .getfield 11, 3), (92, .iconst 2, 1), (93, .aaload, 1), (94, .iload_n 1, 1), (95, .iload 4, 2), (97, .iastore, 1), (98, .aload_n 0, 1), (99, .getfield 16, 3), (102, .iload_n 1, 1), (103, .iload_n 2, 1), (104, .iastore, 1), (105, .iinc 1 1, 3), (108, .iinc 4 1, 3), (111, .goto (-59), 3), (114, .iinc 3 1, 3), (117, .goto (-73), 3), (120, .iinc 2 1, 3), (123, .goto (-87), 3), (126, .return_, 1)]
set_option maxRecDepth 20000 in
theorem kcX7_ok : ∀ e ∈ kcX7, decode cX7_init e.1 = .ok (e.2.1, e.2.2) := fun e he => of_decide_eq_true (List.all_eq_true.mp (show kcX7.all (fun e => decide (decode cX7_init e.1 = .ok (e.2.1, e.2.2))) = true by decide +kernel) e he)
def kcX6 : List mI := [(0, .aload_n 0, 1), (1, .invokespecial 3, 3), (4, .aload_n 0, 1), (5, .bipush 8, 2), (7, .sipush 165, 3), (10, .multianewarray 9 2, 4), (14, .putfield 11, 3), (17, .aload_n 0, 1), (18, .sipush 165, 3), (21, .newarray .int, 2), (23, .putfield 16, 3), (26, .aload_n 0, 1), (27, .iconst 3, 1), (28, .bipush 9, 2), (30, .multianewarray 9 2, 4), (34, .putfield 20, 3), (37, .aload_n 0, 1), (38, .new 23, 3), (41, .dup, 1), (42, .invokespecial 25, 3), (45, .putfield 26, 3), (48, .return_, 1)]
set_option maxRecDepth 20000 in
theorem kcX6_ok : ∀ e ∈ kcX6, decode cX6_init e.1 = .ok (e.2.1, e.2.2) := fun e he => of_decide_eq_true (List.all_eq_true.mp (show kcX6.all (fun e => decide (decode cX6_init e.1 = .ok (e.2.1, e.2.2))) = true by decide +kernel) e he)
set_option maxRecDepth 20000 in
theorem i_X7 (l : Launch) {D : va_G} {cA : Nat → ClassId} {base zq : Nat} {op : Nat × Nat → Option va_E} (hop : op (37, 0) = some (.inr (7, [.null, .null, .null]))) (hno : ∀ k, 209 ≤ k → k < nC → op (vcC k) = none) : iMet l (wC D cA base) vcC base zq yX7_init cX7_init 5 2 6 666 s0 op 209 208 [] s1 (opS op (37, 0) none) 215 := by
  refine i_intro (by decide) rfl (Nat.le_of_ble_eq_true rfl) (fun p e s m args below meth c ls hx hb hml hown hts hin hr hlocks hBK hsz hF hS hl => ?_)
  have hK := hBK.1
  have SC : CallFix p m c cX7_init 5 s args lw_kept RX7 := ⟨hx, hb, hml, hown, hts⟩
  have hown : s.vm.findClass RX7 = some m.cls := hown
  have hcI : s.vm.findClass ("[" ++ FieldType.int.toString) = some (cA 1) := (hK.1.2 0 _ rfl).2
  have hcI2 : s.vm.findClass (FieldType.array .int).toString = some (cA 1) := hcI
  have hcZ : s.vm.findClass ("[" ++ FieldType.boolean.toString) = some (cA 3) := (hK.1.2 2 _ rfl).2
  have hcO : s.vm.findClass ("[" ++ (FieldType.array .int).toString) = some (cA 5) := (hK.1.2 3 _ rfl).2
  refine lv_aload_n hx hb (k_at kcX7_ok 0 rfl) rfl (lv_at hl 0 rfl) ?_
  refine fb_obj SC (kept_t 190 (by decide +kernel) rfl) (kept_t 24 (by decide +kernel) rfl) (kept_t 25 (by decide +kernel) rfl) hl.1 ⟨(Nat.le_of_ble_eq_true rfl), (Nat.le_of_ble_eq_true rfl)⟩ (k_at kcX7_ok 1 rfl) ?_
  refine W.eq (g2 := F0 m 4 ls []) rfl ?_
  refine lv_aload_n hx hb (k_at kcX7_ok 2 rfl) rfl (lv_at hl 0 rfl) ?_
  refine lv_iconst hx hb (k_at kcX7_ok 3 rfl) rfl ?_
  refine lv_sipush hx hb (k_at kcX7_ok 4 rfl) (ofI_16 (by decide) (by decide)) ?_
  refine fb_multi hx hb hts (ao_mv (Vm.Alike.refl _) hBK.2.1) hF hS hown (kept_t 191 (by decide +kernel) rfl) (kept_t 43 (by decide +kernel) rfl) hcO hcI2 (N := 3) (M := 165) (by decide) (by decide) (by decide) (by decide) (by decide) (by decide) (q0 := (38, 0)) rfl (hno 209 (by decide) (by decide +kernel)) rfl (fun j hj => congrArg some (show base + (210 + j) = base + 209 + 1 + j by omega)) (fb_rows (r := 39) (i0 := 0) (by decide +kernel) (fun k h1 h2 => hno k (Nat.le_trans (by decide) h1) h2) (by decide +kernel) (fun j hj => by show Sum.inl (cA 1, 165, Sum.inl fun _ => Int32.ofInt 0) = _; rw [i0]; rfl)) (Nat.le_of_ble_eq_true rfl) (Nat.le_of_ble_eq_true rfl) (k_at kcX7_ok 5 rfl) ?_
  intro H hF hS
  refine fb_put hx hb hts hK hin hF hS (by omega) hown 208 (37, 0) (by decide) rfl (fun k hk h => vc_u (Nat.lt_of_lt_of_le hk (by decide +kernel)) h (by decide +kernel)) (fs := [.null, .null, .null]) hop rfl inX7 tyX7 tyX7_ok nmX7 0 (by decide) (kept_t 192 (by decide +kernel) rfl) rfl rfl rfl rfl (Nat.le_of_ble_eq_true rfl) (k_at kcX7_ok 6 rfl) ?_
  intro H locs hF hS
  replace hF : FB (wC D cA base) vcC base s0 (opS op (37, 0) (some (.inr (7, [.ref (base + 209), .null, .null])))) 213 H := hF
  refine W.eq (g2 := F0 m 16 ls []) rfl ?_
  refine lv_aload_n hx hb (k_at kcX7_ok 7 rfl) rfl (lv_at hl 0 rfl) ?_
  refine lv_sipush hx hb (k_at kcX7_ok 8 rfl) (ofI_16 (by decide) (by decide)) ?_
  refine fb_newa (kd := 1) hx hb hts hK hF hS (by omega) (by omega) (atype := .int) (ty := .int) rfl (kept_t 43 (by decide +kernel) rfl) hcI (q0 := (40, 0)) rfl ((opS_no hno (show offC 37 0 < 209 by decide +kernel) (Nat.le_refl _)) 213 (by decide) (by decide +kernel)) (a0 := (165, .inl fun k => Int32.ofInt (s0 40 0 k))) rfl (N := 165) (fun cA => z_int (fun _ => i0) cA 165) (by decide) (by decide) (by decide) (Nat.le_of_ble_eq_true rfl) (Nat.le_of_ble_eq_true rfl) (k_at kcX7_ok 9 rfl) (fun _ h => h) ?_
  intro H hF hS
  refine fb_put hx hb hts hK hin hF hS (by omega) hown 208 (37, 0) (by decide) rfl (fun k hk h => vc_u (Nat.lt_of_lt_of_le hk (by decide +kernel)) h (by decide +kernel)) (fs := [.ref (base + 209), .null, .null]) (opS_s _ _ _) rfl inX7 tyX7 tyX7_ok nmX7 1 (by decide) (kept_t 194 (by decide +kernel) rfl) rfl rfl rfl rfl (Nat.le_of_ble_eq_true rfl) (k_at kcX7_ok 10 rfl) ?_
  intro H locs hF hS
  rw [opS_opS] at hF
  replace hF : FB (wC D cA base) vcC base s0 (opS op (37, 0) (some (.inr (7, [.ref (base + 209), .ref (base + 213), .null])))) 214 H := hF
  refine W.eq (g2 := F0 m 25 ls []) rfl ?_
  refine lv_aload_n hx hb (k_at kcX7_ok 11 rfl) rfl (lv_at hl 0 rfl) ?_
  refine lv_iconst hx hb (k_at kcX7_ok 12 rfl) rfl ?_
  refine fb_newa (kd := 1) hx hb hts hK hF hS (by omega) (by omega) (atype := .int) (ty := .int) rfl (kept_t 43 (by decide +kernel) rfl) hcI (q0 := (41, 0)) rfl ((opS_no hno (show offC 37 0 < 209 by decide +kernel) (Nat.le_refl _)) 214 (by decide) (by decide +kernel)) (a0 := (3, .inl fun k => Int32.ofInt (s0 41 0 k))) rfl (N := 3) (fun cA => z_int (fun _ => i0) cA 3) (by decide) (by decide) (by decide) (Nat.le_of_ble_eq_true rfl) (Nat.le_of_ble_eq_true rfl) (k_at kcX7_ok 13 rfl) (fun _ h => h) ?_
  intro H hF hS
  refine fb_put hx hb hts hK hin hF hS (by omega) hown 208 (37, 0) (by decide) rfl (fun k hk h => vc_u (Nat.lt_of_lt_of_le hk (by decide +kernel)) h (by decide +kernel)) (fs := [.ref (base + 209), .ref (base + 213), .null]) (opS_s _ _ _) rfl inX7 tyX7 tyX7_ok nmX7 2 (by decide) (kept_t 196 (by decide +kernel) rfl) rfl rfl rfl rfl (Nat.le_of_ble_eq_true rfl) (k_at kcX7_ok 14 rfl) ?_
  intro H locs hF hS
  rw [opS_opS] at hF
  replace hF : FB (wC D cA base) vcC base s0 (opS op (37, 0) (some (.inr (7, [.ref (base + 209), .ref (base + 213), .ref (base + 214)])))) 215 H := hF
  refine W.eq (g2 := F0 m 32 ls []) rfl ?_
  refine lv_iconst hx hb (k_at kcX7_ok 15 rfl) rfl ?_
  refine lv_istore_n hx hb (k_at kcX7_ok 16 rfl) rfl hl (by decide) rfl ?_
  intro ls hl
  refine lv_iconst hx hb (k_at kcX7_ok 17 rfl) rfl ?_
  refine lv_istore_n hx hb (k_at kcX7_ok 18 rfl) rfl hl (by decide) rfl ?_
  intro ls hl
  refine pw_d (op := op) (hno 209 (by decide) (by decide +kernel)) hx hb hts hown hK (by omega) ?_ 9 0 rfl H locs ls (FB_cg hF (fun k _ => pw_open (hno 210 (by decide) (by decide +kernel)) (hno 211 (by decide) (by decide +kernel)) (hno 212 (by decide) (by decide +kernel)) (hno 213 (by decide) (by decide +kernel)) _)) hS (lv_sub hl [2, 1, 0] rfl)
  intro H locs ls hF hS hl
  exact fb_ret hx hb hr hlocks hF hS (fun k hk => pw_shut (hno 210 (by decide) (by decide +kernel)) (hno 211 (by decide) (by decide +kernel)) (hno 212 (by decide) (by decide +kernel)) (hno 213 (by decide) (by decide +kernel)) (pw_vc k (List.mem_range.mpr hk)).1 (pw_vc k (List.mem_range.mpr hk)).2) (k_at kcX7_ok 72 rfl) rfl rfl
set_option maxRecDepth 20000 in
theorem i_X6 (l : Launch) {D : va_G} {cA : Nat → ClassId} {base zq : Nat} {op : Nat × Nat → Option va_E} (hop : op (31, 0) = some (.inr (6, [.null, .null, .null, .null]))) (hno : ∀ k, 194 ≤ k → k < nC → op (vcC k) = none) : iMet l (wC D cA base) vcC base zq yX6_init cX6_init 1 4 21 2192 s0 op 194 193 [] s1 (opS op (31, 0) none) 215 := by
  refine i_intro (by decide) rfl (Nat.le_of_ble_eq_true rfl) (fun p e s m args below meth c ls hx hb hml hown hts hin hr hlocks hBK hsz hF hS hl => ?_)
  have hK := hBK.1
  have SC : CallFix p m c cX6_init 1 s args lw_kept RX6 := ⟨hx, hb, hml, hown, hts⟩
  have hown : s.vm.findClass RX6 = some m.cls := hown
  have hcI : s.vm.findClass ("[" ++ FieldType.int.toString) = some (cA 1) := (hK.1.2 0 _ rfl).2
  have hcI2 : s.vm.findClass (FieldType.array .int).toString = some (cA 1) := hcI
  have hcZ : s.vm.findClass ("[" ++ FieldType.boolean.toString) = some (cA 3) := (hK.1.2 2 _ rfl).2
  have hcO : s.vm.findClass ("[" ++ (FieldType.array .int).toString) = some (cA 5) := (hK.1.2 3 _ rfl).2
  refine lv_aload_n hx hb (k_at kcX6_ok 0 rfl) rfl (lv_at hl 0 rfl) ?_
  refine fb_obj SC (kept_t 183 (by decide +kernel) rfl) (kept_t 24 (by decide +kernel) rfl) (kept_t 25 (by decide +kernel) rfl) hl.1 ⟨(Nat.le_of_ble_eq_true rfl), (Nat.le_of_ble_eq_true rfl)⟩ (k_at kcX6_ok 1 rfl) ?_
  refine W.eq (g2 := F0 m 4 ls []) rfl ?_
  refine lv_aload_n hx hb (k_at kcX6_ok 2 rfl) rfl (lv_at hl 0 rfl) ?_
  refine lv_bipush hx hb (k_at kcX6_ok 3 rfl) (ofI_8 (by decide) (by decide)) ?_
  refine lv_sipush hx hb (k_at kcX6_ok 4 rfl) (ofI_16 (by decide) (by decide)) ?_
  refine fb_multi hx hb hts (ao_mv (Vm.Alike.refl _) hBK.2.1) hF hS hown (kept_t 184 (by decide +kernel) rfl) (kept_t 43 (by decide +kernel) rfl) hcO hcI2 (N := 8) (M := 165) (by decide) (by decide) (by decide) (by decide) (by decide) (by decide) (q0 := (32, 0)) rfl (hno 194 (by decide) (by decide +kernel)) rfl (fun j hj => congrArg some (show base + (195 + j) = base + 194 + 1 + j by omega)) (fb_rows (r := 33) (i0 := 0) (by decide +kernel) (fun k h1 h2 => hno k (Nat.le_trans (by decide) h1) h2) (by decide +kernel) (fun j hj => by show Sum.inl (cA 1, 165, Sum.inl fun _ => Int32.ofInt 0) = _; rw [i0]; rfl)) (Nat.le_of_ble_eq_true rfl) (Nat.le_of_ble_eq_true rfl) (k_at kcX6_ok 5 rfl) ?_
  intro H hF hS
  refine fb_put hx hb hts hK hin hF hS (by omega) hown 193 (31, 0) (by decide) rfl (fun k hk h => vc_u (Nat.lt_of_lt_of_le hk (by decide +kernel)) h (by decide +kernel)) (fs := [.null, .null, .null, .null]) hop rfl inX6 tyX6 tyX6_ok nmX6 0 (by decide) (kept_t 204 (by decide +kernel) rfl) rfl rfl rfl rfl (Nat.le_of_ble_eq_true rfl) (k_at kcX6_ok 6 rfl) ?_
  intro H locs hF hS
  replace hF : FB (wC D cA base) vcC base s0 (opS op (31, 0) (some (.inr (6, [.ref (base + 194), .null, .null, .null])))) 203 H := hF
  refine W.eq (g2 := F0 m 17 ls []) rfl ?_
  refine lv_aload_n hx hb (k_at kcX6_ok 7 rfl) rfl (lv_at hl 0 rfl) ?_
  refine lv_sipush hx hb (k_at kcX6_ok 8 rfl) (ofI_16 (by decide) (by decide)) ?_
  refine fb_newa (kd := 1) hx hb hts hK hF hS (by omega) (by omega) (atype := .int) (ty := .int) rfl (kept_t 43 (by decide +kernel) rfl) hcI (q0 := (34, 0)) rfl ((opS_no hno (show offC 31 0 < 194 by decide +kernel) (Nat.le_refl _)) 203 (by decide) (by decide +kernel)) (a0 := (165, .inl fun k => Int32.ofInt (s0 34 0 k))) rfl (N := 165) (fun cA => z_int (fun _ => i0) cA 165) (by decide) (by decide) (by decide) (Nat.le_of_ble_eq_true rfl) (Nat.le_of_ble_eq_true rfl) (k_at kcX6_ok 9 rfl) (fun _ h => h) ?_
  intro H hF hS
  refine fb_put hx hb hts hK hin hF hS (by omega) hown 193 (31, 0) (by decide) rfl (fun k hk h => vc_u (Nat.lt_of_lt_of_le hk (by decide +kernel)) h (by decide +kernel)) (fs := [.ref (base + 194), .null, .null, .null]) (opS_s _ _ _) rfl inX6 tyX6 tyX6_ok nmX6 1 (by decide) (kept_t 206 (by decide +kernel) rfl) rfl rfl rfl rfl (Nat.le_of_ble_eq_true rfl) (k_at kcX6_ok 10 rfl) ?_
  intro H locs hF hS
  rw [opS_opS] at hF
  replace hF : FB (wC D cA base) vcC base s0 (opS op (31, 0) (some (.inr (6, [.ref (base + 194), .ref (base + 203), .null, .null])))) 204 H := hF
  refine W.eq (g2 := F0 m 26 ls []) rfl ?_
  refine lv_aload_n hx hb (k_at kcX6_ok 11 rfl) rfl (lv_at hl 0 rfl) ?_
  refine lv_iconst hx hb (k_at kcX6_ok 12 rfl) rfl ?_
  refine lv_bipush hx hb (k_at kcX6_ok 13 rfl) (ofI_8 (by decide) (by decide)) ?_
  refine fb_multi hx hb hts (ao_mv (Vm.Alike.refl _) hBK.2.1) hF hS hown (kept_t 184 (by decide +kernel) rfl) (kept_t 43 (by decide +kernel) rfl) hcO hcI2 (N := 3) (M := 9) (by decide) (by decide) (by decide) (by decide) (by decide) (by decide) (q0 := (35, 0)) rfl ((opS_no hno (show offC 31 0 < 194 by decide +kernel) (Nat.le_refl _)) 204 (by decide) (by decide +kernel)) rfl (fun j hj => congrArg some (show base + (205 + j) = base + 204 + 1 + j by omega)) (fb_rows (r := 36) (i0 := 0) (by decide +kernel) (fun k h1 h2 => (opS_no hno (show offC 31 0 < 194 by decide +kernel) (Nat.le_refl _)) k (Nat.le_trans (by decide) h1) h2) (by decide +kernel) (fun j hj => by show Sum.inl (cA 1, 9, Sum.inl fun _ => Int32.ofInt 0) = _; rw [i0]; rfl)) (Nat.le_of_ble_eq_true rfl) (Nat.le_of_ble_eq_true rfl) (k_at kcX6_ok 14 rfl) ?_
  intro H hF hS
  refine fb_put hx hb hts hK hin hF hS (by omega) hown 193 (31, 0) (by decide) rfl (fun k hk h => vc_u (Nat.lt_of_lt_of_le hk (by decide +kernel)) h (by decide +kernel)) (fs := [.ref (base + 194), .ref (base + 203), .null, .null]) (opS_s _ _ _) rfl inX6 tyX6 tyX6_ok nmX6 2 (by decide) (kept_t 207 (by decide +kernel) rfl) rfl rfl rfl rfl (Nat.le_of_ble_eq_true rfl) (k_at kcX6_ok 15 rfl) ?_
  intro H locs hF hS
  rw [opS_opS] at hF
  replace hF : FB (wC D cA base) vcC base s0 (opS op (31, 0) (some (.inr (6, [.ref (base + 194), .ref (base + 203), .ref (base + 204), .null])))) 208 H := hF
  refine W.eq (g2 := F0 m 37 ls []) rfl ?_
  refine lv_aload_n hx hb (k_at kcX6_ok 16 rfl) rfl (lv_at hl 0 rfl) ?_
  refine fb_new hx hb hts hK hF hS (by omega) (by omega) hown (ci := 7) rfl inX7 tyX7 tyX7_ok (kept_t 185 (by decide +kernel) rfl) (kept_t 186 (by decide +kernel) rfl) (kept_t 8 (by decide +kernel) rfl) (q0 := (37, 0)) rfl (fun k hk => vcn_ne hk (by decide +kernel) (by decide +kernel)) (fs := [.null, .null, .null]) (by decide +kernel) (Nat.le_of_ble_eq_true rfl) (Nat.le_of_ble_eq_true rfl) (k_at kcX6_ok 17 rfl) ?_
  intro H hF hS
  refine lv_dup hx hb (k_at kcX6_ok 18 rfl) rfl ?_
  refine fb_callI (av := []) SC hBK (i_X7 l (opS_s _ _ _) (opS_no (opS_no hno (show offC 31 0 < 194 by decide +kernel) (Nat.le_refl _)) (show offC 37 0 < 209 by decide +kernel) (by decide))) (kept_t 187 (by decide +kernel) rfl) (kept_t 8 (by decide +kernel) rfl) (kept_t 189 (by decide +kernel) rfl) (kept_t 188 (by decide +kernel) rfl) rfl (by decide +kernel) rfl ⟨(Nat.le_of_ble_eq_true rfl), (Nat.le_of_ble_eq_true rfl)⟩ hF hS (by omega) hl.1 (Nat.le_of_ble_eq_true rfl) ⟨(Nat.le_of_ble_eq_true rfl), (Nat.le_of_ble_eq_true rfl)⟩ (k_at kcX6_ok 19 rfl) ?_
  intro H locs hF hS
  rw [opS_opS, opS_none (q := (37, 0)) ((opS_no hno (show offC 31 0 < 194 by decide +kernel) (Nat.le_refl _)) 208 (by decide) (by decide +kernel))] at hF
  refine fb_put hx hb hts hK hin hF hS (by omega) hown 193 (31, 0) (by decide) rfl (fun k hk h => vc_u (Nat.lt_of_lt_of_le hk (by decide +kernel)) h (by decide +kernel)) (fs := [.ref (base + 194), .ref (base + 203), .ref (base + 204), .null]) (opS_s _ _ _) rfl inX6 tyX6 tyX6_ok nmX6 3 (by decide) (kept_t 208 (by decide +kernel) rfl) rfl rfl rfl rfl (Nat.le_of_ble_eq_true rfl) (k_at kcX6_ok 20 rfl) ?_
  intro H locs hF hS
  rw [opS_opS] at hF
  replace hF : FB (wC D cA base) vcC base s1 (opS op (31, 0) (some (.inr (6, [.ref (base + 194), .ref (base + 203), .ref (base + 204), .ref (base + 208)])))) 215 H := hF
  refine W.eq (g2 := F0 m 48 ls []) rfl ?_
  exact fb_ret hx hb hr hlocks hF hS (fun k _ => fb_close rfl _) (k_at kcX6_ok 21 rfl) rfl rfl
