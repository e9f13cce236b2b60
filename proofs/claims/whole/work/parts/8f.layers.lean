/-! the seven layers -/
def kcX3 : List mI := [(0, .aload_n 0, 1), (1, .invokespecial 3, 3), (4, .aload_n 0, 1), (5, .iload_n 1, 1), (6, .putfield 9, 3), (9, .aload_n 0, 1), (10, .iload_n 1, 1), (11, .invokestatic 15, 3), (14, .putfield 21, 3), (17, .aload_n 0, 1), (18, .iload_n 1, 1), (19, .ifCond .lt 19, 3), (22, .iload_n 1, 1), (23, .getstatic 24, 3), (26, .arraylength, 1), (27, .if_icmp .ge 11, 3), (30, .getstatic 24, 3), (33, .iload_n 1, 1), (34, .iaload, 1), (35, .goto 4, 3), (38, .iconst 0, 1), (39, .putfield 28, 3), (42, .aload_n 0, 1), (43, .aload_n 0, 1), (44, .getfield 28, 3), (47, .bipush 6, 2), (49, .multianewarray 31 2, 4), (53, .putfield 33, 3), (56, .aload_n 0, 1), (57, .aload_n 0, 1), (58, .getfield 28, 3), (61, .aload_n 0, 1), (62, .getfield 21, 3), (65, .multianewarray 31 2, 4), (69, .putfield 36, 3), (72, .aload_n 0, 1), (73, .aload_n 0, 1), (74, .getfield 28, 3), (77, .newarray .int, 2), (79, .putfield 39, 3), (82, .aload_n 0, 1), (83, .aload_n 0, 1), (84, .getfield 21, 3), (87, .newarray .int, 2), (89, .putfield 42, 3), (92, .aload_n 0, 1), (93, .aload_n 0, 1), (94, .getfield 21, 3), (97, .aload_n 0, 1), (98, .getfield 21, 3), (101, .multianewarray 31 2, 4), (105, .putfield 45, 3), (108, .aload_n 0, 1), (109, .aload_n 0, 1), (110, .getfield 21, 3), (113, .aload_n 0, 1), (114, .getfield 21, 3), (117, .multianewarray 31 2, 4), (121, .putfield 48, 3), (124, .aload_n 0, 1), (125, .aload_n 0, 1), (126, .getfield 21, 3), (129, .newarray .int, 2), (131, .putfield 51, 3), (134, .aload_n 0, 1), (135, .aload_n 0, 1), (136, .getfield 21, 3), (139, .newarray .int, 2), (141, .putfield 54, 3), (144, .aload_n 0, 1), (145, .aload_n 0, 1), (146, .getfield 21, 3), (149, .newarray .int, 2), (151, .putfield 57, 3), (154, .return_, 1)]
set_option maxRecDepth 20000 in
theorem kcX3_ok : ∀ e ∈ kcX3, decode cX3_init e.1 = .ok (e.2.1, e.2.2) := fun e he => of_decide_eq_true (List.all_eq_true.mp (show kcX3.all (fun e => decide (decode cX3_init e.1 = .ok (e.2.1, e.2.2))) = true by decide +kernel) e he)
set_option maxRecDepth 20000 in
theorem i_X3_0 (l : Launch) {D : va_G} {cA : Nat → ClassId} {base zq : Nat} {op : Nat × Nat → Option va_E} (hop : op (47, 0) = some (.inr (3, [.int (Int32.ofInt 0), .int (Int32.ofInt 0), .int (Int32.ofInt 0), .int (Int32.ofInt 0), .null, .null, .null, .int (Int32.ofInt 0), .null, .null, .null, .null, .null, .null]))) (hno : ∀ k, 220 ≤ k → k < nC → op (vcC k) = none) : iMet l (wC D cA base) vcC base zq yX3_init cX3_init 2 4 13 18 s1 op 220 219 [.int (Int32.ofInt 0)] s1 (opS op (47, 0) none) 233 := by
  refine i_intro (by decide) rfl (Nat.le_of_ble_eq_true rfl) (fun p e s m args below meth c ls hx hb hml hown hts hin hr hlocks hBK hsz hF hS hl => ?_)
  have hK := hBK.1
  have SC : CallFix p m c cX3_init 2 s args lw_kept RX3 := ⟨hx, hb, hml, hown, hts⟩
  have hown : s.vm.findClass RX3 = some m.cls := hown
  have hcI : s.vm.findClass ("[" ++ FieldType.int.toString) = some (cA 1) := (hK.1.2 0 _ rfl).2
  have hcI2 : s.vm.findClass (FieldType.array .int).toString = some (cA 1) := hcI
  have hcZ : s.vm.findClass ("[" ++ FieldType.boolean.toString) = some (cA 3) := (hK.1.2 2 _ rfl).2
  have hcO : s.vm.findClass ("[" ++ (FieldType.array .int).toString) = some (cA 5) := (hK.1.2 3 _ rfl).2
  refine lv_aload_n hx hb (k_at kcX3_ok 0 rfl) rfl (lv_at hl 0 rfl) ?_
  refine fb_obj SC (kept_t 231 (by decide +kernel) rfl) (kept_t 24 (by decide +kernel) rfl) (kept_t 25 (by decide +kernel) rfl) hl.1 ⟨(Nat.le_of_ble_eq_true rfl), (Nat.le_of_ble_eq_true rfl)⟩ (k_at kcX3_ok 1 rfl) ?_
  refine W.eq (g2 := F0 m 4 ls []) rfl ?_
  refine lv_aload_n hx hb (k_at kcX3_ok 2 rfl) rfl (lv_at hl 0 rfl) ?_
  refine lv_iload_n hx hb (k_at kcX3_ok 3 rfl) rfl (lv_at hl 1 rfl) ?_
  refine fb_put hx hb hts hK hin hF hS (by omega) hown 219 (47, 0) (by decide) rfl (fun k hk h => vc_u (Nat.lt_of_lt_of_le hk (by decide +kernel)) h (by decide +kernel)) (fs := [.int (Int32.ofInt 0), .int (Int32.ofInt 0), .int (Int32.ofInt 0), .int (Int32.ofInt 0), .null, .null, .null, .int (Int32.ofInt 0), .null, .null, .null, .null, .null, .null]) hop rfl inX3 tyX3 tyX3_ok nmX3 0 (by decide) (kept_t 238 (by decide +kernel) rfl) rfl rfl rfl rfl (Nat.le_of_ble_eq_true rfl) (k_at kcX3_ok 4 rfl) ?_
  intro H locs hF hS
  replace hF : FB (wC D cA base) vcC base s1 (opS op (47, 0) (some (.inr (3, [.int (Int32.ofInt 0), .int (Int32.ofInt 0), .int (Int32.ofInt 0), .int (Int32.ofInt 0), .null, .null, .null, .int (Int32.ofInt 0), .null, .null, .null, .null, .null, .null])))) 220 H := hF
  refine W.eq (g2 := F0 m 9 ls []) rfl ?_
  refine lv_aload_n hx hb (k_at kcX3_ok 5 rfl) rfl (lv_at hl 0 rfl) ?_
  refine lv_iload_n hx hb (k_at kcX3_ok 6 rfl) rfl (lv_at hl 1 rfl) ?_
  refine fb_width SC hK (kept_t 232 (by decide +kernel) rfl) hF hS (by omega) (by omega) hl.1 (Nat.le_of_ble_eq_true rfl) ⟨(Nat.le_of_ble_eq_true rfl), (Nat.le_of_ble_eq_true rfl)⟩ ⟨(Nat.le_of_ble_eq_true rfl), (Nat.le_of_ble_eq_true rfl)⟩ (z := 0) (v := 1) (by decide) (by decide +kernel) (k_at kcX3_ok 7 rfl) ?_
  intro H locs hF hS
  refine fb_put hx hb hts hK hin hF hS (by omega) hown 219 (47, 0) (by decide) rfl (fun k hk h => vc_u (Nat.lt_of_lt_of_le hk (by decide +kernel)) h (by decide +kernel)) (fs := [.int (Int32.ofInt 0), .int (Int32.ofInt 0), .int (Int32.ofInt 0), .int (Int32.ofInt 0), .null, .null, .null, .int (Int32.ofInt 0), .null, .null, .null, .null, .null, .null]) (opS_s _ _ _) rfl inX3 tyX3 tyX3_ok nmX3 1 (by decide) (kept_t 240 (by decide +kernel) rfl) rfl rfl rfl rfl (Nat.le_of_ble_eq_true rfl) (k_at kcX3_ok 8 rfl) ?_
  intro H locs hF hS
  rw [opS_opS] at hF
  replace hF : FB (wC D cA base) vcC base s1 (opS op (47, 0) (some (.inr (3, [.int (Int32.ofInt 0), .int (Int32.ofInt 1), .int (Int32.ofInt 0), .int (Int32.ofInt 0), .null, .null, .null, .int (Int32.ofInt 0), .null, .null, .null, .null, .null, .null])))) 220 H := hF
  refine W.eq (g2 := F0 m 17 ls []) rfl ?_
  refine lv_aload_n hx hb (k_at kcX3_ok 9 rfl) rfl (lv_at hl 0 rfl) ?_
  refine lv_iload_n hx hb (k_at kcX3_ok 10 rfl) rfl (lv_at hl 1 rfl) ?_
  refine lv_if_lt hx hb (tgt := 38) (k_at kcX3_ok 11 rfl) rfl (fun h => absurd h (by decide)) (fun _ => ?_)
  refine lv_iload_n hx hb (k_at kcX3_ok 12 rfl) rfl (lv_at hl 1 rfl) ?_
  refine fb_gets hx hb hBK hS hown (k_at kcX3_ok 13 rfl) ?_
  refine fb_zlen hx hb hBK hS (by omega) (k_at kcX3_ok 14 rfl) ?_
  refine lv_icmp_ge hx hb (tgt := 38) (k_at kcX3_ok 15 rfl) rfl (fun h => absurd h (by decide)) (fun _ => ?_)
  refine fb_gets hx hb hBK hS hown (k_at kcX3_ok 16 rfl) ?_
  refine lv_iload_n hx hb (k_at kcX3_ok 17 rfl) rfl (lv_at hl 1 rfl) ?_
  refine fb_zald hx hb hBK hS (by omega) (z := 0) (v := 1) (j := 0) (iin (a := 0) (by decide) (by decide)) (by decide) (by decide) (k_at kcX3_ok 18 rfl) ?_
  refine lv_goto hx hb (tgt := 39) (k_at kcX3_ok 19 rfl) rfl ?_
  refine fb_put hx hb hts hK hin hF hS (by omega) hown 219 (47, 0) (by decide) rfl (fun k hk h => vc_u (Nat.lt_of_lt_of_le hk (by decide +kernel)) h (by decide +kernel)) (fs := [.int (Int32.ofInt 0), .int (Int32.ofInt 1), .int (Int32.ofInt 0), .int (Int32.ofInt 0), .null, .null, .null, .int (Int32.ofInt 0), .null, .null, .null, .null, .null, .null]) (opS_s _ _ _) rfl inX3 tyX3 tyX3_ok nmX3 2 (by decide) (kept_t 242 (by decide +kernel) rfl) rfl rfl rfl rfl (Nat.le_of_ble_eq_true rfl) (k_at kcX3_ok 21 rfl) ?_
  intro H locs hF hS
  rw [opS_opS] at hF
  replace hF : FB (wC D cA base) vcC base s1 (opS op (47, 0) (some (.inr (3, [.int (Int32.ofInt 0), .int (Int32.ofInt 1), .int (Int32.ofInt 1), .int (Int32.ofInt 0), .null, .null, .null, .int (Int32.ofInt 0), .null, .null, .null, .null, .null, .null])))) 220 H := hF
  refine W.eq (g2 := F0 m 42 ls []) rfl ?_
  refine lv_aload_n hx hb (k_at kcX3_ok 22 rfl) rfl (lv_at hl 0 rfl) ?_
  refine lv_aload_n hx hb (k_at kcX3_ok 23 rfl) rfl (lv_at hl 0 rfl) ?_
  refine fb_get hx hb hts hK hF hown 219 (47, 0) (by decide) rfl (fs := [.int (Int32.ofInt 0), .int (Int32.ofInt 1), .int (Int32.ofInt 1), .int (Int32.ofInt 0), .null, .null, .null, .int (Int32.ofInt 0), .null, .null, .null, .null, .null, .null]) (opS_s _ _ _) rfl inX3 2 (by decide) (kept_t 242 (by decide +kernel) rfl) rfl (k_at kcX3_ok 24 rfl) ?_
  refine lv_bipush hx hb (k_at kcX3_ok 25 rfl) (ofI_8 (by decide) (by decide)) ?_
  refine fb_multi hx hb hts (ao_mv (Vm.Alike.refl _) hBK.2.1) hF hS hown (kept_t 237 (by decide +kernel) rfl) (kept_t 43 (by decide +kernel) rfl) hcO hcI2 (N := 1) (M := 6) (by decide) (by decide) (by decide) (by decide) (by decide) (by decide) (q0 := (48, 0)) rfl ((opS_no hno (show offC 47 0 < 220 by decide +kernel) (Nat.le_refl _)) 220 (by decide) (by decide +kernel)) rfl (fun j hj => congrArg some (show base + offC 49 (64 * 0 + j) = base + 220 + 1 + j by rw [off49 (by omega)]; show base + (221 + j) = _; omega)) (fb_rows (r := 49) (i0 := 64 * 0) (by decide +kernel) (fun k h1 h2 => (opS_no hno (show offC 47 0 < 220 by decide +kernel) (Nat.le_refl _)) k (Nat.le_trans (by decide) h1) h2) (by decide +kernel) (fun j hj => by show Sum.inl (cA 1, 6, Sum.inl fun _ => Int32.ofInt 0) = _; rw [i0]; rfl)) (Nat.le_of_ble_eq_true rfl) (Nat.le_of_ble_eq_true rfl) (k_at kcX3_ok 26 rfl) ?_
  intro H hF hS
  refine fb_put hx hb hts hK hin hF hS (by omega) hown 219 (47, 0) (by decide) rfl (fun k hk h => vc_u (Nat.lt_of_lt_of_le hk (by decide +kernel)) h (by decide +kernel)) (fs := [.int (Int32.ofInt 0), .int (Int32.ofInt 1), .int (Int32.ofInt 1), .int (Int32.ofInt 0), .null, .null, .null, .int (Int32.ofInt 0), .null, .null, .null, .null, .null, .null]) (opS_s _ _ _) rfl inX3 tyX3 tyX3_ok nmX3 4 (by decide) (kept_t 246 (by decide +kernel) rfl) rfl rfl rfl rfl (Nat.le_of_ble_eq_true rfl) (k_at kcX3_ok 27 rfl) ?_
  intro H locs hF hS
  rw [opS_opS] at hF
  replace hF : FB (wC D cA base) vcC base s1 (opS op (47, 0) (some (.inr (3, [.int (Int32.ofInt 0), .int (Int32.ofInt 1), .int (Int32.ofInt 1), .int (Int32.ofInt 0), .ref (base + 220), .null, .null, .int (Int32.ofInt 0), .null, .null, .null, .null, .null, .null])))) 222 H := hF
  refine W.eq (g2 := F0 m 56 ls []) rfl ?_
  refine lv_aload_n hx hb (k_at kcX3_ok 28 rfl) rfl (lv_at hl 0 rfl) ?_
  refine lv_aload_n hx hb (k_at kcX3_ok 29 rfl) rfl (lv_at hl 0 rfl) ?_
  refine fb_get hx hb hts hK hF hown 219 (47, 0) (by decide) rfl (fs := [.int (Int32.ofInt 0), .int (Int32.ofInt 1), .int (Int32.ofInt 1), .int (Int32.ofInt 0), .ref (base + 220), .null, .null, .int (Int32.ofInt 0), .null, .null, .null, .null, .null, .null]) (opS_s _ _ _) rfl inX3 2 (by decide) (kept_t 242 (by decide +kernel) rfl) rfl (k_at kcX3_ok 30 rfl) ?_
  refine lv_aload_n hx hb (k_at kcX3_ok 31 rfl) rfl (lv_at hl 0 rfl) ?_
  refine fb_get hx hb hts hK hF hown 219 (47, 0) (by decide) rfl (fs := [.int (Int32.ofInt 0), .int (Int32.ofInt 1), .int (Int32.ofInt 1), .int (Int32.ofInt 0), .ref (base + 220), .null, .null, .int (Int32.ofInt 0), .null, .null, .null, .null, .null, .null]) (opS_s _ _ _) rfl inX3 1 (by decide) (kept_t 240 (by decide +kernel) rfl) rfl (k_at kcX3_ok 32 rfl) ?_
  refine fb_multi hx hb hts (ao_mv (Vm.Alike.refl _) hBK.2.1) hF hS hown (kept_t 237 (by decide +kernel) rfl) (kept_t 43 (by decide +kernel) rfl) hcO hcI2 (N := 1) (M := 1) (by decide) (by decide) (by decide) (by decide) (by decide) (by decide) (q0 := (50, 0)) rfl ((opS_no hno (show offC 47 0 < 220 by decide +kernel) (Nat.le_refl _)) 222 (by decide) (by decide +kernel)) rfl (fun j hj => congrArg some (show base + offC 51 (64 * 0 + j) = base + 222 + 1 + j by rw [off51 (by omega)]; show base + (223 + j) = _; omega)) (fb_rows (r := 51) (i0 := 64 * 0) (by decide +kernel) (fun k h1 h2 => (opS_no hno (show offC 47 0 < 220 by decide +kernel) (Nat.le_refl _)) k (Nat.le_trans (by decide) h1) h2) (by decide +kernel) (fun j hj => by show Sum.inl (cA 1, gwd ((64 * 0 + j) / 64), Sum.inl fun _ => Int32.ofInt 0) = _; rw [show (64 * 0 + j) / 64 = 0 from by omega, i0]; rfl)) (Nat.le_of_ble_eq_true rfl) (Nat.le_of_ble_eq_true rfl) (k_at kcX3_ok 33 rfl) ?_
  intro H hF hS
  refine fb_put hx hb hts hK hin hF hS (by omega) hown 219 (47, 0) (by decide) rfl (fun k hk h => vc_u (Nat.lt_of_lt_of_le hk (by decide +kernel)) h (by decide +kernel)) (fs := [.int (Int32.ofInt 0), .int (Int32.ofInt 1), .int (Int32.ofInt 1), .int (Int32.ofInt 0), .ref (base + 220), .null, .null, .int (Int32.ofInt 0), .null, .null, .null, .null, .null, .null]) (opS_s _ _ _) rfl inX3 tyX3 tyX3_ok nmX3 5 (by decide) (kept_t 248 (by decide +kernel) rfl) rfl rfl rfl rfl (Nat.le_of_ble_eq_true rfl) (k_at kcX3_ok 34 rfl) ?_
  intro H locs hF hS
  rw [opS_opS] at hF
  replace hF : FB (wC D cA base) vcC base s1 (opS op (47, 0) (some (.inr (3, [.int (Int32.ofInt 0), .int (Int32.ofInt 1), .int (Int32.ofInt 1), .int (Int32.ofInt 0), .ref (base + 220), .ref (base + 222), .null, .int (Int32.ofInt 0), .null, .null, .null, .null, .null, .null])))) 224 H := hF
  refine W.eq (g2 := F0 m 72 ls []) rfl ?_
  refine lv_aload_n hx hb (k_at kcX3_ok 35 rfl) rfl (lv_at hl 0 rfl) ?_
  refine lv_aload_n hx hb (k_at kcX3_ok 36 rfl) rfl (lv_at hl 0 rfl) ?_
  refine fb_get hx hb hts hK hF hown 219 (47, 0) (by decide) rfl (fs := [.int (Int32.ofInt 0), .int (Int32.ofInt 1), .int (Int32.ofInt 1), .int (Int32.ofInt 0), .ref (base + 220), .ref (base + 222), .null, .int (Int32.ofInt 0), .null, .null, .null, .null, .null, .null]) (opS_s _ _ _) rfl inX3 2 (by decide) (kept_t 242 (by decide +kernel) rfl) rfl (k_at kcX3_ok 37 rfl) ?_
  refine fb_newa (kd := 1) hx hb hts hK hF hS (by omega) (by omega) (atype := .int) (ty := .int) rfl (kept_t 43 (by decide +kernel) rfl) hcI (q0 := (52, 0)) rfl ((opS_no hno (show offC 47 0 < 220 by decide +kernel) (Nat.le_refl _)) 224 (by decide) (by decide +kernel)) (a0 := (1, .inl fun k => Int32.ofInt (s1 52 0 k))) rfl (N := 1) (fun cA => z_int (fun _ => i0) cA 1) (by decide) (by decide) (by decide) (Nat.le_of_ble_eq_true rfl) (Nat.le_of_ble_eq_true rfl) (k_at kcX3_ok 38 rfl) (fun _ h => h) ?_
  intro H hF hS
  refine fb_put hx hb hts hK hin hF hS (by omega) hown 219 (47, 0) (by decide) rfl (fun k hk h => vc_u (Nat.lt_of_lt_of_le hk (by decide +kernel)) h (by decide +kernel)) (fs := [.int (Int32.ofInt 0), .int (Int32.ofInt 1), .int (Int32.ofInt 1), .int (Int32.ofInt 0), .ref (base + 220), .ref (base + 222), .null, .int (Int32.ofInt 0), .null, .null, .null, .null, .null, .null]) (opS_s _ _ _) rfl inX3 tyX3 tyX3_ok nmX3 6 (by decide) (kept_t 250 (by decide +kernel) rfl) rfl rfl rfl rfl (Nat.le_of_ble_eq_true rfl) (k_at kcX3_ok 39 rfl) ?_
  intro H locs hF hS
  rw [opS_opS] at hF
  replace hF : FB (wC D cA base) vcC base s1 (opS op (47, 0) (some (.inr (3, [.int (Int32.ofInt 0), .int (Int32.ofInt 1), .int (Int32.ofInt 1), .int (Int32.ofInt 0), .ref (base + 220), .ref (base + 222), .ref (base + 224), .int (Int32.ofInt 0), .null, .null, .null, .null, .null, .null])))) 225 H := hF
  refine W.eq (g2 := F0 m 82 ls []) rfl ?_
  refine lv_aload_n hx hb (k_at kcX3_ok 40 rfl) rfl (lv_at hl 0 rfl) ?_
  refine lv_aload_n hx hb (k_at kcX3_ok 41 rfl) rfl (lv_at hl 0 rfl) ?_
  refine fb_get hx hb hts hK hF hown 219 (47, 0) (by decide) rfl (fs := [.int (Int32.ofInt 0), .int (Int32.ofInt 1), .int (Int32.ofInt 1), .int (Int32.ofInt 0), .ref (base + 220), .ref (base + 222), .ref (base + 224), .int (Int32.ofInt 0), .null, .null, .null, .null, .null, .null]) (opS_s _ _ _) rfl inX3 1 (by decide) (kept_t 240 (by decide +kernel) rfl) rfl (k_at kcX3_ok 42 rfl) ?_
  refine fb_newa (kd := 1) hx hb hts hK hF hS (by omega) (by omega) (atype := .int) (ty := .int) rfl (kept_t 43 (by decide +kernel) rfl) hcI (q0 := (53, 0)) rfl ((opS_no hno (show offC 47 0 < 220 by decide +kernel) (Nat.le_refl _)) 225 (by decide) (by decide +kernel)) (a0 := (1, .inl fun k => Int32.ofInt (s1 53 0 k))) rfl (N := 1) (fun cA => z_int (fun _ => i0) cA 1) (by decide) (by decide) (by decide) (Nat.le_of_ble_eq_true rfl) (Nat.le_of_ble_eq_true rfl) (k_at kcX3_ok 43 rfl) (fun _ h => h) ?_
  intro H hF hS
  refine fb_put hx hb hts hK hin hF hS (by omega) hown 219 (47, 0) (by decide) rfl (fun k hk h => vc_u (Nat.lt_of_lt_of_le hk (by decide +kernel)) h (by decide +kernel)) (fs := [.int (Int32.ofInt 0), .int (Int32.ofInt 1), .int (Int32.ofInt 1), .int (Int32.ofInt 0), .ref (base + 220), .ref (base + 222), .ref (base + 224), .int (Int32.ofInt 0), .null, .null, .null, .null, .null, .null]) (opS_s _ _ _) rfl inX3 tyX3 tyX3_ok nmX3 8 (by decide) (kept_t 253 (by decide +kernel) rfl) rfl rfl rfl rfl (Nat.le_of_ble_eq_true rfl) (k_at kcX3_ok 44 rfl) ?_
  intro H locs hF hS
  rw [opS_opS] at hF
  replace hF : FB (wC D cA base) vcC base s1 (opS op (47, 0) (some (.inr (3, [.int (Int32.ofInt 0), .int (Int32.ofInt 1), .int (Int32.ofInt 1), .int (Int32.ofInt 0), .ref (base + 220), .ref (base + 222), .ref (base + 224), .int (Int32.ofInt 0), .ref (base + 225), .null, .null, .null, .null, .null])))) 226 H := hF
  refine W.eq (g2 := F0 m 92 ls []) rfl ?_
  refine lv_aload_n hx hb (k_at kcX3_ok 45 rfl) rfl (lv_at hl 0 rfl) ?_
  refine lv_aload_n hx hb (k_at kcX3_ok 46 rfl) rfl (lv_at hl 0 rfl) ?_
  refine fb_get hx hb hts hK hF hown 219 (47, 0) (by decide) rfl (fs := [.int (Int32.ofInt 0), .int (Int32.ofInt 1), .int (Int32.ofInt 1), .int (Int32.ofInt 0), .ref (base + 220), .ref (base + 222), .ref (base + 224), .int (Int32.ofInt 0), .ref (base + 225), .null, .null, .null, .null, .null]) (opS_s _ _ _) rfl inX3 1 (by decide) (kept_t 240 (by decide +kernel) rfl) rfl (k_at kcX3_ok 47 rfl) ?_
  refine lv_aload_n hx hb (k_at kcX3_ok 48 rfl) rfl (lv_at hl 0 rfl) ?_
  refine fb_get hx hb hts hK hF hown 219 (47, 0) (by decide) rfl (fs := [.int (Int32.ofInt 0), .int (Int32.ofInt 1), .int (Int32.ofInt 1), .int (Int32.ofInt 0), .ref (base + 220), .ref (base + 222), .ref (base + 224), .int (Int32.ofInt 0), .ref (base + 225), .null, .null, .null, .null, .null]) (opS_s _ _ _) rfl inX3 1 (by decide) (kept_t 240 (by decide +kernel) rfl) rfl (k_at kcX3_ok 49 rfl) ?_
  refine fb_multi hx hb hts (ao_mv (Vm.Alike.refl _) hBK.2.1) hF hS hown (kept_t 237 (by decide +kernel) rfl) (kept_t 43 (by decide +kernel) rfl) hcO hcI2 (N := 1) (M := 1) (by decide) (by decide) (by decide) (by decide) (by decide) (by decide) (q0 := (54, 0)) rfl ((opS_no hno (show offC 47 0 < 220 by decide +kernel) (Nat.le_refl _)) 226 (by decide) (by decide +kernel)) rfl (fun j hj => congrArg some (show base + offC 55 (64 * 0 + j) = base + 226 + 1 + j by rw [off55 (by omega)]; show base + (227 + j) = _; omega)) (fb_rows (r := 55) (i0 := 64 * 0) (by decide +kernel) (fun k h1 h2 => (opS_no hno (show offC 47 0 < 220 by decide +kernel) (Nat.le_refl _)) k (Nat.le_trans (by decide) h1) h2) (by decide +kernel) (fun j hj => by show Sum.inl (cA 1, gwd ((64 * 0 + j) / 64), Sum.inl fun _ => Int32.ofInt 0) = _; rw [show (64 * 0 + j) / 64 = 0 from by omega, i0]; rfl)) (Nat.le_of_ble_eq_true rfl) (Nat.le_of_ble_eq_true rfl) (k_at kcX3_ok 50 rfl) ?_
  intro H hF hS
  refine fb_put hx hb hts hK hin hF hS (by omega) hown 219 (47, 0) (by decide) rfl (fun k hk h => vc_u (Nat.lt_of_lt_of_le hk (by decide +kernel)) h (by decide +kernel)) (fs := [.int (Int32.ofInt 0), .int (Int32.ofInt 1), .int (Int32.ofInt 1), .int (Int32.ofInt 0), .ref (base + 220), .ref (base + 222), .ref (base + 224), .int (Int32.ofInt 0), .ref (base + 225), .null, .null, .null, .null, .null]) (opS_s _ _ _) rfl inX3 tyX3 tyX3_ok nmX3 9 (by decide) (kept_t 254 (by decide +kernel) rfl) rfl rfl rfl rfl (Nat.le_of_ble_eq_true rfl) (k_at kcX3_ok 51 rfl) ?_
  intro H locs hF hS
  rw [opS_opS] at hF
  replace hF : FB (wC D cA base) vcC base s1 (opS op (47, 0) (some (.inr (3, [.int (Int32.ofInt 0), .int (Int32.ofInt 1), .int (Int32.ofInt 1), .int (Int32.ofInt 0), .ref (base + 220), .ref (base + 222), .ref (base + 224), .int (Int32.ofInt 0), .ref (base + 225), .ref (base + 226), .null, .null, .null, .null])))) 228 H := hF
  refine W.eq (g2 := F0 m 108 ls []) rfl ?_
  refine lv_aload_n hx hb (k_at kcX3_ok 52 rfl) rfl (lv_at hl 0 rfl) ?_
  refine lv_aload_n hx hb (k_at kcX3_ok 53 rfl) rfl (lv_at hl 0 rfl) ?_
  refine fb_get hx hb hts hK hF hown 219 (47, 0) (by decide) rfl (fs := [.int (Int32.ofInt 0), .int (Int32.ofInt 1), .int (Int32.ofInt 1), .int (Int32.ofInt 0), .ref (base + 220), .ref (base + 222), .ref (base + 224), .int (Int32.ofInt 0), .ref (base + 225), .ref (base + 226), .null, .null, .null, .null]) (opS_s _ _ _) rfl inX3 1 (by decide) (kept_t 240 (by decide +kernel) rfl) rfl (k_at kcX3_ok 54 rfl) ?_
  refine lv_aload_n hx hb (k_at kcX3_ok 55 rfl) rfl (lv_at hl 0 rfl) ?_
  refine fb_get hx hb hts hK hF hown 219 (47, 0) (by decide) rfl (fs := [.int (Int32.ofInt 0), .int (Int32.ofInt 1), .int (Int32.ofInt 1), .int (Int32.ofInt 0), .ref (base + 220), .ref (base + 222), .ref (base + 224), .int (Int32.ofInt 0), .ref (base + 225), .ref (base + 226), .null, .null, .null, .null]) (opS_s _ _ _) rfl inX3 1 (by decide) (kept_t 240 (by decide +kernel) rfl) rfl (k_at kcX3_ok 56 rfl) ?_
  refine fb_multi hx hb hts (ao_mv (Vm.Alike.refl _) hBK.2.1) hF hS hown (kept_t 237 (by decide +kernel) rfl) (kept_t 43 (by decide +kernel) rfl) hcO hcI2 (N := 1) (M := 1) (by decide) (by decide) (by decide) (by decide) (by decide) (by decide) (q0 := (56, 0)) rfl ((opS_no hno (show offC 47 0 < 220 by decide +kernel) (Nat.le_refl _)) 228 (by decide) (by decide +kernel)) rfl (fun j hj => congrArg some (show base + offC 57 (64 * 0 + j) = base + 228 + 1 + j by rw [off57 (by omega)]; show base + (229 + j) = _; omega)) (fb_rows (r := 57) (i0 := 64 * 0) (by decide +kernel) (fun k h1 h2 => (opS_no hno (show offC 47 0 < 220 by decide +kernel) (Nat.le_refl _)) k (Nat.le_trans (by decide) h1) h2) (by decide +kernel) (fun j hj => by show Sum.inl (cA 1, gwd ((64 * 0 + j) / 64), Sum.inl fun _ => Int32.ofInt 0) = _; rw [show (64 * 0 + j) / 64 = 0 from by omega, i0]; rfl)) (Nat.le_of_ble_eq_true rfl) (Nat.le_of_ble_eq_true rfl) (k_at kcX3_ok 57 rfl) ?_
  intro H hF hS
  refine fb_put hx hb hts hK hin hF hS (by omega) hown 219 (47, 0) (by decide) rfl (fun k hk h => vc_u (Nat.lt_of_lt_of_le hk (by decide +kernel)) h (by decide +kernel)) (fs := [.int (Int32.ofInt 0), .int (Int32.ofInt 1), .int (Int32.ofInt 1), .int (Int32.ofInt 0), .ref (base + 220), .ref (base + 222), .ref (base + 224), .int (Int32.ofInt 0), .ref (base + 225), .ref (base + 226), .null, .null, .null, .null]) (opS_s _ _ _) rfl inX3 tyX3 tyX3_ok nmX3 10 (by decide) (kept_t 255 (by decide +kernel) rfl) rfl rfl rfl rfl (Nat.le_of_ble_eq_true rfl) (k_at kcX3_ok 58 rfl) ?_
  intro H locs hF hS
  rw [opS_opS] at hF
  replace hF : FB (wC D cA base) vcC base s1 (opS op (47, 0) (some (.inr (3, [.int (Int32.ofInt 0), .int (Int32.ofInt 1), .int (Int32.ofInt 1), .int (Int32.ofInt 0), .ref (base + 220), .ref (base + 222), .ref (base + 224), .int (Int32.ofInt 0), .ref (base + 225), .ref (base + 226), .ref (base + 228), .null, .null, .null])))) 230 H := hF
  refine W.eq (g2 := F0 m 124 ls []) rfl ?_
  refine lv_aload_n hx hb (k_at kcX3_ok 59 rfl) rfl (lv_at hl 0 rfl) ?_
  refine lv_aload_n hx hb (k_at kcX3_ok 60 rfl) rfl (lv_at hl 0 rfl) ?_
  refine fb_get hx hb hts hK hF hown 219 (47, 0) (by decide) rfl (fs := [.int (Int32.ofInt 0), .int (Int32.ofInt 1), .int (Int32.ofInt 1), .int (Int32.ofInt 0), .ref (base + 220), .ref (base + 222), .ref (base + 224), .int (Int32.ofInt 0), .ref (base + 225), .ref (base + 226), .ref (base + 228), .null, .null, .null]) (opS_s _ _ _) rfl inX3 1 (by decide) (kept_t 240 (by decide +kernel) rfl) rfl (k_at kcX3_ok 61 rfl) ?_
  refine fb_newa (kd := 1) hx hb hts hK hF hS (by omega) (by omega) (atype := .int) (ty := .int) rfl (kept_t 43 (by decide +kernel) rfl) hcI (q0 := (58, 0)) rfl ((opS_no hno (show offC 47 0 < 220 by decide +kernel) (Nat.le_refl _)) 230 (by decide) (by decide +kernel)) (a0 := (1, .inl fun k => Int32.ofInt (s1 58 0 k))) rfl (N := 1) (fun cA => z_int (fun _ => i0) cA 1) (by decide) (by decide) (by decide) (Nat.le_of_ble_eq_true rfl) (Nat.le_of_ble_eq_true rfl) (k_at kcX3_ok 62 rfl) (fun _ h => h) ?_
  intro H hF hS
  refine fb_put hx hb hts hK hin hF hS (by omega) hown 219 (47, 0) (by decide) rfl (fun k hk h => vc_u (Nat.lt_of_lt_of_le hk (by decide +kernel)) h (by decide +kernel)) (fs := [.int (Int32.ofInt 0), .int (Int32.ofInt 1), .int (Int32.ofInt 1), .int (Int32.ofInt 0), .ref (base + 220), .ref (base + 222), .ref (base + 224), .int (Int32.ofInt 0), .ref (base + 225), .ref (base + 226), .ref (base + 228), .null, .null, .null]) (opS_s _ _ _) rfl inX3 tyX3 tyX3_ok nmX3 11 (by decide) (kept_t 256 (by decide +kernel) rfl) rfl rfl rfl rfl (Nat.le_of_ble_eq_true rfl) (k_at kcX3_ok 63 rfl) ?_
  intro H locs hF hS
  rw [opS_opS] at hF
  replace hF : FB (wC D cA base) vcC base s1 (opS op (47, 0) (some (.inr (3, [.int (Int32.ofInt 0), .int (Int32.ofInt 1), .int (Int32.ofInt 1), .int (Int32.ofInt 0), .ref (base + 220), .ref (base + 222), .ref (base + 224), .int (Int32.ofInt 0), .ref (base + 225), .ref (base + 226), .ref (base + 228), .ref (base + 230), .null, .null])))) 231 H := hF
  refine W.eq (g2 := F0 m 134 ls []) rfl ?_
  refine lv_aload_n hx hb (k_at kcX3_ok 64 rfl) rfl (lv_at hl 0 rfl) ?_
  refine lv_aload_n hx hb (k_at kcX3_ok 65 rfl) rfl (lv_at hl 0 rfl) ?_
  refine fb_get hx hb hts hK hF hown 219 (47, 0) (by decide) rfl (fs := [.int (Int32.ofInt 0), .int (Int32.ofInt 1), .int (Int32.ofInt 1), .int (Int32.ofInt 0), .ref (base + 220), .ref (base + 222), .ref (base + 224), .int (Int32.ofInt 0), .ref (base + 225), .ref (base + 226), .ref (base + 228), .ref (base + 230), .null, .null]) (opS_s _ _ _) rfl inX3 1 (by decide) (kept_t 240 (by decide +kernel) rfl) rfl (k_at kcX3_ok 66 rfl) ?_
  refine fb_newa (kd := 1) hx hb hts hK hF hS (by omega) (by omega) (atype := .int) (ty := .int) rfl (kept_t 43 (by decide +kernel) rfl) hcI (q0 := (59, 0)) rfl ((opS_no hno (show offC 47 0 < 220 by decide +kernel) (Nat.le_refl _)) 231 (by decide) (by decide +kernel)) (a0 := (1, .inl fun k => Int32.ofInt (s1 59 0 k))) rfl (N := 1) (fun cA => z_int (fun _ => i0) cA 1) (by decide) (by decide) (by decide) (Nat.le_of_ble_eq_true rfl) (Nat.le_of_ble_eq_true rfl) (k_at kcX3_ok 67 rfl) (fun _ h => h) ?_
  intro H hF hS
  refine fb_put hx hb hts hK hin hF hS (by omega) hown 219 (47, 0) (by decide) rfl (fun k hk h => vc_u (Nat.lt_of_lt_of_le hk (by decide +kernel)) h (by decide +kernel)) (fs := [.int (Int32.ofInt 0), .int (Int32.ofInt 1), .int (Int32.ofInt 1), .int (Int32.ofInt 0), .ref (base + 220), .ref (base + 222), .ref (base + 224), .int (Int32.ofInt 0), .ref (base + 225), .ref (base + 226), .ref (base + 228), .ref (base + 230), .null, .null]) (opS_s _ _ _) rfl inX3 tyX3 tyX3_ok nmX3 12 (by decide) (kept_t 257 (by decide +kernel) rfl) rfl rfl rfl rfl (Nat.le_of_ble_eq_true rfl) (k_at kcX3_ok 68 rfl) ?_
  intro H locs hF hS
  rw [opS_opS] at hF
  replace hF : FB (wC D cA base) vcC base s1 (opS op (47, 0) (some (.inr (3, [.int (Int32.ofInt 0), .int (Int32.ofInt 1), .int (Int32.ofInt 1), .int (Int32.ofInt 0), .ref (base + 220), .ref (base + 222), .ref (base + 224), .int (Int32.ofInt 0), .ref (base + 225), .ref (base + 226), .ref (base + 228), .ref (base + 230), .ref (base + 231), .null])))) 232 H := hF
  refine W.eq (g2 := F0 m 144 ls []) rfl ?_
  refine lv_aload_n hx hb (k_at kcX3_ok 69 rfl) rfl (lv_at hl 0 rfl) ?_
  refine lv_aload_n hx hb (k_at kcX3_ok 70 rfl) rfl (lv_at hl 0 rfl) ?_
  refine fb_get hx hb hts hK hF hown 219 (47, 0) (by decide) rfl (fs := [.int (Int32.ofInt 0), .int (Int32.ofInt 1), .int (Int32.ofInt 1), .int (Int32.ofInt 0), .ref (base + 220), .ref (base + 222), .ref (base + 224), .int (Int32.ofInt 0), .ref (base + 225), .ref (base + 226), .ref (base + 228), .ref (base + 230), .ref (base + 231), .null]) (opS_s _ _ _) rfl inX3 1 (by decide) (kept_t 240 (by decide +kernel) rfl) rfl (k_at kcX3_ok 71 rfl) ?_
  refine fb_newa (kd := 1) hx hb hts hK hF hS (by omega) (by omega) (atype := .int) (ty := .int) rfl (kept_t 43 (by decide +kernel) rfl) hcI (q0 := (60, 0)) rfl ((opS_no hno (show offC 47 0 < 220 by decide +kernel) (Nat.le_refl _)) 232 (by decide) (by decide +kernel)) (a0 := (1, .inl fun k => Int32.ofInt (s1 60 0 k))) rfl (N := 1) (fun cA => z_int (fun _ => i0) cA 1) (by decide) (by decide) (by decide) (Nat.le_of_ble_eq_true rfl) (Nat.le_of_ble_eq_true rfl) (k_at kcX3_ok 72 rfl) (fun _ h => h) ?_
  intro H hF hS
  refine fb_put hx hb hts hK hin hF hS (by omega) hown 219 (47, 0) (by decide) rfl (fun k hk h => vc_u (Nat.lt_of_lt_of_le hk (by decide +kernel)) h (by decide +kernel)) (fs := [.int (Int32.ofInt 0), .int (Int32.ofInt 1), .int (Int32.ofInt 1), .int (Int32.ofInt 0), .ref (base + 220), .ref (base + 222), .ref (base + 224), .int (Int32.ofInt 0), .ref (base + 225), .ref (base + 226), .ref (base + 228), .ref (base + 230), .ref (base + 231), .null]) (opS_s _ _ _) rfl inX3 tyX3 tyX3_ok nmX3 13 (by decide) (kept_t 258 (by decide +kernel) rfl) rfl rfl rfl rfl (Nat.le_of_ble_eq_true rfl) (k_at kcX3_ok 73 rfl) ?_
  intro H locs hF hS
  rw [opS_opS] at hF
  replace hF : FB (wC D cA base) vcC base s1 (opS op (47, 0) (some (.inr (3, [.int (Int32.ofInt 0), .int (Int32.ofInt 1), .int (Int32.ofInt 1), .int (Int32.ofInt 0), .ref (base + 220), .ref (base + 222), .ref (base + 224), .int (Int32.ofInt 0), .ref (base + 225), .ref (base + 226), .ref (base + 228), .ref (base + 230), .ref (base + 231), .ref (base + 232)])))) 233 H := hF
  refine W.eq (g2 := F0 m 154 ls []) rfl ?_
  exact fb_ret hx hb hr hlocks hF hS (fun k _ => fb_close rfl _) (k_at kcX3_ok 74 rfl) rfl rfl
set_option maxRecDepth 20000 in
theorem i_X3_1 (l : Launch) {D : va_G} {cA : Nat → ClassId} {base zq : Nat} {op : Nat × Nat → Option va_E} (hop : op (47, 1) = some (.inr (3, [.int (Int32.ofInt 0), .int (Int32.ofInt 0), .int (Int32.ofInt 0), .int (Int32.ofInt 0), .null, .null, .null, .int (Int32.ofInt 0), .null, .null, .null, .null, .null, .null]))) (hno : ∀ k, 234 ≤ k → k < nC → op (vcC k) = none) : iMet l (wC D cA base) vcC base zq yX3_init cX3_init 2 4 21 72 s1 op 234 233 [.int (Int32.ofInt 1)] s1 (opS op (47, 1) none) 255 := by
  refine i_intro (by decide) rfl (Nat.le_of_ble_eq_true rfl) (fun p e s m args below meth c ls hx hb hml hown hts hin hr hlocks hBK hsz hF hS hl => ?_)
  have hK := hBK.1
  have SC : CallFix p m c cX3_init 2 s args lw_kept RX3 := ⟨hx, hb, hml, hown, hts⟩
  have hown : s.vm.findClass RX3 = some m.cls := hown
  have hcI : s.vm.findClass ("[" ++ FieldType.int.toString) = some (cA 1) := (hK.1.2 0 _ rfl).2
  have hcI2 : s.vm.findClass (FieldType.array .int).toString = some (cA 1) := hcI
  have hcZ : s.vm.findClass ("[" ++ FieldType.boolean.toString) = some (cA 3) := (hK.1.2 2 _ rfl).2
  have hcO : s.vm.findClass ("[" ++ (FieldType.array .int).toString) = some (cA 5) := (hK.1.2 3 _ rfl).2
  refine lv_aload_n hx hb (k_at kcX3_ok 0 rfl) rfl (lv_at hl 0 rfl) ?_
  refine fb_obj SC (kept_t 231 (by decide +kernel) rfl) (kept_t 24 (by decide +kernel) rfl) (kept_t 25 (by decide +kernel) rfl) hl.1 ⟨(Nat.le_of_ble_eq_true rfl), (Nat.le_of_ble_eq_true rfl)⟩ (k_at kcX3_ok 1 rfl) ?_
  refine W.eq (g2 := F0 m 4 ls []) rfl ?_
  refine lv_aload_n hx hb (k_at kcX3_ok 2 rfl) rfl (lv_at hl 0 rfl) ?_
  refine lv_iload_n hx hb (k_at kcX3_ok 3 rfl) rfl (lv_at hl 1 rfl) ?_
  refine fb_put hx hb hts hK hin hF hS (by omega) hown 233 (47, 1) (by decide) rfl (fun k hk h => vc_u (Nat.lt_of_lt_of_le hk (by decide +kernel)) h (by decide +kernel)) (fs := [.int (Int32.ofInt 0), .int (Int32.ofInt 0), .int (Int32.ofInt 0), .int (Int32.ofInt 0), .null, .null, .null, .int (Int32.ofInt 0), .null, .null, .null, .null, .null, .null]) hop rfl inX3 tyX3 tyX3_ok nmX3 0 (by decide) (kept_t 238 (by decide +kernel) rfl) rfl rfl rfl rfl (Nat.le_of_ble_eq_true rfl) (k_at kcX3_ok 4 rfl) ?_
  intro H locs hF hS
  replace hF : FB (wC D cA base) vcC base s1 (opS op (47, 1) (some (.inr (3, [.int (Int32.ofInt 1), .int (Int32.ofInt 0), .int (Int32.ofInt 0), .int (Int32.ofInt 0), .null, .null, .null, .int (Int32.ofInt 0), .null, .null, .null, .null, .null, .null])))) 234 H := hF
  refine W.eq (g2 := F0 m 9 ls []) rfl ?_
  refine lv_aload_n hx hb (k_at kcX3_ok 5 rfl) rfl (lv_at hl 0 rfl) ?_
  refine lv_iload_n hx hb (k_at kcX3_ok 6 rfl) rfl (lv_at hl 1 rfl) ?_
  refine fb_width SC hK (kept_t 232 (by decide +kernel) rfl) hF hS (by omega) (by omega) hl.1 (Nat.le_of_ble_eq_true rfl) ⟨(Nat.le_of_ble_eq_true rfl), (Nat.le_of_ble_eq_true rfl)⟩ ⟨(Nat.le_of_ble_eq_true rfl), (Nat.le_of_ble_eq_true rfl)⟩ (z := 1) (v := 3) (by decide) (by decide +kernel) (k_at kcX3_ok 7 rfl) ?_
  intro H locs hF hS
  refine fb_put hx hb hts hK hin hF hS (by omega) hown 233 (47, 1) (by decide) rfl (fun k hk h => vc_u (Nat.lt_of_lt_of_le hk (by decide +kernel)) h (by decide +kernel)) (fs := [.int (Int32.ofInt 1), .int (Int32.ofInt 0), .int (Int32.ofInt 0), .int (Int32.ofInt 0), .null, .null, .null, .int (Int32.ofInt 0), .null, .null, .null, .null, .null, .null]) (opS_s _ _ _) rfl inX3 tyX3 tyX3_ok nmX3 1 (by decide) (kept_t 240 (by decide +kernel) rfl) rfl rfl rfl rfl (Nat.le_of_ble_eq_true rfl) (k_at kcX3_ok 8 rfl) ?_
  intro H locs hF hS
  rw [opS_opS] at hF
  replace hF : FB (wC D cA base) vcC base s1 (opS op (47, 1) (some (.inr (3, [.int (Int32.ofInt 1), .int (Int32.ofInt 3), .int (Int32.ofInt 0), .int (Int32.ofInt 0), .null, .null, .null, .int (Int32.ofInt 0), .null, .null, .null, .null, .null, .null])))) 234 H := hF
  refine W.eq (g2 := F0 m 17 ls []) rfl ?_
  refine lv_aload_n hx hb (k_at kcX3_ok 9 rfl) rfl (lv_at hl 0 rfl) ?_
  refine lv_iload_n hx hb (k_at kcX3_ok 10 rfl) rfl (lv_at hl 1 rfl) ?_
  refine lv_if_lt hx hb (tgt := 38) (k_at kcX3_ok 11 rfl) rfl (fun h => absurd h (by decide)) (fun _ => ?_)
  refine lv_iload_n hx hb (k_at kcX3_ok 12 rfl) rfl (lv_at hl 1 rfl) ?_
  refine fb_gets hx hb hBK hS hown (k_at kcX3_ok 13 rfl) ?_
  refine fb_zlen hx hb hBK hS (by omega) (k_at kcX3_ok 14 rfl) ?_
  refine lv_icmp_ge hx hb (tgt := 38) (k_at kcX3_ok 15 rfl) rfl (fun h => absurd h (by decide)) (fun _ => ?_)
  refine fb_gets hx hb hBK hS hown (k_at kcX3_ok 16 rfl) ?_
  refine lv_iload_n hx hb (k_at kcX3_ok 17 rfl) rfl (lv_at hl 1 rfl) ?_
  refine fb_zald hx hb hBK hS (by omega) (z := 1) (v := 3) (j := 1) (iin (a := 1) (by decide) (by decide)) (by decide) (by decide) (k_at kcX3_ok 18 rfl) ?_
  refine lv_goto hx hb (tgt := 39) (k_at kcX3_ok 19 rfl) rfl ?_
  refine fb_put hx hb hts hK hin hF hS (by omega) hown 233 (47, 1) (by decide) rfl (fun k hk h => vc_u (Nat.lt_of_lt_of_le hk (by decide +kernel)) h (by decide +kernel)) (fs := [.int (Int32.ofInt 1), .int (Int32.ofInt 3), .int (Int32.ofInt 0), .int (Int32.ofInt 0), .null, .null, .null, .int (Int32.ofInt 0), .null, .null, .null, .null, .null, .null]) (opS_s _ _ _) rfl inX3 tyX3 tyX3_ok nmX3 2 (by decide) (kept_t 242 (by decide +kernel) rfl) rfl rfl rfl rfl (Nat.le_of_ble_eq_true rfl) (k_at kcX3_ok 21 rfl) ?_
  intro H locs hF hS
  rw [opS_opS] at hF
  replace hF : FB (wC D cA base) vcC base s1 (opS op (47, 1) (some (.inr (3, [.int (Int32.ofInt 1), .int (Int32.ofInt 3), .int (Int32.ofInt 3), .int (Int32.ofInt 0), .null, .null, .null, .int (Int32.ofInt 0), .null, .null, .null, .null, .null, .null])))) 234 H := hF
  refine W.eq (g2 := F0 m 42 ls []) rfl ?_
  refine lv_aload_n hx hb (k_at kcX3_ok 22 rfl) rfl (lv_at hl 0 rfl) ?_
  refine lv_aload_n hx hb (k_at kcX3_ok 23 rfl) rfl (lv_at hl 0 rfl) ?_
  refine fb_get hx hb hts hK hF hown 233 (47, 1) (by decide) rfl (fs := [.int (Int32.ofInt 1), .int (Int32.ofInt 3), .int (Int32.ofInt 3), .int (Int32.ofInt 0), .null, .null, .null, .int (Int32.ofInt 0), .null, .null, .null, .null, .null, .null]) (opS_s _ _ _) rfl inX3 2 (by decide) (kept_t 242 (by decide +kernel) rfl) rfl (k_at kcX3_ok 24 rfl) ?_
  refine lv_bipush hx hb (k_at kcX3_ok 25 rfl) (ofI_8 (by decide) (by decide)) ?_
  refine fb_multi hx hb hts (ao_mv (Vm.Alike.refl _) hBK.2.1) hF hS hown (kept_t 237 (by decide +kernel) rfl) (kept_t 43 (by decide +kernel) rfl) hcO hcI2 (N := 3) (M := 6) (by decide) (by decide) (by decide) (by decide) (by decide) (by decide) (q0 := (48, 1)) rfl ((opS_no hno (show offC 47 1 < 234 by decide +kernel) (Nat.le_refl _)) 234 (by decide) (by decide +kernel)) rfl (fun j hj => congrArg some (show base + offC 49 (64 * 1 + j) = base + 234 + 1 + j by rw [off49 (by omega)]; show base + (235 + j) = _; omega)) (fb_rows (r := 49) (i0 := 64 * 1) (by decide +kernel) (fun k h1 h2 => (opS_no hno (show offC 47 1 < 234 by decide +kernel) (Nat.le_refl _)) k (Nat.le_trans (by decide) h1) h2) (by decide +kernel) (fun j hj => by show Sum.inl (cA 1, 6, Sum.inl fun _ => Int32.ofInt 0) = _; rw [i0]; rfl)) (Nat.le_of_ble_eq_true rfl) (Nat.le_of_ble_eq_true rfl) (k_at kcX3_ok 26 rfl) ?_
  intro H hF hS
  refine fb_put hx hb hts hK hin hF hS (by omega) hown 233 (47, 1) (by decide) rfl (fun k hk h => vc_u (Nat.lt_of_lt_of_le hk (by decide +kernel)) h (by decide +kernel)) (fs := [.int (Int32.ofInt 1), .int (Int32.ofInt 3), .int (Int32.ofInt 3), .int (Int32.ofInt 0), .null, .null, .null, .int (Int32.ofInt 0), .null, .null, .null, .null, .null, .null]) (opS_s _ _ _) rfl inX3 tyX3 tyX3_ok nmX3 4 (by decide) (kept_t 246 (by decide +kernel) rfl) rfl rfl rfl rfl (Nat.le_of_ble_eq_true rfl) (k_at kcX3_ok 27 rfl) ?_
  intro H locs hF hS
  rw [opS_opS] at hF
  replace hF : FB (wC D cA base) vcC base s1 (opS op (47, 1) (some (.inr (3, [.int (Int32.ofInt 1), .int (Int32.ofInt 3), .int (Int32.ofInt 3), .int (Int32.ofInt 0), .ref (base + 234), .null, .null, .int (Int32.ofInt 0), .null, .null, .null, .null, .null, .null])))) 238 H := hF
  refine W.eq (g2 := F0 m 56 ls []) rfl ?_
  refine lv_aload_n hx hb (k_at kcX3_ok 28 rfl) rfl (lv_at hl 0 rfl) ?_
  refine lv_aload_n hx hb (k_at kcX3_ok 29 rfl) rfl (lv_at hl 0 rfl) ?_
  refine fb_get hx hb hts hK hF hown 233 (47, 1) (by decide) rfl (fs := [.int (Int32.ofInt 1), .int (Int32.ofInt 3), .int (Int32.ofInt 3), .int (Int32.ofInt 0), .ref (base + 234), .null, .null, .int (Int32.ofInt 0), .null, .null, .null, .null, .null, .null]) (opS_s _ _ _) rfl inX3 2 (by decide) (kept_t 242 (by decide +kernel) rfl) rfl (k_at kcX3_ok 30 rfl) ?_
  refine lv_aload_n hx hb (k_at kcX3_ok 31 rfl) rfl (lv_at hl 0 rfl) ?_
  refine fb_get hx hb hts hK hF hown 233 (47, 1) (by decide) rfl (fs := [.int (Int32.ofInt 1), .int (Int32.ofInt 3), .int (Int32.ofInt 3), .int (Int32.ofInt 0), .ref (base + 234), .null, .null, .int (Int32.ofInt 0), .null, .null, .null, .null, .null, .null]) (opS_s _ _ _) rfl inX3 1 (by decide) (kept_t 240 (by decide +kernel) rfl) rfl (k_at kcX3_ok 32 rfl) ?_
  refine fb_multi hx hb hts (ao_mv (Vm.Alike.refl _) hBK.2.1) hF hS hown (kept_t 237 (by decide +kernel) rfl) (kept_t 43 (by decide +kernel) rfl) hcO hcI2 (N := 3) (M := 3) (by decide) (by decide) (by decide) (by decide) (by decide) (by decide) (q0 := (50, 1)) rfl ((opS_no hno (show offC 47 1 < 234 by decide +kernel) (Nat.le_refl _)) 238 (by decide) (by decide +kernel)) rfl (fun j hj => congrArg some (show base + offC 51 (64 * 1 + j) = base + 238 + 1 + j by rw [off51 (by omega)]; show base + (239 + j) = _; omega)) (fb_rows (r := 51) (i0 := 64 * 1) (by decide +kernel) (fun k h1 h2 => (opS_no hno (show offC 47 1 < 234 by decide +kernel) (Nat.le_refl _)) k (Nat.le_trans (by decide) h1) h2) (by decide +kernel) (fun j hj => by show Sum.inl (cA 1, gwd ((64 * 1 + j) / 64), Sum.inl fun _ => Int32.ofInt 0) = _; rw [show (64 * 1 + j) / 64 = 1 from by omega, i0]; rfl)) (Nat.le_of_ble_eq_true rfl) (Nat.le_of_ble_eq_true rfl) (k_at kcX3_ok 33 rfl) ?_
  intro H hF hS
  refine fb_put hx hb hts hK hin hF hS (by omega) hown 233 (47, 1) (by decide) rfl (fun k hk h => vc_u (Nat.lt_of_lt_of_le hk (by decide +kernel)) h (by decide +kernel)) (fs := [.int (Int32.ofInt 1), .int (Int32.ofInt 3), .int (Int32.ofInt 3), .int (Int32.ofInt 0), .ref (base + 234), .null, .null, .int (Int32.ofInt 0), .null, .null, .null, .null, .null, .null]) (opS_s _ _ _) rfl inX3 tyX3 tyX3_ok nmX3 5 (by decide) (kept_t 248 (by decide +kernel) rfl) rfl rfl rfl rfl (Nat.le_of_ble_eq_true rfl) (k_at kcX3_ok 34 rfl) ?_
  intro H locs hF hS
  rw [opS_opS] at hF
  replace hF : FB (wC D cA base) vcC base s1 (opS op (47, 1) (some (.inr (3, [.int (Int32.ofInt 1), .int (Int32.ofInt 3), .int (Int32.ofInt 3), .int (Int32.ofInt 0), .ref (base + 234), .ref (base + 238), .null, .int (Int32.ofInt 0), .null, .null, .null, .null, .null, .null])))) 242 H := hF
  refine W.eq (g2 := F0 m 72 ls []) rfl ?_
  refine lv_aload_n hx hb (k_at kcX3_ok 35 rfl) rfl (lv_at hl 0 rfl) ?_
  refine lv_aload_n hx hb (k_at kcX3_ok 36 rfl) rfl (lv_at hl 0 rfl) ?_
  refine fb_get hx hb hts hK hF hown 233 (47, 1) (by decide) rfl (fs := [.int (Int32.ofInt 1), .int (Int32.ofInt 3), .int (Int32.ofInt 3), .int (Int32.ofInt 0), .ref (base + 234), .ref (base + 238), .null, .int (Int32.ofInt 0), .null, .null, .null, .null, .null, .null]) (opS_s _ _ _) rfl inX3 2 (by decide) (kept_t 242 (by decide +kernel) rfl) rfl (k_at kcX3_ok 37 rfl) ?_
  refine fb_newa (kd := 1) hx hb hts hK hF hS (by omega) (by omega) (atype := .int) (ty := .int) rfl (kept_t 43 (by decide +kernel) rfl) hcI (q0 := (52, 1)) rfl ((opS_no hno (show offC 47 1 < 234 by decide +kernel) (Nat.le_refl _)) 242 (by decide) (by decide +kernel)) (a0 := (3, .inl fun k => Int32.ofInt (s1 52 1 k))) rfl (N := 3) (fun cA => z_int (fun _ => i0) cA 3) (by decide) (by decide) (by decide) (Nat.le_of_ble_eq_true rfl) (Nat.le_of_ble_eq_true rfl) (k_at kcX3_ok 38 rfl) (fun _ h => h) ?_
  intro H hF hS
  refine fb_put hx hb hts hK hin hF hS (by omega) hown 233 (47, 1) (by decide) rfl (fun k hk h => vc_u (Nat.lt_of_lt_of_le hk (by decide +kernel)) h (by decide +kernel)) (fs := [.int (Int32.ofInt 1), .int (Int32.ofInt 3), .int (Int32.ofInt 3), .int (Int32.ofInt 0), .ref (base + 234), .ref (base + 238), .null, .int (Int32.ofInt 0), .null, .null, .null, .null, .null, .null]) (opS_s _ _ _) rfl inX3 tyX3 tyX3_ok nmX3 6 (by decide) (kept_t 250 (by decide +kernel) rfl) rfl rfl rfl rfl (Nat.le_of_ble_eq_true rfl) (k_at kcX3_ok 39 rfl) ?_
  intro H locs hF hS
  rw [opS_opS] at hF
  replace hF : FB (wC D cA base) vcC base s1 (opS op (47, 1) (some (.inr (3, [.int (Int32.ofInt 1), .int (Int32.ofInt 3), .int (Int32.ofInt 3), .int (Int32.ofInt 0), .ref (base + 234), .ref (base + 238), .ref (base + 242), .int (Int32.ofInt 0), .null, .null, .null, .null, .null, .null])))) 243 H := hF
  refine W.eq (g2 := F0 m 82 ls []) rfl ?_
  refine lv_aload_n hx hb (k_at kcX3_ok 40 rfl) rfl (lv_at hl 0 rfl) ?_
  refine lv_aload_n hx hb (k_at kcX3_ok 41 rfl) rfl (lv_at hl 0 rfl) ?_
  refine fb_get hx hb hts hK hF hown 233 (47, 1) (by decide) rfl (fs := [.int (Int32.ofInt 1), .int (Int32.ofInt 3), .int (Int32.ofInt 3), .int (Int32.ofInt 0), .ref (base + 234), .ref (base + 238), .ref (base + 242), .int (Int32.ofInt 0), .null, .null, .null, .null, .null, .null]) (opS_s _ _ _) rfl inX3 1 (by decide) (kept_t 240 (by decide +kernel) rfl) rfl (k_at kcX3_ok 42 rfl) ?_
  refine fb_newa (kd := 1) hx hb hts hK hF hS (by omega) (by omega) (atype := .int) (ty := .int) rfl (kept_t 43 (by decide +kernel) rfl) hcI (q0 := (53, 1)) rfl ((opS_no hno (show offC 47 1 < 234 by decide +kernel) (Nat.le_refl _)) 243 (by decide) (by decide +kernel)) (a0 := (3, .inl fun k => Int32.ofInt (s1 53 1 k))) rfl (N := 3) (fun cA => z_int (fun _ => i0) cA 3) (by decide) (by decide) (by decide) (Nat.le_of_ble_eq_true rfl) (Nat.le_of_ble_eq_true rfl) (k_at kcX3_ok 43 rfl) (fun _ h => h) ?_
  intro H hF hS
  refine fb_put hx hb hts hK hin hF hS (by omega) hown 233 (47, 1) (by decide) rfl (fun k hk h => vc_u (Nat.lt_of_lt_of_le hk (by decide +kernel)) h (by decide +kernel)) (fs := [.int (Int32.ofInt 1), .int (Int32.ofInt 3), .int (Int32.ofInt 3), .int (Int32.ofInt 0), .ref (base + 234), .ref (base + 238), .ref (base + 242), .int (Int32.ofInt 0), .null, .null, .null, .null, .null, .null]) (opS_s _ _ _) rfl inX3 tyX3 tyX3_ok nmX3 8 (by decide) (kept_t 253 (by decide +kernel) rfl) rfl rfl rfl rfl (Nat.le_of_ble_eq_true rfl) (k_at kcX3_ok 44 rfl) ?_
  intro H locs hF hS
  rw [opS_opS] at hF
  replace hF : FB (wC D cA base) vcC base s1 (opS op (47, 1) (some (.inr (3, [.int (Int32.ofInt 1), .int (Int32.ofInt 3), .int (Int32.ofInt 3), .int (Int32.ofInt 0), .ref (base + 234), .ref (base + 238), .ref (base + 242), .int (Int32.ofInt 0), .ref (base + 243), .null, .null, .null, .null, .null])))) 244 H := hF
  refine W.eq (g2 := F0 m 92 ls []) rfl ?_
  refine lv_aload_n hx hb (k_at kcX3_ok 45 rfl) rfl (lv_at hl 0 rfl) ?_
  refine lv_aload_n hx hb (k_at kcX3_ok 46 rfl) rfl (lv_at hl 0 rfl) ?_
  refine fb_get hx hb hts hK hF hown 233 (47, 1) (by decide) rfl (fs := [.int (Int32.ofInt 1), .int (Int32.ofInt 3), .int (Int32.ofInt 3), .int (Int32.ofInt 0), .ref (base + 234), .ref (base + 238), .ref (base + 242), .int (Int32.ofInt 0), .ref (base + 243), .null, .null, .null, .null, .null]) (opS_s _ _ _) rfl inX3 1 (by decide) (kept_t 240 (by decide +kernel) rfl) rfl (k_at kcX3_ok 47 rfl) ?_
  refine lv_aload_n hx hb (k_at kcX3_ok 48 rfl) rfl (lv_at hl 0 rfl) ?_
  refine fb_get hx hb hts hK hF hown 233 (47, 1) (by decide) rfl (fs := [.int (Int32.ofInt 1), .int (Int32.ofInt 3), .int (Int32.ofInt 3), .int (Int32.ofInt 0), .ref (base + 234), .ref (base + 238), .ref (base + 242), .int (Int32.ofInt 0), .ref (base + 243), .null, .null, .null, .null, .null]) (opS_s _ _ _) rfl inX3 1 (by decide) (kept_t 240 (by decide +kernel) rfl) rfl (k_at kcX3_ok 49 rfl) ?_
  refine fb_multi hx hb hts (ao_mv (Vm.Alike.refl _) hBK.2.1) hF hS hown (kept_t 237 (by decide +kernel) rfl) (kept_t 43 (by decide +kernel) rfl) hcO hcI2 (N := 3) (M := 3) (by decide) (by decide) (by decide) (by decide) (by decide) (by decide) (q0 := (54, 1)) rfl ((opS_no hno (show offC 47 1 < 234 by decide +kernel) (Nat.le_refl _)) 244 (by decide) (by decide +kernel)) rfl (fun j hj => congrArg some (show base + offC 55 (64 * 1 + j) = base + 244 + 1 + j by rw [off55 (by omega)]; show base + (245 + j) = _; omega)) (fb_rows (r := 55) (i0 := 64 * 1) (by decide +kernel) (fun k h1 h2 => (opS_no hno (show offC 47 1 < 234 by decide +kernel) (Nat.le_refl _)) k (Nat.le_trans (by decide) h1) h2) (by decide +kernel) (fun j hj => by show Sum.inl (cA 1, gwd ((64 * 1 + j) / 64), Sum.inl fun _ => Int32.ofInt 0) = _; rw [show (64 * 1 + j) / 64 = 1 from by omega, i0]; rfl)) (Nat.le_of_ble_eq_true rfl) (Nat.le_of_ble_eq_true rfl) (k_at kcX3_ok 50 rfl) ?_
  intro H hF hS
  refine fb_put hx hb hts hK hin hF hS (by omega) hown 233 (47, 1) (by decide) rfl (fun k hk h => vc_u (Nat.lt_of_lt_of_le hk (by decide +kernel)) h (by decide +kernel)) (fs := [.int (Int32.ofInt 1), .int (Int32.ofInt 3), .int (Int32.ofInt 3), .int (Int32.ofInt 0), .ref (base + 234), .ref (base + 238), .ref (base + 242), .int (Int32.ofInt 0), .ref (base + 243), .null, .null, .null, .null, .null]) (opS_s _ _ _) rfl inX3 tyX3 tyX3_ok nmX3 9 (by decide) (kept_t 254 (by decide +kernel) rfl) rfl rfl rfl rfl (Nat.le_of_ble_eq_true rfl) (k_at kcX3_ok 51 rfl) ?_
  intro H locs hF hS
  rw [opS_opS] at hF
  replace hF : FB (wC D cA base) vcC base s1 (opS op (47, 1) (some (.inr (3, [.int (Int32.ofInt 1), .int (Int32.ofInt 3), .int (Int32.ofInt 3), .int (Int32.ofInt 0), .ref (base + 234), .ref (base + 238), .ref (base + 242), .int (Int32.ofInt 0), .ref (base + 243), .ref (base + 244), .null, .null, .null, .null])))) 248 H := hF
  refine W.eq (g2 := F0 m 108 ls []) rfl ?_
  refine lv_aload_n hx hb (k_at kcX3_ok 52 rfl) rfl (lv_at hl 0 rfl) ?_
  refine lv_aload_n hx hb (k_at kcX3_ok 53 rfl) rfl (lv_at hl 0 rfl) ?_
  refine fb_get hx hb hts hK hF hown 233 (47, 1) (by decide) rfl (fs := [.int (Int32.ofInt 1), .int (Int32.ofInt 3), .int (Int32.ofInt 3), .int (Int32.ofInt 0), .ref (base + 234), .ref (base + 238), .ref (base + 242), .int (Int32.ofInt 0), .ref (base + 243), .ref (base + 244), .null, .null, .null, .null]) (opS_s _ _ _) rfl inX3 1 (by decide) (kept_t 240 (by decide +kernel) rfl) rfl (k_at kcX3_ok 54 rfl) ?_
  refine lv_aload_n hx hb (k_at kcX3_ok 55 rfl) rfl (lv_at hl 0 rfl) ?_
  refine fb_get hx hb hts hK hF hown 233 (47, 1) (by decide) rfl (fs := [.int (Int32.ofInt 1), .int (Int32.ofInt 3), .int (Int32.ofInt 3), .int (Int32.ofInt 0), .ref (base + 234), .ref (base + 238), .ref (base + 242), .int (Int32.ofInt 0), .ref (base + 243), .ref (base + 244), .null, .null, .null, .null]) (opS_s _ _ _) rfl inX3 1 (by decide) (kept_t 240 (by decide +kernel) rfl) rfl (k_at kcX3_ok 56 rfl) ?_
  refine fb_multi hx hb hts (ao_mv (Vm.Alike.refl _) hBK.2.1) hF hS hown (kept_t 237 (by decide +kernel) rfl) (kept_t 43 (by decide +kernel) rfl) hcO hcI2 (N := 3) (M := 3) (by decide) (by decide) (by decide) (by decide) (by decide) (by decide) (q0 := (56, 1)) rfl ((opS_no hno (show offC 47 1 < 234 by decide +kernel) (Nat.le_refl _)) 248 (by decide) (by decide +kernel)) rfl (fun j hj => congrArg some (show base + offC 57 (64 * 1 + j) = base + 248 + 1 + j by rw [off57 (by omega)]; show base + (249 + j) = _; omega)) (fb_rows (r := 57) (i0 := 64 * 1) (by decide +kernel) (fun k h1 h2 => (opS_no hno (show offC 47 1 < 234 by decide +kernel) (Nat.le_refl _)) k (Nat.le_trans (by decide) h1) h2) (by decide +kernel) (fun j hj => by show Sum.inl (cA 1, gwd ((64 * 1 + j) / 64), Sum.inl fun _ => Int32.ofInt 0) = _; rw [show (64 * 1 + j) / 64 = 1 from by omega, i0]; rfl)) (Nat.le_of_ble_eq_true rfl) (Nat.le_of_ble_eq_true rfl) (k_at kcX3_ok 57 rfl) ?_
  intro H hF hS
  refine fb_put hx hb hts hK hin hF hS (by omega) hown 233 (47, 1) (by decide) rfl (fun k hk h => vc_u (Nat.lt_of_lt_of_le hk (by decide +kernel)) h (by decide +kernel)) (fs := [.int (Int32.ofInt 1), .int (Int32.ofInt 3), .int (Int32.ofInt 3), .int (Int32.ofInt 0), .ref (base + 234), .ref (base + 238), .ref (base + 242), .int (Int32.ofInt 0), .ref (base + 243), .ref (base + 244), .null, .null, .null, .null]) (opS_s _ _ _) rfl inX3 tyX3 tyX3_ok nmX3 10 (by decide) (kept_t 255 (by decide +kernel) rfl) rfl rfl rfl rfl (Nat.le_of_ble_eq_true rfl) (k_at kcX3_ok 58 rfl) ?_
  intro H locs hF hS
  rw [opS_opS] at hF
  replace hF : FB (wC D cA base) vcC base s1 (opS op (47, 1) (some (.inr (3, [.int (Int32.ofInt 1), .int (Int32.ofInt 3), .int (Int32.ofInt 3), .int (Int32.ofInt 0), .ref (base + 234), .ref (base + 238), .ref (base + 242), .int (Int32.ofInt 0), .ref (base + 243), .ref (base + 244), .ref (base + 248), .null, .null, .null])))) 252 H := hF
  refine W.eq (g2 := F0 m 124 ls []) rfl ?_
  refine lv_aload_n hx hb (k_at kcX3_ok 59 rfl) rfl (lv_at hl 0 rfl) ?_
  refine lv_aload_n hx hb (k_at kcX3_ok 60 rfl) rfl (lv_at hl 0 rfl) ?_
  refine fb_get hx hb hts hK hF hown 233 (47, 1) (by decide) rfl (fs := [.int (Int32.ofInt 1), .int (Int32.ofInt 3), .int (Int32.ofInt 3), .int (Int32.ofInt 0), .ref (base + 234), .ref (base + 238), .ref (base + 242), .int (Int32.ofInt 0), .ref (base + 243), .ref (base + 244), .ref (base + 248), .null, .null, .null]) (opS_s _ _ _) rfl inX3 1 (by decide) (kept_t 240 (by decide +kernel) rfl) rfl (k_at kcX3_ok 61 rfl) ?_
  refine fb_newa (kd := 1) hx hb hts hK hF hS (by omega) (by omega) (atype := .int) (ty := .int) rfl (kept_t 43 (by decide +kernel) rfl) hcI (q0 := (58, 1)) rfl ((opS_no hno (show offC 47 1 < 234 by decide +kernel) (Nat.le_refl _)) 252 (by decide) (by decide +kernel)) (a0 := (3, .inl fun k => Int32.ofInt (s1 58 1 k))) rfl (N := 3) (fun cA => z_int (fun _ => i0) cA 3) (by decide) (by decide) (by decide) (Nat.le_of_ble_eq_true rfl) (Nat.le_of_ble_eq_true rfl) (k_at kcX3_ok 62 rfl) (fun _ h => h) ?_
  intro H hF hS
  refine fb_put hx hb hts hK hin hF hS (by omega) hown 233 (47, 1) (by decide) rfl (fun k hk h => vc_u (Nat.lt_of_lt_of_le hk (by decide +kernel)) h (by decide +kernel)) (fs := [.int (Int32.ofInt 1), .int (Int32.ofInt 3), .int (Int32.ofInt 3), .int (Int32.ofInt 0), .ref (base + 234), .ref (base + 238), .ref (base + 242), .int (Int32.ofInt 0), .ref (base + 243), .ref (base + 244), .ref (base + 248), .null, .null, .null]) (opS_s _ _ _) rfl inX3 tyX3 tyX3_ok nmX3 11 (by decide) (kept_t 256 (by decide +kernel) rfl) rfl rfl rfl rfl (Nat.le_of_ble_eq_true rfl) (k_at kcX3_ok 63 rfl) ?_
  intro H locs hF hS
  rw [opS_opS] at hF
  replace hF : FB (wC D cA base) vcC base s1 (opS op (47, 1) (some (.inr (3, [.int (Int32.ofInt 1), .int (Int32.ofInt 3), .int (Int32.ofInt 3), .int (Int32.ofInt 0), .ref (base + 234), .ref (base + 238), .ref (base + 242), .int (Int32.ofInt 0), .ref (base + 243), .ref (base + 244), .ref (base + 248), .ref (base + 252), .null, .null])))) 253 H := hF
  refine W.eq (g2 := F0 m 134 ls []) rfl ?_
  refine lv_aload_n hx hb (k_at kcX3_ok 64 rfl) rfl (lv_at hl 0 rfl) ?_
  refine lv_aload_n hx hb (k_at kcX3_ok 65 rfl) rfl (lv_at hl 0 rfl) ?_
  refine fb_get hx hb hts hK hF hown 233 (47, 1) (by decide) rfl (fs := [.int (Int32.ofInt 1), .int (Int32.ofInt 3), .int (Int32.ofInt 3), .int (Int32.ofInt 0), .ref (base + 234), .ref (base + 238), .ref (base + 242), .int (Int32.ofInt 0), .ref (base + 243), .ref (base + 244), .ref (base + 248), .ref (base + 252), .null, .null]) (opS_s _ _ _) rfl inX3 1 (by decide) (kept_t 240 (by decide +kernel) rfl) rfl (k_at kcX3_ok 66 rfl) ?_
  refine fb_newa (kd := 1) hx hb hts hK hF hS (by omega) (by omega) (atype := .int) (ty := .int) rfl (kept_t 43 (by decide +kernel) rfl) hcI (q0 := (59, 1)) rfl ((opS_no hno (show offC 47 1 < 234 by decide +kernel) (Nat.le_refl _)) 253 (by decide) (by decide +kernel)) (a0 := (3, .inl fun k => Int32.ofInt (s1 59 1 k))) rfl (N := 3) (fun cA => z_int (fun _ => i0) cA 3) (by decide) (by decide) (by decide) (Nat.le_of_ble_eq_true rfl) (Nat.le_of_ble_eq_true rfl) (k_at kcX3_ok 67 rfl) (fun _ h => h) ?_
  intro H hF hS
  refine fb_put hx hb hts hK hin hF hS (by omega) hown 233 (47, 1) (by decide) rfl (fun k hk h => vc_u (Nat.lt_of_lt_of_le hk (by decide +kernel)) h (by decide +kernel)) (fs := [.int (Int32.ofInt 1), .int (Int32.ofInt 3), .int (Int32.ofInt 3), .int (Int32.ofInt 0), .ref (base + 234), .ref (base + 238), .ref (base + 242), .int (Int32.ofInt 0), .ref (base + 243), .ref (base + 244), .ref (base + 248), .ref (base + 252), .null, .null]) (opS_s _ _ _) rfl inX3 tyX3 tyX3_ok nmX3 12 (by decide) (kept_t 257 (by decide +kernel) rfl) rfl rfl rfl rfl (Nat.le_of_ble_eq_true rfl) (k_at kcX3_ok 68 rfl) ?_
  intro H locs hF hS
  rw [opS_opS] at hF
  replace hF : FB (wC D cA base) vcC base s1 (opS op (47, 1) (some (.inr (3, [.int (Int32.ofInt 1), .int (Int32.ofInt 3), .int (Int32.ofInt 3), .int (Int32.ofInt 0), .ref (base + 234), .ref (base + 238), .ref (base + 242), .int (Int32.ofInt 0), .ref (base + 243), .ref (base + 244), .ref (base + 248), .ref (base + 252), .ref (base + 253), .null])))) 254 H := hF
  refine W.eq (g2 := F0 m 144 ls []) rfl ?_
  refine lv_aload_n hx hb (k_at kcX3_ok 69 rfl) rfl (lv_at hl 0 rfl) ?_
  refine lv_aload_n hx hb (k_at kcX3_ok 70 rfl) rfl (lv_at hl 0 rfl) ?_
  refine fb_get hx hb hts hK hF hown 233 (47, 1) (by decide) rfl (fs := [.int (Int32.ofInt 1), .int (Int32.ofInt 3), .int (Int32.ofInt 3), .int (Int32.ofInt 0), .ref (base + 234), .ref (base + 238), .ref (base + 242), .int (Int32.ofInt 0), .ref (base + 243), .ref (base + 244), .ref (base + 248), .ref (base + 252), .ref (base + 253), .null]) (opS_s _ _ _) rfl inX3 1 (by decide) (kept_t 240 (by decide +kernel) rfl) rfl (k_at kcX3_ok 71 rfl) ?_
  refine fb_newa (kd := 1) hx hb hts hK hF hS (by omega) (by omega) (atype := .int) (ty := .int) rfl (kept_t 43 (by decide +kernel) rfl) hcI (q0 := (60, 1)) rfl ((opS_no hno (show offC 47 1 < 234 by decide +kernel) (Nat.le_refl _)) 254 (by decide) (by decide +kernel)) (a0 := (3, .inl fun k => Int32.ofInt (s1 60 1 k))) rfl (N := 3) (fun cA => z_int (fun _ => i0) cA 3) (by decide) (by decide) (by decide) (Nat.le_of_ble_eq_true rfl) (Nat.le_of_ble_eq_true rfl) (k_at kcX3_ok 72 rfl) (fun _ h => h) ?_
  intro H hF hS
  refine fb_put hx hb hts hK hin hF hS (by omega) hown 233 (47, 1) (by decide) rfl (fun k hk h => vc_u (Nat.lt_of_lt_of_le hk (by decide +kernel)) h (by decide +kernel)) (fs := [.int (Int32.ofInt 1), .int (Int32.ofInt 3), .int (Int32.ofInt 3), .int (Int32.ofInt 0), .ref (base + 234), .ref (base + 238), .ref (base + 242), .int (Int32.ofInt 0), .ref (base + 243), .ref (base + 244), .ref (base + 248), .ref (base + 252), .ref (base + 253), .null]) (opS_s _ _ _) rfl inX3 tyX3 tyX3_ok nmX3 13 (by decide) (kept_t 258 (by decide +kernel) rfl) rfl rfl rfl rfl (Nat.le_of_ble_eq_true rfl) (k_at kcX3_ok 73 rfl) ?_
  intro H locs hF hS
  rw [opS_opS] at hF
  replace hF : FB (wC D cA base) vcC base s1 (opS op (47, 1) (some (.inr (3, [.int (Int32.ofInt 1), .int (Int32.ofInt 3), .int (Int32.ofInt 3), .int (Int32.ofInt 0), .ref (base + 234), .ref (base + 238), .ref (base + 242), .int (Int32.ofInt 0), .ref (base + 243), .ref (base + 244), .ref (base + 248), .ref (base + 252), .ref (base + 253), .ref (base + 254)])))) 255 H := hF
  refine W.eq (g2 := F0 m 154 ls []) rfl ?_
  exact fb_ret hx hb hr hlocks hF hS (fun k _ => fb_close rfl _) (k_at kcX3_ok 74 rfl) rfl rfl
set_option maxRecDepth 20000 in
theorem i_X3_2 (l : Launch) {D : va_G} {cA : Nat → ClassId} {base zq : Nat} {op : Nat × Nat → Option va_E} (hop : op (47, 2) = some (.inr (3, [.int (Int32.ofInt 0), .int (Int32.ofInt 0), .int (Int32.ofInt 0), .int (Int32.ofInt 0), .null, .null, .null, .int (Int32.ofInt 0), .null, .null, .null, .null, .null, .null]))) (hno : ∀ k, 256 ≤ k → k < nC → op (vcC k) = none) : iMet l (wC D cA base) vcC base zq yX3_init cX3_init 2 4 33 198 s1 op 256 255 [.int (Int32.ofInt 2)] s1 (opS op (47, 2) none) 289 := by
  refine i_intro (by decide) rfl (Nat.le_of_ble_eq_true rfl) (fun p e s m args below meth c ls hx hb hml hown hts hin hr hlocks hBK hsz hF hS hl => ?_)
  have hK := hBK.1
  have SC : CallFix p m c cX3_init 2 s args lw_kept RX3 := ⟨hx, hb, hml, hown, hts⟩
  have hown : s.vm.findClass RX3 = some m.cls := hown
  have hcI : s.vm.findClass ("[" ++ FieldType.int.toString) = some (cA 1) := (hK.1.2 0 _ rfl).2
  have hcI2 : s.vm.findClass (FieldType.array .int).toString = some (cA 1) := hcI
  have hcZ : s.vm.findClass ("[" ++ FieldType.boolean.toString) = some (cA 3) := (hK.1.2 2 _ rfl).2
  have hcO : s.vm.findClass ("[" ++ (FieldType.array .int).toString) = some (cA 5) := (hK.1.2 3 _ rfl).2
  refine lv_aload_n hx hb (k_at kcX3_ok 0 rfl) rfl (lv_at hl 0 rfl) ?_
  refine fb_obj SC (kept_t 231 (by decide +kernel) rfl) (kept_t 24 (by decide +kernel) rfl) (kept_t 25 (by decide +kernel) rfl) hl.1 ⟨(Nat.le_of_ble_eq_true rfl), (Nat.le_of_ble_eq_true rfl)⟩ (k_at kcX3_ok 1 rfl) ?_
  refine W.eq (g2 := F0 m 4 ls []) rfl ?_
  refine lv_aload_n hx hb (k_at kcX3_ok 2 rfl) rfl (lv_at hl 0 rfl) ?_
  refine lv_iload_n hx hb (k_at kcX3_ok 3 rfl) rfl (lv_at hl 1 rfl) ?_
  refine fb_put hx hb hts hK hin hF hS (by omega) hown 255 (47, 2) (by decide) rfl (fun k hk h => vc_u (Nat.lt_of_lt_of_le hk (by decide +kernel)) h (by decide +kernel)) (fs := [.int (Int32.ofInt 0), .int (Int32.ofInt 0), .int (Int32.ofInt 0), .int (Int32.ofInt 0), .null, .null, .null, .int (Int32.ofInt 0), .null, .null, .null, .null, .null, .null]) hop rfl inX3 tyX3 tyX3_ok nmX3 0 (by decide) (kept_t 238 (by decide +kernel) rfl) rfl rfl rfl rfl (Nat.le_of_ble_eq_true rfl) (k_at kcX3_ok 4 rfl) ?_
  intro H locs hF hS
  replace hF : FB (wC D cA base) vcC base s1 (opS op (47, 2) (some (.inr (3, [.int (Int32.ofInt 2), .int (Int32.ofInt 0), .int (Int32.ofInt 0), .int (Int32.ofInt 0), .null, .null, .null, .int (Int32.ofInt 0), .null, .null, .null, .null, .null, .null])))) 256 H := hF
  refine W.eq (g2 := F0 m 9 ls []) rfl ?_
  refine lv_aload_n hx hb (k_at kcX3_ok 5 rfl) rfl (lv_at hl 0 rfl) ?_
  refine lv_iload_n hx hb (k_at kcX3_ok 6 rfl) rfl (lv_at hl 1 rfl) ?_
  refine fb_width SC hK (kept_t 232 (by decide +kernel) rfl) hF hS (by omega) (by omega) hl.1 (Nat.le_of_ble_eq_true rfl) ⟨(Nat.le_of_ble_eq_true rfl), (Nat.le_of_ble_eq_true rfl)⟩ ⟨(Nat.le_of_ble_eq_true rfl), (Nat.le_of_ble_eq_true rfl)⟩ (z := 2) (v := 6) (by decide) (by decide +kernel) (k_at kcX3_ok 7 rfl) ?_
  intro H locs hF hS
  refine fb_put hx hb hts hK hin hF hS (by omega) hown 255 (47, 2) (by decide) rfl (fun k hk h => vc_u (Nat.lt_of_lt_of_le hk (by decide +kernel)) h (by decide +kernel)) (fs := [.int (Int32.ofInt 2), .int (Int32.ofInt 0), .int (Int32.ofInt 0), .int (Int32.ofInt 0), .null, .null, .null, .int (Int32.ofInt 0), .null, .null, .null, .null, .null, .null]) (opS_s _ _ _) rfl inX3 tyX3 tyX3_ok nmX3 1 (by decide) (kept_t 240 (by decide +kernel) rfl) rfl rfl rfl rfl (Nat.le_of_ble_eq_true rfl) (k_at kcX3_ok 8 rfl) ?_
  intro H locs hF hS
  rw [opS_opS] at hF
  replace hF : FB (wC D cA base) vcC base s1 (opS op (47, 2) (some (.inr (3, [.int (Int32.ofInt 2), .int (Int32.ofInt 6), .int (Int32.ofInt 0), .int (Int32.ofInt 0), .null, .null, .null, .int (Int32.ofInt 0), .null, .null, .null, .null, .null, .null])))) 256 H := hF
  refine W.eq (g2 := F0 m 17 ls []) rfl ?_
  refine lv_aload_n hx hb (k_at kcX3_ok 9 rfl) rfl (lv_at hl 0 rfl) ?_
  refine lv_iload_n hx hb (k_at kcX3_ok 10 rfl) rfl (lv_at hl 1 rfl) ?_
  refine lv_if_lt hx hb (tgt := 38) (k_at kcX3_ok 11 rfl) rfl (fun h => absurd h (by decide)) (fun _ => ?_)
  refine lv_iload_n hx hb (k_at kcX3_ok 12 rfl) rfl (lv_at hl 1 rfl) ?_
  refine fb_gets hx hb hBK hS hown (k_at kcX3_ok 13 rfl) ?_
  refine fb_zlen hx hb hBK hS (by omega) (k_at kcX3_ok 14 rfl) ?_
  refine lv_icmp_ge hx hb (tgt := 38) (k_at kcX3_ok 15 rfl) rfl (fun h => absurd h (by decide)) (fun _ => ?_)
  refine fb_gets hx hb hBK hS hown (k_at kcX3_ok 16 rfl) ?_
  refine lv_iload_n hx hb (k_at kcX3_ok 17 rfl) rfl (lv_at hl 1 rfl) ?_
  refine fb_zald hx hb hBK hS (by omega) (z := 2) (v := 6) (j := 2) (iin (a := 2) (by decide) (by decide)) (by decide) (by decide) (k_at kcX3_ok 18 rfl) ?_
  refine lv_goto hx hb (tgt := 39) (k_at kcX3_ok 19 rfl) rfl ?_
  refine fb_put hx hb hts hK hin hF hS (by omega) hown 255 (47, 2) (by decide) rfl (fun k hk h => vc_u (Nat.lt_of_lt_of_le hk (by decide +kernel)) h (by decide +kernel)) (fs := [.int (Int32.ofInt 2), .int (Int32.ofInt 6), .int (Int32.ofInt 0), .int (Int32.ofInt 0), .null, .null, .null, .int (Int32.ofInt 0), .null, .null, .null, .null, .null, .null]) (opS_s _ _ _) rfl inX3 tyX3 tyX3_ok nmX3 2 (by decide) (kept_t 242 (by decide +kernel) rfl) rfl rfl rfl rfl (Nat.le_of_ble_eq_true rfl) (k_at kcX3_ok 21 rfl) ?_
  intro H locs hF hS
  rw [opS_opS] at hF
  replace hF : FB (wC D cA base) vcC base s1 (opS op (47, 2) (some (.inr (3, [.int (Int32.ofInt 2), .int (Int32.ofInt 6), .int (Int32.ofInt 6), .int (Int32.ofInt 0), .null, .null, .null, .int (Int32.ofInt 0), .null, .null, .null, .null, .null, .null])))) 256 H := hF
  refine W.eq (g2 := F0 m 42 ls []) rfl ?_
  refine lv_aload_n hx hb (k_at kcX3_ok 22 rfl) rfl (lv_at hl 0 rfl) ?_
  refine lv_aload_n hx hb (k_at kcX3_ok 23 rfl) rfl (lv_at hl 0 rfl) ?_
  refine fb_get hx hb hts hK hF hown 255 (47, 2) (by decide) rfl (fs := [.int (Int32.ofInt 2), .int (Int32.ofInt 6), .int (Int32.ofInt 6), .int (Int32.ofInt 0), .null, .null, .null, .int (Int32.ofInt 0), .null, .null, .null, .null, .null, .null]) (opS_s _ _ _) rfl inX3 2 (by decide) (kept_t 242 (by decide +kernel) rfl) rfl (k_at kcX3_ok 24 rfl) ?_
  refine lv_bipush hx hb (k_at kcX3_ok 25 rfl) (ofI_8 (by decide) (by decide)) ?_
  refine fb_multi hx hb hts (ao_mv (Vm.Alike.refl _) hBK.2.1) hF hS hown (kept_t 237 (by decide +kernel) rfl) (kept_t 43 (by decide +kernel) rfl) hcO hcI2 (N := 6) (M := 6) (by decide) (by decide) (by decide) (by decide) (by decide) (by decide) (q0 := (48, 2)) rfl ((opS_no hno (show offC 47 2 < 256 by decide +kernel) (Nat.le_refl _)) 256 (by decide) (by decide +kernel)) rfl (fun j hj => congrArg some (show base + offC 49 (64 * 2 + j) = base + 256 + 1 + j by rw [off49 (by omega)]; show base + (257 + j) = _; omega)) (fb_rows (r := 49) (i0 := 64 * 2) (by decide +kernel) (fun k h1 h2 => (opS_no hno (show offC 47 2 < 256 by decide +kernel) (Nat.le_refl _)) k (Nat.le_trans (by decide) h1) h2) (by decide +kernel) (fun j hj => by show Sum.inl (cA 1, 6, Sum.inl fun _ => Int32.ofInt 0) = _; rw [i0]; rfl)) (Nat.le_of_ble_eq_true rfl) (Nat.le_of_ble_eq_true rfl) (k_at kcX3_ok 26 rfl) ?_
  intro H hF hS
  refine fb_put hx hb hts hK hin hF hS (by omega) hown 255 (47, 2) (by decide) rfl (fun k hk h => vc_u (Nat.lt_of_lt_of_le hk (by decide +kernel)) h (by decide +kernel)) (fs := [.int (Int32.ofInt 2), .int (Int32.ofInt 6), .int (Int32.ofInt 6), .int (Int32.ofInt 0), .null, .null, .null, .int (Int32.ofInt 0), .null, .null, .null, .null, .null, .null]) (opS_s _ _ _) rfl inX3 tyX3 tyX3_ok nmX3 4 (by decide) (kept_t 246 (by decide +kernel) rfl) rfl rfl rfl rfl (Nat.le_of_ble_eq_true rfl) (k_at kcX3_ok 27 rfl) ?_
  intro H locs hF hS
  rw [opS_opS] at hF
  replace hF : FB (wC D cA base) vcC base s1 (opS op (47, 2) (some (.inr (3, [.int (Int32.ofInt 2), .int (Int32.ofInt 6), .int (Int32.ofInt 6), .int (Int32.ofInt 0), .ref (base + 256), .null, .null, .int (Int32.ofInt 0), .null, .null, .null, .null, .null, .null])))) 263 H := hF
  refine W.eq (g2 := F0 m 56 ls []) rfl ?_
  refine lv_aload_n hx hb (k_at kcX3_ok 28 rfl) rfl (lv_at hl 0 rfl) ?_
  refine lv_aload_n hx hb (k_at kcX3_ok 29 rfl) rfl (lv_at hl 0 rfl) ?_
  refine fb_get hx hb hts hK hF hown 255 (47, 2) (by decide) rfl (fs := [.int (Int32.ofInt 2), .int (Int32.ofInt 6), .int (Int32.ofInt 6), .int (Int32.ofInt 0), .ref (base + 256), .null, .null, .int (Int32.ofInt 0), .null, .null, .null, .null, .null, .null]) (opS_s _ _ _) rfl inX3 2 (by decide) (kept_t 242 (by decide +kernel) rfl) rfl (k_at kcX3_ok 30 rfl) ?_
  refine lv_aload_n hx hb (k_at kcX3_ok 31 rfl) rfl (lv_at hl 0 rfl) ?_
  refine fb_get hx hb hts hK hF hown 255 (47, 2) (by decide) rfl (fs := [.int (Int32.ofInt 2), .int (Int32.ofInt 6), .int (Int32.ofInt 6), .int (Int32.ofInt 0), .ref (base + 256), .null, .null, .int (Int32.ofInt 0), .null, .null, .null, .null, .null, .null]) (opS_s _ _ _) rfl inX3 1 (by decide) (kept_t 240 (by decide +kernel) rfl) rfl (k_at kcX3_ok 32 rfl) ?_
  refine fb_multi hx hb hts (ao_mv (Vm.Alike.refl _) hBK.2.1) hF hS hown (kept_t 237 (by decide +kernel) rfl) (kept_t 43 (by decide +kernel) rfl) hcO hcI2 (N := 6) (M := 6) (by decide) (by decide) (by decide) (by decide) (by decide) (by decide) (q0 := (50, 2)) rfl ((opS_no hno (show offC 47 2 < 256 by decide +kernel) (Nat.le_refl _)) 263 (by decide) (by decide +kernel)) rfl (fun j hj => congrArg some (show base + offC 51 (64 * 2 + j) = base + 263 + 1 + j by rw [off51 (by omega)]; show base + (264 + j) = _; omega)) (fb_rows (r := 51) (i0 := 64 * 2) (by decide +kernel) (fun k h1 h2 => (opS_no hno (show offC 47 2 < 256 by decide +kernel) (Nat.le_refl _)) k (Nat.le_trans (by decide) h1) h2) (by decide +kernel) (fun j hj => by show Sum.inl (cA 1, gwd ((64 * 2 + j) / 64), Sum.inl fun _ => Int32.ofInt 0) = _; rw [show (64 * 2 + j) / 64 = 2 from by omega, i0]; rfl)) (Nat.le_of_ble_eq_true rfl) (Nat.le_of_ble_eq_true rfl) (k_at kcX3_ok 33 rfl) ?_
  intro H hF hS
  refine fb_put hx hb hts hK hin hF hS (by omega) hown 255 (47, 2) (by decide) rfl (fun k hk h => vc_u (Nat.lt_of_lt_of_le hk (by decide +kernel)) h (by decide +kernel)) (fs := [.int (Int32.ofInt 2), .int (Int32.ofInt 6), .int (Int32.ofInt 6), .int (Int32.ofInt 0), .ref (base + 256), .null, .null, .int (Int32.ofInt 0), .null, .null, .null, .null, .null, .null]) (opS_s _ _ _) rfl inX3 tyX3 tyX3_ok nmX3 5 (by decide) (kept_t 248 (by decide +kernel) rfl) rfl rfl rfl rfl (Nat.le_of_ble_eq_true rfl) (k_at kcX3_ok 34 rfl) ?_
  intro H locs hF hS
  rw [opS_opS] at hF
  replace hF : FB (wC D cA base) vcC base s1 (opS op (47, 2) (some (.inr (3, [.int (Int32.ofInt 2), .int (Int32.ofInt 6), .int (Int32.ofInt 6), .int (Int32.ofInt 0), .ref (base + 256), .ref (base + 263), .null, .int (Int32.ofInt 0), .null, .null, .null, .null, .null, .null])))) 270 H := hF
  refine W.eq (g2 := F0 m 72 ls []) rfl ?_
  refine lv_aload_n hx hb (k_at kcX3_ok 35 rfl) rfl (lv_at hl 0 rfl) ?_
  refine lv_aload_n hx hb (k_at kcX3_ok 36 rfl) rfl (lv_at hl 0 rfl) ?_
  refine fb_get hx hb hts hK hF hown 255 (47, 2) (by decide) rfl (fs := [.int (Int32.ofInt 2), .int (Int32.ofInt 6), .int (Int32.ofInt 6), .int (Int32.ofInt 0), .ref (base + 256), .ref (base + 263), .null, .int (Int32.ofInt 0), .null, .null, .null, .null, .null, .null]) (opS_s _ _ _) rfl inX3 2 (by decide) (kept_t 242 (by decide +kernel) rfl) rfl (k_at kcX3_ok 37 rfl) ?_
  refine fb_newa (kd := 1) hx hb hts hK hF hS (by omega) (by omega) (atype := .int) (ty := .int) rfl (kept_t 43 (by decide +kernel) rfl) hcI (q0 := (52, 2)) rfl ((opS_no hno (show offC 47 2 < 256 by decide +kernel) (Nat.le_refl _)) 270 (by decide) (by decide +kernel)) (a0 := (6, .inl fun k => Int32.ofInt (s1 52 2 k))) rfl (N := 6) (fun cA => z_int (fun _ => i0) cA 6) (by decide) (by decide) (by decide) (Nat.le_of_ble_eq_true rfl) (Nat.le_of_ble_eq_true rfl) (k_at kcX3_ok 38 rfl) (fun _ h => h) ?_
  intro H hF hS
  refine fb_put hx hb hts hK hin hF hS (by omega) hown 255 (47, 2) (by decide) rfl (fun k hk h => vc_u (Nat.lt_of_lt_of_le hk (by decide +kernel)) h (by decide +kernel)) (fs := [.int (Int32.ofInt 2), .int (Int32.ofInt 6), .int (Int32.ofInt 6), .int (Int32.ofInt 0), .ref (base + 256), .ref (base + 263), .null, .int (Int32.ofInt 0), .null, .null, .null, .null, .null, .null]) (opS_s _ _ _) rfl inX3 tyX3 tyX3_ok nmX3 6 (by decide) (kept_t 250 (by decide +kernel) rfl) rfl rfl rfl rfl (Nat.le_of_ble_eq_true rfl) (k_at kcX3_ok 39 rfl) ?_
  intro H locs hF hS
  rw [opS_opS] at hF
  replace hF : FB (wC D cA base) vcC base s1 (opS op (47, 2) (some (.inr (3, [.int (Int32.ofInt 2), .int (Int32.ofInt 6), .int (Int32.ofInt 6), .int (Int32.ofInt 0), .ref (base + 256), .ref (base + 263), .ref (base + 270), .int (Int32.ofInt 0), .null, .null, .null, .null, .null, .null])))) 271 H := hF
  refine W.eq (g2 := F0 m 82 ls []) rfl ?_
  refine lv_aload_n hx hb (k_at kcX3_ok 40 rfl) rfl (lv_at hl 0 rfl) ?_
  refine lv_aload_n hx hb (k_at kcX3_ok 41 rfl) rfl (lv_at hl 0 rfl) ?_
  refine fb_get hx hb hts hK hF hown 255 (47, 2) (by decide) rfl (fs := [.int (Int32.ofInt 2), .int (Int32.ofInt 6), .int (Int32.ofInt 6), .int (Int32.ofInt 0), .ref (base + 256), .ref (base + 263), .ref (base + 270), .int (Int32.ofInt 0), .null, .null, .null, .null, .null, .null]) (opS_s _ _ _) rfl inX3 1 (by decide) (kept_t 240 (by decide +kernel) rfl) rfl (k_at kcX3_ok 42 rfl) ?_
  refine fb_newa (kd := 1) hx hb hts hK hF hS (by omega) (by omega) (atype := .int) (ty := .int) rfl (kept_t 43 (by decide +kernel) rfl) hcI (q0 := (53, 2)) rfl ((opS_no hno (show offC 47 2 < 256 by decide +kernel) (Nat.le_refl _)) 271 (by decide) (by decide +kernel)) (a0 := (6, .inl fun k => Int32.ofInt (s1 53 2 k))) rfl (N := 6) (fun cA => z_int (fun _ => i0) cA 6) (by decide) (by decide) (by decide) (Nat.le_of_ble_eq_true rfl) (Nat.le_of_ble_eq_true rfl) (k_at kcX3_ok 43 rfl) (fun _ h => h) ?_
  intro H hF hS
  refine fb_put hx hb hts hK hin hF hS (by omega) hown 255 (47, 2) (by decide) rfl (fun k hk h => vc_u (Nat.lt_of_lt_of_le hk (by decide +kernel)) h (by decide +kernel)) (fs := [.int (Int32.ofInt 2), .int (Int32.ofInt 6), .int (Int32.ofInt 6), .int (Int32.ofInt 0), .ref (base + 256), .ref (base + 263), .ref (base + 270), .int (Int32.ofInt 0), .null, .null, .null, .null, .null, .null]) (opS_s _ _ _) rfl inX3 tyX3 tyX3_ok nmX3 8 (by decide) (kept_t 253 (by decide +kernel) rfl) rfl rfl rfl rfl (Nat.le_of_ble_eq_true rfl) (k_at kcX3_ok 44 rfl) ?_
  intro H locs hF hS
  rw [opS_opS] at hF
  replace hF : FB (wC D cA base) vcC base s1 (opS op (47, 2) (some (.inr (3, [.int (Int32.ofInt 2), .int (Int32.ofInt 6), .int (Int32.ofInt 6), .int (Int32.ofInt 0), .ref (base + 256), .ref (base + 263), .ref (base + 270), .int (Int32.ofInt 0), .ref (base + 271), .null, .null, .null, .null, .null])))) 272 H := hF
  refine W.eq (g2 := F0 m 92 ls []) rfl ?_
  refine lv_aload_n hx hb (k_at kcX3_ok 45 rfl) rfl (lv_at hl 0 rfl) ?_
  refine lv_aload_n hx hb (k_at kcX3_ok 46 rfl) rfl (lv_at hl 0 rfl) ?_
  refine fb_get hx hb hts hK hF hown 255 (47, 2) (by decide) rfl (fs := [.int (Int32.ofInt 2), .int (Int32.ofInt 6), .int (Int32.ofInt 6), .int (Int32.ofInt 0), .ref (base + 256), .ref (base + 263), .ref (base + 270), .int (Int32.ofInt 0), .ref (base + 271), .null, .null, .null, .null, .null]) (opS_s _ _ _) rfl inX3 1 (by decide) (kept_t 240 (by decide +kernel) rfl) rfl (k_at kcX3_ok 47 rfl) ?_
  refine lv_aload_n hx hb (k_at kcX3_ok 48 rfl) rfl (lv_at hl 0 rfl) ?_
  refine fb_get hx hb hts hK hF hown 255 (47, 2) (by decide) rfl (fs := [.int (Int32.ofInt 2), .int (Int32.ofInt 6), .int (Int32.ofInt 6), .int (Int32.ofInt 0), .ref (base + 256), .ref (base + 263), .ref (base + 270), .int (Int32.ofInt 0), .ref (base + 271), .null, .null, .null, .null, .null]) (opS_s _ _ _) rfl inX3 1 (by decide) (kept_t 240 (by decide +kernel) rfl) rfl (k_at kcX3_ok 49 rfl) ?_
  refine fb_multi hx hb hts (ao_mv (Vm.Alike.refl _) hBK.2.1) hF hS hown (kept_t 237 (by decide +kernel) rfl) (kept_t 43 (by decide +kernel) rfl) hcO hcI2 (N := 6) (M := 6) (by decide) (by decide) (by decide) (by decide) (by decide) (by decide) (q0 := (54, 2)) rfl ((opS_no hno (show offC 47 2 < 256 by decide +kernel) (Nat.le_refl _)) 272 (by decide) (by decide +kernel)) rfl (fun j hj => congrArg some (show base + offC 55 (64 * 2 + j) = base + 272 + 1 + j by rw [off55 (by omega)]; show base + (273 + j) = _; omega)) (fb_rows (r := 55) (i0 := 64 * 2) (by decide +kernel) (fun k h1 h2 => (opS_no hno (show offC 47 2 < 256 by decide +kernel) (Nat.le_refl _)) k (Nat.le_trans (by decide) h1) h2) (by decide +kernel) (fun j hj => by show Sum.inl (cA 1, gwd ((64 * 2 + j) / 64), Sum.inl fun _ => Int32.ofInt 0) = _; rw [show (64 * 2 + j) / 64 = 2 from by omega, i0]; rfl)) (Nat.le_of_ble_eq_true rfl) (Nat.le_of_ble_eq_true rfl) (k_at kcX3_ok 50 rfl) ?_
  intro H hF hS
  refine fb_put hx hb hts hK hin hF hS (by omega) hown 255 (47, 2) (by decide) rfl (fun k hk h => vc_u (Nat.lt_of_lt_of_le hk (by decide +kernel)) h (by decide +kernel)) (fs := [.int (Int32.ofInt 2), .int (Int32.ofInt 6), .int (Int32.ofInt 6), .int (Int32.ofInt 0), .ref (base + 256), .ref (base + 263), .ref (base + 270), .int (Int32.ofInt 0), .ref (base + 271), .null, .null, .null, .null, .null]) (opS_s _ _ _) rfl inX3 tyX3 tyX3_ok nmX3 9 (by decide) (kept_t 254 (by decide +kernel) rfl) rfl rfl rfl rfl (Nat.le_of_ble_eq_true rfl) (k_at kcX3_ok 51 rfl) ?_
  intro H locs hF hS
  rw [opS_opS] at hF
  replace hF : FB (wC D cA base) vcC base s1 (opS op (47, 2) (some (.inr (3, [.int (Int32.ofInt 2), .int (Int32.ofInt 6), .int (Int32.ofInt 6), .int (Int32.ofInt 0), .ref (base + 256), .ref (base + 263), .ref (base + 270), .int (Int32.ofInt 0), .ref (base + 271), .ref (base + 272), .null, .null, .null, .null])))) 279 H := hF
  refine W.eq (g2 := F0 m 108 ls []) rfl ?_
  refine lv_aload_n hx hb (k_at kcX3_ok 52 rfl) rfl (lv_at hl 0 rfl) ?_
  refine lv_aload_n hx hb (k_at kcX3_ok 53 rfl) rfl (lv_at hl 0 rfl) ?_
  refine fb_get hx hb hts hK hF hown 255 (47, 2) (by decide) rfl (fs := [.int (Int32.ofInt 2), .int (Int32.ofInt 6), .int (Int32.ofInt 6), .int (Int32.ofInt 0), .ref (base + 256), .ref (base + 263), .ref (base + 270), .int (Int32.ofInt 0), .ref (base + 271), .ref (base + 272), .null, .null, .null, .null]) (opS_s _ _ _) rfl inX3 1 (by decide) (kept_t 240 (by decide +kernel) rfl) rfl (k_at kcX3_ok 54 rfl) ?_
  refine lv_aload_n hx hb (k_at kcX3_ok 55 rfl) rfl (lv_at hl 0 rfl) ?_
  refine fb_get hx hb hts hK hF hown 255 (47, 2) (by decide) rfl (fs := [.int (Int32.ofInt 2), .int (Int32.ofInt 6), .int (Int32.ofInt 6), .int (Int32.ofInt 0), .ref (base + 256), .ref (base + 263), .ref (base + 270), .int (Int32.ofInt 0), .ref (base + 271), .ref (base + 272), .null, .null, .null, .null]) (opS_s _ _ _) rfl inX3 1 (by decide) (kept_t 240 (by decide +kernel) rfl) rfl (k_at kcX3_ok 56 rfl) ?_
  refine fb_multi hx hb hts (ao_mv (Vm.Alike.refl _) hBK.2.1) hF hS hown (kept_t 237 (by decide +kernel) rfl) (kept_t 43 (by decide +kernel) rfl) hcO hcI2 (N := 6) (M := 6) (by decide) (by decide) (by decide) (by decide) (by decide) (by decide) (q0 := (56, 2)) rfl ((opS_no hno (show offC 47 2 < 256 by decide +kernel) (Nat.le_refl _)) 279 (by decide) (by decide +kernel)) rfl (fun j hj => congrArg some (show base + offC 57 (64 * 2 + j) = base + 279 + 1 + j by rw [off57 (by omega)]; show base + (280 + j) = _; omega)) (fb_rows (r := 57) (i0 := 64 * 2) (by decide +kernel) (fun k h1 h2 => (opS_no hno (show offC 47 2 < 256 by decide +kernel) (Nat.le_refl _)) k (Nat.le_trans (by decide) h1) h2) (by decide +kernel) (fun j hj => by show Sum.inl (cA 1, gwd ((64 * 2 + j) / 64), Sum.inl fun _ => Int32.ofInt 0) = _; rw [show (64 * 2 + j) / 64 = 2 from by omega, i0]; rfl)) (Nat.le_of_ble_eq_true rfl) (Nat.le_of_ble_eq_true rfl) (k_at kcX3_ok 57 rfl) ?_
  intro H hF hS
  refine fb_put hx hb hts hK hin hF hS (by omega) hown 255 (47, 2) (by decide) rfl (fun k hk h => vc_u (Nat.lt_of_lt_of_le hk (by decide +kernel)) h (by decide +kernel)) (fs := [.int (Int32.ofInt 2), .int (Int32.ofInt 6), .int (Int32.ofInt 6), .int (Int32.ofInt 0), .ref (base + 256), .ref (base + 263), .ref (base + 270), .int (Int32.ofInt 0), .ref (base + 271), .ref (base + 272), .null, .null, .null, .null]) (opS_s _ _ _) rfl inX3 tyX3 tyX3_ok nmX3 10 (by decide) (kept_t 255 (by decide +kernel) rfl) rfl rfl rfl rfl (Nat.le_of_ble_eq_true rfl) (k_at kcX3_ok 58 rfl) ?_
  intro H locs hF hS
  rw [opS_opS] at hF
  replace hF : FB (wC D cA base) vcC base s1 (opS op (47, 2) (some (.inr (3, [.int (Int32.ofInt 2), .int (Int32.ofInt 6), .int (Int32.ofInt 6), .int (Int32.ofInt 0), .ref (base + 256), .ref (base + 263), .ref (base + 270), .int (Int32.ofInt 0), .ref (base + 271), .ref (base + 272), .ref (base + 279), .null, .null, .null])))) 286 H := hF
  refine W.eq (g2 := F0 m 124 ls []) rfl ?_
  refine lv_aload_n hx hb (k_at kcX3_ok 59 rfl) rfl (lv_at hl 0 rfl) ?_
  refine lv_aload_n hx hb (k_at kcX3_ok 60 rfl) rfl (lv_at hl 0 rfl) ?_
  refine fb_get hx hb hts hK hF hown 255 (47, 2) (by decide) rfl (fs := [.int (Int32.ofInt 2), .int (Int32.ofInt 6), .int (Int32.ofInt 6), .int (Int32.ofInt 0), .ref (base + 256), .ref (base + 263), .ref (base + 270), .int (Int32.ofInt 0), .ref (base + 271), .ref (base + 272), .ref (base + 279), .null, .null, .null]) (opS_s _ _ _) rfl inX3 1 (by decide) (kept_t 240 (by decide +kernel) rfl) rfl (k_at kcX3_ok 61 rfl) ?_
  refine fb_newa (kd := 1) hx hb hts hK hF hS (by omega) (by omega) (atype := .int) (ty := .int) rfl (kept_t 43 (by decide +kernel) rfl) hcI (q0 := (58, 2)) rfl ((opS_no hno (show offC 47 2 < 256 by decide +kernel) (Nat.le_refl _)) 286 (by decide) (by decide +kernel)) (a0 := (6, .inl fun k => Int32.ofInt (s1 58 2 k))) rfl (N := 6) (fun cA => z_int (fun _ => i0) cA 6) (by decide) (by decide) (by decide) (Nat.le_of_ble_eq_true rfl) (Nat.le_of_ble_eq_true rfl) (k_at kcX3_ok 62 rfl) (fun _ h => h) ?_
  intro H hF hS
  refine fb_put hx hb hts hK hin hF hS (by omega) hown 255 (47, 2) (by decide) rfl (fun k hk h => vc_u (Nat.lt_of_lt_of_le hk (by decide +kernel)) h (by decide +kernel)) (fs := [.int (Int32.ofInt 2), .int (Int32.ofInt 6), .int (Int32.ofInt 6), .int (Int32.ofInt 0), .ref (base + 256), .ref (base + 263), .ref (base + 270), .int (Int32.ofInt 0), .ref (base + 271), .ref (base + 272), .ref (base + 279), .null, .null, .null]) (opS_s _ _ _) rfl inX3 tyX3 tyX3_ok nmX3 11 (by decide) (kept_t 256 (by decide +kernel) rfl) rfl rfl rfl rfl (Nat.le_of_ble_eq_true rfl) (k_at kcX3_ok 63 rfl) ?_
  intro H locs hF hS
  rw [opS_opS] at hF
  replace hF : FB (wC D cA base) vcC base s1 (opS op (47, 2) (some (.inr (3, [.int (Int32.ofInt 2), .int (Int32.ofInt 6), .int (Int32.ofInt 6), .int (Int32.ofInt 0), .ref (base + 256), .ref (base + 263), .ref (base + 270), .int (Int32.ofInt 0), .ref (base + 271), .ref (base + 272), .ref (base + 279), .ref (base + 286), .null, .null])))) 287 H := hF
  refine W.eq (g2 := F0 m 134 ls []) rfl ?_
  refine lv_aload_n hx hb (k_at kcX3_ok 64 rfl) rfl (lv_at hl 0 rfl) ?_
  refine lv_aload_n hx hb (k_at kcX3_ok 65 rfl) rfl (lv_at hl 0 rfl) ?_
  refine fb_get hx hb hts hK hF hown 255 (47, 2) (by decide) rfl (fs := [.int (Int32.ofInt 2), .int (Int32.ofInt 6), .int (Int32.ofInt 6), .int (Int32.ofInt 0), .ref (base + 256), .ref (base + 263), .ref (base + 270), .int (Int32.ofInt 0), .ref (base + 271), .ref (base + 272), .ref (base + 279), .ref (base + 286), .null, .null]) (opS_s _ _ _) rfl inX3 1 (by decide) (kept_t 240 (by decide +kernel) rfl) rfl (k_at kcX3_ok 66 rfl) ?_
  refine fb_newa (kd := 1) hx hb hts hK hF hS (by omega) (by omega) (atype := .int) (ty := .int) rfl (kept_t 43 (by decide +kernel) rfl) hcI (q0 := (59, 2)) rfl ((opS_no hno (show offC 47 2 < 256 by decide +kernel) (Nat.le_refl _)) 287 (by decide) (by decide +kernel)) (a0 := (6, .inl fun k => Int32.ofInt (s1 59 2 k))) rfl (N := 6) (fun cA => z_int (fun _ => i0) cA 6) (by decide) (by decide) (by decide) (Nat.le_of_ble_eq_true rfl) (Nat.le_of_ble_eq_true rfl) (k_at kcX3_ok 67 rfl) (fun _ h => h) ?_
  intro H hF hS
  refine fb_put hx hb hts hK hin hF hS (by omega) hown 255 (47, 2) (by decide) rfl (fun k hk h => vc_u (Nat.lt_of_lt_of_le hk (by decide +kernel)) h (by decide +kernel)) (fs := [.int (Int32.ofInt 2), .int (Int32.ofInt 6), .int (Int32.ofInt 6), .int (Int32.ofInt 0), .ref (base + 256), .ref (base + 263), .ref (base + 270), .int (Int32.ofInt 0), .ref (base + 271), .ref (base + 272), .ref (base + 279), .ref (base + 286), .null, .null]) (opS_s _ _ _) rfl inX3 tyX3 tyX3_ok nmX3 12 (by decide) (kept_t 257 (by decide +kernel) rfl) rfl rfl rfl rfl (Nat.le_of_ble_eq_true rfl) (k_at kcX3_ok 68 rfl) ?_
  intro H locs hF hS
  rw [opS_opS] at hF
  replace hF : FB (wC D cA base) vcC base s1 (opS op (47, 2) (some (.inr (3, [.int (Int32.ofInt 2), .int (Int32.ofInt 6), .int (Int32.ofInt 6), .int (Int32.ofInt 0), .ref (base + 256), .ref (base + 263), .ref (base + 270), .int (Int32.ofInt 0), .ref (base + 271), .ref (base + 272), .ref (base + 279), .ref (base + 286), .ref (base + 287), .null])))) 288 H := hF
  refine W.eq (g2 := F0 m 144 ls []) rfl ?_
  refine lv_aload_n hx hb (k_at kcX3_ok 69 rfl) rfl (lv_at hl 0 rfl) ?_
  refine lv_aload_n hx hb (k_at kcX3_ok 70 rfl) rfl (lv_at hl 0 rfl) ?_
  refine fb_get hx hb hts hK hF hown 255 (47, 2) (by decide) rfl (fs := [.int (Int32.ofInt 2), .int (Int32.ofInt 6), .int (Int32.ofInt 6), .int (Int32.ofInt 0), .ref (base + 256), .ref (base + 263), .ref (base + 270), .int (Int32.ofInt 0), .ref (base + 271), .ref (base + 272), .ref (base + 279), .ref (base + 286), .ref (base + 287), .null]) (opS_s _ _ _) rfl inX3 1 (by decide) (kept_t 240 (by decide +kernel) rfl) rfl (k_at kcX3_ok 71 rfl) ?_
  refine fb_newa (kd := 1) hx hb hts hK hF hS (by omega) (by omega) (atype := .int) (ty := .int) rfl (kept_t 43 (by decide +kernel) rfl) hcI (q0 := (60, 2)) rfl ((opS_no hno (show offC 47 2 < 256 by decide +kernel) (Nat.le_refl _)) 288 (by decide) (by decide +kernel)) (a0 := (6, .inl fun k => Int32.ofInt (s1 60 2 k))) rfl (N := 6) (fun cA => z_int (fun _ => i0) cA 6) (by decide) (by decide) (by decide) (Nat.le_of_ble_eq_true rfl) (Nat.le_of_ble_eq_true rfl) (k_at kcX3_ok 72 rfl) (fun _ h => h) ?_
  intro H hF hS
  refine fb_put hx hb hts hK hin hF hS (by omega) hown 255 (47, 2) (by decide) rfl (fun k hk h => vc_u (Nat.lt_of_lt_of_le hk (by decide +kernel)) h (by decide +kernel)) (fs := [.int (Int32.ofInt 2), .int (Int32.ofInt 6), .int (Int32.ofInt 6), .int (Int32.ofInt 0), .ref (base + 256), .ref (base + 263), .ref (base + 270), .int (Int32.ofInt 0), .ref (base + 271), .ref (base + 272), .ref (base + 279), .ref (base + 286), .ref (base + 287), .null]) (opS_s _ _ _) rfl inX3 tyX3 tyX3_ok nmX3 13 (by decide) (kept_t 258 (by decide +kernel) rfl) rfl rfl rfl rfl (Nat.le_of_ble_eq_true rfl) (k_at kcX3_ok 73 rfl) ?_
  intro H locs hF hS
  rw [opS_opS] at hF
  replace hF : FB (wC D cA base) vcC base s1 (opS op (47, 2) (some (.inr (3, [.int (Int32.ofInt 2), .int (Int32.ofInt 6), .int (Int32.ofInt 6), .int (Int32.ofInt 0), .ref (base + 256), .ref (base + 263), .ref (base + 270), .int (Int32.ofInt 0), .ref (base + 271), .ref (base + 272), .ref (base + 279), .ref (base + 286), .ref (base + 287), .ref (base + 288)])))) 289 H := hF
  refine W.eq (g2 := F0 m 154 ls []) rfl ?_
  exact fb_ret hx hb hr hlocks hF hS (fun k _ => fb_close rfl _) (k_at kcX3_ok 74 rfl) rfl rfl
set_option maxRecDepth 20000 in
theorem i_X3_3 (l : Launch) {D : va_G} {cA : Nat → ClassId} {base zq : Nat} {op : Nat × Nat → Option va_E} (hop : op (47, 3) = some (.inr (3, [.int (Int32.ofInt 0), .int (Int32.ofInt 0), .int (Int32.ofInt 0), .int (Int32.ofInt 0), .null, .null, .null, .int (Int32.ofInt 0), .null, .null, .null, .null, .null, .null]))) (hno : ∀ k, 290 ≤ k → k < nC → op (vcC k) = none) : iMet l (wC D cA base) vcC base zq yX3_init cX3_init 2 4 49 450 s1 op 290 289 [.int (Int32.ofInt 3)] s1 (opS op (47, 3) none) 339 := by
  refine i_intro (by decide) rfl (Nat.le_of_ble_eq_true rfl) (fun p e s m args below meth c ls hx hb hml hown hts hin hr hlocks hBK hsz hF hS hl => ?_)
  have hK := hBK.1
  have SC : CallFix p m c cX3_init 2 s args lw_kept RX3 := ⟨hx, hb, hml, hown, hts⟩
  have hown : s.vm.findClass RX3 = some m.cls := hown
  have hcI : s.vm.findClass ("[" ++ FieldType.int.toString) = some (cA 1) := (hK.1.2 0 _ rfl).2
  have hcI2 : s.vm.findClass (FieldType.array .int).toString = some (cA 1) := hcI
  have hcZ : s.vm.findClass ("[" ++ FieldType.boolean.toString) = some (cA 3) := (hK.1.2 2 _ rfl).2
  have hcO : s.vm.findClass ("[" ++ (FieldType.array .int).toString) = some (cA 5) := (hK.1.2 3 _ rfl).2
  refine lv_aload_n hx hb (k_at kcX3_ok 0 rfl) rfl (lv_at hl 0 rfl) ?_
  refine fb_obj SC (kept_t 231 (by decide +kernel) rfl) (kept_t 24 (by decide +kernel) rfl) (kept_t 25 (by decide +kernel) rfl) hl.1 ⟨(Nat.le_of_ble_eq_true rfl), (Nat.le_of_ble_eq_true rfl)⟩ (k_at kcX3_ok 1 rfl) ?_
  refine W.eq (g2 := F0 m 4 ls []) rfl ?_
  refine lv_aload_n hx hb (k_at kcX3_ok 2 rfl) rfl (lv_at hl 0 rfl) ?_
  refine lv_iload_n hx hb (k_at kcX3_ok 3 rfl) rfl (lv_at hl 1 rfl) ?_
  refine fb_put hx hb hts hK hin hF hS (by omega) hown 289 (47, 3) (by decide) rfl (fun k hk h => vc_u (Nat.lt_of_lt_of_le hk (by decide +kernel)) h (by decide +kernel)) (fs := [.int (Int32.ofInt 0), .int (Int32.ofInt 0), .int (Int32.ofInt 0), .int (Int32.ofInt 0), .null, .null, .null, .int (Int32.ofInt 0), .null, .null, .null, .null, .null, .null]) hop rfl inX3 tyX3 tyX3_ok nmX3 0 (by decide) (kept_t 238 (by decide +kernel) rfl) rfl rfl rfl rfl (Nat.le_of_ble_eq_true rfl) (k_at kcX3_ok 4 rfl) ?_
  intro H locs hF hS
  replace hF : FB (wC D cA base) vcC base s1 (opS op (47, 3) (some (.inr (3, [.int (Int32.ofInt 3), .int (Int32.ofInt 0), .int (Int32.ofInt 0), .int (Int32.ofInt 0), .null, .null, .null, .int (Int32.ofInt 0), .null, .null, .null, .null, .null, .null])))) 290 H := hF
  refine W.eq (g2 := F0 m 9 ls []) rfl ?_
  refine lv_aload_n hx hb (k_at kcX3_ok 5 rfl) rfl (lv_at hl 0 rfl) ?_
  refine lv_iload_n hx hb (k_at kcX3_ok 6 rfl) rfl (lv_at hl 1 rfl) ?_
  refine fb_width SC hK (kept_t 232 (by decide +kernel) rfl) hF hS (by omega) (by omega) hl.1 (Nat.le_of_ble_eq_true rfl) ⟨(Nat.le_of_ble_eq_true rfl), (Nat.le_of_ble_eq_true rfl)⟩ ⟨(Nat.le_of_ble_eq_true rfl), (Nat.le_of_ble_eq_true rfl)⟩ (z := 3) (v := 10) (by decide) (by decide +kernel) (k_at kcX3_ok 7 rfl) ?_
  intro H locs hF hS
  refine fb_put hx hb hts hK hin hF hS (by omega) hown 289 (47, 3) (by decide) rfl (fun k hk h => vc_u (Nat.lt_of_lt_of_le hk (by decide +kernel)) h (by decide +kernel)) (fs := [.int (Int32.ofInt 3), .int (Int32.ofInt 0), .int (Int32.ofInt 0), .int (Int32.ofInt 0), .null, .null, .null, .int (Int32.ofInt 0), .null, .null, .null, .null, .null, .null]) (opS_s _ _ _) rfl inX3 tyX3 tyX3_ok nmX3 1 (by decide) (kept_t 240 (by decide +kernel) rfl) rfl rfl rfl rfl (Nat.le_of_ble_eq_true rfl) (k_at kcX3_ok 8 rfl) ?_
  intro H locs hF hS
  rw [opS_opS] at hF
  replace hF : FB (wC D cA base) vcC base s1 (opS op (47, 3) (some (.inr (3, [.int (Int32.ofInt 3), .int (Int32.ofInt 10), .int (Int32.ofInt 0), .int (Int32.ofInt 0), .null, .null, .null, .int (Int32.ofInt 0), .null, .null, .null, .null, .null, .null])))) 290 H := hF
  refine W.eq (g2 := F0 m 17 ls []) rfl ?_
  refine lv_aload_n hx hb (k_at kcX3_ok 9 rfl) rfl (lv_at hl 0 rfl) ?_
  refine lv_iload_n hx hb (k_at kcX3_ok 10 rfl) rfl (lv_at hl 1 rfl) ?_
  refine lv_if_lt hx hb (tgt := 38) (k_at kcX3_ok 11 rfl) rfl (fun h => absurd h (by decide)) (fun _ => ?_)
  refine lv_iload_n hx hb (k_at kcX3_ok 12 rfl) rfl (lv_at hl 1 rfl) ?_
  refine fb_gets hx hb hBK hS hown (k_at kcX3_ok 13 rfl) ?_
  refine fb_zlen hx hb hBK hS (by omega) (k_at kcX3_ok 14 rfl) ?_
  refine lv_icmp_ge hx hb (tgt := 38) (k_at kcX3_ok 15 rfl) rfl (fun h => absurd h (by decide)) (fun _ => ?_)
  refine fb_gets hx hb hBK hS hown (k_at kcX3_ok 16 rfl) ?_
  refine lv_iload_n hx hb (k_at kcX3_ok 17 rfl) rfl (lv_at hl 1 rfl) ?_
  refine fb_zald hx hb hBK hS (by omega) (z := 3) (v := 10) (j := 3) (iin (a := 3) (by decide) (by decide)) (by decide) (by decide) (k_at kcX3_ok 18 rfl) ?_
  refine lv_goto hx hb (tgt := 39) (k_at kcX3_ok 19 rfl) rfl ?_
  refine fb_put hx hb hts hK hin hF hS (by omega) hown 289 (47, 3) (by decide) rfl (fun k hk h => vc_u (Nat.lt_of_lt_of_le hk (by decide +kernel)) h (by decide +kernel)) (fs := [.int (Int32.ofInt 3), .int (Int32.ofInt 10), .int (Int32.ofInt 0), .int (Int32.ofInt 0), .null, .null, .null, .int (Int32.ofInt 0), .null, .null, .null, .null, .null, .null]) (opS_s _ _ _) rfl inX3 tyX3 tyX3_ok nmX3 2 (by decide) (kept_t 242 (by decide +kernel) rfl) rfl rfl rfl rfl (Nat.le_of_ble_eq_true rfl) (k_at kcX3_ok 21 rfl) ?_
  intro H locs hF hS
  rw [opS_opS] at hF
  replace hF : FB (wC D cA base) vcC base s1 (opS op (47, 3) (some (.inr (3, [.int (Int32.ofInt 3), .int (Int32.ofInt 10), .int (Int32.ofInt 10), .int (Int32.ofInt 0), .null, .null, .null, .int (Int32.ofInt 0), .null, .null, .null, .null, .null, .null])))) 290 H := hF
  refine W.eq (g2 := F0 m 42 ls []) rfl ?_
  refine lv_aload_n hx hb (k_at kcX3_ok 22 rfl) rfl (lv_at hl 0 rfl) ?_
  refine lv_aload_n hx hb (k_at kcX3_ok 23 rfl) rfl (lv_at hl 0 rfl) ?_
  refine fb_get hx hb hts hK hF hown 289 (47, 3) (by decide) rfl (fs := [.int (Int32.ofInt 3), .int (Int32.ofInt 10), .int (Int32.ofInt 10), .int (Int32.ofInt 0), .null, .null, .null, .int (Int32.ofInt 0), .null, .null, .null, .null, .null, .null]) (opS_s _ _ _) rfl inX3 2 (by decide) (kept_t 242 (by decide +kernel) rfl) rfl (k_at kcX3_ok 24 rfl) ?_
  refine lv_bipush hx hb (k_at kcX3_ok 25 rfl) (ofI_8 (by decide) (by decide)) ?_
  refine fb_multi hx hb hts (ao_mv (Vm.Alike.refl _) hBK.2.1) hF hS hown (kept_t 237 (by decide +kernel) rfl) (kept_t 43 (by decide +kernel) rfl) hcO hcI2 (N := 10) (M := 6) (by decide) (by decide) (by decide) (by decide) (by decide) (by decide) (q0 := (48, 3)) rfl ((opS_no hno (show offC 47 3 < 290 by decide +kernel) (Nat.le_refl _)) 290 (by decide) (by decide +kernel)) rfl (fun j hj => congrArg some (show base + offC 49 (64 * 3 + j) = base + 290 + 1 + j by rw [off49 (by omega)]; show base + (291 + j) = _; omega)) (fb_rows (r := 49) (i0 := 64 * 3) (by decide +kernel) (fun k h1 h2 => (opS_no hno (show offC 47 3 < 290 by decide +kernel) (Nat.le_refl _)) k (Nat.le_trans (by decide) h1) h2) (by decide +kernel) (fun j hj => by show Sum.inl (cA 1, 6, Sum.inl fun _ => Int32.ofInt 0) = _; rw [i0]; rfl)) (Nat.le_of_ble_eq_true rfl) (Nat.le_of_ble_eq_true rfl) (k_at kcX3_ok 26 rfl) ?_
  intro H hF hS
  refine fb_put hx hb hts hK hin hF hS (by omega) hown 289 (47, 3) (by decide) rfl (fun k hk h => vc_u (Nat.lt_of_lt_of_le hk (by decide +kernel)) h (by decide +kernel)) (fs := [.int (Int32.ofInt 3), .int (Int32.ofInt 10), .int (Int32.ofInt 10), .int (Int32.ofInt 0), .null, .null, .null, .int (Int32.ofInt 0), .null, .null, .null, .null, .null, .null]) (opS_s _ _ _) rfl inX3 tyX3 tyX3_ok nmX3 4 (by decide) (kept_t 246 (by decide +kernel) rfl) rfl rfl rfl rfl (Nat.le_of_ble_eq_true rfl) (k_at kcX3_ok 27 rfl) ?_
  intro H locs hF hS
  rw [opS_opS] at hF
  replace hF : FB (wC D cA base) vcC base s1 (opS op (47, 3) (some (.inr (3, [.int (Int32.ofInt 3), .int (Int32.ofInt 10), .int (Int32.ofInt 10), .int (Int32.ofInt 0), .ref (base + 290), .null, .null, .int (Int32.ofInt 0), .null, .null, .null, .null, .null, .null])))) 301 H := hF
  refine W.eq (g2 := F0 m 56 ls []) rfl ?_
  refine lv_aload_n hx hb (k_at kcX3_ok 28 rfl) rfl (lv_at hl 0 rfl) ?_
  refine lv_aload_n hx hb (k_at kcX3_ok 29 rfl) rfl (lv_at hl 0 rfl) ?_
  refine fb_get hx hb hts hK hF hown 289 (47, 3) (by decide) rfl (fs := [.int (Int32.ofInt 3), .int (Int32.ofInt 10), .int (Int32.ofInt 10), .int (Int32.ofInt 0), .ref (base + 290), .null, .null, .int (Int32.ofInt 0), .null, .null, .null, .null, .null, .null]) (opS_s _ _ _) rfl inX3 2 (by decide) (kept_t 242 (by decide +kernel) rfl) rfl (k_at kcX3_ok 30 rfl) ?_
  refine lv_aload_n hx hb (k_at kcX3_ok 31 rfl) rfl (lv_at hl 0 rfl) ?_
  refine fb_get hx hb hts hK hF hown 289 (47, 3) (by decide) rfl (fs := [.int (Int32.ofInt 3), .int (Int32.ofInt 10), .int (Int32.ofInt 10), .int (Int32.ofInt 0), .ref (base + 290), .null, .null, .int (Int32.ofInt 0), .null, .null, .null, .null, .null, .null]) (opS_s _ _ _) rfl inX3 1 (by decide) (kept_t 240 (by decide +kernel) rfl) rfl (k_at kcX3_ok 32 rfl) ?_
  refine fb_multi hx hb hts (ao_mv (Vm.Alike.refl _) hBK.2.1) hF hS hown (kept_t 237 (by decide +kernel) rfl) (kept_t 43 (by decide +kernel) rfl) hcO hcI2 (N := 10) (M := 10) (by decide) (by decide) (by decide) (by decide) (by decide) (by decide) (q0 := (50, 3)) rfl ((opS_no hno (show offC 47 3 < 290 by decide +kernel) (Nat.le_refl _)) 301 (by decide) (by decide +kernel)) rfl (fun j hj => congrArg some (show base + offC 51 (64 * 3 + j) = base + 301 + 1 + j by rw [off51 (by omega)]; show base + (302 + j) = _; omega)) (fb_rows (r := 51) (i0 := 64 * 3) (by decide +kernel) (fun k h1 h2 => (opS_no hno (show offC 47 3 < 290 by decide +kernel) (Nat.le_refl _)) k (Nat.le_trans (by decide) h1) h2) (by decide +kernel) (fun j hj => by show Sum.inl (cA 1, gwd ((64 * 3 + j) / 64), Sum.inl fun _ => Int32.ofInt 0) = _; rw [show (64 * 3 + j) / 64 = 3 from by omega, i0]; rfl)) (Nat.le_of_ble_eq_true rfl) (Nat.le_of_ble_eq_true rfl) (k_at kcX3_ok 33 rfl) ?_
  intro H hF hS
  refine fb_put hx hb hts hK hin hF hS (by omega) hown 289 (47, 3) (by decide) rfl (fun k hk h => vc_u (Nat.lt_of_lt_of_le hk (by decide +kernel)) h (by decide +kernel)) (fs := [.int (Int32.ofInt 3), .int (Int32.ofInt 10), .int (Int32.ofInt 10), .int (Int32.ofInt 0), .ref (base + 290), .null, .null, .int (Int32.ofInt 0), .null, .null, .null, .null, .null, .null]) (opS_s _ _ _) rfl inX3 tyX3 tyX3_ok nmX3 5 (by decide) (kept_t 248 (by decide +kernel) rfl) rfl rfl rfl rfl (Nat.le_of_ble_eq_true rfl) (k_at kcX3_ok 34 rfl) ?_
  intro H locs hF hS
  rw [opS_opS] at hF
  replace hF : FB (wC D cA base) vcC base s1 (opS op (47, 3) (some (.inr (3, [.int (Int32.ofInt 3), .int (Int32.ofInt 10), .int (Int32.ofInt 10), .int (Int32.ofInt 0), .ref (base + 290), .ref (base + 301), .null, .int (Int32.ofInt 0), .null, .null, .null, .null, .null, .null])))) 312 H := hF
  refine W.eq (g2 := F0 m 72 ls []) rfl ?_
  refine lv_aload_n hx hb (k_at kcX3_ok 35 rfl) rfl (lv_at hl 0 rfl) ?_
  refine lv_aload_n hx hb (k_at kcX3_ok 36 rfl) rfl (lv_at hl 0 rfl) ?_
  refine fb_get hx hb hts hK hF hown 289 (47, 3) (by decide) rfl (fs := [.int (Int32.ofInt 3), .int (Int32.ofInt 10), .int (Int32.ofInt 10), .int (Int32.ofInt 0), .ref (base + 290), .ref (base + 301), .null, .int (Int32.ofInt 0), .null, .null, .null, .null, .null, .null]) (opS_s _ _ _) rfl inX3 2 (by decide) (kept_t 242 (by decide +kernel) rfl) rfl (k_at kcX3_ok 37 rfl) ?_
  refine fb_newa (kd := 1) hx hb hts hK hF hS (by omega) (by omega) (atype := .int) (ty := .int) rfl (kept_t 43 (by decide +kernel) rfl) hcI (q0 := (52, 3)) rfl ((opS_no hno (show offC 47 3 < 290 by decide +kernel) (Nat.le_refl _)) 312 (by decide) (by decide +kernel)) (a0 := (10, .inl fun k => Int32.ofInt (s1 52 3 k))) rfl (N := 10) (fun cA => z_int (fun _ => i0) cA 10) (by decide) (by decide) (by decide) (Nat.le_of_ble_eq_true rfl) (Nat.le_of_ble_eq_true rfl) (k_at kcX3_ok 38 rfl) (fun _ h => h) ?_
  intro H hF hS
  refine fb_put hx hb hts hK hin hF hS (by omega) hown 289 (47, 3) (by decide) rfl (fun k hk h => vc_u (Nat.lt_of_lt_of_le hk (by decide +kernel)) h (by decide +kernel)) (fs := [.int (Int32.ofInt 3), .int (Int32.ofInt 10), .int (Int32.ofInt 10), .int (Int32.ofInt 0), .ref (base + 290), .ref (base + 301), .null, .int (Int32.ofInt 0), .null, .null, .null, .null, .null, .null]) (opS_s _ _ _) rfl inX3 tyX3 tyX3_ok nmX3 6 (by decide) (kept_t 250 (by decide +kernel) rfl) rfl rfl rfl rfl (Nat.le_of_ble_eq_true rfl) (k_at kcX3_ok 39 rfl) ?_
  intro H locs hF hS
  rw [opS_opS] at hF
  replace hF : FB (wC D cA base) vcC base s1 (opS op (47, 3) (some (.inr (3, [.int (Int32.ofInt 3), .int (Int32.ofInt 10), .int (Int32.ofInt 10), .int (Int32.ofInt 0), .ref (base + 290), .ref (base + 301), .ref (base + 312), .int (Int32.ofInt 0), .null, .null, .null, .null, .null, .null])))) 313 H := hF
  refine W.eq (g2 := F0 m 82 ls []) rfl ?_
  refine lv_aload_n hx hb (k_at kcX3_ok 40 rfl) rfl (lv_at hl 0 rfl) ?_
  refine lv_aload_n hx hb (k_at kcX3_ok 41 rfl) rfl (lv_at hl 0 rfl) ?_
  refine fb_get hx hb hts hK hF hown 289 (47, 3) (by decide) rfl (fs := [.int (Int32.ofInt 3), .int (Int32.ofInt 10), .int (Int32.ofInt 10), .int (Int32.ofInt 0), .ref (base + 290), .ref (base + 301), .ref (base + 312), .int (Int32.ofInt 0), .null, .null, .null, .null, .null, .null]) (opS_s _ _ _) rfl inX3 1 (by decide) (kept_t 240 (by decide +kernel) rfl) rfl (k_at kcX3_ok 42 rfl) ?_
  refine fb_newa (kd := 1) hx hb hts hK hF hS (by omega) (by omega) (atype := .int) (ty := .int) rfl (kept_t 43 (by decide +kernel) rfl) hcI (q0 := (53, 3)) rfl ((opS_no hno (show offC 47 3 < 290 by decide +kernel) (Nat.le_refl _)) 313 (by decide) (by decide +kernel)) (a0 := (10, .inl fun k => Int32.ofInt (s1 53 3 k))) rfl (N := 10) (fun cA => z_int (fun _ => i0) cA 10) (by decide) (by decide) (by decide) (Nat.le_of_ble_eq_true rfl) (Nat.le_of_ble_eq_true rfl) (k_at kcX3_ok 43 rfl) (fun _ h => h) ?_
  intro H hF hS
  refine fb_put hx hb hts hK hin hF hS (by omega) hown 289 (47, 3) (by decide) rfl (fun k hk h => vc_u (Nat.lt_of_lt_of_le hk (by decide +kernel)) h (by decide +kernel)) (fs := [.int (Int32.ofInt 3), .int (Int32.ofInt 10), .int (Int32.ofInt 10), .int (Int32.ofInt 0), .ref (base + 290), .ref (base + 301), .ref (base + 312), .int (Int32.ofInt 0), .null, .null, .null, .null, .null, .null]) (opS_s _ _ _) rfl inX3 tyX3 tyX3_ok nmX3 8 (by decide) (kept_t 253 (by decide +kernel) rfl) rfl rfl rfl rfl (Nat.le_of_ble_eq_true rfl) (k_at kcX3_ok 44 rfl) ?_
  intro H locs hF hS
  rw [opS_opS] at hF
  replace hF : FB (wC D cA base) vcC base s1 (opS op (47, 3) (some (.inr (3, [.int (Int32.ofInt 3), .int (Int32.ofInt 10), .int (Int32.ofInt 10), .int (Int32.ofInt 0), .ref (base + 290), .ref (base + 301), .ref (base + 312), .int (Int32.ofInt 0), .ref (base + 313), .null, .null, .null, .null, .null])))) 314 H := hF
  refine W.eq (g2 := F0 m 92 ls []) rfl ?_
  refine lv_aload_n hx hb (k_at kcX3_ok 45 rfl) rfl (lv_at hl 0 rfl) ?_
  refine lv_aload_n hx hb (k_at kcX3_ok 46 rfl) rfl (lv_at hl 0 rfl) ?_
  refine fb_get hx hb hts hK hF hown 289 (47, 3) (by decide) rfl (fs := [.int (Int32.ofInt 3), .int (Int32.ofInt 10), .int (Int32.ofInt 10), .int (Int32.ofInt 0), .ref (base + 290), .ref (base + 301), .ref (base + 312), .int (Int32.ofInt 0), .ref (base + 313), .null, .null, .null, .null, .null]) (opS_s _ _ _) rfl inX3 1 (by decide) (kept_t 240 (by decide +kernel) rfl) rfl (k_at kcX3_ok 47 rfl) ?_
  refine lv_aload_n hx hb (k_at kcX3_ok 48 rfl) rfl (lv_at hl 0 rfl) ?_
  refine fb_get hx hb hts hK hF hown 289 (47, 3) (by decide) rfl (fs := [.int (Int32.ofInt 3), .int (Int32.ofInt 10), .int (Int32.ofInt 10), .int (Int32.ofInt 0), .ref (base + 290), .ref (base + 301), .ref (base + 312), .int (Int32.ofInt 0), .ref (base + 313), .null, .null, .null, .null, .null]) (opS_s _ _ _) rfl inX3 1 (by decide) (kept_t 240 (by decide +kernel) rfl) rfl (k_at kcX3_ok 49 rfl) ?_
  refine fb_multi hx hb hts (ao_mv (Vm.Alike.refl _) hBK.2.1) hF hS hown (kept_t 237 (by decide +kernel) rfl) (kept_t 43 (by decide +kernel) rfl) hcO hcI2 (N := 10) (M := 10) (by decide) (by decide) (by decide) (by decide) (by decide) (by decide) (q0 := (54, 3)) rfl ((opS_no hno (show offC 47 3 < 290 by decide +kernel) (Nat.le_refl _)) 314 (by decide) (by decide +kernel)) rfl (fun j hj => congrArg some (show base + offC 55 (64 * 3 + j) = base + 314 + 1 + j by rw [off55 (by omega)]; show base + (315 + j) = _; omega)) (fb_rows (r := 55) (i0 := 64 * 3) (by decide +kernel) (fun k h1 h2 => (opS_no hno (show offC 47 3 < 290 by decide +kernel) (Nat.le_refl _)) k (Nat.le_trans (by decide) h1) h2) (by decide +kernel) (fun j hj => by show Sum.inl (cA 1, gwd ((64 * 3 + j) / 64), Sum.inl fun _ => Int32.ofInt 0) = _; rw [show (64 * 3 + j) / 64 = 3 from by omega, i0]; rfl)) (Nat.le_of_ble_eq_true rfl) (Nat.le_of_ble_eq_true rfl) (k_at kcX3_ok 50 rfl) ?_
  intro H hF hS
  refine fb_put hx hb hts hK hin hF hS (by omega) hown 289 (47, 3) (by decide) rfl (fun k hk h => vc_u (Nat.lt_of_lt_of_le hk (by decide +kernel)) h (by decide +kernel)) (fs := [.int (Int32.ofInt 3), .int (Int32.ofInt 10), .int (Int32.ofInt 10), .int (Int32.ofInt 0), .ref (base + 290), .ref (base + 301), .ref (base + 312), .int (Int32.ofInt 0), .ref (base + 313), .null, .null, .null, .null, .null]) (opS_s _ _ _) rfl inX3 tyX3 tyX3_ok nmX3 9 (by decide) (kept_t 254 (by decide +kernel) rfl) rfl rfl rfl rfl (Nat.le_of_ble_eq_true rfl) (k_at kcX3_ok 51 rfl) ?_
  intro H locs hF hS
  rw [opS_opS] at hF
  replace hF : FB (wC D cA base) vcC base s1 (opS op (47, 3) (some (.inr (3, [.int (Int32.ofInt 3), .int (Int32.ofInt 10), .int (Int32.ofInt 10), .int (Int32.ofInt 0), .ref (base + 290), .ref (base + 301), .ref (base + 312), .int (Int32.ofInt 0), .ref (base + 313), .ref (base + 314), .null, .null, .null, .null])))) 325 H := hF
  refine W.eq (g2 := F0 m 108 ls []) rfl ?_
  refine lv_aload_n hx hb (k_at kcX3_ok 52 rfl) rfl (lv_at hl 0 rfl) ?_
  refine lv_aload_n hx hb (k_at kcX3_ok 53 rfl) rfl (lv_at hl 0 rfl) ?_
  refine fb_get hx hb hts hK hF hown 289 (47, 3) (by decide) rfl (fs := [.int (Int32.ofInt 3), .int (Int32.ofInt 10), .int (Int32.ofInt 10), .int (Int32.ofInt 0), .ref (base + 290), .ref (base + 301), .ref (base + 312), .int (Int32.ofInt 0), .ref (base + 313), .ref (base + 314), .null, .null, .null, .null]) (opS_s _ _ _) rfl inX3 1 (by decide) (kept_t 240 (by decide +kernel) rfl) rfl (k_at kcX3_ok 54 rfl) ?_
  refine lv_aload_n hx hb (k_at kcX3_ok 55 rfl) rfl (lv_at hl 0 rfl) ?_
  refine fb_get hx hb hts hK hF hown 289 (47, 3) (by decide) rfl (fs := [.int (Int32.ofInt 3), .int (Int32.ofInt 10), .int (Int32.ofInt 10), .int (Int32.ofInt 0), .ref (base + 290), .ref (base + 301), .ref (base + 312), .int (Int32.ofInt 0), .ref (base + 313), .ref (base + 314), .null, .null, .null, .null]) (opS_s _ _ _) rfl inX3 1 (by decide) (kept_t 240 (by decide +kernel) rfl) rfl (k_at kcX3_ok 56 rfl) ?_
  refine fb_multi hx hb hts (ao_mv (Vm.Alike.refl _) hBK.2.1) hF hS hown (kept_t 237 (by decide +kernel) rfl) (kept_t 43 (by decide +kernel) rfl) hcO hcI2 (N := 10) (M := 10) (by decide) (by decide) (by decide) (by decide) (by decide) (by decide) (q0 := (56, 3)) rfl ((opS_no hno (show offC 47 3 < 290 by decide +kernel) (Nat.le_refl _)) 325 (by decide) (by decide +kernel)) rfl (fun j hj => congrArg some (show base + offC 57 (64 * 3 + j) = base + 325 + 1 + j by rw [off57 (by omega)]; show base + (326 + j) = _; omega)) (fb_rows (r := 57) (i0 := 64 * 3) (by decide +kernel) (fun k h1 h2 => (opS_no hno (show offC 47 3 < 290 by decide +kernel) (Nat.le_refl _)) k (Nat.le_trans (by decide) h1) h2) (by decide +kernel) (fun j hj => by show Sum.inl (cA 1, gwd ((64 * 3 + j) / 64), Sum.inl fun _ => Int32.ofInt 0) = _; rw [show (64 * 3 + j) / 64 = 3 from by omega, i0]; rfl)) (Nat.le_of_ble_eq_true rfl) (Nat.le_of_ble_eq_true rfl) (k_at kcX3_ok 57 rfl) ?_
  intro H hF hS
  refine fb_put hx hb hts hK hin hF hS (by omega) hown 289 (47, 3) (by decide) rfl (fun k hk h => vc_u (Nat.lt_of_lt_of_le hk (by decide +kernel)) h (by decide +kernel)) (fs := [.int (Int32.ofInt 3), .int (Int32.ofInt 10), .int (Int32.ofInt 10), .int (Int32.ofInt 0), .ref (base + 290), .ref (base + 301), .ref (base + 312), .int (Int32.ofInt 0), .ref (base + 313), .ref (base + 314), .null, .null, .null, .null]) (opS_s _ _ _) rfl inX3 tyX3 tyX3_ok nmX3 10 (by decide) (kept_t 255 (by decide +kernel) rfl) rfl rfl rfl rfl (Nat.le_of_ble_eq_true rfl) (k_at kcX3_ok 58 rfl) ?_
  intro H locs hF hS
  rw [opS_opS] at hF
  replace hF : FB (wC D cA base) vcC base s1 (opS op (47, 3) (some (.inr (3, [.int (Int32.ofInt 3), .int (Int32.ofInt 10), .int (Int32.ofInt 10), .int (Int32.ofInt 0), .ref (base + 290), .ref (base + 301), .ref (base + 312), .int (Int32.ofInt 0), .ref (base + 313), .ref (base + 314), .ref (base + 325), .null, .null, .null])))) 336 H := hF
  refine W.eq (g2 := F0 m 124 ls []) rfl ?_
  refine lv_aload_n hx hb (k_at kcX3_ok 59 rfl) rfl (lv_at hl 0 rfl) ?_
  refine lv_aload_n hx hb (k_at kcX3_ok 60 rfl) rfl (lv_at hl 0 rfl) ?_
  refine fb_get hx hb hts hK hF hown 289 (47, 3) (by decide) rfl (fs := [.int (Int32.ofInt 3), .int (Int32.ofInt 10), .int (Int32.ofInt 10), .int (Int32.ofInt 0), .ref (base + 290), .ref (base + 301), .ref (base + 312), .int (Int32.ofInt 0), .ref (base + 313), .ref (base + 314), .ref (base + 325), .null, .null, .null]) (opS_s _ _ _) rfl inX3 1 (by decide) (kept_t 240 (by decide +kernel) rfl) rfl (k_at kcX3_ok 61 rfl) ?_
  refine fb_newa (kd := 1) hx hb hts hK hF hS (by omega) (by omega) (atype := .int) (ty := .int) rfl (kept_t 43 (by decide +kernel) rfl) hcI (q0 := (58, 3)) rfl ((opS_no hno (show offC 47 3 < 290 by decide +kernel) (Nat.le_refl _)) 336 (by decide) (by decide +kernel)) (a0 := (10, .inl fun k => Int32.ofInt (s1 58 3 k))) rfl (N := 10) (fun cA => z_int (fun _ => i0) cA 10) (by decide) (by decide) (by decide) (Nat.le_of_ble_eq_true rfl) (Nat.le_of_ble_eq_true rfl) (k_at kcX3_ok 62 rfl) (fun _ h => h) ?_
  intro H hF hS
  refine fb_put hx hb hts hK hin hF hS (by omega) hown 289 (47, 3) (by decide) rfl (fun k hk h => vc_u (Nat.lt_of_lt_of_le hk (by decide +kernel)) h (by decide +kernel)) (fs := [.int (Int32.ofInt 3), .int (Int32.ofInt 10), .int (Int32.ofInt 10), .int (Int32.ofInt 0), .ref (base + 290), .ref (base + 301), .ref (base + 312), .int (Int32.ofInt 0), .ref (base + 313), .ref (base + 314), .ref (base + 325), .null, .null, .null]) (opS_s _ _ _) rfl inX3 tyX3 tyX3_ok nmX3 11 (by decide) (kept_t 256 (by decide +kernel) rfl) rfl rfl rfl rfl (Nat.le_of_ble_eq_true rfl) (k_at kcX3_ok 63 rfl) ?_
  intro H locs hF hS
  rw [opS_opS] at hF
  replace hF : FB (wC D cA base) vcC base s1 (opS op (47, 3) (some (.inr (3, [.int (Int32.ofInt 3), .int (Int32.ofInt 10), .int (Int32.ofInt 10), .int (Int32.ofInt 0), .ref (base + 290), .ref (base + 301), .ref (base + 312), .int (Int32.ofInt 0), .ref (base + 313), .ref (base + 314), .ref (base + 325), .ref (base + 336), .null, .null])))) 337 H := hF
  refine W.eq (g2 := F0 m 134 ls []) rfl ?_
  refine lv_aload_n hx hb (k_at kcX3_ok 64 rfl) rfl (lv_at hl 0 rfl) ?_
  refine lv_aload_n hx hb (k_at kcX3_ok 65 rfl) rfl (lv_at hl 0 rfl) ?_
  refine fb_get hx hb hts hK hF hown 289 (47, 3) (by decide) rfl (fs := [.int (Int32.ofInt 3), .int (Int32.ofInt 10), .int (Int32.ofInt 10), .int (Int32.ofInt 0), .ref (base + 290), .ref (base + 301), .ref (base + 312), .int (Int32.ofInt 0), .ref (base + 313), .ref (base + 314), .ref (base + 325), .ref (base + 336), .null, .null]) (opS_s _ _ _) rfl inX3 1 (by decide) (kept_t 240 (by decide +kernel) rfl) rfl (k_at kcX3_ok 66 rfl) ?_
  refine fb_newa (kd := 1) hx hb hts hK hF hS (by omega) (by omega) (atype := .int) (ty := .int) rfl (kept_t 43 (by decide +kernel) rfl) hcI (q0 := (59, 3)) rfl ((opS_no hno (show offC 47 3 < 290 by decide +kernel) (Nat.le_refl _)) 337 (by decide) (by decide +kernel)) (a0 := (10, .inl fun k => Int32.ofInt (s1 59 3 k))) rfl (N := 10) (fun cA => z_int (fun _ => i0) cA 10) (by decide) (by decide) (by decide) (Nat.le_of_ble_eq_true rfl) (Nat.le_of_ble_eq_true rfl) (k_at kcX3_ok 67 rfl) (fun _ h => h) ?_
  intro H hF hS
  refine fb_put hx hb hts hK hin hF hS (by omega) hown 289 (47, 3) (by decide) rfl (fun k hk h => vc_u (Nat.lt_of_lt_of_le hk (by decide +kernel)) h (by decide +kernel)) (fs := [.int (Int32.ofInt 3), .int (Int32.ofInt 10), .int (Int32.ofInt 10), .int (Int32.ofInt 0), .ref (base + 290), .ref (base + 301), .ref (base + 312), .int (Int32.ofInt 0), .ref (base + 313), .ref (base + 314), .ref (base + 325), .ref (base + 336), .null, .null]) (opS_s _ _ _) rfl inX3 tyX3 tyX3_ok nmX3 12 (by decide) (kept_t 257 (by decide +kernel) rfl) rfl rfl rfl rfl (Nat.le_of_ble_eq_true rfl) (k_at kcX3_ok 68 rfl) ?_
  intro H locs hF hS
  rw [opS_opS] at hF
  replace hF : FB (wC D cA base) vcC base s1 (opS op (47, 3) (some (.inr (3, [.int (Int32.ofInt 3), .int (Int32.ofInt 10), .int (Int32.ofInt 10), .int (Int32.ofInt 0), .ref (base + 290), .ref (base + 301), .ref (base + 312), .int (Int32.ofInt 0), .ref (base + 313), .ref (base + 314), .ref (base + 325), .ref (base + 336), .ref (base + 337), .null])))) 338 H := hF
  refine W.eq (g2 := F0 m 144 ls []) rfl ?_
  refine lv_aload_n hx hb (k_at kcX3_ok 69 rfl) rfl (lv_at hl 0 rfl) ?_
  refine lv_aload_n hx hb (k_at kcX3_ok 70 rfl) rfl (lv_at hl 0 rfl) ?_
  refine fb_get hx hb hts hK hF hown 289 (47, 3) (by decide) rfl (fs := [.int (Int32.ofInt 3), .int (Int32.ofInt 10), .int (Int32.ofInt 10), .int (Int32.ofInt 0), .ref (base + 290), .ref (base + 301), .ref (base + 312), .int (Int32.ofInt 0), .ref (base + 313), .ref (base + 314), .ref (base + 325), .ref (base + 336), .ref (base + 337), .null]) (opS_s _ _ _) rfl inX3 1 (by decide) (kept_t 240 (by decide +kernel) rfl) rfl (k_at kcX3_ok 71 rfl) ?_
  refine fb_newa (kd := 1) hx hb hts hK hF hS (by omega) (by omega) (atype := .int) (ty := .int) rfl (kept_t 43 (by decide +kernel) rfl) hcI (q0 := (60, 3)) rfl ((opS_no hno (show offC 47 3 < 290 by decide +kernel) (Nat.le_refl _)) 338 (by decide) (by decide +kernel)) (a0 := (10, .inl fun k => Int32.ofInt (s1 60 3 k))) rfl (N := 10) (fun cA => z_int (fun _ => i0) cA 10) (by decide) (by decide) (by decide) (Nat.le_of_ble_eq_true rfl) (Nat.le_of_ble_eq_true rfl) (k_at kcX3_ok 72 rfl) (fun _ h => h) ?_
  intro H hF hS
  refine fb_put hx hb hts hK hin hF hS (by omega) hown 289 (47, 3) (by decide) rfl (fun k hk h => vc_u (Nat.lt_of_lt_of_le hk (by decide +kernel)) h (by decide +kernel)) (fs := [.int (Int32.ofInt 3), .int (Int32.ofInt 10), .int (Int32.ofInt 10), .int (Int32.ofInt 0), .ref (base + 290), .ref (base + 301), .ref (base + 312), .int (Int32.ofInt 0), .ref (base + 313), .ref (base + 314), .ref (base + 325), .ref (base + 336), .ref (base + 337), .null]) (opS_s _ _ _) rfl inX3 tyX3 tyX3_ok nmX3 13 (by decide) (kept_t 258 (by decide +kernel) rfl) rfl rfl rfl rfl (Nat.le_of_ble_eq_true rfl) (k_at kcX3_ok 73 rfl) ?_
  intro H locs hF hS
  rw [opS_opS] at hF
  replace hF : FB (wC D cA base) vcC base s1 (opS op (47, 3) (some (.inr (3, [.int (Int32.ofInt 3), .int (Int32.ofInt 10), .int (Int32.ofInt 10), .int (Int32.ofInt 0), .ref (base + 290), .ref (base + 301), .ref (base + 312), .int (Int32.ofInt 0), .ref (base + 313), .ref (base + 314), .ref (base + 325), .ref (base + 336), .ref (base + 337), .ref (base + 338)])))) 339 H := hF
  refine W.eq (g2 := F0 m 154 ls []) rfl ?_
  exact fb_ret hx hb hr hlocks hF hS (fun k _ => fb_close rfl _) (k_at kcX3_ok 74 rfl) rfl rfl
