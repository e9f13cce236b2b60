/-! the seven layers -/
set_option maxRecDepth 20000 in
theorem i_X3_4 (l : Launch) {D : va_G} {cA : Nat → ClassId} {base zq : Nat} {op : Nat × Nat → Option va_E} (hop : op (47, 4) = some (.inr (3, [.int (Int32.ofInt 0), .int (Int32.ofInt 0), .int (Int32.ofInt 0), .int (Int32.ofInt 0), .null, .null, .null, .int (Int32.ofInt 0), .null, .null, .null, .null, .null, .null]))) (hno : ∀ k, 340 ≤ k → k < nC → op (vcC k) = none) : iMet l (wC D cA base) vcC base zq yX3_init cX3_init 2 4 81 1044 s1 op 340 339 [.int (Int32.ofInt 4)] s1 (opS op (47, 4) none) 421 := by
  refine i_intro (by decide) rfl (Nat.le_of_ble_eq_true rfl) (fun p e s m args below meth c ls hx hb hml hown hts hin hr hlocks hBK hsz hF hS hl => ?_)
  have hK := hBK.1
  have SC : CallFix p m c cX3_init 2 s args lw_kept RX3 := ⟨hx, hb, hml, hown, hts⟩
  have hown : s.vm.findClass RX3 = some m.cls := hown
  have hcI : s.vm.findClass ("[" ++ FieldType.int.toString) = some (cA 1) := (hK.1.2 0 _ rfl).2
  have hcI2 : s.vm.findClass (FieldType.array .int).toString = some (cA 1) := hcI
  have hcZ : s.vm.findClass ("[" ++ FieldType.boolean.toString) = some (cA 3) := (hK.1.2 2 _ rfl).2
  have hcO : s.vm.findClass ("[" ++ (FieldType.array .int).toString) = some (cA 5) := (hK.1.2 3 _ rfl).2
  refine lv_aload_n hx hb (k_at kcX3_ok 0 rfl) rfl (lv_at hl 0 rfl) ?_
  refine fb_obj SC (kept_t 231 (by decide +kernel) rfl) (kept_t 24 (by decide +kernel) rfl) (kept_t 25 (by decide +kernel) rfl) hl.1 ⟨(Nat.le_of_ble_eq_true rfl), (Nat.le_of_ble_eq_true rfl)⟩ (k_at kcX3_ok 1 rfl) ?_
  refine W.eq (g2 := F0 m 4 ls []) rfl ?_
  refine lv_aload_n hx hb (k_at kcX3_ok 2 rfl) rfl (lv_at hl 0 rfl) ?_
  refine lv_iload_n hx hb (k_at kcX3_ok 3 rfl) rfl (lv_at hl 1 rfl) ?_
  refine fb_put hx hb hts hK hin hF hS (by omega) hown 339 (47, 4) (by decide) rfl (fun k hk h => vc_u (Nat.lt_of_lt_of_le hk (by decide +kernel)) h (by decide +kernel)) (fs := [.int (Int32.ofInt 0), .int (Int32.ofInt 0), .int (Int32.ofInt 0), .int (Int32.ofInt 0), .null, .null, .null, .int (Int32.ofInt 0), .null, .null, .null, .null, .null, .null]) hop rfl inX3 tyX3 tyX3_ok nmX3 0 (by decide) (kept_t 238 (by decide +kernel) rfl) rfl rfl rfl rfl (Nat.le_of_ble_eq_true rfl) (k_at kcX3_ok 4 rfl) ?_
  intro H locs hF hS
  replace hF : FB (wC D cA base) vcC base s1 (opS op (47, 4) (some (.inr (3, [.int (Int32.ofInt 4), .int (Int32.ofInt 0), .int (Int32.ofInt 0), .int (Int32.ofInt 0), .null, .null, .null, .int (Int32.ofInt 0), .null, .null, .null, .null, .null, .null])))) 340 H := hF
  refine W.eq (g2 := F0 m 9 ls []) rfl ?_
  refine lv_aload_n hx hb (k_at kcX3_ok 5 rfl) rfl (lv_at hl 0 rfl) ?_
  refine lv_iload_n hx hb (k_at kcX3_ok 6 rfl) rfl (lv_at hl 1 rfl) ?_
  refine fb_width SC hK (kept_t 232 (by decide +kernel) rfl) hF hS (by omega) (by omega) hl.1 (Nat.le_of_ble_eq_true rfl) ⟨(Nat.le_of_ble_eq_true rfl), (Nat.le_of_ble_eq_true rfl)⟩ ⟨(Nat.le_of_ble_eq_true rfl), (Nat.le_of_ble_eq_true rfl)⟩ (z := 4) (v := 15) (by decide) (by decide +kernel) (k_at kcX3_ok 7 rfl) ?_
  intro H locs hF hS
  refine fb_put hx hb hts hK hin hF hS (by omega) hown 339 (47, 4) (by decide) rfl (fun k hk h => vc_u (Nat.lt_of_lt_of_le hk (by decide +kernel)) h (by decide +kernel)) (fs := [.int (Int32.ofInt 4), .int (Int32.ofInt 0), .int (Int32.ofInt 0), .int (Int32.ofInt 0), .null, .null, .null, .int (Int32.ofInt 0), .null, .null, .null, .null, .null, .null]) (opS_s _ _ _) rfl inX3 tyX3 tyX3_ok nmX3 1 (by decide) (kept_t 240 (by decide +kernel) rfl) rfl rfl rfl rfl (Nat.le_of_ble_eq_true rfl) (k_at kcX3_ok 8 rfl) ?_
  intro H locs hF hS
  rw [opS_opS] at hF
  replace hF : FB (wC D cA base) vcC base s1 (opS op (47, 4) (some (.inr (3, [.int (Int32.ofInt 4), .int (Int32.ofInt 15), .int (Int32.ofInt 0), .int (Int32.ofInt 0), .null, .null, .null, .int (Int32.ofInt 0), .null, .null, .null, .null, .null, .null])))) 340 H := hF
  refine W.eq (g2 := F0 m 17 ls []) rfl ?_
  refine lv_aload_n hx hb (k_at kcX3_ok 9 rfl) rfl (lv_at hl 0 rfl) ?_
  refine lv_iload_n hx hb (k_at kcX3_ok 10 rfl) rfl (lv_at hl 1 rfl) ?_
  refine lv_if_lt hx hb (tgt := 38) (k_at kcX3_ok 11 rfl) rfl (fun h => absurd h (by decide)) (fun _ => ?_)
  refine lv_iload_n hx hb (k_at kcX3_ok 12 rfl) rfl (lv_at hl 1 rfl) ?_
  refine fb_gets hx hb hBK hS hown (k_at kcX3_ok 13 rfl) ?_
  refine fb_zlen hx hb hBK hS (by omega) (k_at kcX3_ok 14 rfl) ?_
  refine lv_icmp_ge hx hb (tgt := 38) (k_at kcX3_ok 15 rfl) rfl (fun h => absurd h (by decide)) (fun _ => ?_)
  refine fb_gets hx hb hBK hS hown (k_at kcX3_ok 16 rfl) ?_
  refine lv_iload_n hx hb (k_at kcX3_ok 17 rfl) rfl (lv_at hl 1 rfl) ?_
  refine fb_zald hx hb hBK hS (by omega) (z := 4) (v := 21) (j := 4) (iin (a := 4) (by decide) (by decide)) (by decide) (by decide) (k_at kcX3_ok 18 rfl) ?_
  refine lv_goto hx hb (tgt := 39) (k_at kcX3_ok 19 rfl) rfl ?_
  refine fb_put hx hb hts hK hin hF hS (by omega) hown 339 (47, 4) (by decide) rfl (fun k hk h => vc_u (Nat.lt_of_lt_of_le hk (by decide +kernel)) h (by decide +kernel)) (fs := [.int (Int32.ofInt 4), .int (Int32.ofInt 15), .int (Int32.ofInt 0), .int (Int32.ofInt 0), .null, .null, .null, .int (Int32.ofInt 0), .null, .null, .null, .null, .null, .null]) (opS_s _ _ _) rfl inX3 tyX3 tyX3_ok nmX3 2 (by decide) (kept_t 242 (by decide +kernel) rfl) rfl rfl rfl rfl (Nat.le_of_ble_eq_true rfl) (k_at kcX3_ok 21 rfl) ?_
  intro H locs hF hS
  rw [opS_opS] at hF
  replace hF : FB (wC D cA base) vcC base s1 (opS op (47, 4) (some (.inr (3, [.int (Int32.ofInt 4), .int (Int32.ofInt 15), .int (Int32.ofInt 21), .int (Int32.ofInt 0), .null, .null, .null, .int (Int32.ofInt 0), .null, .null, .null, .null, .null, .null])))) 340 H := hF
  refine W.eq (g2 := F0 m 42 ls []) rfl ?_
  refine lv_aload_n hx hb (k_at kcX3_ok 22 rfl) rfl (lv_at hl 0 rfl) ?_
  refine lv_aload_n hx hb (k_at kcX3_ok 23 rfl) rfl (lv_at hl 0 rfl) ?_
  refine fb_get hx hb hts hK hF hown 339 (47, 4) (by decide) rfl (fs := [.int (Int32.ofInt 4), .int (Int32.ofInt 15), .int (Int32.ofInt 21), .int (Int32.ofInt 0), .null, .null, .null, .int (Int32.ofInt 0), .null, .null, .null, .null, .null, .null]) (opS_s _ _ _) rfl inX3 2 (by decide) (kept_t 242 (by decide +kernel) rfl) rfl (k_at kcX3_ok 24 rfl) ?_
  refine lv_bipush hx hb (k_at kcX3_ok 25 rfl) (ofI_8 (by decide) (by decide)) ?_
  refine fb_multi hx hb hts (ao_mv (Vm.Alike.refl _) hBK.2.1) hF hS hown (kept_t 237 (by decide +kernel) rfl) (kept_t 43 (by decide +kernel) rfl) hcO hcI2 (N := 21) (M := 6) (by decide) (by decide) (by decide) (by decide) (by decide) (by decide) (q0 := (48, 4)) rfl ((opS_no hno (show offC 47 4 < 340 by decide +kernel) (Nat.le_refl _)) 340 (by decide) (by decide +kernel)) rfl (fun j hj => congrArg some (show base + offC 49 (64 * 4 + j) = base + 340 + 1 + j by rw [off49 (by omega)]; show base + (341 + j) = _; omega)) (fb_rows (r := 49) (i0 := 64 * 4) (by decide +kernel) (fun k h1 h2 => (opS_no hno (show offC 47 4 < 340 by decide +kernel) (Nat.le_refl _)) k (Nat.le_trans (by decide) h1) h2) (by decide +kernel) (fun j hj => by show Sum.inl (cA 1, 6, Sum.inl fun _ => Int32.ofInt 0) = _; rw [i0]; rfl)) (Nat.le_of_ble_eq_true rfl) (Nat.le_of_ble_eq_true rfl) (k_at kcX3_ok 26 rfl) ?_
  intro H hF hS
  refine fb_put hx hb hts hK hin hF hS (by omega) hown 339 (47, 4) (by decide) rfl (fun k hk h => vc_u (Nat.lt_of_lt_of_le hk (by decide +kernel)) h (by decide +kernel)) (fs := [.int (Int32.ofInt 4), .int (Int32.ofInt 15), .int (Int32.ofInt 21), .int (Int32.ofInt 0), .null, .null, .null, .int (Int32.ofInt 0), .null, .null, .null, .null, .null, .null]) (opS_s _ _ _) rfl inX3 tyX3 tyX3_ok nmX3 4 (by decide) (kept_t 246 (by decide +kernel) rfl) rfl rfl rfl rfl (Nat.le_of_ble_eq_true rfl) (k_at kcX3_ok 27 rfl) ?_
  intro H locs hF hS
  rw [opS_opS] at hF
  replace hF : FB (wC D cA base) vcC base s1 (opS op (47, 4) (some (.inr (3, [.int (Int32.ofInt 4), .int (Int32.ofInt 15), .int (Int32.ofInt 21), .int (Int32.ofInt 0), .ref (base + 340), .null, .null, .int (Int32.ofInt 0), .null, .null, .null, .null, .null, .null])))) 362 H := hF
  refine W.eq (g2 := F0 m 56 ls []) rfl ?_
  refine lv_aload_n hx hb (k_at kcX3_ok 28 rfl) rfl (lv_at hl 0 rfl) ?_
  refine lv_aload_n hx hb (k_at kcX3_ok 29 rfl) rfl (lv_at hl 0 rfl) ?_
  refine fb_get hx hb hts hK hF hown 339 (47, 4) (by decide) rfl (fs := [.int (Int32.ofInt 4), .int (Int32.ofInt 15), .int (Int32.ofInt 21), .int (Int32.ofInt 0), .ref (base + 340), .null, .null, .int (Int32.ofInt 0), .null, .null, .null, .null, .null, .null]) (opS_s _ _ _) rfl inX3 2 (by decide) (kept_t 242 (by decide +kernel) rfl) rfl (k_at kcX3_ok 30 rfl) ?_
  refine lv_aload_n hx hb (k_at kcX3_ok 31 rfl) rfl (lv_at hl 0 rfl) ?_
  refine fb_get hx hb hts hK hF hown 339 (47, 4) (by decide) rfl (fs := [.int (Int32.ofInt 4), .int (Int32.ofInt 15), .int (Int32.ofInt 21), .int (Int32.ofInt 0), .ref (base + 340), .null, .null, .int (Int32.ofInt 0), .null, .null, .null, .null, .null, .null]) (opS_s _ _ _) rfl inX3 1 (by decide) (kept_t 240 (by decide +kernel) rfl) rfl (k_at kcX3_ok 32 rfl) ?_
  refine fb_multi hx hb hts (ao_mv (Vm.Alike.refl _) hBK.2.1) hF hS hown (kept_t 237 (by decide +kernel) rfl) (kept_t 43 (by decide +kernel) rfl) hcO hcI2 (N := 21) (M := 15) (by decide) (by decide) (by decide) (by decide) (by decide) (by decide) (q0 := (50, 4)) rfl ((opS_no hno (show offC 47 4 < 340 by decide +kernel) (Nat.le_refl _)) 362 (by decide) (by decide +kernel)) rfl (fun j hj => congrArg some (show base + offC 51 (64 * 4 + j) = base + 362 + 1 + j by rw [off51 (by omega)]; show base + (363 + j) = _; omega)) (fb_rows (r := 51) (i0 := 64 * 4) (by decide +kernel) (fun k h1 h2 => (opS_no hno (show offC 47 4 < 340 by decide +kernel) (Nat.le_refl _)) k (Nat.le_trans (by decide) h1) h2) (by decide +kernel) (fun j hj => by show Sum.inl (cA 1, gwd ((64 * 4 + j) / 64), Sum.inl fun _ => Int32.ofInt 0) = _; rw [show (64 * 4 + j) / 64 = 4 from by omega, i0]; rfl)) (Nat.le_of_ble_eq_true rfl) (Nat.le_of_ble_eq_true rfl) (k_at kcX3_ok 33 rfl) ?_
  intro H hF hS
  refine fb_put hx hb hts hK hin hF hS (by omega) hown 339 (47, 4) (by decide) rfl (fun k hk h => vc_u (Nat.lt_of_lt_of_le hk (by decide +kernel)) h (by decide +kernel)) (fs := [.int (Int32.ofInt 4), .int (Int32.ofInt 15), .int (Int32.ofInt 21), .int (Int32.ofInt 0), .ref (base + 340), .null, .null, .int (Int32.ofInt 0), .null, .null, .null, .null, .null, .null]) (opS_s _ _ _) rfl inX3 tyX3 tyX3_ok nmX3 5 (by decide) (kept_t 248 (by decide +kernel) rfl) rfl rfl rfl rfl (Nat.le_of_ble_eq_true rfl) (k_at kcX3_ok 34 rfl) ?_
  intro H locs hF hS
  rw [opS_opS] at hF
  replace hF : FB (wC D cA base) vcC base s1 (opS op (47, 4) (some (.inr (3, [.int (Int32.ofInt 4), .int (Int32.ofInt 15), .int (Int32.ofInt 21), .int (Int32.ofInt 0), .ref (base + 340), .ref (base + 362), .null, .int (Int32.ofInt 0), .null, .null, .null, .null, .null, .null])))) 384 H := hF
  refine W.eq (g2 := F0 m 72 ls []) rfl ?_
  refine lv_aload_n hx hb (k_at kcX3_ok 35 rfl) rfl (lv_at hl 0 rfl) ?_
  refine lv_aload_n hx hb (k_at kcX3_ok 36 rfl) rfl (lv_at hl 0 rfl) ?_
  refine fb_get hx hb hts hK hF hown 339 (47, 4) (by decide) rfl (fs := [.int (Int32.ofInt 4), .int (Int32.ofInt 15), .int (Int32.ofInt 21), .int (Int32.ofInt 0), .ref (base + 340), .ref (base + 362), .null, .int (Int32.ofInt 0), .null, .null, .null, .null, .null, .null]) (opS_s _ _ _) rfl inX3 2 (by decide) (kept_t 242 (by decide +kernel) rfl) rfl (k_at kcX3_ok 37 rfl) ?_
  refine fb_newa (kd := 1) hx hb hts hK hF hS (by omega) (by omega) (atype := .int) (ty := .int) rfl (kept_t 43 (by decide +kernel) rfl) hcI (q0 := (52, 4)) rfl ((opS_no hno (show offC 47 4 < 340 by decide +kernel) (Nat.le_refl _)) 384 (by decide) (by decide +kernel)) (a0 := (21, .inl fun k => Int32.ofInt (s1 52 4 k))) rfl (N := 21) (fun cA => z_int (fun _ => i0) cA 21) (by decide) (by decide) (by decide) (Nat.le_of_ble_eq_true rfl) (Nat.le_of_ble_eq_true rfl) (k_at kcX3_ok 38 rfl) (fun _ h => h) ?_
  intro H hF hS
  refine fb_put hx hb hts hK hin hF hS (by omega) hown 339 (47, 4) (by decide) rfl (fun k hk h => vc_u (Nat.lt_of_lt_of_le hk (by decide +kernel)) h (by decide +kernel)) (fs := [.int (Int32.ofInt 4), .int (Int32.ofInt 15), .int (Int32.ofInt 21), .int (Int32.ofInt 0), .ref (base + 340), .ref (base + 362), .null, .int (Int32.ofInt 0), .null, .null, .null, .null, .null, .null]) (opS_s _ _ _) rfl inX3 tyX3 tyX3_ok nmX3 6 (by decide) (kept_t 250 (by decide +kernel) rfl) rfl rfl rfl rfl (Nat.le_of_ble_eq_true rfl) (k_at kcX3_ok 39 rfl) ?_
  intro H locs hF hS
  rw [opS_opS] at hF
  replace hF : FB (wC D cA base) vcC base s1 (opS op (47, 4) (some (.inr (3, [.int (Int32.ofInt 4), .int (Int32.ofInt 15), .int (Int32.ofInt 21), .int (Int32.ofInt 0), .ref (base + 340), .ref (base + 362), .ref (base + 384), .int (Int32.ofInt 0), .null, .null, .null, .null, .null, .null])))) 385 H := hF
  refine W.eq (g2 := F0 m 82 ls []) rfl ?_
  refine lv_aload_n hx hb (k_at kcX3_ok 40 rfl) rfl (lv_at hl 0 rfl) ?_
  refine lv_aload_n hx hb (k_at kcX3_ok 41 rfl) rfl (lv_at hl 0 rfl) ?_
  refine fb_get hx hb hts hK hF hown 339 (47, 4) (by decide) rfl (fs := [.int (Int32.ofInt 4), .int (Int32.ofInt 15), .int (Int32.ofInt 21), .int (Int32.ofInt 0), .ref (base + 340), .ref (base + 362), .ref (base + 384), .int (Int32.ofInt 0), .null, .null, .null, .null, .null, .null]) (opS_s _ _ _) rfl inX3 1 (by decide) (kept_t 240 (by decide +kernel) rfl) rfl (k_at kcX3_ok 42 rfl) ?_
  refine fb_newa (kd := 1) hx hb hts hK hF hS (by omega) (by omega) (atype := .int) (ty := .int) rfl (kept_t 43 (by decide +kernel) rfl) hcI (q0 := (53, 4)) rfl ((opS_no hno (show offC 47 4 < 340 by decide +kernel) (Nat.le_refl _)) 385 (by decide) (by decide +kernel)) (a0 := (15, .inl fun k => Int32.ofInt (s1 53 4 k))) rfl (N := 15) (fun cA => z_int (fun _ => i0) cA 15) (by decide) (by decide) (by decide) (Nat.le_of_ble_eq_true rfl) (Nat.le_of_ble_eq_true rfl) (k_at kcX3_ok 43 rfl) (fun _ h => h) ?_
  intro H hF hS
  refine fb_put hx hb hts hK hin hF hS (by omega) hown 339 (47, 4) (by decide) rfl (fun k hk h => vc_u (Nat.lt_of_lt_of_le hk (by decide +kernel)) h (by decide +kernel)) (fs := [.int (Int32.ofInt 4), .int (Int32.ofInt 15), .int (Int32.ofInt 21), .int (Int32.ofInt 0), .ref (base + 340), .ref (base + 362), .ref (base + 384), .int (Int32.ofInt 0), .null, .null, .null, .null, .null, .null]) (opS_s _ _ _) rfl inX3 tyX3 tyX3_ok nmX3 8 (by decide) (kept_t 253 (by decide +kernel) rfl) rfl rfl rfl rfl (Nat.le_of_ble_eq_true rfl) (k_at kcX3_ok 44 rfl) ?_
  intro H locs hF hS
  rw [opS_opS] at hF
  replace hF : FB (wC D cA base) vcC base s1 (opS op (47, 4) (some (.inr (3, [.int (Int32.ofInt 4), .int (Int32.ofInt 15), .int (Int32.ofInt 21), .int (Int32.ofInt 0), .ref (base + 340), .ref (base + 362), .ref (base + 384), .int (Int32.ofInt 0), .ref (base + 385), .null, .null, .null, .null, .null])))) 386 H := hF
  refine W.eq (g2 := F0 m 92 ls []) rfl ?_
  refine lv_aload_n hx hb (k_at kcX3_ok 45 rfl) rfl (lv_at hl 0 rfl) ?_
  refine lv_aload_n hx hb (k_at kcX3_ok 46 rfl) rfl (lv_at hl 0 rfl) ?_
  refine fb_get hx hb hts hK hF hown 339 (47, 4) (by decide) rfl (fs := [.int (Int32.ofInt 4), .int (Int32.ofInt 15), .int (Int32.ofInt 21), .int (Int32.ofInt 0), .ref (base + 340), .ref (base + 362), .ref (base + 384), .int (Int32.ofInt 0), .ref (base + 385), .null, .null, .null, .null, .null]) (opS_s _ _ _) rfl inX3 1 (by decide) (kept_t 240 (by decide +kernel) rfl) rfl (k_at kcX3_ok 47 rfl) ?_
  refine lv_aload_n hx hb (k_at kcX3_ok 48 rfl) rfl (lv_at hl 0 rfl) ?_
  refine fb_get hx hb hts hK hF hown 339 (47, 4) (by decide) rfl (fs := [.int (Int32.ofInt 4), .int (Int32.ofInt 15), .int (Int32.ofInt 21), .int (Int32.ofInt 0), .ref (base + 340), .ref (base + 362), .ref (base + 384), .int (Int32.ofInt 0), .ref (base + 385), .null, .null, .null, .null, .null]) (opS_s _ _ _) rfl inX3 1 (by decide) (kept_t 240 (by decide +kernel) rfl) rfl (k_at kcX3_ok 49 rfl) ?_
  refine fb_multi hx hb hts (ao_mv (Vm.Alike.refl _) hBK.2.1) hF hS hown (kept_t 237 (by decide +kernel) rfl) (kept_t 43 (by decide +kernel) rfl) hcO hcI2 (N := 15) (M := 15) (by decide) (by decide) (by decide) (by decide) (by decide) (by decide) (q0 := (54, 4)) rfl ((opS_no hno (show offC 47 4 < 340 by decide +kernel) (Nat.le_refl _)) 386 (by decide) (by decide +kernel)) rfl (fun j hj => congrArg some (show base + offC 55 (64 * 4 + j) = base + 386 + 1 + j by rw [off55 (by omega)]; show base + (387 + j) = _; omega)) (fb_rows (r := 55) (i0 := 64 * 4) (by decide +kernel) (fun k h1 h2 => (opS_no hno (show offC 47 4 < 340 by decide +kernel) (Nat.le_refl _)) k (Nat.le_trans (by decide) h1) h2) (by decide +kernel) (fun j hj => by show Sum.inl (cA 1, gwd ((64 * 4 + j) / 64), Sum.inl fun _ => Int32.ofInt 0) = _; rw [show (64 * 4 + j) / 64 = 4 from by omega, i0]; rfl)) (Nat.le_of_ble_eq_true rfl) (Nat.le_of_ble_eq_true rfl) (k_at kcX3_ok 50 rfl) ?_
  intro H hF hS
  refine fb_put hx hb hts hK hin hF hS (by omega) hown 339 (47, 4) (by decide) rfl (fun k hk h => vc_u (Nat.lt_of_lt_of_le hk (by decide +kernel)) h (by decide +kernel)) (fs := [.int (Int32.ofInt 4), .int (Int32.ofInt 15), .int (Int32.ofInt 21), .int (Int32.ofInt 0), .ref (base + 340), .ref (base + 362), .ref (base + 384), .int (Int32.ofInt 0), .ref (base + 385), .null, .null, .null, .null, .null]) (opS_s _ _ _) rfl inX3 tyX3 tyX3_ok nmX3 9 (by decide) (kept_t 254 (by decide +kernel) rfl) rfl rfl rfl rfl (Nat.le_of_ble_eq_true rfl) (k_at kcX3_ok 51 rfl) ?_
  intro H locs hF hS
  rw [opS_opS] at hF
  replace hF : FB (wC D cA base) vcC base s1 (opS op (47, 4) (some (.inr (3, [.int (Int32.ofInt 4), .int (Int32.ofInt 15), .int (Int32.ofInt 21), .int (Int32.ofInt 0), .ref (base + 340), .ref (base + 362), .ref (base + 384), .int (Int32.ofInt 0), .ref (base + 385), .ref (base + 386), .null, .null, .null, .null])))) 402 H := hF
  refine W.eq (g2 := F0 m 108 ls []) rfl ?_
  refine lv_aload_n hx hb (k_at kcX3_ok 52 rfl) rfl (lv_at hl 0 rfl) ?_
  refine lv_aload_n hx hb (k_at kcX3_ok 53 rfl) rfl (lv_at hl 0 rfl) ?_
  refine fb_get hx hb hts hK hF hown 339 (47, 4) (by decide) rfl (fs := [.int (Int32.ofInt 4), .int (Int32.ofInt 15), .int (Int32.ofInt 21), .int (Int32.ofInt 0), .ref (base + 340), .ref (base + 362), .ref (base + 384), .int (Int32.ofInt 0), .ref (base + 385), .ref (base + 386), .null, .null, .null, .null]) (opS_s _ _ _) rfl inX3 1 (by decide) (kept_t 240 (by decide +kernel) rfl) rfl (k_at kcX3_ok 54 rfl) ?_
  refine lv_aload_n hx hb (k_at kcX3_ok 55 rfl) rfl (lv_at hl 0 rfl) ?_
  refine fb_get hx hb hts hK hF hown 339 (47, 4) (by decide) rfl (fs := [.int (Int32.ofInt 4), .int (Int32.ofInt 15), .int (Int32.ofInt 21), .int (Int32.ofInt 0), .ref (base + 340), .ref (base + 362), .ref (base + 384), .int (Int32.ofInt 0), .ref (base + 385), .ref (base + 386), .null, .null, .null, .null]) (opS_s _ _ _) rfl inX3 1 (by decide) (kept_t 240 (by decide +kernel) rfl) rfl (k_at kcX3_ok 56 rfl) ?_
  refine fb_multi hx hb hts (ao_mv (Vm.Alike.refl _) hBK.2.1) hF hS hown (kept_t 237 (by decide +kernel) rfl) (kept_t 43 (by decide +kernel) rfl) hcO hcI2 (N := 15) (M := 15) (by decide) (by decide) (by decide) (by decide) (by decide) (by decide) (q0 := (56, 4)) rfl ((opS_no hno (show offC 47 4 < 340 by decide +kernel) (Nat.le_refl _)) 402 (by decide) (by decide +kernel)) rfl (fun j hj => congrArg some (show base + offC 57 (64 * 4 + j) = base + 402 + 1 + j by rw [off57 (by omega)]; show base + (403 + j) = _; omega)) (fb_rows (r := 57) (i0 := 64 * 4) (by decide +kernel) (fun k h1 h2 => (opS_no hno (show offC 47 4 < 340 by decide +kernel) (Nat.le_refl _)) k (Nat.le_trans (by decide) h1) h2) (by decide +kernel) (fun j hj => by show Sum.inl (cA 1, gwd ((64 * 4 + j) / 64), Sum.inl fun _ => Int32.ofInt 0) = _; rw [show (64 * 4 + j) / 64 = 4 from by omega, i0]; rfl)) (Nat.le_of_ble_eq_true rfl) (Nat.le_of_ble_eq_true rfl) (k_at kcX3_ok 57 rfl) ?_
  intro H hF hS
  refine fb_put hx hb hts hK hin hF hS (by omega) hown 339 (47, 4) (by decide) rfl (fun k hk h => vc_u (Nat.lt_of_lt_of_le hk (by decide +kernel)) h (by decide +kernel)) (fs := [.int (Int32.ofInt 4), .int (Int32.ofInt 15), .int (Int32.ofInt 21), .int (Int32.ofInt 0), .ref (base + 340), .ref (base + 362), .ref (base + 384), .int (Int32.ofInt 0), .ref (base + 385), .ref (base + 386), .null, .null, .null, .null]) (opS_s _ _ _) rfl inX3 tyX3 tyX3_ok nmX3 10 (by decide) (kept_t 255 (by decide +kernel) rfl) rfl rfl rfl rfl (Nat.le_of_ble_eq_true rfl) (k_at kcX3_ok 58 rfl) ?_
  intro H locs hF hS
  rw [opS_opS] at hF
  replace hF : FB (wC D cA base) vcC base s1 (opS op (47, 4) (some (.inr (3, [.int (Int32.ofInt 4), .int (Int32.ofInt 15), .int (Int32.ofInt 21), .int (Int32.ofInt 0), .ref (base + 340), .ref (base + 362), .ref (base + 384), .int (Int32.ofInt 0), .ref (base + 385), .ref (base + 386), .ref (base + 402), .null, .null, .null])))) 418 H := hF
  refine W.eq (g2 := F0 m 124 ls []) rfl ?_
  refine lv_aload_n hx hb (k_at kcX3_ok 59 rfl) rfl (lv_at hl 0 rfl) ?_
  refine lv_aload_n hx hb (k_at kcX3_ok 60 rfl) rfl (lv_at hl 0 rfl) ?_
  refine fb_get hx hb hts hK hF hown 339 (47, 4) (by decide) rfl (fs := [.int (Int32.ofInt 4), .int (Int32.ofInt 15), .int (Int32.ofInt 21), .int (Int32.ofInt 0), .ref (base + 340), .ref (base + 362), .ref (base + 384), .int (Int32.ofInt 0), .ref (base + 385), .ref (base + 386), .ref (base + 402), .null, .null, .null]) (opS_s _ _ _) rfl inX3 1 (by decide) (kept_t 240 (by decide +kernel) rfl) rfl (k_at kcX3_ok 61 rfl) ?_
  refine fb_newa (kd := 1) hx hb hts hK hF hS (by omega) (by omega) (atype := .int) (ty := .int) rfl (kept_t 43 (by decide +kernel) rfl) hcI (q0 := (58, 4)) rfl ((opS_no hno (show offC 47 4 < 340 by decide +kernel) (Nat.le_refl _)) 418 (by decide) (by decide +kernel)) (a0 := (15, .inl fun k => Int32.ofInt (s1 58 4 k))) rfl (N := 15) (fun cA => z_int (fun _ => i0) cA 15) (by decide) (by decide) (by decide) (Nat.le_of_ble_eq_true rfl) (Nat.le_of_ble_eq_true rfl) (k_at kcX3_ok 62 rfl) (fun _ h => h) ?_
  intro H hF hS
  refine fb_put hx hb hts hK hin hF hS (by omega) hown 339 (47, 4) (by decide) rfl (fun k hk h => vc_u (Nat.lt_of_lt_of_le hk (by decide +kernel)) h (by decide +kernel)) (fs := [.int (Int32.ofInt 4), .int (Int32.ofInt 15), .int (Int32.ofInt 21), .int (Int32.ofInt 0), .ref (base + 340), .ref (base + 362), .ref (base + 384), .int (Int32.ofInt 0), .ref (base + 385), .ref (base + 386), .ref (base + 402), .null, .null, .null]) (opS_s _ _ _) rfl inX3 tyX3 tyX3_ok nmX3 11 (by decide) (kept_t 256 (by decide +kernel) rfl) rfl rfl rfl rfl (Nat.le_of_ble_eq_true rfl) (k_at kcX3_ok 63 rfl) ?_
  intro H locs hF hS
  rw [opS_opS] at hF
  replace hF : FB (wC D cA base) vcC base s1 (opS op (47, 4) (some (.inr (3, [.int (Int32.ofInt 4), .int (Int32.ofInt 15), .int (Int32.ofInt 21), .int (Int32.ofInt 0), .ref (base + 340), .ref (base + 362), .ref (base + 384), .int (Int32.ofInt 0), .ref (base + 385), .ref (base + 386), .ref (base + 402), .ref (base + 418), .null, .null])))) 419 H := hF
  refine W.eq (g2 := F0 m 134 ls []) rfl ?_
  refine lv_aload_n hx hb (k_at kcX3_ok 64 rfl) rfl (lv_at hl 0 rfl) ?_
  refine lv_aload_n hx hb (k_at kcX3_ok 65 rfl) rfl (lv_at hl 0 rfl) ?_
  refine fb_get hx hb hts hK hF hown 339 (47, 4) (by decide) rfl (fs := [.int (Int32.ofInt 4), .int (Int32.ofInt 15), .int (Int32.ofInt 21), .int (Int32.ofInt 0), .ref (base + 340), .ref (base + 362), .ref (base + 384), .int (Int32.ofInt 0), .ref (base + 385), .ref (base + 386), .ref (base + 402), .ref (base + 418), .null, .null]) (opS_s _ _ _) rfl inX3 1 (by decide) (kept_t 240 (by decide +kernel) rfl) rfl (k_at kcX3_ok 66 rfl) ?_
  refine fb_newa (kd := 1) hx hb hts hK hF hS (by omega) (by omega) (atype := .int) (ty := .int) rfl (kept_t 43 (by decide +kernel) rfl) hcI (q0 := (59, 4)) rfl ((opS_no hno (show offC 47 4 < 340 by decide +kernel) (Nat.le_refl _)) 419 (by decide) (by decide +kernel)) (a0 := (15, .inl fun k => Int32.ofInt (s1 59 4 k))) rfl (N := 15) (fun cA => z_int (fun _ => i0) cA 15) (by decide) (by decide) (by decide) (Nat.le_of_ble_eq_true rfl) (Nat.le_of_ble_eq_true rfl) (k_at kcX3_ok 67 rfl) (fun _ h => h) ?_
  intro H hF hS
  refine fb_put hx hb hts hK hin hF hS (by omega) hown 339 (47, 4) (by decide) rfl (fun k hk h => vc_u (Nat.lt_of_lt_of_le hk (by decide +kernel)) h (by decide +kernel)) (fs := [.int (Int32.ofInt 4), .int (Int32.ofInt 15), .int (Int32.ofInt 21), .int (Int32.ofInt 0), .ref (base + 340), .ref (base + 362), .ref (base + 384), .int (Int32.ofInt 0), .ref (base + 385), .ref (base + 386), .ref (base + 402), .ref (base + 418), .null, .null]) (opS_s _ _ _) rfl inX3 tyX3 tyX3_ok nmX3 12 (by decide) (kept_t 257 (by decide +kernel) rfl) rfl rfl rfl rfl (Nat.le_of_ble_eq_true rfl) (k_at kcX3_ok 68 rfl) ?_
  intro H locs hF hS
  rw [opS_opS] at hF
  replace hF : FB (wC D cA base) vcC base s1 (opS op (47, 4) (some (.inr (3, [.int (Int32.ofInt 4), .int (Int32.ofInt 15), .int (Int32.ofInt 21), .int (Int32.ofInt 0), .ref (base + 340), .ref (base + 362), .ref (base + 384), .int (Int32.ofInt 0), .ref (base + 385), .ref (base + 386), .ref (base + 402), .ref (base + 418), .ref (base + 419), .null])))) 420 H := hF
  refine W.eq (g2 := F0 m 144 ls []) rfl ?_
  refine lv_aload_n hx hb (k_at kcX3_ok 69 rfl) rfl (lv_at hl 0 rfl) ?_
  refine lv_aload_n hx hb (k_at kcX3_ok 70 rfl) rfl (lv_at hl 0 rfl) ?_
  refine fb_get hx hb hts hK hF hown 339 (47, 4) (by decide) rfl (fs := [.int (Int32.ofInt 4), .int (Int32.ofInt 15), .int (Int32.ofInt 21), .int (Int32.ofInt 0), .ref (base + 340), .ref (base + 362), .ref (base + 384), .int (Int32.ofInt 0), .ref (base + 385), .ref (base + 386), .ref (base + 402), .ref (base + 418), .ref (base + 419), .null]) (opS_s _ _ _) rfl inX3 1 (by decide) (kept_t 240 (by decide +kernel) rfl) rfl (k_at kcX3_ok 71 rfl) ?_
  refine fb_newa (kd := 1) hx hb hts hK hF hS (by omega) (by omega) (atype := .int) (ty := .int) rfl (kept_t 43 (by decide +kernel) rfl) hcI (q0 := (60, 4)) rfl ((opS_no hno (show offC 47 4 < 340 by decide +kernel) (Nat.le_refl _)) 420 (by decide) (by decide +kernel)) (a0 := (15, .inl fun k => Int32.ofInt (s1 60 4 k))) rfl (N := 15) (fun cA => z_int (fun _ => i0) cA 15) (by decide) (by decide) (by decide) (Nat.le_of_ble_eq_true rfl) (Nat.le_of_ble_eq_true rfl) (k_at kcX3_ok 72 rfl) (fun _ h => h) ?_
  intro H hF hS
  refine fb_put hx hb hts hK hin hF hS (by omega) hown 339 (47, 4) (by decide) rfl (fun k hk h => vc_u (Nat.lt_of_lt_of_le hk (by decide +kernel)) h (by decide +kernel)) (fs := [.int (Int32.ofInt 4), .int (Int32.ofInt 15), .int (Int32.ofInt 21), .int (Int32.ofInt 0), .ref (base + 340), .ref (base + 362), .ref (base + 384), .int (Int32.ofInt 0), .ref (base + 385), .ref (base + 386), .ref (base + 402), .ref (base + 418), .ref (base + 419), .null]) (opS_s _ _ _) rfl inX3 tyX3 tyX3_ok nmX3 13 (by decide) (kept_t 258 (by decide +kernel) rfl) rfl rfl rfl rfl (Nat.le_of_ble_eq_true rfl) (k_at kcX3_ok 73 rfl) ?_
  intro H locs hF hS
  rw [opS_opS] at hF
  replace hF : FB (wC D cA base) vcC base s1 (opS op (47, 4) (some (.inr (3, [.int (Int32.ofInt 4), .int (Int32.ofInt 15), .int (Int32.ofInt 21), .int (Int32.ofInt 0), .ref (base + 340), .ref (base + 362), .ref (base + 384), .int (Int32.ofInt 0), .ref (base + 385), .ref (base + 386), .ref (base + 402), .ref (base + 418), .ref (base + 419), .ref (base + 420)])))) 421 H := hF
  refine W.eq (g2 := F0 m 154 ls []) rfl ?_
  exact fb_ret hx hb hr hlocks hF hS (fun k _ => fb_close rfl _) (k_at kcX3_ok 74 rfl) rfl rfl
set_option maxRecDepth 20000 in
theorem i_X3_5 (l : Launch) {D : va_G} {cA : Nat → ClassId} {base zq : Nat} {op : Nat × Nat → Option va_E} (hop : op (47, 5) = some (.inr (3, [.int (Int32.ofInt 0), .int (Int32.ofInt 0), .int (Int32.ofInt 0), .int (Int32.ofInt 0), .null, .null, .null, .int (Int32.ofInt 0), .null, .null, .null, .null, .null, .null]))) (hno : ∀ k, 422 ≤ k → k < nC → op (vcC k) = none) : iMet l (wC D cA base) vcC base zq yX3_init cX3_init 2 4 93 1638 s1 op 422 421 [.int (Int32.ofInt 5)] s1 (opS op (47, 5) none) 515 := by
  refine i_intro (by decide) rfl (Nat.le_of_ble_eq_true rfl) (fun p e s m args below meth c ls hx hb hml hown hts hin hr hlocks hBK hsz hF hS hl => ?_)
  have hK := hBK.1
  have SC : CallFix p m c cX3_init 2 s args lw_kept RX3 := ⟨hx, hb, hml, hown, hts⟩
  have hown : s.vm.findClass RX3 = some m.cls := hown
  have hcI : s.vm.findClass ("[" ++ FieldType.int.toString) = some (cA 1) := (hK.1.2 0 _ rfl).2
  have hcI2 : s.vm.findClass (FieldType.array .int).toString = some (cA 1) := hcI
  have hcZ : s.vm.findClass ("[" ++ FieldType.boolean.toString) = some (cA 3) := (hK.1.2 2 _ rfl).2
  have hcO : s.vm.findClass ("[" ++ (FieldType.array .int).toString) = some (cA 5) := (hK.1.2 3 _ rfl).2
  refine lv_aload_n hx hb (k_at kcX3_ok 0 rfl) rfl (lv_at hl 0 rfl) ?_
  refine fb_obj SC (kept_t 231 (by decide +kernel) rfl) (kept_t 24 (by decide +kernel) rfl) (kept_t 25 (by decide +kernel) rfl) hl.1 ⟨(Nat.le_of_ble_eq_true rfl), (Nat.le_of_ble_eq_true rfl)⟩ (k_at kcX3_ok 1 rfl) ?_
  refine W.eq (g2 := F0 m 4 ls []) rfl ?_
  refine lv_aload_n hx hb (k_at kcX3_ok 2 rfl) rfl (lv_at hl 0 rfl) ?_
  refine lv_iload_n hx hb (k_at kcX3_ok 3 rfl) rfl (lv_at hl 1 rfl) ?_
  refine fb_put hx hb hts hK hin hF hS (by omega) hown 421 (47, 5) (by decide) rfl (fun k hk h => vc_u (Nat.lt_of_lt_of_le hk (by decide +kernel)) h (by decide +kernel)) (fs := [.int (Int32.ofInt 0), .int (Int32.ofInt 0), .int (Int32.ofInt 0), .int (Int32.ofInt 0), .null, .null, .null, .int (Int32.ofInt 0), .null, .null, .null, .null, .null, .null]) hop rfl inX3 tyX3 tyX3_ok nmX3 0 (by decide) (kept_t 238 (by decide +kernel) rfl) rfl rfl rfl rfl (Nat.le_of_ble_eq_true rfl) (k_at kcX3_ok 4 rfl) ?_
  intro H locs hF hS
  replace hF : FB (wC D cA base) vcC base s1 (opS op (47, 5) (some (.inr (3, [.int (Int32.ofInt 5), .int (Int32.ofInt 0), .int (Int32.ofInt 0), .int (Int32.ofInt 0), .null, .null, .null, .int (Int32.ofInt 0), .null, .null, .null, .null, .null, .null])))) 422 H := hF
  refine W.eq (g2 := F0 m 9 ls []) rfl ?_
  refine lv_aload_n hx hb (k_at kcX3_ok 5 rfl) rfl (lv_at hl 0 rfl) ?_
  refine lv_iload_n hx hb (k_at kcX3_ok 6 rfl) rfl (lv_at hl 1 rfl) ?_
  refine fb_width SC hK (kept_t 232 (by decide +kernel) rfl) hF hS (by omega) (by omega) hl.1 (Nat.le_of_ble_eq_true rfl) ⟨(Nat.le_of_ble_eq_true rfl), (Nat.le_of_ble_eq_true rfl)⟩ ⟨(Nat.le_of_ble_eq_true rfl), (Nat.le_of_ble_eq_true rfl)⟩ (z := 5) (v := 21) (by decide) (by decide +kernel) (k_at kcX3_ok 7 rfl) ?_
  intro H locs hF hS
  refine fb_put hx hb hts hK hin hF hS (by omega) hown 421 (47, 5) (by decide) rfl (fun k hk h => vc_u (Nat.lt_of_lt_of_le hk (by decide +kernel)) h (by decide +kernel)) (fs := [.int (Int32.ofInt 5), .int (Int32.ofInt 0), .int (Int32.ofInt 0), .int (Int32.ofInt 0), .null, .null, .null, .int (Int32.ofInt 0), .null, .null, .null, .null, .null, .null]) (opS_s _ _ _) rfl inX3 tyX3 tyX3_ok nmX3 1 (by decide) (kept_t 240 (by decide +kernel) rfl) rfl rfl rfl rfl (Nat.le_of_ble_eq_true rfl) (k_at kcX3_ok 8 rfl) ?_
  intro H locs hF hS
  rw [opS_opS] at hF
  replace hF : FB (wC D cA base) vcC base s1 (opS op (47, 5) (some (.inr (3, [.int (Int32.ofInt 5), .int (Int32.ofInt 21), .int (Int32.ofInt 0), .int (Int32.ofInt 0), .null, .null, .null, .int (Int32.ofInt 0), .null, .null, .null, .null, .null, .null])))) 422 H := hF
  refine W.eq (g2 := F0 m 17 ls []) rfl ?_
  refine lv_aload_n hx hb (k_at kcX3_ok 9 rfl) rfl (lv_at hl 0 rfl) ?_
  refine lv_iload_n hx hb (k_at kcX3_ok 10 rfl) rfl (lv_at hl 1 rfl) ?_
  refine lv_if_lt hx hb (tgt := 38) (k_at kcX3_ok 11 rfl) rfl (fun h => absurd h (by decide)) (fun _ => ?_)
  refine lv_iload_n hx hb (k_at kcX3_ok 12 rfl) rfl (lv_at hl 1 rfl) ?_
  refine fb_gets hx hb hBK hS hown (k_at kcX3_ok 13 rfl) ?_
  refine fb_zlen hx hb hBK hS (by omega) (k_at kcX3_ok 14 rfl) ?_
  refine lv_icmp_ge hx hb (tgt := 38) (k_at kcX3_ok 15 rfl) rfl (fun h => absurd h (by decide)) (fun _ => ?_)
  refine fb_gets hx hb hBK hS hown (k_at kcX3_ok 16 rfl) ?_
  refine lv_iload_n hx hb (k_at kcX3_ok 17 rfl) rfl (lv_at hl 1 rfl) ?_
  refine fb_zald hx hb hBK hS (by omega) (z := 5) (v := 21) (j := 5) (iin (a := 5) (by decide) (by decide)) (by decide) (by decide) (k_at kcX3_ok 18 rfl) ?_
  refine lv_goto hx hb (tgt := 39) (k_at kcX3_ok 19 rfl) rfl ?_
  refine fb_put hx hb hts hK hin hF hS (by omega) hown 421 (47, 5) (by decide) rfl (fun k hk h => vc_u (Nat.lt_of_lt_of_le hk (by decide +kernel)) h (by decide +kernel)) (fs := [.int (Int32.ofInt 5), .int (Int32.ofInt 21), .int (Int32.ofInt 0), .int (Int32.ofInt 0), .null, .null, .null, .int (Int32.ofInt 0), .null, .null, .null, .null, .null, .null]) (opS_s _ _ _) rfl inX3 tyX3 tyX3_ok nmX3 2 (by decide) (kept_t 242 (by decide +kernel) rfl) rfl rfl rfl rfl (Nat.le_of_ble_eq_true rfl) (k_at kcX3_ok 21 rfl) ?_
  intro H locs hF hS
  rw [opS_opS] at hF
  replace hF : FB (wC D cA base) vcC base s1 (opS op (47, 5) (some (.inr (3, [.int (Int32.ofInt 5), .int (Int32.ofInt 21), .int (Int32.ofInt 21), .int (Int32.ofInt 0), .null, .null, .null, .int (Int32.ofInt 0), .null, .null, .null, .null, .null, .null])))) 422 H := hF
  refine W.eq (g2 := F0 m 42 ls []) rfl ?_
  refine lv_aload_n hx hb (k_at kcX3_ok 22 rfl) rfl (lv_at hl 0 rfl) ?_
  refine lv_aload_n hx hb (k_at kcX3_ok 23 rfl) rfl (lv_at hl 0 rfl) ?_
  refine fb_get hx hb hts hK hF hown 421 (47, 5) (by decide) rfl (fs := [.int (Int32.ofInt 5), .int (Int32.ofInt 21), .int (Int32.ofInt 21), .int (Int32.ofInt 0), .null, .null, .null, .int (Int32.ofInt 0), .null, .null, .null, .null, .null, .null]) (opS_s _ _ _) rfl inX3 2 (by decide) (kept_t 242 (by decide +kernel) rfl) rfl (k_at kcX3_ok 24 rfl) ?_
  refine lv_bipush hx hb (k_at kcX3_ok 25 rfl) (ofI_8 (by decide) (by decide)) ?_
  refine fb_multi hx hb hts (ao_mv (Vm.Alike.refl _) hBK.2.1) hF hS hown (kept_t 237 (by decide +kernel) rfl) (kept_t 43 (by decide +kernel) rfl) hcO hcI2 (N := 21) (M := 6) (by decide) (by decide) (by decide) (by decide) (by decide) (by decide) (q0 := (48, 5)) rfl ((opS_no hno (show offC 47 5 < 422 by decide +kernel) (Nat.le_refl _)) 422 (by decide) (by decide +kernel)) rfl (fun j hj => congrArg some (show base + offC 49 (64 * 5 + j) = base + 422 + 1 + j by rw [off49 (by omega)]; show base + (423 + j) = _; omega)) (fb_rows (r := 49) (i0 := 64 * 5) (by decide +kernel) (fun k h1 h2 => (opS_no hno (show offC 47 5 < 422 by decide +kernel) (Nat.le_refl _)) k (Nat.le_trans (by decide) h1) h2) (by decide +kernel) (fun j hj => by show Sum.inl (cA 1, 6, Sum.inl fun _ => Int32.ofInt 0) = _; rw [i0]; rfl)) (Nat.le_of_ble_eq_true rfl) (Nat.le_of_ble_eq_true rfl) (k_at kcX3_ok 26 rfl) ?_
  intro H hF hS
  refine fb_put hx hb hts hK hin hF hS (by omega) hown 421 (47, 5) (by decide) rfl (fun k hk h => vc_u (Nat.lt_of_lt_of_le hk (by decide +kernel)) h (by decide +kernel)) (fs := [.int (Int32.ofInt 5), .int (Int32.ofInt 21), .int (Int32.ofInt 21), .int (Int32.ofInt 0), .null, .null, .null, .int (Int32.ofInt 0), .null, .null, .null, .null, .null, .null]) (opS_s _ _ _) rfl inX3 tyX3 tyX3_ok nmX3 4 (by decide) (kept_t 246 (by decide +kernel) rfl) rfl rfl rfl rfl (Nat.le_of_ble_eq_true rfl) (k_at kcX3_ok 27 rfl) ?_
  intro H locs hF hS
  rw [opS_opS] at hF
  replace hF : FB (wC D cA base) vcC base s1 (opS op (47, 5) (some (.inr (3, [.int (Int32.ofInt 5), .int (Int32.ofInt 21), .int (Int32.ofInt 21), .int (Int32.ofInt 0), .ref (base + 422), .null, .null, .int (Int32.ofInt 0), .null, .null, .null, .null, .null, .null])))) 444 H := hF
  refine W.eq (g2 := F0 m 56 ls []) rfl ?_
  refine lv_aload_n hx hb (k_at kcX3_ok 28 rfl) rfl (lv_at hl 0 rfl) ?_
  refine lv_aload_n hx hb (k_at kcX3_ok 29 rfl) rfl (lv_at hl 0 rfl) ?_
  refine fb_get hx hb hts hK hF hown 421 (47, 5) (by decide) rfl (fs := [.int (Int32.ofInt 5), .int (Int32.ofInt 21), .int (Int32.ofInt 21), .int (Int32.ofInt 0), .ref (base + 422), .null, .null, .int (Int32.ofInt 0), .null, .null, .null, .null, .null, .null]) (opS_s _ _ _) rfl inX3 2 (by decide) (kept_t 242 (by decide +kernel) rfl) rfl (k_at kcX3_ok 30 rfl) ?_
  refine lv_aload_n hx hb (k_at kcX3_ok 31 rfl) rfl (lv_at hl 0 rfl) ?_
  refine fb_get hx hb hts hK hF hown 421 (47, 5) (by decide) rfl (fs := [.int (Int32.ofInt 5), .int (Int32.ofInt 21), .int (Int32.ofInt 21), .int (Int32.ofInt 0), .ref (base + 422), .null, .null, .int (Int32.ofInt 0), .null, .null, .null, .null, .null, .null]) (opS_s _ _ _) rfl inX3 1 (by decide) (kept_t 240 (by decide +kernel) rfl) rfl (k_at kcX3_ok 32 rfl) ?_
  refine fb_multi hx hb hts (ao_mv (Vm.Alike.refl _) hBK.2.1) hF hS hown (kept_t 237 (by decide +kernel) rfl) (kept_t 43 (by decide +kernel) rfl) hcO hcI2 (N := 21) (M := 21) (by decide) (by decide) (by decide) (by decide) (by decide) (by decide) (q0 := (50, 5)) rfl ((opS_no hno (show offC 47 5 < 422 by decide +kernel) (Nat.le_refl _)) 444 (by decide) (by decide +kernel)) rfl (fun j hj => congrArg some (show base + offC 51 (64 * 5 + j) = base + 444 + 1 + j by rw [off51 (by omega)]; show base + (445 + j) = _; omega)) (fb_rows (r := 51) (i0 := 64 * 5) (by decide +kernel) (fun k h1 h2 => (opS_no hno (show offC 47 5 < 422 by decide +kernel) (Nat.le_refl _)) k (Nat.le_trans (by decide) h1) h2) (by decide +kernel) (fun j hj => by show Sum.inl (cA 1, gwd ((64 * 5 + j) / 64), Sum.inl fun _ => Int32.ofInt 0) = _; rw [show (64 * 5 + j) / 64 = 5 from by omega, i0]; rfl)) (Nat.le_of_ble_eq_true rfl) (Nat.le_of_ble_eq_true rfl) (k_at kcX3_ok 33 rfl) ?_
  intro H hF hS
  refine fb_put hx hb hts hK hin hF hS (by omega) hown 421 (47, 5) (by decide) rfl (fun k hk h => vc_u (Nat.lt_of_lt_of_le hk (by decide +kernel)) h (by decide +kernel)) (fs := [.int (Int32.ofInt 5), .int (Int32.ofInt 21), .int (Int32.ofInt 21), .int (Int32.ofInt 0), .ref (base + 422), .null, .null, .int (Int32.ofInt 0), .null, .null, .null, .null, .null, .null]) (opS_s _ _ _) rfl inX3 tyX3 tyX3_ok nmX3 5 (by decide) (kept_t 248 (by decide +kernel) rfl) rfl rfl rfl rfl (Nat.le_of_ble_eq_true rfl) (k_at kcX3_ok 34 rfl) ?_
  intro H locs hF hS
  rw [opS_opS] at hF
  replace hF : FB (wC D cA base) vcC base s1 (opS op (47, 5) (some (.inr (3, [.int (Int32.ofInt 5), .int (Int32.ofInt 21), .int (Int32.ofInt 21), .int (Int32.ofInt 0), .ref (base + 422), .ref (base + 444), .null, .int (Int32.ofInt 0), .null, .null, .null, .null, .null, .null])))) 466 H := hF
  refine W.eq (g2 := F0 m 72 ls []) rfl ?_
  refine lv_aload_n hx hb (k_at kcX3_ok 35 rfl) rfl (lv_at hl 0 rfl) ?_
  refine lv_aload_n hx hb (k_at kcX3_ok 36 rfl) rfl (lv_at hl 0 rfl) ?_
  refine fb_get hx hb hts hK hF hown 421 (47, 5) (by decide) rfl (fs := [.int (Int32.ofInt 5), .int (Int32.ofInt 21), .int (Int32.ofInt 21), .int (Int32.ofInt 0), .ref (base + 422), .ref (base + 444), .null, .int (Int32.ofInt 0), .null, .null, .null, .null, .null, .null]) (opS_s _ _ _) rfl inX3 2 (by decide) (kept_t 242 (by decide +kernel) rfl) rfl (k_at kcX3_ok 37 rfl) ?_
  refine fb_newa (kd := 1) hx hb hts hK hF hS (by omega) (by omega) (atype := .int) (ty := .int) rfl (kept_t 43 (by decide +kernel) rfl) hcI (q0 := (52, 5)) rfl ((opS_no hno (show offC 47 5 < 422 by decide +kernel) (Nat.le_refl _)) 466 (by decide) (by decide +kernel)) (a0 := (21, .inl fun k => Int32.ofInt (s1 52 5 k))) rfl (N := 21) (fun cA => z_int (fun _ => i0) cA 21) (by decide) (by decide) (by decide) (Nat.le_of_ble_eq_true rfl) (Nat.le_of_ble_eq_true rfl) (k_at kcX3_ok 38 rfl) (fun _ h => h) ?_
  intro H hF hS
  refine fb_put hx hb hts hK hin hF hS (by omega) hown 421 (47, 5) (by decide) rfl (fun k hk h => vc_u (Nat.lt_of_lt_of_le hk (by decide +kernel)) h (by decide +kernel)) (fs := [.int (Int32.ofInt 5), .int (Int32.ofInt 21), .int (Int32.ofInt 21), .int (Int32.ofInt 0), .ref (base + 422), .ref (base + 444), .null, .int (Int32.ofInt 0), .null, .null, .null, .null, .null, .null]) (opS_s _ _ _) rfl inX3 tyX3 tyX3_ok nmX3 6 (by decide) (kept_t 250 (by decide +kernel) rfl) rfl rfl rfl rfl (Nat.le_of_ble_eq_true rfl) (k_at kcX3_ok 39 rfl) ?_
  intro H locs hF hS
  rw [opS_opS] at hF
  replace hF : FB (wC D cA base) vcC base s1 (opS op (47, 5) (some (.inr (3, [.int (Int32.ofInt 5), .int (Int32.ofInt 21), .int (Int32.ofInt 21), .int (Int32.ofInt 0), .ref (base + 422), .ref (base + 444), .ref (base + 466), .int (Int32.ofInt 0), .null, .null, .null, .null, .null, .null])))) 467 H := hF
  refine W.eq (g2 := F0 m 82 ls []) rfl ?_
  refine lv_aload_n hx hb (k_at kcX3_ok 40 rfl) rfl (lv_at hl 0 rfl) ?_
  refine lv_aload_n hx hb (k_at kcX3_ok 41 rfl) rfl (lv_at hl 0 rfl) ?_
  refine fb_get hx hb hts hK hF hown 421 (47, 5) (by decide) rfl (fs := [.int (Int32.ofInt 5), .int (Int32.ofInt 21), .int (Int32.ofInt 21), .int (Int32.ofInt 0), .ref (base + 422), .ref (base + 444), .ref (base + 466), .int (Int32.ofInt 0), .null, .null, .null, .null, .null, .null]) (opS_s _ _ _) rfl inX3 1 (by decide) (kept_t 240 (by decide +kernel) rfl) rfl (k_at kcX3_ok 42 rfl) ?_
  refine fb_newa (kd := 1) hx hb hts hK hF hS (by omega) (by omega) (atype := .int) (ty := .int) rfl (kept_t 43 (by decide +kernel) rfl) hcI (q0 := (53, 5)) rfl ((opS_no hno (show offC 47 5 < 422 by decide +kernel) (Nat.le_refl _)) 467 (by decide) (by decide +kernel)) (a0 := (21, .inl fun k => Int32.ofInt (s1 53 5 k))) rfl (N := 21) (fun cA => z_int (fun _ => i0) cA 21) (by decide) (by decide) (by decide) (Nat.le_of_ble_eq_true rfl) (Nat.le_of_ble_eq_true rfl) (k_at kcX3_ok 43 rfl) (fun _ h => h) ?_
  intro H hF hS
  refine fb_put hx hb hts hK hin hF hS (by omega) hown 421 (47, 5) (by decide) rfl (fun k hk h => vc_u (Nat.lt_of_lt_of_le hk (by decide +kernel)) h (by decide +kernel)) (fs := [.int (Int32.ofInt 5), .int (Int32.ofInt 21), .int (Int32.ofInt 21), .int (Int32.ofInt 0), .ref (base + 422), .ref (base + 444), .ref (base + 466), .int (Int32.ofInt 0), .null, .null, .null, .null, .null, .null]) (opS_s _ _ _) rfl inX3 tyX3 tyX3_ok nmX3 8 (by decide) (kept_t 253 (by decide +kernel) rfl) rfl rfl rfl rfl (Nat.le_of_ble_eq_true rfl) (k_at kcX3_ok 44 rfl) ?_
  intro H locs hF hS
  rw [opS_opS] at hF
  replace hF : FB (wC D cA base) vcC base s1 (opS op (47, 5) (some (.inr (3, [.int (Int32.ofInt 5), .int (Int32.ofInt 21), .int (Int32.ofInt 21), .int (Int32.ofInt 0), .ref (base + 422), .ref (base + 444), .ref (base + 466), .int (Int32.ofInt 0), .ref (base + 467), .null, .null, .null, .null, .null])))) 468 H := hF
  refine W.eq (g2 := F0 m 92 ls []) rfl ?_
  refine lv_aload_n hx hb (k_at kcX3_ok 45 rfl) rfl (lv_at hl 0 rfl) ?_
  refine lv_aload_n hx hb (k_at kcX3_ok 46 rfl) rfl (lv_at hl 0 rfl) ?_
  refine fb_get hx hb hts hK hF hown 421 (47, 5) (by decide) rfl (fs := [.int (Int32.ofInt 5), .int (Int32.ofInt 21), .int (Int32.ofInt 21), .int (Int32.ofInt 0), .ref (base + 422), .ref (base + 444), .ref (base + 466), .int (Int32.ofInt 0), .ref (base + 467), .null, .null, .null, .null, .null]) (opS_s _ _ _) rfl inX3 1 (by decide) (kept_t 240 (by decide +kernel) rfl) rfl (k_at kcX3_ok 47 rfl) ?_
  refine lv_aload_n hx hb (k_at kcX3_ok 48 rfl) rfl (lv_at hl 0 rfl) ?_
  refine fb_get hx hb hts hK hF hown 421 (47, 5) (by decide) rfl (fs := [.int (Int32.ofInt 5), .int (Int32.ofInt 21), .int (Int32.ofInt 21), .int (Int32.ofInt 0), .ref (base + 422), .ref (base + 444), .ref (base + 466), .int (Int32.ofInt 0), .ref (base + 467), .null, .null, .null, .null, .null]) (opS_s _ _ _) rfl inX3 1 (by decide) (kept_t 240 (by decide +kernel) rfl) rfl (k_at kcX3_ok 49 rfl) ?_
  refine fb_multi hx hb hts (ao_mv (Vm.Alike.refl _) hBK.2.1) hF hS hown (kept_t 237 (by decide +kernel) rfl) (kept_t 43 (by decide +kernel) rfl) hcO hcI2 (N := 21) (M := 21) (by decide) (by decide) (by decide) (by decide) (by decide) (by decide) (q0 := (54, 5)) rfl ((opS_no hno (show offC 47 5 < 422 by decide +kernel) (Nat.le_refl _)) 468 (by decide) (by decide +kernel)) rfl (fun j hj => congrArg some (show base + offC 55 (64 * 5 + j) = base + 468 + 1 + j by rw [off55 (by omega)]; show base + (469 + j) = _; omega)) (fb_rows (r := 55) (i0 := 64 * 5) (by decide +kernel) (fun k h1 h2 => (opS_no hno (show offC 47 5 < 422 by decide +kernel) (Nat.le_refl _)) k (Nat.le_trans (by decide) h1) h2) (by decide +kernel) (fun j hj => by show Sum.inl (cA 1, gwd ((64 * 5 + j) / 64), Sum.inl fun _ => Int32.ofInt 0) = _; rw [show (64 * 5 + j) / 64 = 5 from by omega, i0]; rfl)) (Nat.le_of_ble_eq_true rfl) (Nat.le_of_ble_eq_true rfl) (k_at kcX3_ok 50 rfl) ?_
  intro H hF hS
  refine fb_put hx hb hts hK hin hF hS (by omega) hown 421 (47, 5) (by decide) rfl (fun k hk h => vc_u (Nat.lt_of_lt_of_le hk (by decide +kernel)) h (by decide +kernel)) (fs := [.int (Int32.ofInt 5), .int (Int32.ofInt 21), .int (Int32.ofInt 21), .int (Int32.ofInt 0), .ref (base + 422), .ref (base + 444), .ref (base + 466), .int (Int32.ofInt 0), .ref (base + 467), .null, .null, .null, .null, .null]) (opS_s _ _ _) rfl inX3 tyX3 tyX3_ok nmX3 9 (by decide) (kept_t 254 (by decide +kernel) rfl) rfl rfl rfl rfl (Nat.le_of_ble_eq_true rfl) (k_at kcX3_ok 51 rfl) ?_
  intro H locs hF hS
  rw [opS_opS] at hF
  replace hF : FB (wC D cA base) vcC base s1 (opS op (47, 5) (some (.inr (3, [.int (Int32.ofInt 5), .int (Int32.ofInt 21), .int (Int32.ofInt 21), .int (Int32.ofInt 0), .ref (base + 422), .ref (base + 444), .ref (base + 466), .int (Int32.ofInt 0), .ref (base + 467), .ref (base + 468), .null, .null, .null, .null])))) 490 H := hF
  refine W.eq (g2 := F0 m 108 ls []) rfl ?_
  refine lv_aload_n hx hb (k_at kcX3_ok 52 rfl) rfl (lv_at hl 0 rfl) ?_
  refine lv_aload_n hx hb (k_at kcX3_ok 53 rfl) rfl (lv_at hl 0 rfl) ?_
  refine fb_get hx hb hts hK hF hown 421 (47, 5) (by decide) rfl (fs := [.int (Int32.ofInt 5), .int (Int32.ofInt 21), .int (Int32.ofInt 21), .int (Int32.ofInt 0), .ref (base + 422), .ref (base + 444), .ref (base + 466), .int (Int32.ofInt 0), .ref (base + 467), .ref (base + 468), .null, .null, .null, .null]) (opS_s _ _ _) rfl inX3 1 (by decide) (kept_t 240 (by decide +kernel) rfl) rfl (k_at kcX3_ok 54 rfl) ?_
  refine lv_aload_n hx hb (k_at kcX3_ok 55 rfl) rfl (lv_at hl 0 rfl) ?_
  refine fb_get hx hb hts hK hF hown 421 (47, 5) (by decide) rfl (fs := [.int (Int32.ofInt 5), .int (Int32.ofInt 21), .int (Int32.ofInt 21), .int (Int32.ofInt 0), .ref (base + 422), .ref (base + 444), .ref (base + 466), .int (Int32.ofInt 0), .ref (base + 467), .ref (base + 468), .null, .null, .null, .null]) (opS_s _ _ _) rfl inX3 1 (by decide) (kept_t 240 (by decide +kernel) rfl) rfl (k_at kcX3_ok 56 rfl) ?_
  refine fb_multi hx hb hts (ao_mv (Vm.Alike.refl _) hBK.2.1) hF hS hown (kept_t 237 (by decide +kernel) rfl) (kept_t 43 (by decide +kernel) rfl) hcO hcI2 (N := 21) (M := 21) (by decide) (by decide) (by decide) (by decide) (by decide) (by decide) (q0 := (56, 5)) rfl ((opS_no hno (show offC 47 5 < 422 by decide +kernel) (Nat.le_refl _)) 490 (by decide) (by decide +kernel)) rfl (fun j hj => congrArg some (show base + offC 57 (64 * 5 + j) = base + 490 + 1 + j by rw [off57 (by omega)]; show base + (491 + j) = _; omega)) (fb_rows (r := 57) (i0 := 64 * 5) (by decide +kernel) (fun k h1 h2 => (opS_no hno (show offC 47 5 < 422 by decide +kernel) (Nat.le_refl _)) k (Nat.le_trans (by decide) h1) h2) (by decide +kernel) (fun j hj => by show Sum.inl (cA 1, gwd ((64 * 5 + j) / 64), Sum.inl fun _ => Int32.ofInt 0) = _; rw [show (64 * 5 + j) / 64 = 5 from by omega, i0]; rfl)) (Nat.le_of_ble_eq_true rfl) (Nat.le_of_ble_eq_true rfl) (k_at kcX3_ok 57 rfl) ?_
  intro H hF hS
  refine fb_put hx hb hts hK hin hF hS (by omega) hown 421 (47, 5) (by decide) rfl (fun k hk h => vc_u (Nat.lt_of_lt_of_le hk (by decide +kernel)) h (by decide +kernel)) (fs := [.int (Int32.ofInt 5), .int (Int32.ofInt 21), .int (Int32.ofInt 21), .int (Int32.ofInt 0), .ref (base + 422), .ref (base + 444), .ref (base + 466), .int (Int32.ofInt 0), .ref (base + 467), .ref (base + 468), .null, .null, .null, .null]) (opS_s _ _ _) rfl inX3 tyX3 tyX3_ok nmX3 10 (by decide) (kept_t 255 (by decide +kernel) rfl) rfl rfl rfl rfl (Nat.le_of_ble_eq_true rfl) (k_at kcX3_ok 58 rfl) ?_
  intro H locs hF hS
  rw [opS_opS] at hF
  replace hF : FB (wC D cA base) vcC base s1 (opS op (47, 5) (some (.inr (3, [.int (Int32.ofInt 5), .int (Int32.ofInt 21), .int (Int32.ofInt 21), .int (Int32.ofInt 0), .ref (base + 422), .ref (base + 444), .ref (base + 466), .int (Int32.ofInt 0), .ref (base + 467), .ref (base + 468), .ref (base + 490), .null, .null, .null])))) 512 H := hF
  refine W.eq (g2 := F0 m 124 ls []) rfl ?_
  refine lv_aload_n hx hb (k_at kcX3_ok 59 rfl) rfl (lv_at hl 0 rfl) ?_
  refine lv_aload_n hx hb (k_at kcX3_ok 60 rfl) rfl (lv_at hl 0 rfl) ?_
  refine fb_get hx hb hts hK hF hown 421 (47, 5) (by decide) rfl (fs := [.int (Int32.ofInt 5), .int (Int32.ofInt 21), .int (Int32.ofInt 21), .int (Int32.ofInt 0), .ref (base + 422), .ref (base + 444), .ref (base + 466), .int (Int32.ofInt 0), .ref (base + 467), .ref (base + 468), .ref (base + 490), .null, .null, .null]) (opS_s _ _ _) rfl inX3 1 (by decide) (kept_t 240 (by decide +kernel) rfl) rfl (k_at kcX3_ok 61 rfl) ?_
  refine fb_newa (kd := 1) hx hb hts hK hF hS (by omega) (by omega) (atype := .int) (ty := .int) rfl (kept_t 43 (by decide +kernel) rfl) hcI (q0 := (58, 5)) rfl ((opS_no hno (show offC 47 5 < 422 by decide +kernel) (Nat.le_refl _)) 512 (by decide) (by decide +kernel)) (a0 := (21, .inl fun k => Int32.ofInt (s1 58 5 k))) rfl (N := 21) (fun cA => z_int (fun _ => i0) cA 21) (by decide) (by decide) (by decide) (Nat.le_of_ble_eq_true rfl) (Nat.le_of_ble_eq_true rfl) (k_at kcX3_ok 62 rfl) (fun _ h => h) ?_
  intro H hF hS
  refine fb_put hx hb hts hK hin hF hS (by omega) hown 421 (47, 5) (by decide) rfl (fun k hk h => vc_u (Nat.lt_of_lt_of_le hk (by decide +kernel)) h (by decide +kernel)) (fs := [.int (Int32.ofInt 5), .int (Int32.ofInt 21), .int (Int32.ofInt 21), .int (Int32.ofInt 0), .ref (base + 422), .ref (base + 444), .ref (base + 466), .int (Int32.ofInt 0), .ref (base + 467), .ref (base + 468), .ref (base + 490), .null, .null, .null]) (opS_s _ _ _) rfl inX3 tyX3 tyX3_ok nmX3 11 (by decide) (kept_t 256 (by decide +kernel) rfl) rfl rfl rfl rfl (Nat.le_of_ble_eq_true rfl) (k_at kcX3_ok 63 rfl) ?_
  intro H locs hF hS
  rw [opS_opS] at hF
  replace hF : FB (wC D cA base) vcC base s1 (opS op (47, 5) (some (.inr (3, [.int (Int32.ofInt 5), .int (Int32.ofInt 21), .int (Int32.ofInt 21), .int (Int32.ofInt 0), .ref (base + 422), .ref (base + 444), .ref (base + 466), .int (Int32.ofInt 0), .ref (base + 467), .ref (base + 468), .ref (base + 490), .ref (base + 512), .null, .null])))) 513 H := hF
  refine W.eq (g2 := F0 m 134 ls []) rfl ?_
  refine lv_aload_n hx hb (k_at kcX3_ok 64 rfl) rfl (lv_at hl 0 rfl) ?_
  refine lv_aload_n hx hb (k_at kcX3_ok 65 rfl) rfl (lv_at hl 0 rfl) ?_
  refine fb_get hx hb hts hK hF hown 421 (47, 5) (by decide) rfl (fs := [.int (Int32.ofInt 5), .int (Int32.ofInt 21), .int (Int32.ofInt 21), .int (Int32.ofInt 0), .ref (base + 422), .ref (base + 444), .ref (base + 466), .int (Int32.ofInt 0), .ref (base + 467), .ref (base + 468), .ref (base + 490), .ref (base + 512), .null, .null]) (opS_s _ _ _) rfl inX3 1 (by decide) (kept_t 240 (by decide +kernel) rfl) rfl (k_at kcX3_ok 66 rfl) ?_
  refine fb_newa (kd := 1) hx hb hts hK hF hS (by omega) (by omega) (atype := .int) (ty := .int) rfl (kept_t 43 (by decide +kernel) rfl) hcI (q0 := (59, 5)) rfl ((opS_no hno (show offC 47 5 < 422 by decide +kernel) (Nat.le_refl _)) 513 (by decide) (by decide +kernel)) (a0 := (21, .inl fun k => Int32.ofInt (s1 59 5 k))) rfl (N := 21) (fun cA => z_int (fun _ => i0) cA 21) (by decide) (by decide) (by decide) (Nat.le_of_ble_eq_true rfl) (Nat.le_of_ble_eq_true rfl) (k_at kcX3_ok 67 rfl) (fun _ h => h) ?_
  intro H hF hS
  refine fb_put hx hb hts hK hin hF hS (by omega) hown 421 (47, 5) (by decide) rfl (fun k hk h => vc_u (Nat.lt_of_lt_of_le hk (by decide +kernel)) h (by decide +kernel)) (fs := [.int (Int32.ofInt 5), .int (Int32.ofInt 21), .int (Int32.ofInt 21), .int (Int32.ofInt 0), .ref (base + 422), .ref (base + 444), .ref (base + 466), .int (Int32.ofInt 0), .ref (base + 467), .ref (base + 468), .ref (base + 490), .ref (base + 512), .null, .null]) (opS_s _ _ _) rfl inX3 tyX3 tyX3_ok nmX3 12 (by decide) (kept_t 257 (by decide +kernel) rfl) rfl rfl rfl rfl (Nat.le_of_ble_eq_true rfl) (k_at kcX3_ok 68 rfl) ?_
  intro H locs hF hS
  rw [opS_opS] at hF
  replace hF : FB (wC D cA base) vcC base s1 (opS op (47, 5) (some (.inr (3, [.int (Int32.ofInt 5), .int (Int32.ofInt 21), .int (Int32.ofInt 21), .int (Int32.ofInt 0), .ref (base + 422), .ref (base + 444), .ref (base + 466), .int (Int32.ofInt 0), .ref (base + 467), .ref (base + 468), .ref (base + 490), .ref (base + 512), .ref (base + 513), .null])))) 514 H := hF
  refine W.eq (g2 := F0 m 144 ls []) rfl ?_
  refine lv_aload_n hx hb (k_at kcX3_ok 69 rfl) rfl (lv_at hl 0 rfl) ?_
  refine lv_aload_n hx hb (k_at kcX3_ok 70 rfl) rfl (lv_at hl 0 rfl) ?_
  refine fb_get hx hb hts hK hF hown 421 (47, 5) (by decide) rfl (fs := [.int (Int32.ofInt 5), .int (Int32.ofInt 21), .int (Int32.ofInt 21), .int (Int32.ofInt 0), .ref (base + 422), .ref (base + 444), .ref (base + 466), .int (Int32.ofInt 0), .ref (base + 467), .ref (base + 468), .ref (base + 490), .ref (base + 512), .ref (base + 513), .null]) (opS_s _ _ _) rfl inX3 1 (by decide) (kept_t 240 (by decide +kernel) rfl) rfl (k_at kcX3_ok 71 rfl) ?_
  refine fb_newa (kd := 1) hx hb hts hK hF hS (by omega) (by omega) (atype := .int) (ty := .int) rfl (kept_t 43 (by decide +kernel) rfl) hcI (q0 := (60, 5)) rfl ((opS_no hno (show offC 47 5 < 422 by decide +kernel) (Nat.le_refl _)) 514 (by decide) (by decide +kernel)) (a0 := (21, .inl fun k => Int32.ofInt (s1 60 5 k))) rfl (N := 21) (fun cA => z_int (fun _ => i0) cA 21) (by decide) (by decide) (by decide) (Nat.le_of_ble_eq_true rfl) (Nat.le_of_ble_eq_true rfl) (k_at kcX3_ok 72 rfl) (fun _ h => h) ?_
  intro H hF hS
  refine fb_put hx hb hts hK hin hF hS (by omega) hown 421 (47, 5) (by decide) rfl (fun k hk h => vc_u (Nat.lt_of_lt_of_le hk (by decide +kernel)) h (by decide +kernel)) (fs := [.int (Int32.ofInt 5), .int (Int32.ofInt 21), .int (Int32.ofInt 21), .int (Int32.ofInt 0), .ref (base + 422), .ref (base + 444), .ref (base + 466), .int (Int32.ofInt 0), .ref (base + 467), .ref (base + 468), .ref (base + 490), .ref (base + 512), .ref (base + 513), .null]) (opS_s _ _ _) rfl inX3 tyX3 tyX3_ok nmX3 13 (by decide) (kept_t 258 (by decide +kernel) rfl) rfl rfl rfl rfl (Nat.le_of_ble_eq_true rfl) (k_at kcX3_ok 73 rfl) ?_
  intro H locs hF hS
  rw [opS_opS] at hF
  replace hF : FB (wC D cA base) vcC base s1 (opS op (47, 5) (some (.inr (3, [.int (Int32.ofInt 5), .int (Int32.ofInt 21), .int (Int32.ofInt 21), .int (Int32.ofInt 0), .ref (base + 422), .ref (base + 444), .ref (base + 466), .int (Int32.ofInt 0), .ref (base + 467), .ref (base + 468), .ref (base + 490), .ref (base + 512), .ref (base + 513), .ref (base + 514)])))) 515 H := hF
  refine W.eq (g2 := F0 m 154 ls []) rfl ?_
  exact fb_ret hx hb hr hlocks hF hS (fun k _ => fb_close rfl _) (k_at kcX3_ok 74 rfl) rfl rfl
set_option maxRecDepth 20000 in
theorem i_X3_6 (l : Launch) {D : va_G} {cA : Nat → ClassId} {base zq : Nat} {op : Nat × Nat → Option va_E} (hop : op (47, 6) = some (.inr (3, [.int (Int32.ofInt 0), .int (Int32.ofInt 0), .int (Int32.ofInt 0), .int (Int32.ofInt 0), .null, .null, .null, .int (Int32.ofInt 0), .null, .null, .null, .null, .null, .null]))) (hno : ∀ k, 516 ≤ k → k < nC → op (vcC k) = none) : iMet l (wC D cA base) vcC base zq yX3_init cX3_init 2 4 177 3808 s1 op 516 515 [.int (Int32.ofInt 6)] s1 (opS op (47, 6) none) 693 := by
  refine i_intro (by decide) rfl (Nat.le_of_ble_eq_true rfl) (fun p e s m args below meth c ls hx hb hml hown hts hin hr hlocks hBK hsz hF hS hl => ?_)
  have hK := hBK.1
  have SC : CallFix p m c cX3_init 2 s args lw_kept RX3 := ⟨hx, hb, hml, hown, hts⟩
  have hown : s.vm.findClass RX3 = some m.cls := hown
  have hcI : s.vm.findClass ("[" ++ FieldType.int.toString) = some (cA 1) := (hK.1.2 0 _ rfl).2
  have hcI2 : s.vm.findClass (FieldType.array .int).toString = some (cA 1) := hcI
  have hcZ : s.vm.findClass ("[" ++ FieldType.boolean.toString) = some (cA 3) := (hK.1.2 2 _ rfl).2
  have hcO : s.vm.findClass ("[" ++ (FieldType.array .int).toString) = some (cA 5) := (hK.1.2 3 _ rfl).2
  refine lv_aload_n hx hb (k_at kcX3_ok 0 rfl) rfl (lv_at hl 0 rfl) ?_
  refine fb_obj SC (kept_t 231 (by decide +kernel) rfl) (kept_t 24 (by decide +kernel) rfl) (kept_t 25 (by decide +kernel) rfl) hl.1 ⟨(Nat.le_of_ble_eq_true rfl), (Nat.le_of_ble_eq_true rfl)⟩ (k_at kcX3_ok 1 rfl) ?_
  refine W.eq (g2 := F0 m 4 ls []) rfl ?_
  refine lv_aload_n hx hb (k_at kcX3_ok 2 rfl) rfl (lv_at hl 0 rfl) ?_
  refine lv_iload_n hx hb (k_at kcX3_ok 3 rfl) rfl (lv_at hl 1 rfl) ?_
  refine fb_put hx hb hts hK hin hF hS (by omega) hown 515 (47, 6) (by decide) rfl (fun k hk h => vc_u (Nat.lt_of_lt_of_le hk (by decide +kernel)) h (by decide +kernel)) (fs := [.int (Int32.ofInt 0), .int (Int32.ofInt 0), .int (Int32.ofInt 0), .int (Int32.ofInt 0), .null, .null, .null, .int (Int32.ofInt 0), .null, .null, .null, .null, .null, .null]) hop rfl inX3 tyX3 tyX3_ok nmX3 0 (by decide) (kept_t 238 (by decide +kernel) rfl) rfl rfl rfl rfl (Nat.le_of_ble_eq_true rfl) (k_at kcX3_ok 4 rfl) ?_
  intro H locs hF hS
  replace hF : FB (wC D cA base) vcC base s1 (opS op (47, 6) (some (.inr (3, [.int (Int32.ofInt 6), .int (Int32.ofInt 0), .int (Int32.ofInt 0), .int (Int32.ofInt 0), .null, .null, .null, .int (Int32.ofInt 0), .null, .null, .null, .null, .null, .null])))) 516 H := hF
  refine W.eq (g2 := F0 m 9 ls []) rfl ?_
  refine lv_aload_n hx hb (k_at kcX3_ok 5 rfl) rfl (lv_at hl 0 rfl) ?_
  refine lv_iload_n hx hb (k_at kcX3_ok 6 rfl) rfl (lv_at hl 1 rfl) ?_
  refine fb_width SC hK (kept_t 232 (by decide +kernel) rfl) hF hS (by omega) (by omega) hl.1 (Nat.le_of_ble_eq_true rfl) ⟨(Nat.le_of_ble_eq_true rfl), (Nat.le_of_ble_eq_true rfl)⟩ ⟨(Nat.le_of_ble_eq_true rfl), (Nat.le_of_ble_eq_true rfl)⟩ (z := 6) (v := 28) (by decide) (by decide +kernel) (k_at kcX3_ok 7 rfl) ?_
  intro H locs hF hS
  refine fb_put hx hb hts hK hin hF hS (by omega) hown 515 (47, 6) (by decide) rfl (fun k hk h => vc_u (Nat.lt_of_lt_of_le hk (by decide +kernel)) h (by decide +kernel)) (fs := [.int (Int32.ofInt 6), .int (Int32.ofInt 0), .int (Int32.ofInt 0), .int (Int32.ofInt 0), .null, .null, .null, .int (Int32.ofInt 0), .null, .null, .null, .null, .null, .null]) (opS_s _ _ _) rfl inX3 tyX3 tyX3_ok nmX3 1 (by decide) (kept_t 240 (by decide +kernel) rfl) rfl rfl rfl rfl (Nat.le_of_ble_eq_true rfl) (k_at kcX3_ok 8 rfl) ?_
  intro H locs hF hS
  rw [opS_opS] at hF
  replace hF : FB (wC D cA base) vcC base s1 (opS op (47, 6) (some (.inr (3, [.int (Int32.ofInt 6), .int (Int32.ofInt 28), .int (Int32.ofInt 0), .int (Int32.ofInt 0), .null, .null, .null, .int (Int32.ofInt 0), .null, .null, .null, .null, .null, .null])))) 516 H := hF
  refine W.eq (g2 := F0 m 17 ls []) rfl ?_
  refine lv_aload_n hx hb (k_at kcX3_ok 9 rfl) rfl (lv_at hl 0 rfl) ?_
  refine lv_iload_n hx hb (k_at kcX3_ok 10 rfl) rfl (lv_at hl 1 rfl) ?_
  refine lv_if_lt hx hb (tgt := 38) (k_at kcX3_ok 11 rfl) rfl (fun h => absurd h (by decide)) (fun _ => ?_)
  refine lv_iload_n hx hb (k_at kcX3_ok 12 rfl) rfl (lv_at hl 1 rfl) ?_
  refine fb_gets hx hb hBK hS hown (k_at kcX3_ok 13 rfl) ?_
  refine fb_zlen hx hb hBK hS (by omega) (k_at kcX3_ok 14 rfl) ?_
  refine lv_icmp_ge hx hb (tgt := 38) (k_at kcX3_ok 15 rfl) rfl (fun h => absurd h (by decide)) (fun _ => ?_)
  refine fb_gets hx hb hBK hS hown (k_at kcX3_ok 16 rfl) ?_
  refine lv_iload_n hx hb (k_at kcX3_ok 17 rfl) rfl (lv_at hl 1 rfl) ?_
  refine fb_zald hx hb hBK hS (by omega) (z := 6) (v := 56) (j := 6) (iin (a := 6) (by decide) (by decide)) (by decide) (by decide) (k_at kcX3_ok 18 rfl) ?_
  refine lv_goto hx hb (tgt := 39) (k_at kcX3_ok 19 rfl) rfl ?_
  refine fb_put hx hb hts hK hin hF hS (by omega) hown 515 (47, 6) (by decide) rfl (fun k hk h => vc_u (Nat.lt_of_lt_of_le hk (by decide +kernel)) h (by decide +kernel)) (fs := [.int (Int32.ofInt 6), .int (Int32.ofInt 28), .int (Int32.ofInt 0), .int (Int32.ofInt 0), .null, .null, .null, .int (Int32.ofInt 0), .null, .null, .null, .null, .null, .null]) (opS_s _ _ _) rfl inX3 tyX3 tyX3_ok nmX3 2 (by decide) (kept_t 242 (by decide +kernel) rfl) rfl rfl rfl rfl (Nat.le_of_ble_eq_true rfl) (k_at kcX3_ok 21 rfl) ?_
  intro H locs hF hS
  rw [opS_opS] at hF
  replace hF : FB (wC D cA base) vcC base s1 (opS op (47, 6) (some (.inr (3, [.int (Int32.ofInt 6), .int (Int32.ofInt 28), .int (Int32.ofInt 56), .int (Int32.ofInt 0), .null, .null, .null, .int (Int32.ofInt 0), .null, .null, .null, .null, .null, .null])))) 516 H := hF
  refine W.eq (g2 := F0 m 42 ls []) rfl ?_
  refine lv_aload_n hx hb (k_at kcX3_ok 22 rfl) rfl (lv_at hl 0 rfl) ?_
  refine lv_aload_n hx hb (k_at kcX3_ok 23 rfl) rfl (lv_at hl 0 rfl) ?_
  refine fb_get hx hb hts hK hF hown 515 (47, 6) (by decide) rfl (fs := [.int (Int32.ofInt 6), .int (Int32.ofInt 28), .int (Int32.ofInt 56), .int (Int32.ofInt 0), .null, .null, .null, .int (Int32.ofInt 0), .null, .null, .null, .null, .null, .null]) (opS_s _ _ _) rfl inX3 2 (by decide) (kept_t 242 (by decide +kernel) rfl) rfl (k_at kcX3_ok 24 rfl) ?_
  refine lv_bipush hx hb (k_at kcX3_ok 25 rfl) (ofI_8 (by decide) (by decide)) ?_
  refine fb_multi hx hb hts (ao_mv (Vm.Alike.refl _) hBK.2.1) hF hS hown (kept_t 237 (by decide +kernel) rfl) (kept_t 43 (by decide +kernel) rfl) hcO hcI2 (N := 56) (M := 6) (by decide) (by decide) (by decide) (by decide) (by decide) (by decide) (q0 := (48, 6)) rfl ((opS_no hno (show offC 47 6 < 516 by decide +kernel) (Nat.le_refl _)) 516 (by decide) (by decide +kernel)) rfl (fun j hj => congrArg some (show base + offC 49 (64 * 6 + j) = base + 516 + 1 + j by rw [off49 (by omega)]; show base + (517 + j) = _; omega)) (fb_rows (r := 49) (i0 := 64 * 6) (by decide +kernel) (fun k h1 h2 => (opS_no hno (show offC 47 6 < 516 by decide +kernel) (Nat.le_refl _)) k (Nat.le_trans (by decide) h1) h2) (by decide +kernel) (fun j hj => by show Sum.inl (cA 1, 6, Sum.inl fun _ => Int32.ofInt 0) = _; rw [i0]; rfl)) (Nat.le_of_ble_eq_true rfl) (Nat.le_of_ble_eq_true rfl) (k_at kcX3_ok 26 rfl) ?_
  intro H hF hS
  refine fb_put hx hb hts hK hin hF hS (by omega) hown 515 (47, 6) (by decide) rfl (fun k hk h => vc_u (Nat.lt_of_lt_of_le hk (by decide +kernel)) h (by decide +kernel)) (fs := [.int (Int32.ofInt 6), .int (Int32.ofInt 28), .int (Int32.ofInt 56), .int (Int32.ofInt 0), .null, .null, .null, .int (Int32.ofInt 0), .null, .null, .null, .null, .null, .null]) (opS_s _ _ _) rfl inX3 tyX3 tyX3_ok nmX3 4 (by decide) (kept_t 246 (by decide +kernel) rfl) rfl rfl rfl rfl (Nat.le_of_ble_eq_true rfl) (k_at kcX3_ok 27 rfl) ?_
  intro H locs hF hS
  rw [opS_opS] at hF
  replace hF : FB (wC D cA base) vcC base s1 (opS op (47, 6) (some (.inr (3, [.int (Int32.ofInt 6), .int (Int32.ofInt 28), .int (Int32.ofInt 56), .int (Int32.ofInt 0), .ref (base + 516), .null, .null, .int (Int32.ofInt 0), .null, .null, .null, .null, .null, .null])))) 573 H := hF
  refine W.eq (g2 := F0 m 56 ls []) rfl ?_
  refine lv_aload_n hx hb (k_at kcX3_ok 28 rfl) rfl (lv_at hl 0 rfl) ?_
  refine lv_aload_n hx hb (k_at kcX3_ok 29 rfl) rfl (lv_at hl 0 rfl) ?_
  refine fb_get hx hb hts hK hF hown 515 (47, 6) (by decide) rfl (fs := [.int (Int32.ofInt 6), .int (Int32.ofInt 28), .int (Int32.ofInt 56), .int (Int32.ofInt 0), .ref (base + 516), .null, .null, .int (Int32.ofInt 0), .null, .null, .null, .null, .null, .null]) (opS_s _ _ _) rfl inX3 2 (by decide) (kept_t 242 (by decide +kernel) rfl) rfl (k_at kcX3_ok 30 rfl) ?_
  refine lv_aload_n hx hb (k_at kcX3_ok 31 rfl) rfl (lv_at hl 0 rfl) ?_
  refine fb_get hx hb hts hK hF hown 515 (47, 6) (by decide) rfl (fs := [.int (Int32.ofInt 6), .int (Int32.ofInt 28), .int (Int32.ofInt 56), .int (Int32.ofInt 0), .ref (base + 516), .null, .null, .int (Int32.ofInt 0), .null, .null, .null, .null, .null, .null]) (opS_s _ _ _) rfl inX3 1 (by decide) (kept_t 240 (by decide +kernel) rfl) rfl (k_at kcX3_ok 32 rfl) ?_
  refine fb_multi hx hb hts (ao_mv (Vm.Alike.refl _) hBK.2.1) hF hS hown (kept_t 237 (by decide +kernel) rfl) (kept_t 43 (by decide +kernel) rfl) hcO hcI2 (N := 56) (M := 28) (by decide) (by decide) (by decide) (by decide) (by decide) (by decide) (q0 := (50, 6)) rfl ((opS_no hno (show offC 47 6 < 516 by decide +kernel) (Nat.le_refl _)) 573 (by decide) (by decide +kernel)) rfl (fun j hj => congrArg some (show base + offC 51 (64 * 6 + j) = base + 573 + 1 + j by rw [off51 (by omega)]; show base + (574 + j) = _; omega)) (fb_rows (r := 51) (i0 := 64 * 6) (by decide +kernel) (fun k h1 h2 => (opS_no hno (show offC 47 6 < 516 by decide +kernel) (Nat.le_refl _)) k (Nat.le_trans (by decide) h1) h2) (by decide +kernel) (fun j hj => by show Sum.inl (cA 1, gwd ((64 * 6 + j) / 64), Sum.inl fun _ => Int32.ofInt 0) = _; rw [show (64 * 6 + j) / 64 = 6 from by omega, i0]; rfl)) (Nat.le_of_ble_eq_true rfl) (Nat.le_of_ble_eq_true rfl) (k_at kcX3_ok 33 rfl) ?_
  intro H hF hS
  refine fb_put hx hb hts hK hin hF hS (by omega) hown 515 (47, 6) (by decide) rfl (fun k hk h => vc_u (Nat.lt_of_lt_of_le hk (by decide +kernel)) h (by decide +kernel)) (fs := [.int (Int32.ofInt 6), .int (Int32.ofInt 28), .int (Int32.ofInt 56), .int (Int32.ofInt 0), .ref (base + 516), .null, .null, .int (Int32.ofInt 0), .null, .null, .null, .null, .null, .null]) (opS_s _ _ _) rfl inX3 tyX3 tyX3_ok nmX3 5 (by decide) (kept_t 248 (by decide +kernel) rfl) rfl rfl rfl rfl (Nat.le_of_ble_eq_true rfl) (k_at kcX3_ok 34 rfl) ?_
  intro H locs hF hS
  rw [opS_opS] at hF
  replace hF : FB (wC D cA base) vcC base s1 (opS op (47, 6) (some (.inr (3, [.int (Int32.ofInt 6), .int (Int32.ofInt 28), .int (Int32.ofInt 56), .int (Int32.ofInt 0), .ref (base + 516), .ref (base + 573), .null, .int (Int32.ofInt 0), .null, .null, .null, .null, .null, .null])))) 630 H := hF
  refine W.eq (g2 := F0 m 72 ls []) rfl ?_
  refine lv_aload_n hx hb (k_at kcX3_ok 35 rfl) rfl (lv_at hl 0 rfl) ?_
  refine lv_aload_n hx hb (k_at kcX3_ok 36 rfl) rfl (lv_at hl 0 rfl) ?_
  refine fb_get hx hb hts hK hF hown 515 (47, 6) (by decide) rfl (fs := [.int (Int32.ofInt 6), .int (Int32.ofInt 28), .int (Int32.ofInt 56), .int (Int32.ofInt 0), .ref (base + 516), .ref (base + 573), .null, .int (Int32.ofInt 0), .null, .null, .null, .null, .null, .null]) (opS_s _ _ _) rfl inX3 2 (by decide) (kept_t 242 (by decide +kernel) rfl) rfl (k_at kcX3_ok 37 rfl) ?_
  refine fb_newa (kd := 1) hx hb hts hK hF hS (by omega) (by omega) (atype := .int) (ty := .int) rfl (kept_t 43 (by decide +kernel) rfl) hcI (q0 := (52, 6)) rfl ((opS_no hno (show offC 47 6 < 516 by decide +kernel) (Nat.le_refl _)) 630 (by decide) (by decide +kernel)) (a0 := (56, .inl fun k => Int32.ofInt (s1 52 6 k))) rfl (N := 56) (fun cA => z_int (fun _ => i0) cA 56) (by decide) (by decide) (by decide) (Nat.le_of_ble_eq_true rfl) (Nat.le_of_ble_eq_true rfl) (k_at kcX3_ok 38 rfl) (fun _ h => h) ?_
  intro H hF hS
  refine fb_put hx hb hts hK hin hF hS (by omega) hown 515 (47, 6) (by decide) rfl (fun k hk h => vc_u (Nat.lt_of_lt_of_le hk (by decide +kernel)) h (by decide +kernel)) (fs := [.int (Int32.ofInt 6), .int (Int32.ofInt 28), .int (Int32.ofInt 56), .int (Int32.ofInt 0), .ref (base + 516), .ref (base + 573), .null, .int (Int32.ofInt 0), .null, .null, .null, .null, .null, .null]) (opS_s _ _ _) rfl inX3 tyX3 tyX3_ok nmX3 6 (by decide) (kept_t 250 (by decide +kernel) rfl) rfl rfl rfl rfl (Nat.le_of_ble_eq_true rfl) (k_at kcX3_ok 39 rfl) ?_
  intro H locs hF hS
  rw [opS_opS] at hF
  replace hF : FB (wC D cA base) vcC base s1 (opS op (47, 6) (some (.inr (3, [.int (Int32.ofInt 6), .int (Int32.ofInt 28), .int (Int32.ofInt 56), .int (Int32.ofInt 0), .ref (base + 516), .ref (base + 573), .ref (base + 630), .int (Int32.ofInt 0), .null, .null, .null, .null, .null, .null])))) 631 H := hF
  refine W.eq (g2 := F0 m 82 ls []) rfl ?_
  refine lv_aload_n hx hb (k_at kcX3_ok 40 rfl) rfl (lv_at hl 0 rfl) ?_
  refine lv_aload_n hx hb (k_at kcX3_ok 41 rfl) rfl (lv_at hl 0 rfl) ?_
  refine fb_get hx hb hts hK hF hown 515 (47, 6) (by decide) rfl (fs := [.int (Int32.ofInt 6), .int (Int32.ofInt 28), .int (Int32.ofInt 56), .int (Int32.ofInt 0), .ref (base + 516), .ref (base + 573), .ref (base + 630), .int (Int32.ofInt 0), .null, .null, .null, .null, .null, .null]) (opS_s _ _ _) rfl inX3 1 (by decide) (kept_t 240 (by decide +kernel) rfl) rfl (k_at kcX3_ok 42 rfl) ?_
  refine fb_newa (kd := 1) hx hb hts hK hF hS (by omega) (by omega) (atype := .int) (ty := .int) rfl (kept_t 43 (by decide +kernel) rfl) hcI (q0 := (53, 6)) rfl ((opS_no hno (show offC 47 6 < 516 by decide +kernel) (Nat.le_refl _)) 631 (by decide) (by decide +kernel)) (a0 := (28, .inl fun k => Int32.ofInt (s1 53 6 k))) rfl (N := 28) (fun cA => z_int (fun _ => i0) cA 28) (by decide) (by decide) (by decide) (Nat.le_of_ble_eq_true rfl) (Nat.le_of_ble_eq_true rfl) (k_at kcX3_ok 43 rfl) (fun _ h => h) ?_
  intro H hF hS
  refine fb_put hx hb hts hK hin hF hS (by omega) hown 515 (47, 6) (by decide) rfl (fun k hk h => vc_u (Nat.lt_of_lt_of_le hk (by decide +kernel)) h (by decide +kernel)) (fs := [.int (Int32.ofInt 6), .int (Int32.ofInt 28), .int (Int32.ofInt 56), .int (Int32.ofInt 0), .ref (base + 516), .ref (base + 573), .ref (base + 630), .int (Int32.ofInt 0), .null, .null, .null, .null, .null, .null]) (opS_s _ _ _) rfl inX3 tyX3 tyX3_ok nmX3 8 (by decide) (kept_t 253 (by decide +kernel) rfl) rfl rfl rfl rfl (Nat.le_of_ble_eq_true rfl) (k_at kcX3_ok 44 rfl) ?_
  intro H locs hF hS
  rw [opS_opS] at hF
  replace hF : FB (wC D cA base) vcC base s1 (opS op (47, 6) (some (.inr (3, [.int (Int32.ofInt 6), .int (Int32.ofInt 28), .int (Int32.ofInt 56), .int (Int32.ofInt 0), .ref (base + 516), .ref (base + 573), .ref (base + 630), .int (Int32.ofInt 0), .ref (base + 631), .null, .null, .null, .null, .null])))) 632 H := hF
  refine W.eq (g2 := F0 m 92 ls []) rfl ?_
  refine lv_aload_n hx hb (k_at kcX3_ok 45 rfl) rfl (lv_at hl 0 rfl) ?_
  refine lv_aload_n hx hb (k_at kcX3_ok 46 rfl) rfl (lv_at hl 0 rfl) ?_
  refine fb_get hx hb hts hK hF hown 515 (47, 6) (by decide) rfl (fs := [.int (Int32.ofInt 6), .int (Int32.ofInt 28), .int (Int32.ofInt 56), .int (Int32.ofInt 0), .ref (base + 516), .ref (base + 573), .ref (base + 630), .int (Int32.ofInt 0), .ref (base + 631), .null, .null, .null, .null, .null]) (opS_s _ _ _) rfl inX3 1 (by decide) (kept_t 240 (by decide +kernel) rfl) rfl (k_at kcX3_ok 47 rfl) ?_
  refine lv_aload_n hx hb (k_at kcX3_ok 48 rfl) rfl (lv_at hl 0 rfl) ?_
  refine fb_get hx hb hts hK hF hown 515 (47, 6) (by decide) rfl (fs := [.int (Int32.ofInt 6), .int (Int32.ofInt 28), .int (Int32.ofInt 56), .int (Int32.ofInt 0), .ref (base + 516), .ref (base + 573), .ref (base + 630), .int (Int32.ofInt 0), .ref (base + 631), .null, .null, .null, .null, .null]) (opS_s _ _ _) rfl inX3 1 (by decide) (kept_t 240 (by decide +kernel) rfl) rfl (k_at kcX3_ok 49 rfl) ?_
  refine fb_multi hx hb hts (ao_mv (Vm.Alike.refl _) hBK.2.1) hF hS hown (kept_t 237 (by decide +kernel) rfl) (kept_t 43 (by decide +kernel) rfl) hcO hcI2 (N := 28) (M := 28) (by decide) (by decide) (by decide) (by decide) (by decide) (by decide) (q0 := (54, 6)) rfl ((opS_no hno (show offC 47 6 < 516 by decide +kernel) (Nat.le_refl _)) 632 (by decide) (by decide +kernel)) rfl (fun j hj => congrArg some (show base + offC 55 (64 * 6 + j) = base + 632 + 1 + j by rw [off55 (by omega)]; show base + (633 + j) = _; omega)) (fb_rows (r := 55) (i0 := 64 * 6) (by decide +kernel) (fun k h1 h2 => (opS_no hno (show offC 47 6 < 516 by decide +kernel) (Nat.le_refl _)) k (Nat.le_trans (by decide) h1) h2) (by decide +kernel) (fun j hj => by show Sum.inl (cA 1, gwd ((64 * 6 + j) / 64), Sum.inl fun _ => Int32.ofInt 0) = _; rw [show (64 * 6 + j) / 64 = 6 from by omega, i0]; rfl)) (Nat.le_of_ble_eq_true rfl) (Nat.le_of_ble_eq_true rfl) (k_at kcX3_ok 50 rfl) ?_
  intro H hF hS
  refine fb_put hx hb hts hK hin hF hS (by omega) hown 515 (47, 6) (by decide) rfl (fun k hk h => vc_u (Nat.lt_of_lt_of_le hk (by decide +kernel)) h (by decide +kernel)) (fs := [.int (Int32.ofInt 6), .int (Int32.ofInt 28), .int (Int32.ofInt 56), .int (Int32.ofInt 0), .ref (base + 516), .ref (base + 573), .ref (base + 630), .int (Int32.ofInt 0), .ref (base + 631), .null, .null, .null, .null, .null]) (opS_s _ _ _) rfl inX3 tyX3 tyX3_ok nmX3 9 (by decide) (kept_t 254 (by decide +kernel) rfl) rfl rfl rfl rfl (Nat.le_of_ble_eq_true rfl) (k_at kcX3_ok 51 rfl) ?_
  intro H locs hF hS
  rw [opS_opS] at hF
  replace hF : FB (wC D cA base) vcC base s1 (opS op (47, 6) (some (.inr (3, [.int (Int32.ofInt 6), .int (Int32.ofInt 28), .int (Int32.ofInt 56), .int (Int32.ofInt 0), .ref (base + 516), .ref (base + 573), .ref (base + 630), .int (Int32.ofInt 0), .ref (base + 631), .ref (base + 632), .null, .null, .null, .null])))) 661 H := hF
  refine W.eq (g2 := F0 m 108 ls []) rfl ?_
  refine lv_aload_n hx hb (k_at kcX3_ok 52 rfl) rfl (lv_at hl 0 rfl) ?_
  refine lv_aload_n hx hb (k_at kcX3_ok 53 rfl) rfl (lv_at hl 0 rfl) ?_
  refine fb_get hx hb hts hK hF hown 515 (47, 6) (by decide) rfl (fs := [.int (Int32.ofInt 6), .int (Int32.ofInt 28), .int (Int32.ofInt 56), .int (Int32.ofInt 0), .ref (base + 516), .ref (base + 573), .ref (base + 630), .int (Int32.ofInt 0), .ref (base + 631), .ref (base + 632), .null, .null, .null, .null]) (opS_s _ _ _) rfl inX3 1 (by decide) (kept_t 240 (by decide +kernel) rfl) rfl (k_at kcX3_ok 54 rfl) ?_
  refine lv_aload_n hx hb (k_at kcX3_ok 55 rfl) rfl (lv_at hl 0 rfl) ?_
  refine fb_get hx hb hts hK hF hown 515 (47, 6) (by decide) rfl (fs := [.int (Int32.ofInt 6), .int (Int32.ofInt 28), .int (Int32.ofInt 56), .int (Int32.ofInt 0), .ref (base + 516), .ref (base + 573), .ref (base + 630), .int (Int32.ofInt 0), .ref (base + 631), .ref (base + 632), .null, .null, .null, .null]) (opS_s _ _ _) rfl inX3 1 (by decide) (kept_t 240 (by decide +kernel) rfl) rfl (k_at kcX3_ok 56 rfl) ?_
  refine fb_multi hx hb hts (ao_mv (Vm.Alike.refl _) hBK.2.1) hF hS hown (kept_t 237 (by decide +kernel) rfl) (kept_t 43 (by decide +kernel) rfl) hcO hcI2 (N := 28) (M := 28) (by decide) (by decide) (by decide) (by decide) (by decide) (by decide) (q0 := (56, 6)) rfl ((opS_no hno (show offC 47 6 < 516 by decide +kernel) (Nat.le_refl _)) 661 (by decide) (by decide +kernel)) rfl (fun j hj => congrArg some (show base + offC 57 (64 * 6 + j) = base + 661 + 1 + j by rw [off57 (by omega)]; show base + (662 + j) = _; omega)) (fb_rows (r := 57) (i0 := 64 * 6) (by decide +kernel) (fun k h1 h2 => (opS_no hno (show offC 47 6 < 516 by decide +kernel) (Nat.le_refl _)) k (Nat.le_trans (by decide) h1) h2) (by decide +kernel) (fun j hj => by show Sum.inl (cA 1, gwd ((64 * 6 + j) / 64), Sum.inl fun _ => Int32.ofInt 0) = _; rw [show (64 * 6 + j) / 64 = 6 from by omega, i0]; rfl)) (Nat.le_of_ble_eq_true rfl) (Nat.le_of_ble_eq_true rfl) (k_at kcX3_ok 57 rfl) ?_
  intro H hF hS
  refine fb_put hx hb hts hK hin hF hS (by omega) hown 515 (47, 6) (by decide) rfl (fun k hk h => vc_u (Nat.lt_of_lt_of_le hk (by decide +kernel)) h (by decide +kernel)) (fs := [.int (Int32.ofInt 6), .int (Int32.ofInt 28), .int (Int32.ofInt 56), .int (Int32.ofInt 0), .ref (base + 516), .ref (base + 573), .ref (base + 630), .int (Int32.ofInt 0), .ref (base + 631), .ref (base + 632), .null, .null, .null, .null]) (opS_s _ _ _) rfl inX3 tyX3 tyX3_ok nmX3 10 (by decide) (kept_t 255 (by decide +kernel) rfl) rfl rfl rfl rfl (Nat.le_of_ble_eq_true rfl) (k_at kcX3_ok 58 rfl) ?_
  intro H locs hF hS
  rw [opS_opS] at hF
  replace hF : FB (wC D cA base) vcC base s1 (opS op (47, 6) (some (.inr (3, [.int (Int32.ofInt 6), .int (Int32.ofInt 28), .int (Int32.ofInt 56), .int (Int32.ofInt 0), .ref (base + 516), .ref (base + 573), .ref (base + 630), .int (Int32.ofInt 0), .ref (base + 631), .ref (base + 632), .ref (base + 661), .null, .null, .null])))) 690 H := hF
  refine W.eq (g2 := F0 m 124 ls []) rfl ?_
  refine lv_aload_n hx hb (k_at kcX3_ok 59 rfl) rfl (lv_at hl 0 rfl) ?_
  refine lv_aload_n hx hb (k_at kcX3_ok 60 rfl) rfl (lv_at hl 0 rfl) ?_
  refine fb_get hx hb hts hK hF hown 515 (47, 6) (by decide) rfl (fs := [.int (Int32.ofInt 6), .int (Int32.ofInt 28), .int (Int32.ofInt 56), .int (Int32.ofInt 0), .ref (base + 516), .ref (base + 573), .ref (base + 630), .int (Int32.ofInt 0), .ref (base + 631), .ref (base + 632), .ref (base + 661), .null, .null, .null]) (opS_s _ _ _) rfl inX3 1 (by decide) (kept_t 240 (by decide +kernel) rfl) rfl (k_at kcX3_ok 61 rfl) ?_
  refine fb_newa (kd := 1) hx hb hts hK hF hS (by omega) (by omega) (atype := .int) (ty := .int) rfl (kept_t 43 (by decide +kernel) rfl) hcI (q0 := (58, 6)) rfl ((opS_no hno (show offC 47 6 < 516 by decide +kernel) (Nat.le_refl _)) 690 (by decide) (by decide +kernel)) (a0 := (28, .inl fun k => Int32.ofInt (s1 58 6 k))) rfl (N := 28) (fun cA => z_int (fun _ => i0) cA 28) (by decide) (by decide) (by decide) (Nat.le_of_ble_eq_true rfl) (Nat.le_of_ble_eq_true rfl) (k_at kcX3_ok 62 rfl) (fun _ h => h) ?_
  intro H hF hS
  refine fb_put hx hb hts hK hin hF hS (by omega) hown 515 (47, 6) (by decide) rfl (fun k hk h => vc_u (Nat.lt_of_lt_of_le hk (by decide +kernel)) h (by decide +kernel)) (fs := [.int (Int32.ofInt 6), .int (Int32.ofInt 28), .int (Int32.ofInt 56), .int (Int32.ofInt 0), .ref (base + 516), .ref (base + 573), .ref (base + 630), .int (Int32.ofInt 0), .ref (base + 631), .ref (base + 632), .ref (base + 661), .null, .null, .null]) (opS_s _ _ _) rfl inX3 tyX3 tyX3_ok nmX3 11 (by decide) (kept_t 256 (by decide +kernel) rfl) rfl rfl rfl rfl (Nat.le_of_ble_eq_true rfl) (k_at kcX3_ok 63 rfl) ?_
  intro H locs hF hS
  rw [opS_opS] at hF
  replace hF : FB (wC D cA base) vcC base s1 (opS op (47, 6) (some (.inr (3, [.int (Int32.ofInt 6), .int (Int32.ofInt 28), .int (Int32.ofInt 56), .int (Int32.ofInt 0), .ref (base + 516), .ref (base + 573), .ref (base + 630), .int (Int32.ofInt 0), .ref (base + 631), .ref (base + 632), .ref (base + 661), .ref (base + 690), .null, .null])))) 691 H := hF
  refine W.eq (g2 := F0 m 134 ls []) rfl ?_
  refine lv_aload_n hx hb (k_at kcX3_ok 64 rfl) rfl (lv_at hl 0 rfl) ?_
  refine lv_aload_n hx hb (k_at kcX3_ok 65 rfl) rfl (lv_at hl 0 rfl) ?_
  refine fb_get hx hb hts hK hF hown 515 (47, 6) (by decide) rfl (fs := [.int (Int32.ofInt 6), .int (Int32.ofInt 28), .int (Int32.ofInt 56), .int (Int32.ofInt 0), .ref (base + 516), .ref (base + 573), .ref (base + 630), .int (Int32.ofInt 0), .ref (base + 631), .ref (base + 632), .ref (base + 661), .ref (base + 690), .null, .null]) (opS_s _ _ _) rfl inX3 1 (by decide) (kept_t 240 (by decide +kernel) rfl) rfl (k_at kcX3_ok 66 rfl) ?_
  refine fb_newa (kd := 1) hx hb hts hK hF hS (by omega) (by omega) (atype := .int) (ty := .int) rfl (kept_t 43 (by decide +kernel) rfl) hcI (q0 := (59, 6)) rfl ((opS_no hno (show offC 47 6 < 516 by decide +kernel) (Nat.le_refl _)) 691 (by decide) (by decide +kernel)) (a0 := (28, .inl fun k => Int32.ofInt (s1 59 6 k))) rfl (N := 28) (fun cA => z_int (fun _ => i0) cA 28) (by decide) (by decide) (by decide) (Nat.le_of_ble_eq_true rfl) (Nat.le_of_ble_eq_true rfl) (k_at kcX3_ok 67 rfl) (fun _ h => h) ?_
  intro H hF hS
  refine fb_put hx hb hts hK hin hF hS (by omega) hown 515 (47, 6) (by decide) rfl (fun k hk h => vc_u (Nat.lt_of_lt_of_le hk (by decide +kernel)) h (by decide +kernel)) (fs := [.int (Int32.ofInt 6), .int (Int32.ofInt 28), .int (Int32.ofInt 56), .int (Int32.ofInt 0), .ref (base + 516), .ref (base + 573), .ref (base + 630), .int (Int32.ofInt 0), .ref (base + 631), .ref (base + 632), .ref (base + 661), .ref (base + 690), .null, .null]) (opS_s _ _ _) rfl inX3 tyX3 tyX3_ok nmX3 12 (by decide) (kept_t 257 (by decide +kernel) rfl) rfl rfl rfl rfl (Nat.le_of_ble_eq_true rfl) (k_at kcX3_ok 68 rfl) ?_
  intro H locs hF hS
  rw [opS_opS] at hF
  replace hF : FB (wC D cA base) vcC base s1 (opS op (47, 6) (some (.inr (3, [.int (Int32.ofInt 6), .int (Int32.ofInt 28), .int (Int32.ofInt 56), .int (Int32.ofInt 0), .ref (base + 516), .ref (base + 573), .ref (base + 630), .int (Int32.ofInt 0), .ref (base + 631), .ref (base + 632), .ref (base + 661), .ref (base + 690), .ref (base + 691), .null])))) 692 H := hF
  refine W.eq (g2 := F0 m 144 ls []) rfl ?_
  refine lv_aload_n hx hb (k_at kcX3_ok 69 rfl) rfl (lv_at hl 0 rfl) ?_
  refine lv_aload_n hx hb (k_at kcX3_ok 70 rfl) rfl (lv_at hl 0 rfl) ?_
  refine fb_get hx hb hts hK hF hown 515 (47, 6) (by decide) rfl (fs := [.int (Int32.ofInt 6), .int (Int32.ofInt 28), .int (Int32.ofInt 56), .int (Int32.ofInt 0), .ref (base + 516), .ref (base + 573), .ref (base + 630), .int (Int32.ofInt 0), .ref (base + 631), .ref (base + 632), .ref (base + 661), .ref (base + 690), .ref (base + 691), .null]) (opS_s _ _ _) rfl inX3 1 (by decide) (kept_t 240 (by decide +kernel) rfl) rfl (k_at kcX3_ok 71 rfl) ?_
  refine fb_newa (kd := 1) hx hb hts hK hF hS (by omega) (by omega) (atype := .int) (ty := .int) rfl (kept_t 43 (by decide +kernel) rfl) hcI (q0 := (60, 6)) rfl ((opS_no hno (show offC 47 6 < 516 by decide +kernel) (Nat.le_refl _)) 692 (by decide) (by decide +kernel)) (a0 := (28, .inl fun k => Int32.ofInt (s1 60 6 k))) rfl (N := 28) (fun cA => z_int (fun _ => i0) cA 28) (by decide) (by decide) (by decide) (Nat.le_of_ble_eq_true rfl) (Nat.le_of_ble_eq_true rfl) (k_at kcX3_ok 72 rfl) (fun _ h => h) ?_
  intro H hF hS
  refine fb_put hx hb hts hK hin hF hS (by omega) hown 515 (47, 6) (by decide) rfl (fun k hk h => vc_u (Nat.lt_of_lt_of_le hk (by decide +kernel)) h (by decide +kernel)) (fs := [.int (Int32.ofInt 6), .int (Int32.ofInt 28), .int (Int32.ofInt 56), .int (Int32.ofInt 0), .ref (base + 516), .ref (base + 573), .ref (base + 630), .int (Int32.ofInt 0), .ref (base + 631), .ref (base + 632), .ref (base + 661), .ref (base + 690), .ref (base + 691), .null]) (opS_s _ _ _) rfl inX3 tyX3 tyX3_ok nmX3 13 (by decide) (kept_t 258 (by decide +kernel) rfl) rfl rfl rfl rfl (Nat.le_of_ble_eq_true rfl) (k_at kcX3_ok 73 rfl) ?_
  intro H locs hF hS
  rw [opS_opS] at hF
  replace hF : FB (wC D cA base) vcC base s1 (opS op (47, 6) (some (.inr (3, [.int (Int32.ofInt 6), .int (Int32.ofInt 28), .int (Int32.ofInt 56), .int (Int32.ofInt 0), .ref (base + 516), .ref (base + 573), .ref (base + 630), .int (Int32.ofInt 0), .ref (base + 631), .ref (base + 632), .ref (base + 661), .ref (base + 690), .ref (base + 691), .ref (base + 692)])))) 693 H := hF
  refine W.eq (g2 := F0 m 154 ls []) rfl ?_
  exact fb_ret hx hb hr hlocks hF hS (fun k _ => fb_close rfl _) (k_at kcX3_ok 74 rfl) rfl rfl
