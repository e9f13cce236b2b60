/-! constructors that make rows alone -/
def kcX10 : List mI := [(0, .aload_n 0, 1), (1, .invokespecial 3, 3), (4, .aload_n 0, 1), (5, .iconst 4, 1), (6, .iconst 3, 1), (7, .multianewarray 9 2, 4), (11, .putfield 11, 3), (14, .aload_n 0, 1), (15, .iconst 4, 1), (16, .newarray .boolean, 2), (18, .putfield 16, 3), (21, .return_, 1)]
set_option maxRecDepth 20000 in
theorem kcX10_ok : ∀ e ∈ kcX10, decode cX10_init e.1 = .ok (e.2.1, e.2.2) := fun e he => of_decide_eq_true (List.all_eq_true.mp (show kcX10.all (fun e => decide (decode cX10_init e.1 = .ok (e.2.1, e.2.2))) = true by decide +kernel) e he)
def kcX8 : List mI := [(0, .aload_n 0, 1), (1, .invokespecial 3, 3), (4, .aload_n 0, 1), (5, .iconst 3, 1), (6, .newarray .int, 2), (8, .putfield 9, 3), (11, .aload_n 0, 1), (12, .iconst 3, 1), (13, .newarray .int, 2), (15, .putfield 15, 3), (18, .return_, 1)]
set_option maxRecDepth 20000 in
theorem kcX8_ok : ∀ e ∈ kcX8, decode cX8_init e.1 = .ok (e.2.1, e.2.2) := fun e he => of_decide_eq_true (List.all_eq_true.mp (show kcX8.all (fun e => decide (decode cX8_init e.1 = .ok (e.2.1, e.2.2))) = true by decide +kernel) e he)
def kcX1 : List mI := [(0, .aload_n 0, 1), (1, .invokespecial 3, 3), (4, .aload_n 0, 1), (5, .bipush 48, 2), (7, .iconst 3, 1), (8, .multianewarray 9 2, 4), (12, .putfield 11, 3), (15, .aload_n 0, 1), (16, .sipush 343, 3), (19, .newarray .int, 2), (21, .putfield 16, 3), (24, .aload_n 0, 1), (25, .iconst 4, 1), (26, .iconst 3, 1), (27, .multianewarray 9 2, 4), (31, .putfield 20, 3), (34, .aload_n 0, 1), (35, .bipush 48, 2), (37, .iconst 4, 1), (38, .multianewarray 9 2, 4), (42, .putfield 23, 3), (45, .aload_n 0, 1), (46, .bipush 48, 2), (48, .newarray .int, 2), (50, .putfield 26, 3), (53, .aload_n 0, 1), (54, .bipush 48, 2), (56, .newarray .int, 2), (58, .putfield 29, 3), (61, .aload_n 0, 1), (62, .bipush 48, 2), (64, .bipush 48, 2), (66, .multianewarray 9 2, 4), (70, .putfield 32, 3), (73, .aload_n 0, 1), (74, .bipush 48, 2), (76, .newarray .int, 2), (78, .putfield 35, 3), (81, .aload_n 0, 1), (82, .bipush 48, 2), (84, .newarray .int, 2), (86, .putfield 38, 3), (89, .aload_n 0, 1), (90, .bipush 48, 2), (92, .newarray .int, 2), (94, .putfield 41, 3), (97, .aload_n 0, 1), (98, .bipush 48, 2), (100, .newarray .int, 2), (102, .putfield 44, 3), (105, .aload_n 0, 1), (106, .bipush 48, 2), (108, .newarray .int, 2), (110, .putfield 47, 3), (113, .aload_n 0, 1), (114, .bipush 48, 2), (116, .newarray .boolean, 2), (118, .putfield 50, 3), (121, .aload_n 0, 1), (122, .new 54, 3), (125, .dup, 1), (126, .invokespecial 56, 3), (129, .putfield 57, 3), (132, .return_, 1)]
set_option maxRecDepth 20000 in
theorem kcX1_ok : ∀ e ∈ kcX1, decode cX1_init e.1 = .ok (e.2.1, e.2.2) := fun e he => of_decide_eq_true (List.all_eq_true.mp (show kcX1.all (fun e => decide (decode cX1_init e.1 = .ok (e.2.1, e.2.2))) = true by decide +kernel) e he)
def kcX9 : List mI := [(0, .aload_n 0, 1), (1, .invokespecial 3, 3), (4, .aload_n 0, 1), (5, .bipush 16, 2), (7, .bipush 48, 2), (9, .multianewarray 9 2, 4), (13, .putfield 11, 3), (16, .return_, 1)]
set_option maxRecDepth 20000 in
theorem kcX9_ok : ∀ e ∈ kcX9, decode cX9_init e.1 = .ok (e.2.1, e.2.2) := fun e he => of_decide_eq_true (List.all_eq_true.mp (show kcX9.all (fun e => decide (decode cX9_init e.1 = .ok (e.2.1, e.2.2))) = true by decide +kernel) e he)
def kcX4 : List mI := [(0, .aload_n 0, 1), (1, .invokespecial 3, 3), (4, .aload_n 0, 1), (5, .sipush 201, 3), (8, .newarray .int, 2), (10, .putfield 9, 3), (13, .return_, 1)]
set_option maxRecDepth 20000 in
theorem kcX4_ok : ∀ e ∈ kcX4, decode cX4_init e.1 = .ok (e.2.1, e.2.2) := fun e he => of_decide_eq_true (List.all_eq_true.mp (show kcX4.all (fun e => decide (decode cX4_init e.1 = .ok (e.2.1, e.2.2))) = true by decide +kernel) e he)
def kcX5 : List mI := [(0, .aload_n 0, 1), (1, .invokespecial 3, 3), (4, .aload_n 0, 1), (5, .bipush 84, 2), (7, .newarray .int, 2), (9, .putfield 9, 3), (12, .aload_n 0, 1), (13, .bipush 84, 2), (15, .newarray .int, 2), (17, .putfield 15, 3), (20, .aload_n 0, 1), (21, .bipush 84, 2), (23, .bipush 6, 2), (25, .multianewarray 18 2, 4), (29, .putfield 20, 3), (32, .return_, 1)]
set_option maxRecDepth 20000 in
theorem kcX5_ok : ∀ e ∈ kcX5, decode cX5_init e.1 = .ok (e.2.1, e.2.2) := fun e he => of_decide_eq_true (List.all_eq_true.mp (show kcX5.all (fun e => decide (decode cX5_init e.1 = .ok (e.2.1, e.2.2))) = true by decide +kernel) e he)
def kcX2 : List mI := [(0, .aload_n 0, 1), (1, .invokespecial 3, 3), (4, .aload_n 0, 1), (5, .iconst 3, 1), (6, .newarray .int, 2), (8, .putfield 9, 3), (11, .aload_n 0, 1), (12, .bipush 48, 2), (14, .iconst 3, 1), (15, .multianewarray 15 2, 4), (19, .putfield 17, 3), (22, .aload_n 0, 1), (23, .iconst 3, 1), (24, .newarray .int, 2), (26, .putfield 20, 3), (29, .return_, 1)]
set_option maxRecDepth 20000 in
theorem kcX2_ok : ∀ e ∈ kcX2, decode cX2_init e.1 = .ok (e.2.1, e.2.2) := fun e he => of_decide_eq_true (List.all_eq_true.mp (show kcX2.all (fun e => decide (decode cX2_init e.1 = .ok (e.2.1, e.2.2))) = true by decide +kernel) e he)
set_option maxRecDepth 20000 in
theorem i_X10 (l : Launch) {D : va_G} {cA : Nat → ClassId} {base zq : Nat} {op : Nat × Nat → Option va_E} (hop : op (1, 0) = some (.inr (10, [.null, .null]))) (hno : ∀ k, 2 ≤ k → k < nC → op (vcC k) = none) : iMet l (wC D cA base) vcC base zq yX10_init cX10_init 1 2 6 20 s0 op 2 1 [] s0 (opS op (1, 0) none) 8 := by
  refine i_intro (by decide) rfl (Nat.le_of_ble_eq_true rfl) (fun p e s m args below meth c ls hx hb hml hown hts hin hr hlocks hBK hsz hF hS hl => ?_)
  have hK := hBK.1
  have SC : CallFix p m c cX10_init 1 s args lw_kept RX10 := ⟨hx, hb, hml, hown, hts⟩
  have hown : s.vm.findClass RX10 = some m.cls := hown
  have hcI : s.vm.findClass ("[" ++ FieldType.int.toString) = some (cA 1) := (hK.1.2 0 _ rfl).2
  have hcI2 : s.vm.findClass (FieldType.array .int).toString = some (cA 1) := hcI
  have hcZ : s.vm.findClass ("[" ++ FieldType.boolean.toString) = some (cA 3) := (hK.1.2 2 _ rfl).2
  have hcO : s.vm.findClass ("[" ++ (FieldType.array .int).toString) = some (cA 5) := (hK.1.2 3 _ rfl).2
  refine lv_aload_n hx hb (k_at kcX10_ok 0 rfl) rfl (lv_at hl 0 rfl) ?_
  refine fb_obj SC (kept_t 31 (by decide +kernel) rfl) (kept_t 24 (by decide +kernel) rfl) (kept_t 25 (by decide +kernel) rfl) hl.1 ⟨(Nat.le_of_ble_eq_true rfl), (Nat.le_of_ble_eq_true rfl)⟩ (k_at kcX10_ok 1 rfl) ?_
  refine W.eq (g2 := F0 m 4 ls []) rfl ?_
  refine lv_aload_n hx hb (k_at kcX10_ok 2 rfl) rfl (lv_at hl 0 rfl) ?_
  refine lv_iconst hx hb (k_at kcX10_ok 3 rfl) rfl ?_
  refine lv_iconst hx hb (k_at kcX10_ok 4 rfl) rfl ?_
  refine fb_multi hx hb hts (ao_mv (Vm.Alike.refl _) hBK.2.1) hF hS hown (kept_t 32 (by decide +kernel) rfl) (kept_t 43 (by decide +kernel) rfl) hcO hcI2 (N := 4) (M := 3) (by decide) (by decide) (by decide) (by decide) (by decide) (by decide) (q0 := (2, 0)) rfl (hno 2 (by decide) (by decide +kernel)) rfl (fun j hj => congrArg some (show base + (3 + j) = base + 2 + 1 + j by omega)) (fb_rows (r := 3) (i0 := 0) (by decide +kernel) (fun k h1 h2 => hno k (Nat.le_trans (by decide) h1) h2) (by decide +kernel) (fun j hj => by show Sum.inl (cA 1, 3, Sum.inl fun _ => Int32.ofInt 0) = _; rw [i0]; rfl)) (Nat.le_of_ble_eq_true rfl) (Nat.le_of_ble_eq_true rfl) (k_at kcX10_ok 5 rfl) ?_
  intro H hF hS
  refine fb_put hx hb hts hK hin hF hS (by omega) hown 1 (1, 0) (by decide) rfl (fun k hk h => vc_u (Nat.lt_of_lt_of_le hk (by decide +kernel)) h (by decide +kernel)) (fs := [.null, .null]) hop rfl inX10 tyX10 tyX10_ok nmX10 0 (by decide) (kept_t 34 (by decide +kernel) rfl) rfl rfl rfl rfl (Nat.le_of_ble_eq_true rfl) (k_at kcX10_ok 6 rfl) ?_
  intro H locs hF hS
  replace hF : FB (wC D cA base) vcC base s0 (opS op (1, 0) (some (.inr (10, [.ref (base + 2), .null])))) 7 H := hF
  refine W.eq (g2 := F0 m 14 ls []) rfl ?_
  refine lv_aload_n hx hb (k_at kcX10_ok 7 rfl) rfl (lv_at hl 0 rfl) ?_
  refine lv_iconst hx hb (k_at kcX10_ok 8 rfl) rfl ?_
  refine fb_newa (kd := 3) hx hb hts hK hF hS (by omega) (by omega) (atype := .boolean) (ty := .boolean) rfl (kept_t 44 (by decide +kernel) rfl) hcZ (q0 := (4, 0)) rfl ((opS_no hno (show offC 1 0 < 2 by decide +kernel) (Nat.le_refl _)) 7 (by decide) (by decide +kernel)) (a0 := (4, .inl fun k => Int32.ofInt (s0 4 0 k))) rfl (N := 4) (fun cA => z_bool (fun _ => i0) cA 4) (by decide) (by decide) (by decide) (Nat.le_of_ble_eq_true rfl) (Nat.le_of_ble_eq_true rfl) (k_at kcX10_ok 9 rfl) (fun _ h => h) ?_
  intro H hF hS
  refine fb_put hx hb hts hK hin hF hS (by omega) hown 1 (1, 0) (by decide) rfl (fun k hk h => vc_u (Nat.lt_of_lt_of_le hk (by decide +kernel)) h (by decide +kernel)) (fs := [.ref (base + 2), .null]) (opS_s _ _ _) rfl inX10 tyX10 tyX10_ok nmX10 1 (by decide) (kept_t 36 (by decide +kernel) rfl) rfl rfl rfl rfl (Nat.le_of_ble_eq_true rfl) (k_at kcX10_ok 10 rfl) ?_
  intro H locs hF hS
  rw [opS_opS] at hF
  replace hF : FB (wC D cA base) vcC base s0 (opS op (1, 0) (some (.inr (10, [.ref (base + 2), .ref (base + 7)])))) 8 H := hF
  refine W.eq (g2 := F0 m 21 ls []) rfl ?_
  exact fb_ret hx hb hr hlocks hF hS (fun k _ => fb_close rfl _) (k_at kcX10_ok 11 rfl) rfl rfl
set_option maxRecDepth 20000 in
theorem i_X8 (l : Launch) {D : va_G} {cA : Nat → ClassId} {base zq : Nat} {op : Nat × Nat → Option va_E} (hop : op (23, 0) = some (.inr (8, [.null, .null, .int (Int32.ofInt 0)]))) (hno : ∀ k, 171 ≤ k → k < nC → op (vcC k) = none) : iMet l (wC D cA base) vcC base zq yX8_init cX8_init 1 2 2 6 s0 op 171 170 [] s0 (opS op (23, 0) none) 173 := by
  refine i_intro (by decide) rfl (Nat.le_of_ble_eq_true rfl) (fun p e s m args below meth c ls hx hb hml hown hts hin hr hlocks hBK hsz hF hS hl => ?_)
  have hK := hBK.1
  have SC : CallFix p m c cX8_init 1 s args lw_kept RX8 := ⟨hx, hb, hml, hown, hts⟩
  have hown : s.vm.findClass RX8 = some m.cls := hown
  have hcI : s.vm.findClass ("[" ++ FieldType.int.toString) = some (cA 1) := (hK.1.2 0 _ rfl).2
  have hcI2 : s.vm.findClass (FieldType.array .int).toString = some (cA 1) := hcI
  have hcZ : s.vm.findClass ("[" ++ FieldType.boolean.toString) = some (cA 3) := (hK.1.2 2 _ rfl).2
  have hcO : s.vm.findClass ("[" ++ (FieldType.array .int).toString) = some (cA 5) := (hK.1.2 3 _ rfl).2
  refine lv_aload_n hx hb (k_at kcX8_ok 0 rfl) rfl (lv_at hl 0 rfl) ?_
  refine fb_obj SC (kept_t 57 (by decide +kernel) rfl) (kept_t 24 (by decide +kernel) rfl) (kept_t 25 (by decide +kernel) rfl) hl.1 ⟨(Nat.le_of_ble_eq_true rfl), (Nat.le_of_ble_eq_true rfl)⟩ (k_at kcX8_ok 1 rfl) ?_
  refine W.eq (g2 := F0 m 4 ls []) rfl ?_
  refine lv_aload_n hx hb (k_at kcX8_ok 2 rfl) rfl (lv_at hl 0 rfl) ?_
  refine lv_iconst hx hb (k_at kcX8_ok 3 rfl) rfl ?_
  refine fb_newa (kd := 1) hx hb hts hK hF hS (by omega) (by omega) (atype := .int) (ty := .int) rfl (kept_t 43 (by decide +kernel) rfl) hcI (q0 := (24, 0)) rfl (hno 171 (by decide) (by decide +kernel)) (a0 := (3, .inl fun k => Int32.ofInt (s0 24 0 k))) rfl (N := 3) (fun cA => z_int (fun _ => i0) cA 3) (by decide) (by decide) (by decide) (Nat.le_of_ble_eq_true rfl) (Nat.le_of_ble_eq_true rfl) (k_at kcX8_ok 4 rfl) (fun _ h => h) ?_
  intro H hF hS
  refine fb_put hx hb hts hK hin hF hS (by omega) hown 170 (23, 0) (by decide) rfl (fun k hk h => vc_u (Nat.lt_of_lt_of_le hk (by decide +kernel)) h (by decide +kernel)) (fs := [.null, .null, .int (Int32.ofInt 0)]) hop rfl inX8 tyX8 tyX8_ok nmX8 0 (by decide) (kept_t 58 (by decide +kernel) rfl) rfl rfl rfl rfl (Nat.le_of_ble_eq_true rfl) (k_at kcX8_ok 5 rfl) ?_
  intro H locs hF hS
  replace hF : FB (wC D cA base) vcC base s0 (opS op (23, 0) (some (.inr (8, [.ref (base + 171), .null, .int (Int32.ofInt 0)])))) 172 H := hF
  refine W.eq (g2 := F0 m 11 ls []) rfl ?_
  refine lv_aload_n hx hb (k_at kcX8_ok 6 rfl) rfl (lv_at hl 0 rfl) ?_
  refine lv_iconst hx hb (k_at kcX8_ok 7 rfl) rfl ?_
  refine fb_newa (kd := 1) hx hb hts hK hF hS (by omega) (by omega) (atype := .int) (ty := .int) rfl (kept_t 43 (by decide +kernel) rfl) hcI (q0 := (25, 0)) rfl ((opS_no hno (show offC 23 0 < 171 by decide +kernel) (Nat.le_refl _)) 172 (by decide) (by decide +kernel)) (a0 := (3, .inl fun k => Int32.ofInt (s0 25 0 k))) rfl (N := 3) (fun cA => z_int (fun _ => i0) cA 3) (by decide) (by decide) (by decide) (Nat.le_of_ble_eq_true rfl) (Nat.le_of_ble_eq_true rfl) (k_at kcX8_ok 8 rfl) (fun _ h => h) ?_
  intro H hF hS
  refine fb_put hx hb hts hK hin hF hS (by omega) hown 170 (23, 0) (by decide) rfl (fun k hk h => vc_u (Nat.lt_of_lt_of_le hk (by decide +kernel)) h (by decide +kernel)) (fs := [.ref (base + 171), .null, .int (Int32.ofInt 0)]) (opS_s _ _ _) rfl inX8 tyX8 tyX8_ok nmX8 1 (by decide) (kept_t 60 (by decide +kernel) rfl) rfl rfl rfl rfl (Nat.le_of_ble_eq_true rfl) (k_at kcX8_ok 9 rfl) ?_
  intro H locs hF hS
  rw [opS_opS] at hF
  replace hF : FB (wC D cA base) vcC base s0 (opS op (23, 0) (some (.inr (8, [.ref (base + 171), .ref (base + 172), .int (Int32.ofInt 0)])))) 173 H := hF
  refine W.eq (g2 := F0 m 18 ls []) rfl ?_
  exact fb_ret hx hb hr hlocks hF hS (fun k _ => fb_close rfl _) (k_at kcX8_ok 10 rfl) rfl rfl
set_option maxRecDepth 20000 in
theorem i_X1 (l : Launch) {D : va_G} {cA : Nat → ClassId} {base zq : Nat} {op : Nat × Nat → Option va_E} (hop : op (5, 0) = some (.inr (1, [.int (Int32.ofInt 0), .int (Int32.ofInt 0), .int (Int32.ofInt 0), .int (Int32.ofInt 0), .null, .null, .null, .null, .null, .null, .null, .null, .null, .null, .null, .null, .null, .null]))) (hno : ∀ k, 9 ≤ k → k < nC → op (vcC k) = none) : iMet l (wC D cA base) vcC base zq yX1_init cX1_init 1 4 164 3536 s0 op 9 8 [] s0 (opS op (5, 0) none) 173 := by
  refine i_intro (by decide) rfl (Nat.le_of_ble_eq_true rfl) (fun p e s m args below meth c ls hx hb hml hown hts hin hr hlocks hBK hsz hF hS hl => ?_)
  have hK := hBK.1
  have SC : CallFix p m c cX1_init 1 s args lw_kept RX1 := ⟨hx, hb, hml, hown, hts⟩
  have hown : s.vm.findClass RX1 = some m.cls := hown
  have hcI : s.vm.findClass ("[" ++ FieldType.int.toString) = some (cA 1) := (hK.1.2 0 _ rfl).2
  have hcI2 : s.vm.findClass (FieldType.array .int).toString = some (cA 1) := hcI
  have hcZ : s.vm.findClass ("[" ++ FieldType.boolean.toString) = some (cA 3) := (hK.1.2 2 _ rfl).2
  have hcO : s.vm.findClass ("[" ++ (FieldType.array .int).toString) = some (cA 5) := (hK.1.2 3 _ rfl).2
  refine lv_aload_n hx hb (k_at kcX1_ok 0 rfl) rfl (lv_at hl 0 rfl) ?_
  refine fb_obj SC (kept_t 50 (by decide +kernel) rfl) (kept_t 24 (by decide +kernel) rfl) (kept_t 25 (by decide +kernel) rfl) hl.1 ⟨(Nat.le_of_ble_eq_true rfl), (Nat.le_of_ble_eq_true rfl)⟩ (k_at kcX1_ok 1 rfl) ?_
  refine W.eq (g2 := F0 m 4 ls []) rfl ?_
  refine lv_aload_n hx hb (k_at kcX1_ok 2 rfl) rfl (lv_at hl 0 rfl) ?_
  refine lv_bipush hx hb (k_at kcX1_ok 3 rfl) (ofI_8 (by decide) (by decide)) ?_
  refine lv_iconst hx hb (k_at kcX1_ok 4 rfl) rfl ?_
  refine fb_multi hx hb hts (ao_mv (Vm.Alike.refl _) hBK.2.1) hF hS hown (kept_t 51 (by decide +kernel) rfl) (kept_t 43 (by decide +kernel) rfl) hcO hcI2 (N := 48) (M := 3) (by decide) (by decide) (by decide) (by decide) (by decide) (by decide) (q0 := (6, 0)) rfl (hno 9 (by decide) (by decide +kernel)) rfl (fun j hj => congrArg some (show base + (10 + j) = base + 9 + 1 + j by omega)) (fb_rows (r := 7) (i0 := 0) (by decide +kernel) (fun k h1 h2 => hno k (Nat.le_trans (by decide) h1) h2) (by decide +kernel) (fun j hj => by show Sum.inl (cA 1, 3, Sum.inl fun _ => Int32.ofInt 0) = _; rw [i0]; rfl)) (Nat.le_of_ble_eq_true rfl) (Nat.le_of_ble_eq_true rfl) (k_at kcX1_ok 5 rfl) ?_
  intro H hF hS
  refine fb_put hx hb hts hK hin hF hS (by omega) hown 8 (5, 0) (by decide) rfl (fun k hk h => vc_u (Nat.lt_of_lt_of_le hk (by decide +kernel)) h (by decide +kernel)) (fs := [.int (Int32.ofInt 0), .int (Int32.ofInt 0), .int (Int32.ofInt 0), .int (Int32.ofInt 0), .null, .null, .null, .null, .null, .null, .null, .null, .null, .null, .null, .null, .null, .null]) hop rfl inX1 tyX1 tyX1_ok nmX1 4 (by decide) (kept_t 85 (by decide +kernel) rfl) rfl rfl rfl rfl (Nat.le_of_ble_eq_true rfl) (k_at kcX1_ok 6 rfl) ?_
  intro H locs hF hS
  replace hF : FB (wC D cA base) vcC base s0 (opS op (5, 0) (some (.inr (1, [.int (Int32.ofInt 0), .int (Int32.ofInt 0), .int (Int32.ofInt 0), .int (Int32.ofInt 0), .ref (base + 9), .null, .null, .null, .null, .null, .null, .null, .null, .null, .null, .null, .null, .null])))) 58 H := hF
  refine W.eq (g2 := F0 m 15 ls []) rfl ?_
  refine lv_aload_n hx hb (k_at kcX1_ok 7 rfl) rfl (lv_at hl 0 rfl) ?_
  refine lv_sipush hx hb (k_at kcX1_ok 8 rfl) (ofI_16 (by decide) (by decide)) ?_
  refine fb_newa (kd := 1) hx hb hts hK hF hS (by omega) (by omega) (atype := .int) (ty := .int) rfl (kept_t 43 (by decide +kernel) rfl) hcI (q0 := (8, 0)) rfl ((opS_no hno (show offC 5 0 < 9 by decide +kernel) (Nat.le_refl _)) 58 (by decide) (by decide +kernel)) (a0 := (343, .inl fun k => Int32.ofInt (s0 8 0 k))) rfl (N := 343) (fun cA => z_int (fun _ => i0) cA 343) (by decide) (by decide) (by decide) (Nat.le_of_ble_eq_true rfl) (Nat.le_of_ble_eq_true rfl) (k_at kcX1_ok 9 rfl) (fun _ h => h) ?_
  intro H hF hS
  refine fb_put hx hb hts hK hin hF hS (by omega) hown 8 (5, 0) (by decide) rfl (fun k hk h => vc_u (Nat.lt_of_lt_of_le hk (by decide +kernel)) h (by decide +kernel)) (fs := [.int (Int32.ofInt 0), .int (Int32.ofInt 0), .int (Int32.ofInt 0), .int (Int32.ofInt 0), .ref (base + 9), .null, .null, .null, .null, .null, .null, .null, .null, .null, .null, .null, .null, .null]) (opS_s _ _ _) rfl inX1 tyX1 tyX1_ok nmX1 5 (by decide) (kept_t 91 (by decide +kernel) rfl) rfl rfl rfl rfl (Nat.le_of_ble_eq_true rfl) (k_at kcX1_ok 10 rfl) ?_
  intro H locs hF hS
  rw [opS_opS] at hF
  replace hF : FB (wC D cA base) vcC base s0 (opS op (5, 0) (some (.inr (1, [.int (Int32.ofInt 0), .int (Int32.ofInt 0), .int (Int32.ofInt 0), .int (Int32.ofInt 0), .ref (base + 9), .ref (base + 58), .null, .null, .null, .null, .null, .null, .null, .null, .null, .null, .null, .null])))) 59 H := hF
  refine W.eq (g2 := F0 m 24 ls []) rfl ?_
  refine lv_aload_n hx hb (k_at kcX1_ok 11 rfl) rfl (lv_at hl 0 rfl) ?_
  refine lv_iconst hx hb (k_at kcX1_ok 12 rfl) rfl ?_
  refine lv_iconst hx hb (k_at kcX1_ok 13 rfl) rfl ?_
  refine fb_multi hx hb hts (ao_mv (Vm.Alike.refl _) hBK.2.1) hF hS hown (kept_t 51 (by decide +kernel) rfl) (kept_t 43 (by decide +kernel) rfl) hcO hcI2 (N := 4) (M := 3) (by decide) (by decide) (by decide) (by decide) (by decide) (by decide) (q0 := (9, 0)) rfl ((opS_no hno (show offC 5 0 < 9 by decide +kernel) (Nat.le_refl _)) 59 (by decide) (by decide +kernel)) rfl (fun j hj => congrArg some (show base + (60 + j) = base + 59 + 1 + j by omega)) (fb_rows (r := 10) (i0 := 0) (by decide +kernel) (fun k h1 h2 => (opS_no hno (show offC 5 0 < 9 by decide +kernel) (Nat.le_refl _)) k (Nat.le_trans (by decide) h1) h2) (by decide +kernel) (fun j hj => by show Sum.inl (cA 1, 3, Sum.inl fun _ => Int32.ofInt 0) = _; rw [i0]; rfl)) (Nat.le_of_ble_eq_true rfl) (Nat.le_of_ble_eq_true rfl) (k_at kcX1_ok 14 rfl) ?_
  intro H hF hS
  refine fb_put hx hb hts hK hin hF hS (by omega) hown 8 (5, 0) (by decide) rfl (fun k hk h => vc_u (Nat.lt_of_lt_of_le hk (by decide +kernel)) h (by decide +kernel)) (fs := [.int (Int32.ofInt 0), .int (Int32.ofInt 0), .int (Int32.ofInt 0), .int (Int32.ofInt 0), .ref (base + 9), .ref (base + 58), .null, .null, .null, .null, .null, .null, .null, .null, .null, .null, .null, .null]) (opS_s _ _ _) rfl inX1 tyX1 tyX1_ok nmX1 6 (by decide) (kept_t 92 (by decide +kernel) rfl) rfl rfl rfl rfl (Nat.le_of_ble_eq_true rfl) (k_at kcX1_ok 15 rfl) ?_
  intro H locs hF hS
  rw [opS_opS] at hF
  replace hF : FB (wC D cA base) vcC base s0 (opS op (5, 0) (some (.inr (1, [.int (Int32.ofInt 0), .int (Int32.ofInt 0), .int (Int32.ofInt 0), .int (Int32.ofInt 0), .ref (base + 9), .ref (base + 58), .ref (base + 59), .null, .null, .null, .null, .null, .null, .null, .null, .null, .null, .null])))) 64 H := hF
  refine W.eq (g2 := F0 m 34 ls []) rfl ?_
  refine lv_aload_n hx hb (k_at kcX1_ok 16 rfl) rfl (lv_at hl 0 rfl) ?_
  refine lv_bipush hx hb (k_at kcX1_ok 17 rfl) (ofI_8 (by decide) (by decide)) ?_
  refine lv_iconst hx hb (k_at kcX1_ok 18 rfl) rfl ?_
  refine fb_multi hx hb hts (ao_mv (Vm.Alike.refl _) hBK.2.1) hF hS hown (kept_t 51 (by decide +kernel) rfl) (kept_t 43 (by decide +kernel) rfl) hcO hcI2 (N := 48) (M := 4) (by decide) (by decide) (by decide) (by decide) (by decide) (by decide) (q0 := (11, 0)) rfl ((opS_no hno (show offC 5 0 < 9 by decide +kernel) (Nat.le_refl _)) 64 (by decide) (by decide +kernel)) rfl (fun j hj => congrArg some (show base + (65 + j) = base + 64 + 1 + j by omega)) (fb_rows (r := 12) (i0 := 0) (by decide +kernel) (fun k h1 h2 => (opS_no hno (show offC 5 0 < 9 by decide +kernel) (Nat.le_refl _)) k (Nat.le_trans (by decide) h1) h2) (by decide +kernel) (fun j hj => by show Sum.inl (cA 1, 4, Sum.inl fun _ => Int32.ofInt 0) = _; rw [i0]; rfl)) (Nat.le_of_ble_eq_true rfl) (Nat.le_of_ble_eq_true rfl) (k_at kcX1_ok 19 rfl) ?_
  intro H hF hS
  refine fb_put hx hb hts hK hin hF hS (by omega) hown 8 (5, 0) (by decide) rfl (fun k hk h => vc_u (Nat.lt_of_lt_of_le hk (by decide +kernel)) h (by decide +kernel)) (fs := [.int (Int32.ofInt 0), .int (Int32.ofInt 0), .int (Int32.ofInt 0), .int (Int32.ofInt 0), .ref (base + 9), .ref (base + 58), .ref (base + 59), .null, .null, .null, .null, .null, .null, .null, .null, .null, .null, .null]) (opS_s _ _ _) rfl inX1 tyX1 tyX1_ok nmX1 7 (by decide) (kept_t 93 (by decide +kernel) rfl) rfl rfl rfl rfl (Nat.le_of_ble_eq_true rfl) (k_at kcX1_ok 20 rfl) ?_
  intro H locs hF hS
  rw [opS_opS] at hF
  replace hF : FB (wC D cA base) vcC base s0 (opS op (5, 0) (some (.inr (1, [.int (Int32.ofInt 0), .int (Int32.ofInt 0), .int (Int32.ofInt 0), .int (Int32.ofInt 0), .ref (base + 9), .ref (base + 58), .ref (base + 59), .ref (base + 64), .null, .null, .null, .null, .null, .null, .null, .null, .null, .null])))) 113 H := hF
  refine W.eq (g2 := F0 m 45 ls []) rfl ?_
  refine lv_aload_n hx hb (k_at kcX1_ok 21 rfl) rfl (lv_at hl 0 rfl) ?_
  refine lv_bipush hx hb (k_at kcX1_ok 22 rfl) (ofI_8 (by decide) (by decide)) ?_
  refine fb_newa (kd := 1) hx hb hts hK hF hS (by omega) (by omega) (atype := .int) (ty := .int) rfl (kept_t 43 (by decide +kernel) rfl) hcI (q0 := (13, 0)) rfl ((opS_no hno (show offC 5 0 < 9 by decide +kernel) (Nat.le_refl _)) 113 (by decide) (by decide +kernel)) (a0 := (48, .inl fun k => Int32.ofInt (s0 13 0 k))) rfl (N := 48) (fun cA => z_int (fun _ => i0) cA 48) (by decide) (by decide) (by decide) (Nat.le_of_ble_eq_true rfl) (Nat.le_of_ble_eq_true rfl) (k_at kcX1_ok 23 rfl) (fun _ h => h) ?_
  intro H hF hS
  refine fb_put hx hb hts hK hin hF hS (by omega) hown 8 (5, 0) (by decide) rfl (fun k hk h => vc_u (Nat.lt_of_lt_of_le hk (by decide +kernel)) h (by decide +kernel)) (fs := [.int (Int32.ofInt 0), .int (Int32.ofInt 0), .int (Int32.ofInt 0), .int (Int32.ofInt 0), .ref (base + 9), .ref (base + 58), .ref (base + 59), .ref (base + 64), .null, .null, .null, .null, .null, .null, .null, .null, .null, .null]) (opS_s _ _ _) rfl inX1 tyX1 tyX1_ok nmX1 8 (by decide) (kept_t 95 (by decide +kernel) rfl) rfl rfl rfl rfl (Nat.le_of_ble_eq_true rfl) (k_at kcX1_ok 24 rfl) ?_
  intro H locs hF hS
  rw [opS_opS] at hF
  replace hF : FB (wC D cA base) vcC base s0 (opS op (5, 0) (some (.inr (1, [.int (Int32.ofInt 0), .int (Int32.ofInt 0), .int (Int32.ofInt 0), .int (Int32.ofInt 0), .ref (base + 9), .ref (base + 58), .ref (base + 59), .ref (base + 64), .ref (base + 113), .null, .null, .null, .null, .null, .null, .null, .null, .null])))) 114 H := hF
  refine W.eq (g2 := F0 m 53 ls []) rfl ?_
  refine lv_aload_n hx hb (k_at kcX1_ok 25 rfl) rfl (lv_at hl 0 rfl) ?_
  refine lv_bipush hx hb (k_at kcX1_ok 26 rfl) (ofI_8 (by decide) (by decide)) ?_
  refine fb_newa (kd := 1) hx hb hts hK hF hS (by omega) (by omega) (atype := .int) (ty := .int) rfl (kept_t 43 (by decide +kernel) rfl) hcI (q0 := (14, 0)) rfl ((opS_no hno (show offC 5 0 < 9 by decide +kernel) (Nat.le_refl _)) 114 (by decide) (by decide +kernel)) (a0 := (48, .inl fun k => Int32.ofInt (s0 14 0 k))) rfl (N := 48) (fun cA => z_int (fun _ => i0) cA 48) (by decide) (by decide) (by decide) (Nat.le_of_ble_eq_true rfl) (Nat.le_of_ble_eq_true rfl) (k_at kcX1_ok 27 rfl) (fun _ h => h) ?_
  intro H hF hS
  refine fb_put hx hb hts hK hin hF hS (by omega) hown 8 (5, 0) (by decide) rfl (fun k hk h => vc_u (Nat.lt_of_lt_of_le hk (by decide +kernel)) h (by decide +kernel)) (fs := [.int (Int32.ofInt 0), .int (Int32.ofInt 0), .int (Int32.ofInt 0), .int (Int32.ofInt 0), .ref (base + 9), .ref (base + 58), .ref (base + 59), .ref (base + 64), .ref (base + 113), .null, .null, .null, .null, .null, .null, .null, .null, .null]) (opS_s _ _ _) rfl inX1 tyX1 tyX1_ok nmX1 9 (by decide) (kept_t 97 (by decide +kernel) rfl) rfl rfl rfl rfl (Nat.le_of_ble_eq_true rfl) (k_at kcX1_ok 28 rfl) ?_
  intro H locs hF hS
  rw [opS_opS] at hF
  replace hF : FB (wC D cA base) vcC base s0 (opS op (5, 0) (some (.inr (1, [.int (Int32.ofInt 0), .int (Int32.ofInt 0), .int (Int32.ofInt 0), .int (Int32.ofInt 0), .ref (base + 9), .ref (base + 58), .ref (base + 59), .ref (base + 64), .ref (base + 113), .ref (base + 114), .null, .null, .null, .null, .null, .null, .null, .null])))) 115 H := hF
  refine W.eq (g2 := F0 m 61 ls []) rfl ?_
  refine lv_aload_n hx hb (k_at kcX1_ok 29 rfl) rfl (lv_at hl 0 rfl) ?_
  refine lv_bipush hx hb (k_at kcX1_ok 30 rfl) (ofI_8 (by decide) (by decide)) ?_
  refine lv_bipush hx hb (k_at kcX1_ok 31 rfl) (ofI_8 (by decide) (by decide)) ?_
  refine fb_multi hx hb hts (ao_mv (Vm.Alike.refl _) hBK.2.1) hF hS hown (kept_t 51 (by decide +kernel) rfl) (kept_t 43 (by decide +kernel) rfl) hcO hcI2 (N := 48) (M := 48) (by decide) (by decide) (by decide) (by decide) (by decide) (by decide) (q0 := (15, 0)) rfl ((opS_no hno (show offC 5 0 < 9 by decide +kernel) (Nat.le_refl _)) 115 (by decide) (by decide +kernel)) rfl (fun j hj => congrArg some (show base + (116 + j) = base + 115 + 1 + j by omega)) (fb_rows (r := 16) (i0 := 0) (by decide +kernel) (fun k h1 h2 => (opS_no hno (show offC 5 0 < 9 by decide +kernel) (Nat.le_refl _)) k (Nat.le_trans (by decide) h1) h2) (by decide +kernel) (fun j hj => by show Sum.inl (cA 1, 48, Sum.inl fun _ => Int32.ofInt 0) = _; rw [i0]; rfl)) (Nat.le_of_ble_eq_true rfl) (Nat.le_of_ble_eq_true rfl) (k_at kcX1_ok 32 rfl) ?_
  intro H hF hS
  refine fb_put hx hb hts hK hin hF hS (by omega) hown 8 (5, 0) (by decide) rfl (fun k hk h => vc_u (Nat.lt_of_lt_of_le hk (by decide +kernel)) h (by decide +kernel)) (fs := [.int (Int32.ofInt 0), .int (Int32.ofInt 0), .int (Int32.ofInt 0), .int (Int32.ofInt 0), .ref (base + 9), .ref (base + 58), .ref (base + 59), .ref (base + 64), .ref (base + 113), .ref (base + 114), .null, .null, .null, .null, .null, .null, .null, .null]) (opS_s _ _ _) rfl inX1 tyX1 tyX1_ok nmX1 10 (by decide) (kept_t 99 (by decide +kernel) rfl) rfl rfl rfl rfl (Nat.le_of_ble_eq_true rfl) (k_at kcX1_ok 33 rfl) ?_
  intro H locs hF hS
  rw [opS_opS] at hF
  replace hF : FB (wC D cA base) vcC base s0 (opS op (5, 0) (some (.inr (1, [.int (Int32.ofInt 0), .int (Int32.ofInt 0), .int (Int32.ofInt 0), .int (Int32.ofInt 0), .ref (base + 9), .ref (base + 58), .ref (base + 59), .ref (base + 64), .ref (base + 113), .ref (base + 114), .ref (base + 115), .null, .null, .null, .null, .null, .null, .null])))) 164 H := hF
  refine W.eq (g2 := F0 m 73 ls []) rfl ?_
  refine lv_aload_n hx hb (k_at kcX1_ok 34 rfl) rfl (lv_at hl 0 rfl) ?_
  refine lv_bipush hx hb (k_at kcX1_ok 35 rfl) (ofI_8 (by decide) (by decide)) ?_
  refine fb_newa (kd := 1) hx hb hts hK hF hS (by omega) (by omega) (atype := .int) (ty := .int) rfl (kept_t 43 (by decide +kernel) rfl) hcI (q0 := (17, 0)) rfl ((opS_no hno (show offC 5 0 < 9 by decide +kernel) (Nat.le_refl _)) 164 (by decide) (by decide +kernel)) (a0 := (48, .inl fun k => Int32.ofInt (s0 17 0 k))) rfl (N := 48) (fun cA => z_int (fun _ => i0) cA 48) (by decide) (by decide) (by decide) (Nat.le_of_ble_eq_true rfl) (Nat.le_of_ble_eq_true rfl) (k_at kcX1_ok 36 rfl) (fun _ h => h) ?_
  intro H hF hS
  refine fb_put hx hb hts hK hin hF hS (by omega) hown 8 (5, 0) (by decide) rfl (fun k hk h => vc_u (Nat.lt_of_lt_of_le hk (by decide +kernel)) h (by decide +kernel)) (fs := [.int (Int32.ofInt 0), .int (Int32.ofInt 0), .int (Int32.ofInt 0), .int (Int32.ofInt 0), .ref (base + 9), .ref (base + 58), .ref (base + 59), .ref (base + 64), .ref (base + 113), .ref (base + 114), .ref (base + 115), .null, .null, .null, .null, .null, .null, .null]) (opS_s _ _ _) rfl inX1 tyX1 tyX1_ok nmX1 11 (by decide) (kept_t 101 (by decide +kernel) rfl) rfl rfl rfl rfl (Nat.le_of_ble_eq_true rfl) (k_at kcX1_ok 37 rfl) ?_
  intro H locs hF hS
  rw [opS_opS] at hF
  replace hF : FB (wC D cA base) vcC base s0 (opS op (5, 0) (some (.inr (1, [.int (Int32.ofInt 0), .int (Int32.ofInt 0), .int (Int32.ofInt 0), .int (Int32.ofInt 0), .ref (base + 9), .ref (base + 58), .ref (base + 59), .ref (base + 64), .ref (base + 113), .ref (base + 114), .ref (base + 115), .ref (base + 164), .null, .null, .null, .null, .null, .null])))) 165 H := hF
  refine W.eq (g2 := F0 m 81 ls []) rfl ?_
  refine lv_aload_n hx hb (k_at kcX1_ok 38 rfl) rfl (lv_at hl 0 rfl) ?_
  refine lv_bipush hx hb (k_at kcX1_ok 39 rfl) (ofI_8 (by decide) (by decide)) ?_
  refine fb_newa (kd := 1) hx hb hts hK hF hS (by omega) (by omega) (atype := .int) (ty := .int) rfl (kept_t 43 (by decide +kernel) rfl) hcI (q0 := (18, 0)) rfl ((opS_no hno (show offC 5 0 < 9 by decide +kernel) (Nat.le_refl _)) 165 (by decide) (by decide +kernel)) (a0 := (48, .inl fun k => Int32.ofInt (s0 18 0 k))) rfl (N := 48) (fun cA => z_int (fun _ => i0) cA 48) (by decide) (by decide) (by decide) (Nat.le_of_ble_eq_true rfl) (Nat.le_of_ble_eq_true rfl) (k_at kcX1_ok 40 rfl) (fun _ h => h) ?_
  intro H hF hS
  refine fb_put hx hb hts hK hin hF hS (by omega) hown 8 (5, 0) (by decide) rfl (fun k hk h => vc_u (Nat.lt_of_lt_of_le hk (by decide +kernel)) h (by decide +kernel)) (fs := [.int (Int32.ofInt 0), .int (Int32.ofInt 0), .int (Int32.ofInt 0), .int (Int32.ofInt 0), .ref (base + 9), .ref (base + 58), .ref (base + 59), .ref (base + 64), .ref (base + 113), .ref (base + 114), .ref (base + 115), .ref (base + 164), .null, .null, .null, .null, .null, .null]) (opS_s _ _ _) rfl inX1 tyX1 tyX1_ok nmX1 12 (by decide) (kept_t 103 (by decide +kernel) rfl) rfl rfl rfl rfl (Nat.le_of_ble_eq_true rfl) (k_at kcX1_ok 41 rfl) ?_
  intro H locs hF hS
  rw [opS_opS] at hF
  replace hF : FB (wC D cA base) vcC base s0 (opS op (5, 0) (some (.inr (1, [.int (Int32.ofInt 0), .int (Int32.ofInt 0), .int (Int32.ofInt 0), .int (Int32.ofInt 0), .ref (base + 9), .ref (base + 58), .ref (base + 59), .ref (base + 64), .ref (base + 113), .ref (base + 114), .ref (base + 115), .ref (base + 164), .ref (base + 165), .null, .null, .null, .null, .null])))) 166 H := hF
  refine W.eq (g2 := F0 m 89 ls []) rfl ?_
  refine lv_aload_n hx hb (k_at kcX1_ok 42 rfl) rfl (lv_at hl 0 rfl) ?_
  refine lv_bipush hx hb (k_at kcX1_ok 43 rfl) (ofI_8 (by decide) (by decide)) ?_
  refine fb_newa (kd := 1) hx hb hts hK hF hS (by omega) (by omega) (atype := .int) (ty := .int) rfl (kept_t 43 (by decide +kernel) rfl) hcI (q0 := (19, 0)) rfl ((opS_no hno (show offC 5 0 < 9 by decide +kernel) (Nat.le_refl _)) 166 (by decide) (by decide +kernel)) (a0 := (48, .inl fun k => Int32.ofInt (s0 19 0 k))) rfl (N := 48) (fun cA => z_int (fun _ => i0) cA 48) (by decide) (by decide) (by decide) (Nat.le_of_ble_eq_true rfl) (Nat.le_of_ble_eq_true rfl) (k_at kcX1_ok 44 rfl) (fun _ h => h) ?_
  intro H hF hS
  refine fb_put hx hb hts hK hin hF hS (by omega) hown 8 (5, 0) (by decide) rfl (fun k hk h => vc_u (Nat.lt_of_lt_of_le hk (by decide +kernel)) h (by decide +kernel)) (fs := [.int (Int32.ofInt 0), .int (Int32.ofInt 0), .int (Int32.ofInt 0), .int (Int32.ofInt 0), .ref (base + 9), .ref (base + 58), .ref (base + 59), .ref (base + 64), .ref (base + 113), .ref (base + 114), .ref (base + 115), .ref (base + 164), .ref (base + 165), .null, .null, .null, .null, .null]) (opS_s _ _ _) rfl inX1 tyX1 tyX1_ok nmX1 13 (by decide) (kept_t 105 (by decide +kernel) rfl) rfl rfl rfl rfl (Nat.le_of_ble_eq_true rfl) (k_at kcX1_ok 45 rfl) ?_
  intro H locs hF hS
  rw [opS_opS] at hF
  replace hF : FB (wC D cA base) vcC base s0 (opS op (5, 0) (some (.inr (1, [.int (Int32.ofInt 0), .int (Int32.ofInt 0), .int (Int32.ofInt 0), .int (Int32.ofInt 0), .ref (base + 9), .ref (base + 58), .ref (base + 59), .ref (base + 64), .ref (base + 113), .ref (base + 114), .ref (base + 115), .ref (base + 164), .ref (base + 165), .ref (base + 166), .null, .null, .null, .null])))) 167 H := hF
  refine W.eq (g2 := F0 m 97 ls []) rfl ?_
  refine lv_aload_n hx hb (k_at kcX1_ok 46 rfl) rfl (lv_at hl 0 rfl) ?_
  refine lv_bipush hx hb (k_at kcX1_ok 47 rfl) (ofI_8 (by decide) (by decide)) ?_
  refine fb_newa (kd := 1) hx hb hts hK hF hS (by omega) (by omega) (atype := .int) (ty := .int) rfl (kept_t 43 (by decide +kernel) rfl) hcI (q0 := (20, 0)) rfl ((opS_no hno (show offC 5 0 < 9 by decide +kernel) (Nat.le_refl _)) 167 (by decide) (by decide +kernel)) (a0 := (48, .inl fun k => Int32.ofInt (s0 20 0 k))) rfl (N := 48) (fun cA => z_int (fun _ => i0) cA 48) (by decide) (by decide) (by decide) (Nat.le_of_ble_eq_true rfl) (Nat.le_of_ble_eq_true rfl) (k_at kcX1_ok 48 rfl) (fun _ h => h) ?_
  intro H hF hS
  refine fb_put hx hb hts hK hin hF hS (by omega) hown 8 (5, 0) (by decide) rfl (fun k hk h => vc_u (Nat.lt_of_lt_of_le hk (by decide +kernel)) h (by decide +kernel)) (fs := [.int (Int32.ofInt 0), .int (Int32.ofInt 0), .int (Int32.ofInt 0), .int (Int32.ofInt 0), .ref (base + 9), .ref (base + 58), .ref (base + 59), .ref (base + 64), .ref (base + 113), .ref (base + 114), .ref (base + 115), .ref (base + 164), .ref (base + 165), .ref (base + 166), .null, .null, .null, .null]) (opS_s _ _ _) rfl inX1 tyX1 tyX1_ok nmX1 14 (by decide) (kept_t 107 (by decide +kernel) rfl) rfl rfl rfl rfl (Nat.le_of_ble_eq_true rfl) (k_at kcX1_ok 49 rfl) ?_
  intro H locs hF hS
  rw [opS_opS] at hF
  replace hF : FB (wC D cA base) vcC base s0 (opS op (5, 0) (some (.inr (1, [.int (Int32.ofInt 0), .int (Int32.ofInt 0), .int (Int32.ofInt 0), .int (Int32.ofInt 0), .ref (base + 9), .ref (base + 58), .ref (base + 59), .ref (base + 64), .ref (base + 113), .ref (base + 114), .ref (base + 115), .ref (base + 164), .ref (base + 165), .ref (base + 166), .ref (base + 167), .null, .null, .null])))) 168 H := hF
  refine W.eq (g2 := F0 m 105 ls []) rfl ?_
  refine lv_aload_n hx hb (k_at kcX1_ok 50 rfl) rfl (lv_at hl 0 rfl) ?_
  refine lv_bipush hx hb (k_at kcX1_ok 51 rfl) (ofI_8 (by decide) (by decide)) ?_
  refine fb_newa (kd := 1) hx hb hts hK hF hS (by omega) (by omega) (atype := .int) (ty := .int) rfl (kept_t 43 (by decide +kernel) rfl) hcI (q0 := (21, 0)) rfl ((opS_no hno (show offC 5 0 < 9 by decide +kernel) (Nat.le_refl _)) 168 (by decide) (by decide +kernel)) (a0 := (48, .inl fun k => Int32.ofInt (s0 21 0 k))) rfl (N := 48) (fun cA => z_int (fun _ => i0) cA 48) (by decide) (by decide) (by decide) (Nat.le_of_ble_eq_true rfl) (Nat.le_of_ble_eq_true rfl) (k_at kcX1_ok 52 rfl) (fun _ h => h) ?_
  intro H hF hS
  refine fb_put hx hb hts hK hin hF hS (by omega) hown 8 (5, 0) (by decide) rfl (fun k hk h => vc_u (Nat.lt_of_lt_of_le hk (by decide +kernel)) h (by decide +kernel)) (fs := [.int (Int32.ofInt 0), .int (Int32.ofInt 0), .int (Int32.ofInt 0), .int (Int32.ofInt 0), .ref (base + 9), .ref (base + 58), .ref (base + 59), .ref (base + 64), .ref (base + 113), .ref (base + 114), .ref (base + 115), .ref (base + 164), .ref (base + 165), .ref (base + 166), .ref (base + 167), .null, .null, .null]) (opS_s _ _ _) rfl inX1 tyX1 tyX1_ok nmX1 15 (by decide) (kept_t 109 (by decide +kernel) rfl) rfl rfl rfl rfl (Nat.le_of_ble_eq_true rfl) (k_at kcX1_ok 53 rfl) ?_
  intro H locs hF hS
  rw [opS_opS] at hF
  replace hF : FB (wC D cA base) vcC base s0 (opS op (5, 0) (some (.inr (1, [.int (Int32.ofInt 0), .int (Int32.ofInt 0), .int (Int32.ofInt 0), .int (Int32.ofInt 0), .ref (base + 9), .ref (base + 58), .ref (base + 59), .ref (base + 64), .ref (base + 113), .ref (base + 114), .ref (base + 115), .ref (base + 164), .ref (base + 165), .ref (base + 166), .ref (base + 167), .ref (base + 168), .null, .null])))) 169 H := hF
  refine W.eq (g2 := F0 m 113 ls []) rfl ?_
  refine lv_aload_n hx hb (k_at kcX1_ok 54 rfl) rfl (lv_at hl 0 rfl) ?_
  refine lv_bipush hx hb (k_at kcX1_ok 55 rfl) (ofI_8 (by decide) (by decide)) ?_
  refine fb_newa (kd := 3) hx hb hts hK hF hS (by omega) (by omega) (atype := .boolean) (ty := .boolean) rfl (kept_t 44 (by decide +kernel) rfl) hcZ (q0 := (22, 0)) rfl ((opS_no hno (show offC 5 0 < 9 by decide +kernel) (Nat.le_refl _)) 169 (by decide) (by decide +kernel)) (a0 := (48, .inl fun k => Int32.ofInt (s0 22 0 k))) rfl (N := 48) (fun cA => z_bool (fun _ => i0) cA 48) (by decide) (by decide) (by decide) (Nat.le_of_ble_eq_true rfl) (Nat.le_of_ble_eq_true rfl) (k_at kcX1_ok 56 rfl) (fun _ h => h) ?_
  intro H hF hS
  refine fb_put hx hb hts hK hin hF hS (by omega) hown 8 (5, 0) (by decide) rfl (fun k hk h => vc_u (Nat.lt_of_lt_of_le hk (by decide +kernel)) h (by decide +kernel)) (fs := [.int (Int32.ofInt 0), .int (Int32.ofInt 0), .int (Int32.ofInt 0), .int (Int32.ofInt 0), .ref (base + 9), .ref (base + 58), .ref (base + 59), .ref (base + 64), .ref (base + 113), .ref (base + 114), .ref (base + 115), .ref (base + 164), .ref (base + 165), .ref (base + 166), .ref (base + 167), .ref (base + 168), .null, .null]) (opS_s _ _ _) rfl inX1 tyX1 tyX1_ok nmX1 16 (by decide) (kept_t 111 (by decide +kernel) rfl) rfl rfl rfl rfl (Nat.le_of_ble_eq_true rfl) (k_at kcX1_ok 57 rfl) ?_
  intro H locs hF hS
  rw [opS_opS] at hF
  replace hF : FB (wC D cA base) vcC base s0 (opS op (5, 0) (some (.inr (1, [.int (Int32.ofInt 0), .int (Int32.ofInt 0), .int (Int32.ofInt 0), .int (Int32.ofInt 0), .ref (base + 9), .ref (base + 58), .ref (base + 59), .ref (base + 64), .ref (base + 113), .ref (base + 114), .ref (base + 115), .ref (base + 164), .ref (base + 165), .ref (base + 166), .ref (base + 167), .ref (base + 168), .ref (base + 169), .null])))) 170 H := hF
  refine W.eq (g2 := F0 m 121 ls []) rfl ?_
  refine lv_aload_n hx hb (k_at kcX1_ok 58 rfl) rfl (lv_at hl 0 rfl) ?_
  refine fb_new hx hb hts hK hF hS (by omega) (by omega) hown (ci := 8) rfl inX8 tyX8 tyX8_ok (kept_t 52 (by decide +kernel) rfl) (kept_t 53 (by decide +kernel) rfl) (kept_t 4 (by decide +kernel) rfl) (q0 := (23, 0)) rfl (fun k hk => vcn_ne hk (by decide +kernel) (by decide +kernel)) (fs := [.null, .null, .int (Int32.ofInt 0)]) (by decide +kernel) (Nat.le_of_ble_eq_true rfl) (Nat.le_of_ble_eq_true rfl) (k_at kcX1_ok 59 rfl) ?_
  intro H hF hS
  refine lv_dup hx hb (k_at kcX1_ok 60 rfl) rfl ?_
  refine fb_callN (host := "TurnBench") (av := []) SC hBK (i_X8 l (opS_s _ _ _) (opS_no (opS_no hno (show offC 5 0 < 9 by decide +kernel) (Nat.le_refl _)) (show offC 23 0 < 171 by decide +kernel) (by decide))) (show (RX1, 56, yX8_init, "TurnBench") ∈ lw_nest by decide +kernel) (kept_t 4 (by decide +kernel) rfl) (kept_t 56 (by decide +kernel) rfl) (kept_t 55 (by decide +kernel) rfl) rfl (by decide +kernel) rfl ⟨(Nat.le_of_ble_eq_true rfl), (Nat.le_of_ble_eq_true rfl)⟩ hF hS (by omega) hl.1 (Nat.le_of_ble_eq_true rfl) ⟨(Nat.le_of_ble_eq_true rfl), (Nat.le_of_ble_eq_true rfl)⟩ (k_at kcX1_ok 61 rfl) ?_
  intro H locs hF hS
  rw [opS_opS, opS_none (q := (23, 0)) ((opS_no hno (show offC 5 0 < 9 by decide +kernel) (Nat.le_refl _)) 170 (by decide) (by decide +kernel))] at hF
  refine fb_put hx hb hts hK hin hF hS (by omega) hown 8 (5, 0) (by decide) rfl (fun k hk h => vc_u (Nat.lt_of_lt_of_le hk (by decide +kernel)) h (by decide +kernel)) (fs := [.int (Int32.ofInt 0), .int (Int32.ofInt 0), .int (Int32.ofInt 0), .int (Int32.ofInt 0), .ref (base + 9), .ref (base + 58), .ref (base + 59), .ref (base + 64), .ref (base + 113), .ref (base + 114), .ref (base + 115), .ref (base + 164), .ref (base + 165), .ref (base + 166), .ref (base + 167), .ref (base + 168), .ref (base + 169), .null]) (opS_s _ _ _) rfl inX1 tyX1 tyX1_ok nmX1 17 (by decide) (kept_t 113 (by decide +kernel) rfl) rfl rfl rfl rfl (Nat.le_of_ble_eq_true rfl) (k_at kcX1_ok 62 rfl) ?_
  intro H locs hF hS
  rw [opS_opS] at hF
  replace hF : FB (wC D cA base) vcC base s0 (opS op (5, 0) (some (.inr (1, [.int (Int32.ofInt 0), .int (Int32.ofInt 0), .int (Int32.ofInt 0), .int (Int32.ofInt 0), .ref (base + 9), .ref (base + 58), .ref (base + 59), .ref (base + 64), .ref (base + 113), .ref (base + 114), .ref (base + 115), .ref (base + 164), .ref (base + 165), .ref (base + 166), .ref (base + 167), .ref (base + 168), .ref (base + 169), .ref (base + 170)])))) 173 H := hF
  refine W.eq (g2 := F0 m 132 ls []) rfl ?_
  exact fb_ret hx hb hr hlocks hF hS (fun k _ => fb_close rfl _) (k_at kcX1_ok 63 rfl) rfl rfl
set_option maxRecDepth 20000 in
theorem i_X9 (l : Launch) {D : va_G} {cA : Nat → ClassId} {base zq : Nat} {op : Nat × Nat → Option va_E} (hop : op (26, 0) = some (.inr (9, [.int (Int32.ofInt 0), .null]))) (hno : ∀ k, 174 ≤ k → k < nC → op (vcC k) = none) : iMet l (wC D cA base) vcC base zq yX9_init cX9_init 1 2 17 784 s0 op 174 173 [] s0 (opS op (26, 0) none) 191 := by
  refine i_intro (by decide) rfl (Nat.le_of_ble_eq_true rfl) (fun p e s m args below meth c ls hx hb hml hown hts hin hr hlocks hBK hsz hF hS hl => ?_)
  have hK := hBK.1
  have SC : CallFix p m c cX9_init 1 s args lw_kept RX9 := ⟨hx, hb, hml, hown, hts⟩
  have hown : s.vm.findClass RX9 = some m.cls := hown
  have hcI : s.vm.findClass ("[" ++ FieldType.int.toString) = some (cA 1) := (hK.1.2 0 _ rfl).2
  have hcI2 : s.vm.findClass (FieldType.array .int).toString = some (cA 1) := hcI
  have hcZ : s.vm.findClass ("[" ++ FieldType.boolean.toString) = some (cA 3) := (hK.1.2 2 _ rfl).2
  have hcO : s.vm.findClass ("[" ++ (FieldType.array .int).toString) = some (cA 5) := (hK.1.2 3 _ rfl).2
  refine lv_aload_n hx hb (k_at kcX9_ok 0 rfl) rfl (lv_at hl 0 rfl) ?_
  refine fb_obj SC (kept_t 157 (by decide +kernel) rfl) (kept_t 24 (by decide +kernel) rfl) (kept_t 25 (by decide +kernel) rfl) hl.1 ⟨(Nat.le_of_ble_eq_true rfl), (Nat.le_of_ble_eq_true rfl)⟩ (k_at kcX9_ok 1 rfl) ?_
  refine W.eq (g2 := F0 m 4 ls []) rfl ?_
  refine lv_aload_n hx hb (k_at kcX9_ok 2 rfl) rfl (lv_at hl 0 rfl) ?_
  refine lv_bipush hx hb (k_at kcX9_ok 3 rfl) (ofI_8 (by decide) (by decide)) ?_
  refine lv_bipush hx hb (k_at kcX9_ok 4 rfl) (ofI_8 (by decide) (by decide)) ?_
  refine fb_multi hx hb hts (ao_mv (Vm.Alike.refl _) hBK.2.1) hF hS hown (kept_t 158 (by decide +kernel) rfl) (kept_t 43 (by decide +kernel) rfl) hcO hcI2 (N := 16) (M := 48) (by decide) (by decide) (by decide) (by decide) (by decide) (by decide) (q0 := (27, 0)) rfl (hno 174 (by decide) (by decide +kernel)) rfl (fun j hj => congrArg some (show base + (175 + j) = base + 174 + 1 + j by omega)) (fb_rows (r := 28) (i0 := 0) (by decide +kernel) (fun k h1 h2 => hno k (Nat.le_trans (by decide) h1) h2) (by decide +kernel) (fun j hj => by show Sum.inl (cA 1, 48, Sum.inl fun _ => Int32.ofInt 0) = _; rw [i0]; rfl)) (Nat.le_of_ble_eq_true rfl) (Nat.le_of_ble_eq_true rfl) (k_at kcX9_ok 5 rfl) ?_
  intro H hF hS
  refine fb_put hx hb hts hK hin hF hS (by omega) hown 173 (26, 0) (by decide) rfl (fun k hk h => vc_u (Nat.lt_of_lt_of_le hk (by decide +kernel)) h (by decide +kernel)) (fs := [.int (Int32.ofInt 0), .null]) hop rfl inX9 tyX9 tyX9_ok nmX9 1 (by decide) (kept_t 161 (by decide +kernel) rfl) rfl rfl rfl rfl (Nat.le_of_ble_eq_true rfl) (k_at kcX9_ok 6 rfl) ?_
  intro H locs hF hS
  replace hF : FB (wC D cA base) vcC base s0 (opS op (26, 0) (some (.inr (9, [.int (Int32.ofInt 0), .ref (base + 174)])))) 191 H := hF
  refine W.eq (g2 := F0 m 16 ls []) rfl ?_
  exact fb_ret hx hb hr hlocks hF hS (fun k _ => fb_close rfl _) (k_at kcX9_ok 7 rfl) rfl rfl
set_option maxRecDepth 20000 in
theorem i_X4 (l : Launch) {D : va_G} {cA : Nat → ClassId} {base zq : Nat} {op : Nat × Nat → Option va_E} (hop : op (29, 0) = some (.inr (4, [.null]))) (hno : ∀ k, 192 ≤ k → k < nC → op (vcC k) = none) : iMet l (wC D cA base) vcC base zq yX4_init cX4_init 1 2 1 201 s0 op 192 191 [] s0 (opS op (29, 0) none) 193 := by
  refine i_intro (by decide) rfl (Nat.le_of_ble_eq_true rfl) (fun p e s m args below meth c ls hx hb hml hown hts hin hr hlocks hBK hsz hF hS hl => ?_)
  have hK := hBK.1
  have SC : CallFix p m c cX4_init 1 s args lw_kept RX4 := ⟨hx, hb, hml, hown, hts⟩
  have hown : s.vm.findClass RX4 = some m.cls := hown
  have hcI : s.vm.findClass ("[" ++ FieldType.int.toString) = some (cA 1) := (hK.1.2 0 _ rfl).2
  have hcI2 : s.vm.findClass (FieldType.array .int).toString = some (cA 1) := hcI
  have hcZ : s.vm.findClass ("[" ++ FieldType.boolean.toString) = some (cA 3) := (hK.1.2 2 _ rfl).2
  have hcO : s.vm.findClass ("[" ++ (FieldType.array .int).toString) = some (cA 5) := (hK.1.2 3 _ rfl).2
  refine lv_aload_n hx hb (k_at kcX4_ok 0 rfl) rfl (lv_at hl 0 rfl) ?_
  refine fb_obj SC (kept_t 173 (by decide +kernel) rfl) (kept_t 24 (by decide +kernel) rfl) (kept_t 25 (by decide +kernel) rfl) hl.1 ⟨(Nat.le_of_ble_eq_true rfl), (Nat.le_of_ble_eq_true rfl)⟩ (k_at kcX4_ok 1 rfl) ?_
  refine W.eq (g2 := F0 m 4 ls []) rfl ?_
  refine lv_aload_n hx hb (k_at kcX4_ok 2 rfl) rfl (lv_at hl 0 rfl) ?_
  refine lv_sipush hx hb (k_at kcX4_ok 3 rfl) (ofI_16 (by decide) (by decide)) ?_
  refine fb_newa (kd := 1) hx hb hts hK hF hS (by omega) (by omega) (atype := .int) (ty := .int) rfl (kept_t 43 (by decide +kernel) rfl) hcI (q0 := (30, 0)) rfl (hno 192 (by decide) (by decide +kernel)) (a0 := (201, .inl fun k => Int32.ofInt (s0 30 0 k))) rfl (N := 201) (fun cA => z_int (fun _ => i0) cA 201) (by decide) (by decide) (by decide) (Nat.le_of_ble_eq_true rfl) (Nat.le_of_ble_eq_true rfl) (k_at kcX4_ok 4 rfl) (fun _ h => h) ?_
  intro H hF hS
  refine fb_put hx hb hts hK hin hF hS (by omega) hown 191 (29, 0) (by decide) rfl (fun k hk h => vc_u (Nat.lt_of_lt_of_le hk (by decide +kernel)) h (by decide +kernel)) (fs := [.null]) hop rfl inX4 tyX4 tyX4_ok nmX4 0 (by decide) (kept_t 174 (by decide +kernel) rfl) rfl rfl rfl rfl (Nat.le_of_ble_eq_true rfl) (k_at kcX4_ok 5 rfl) ?_
  intro H locs hF hS
  replace hF : FB (wC D cA base) vcC base s0 (opS op (29, 0) (some (.inr (4, [.ref (base + 192)])))) 193 H := hF
  refine W.eq (g2 := F0 m 13 ls []) rfl ?_
  exact fb_ret hx hb hr hlocks hF hS (fun k _ => fb_close rfl _) (k_at kcX4_ok 6 rfl) rfl rfl
set_option maxRecDepth 20000 in
theorem i_X5 (l : Launch) {D : va_G} {cA : Nat → ClassId} {base zq : Nat} {op : Nat × Nat → Option va_E} (hop : op (61, 0) = some (.inr (5, [.int (Int32.ofInt 0), .int (Int32.ofInt 0), .null, .null, .null]))) (hno : ∀ k, 695 ≤ k → k < nC → op (vcC k) = none) : iMet l (wC D cA base) vcC base zq yX5_init cX5_init 1 2 87 756 s1 op 695 694 [] s1 (opS op (61, 0) none) 782 := by
  refine i_intro (by decide) rfl (Nat.le_of_ble_eq_true rfl) (fun p e s m args below meth c ls hx hb hml hown hts hin hr hlocks hBK hsz hF hS hl => ?_)
  have hK := hBK.1
  have SC : CallFix p m c cX5_init 1 s args lw_kept RX5 := ⟨hx, hb, hml, hown, hts⟩
  have hown : s.vm.findClass RX5 = some m.cls := hown
  have hcI : s.vm.findClass ("[" ++ FieldType.int.toString) = some (cA 1) := (hK.1.2 0 _ rfl).2
  have hcI2 : s.vm.findClass (FieldType.array .int).toString = some (cA 1) := hcI
  have hcZ : s.vm.findClass ("[" ++ FieldType.boolean.toString) = some (cA 3) := (hK.1.2 2 _ rfl).2
  have hcO : s.vm.findClass ("[" ++ (FieldType.array .int).toString) = some (cA 5) := (hK.1.2 3 _ rfl).2
  refine lv_aload_n hx hb (k_at kcX5_ok 0 rfl) rfl (lv_at hl 0 rfl) ?_
  refine fb_obj SC (kept_t 315 (by decide +kernel) rfl) (kept_t 24 (by decide +kernel) rfl) (kept_t 25 (by decide +kernel) rfl) hl.1 ⟨(Nat.le_of_ble_eq_true rfl), (Nat.le_of_ble_eq_true rfl)⟩ (k_at kcX5_ok 1 rfl) ?_
  refine W.eq (g2 := F0 m 4 ls []) rfl ?_
  refine lv_aload_n hx hb (k_at kcX5_ok 2 rfl) rfl (lv_at hl 0 rfl) ?_
  refine lv_bipush hx hb (k_at kcX5_ok 3 rfl) (ofI_8 (by decide) (by decide)) ?_
  refine fb_newa (kd := 1) hx hb hts hK hF hS (by omega) (by omega) (atype := .int) (ty := .int) rfl (kept_t 43 (by decide +kernel) rfl) hcI (q0 := (62, 0)) rfl (hno 695 (by decide) (by decide +kernel)) (a0 := (84, .inl fun k => Int32.ofInt (s1 62 0 k))) rfl (N := 84) (fun cA => z_int (fun _ => i0) cA 84) (by decide) (by decide) (by decide) (Nat.le_of_ble_eq_true rfl) (Nat.le_of_ble_eq_true rfl) (k_at kcX5_ok 4 rfl) (fun _ h => h) ?_
  intro H hF hS
  refine fb_put hx hb hts hK hin hF hS (by omega) hown 694 (61, 0) (by decide) rfl (fun k hk h => vc_u (Nat.lt_of_lt_of_le hk (by decide +kernel)) h (by decide +kernel)) (fs := [.int (Int32.ofInt 0), .int (Int32.ofInt 0), .null, .null, .null]) hop rfl inX5 tyX5 tyX5_ok nmX5 2 (by decide) (kept_t 320 (by decide +kernel) rfl) rfl rfl rfl rfl (Nat.le_of_ble_eq_true rfl) (k_at kcX5_ok 5 rfl) ?_
  intro H locs hF hS
  replace hF : FB (wC D cA base) vcC base s1 (opS op (61, 0) (some (.inr (5, [.int (Int32.ofInt 0), .int (Int32.ofInt 0), .ref (base + 695), .null, .null])))) 696 H := hF
  refine W.eq (g2 := F0 m 12 ls []) rfl ?_
  refine lv_aload_n hx hb (k_at kcX5_ok 6 rfl) rfl (lv_at hl 0 rfl) ?_
  refine lv_bipush hx hb (k_at kcX5_ok 7 rfl) (ofI_8 (by decide) (by decide)) ?_
  refine fb_newa (kd := 1) hx hb hts hK hF hS (by omega) (by omega) (atype := .int) (ty := .int) rfl (kept_t 43 (by decide +kernel) rfl) hcI (q0 := (63, 0)) rfl ((opS_no hno (show offC 61 0 < 695 by decide +kernel) (Nat.le_refl _)) 696 (by decide) (by decide +kernel)) (a0 := (84, .inl fun k => Int32.ofInt (s1 63 0 k))) rfl (N := 84) (fun cA => z_int (fun _ => i0) cA 84) (by decide) (by decide) (by decide) (Nat.le_of_ble_eq_true rfl) (Nat.le_of_ble_eq_true rfl) (k_at kcX5_ok 8 rfl) (fun _ h => h) ?_
  intro H hF hS
  refine fb_put hx hb hts hK hin hF hS (by omega) hown 694 (61, 0) (by decide) rfl (fun k hk h => vc_u (Nat.lt_of_lt_of_le hk (by decide +kernel)) h (by decide +kernel)) (fs := [.int (Int32.ofInt 0), .int (Int32.ofInt 0), .ref (base + 695), .null, .null]) (opS_s _ _ _) rfl inX5 tyX5 tyX5_ok nmX5 3 (by decide) (kept_t 321 (by decide +kernel) rfl) rfl rfl rfl rfl (Nat.le_of_ble_eq_true rfl) (k_at kcX5_ok 9 rfl) ?_
  intro H locs hF hS
  rw [opS_opS] at hF
  replace hF : FB (wC D cA base) vcC base s1 (opS op (61, 0) (some (.inr (5, [.int (Int32.ofInt 0), .int (Int32.ofInt 0), .ref (base + 695), .ref (base + 696), .null])))) 697 H := hF
  refine W.eq (g2 := F0 m 20 ls []) rfl ?_
  refine lv_aload_n hx hb (k_at kcX5_ok 10 rfl) rfl (lv_at hl 0 rfl) ?_
  refine lv_bipush hx hb (k_at kcX5_ok 11 rfl) (ofI_8 (by decide) (by decide)) ?_
  refine lv_bipush hx hb (k_at kcX5_ok 12 rfl) (ofI_8 (by decide) (by decide)) ?_
  refine fb_multi hx hb hts (ao_mv (Vm.Alike.refl _) hBK.2.1) hF hS hown (kept_t 316 (by decide +kernel) rfl) (kept_t 43 (by decide +kernel) rfl) hcO hcI2 (N := 84) (M := 6) (by decide) (by decide) (by decide) (by decide) (by decide) (by decide) (q0 := (64, 0)) rfl ((opS_no hno (show offC 61 0 < 695 by decide +kernel) (Nat.le_refl _)) 697 (by decide) (by decide +kernel)) rfl (fun j hj => congrArg some (show base + (698 + j) = base + 697 + 1 + j by omega)) (fb_rows (r := 65) (i0 := 0) (by decide +kernel) (fun k h1 h2 => (opS_no hno (show offC 61 0 < 695 by decide +kernel) (Nat.le_refl _)) k (Nat.le_trans (by decide) h1) h2) (by decide +kernel) (fun j hj => by show Sum.inl (cA 1, 6, Sum.inl fun _ => Int32.ofInt 0) = _; rw [i0]; rfl)) (Nat.le_of_ble_eq_true rfl) (Nat.le_of_ble_eq_true rfl) (k_at kcX5_ok 13 rfl) ?_
  intro H hF hS
  refine fb_put hx hb hts hK hin hF hS (by omega) hown 694 (61, 0) (by decide) rfl (fun k hk h => vc_u (Nat.lt_of_lt_of_le hk (by decide +kernel)) h (by decide +kernel)) (fs := [.int (Int32.ofInt 0), .int (Int32.ofInt 0), .ref (base + 695), .ref (base + 696), .null]) (opS_s _ _ _) rfl inX5 tyX5 tyX5_ok nmX5 4 (by decide) (kept_t 322 (by decide +kernel) rfl) rfl rfl rfl rfl (Nat.le_of_ble_eq_true rfl) (k_at kcX5_ok 14 rfl) ?_
  intro H locs hF hS
  rw [opS_opS] at hF
  replace hF : FB (wC D cA base) vcC base s1 (opS op (61, 0) (some (.inr (5, [.int (Int32.ofInt 0), .int (Int32.ofInt 0), .ref (base + 695), .ref (base + 696), .ref (base + 697)])))) 782 H := hF
  refine W.eq (g2 := F0 m 32 ls []) rfl ?_
  exact fb_ret hx hb hr hlocks hF hS (fun k _ => fb_close rfl _) (k_at kcX5_ok 15 rfl) rfl rfl
set_option maxRecDepth 20000 in
theorem i_X2 (l : Launch) {D : va_G} {cA : Nat → ClassId} {base zq : Nat} {op : Nat × Nat → Option va_E} (hop : op (66, 0) = some (.inr (2, [.int (Int32.ofInt 0), .int (Int32.ofInt 0), .null, .null, .null]))) (hno : ∀ k, 783 ≤ k → k < nC → op (vcC k) = none) : iMet l (wC D cA base) vcC base zq yX2_init cX2_init 1 2 51 198 s1 op 783 782 [] s1 (opS op (66, 0) none) 834 := by
  refine i_intro (by decide) rfl (Nat.le_of_ble_eq_true rfl) (fun p e s m args below meth c ls hx hb hml hown hts hin hr hlocks hBK hsz hF hS hl => ?_)
  have hK := hBK.1
  have SC : CallFix p m c cX2_init 1 s args lw_kept RX2 := ⟨hx, hb, hml, hown, hts⟩
  have hown : s.vm.findClass RX2 = some m.cls := hown
  have hcI : s.vm.findClass ("[" ++ FieldType.int.toString) = some (cA 1) := (hK.1.2 0 _ rfl).2
  have hcI2 : s.vm.findClass (FieldType.array .int).toString = some (cA 1) := hcI
  have hcZ : s.vm.findClass ("[" ++ FieldType.boolean.toString) = some (cA 3) := (hK.1.2 2 _ rfl).2
  have hcO : s.vm.findClass ("[" ++ (FieldType.array .int).toString) = some (cA 5) := (hK.1.2 3 _ rfl).2
  refine lv_aload_n hx hb (k_at kcX2_ok 0 rfl) rfl (lv_at hl 0 rfl) ?_
  refine fb_obj SC (kept_t 339 (by decide +kernel) rfl) (kept_t 24 (by decide +kernel) rfl) (kept_t 25 (by decide +kernel) rfl) hl.1 ⟨(Nat.le_of_ble_eq_true rfl), (Nat.le_of_ble_eq_true rfl)⟩ (k_at kcX2_ok 1 rfl) ?_
  refine W.eq (g2 := F0 m 4 ls []) rfl ?_
  refine lv_aload_n hx hb (k_at kcX2_ok 2 rfl) rfl (lv_at hl 0 rfl) ?_
  refine lv_iconst hx hb (k_at kcX2_ok 3 rfl) rfl ?_
  refine fb_newa (kd := 1) hx hb hts hK hF hS (by omega) (by omega) (atype := .int) (ty := .int) rfl (kept_t 43 (by decide +kernel) rfl) hcI (q0 := (67, 0)) rfl (hno 783 (by decide) (by decide +kernel)) (a0 := (3, .inl fun k => Int32.ofInt (s1 67 0 k))) rfl (N := 3) (fun cA => z_int (fun _ => i0) cA 3) (by decide) (by decide) (by decide) (Nat.le_of_ble_eq_true rfl) (Nat.le_of_ble_eq_true rfl) (k_at kcX2_ok 4 rfl) (fun _ h => h) ?_
  intro H hF hS
  refine fb_put hx hb hts hK hin hF hS (by omega) hown 782 (66, 0) (by decide) rfl (fun k hk h => vc_u (Nat.lt_of_lt_of_le hk (by decide +kernel)) h (by decide +kernel)) (fs := [.int (Int32.ofInt 0), .int (Int32.ofInt 0), .null, .null, .null]) hop rfl inX2 tyX2 tyX2_ok nmX2 2 (by decide) (kept_t 344 (by decide +kernel) rfl) rfl rfl rfl rfl (Nat.le_of_ble_eq_true rfl) (k_at kcX2_ok 5 rfl) ?_
  intro H locs hF hS
  replace hF : FB (wC D cA base) vcC base s1 (opS op (66, 0) (some (.inr (2, [.int (Int32.ofInt 0), .int (Int32.ofInt 0), .ref (base + 783), .null, .null])))) 784 H := hF
  refine W.eq (g2 := F0 m 11 ls []) rfl ?_
  refine lv_aload_n hx hb (k_at kcX2_ok 6 rfl) rfl (lv_at hl 0 rfl) ?_
  refine lv_bipush hx hb (k_at kcX2_ok 7 rfl) (ofI_8 (by decide) (by decide)) ?_
  refine lv_iconst hx hb (k_at kcX2_ok 8 rfl) rfl ?_
  refine fb_multi hx hb hts (ao_mv (Vm.Alike.refl _) hBK.2.1) hF hS hown (kept_t 340 (by decide +kernel) rfl) (kept_t 43 (by decide +kernel) rfl) hcO hcI2 (N := 48) (M := 3) (by decide) (by decide) (by decide) (by decide) (by decide) (by decide) (q0 := (68, 0)) rfl ((opS_no hno (show offC 66 0 < 783 by decide +kernel) (Nat.le_refl _)) 784 (by decide) (by decide +kernel)) rfl (fun j hj => congrArg some (show base + (785 + j) = base + 784 + 1 + j by omega)) (fb_rows (r := 69) (i0 := 0) (by decide +kernel) (fun k h1 h2 => (opS_no hno (show offC 66 0 < 783 by decide +kernel) (Nat.le_refl _)) k (Nat.le_trans (by decide) h1) h2) (by decide +kernel) (fun j hj => by show Sum.inl (cA 1, 3, Sum.inl fun _ => Int32.ofInt 0) = _; rw [i0]; rfl)) (Nat.le_of_ble_eq_true rfl) (Nat.le_of_ble_eq_true rfl) (k_at kcX2_ok 9 rfl) ?_
  intro H hF hS
  refine fb_put hx hb hts hK hin hF hS (by omega) hown 782 (66, 0) (by decide) rfl (fun k hk h => vc_u (Nat.lt_of_lt_of_le hk (by decide +kernel)) h (by decide +kernel)) (fs := [.int (Int32.ofInt 0), .int (Int32.ofInt 0), .ref (base + 783), .null, .null]) (opS_s _ _ _) rfl inX2 tyX2 tyX2_ok nmX2 3 (by decide) (kept_t 345 (by decide +kernel) rfl) rfl rfl rfl rfl (Nat.le_of_ble_eq_true rfl) (k_at kcX2_ok 10 rfl) ?_
  intro H locs hF hS
  rw [opS_opS] at hF
  replace hF : FB (wC D cA base) vcC base s1 (opS op (66, 0) (some (.inr (2, [.int (Int32.ofInt 0), .int (Int32.ofInt 0), .ref (base + 783), .ref (base + 784), .null])))) 833 H := hF
  refine W.eq (g2 := F0 m 22 ls []) rfl ?_
  refine lv_aload_n hx hb (k_at kcX2_ok 11 rfl) rfl (lv_at hl 0 rfl) ?_
  refine lv_iconst hx hb (k_at kcX2_ok 12 rfl) rfl ?_
  refine fb_newa (kd := 1) hx hb hts hK hF hS (by omega) (by omega) (atype := .int) (ty := .int) rfl (kept_t 43 (by decide +kernel) rfl) hcI (q0 := (70, 0)) rfl ((opS_no hno (show offC 66 0 < 783 by decide +kernel) (Nat.le_refl _)) 833 (by decide) (by decide +kernel)) (a0 := (3, .inl fun k => Int32.ofInt (s1 70 0 k))) rfl (N := 3) (fun cA => z_int (fun _ => i0) cA 3) (by decide) (by decide) (by decide) (Nat.le_of_ble_eq_true rfl) (Nat.le_of_ble_eq_true rfl) (k_at kcX2_ok 13 rfl) (fun _ h => h) ?_
  intro H hF hS
  refine fb_put hx hb hts hK hin hF hS (by omega) hown 782 (66, 0) (by decide) rfl (fun k hk h => vc_u (Nat.lt_of_lt_of_le hk (by decide +kernel)) h (by decide +kernel)) (fs := [.int (Int32.ofInt 0), .int (Int32.ofInt 0), .ref (base + 783), .ref (base + 784), .null]) (opS_s _ _ _) rfl inX2 tyX2 tyX2_ok nmX2 4 (by decide) (kept_t 346 (by decide +kernel) rfl) rfl rfl rfl rfl (Nat.le_of_ble_eq_true rfl) (k_at kcX2_ok 14 rfl) ?_
  intro H locs hF hS
  rw [opS_opS] at hF
  replace hF : FB (wC D cA base) vcC base s1 (opS op (66, 0) (some (.inr (2, [.int (Int32.ofInt 0), .int (Int32.ofInt 0), .ref (base + 783), .ref (base + 784), .ref (base + 833)])))) 834 H := hF
  refine W.eq (g2 := F0 m 29 ls []) rfl ?_
  exact fb_ret hx hb hr hlocks hF hS (fun k _ => fb_close rfl _) (k_at kcX2_ok 15 rfl) rfl rfl
