/-! X0_below -/
def f_X0_below (N : Nat) (o0 : Nat) (v1 : Int) (M : Mem) : Option (Int × Mem) := gd (inR (M o0 0)) (gd (inR v1) (if v1 ≤ 0 then (some (0, st M o0 0 (l_rem ((1103515245 * (M o0 0)) + 12345) 2147483648))) else (gd (inR v1 ∧ v1 ≠ 0) (some (i_rem (i_div ((st M o0 0 (l_rem ((1103515245 * (M o0 0)) + 12345) 2147483648)) o0 0) 65536) v1, st M o0 0 (l_rem ((1103515245 * (M o0 0)) + 12345) 2147483648))))))
theorem F_X0_below : CalF yX0_below cX0_below 2 (some .int) 1 := ⟨w_509, w_8, by decide +kernel⟩
set_option maxRecDepth 100000 in
set_option maxHeartbeats 4000000 in
theorem c_X0_below {l : Launch} {g : GP} (hj : Inj g) {N : Nat} {M : Mem} {o0 : Nat} {v1 : Int} (h0 : kd o0 = 0) {r : Int × Mem} (hf : f_X0_below N o0 v1 M = some r) : Met l yX0_below (Cond.code yX0_below cX0_below 2 (some .int) :: TB) (rmK 0 0) (PreW g M [rI g o0, iI v1]) (PostI g r.1 r.2) 0 0 (Ad g) := by
  unfold f_X0_below at hf
  refine met_of (nL := 2) (cc := cX0_below) (M := M) (by decide +kernel) hj (Nat.le_of_ble_eq_true rfl) ?_
  intro p e s m below meth c ls C hr hlk hI hl
  have C : Cx g p s m _ c cX0_below 2 "LentGallery$Draws" := C
  have hl : lv_has ls 2 [(0, rI g o0), (1, iI v1)] := hl
  have hQ := ret_i (l := l) (e := e) (R := (rmK 0 0)) (below := below) (r := r) C hr hlk (nar_i _)
  generalize s.heap = H, ([] : List Loc) = locs at hI ⊢
  refine r_aload_n C hl 0 dX0_below_0 rfl rfl ?_
  refine r_ldc2 C (n := 1103515245) w_510 rfl dX0_below_1 ?_
  refine r_aload_n C hl 0 dX0_below_4 rfl rfl ?_
  refine g_0_0 C hI h0 w_180 dX0_below_5 ?_
  refine r_gd hf (fun q8_0 hf => ?_)
  refine r_i2l C q8_0 dX0_below_8 ?_
  refine r_lmul C dX0_below_9 ?_
  refine r_ldc2 C (n := 12345) w_511 rfl dX0_below_10 ?_
  refine r_ladd C dX0_below_13 ?_
  refine r_ldc2 C (n := 2147483648) w_512 rfl dX0_below_14 ?_
  refine r_lrem C (by decide) dX0_below_17 ?_
  refine r_l2i C dX0_below_18 ?_
  refine p_0_0 C hI h0 w_180 dX0_below_19 (fun H locs hI => ?_)
  refine r_iload_n C hl 1 dX0_below_22 rfl rfl ?_
  refine r_gd hf (fun q23_1 hf => ?_)
  refine r_if_le C q23_1 (tgt := 38) dX0_below_23 (by decide) hf (fun hf => ?_) (fun hf => ?_)
  · refine r_iconst C dX0_below_38 ?_
    exact r_iret hQ hf hI dX0_below_39
  · refine r_aload_n C hl 0 dX0_below_26 rfl rfl ?_
    refine g_0_0 C hI h0 w_180 dX0_below_27 ?_
    refine r_ldc C (n := 65536) w_513 rfl dX0_below_30 ?_
    refine r_idiv C (by decide) dX0_below_32 ?_
    refine r_iload_n C hl 1 dX0_below_33 rfl rfl ?_
    refine r_gd hf (fun q34_2 hf => ?_)
    refine r_irem C q34_2 dX0_below_34 ?_
    refine r_goto C (tgt := 39) dX0_below_35 (by decide) ?_
    exact r_iret hQ hf hI dX0_below_39
/-! X1_hear -/
def f_X1_hear (N : Nat) (o0 : Nat) (v1 : Int) (v2 : Int) (v3 : Int) (M : Mem) : Option (Int × Mem) := gd (inR (M o0 3)) (if (M o0 3) < 0 then (some (0, M)) else (if (M o0 3) < 8 then (gd (0 ≤ (M o0 3) ∧ (M o0 3) < 8) (gd (0 ≤ ((st M (ch o0 0) (M o0 3).toNat v1) o0 3) ∧ ((st M (ch o0 0) (M o0 3).toNat v1) o0 3) < 8) (gd (inR v3) (if v3 = 0 then (gd (0 ≤ ((st (st M (ch o0 0) (M o0 3).toNat v1) (ch o0 1) ((st M (ch o0 0) (M o0 3).toNat v1) o0 3).toNat v2) o0 3) ∧ ((st (st M (ch o0 0) (M o0 3).toNat v1) (ch o0 1) ((st M (ch o0 0) (M o0 3).toNat v1) o0 3).toNat v2) o0 3) < 8) (some (1, st (st (st (st M (ch o0 0) (M o0 3).toNat v1) (ch o0 1) ((st M (ch o0 0) (M o0 3).toNat v1) o0 3).toNat v2) (ch o0 2) ((st (st M (ch o0 0) (M o0 3).toNat v1) (ch o0 1) ((st M (ch o0 0) (M o0 3).toNat v1) o0 3).toNat v2) o0 3).toNat 0) o0 3 (((st (st (st M (ch o0 0) (M o0 3).toNat v1) (ch o0 1) ((st M (ch o0 0) (M o0 3).toNat v1) o0 3).toNat v2) (ch o0 2) ((st (st M (ch o0 0) (M o0 3).toNat v1) (ch o0 1) ((st M (ch o0 0) (M o0 3).toNat v1) o0 3).toNat v2) o0 3).toNat 0) o0 3) + 1)))) else (gd (0 ≤ ((st (st M (ch o0 0) (M o0 3).toNat v1) (ch o0 1) ((st M (ch o0 0) (M o0 3).toNat v1) o0 3).toNat v2) o0 3) ∧ ((st (st M (ch o0 0) (M o0 3).toNat v1) (ch o0 1) ((st M (ch o0 0) (M o0 3).toNat v1) o0 3).toNat v2) o0 3) < 8) (some (1, st (st (st (st M (ch o0 0) (M o0 3).toNat v1) (ch o0 1) ((st M (ch o0 0) (M o0 3).toNat v1) o0 3).toNat v2) (ch o0 2) ((st (st M (ch o0 0) (M o0 3).toNat v1) (ch o0 1) ((st M (ch o0 0) (M o0 3).toNat v1) o0 3).toNat v2) o0 3).toNat 1) o0 3 (((st (st (st M (ch o0 0) (M o0 3).toNat v1) (ch o0 1) ((st M (ch o0 0) (M o0 3).toNat v1) o0 3).toNat v2) (ch o0 2) ((st (st M (ch o0 0) (M o0 3).toNat v1) (ch o0 1) ((st M (ch o0 0) (M o0 3).toNat v1) o0 3).toNat v2) o0 3).toNat 1) o0 3) + 1)))))))) else (some (0, M))))
theorem F_X1_hear : CalF yX1_hear cX1_hear 4 (some .boolean) 3 := ⟨w_491, w_5, by decide +kernel⟩
set_option maxRecDepth 100000 in
set_option maxHeartbeats 4000000 in
theorem c_X1_hear {l : Launch} {g : GP} (hj : Inj g) {N : Nat} {M : Mem} {o0 : Nat} {v1 : Int} {v2 : Int} {v3 : Int} (h0 : kd o0 = 1) {r : Int × Mem} (hf : f_X1_hear N o0 v1 v2 v3 M = some r) : Met l yX1_hear (Cond.code yX1_hear cX1_hear 4 (some .boolean) :: TB) (rmK 0 0) (PreW g M [rI g o0, iI v1, iI v2, iI v3]) (PostI g r.1 r.2) 0 0 (Ad g) := by
  unfold f_X1_hear at hf
  refine met_of (nL := 4) (cc := cX1_hear) (M := M) (by decide +kernel) hj (Nat.le_of_ble_eq_true rfl) ?_
  intro p e s m below meth c ls C hr hlk hI hl
  have C : Cx g p s m _ c cX1_hear 4 "LentGallery$Knocks" := C
  have hl : lv_has ls 4 [(0, rI g o0), (1, iI v1), (2, iI v2), (3, iI v3)] := hl
  have hQ := ret_z (l := l) (e := e) (R := (rmK 0 0)) (below := below) (r := r) C hr hlk
  generalize s.heap = H, ([] : List Loc) = locs at hI ⊢
  refine r_aload_n C hl 0 dX1_hear_0 rfl rfl ?_
  refine g_1_3 C hI h0 w_114 dX1_hear_1 ?_
  refine r_gd hf (fun q4_0 hf => ?_)
  refine r_if_lt C q4_0 (tgt := 16) dX1_hear_4 (by decide) hf (fun hf => ?_) (fun hf => ?_)
  · refine r_iconst C dX1_hear_16 ?_
    exact r_zret hQ (by decide) hf hI dX1_hear_17
  · refine r_aload_n C hl 0 dX1_hear_7 rfl rfl ?_
    refine g_1_3 C hI h0 w_114 dX1_hear_8 ?_
    refine r_bipush C dX1_hear_11 rfl ?_
    refine r_ic_lt C q4_0 (by decide) (tgt := 18) dX1_hear_13 (by decide) hf (fun hf => ?_) (fun hf => ?_)
    · refine r_aload_n C hl 0 dX1_hear_18 rfl rfl ?_
      refine g_1_0 C hI h0 w_111 dX1_hear_19 ?_
      refine r_aload_n C hl 0 dX1_hear_22 rfl rfl ?_
      refine g_1_3 C hI h0 w_114 dX1_hear_23 ?_
      refine r_iload_n C hl 1 dX1_hear_26 rfl rfl ?_
      refine r_gd hf (fun q27_1 hf => ?_)
      refine r_iast C hI 8 (n := 8) (k_1_0 h0) (by decide) rfl q27_1 dX1_hear_27 (fun H locs hI => ?_)
      refine r_aload_n C hl 0 dX1_hear_28 rfl rfl ?_
      refine g_1_1 C hI h0 w_112 dX1_hear_29 ?_
      refine r_aload_n C hl 0 dX1_hear_32 rfl rfl ?_
      refine g_1_3 C hI h0 w_114 dX1_hear_33 ?_
      refine r_iload_n C hl 2 dX1_hear_36 rfl rfl ?_
      refine r_gd hf (fun q37_2 hf => ?_)
      refine r_iast C hI 8 (n := 8) (k_1_1 h0) (by decide) rfl q37_2 dX1_hear_37 (fun H locs hI => ?_)
      refine r_aload_n C hl 0 dX1_hear_38 rfl rfl ?_
      refine g_1_2 C hI h0 w_113 dX1_hear_39 ?_
      refine r_aload_n C hl 0 dX1_hear_42 rfl rfl ?_
      refine g_1_3 C hI h0 w_114 dX1_hear_43 ?_
      refine r_iload_n C hl 3 dX1_hear_46 rfl rfl ?_
      refine r_gd hf (fun q47_3 hf => ?_)
      refine r_if_eq C q47_3 (tgt := 54) dX1_hear_47 (by decide) hf (fun hf => ?_) (fun hf => ?_)
      · refine r_iconst C dX1_hear_54 ?_
        refine r_gd hf (fun q55_4 hf => ?_)
        refine r_iast C hI 8 (n := 8) (k_1_2 h0) (by decide) rfl q55_4 dX1_hear_55 (fun H locs hI => ?_)
        refine r_aload_n C hl 0 dX1_hear_56 rfl rfl ?_
        refine r_dup C dX1_hear_57 rfl ?_
        refine g_1_3 C hI h0 w_114 dX1_hear_58 ?_
        refine r_iconst C dX1_hear_61 ?_
        refine r_iadd C dX1_hear_62 ?_
        refine p_1_3 C hI h0 w_114 dX1_hear_63 (fun H locs hI => ?_)
        refine r_iconst C dX1_hear_66 ?_
        exact r_zret hQ (by decide) hf hI dX1_hear_67
      · refine r_iconst C dX1_hear_50 ?_
        refine r_goto C (tgt := 55) dX1_hear_51 (by decide) ?_
        refine r_gd hf (fun q55_4 hf => ?_)
        refine r_iast C hI 8 (n := 8) (k_1_2 h0) (by decide) rfl q55_4 dX1_hear_55 (fun H locs hI => ?_)
        refine r_aload_n C hl 0 dX1_hear_56 rfl rfl ?_
        refine r_dup C dX1_hear_57 rfl ?_
        refine g_1_3 C hI h0 w_114 dX1_hear_58 ?_
        refine r_iconst C dX1_hear_61 ?_
        refine r_iadd C dX1_hear_62 ?_
        refine p_1_3 C hI h0 w_114 dX1_hear_63 (fun H locs hI => ?_)
        refine r_iconst C dX1_hear_66 ?_
        exact r_zret hQ (by decide) hf hI dX1_hear_67
    · refine r_iconst C dX1_hear_16 ?_
      exact r_zret hQ (by decide) hf hI dX1_hear_17
/-! X1_copyFrom -/
def f_X1_copyFrom (N : Nat) (o0 : Nat) (o1 : Nat) (M : Mem) : Option (Mem) := some (st (cpy (cpy (cpy M (ch o1 0) (ch o0 0) 8) (ch o1 1) (ch o0 1) 8) (ch o1 2) (ch o0 2) 8) o0 3 ((cpy (cpy (cpy M (ch o1 0) (ch o0 0) 8) (ch o1 1) (ch o0 1) 8) (ch o1 2) (ch o0 2) 8) o1 3))
theorem F_X1_copyFrom : CalF yX1_copyFrom cX1_copyFrom 2 none 1 := ⟨w_522, w_5, by decide +kernel⟩
set_option maxRecDepth 100000 in
set_option maxHeartbeats 4000000 in
theorem c_X1_copyFrom {l : Launch} {g : GP} (hj : Inj g) {N : Nat} {M : Mem} {o0 : Nat} {o1 : Nat} (h0 : kd o0 = 1) (h1 : kd o1 = 1) {r : Mem} (hf : f_X1_copyFrom N o0 o1 M = some r) : Met l yX1_copyFrom (Cond.code yX1_copyFrom cX1_copyFrom 2 none :: TB) (rmK 1 40) (PreW g M [rI g o0, rI g o1]) (PostV g r) 0 0 (Ad g) := by
  unfold f_X1_copyFrom at hf
  refine met_of (nL := 2) (cc := cX1_copyFrom) (M := M) (by decide +kernel) hj (Nat.le_of_ble_eq_true rfl) ?_
  intro p e s m below meth c ls C hr hlk hI hl
  have C : Cx g p s m _ c cX1_copyFrom 2 "LentGallery$Knocks" := C
  have hl : lv_has ls 2 [(0, rI g o0), (1, rI g o1)] := hl
  have hQ := ret_v (l := l) (e := e) (R := (rmK 1 40)) (below := below) (r := r) C hr hlk
  generalize s.heap = H, ([] : List Loc) = locs at hI ⊢
  refine r_aload_n C hl 1 dX1_copyFrom_0 rfl rfl ?_
  refine g_1_0 C hI h1 w_111 dX1_copyFrom_1 ?_
  refine r_iconst C dX1_copyFrom_4 ?_
  refine r_aload_n C hl 0 dX1_copyFrom_5 rfl rfl ?_
  refine g_1_0 C hI h0 w_111 dX1_copyFrom_6 ?_
  refine r_iconst C dX1_copyFrom_9 ?_
  refine r_bipush C dX1_copyFrom_10 rfl ?_
  refine r_acopy C hI hl.1 (n1 := 8) (n2 := 8) 8 rfl (k_1_0 h1) (k_1_0 h0) (by decide) (by decide) (by decide) (by decide) w_523 w_301 w_300 w_11 (Nat.le_of_ble_eq_true rfl) (Nat.le_of_ble_eq_true rfl) dX1_copyFrom_12 (fun H locs hI => ?_)
  refine r_aload_n C hl 1 dX1_copyFrom_15 rfl rfl ?_
  refine g_1_1 C hI h1 w_112 dX1_copyFrom_16 ?_
  refine r_iconst C dX1_copyFrom_19 ?_
  refine r_aload_n C hl 0 dX1_copyFrom_20 rfl rfl ?_
  refine g_1_1 C hI h0 w_112 dX1_copyFrom_21 ?_
  refine r_iconst C dX1_copyFrom_24 ?_
  refine r_bipush C dX1_copyFrom_25 rfl ?_
  refine r_acopy C hI hl.1 (n1 := 8) (n2 := 8) 8 rfl (k_1_1 h1) (k_1_1 h0) (by decide) (by decide) (by decide) (by decide) w_523 w_301 w_300 w_11 (Nat.le_of_ble_eq_true rfl) (Nat.le_of_ble_eq_true rfl) dX1_copyFrom_27 (fun H locs hI => ?_)
  refine r_aload_n C hl 1 dX1_copyFrom_30 rfl rfl ?_
  refine g_1_2 C hI h1 w_113 dX1_copyFrom_31 ?_
  refine r_iconst C dX1_copyFrom_34 ?_
  refine r_aload_n C hl 0 dX1_copyFrom_35 rfl rfl ?_
  refine g_1_2 C hI h0 w_113 dX1_copyFrom_36 ?_
  refine r_iconst C dX1_copyFrom_39 ?_
  refine r_bipush C dX1_copyFrom_40 rfl ?_
  refine r_acopy C hI hl.1 (n1 := 8) (n2 := 8) 8 rfl (k_1_2 h1) (k_1_2 h0) (by decide) (by decide) (by decide) (by decide) w_523 w_301 w_300 w_11 (Nat.le_of_ble_eq_true rfl) (Nat.le_of_ble_eq_true rfl) dX1_copyFrom_42 (fun H locs hI => ?_)
  refine r_aload_n C hl 0 dX1_copyFrom_45 rfl rfl ?_
  refine r_aload_n C hl 1 dX1_copyFrom_46 rfl rfl ?_
  refine g_1_3 C hI h1 w_114 dX1_copyFrom_47 ?_
  refine p_1_3 C hI h0 w_114 dX1_copyFrom_50 (fun H locs hI => ?_)
  exact r_vret hQ hf hI dX1_copyFrom_53
/-! J9_max_7cf53 -/
def f_J9_max_7cf53 (N : Nat) (v0 : Int) (v1 : Int) (M : Mem) : Option (Int × Mem) := gd (inR v0) (gd (inR v1) (if v0 < v1 then (some (v1, M)) else (some (v0, M))))
theorem F_J9_max_7cf53 : CalF yJ9_max_7cf53 cJ9_max_7cf53 2 (some .int) 2 := ⟨w_293, w_10, by decide +kernel⟩
set_option maxRecDepth 100000 in
set_option maxHeartbeats 4000000 in
theorem c_J9_max_7cf53 {l : Launch} {g : GP} (hj : Inj g) {N : Nat} {M : Mem} {v0 : Int} {v1 : Int} {r : Int × Mem} (hf : f_J9_max_7cf53 N v0 v1 M = some r) : Met l yJ9_max_7cf53 (Cond.code yJ9_max_7cf53 cJ9_max_7cf53 2 (some .int) :: TB) (rmK 0 0) (PreW g M [iI v0, iI v1]) (PostI g r.1 r.2) 0 0 (Ad g) := by
  unfold f_J9_max_7cf53 at hf
  refine met_of (nL := 2) (cc := cJ9_max_7cf53) (M := M) (by decide +kernel) hj (Nat.le_of_ble_eq_true rfl) ?_
  intro p e s m below meth c ls C hr hlk hI hl
  have C : Cx g p s m _ c cJ9_max_7cf53 2 "java/lang/Math" := C
  have hl : lv_has ls 2 [(0, iI v0), (1, iI v1)] := hl
  have hQ := ret_i (l := l) (e := e) (R := (rmK 0 0)) (below := below) (r := r) C hr hlk (nar_i _)
  generalize s.heap = H, ([] : List Loc) = locs at hI ⊢
  refine r_iload_n C hl 0 dJ9_max_7cf53_0 rfl rfl ?_
  refine r_iload_n C hl 1 dJ9_max_7cf53_1 rfl rfl ?_
  refine r_gd hf (fun q2_0 hf => ?_)
  refine r_gd hf (fun q2_1 hf => ?_)
  refine r_ic_lt C q2_0 q2_1 (tgt := 9) dJ9_max_7cf53_2 (by decide) hf (fun hf => ?_) (fun hf => ?_)
  · refine r_iload_n C hl 1 dJ9_max_7cf53_9 rfl rfl ?_
    exact r_iret hQ hf hI dJ9_max_7cf53_10
  · refine r_iload_n C hl 0 dJ9_max_7cf53_5 rfl rfl ?_
    refine r_goto C (tgt := 10) dJ9_max_7cf53_6 (by decide) ?_
    exact r_iret hQ hf hI dJ9_max_7cf53_10
/-! X1_lastDay -/
def f_X1_lastDay_4 (N : Nat) (o0 : Nat) : Nat → Int → Int → Mem → Option (Int × Mem)
  | 0, _, _, _ => none
  | n + 1, v1, v2, M => gd (inR v2) (gd (inR (M o0 3)) (if (M o0 3) ≤ v2 then (some (v1, M)) else (if 8 ≤ v2 then (some (v1, M)) else (gd (0 ≤ v2 ∧ v2 < 8) (bnd (f_J9_max_7cf53 N v1 (M (ch o0 1) v2.toNat) M) (fun r25 M25 => f_X1_lastDay_4 N o0 n r25 (v2 + 1) M25))))))
def f_X1_lastDay (N : Nat) (o0 : Nat) (M : Mem) : Option (Int × Mem) := f_X1_lastDay_4 N o0 N 0 0 M
theorem F_X1_lastDay : CalF yX1_lastDay cX1_lastDay 3 (some .int) 0 := ⟨w_290, w_5, by decide +kernel⟩
set_option maxRecDepth 100000 in
set_option maxHeartbeats 4000000 in
theorem t_X1_lastDay_4 {g : GP} {p : Program} {l : Launch} {e : Env} {s : State} {m : MethodId} {args : Array Value} {below : List Frame} {meth : Method} {c : Code} {Q : State → Prop} {N : Nat} {o0 : Nat} (h0 : kd o0 = 1) (C : Cx g p s m args c cX1_lastDay 3 "LentGallery$Knocks") {r : Int × Mem} (hQ : RetI g p l e (rmK 1 21) s m args below meth c cX1_lastDay r Q) : ∀ (n : Nat) (v1 v2 : Int) (M : Mem) (H : Heap) (locs : List Loc) (ls : Array Slot), f_X1_lastDay_4 N o0 n v1 v2 M = some r → Inv g s M H locs → lv_has ls 3 [(0, rI g o0), (1, iI v1), (2, iI v2)] → W p l e (rmK 1 21) s m args below meth c H locs 0 0 Q (F0 m 4 ls []) := by
  intro n
  induction n with
  | zero =>
    intro v1 v2 M H locs ls hf hI hl
    cases hf
  | succ n ih =>
    intro v1 v2 M H locs ls hf hI hl
    rw [f_X1_lastDay_4] at hf
    refine r_iload_n C hl 2 dX1_lastDay_4 rfl rfl ?_
    refine r_aload_n C hl 0 dX1_lastDay_5 rfl rfl ?_
    refine g_1_3 C hI h0 w_114 dX1_lastDay_6 ?_
    refine r_gd hf (fun q9_0 hf => ?_)
    refine r_gd hf (fun q9_1 hf => ?_)
    refine r_ic_ge C q9_0 q9_1 (tgt := 35) dX1_lastDay_9 (by decide) hf (fun hf => ?_) (fun hf => ?_)
    · refine r_iload_n C hl 1 dX1_lastDay_35 rfl rfl ?_
      exact r_iret hQ hf hI dX1_lastDay_36
    · refine r_iload_n C hl 2 dX1_lastDay_12 rfl rfl ?_
      refine r_bipush C dX1_lastDay_13 rfl ?_
      refine r_ic_ge C q9_0 (by decide) (tgt := 35) dX1_lastDay_15 (by decide) hf (fun hf => ?_) (fun hf => ?_)
      · refine r_iload_n C hl 1 dX1_lastDay_35 rfl rfl ?_
        exact r_iret hQ hf hI dX1_lastDay_36
      · refine r_iload_n C hl 1 dX1_lastDay_18 rfl rfl ?_
        refine r_aload_n C hl 0 dX1_lastDay_19 rfl rfl ?_
        refine g_1_1 C hI h0 w_112 dX1_lastDay_20 ?_
        refine r_iload_n C hl 2 dX1_lastDay_23 rfl rfl ?_
        refine r_gd hf (fun q24_2 hf => ?_)
        refine r_iald C hI 8 (n := 8) (k_1_1 h0) (by decide) rfl q24_2 dX1_lastDay_24 ?_
        refine r_calli (rest := []) hI hf (fun r M' h => run_S C hI F_J9_max_7cf53 w_292 w_291 ⟨⟨Nat.le_of_ble_eq_true rfl, Nat.le_of_ble_eq_true rfl⟩, Nat.le_of_ble_eq_true rfl, Nat.le_of_ble_eq_true rfl⟩ hl dX1_lastDay_25 [iI v1, iI (M (ch o0 1) v2.toNat)] rfl rfl (Nat.le_of_ble_eq_true rfl) (c_J9_max_7cf53 C.2.2.2.2.2.2 h)) (fun r25 M25 H locs hI hf => ?_)
        refine r_istore_n C hl (lv' := [(1, iI r25), (0, rI g o0), (2, iI v2)]) dX1_lastDay_28 rfl (Nat.le_of_ble_eq_true rfl) rfl (fun ls hl => ?_)
        refine r_iinc C hl (lv' := [(2, iI (v2 + 1)), (1, iI r25), (0, rI g o0)]) 2 dX1_lastDay_29 rfl (Nat.le_of_ble_eq_true rfl) rfl (fun ls hl => ?_)
        refine r_goto C (tgt := 4) dX1_lastDay_32 (by decide) ?_
        exact ih _ _ _ _ _ _ hf hI (lv_sub hl [2, 1, 0] rfl)
set_option maxRecDepth 100000 in
set_option maxHeartbeats 4000000 in
theorem c_X1_lastDay {l : Launch} {g : GP} (hj : Inj g) {N : Nat} {M : Mem} {o0 : Nat} (h0 : kd o0 = 1) {r : Int × Mem} (hf : f_X1_lastDay N o0 M = some r) : Met l yX1_lastDay (Cond.code yX1_lastDay cX1_lastDay 3 (some .int) :: TB) (rmK 1 21) (PreW g M [rI g o0]) (PostI g r.1 r.2) 0 0 (Ad g) := by
  unfold f_X1_lastDay at hf
  refine met_of (nL := 3) (cc := cX1_lastDay) (M := M) (by decide +kernel) hj (Nat.le_of_ble_eq_true rfl) ?_
  intro p e s m below meth c ls C hr hlk hI hl
  have C : Cx g p s m _ c cX1_lastDay 3 "LentGallery$Knocks" := C
  have hl : lv_has ls 3 [(0, rI g o0)] := hl
  have hQ := ret_i (l := l) (e := e) (R := (rmK 1 21)) (below := below) (r := r) C hr hlk (nar_i _)
  generalize s.heap = H, ([] : List Loc) = locs at hI ⊢
  refine r_iconst C dX1_lastDay_0 ?_
  refine r_istore_n C hl (lv' := [(1, iI 0), (0, rI g o0)]) dX1_lastDay_1 rfl (Nat.le_of_ble_eq_true rfl) rfl (fun ls hl => ?_)
  refine r_iconst C dX1_lastDay_2 ?_
  refine r_istore_n C hl (lv' := [(2, iI 0), (1, iI 0), (0, rI g o0)]) dX1_lastDay_3 rfl (Nat.le_of_ble_eq_true rfl) rfl (fun ls hl => ?_)
  exact t_X1_lastDay_4 h0 C hQ _ _ _ _ _ _ _ hf hI (lv_sub hl [2, 1, 0] rfl)
/-! X1_agreeWith -/
def f_X1_agreeWith_52 (N : Nat) (o0 : Nat) (o1 : Nat) (k2 : Int → Mem → Option (Int × Mem)) (v2 : Int) (s0 : Int) (M : Mem) : Option (Int × Mem) := gd (0 ≤ v2 ∧ v2 < 8) (gd (inR s0) (gd (inR (M (ch o0 2) v2.toNat)) (if s0 = (M (ch o0 2) v2.toNat) then (k2 (v2 + 1) M) else (some (0, M)))))
def f_X1_agreeWith_2 (N : Nat) (o0 : Nat) (o1 : Nat) : Nat → Int → Mem → Option (Int × Mem)
  | 0, _, _ => none
  | n + 1, v2, M => gd (inR v2) (gd (inR (M o0 3)) (if (M o0 3) ≤ v2 then (some (1, M)) else (if 8 ≤ v2 then (some (1, M)) else (gd (0 ≤ v2 ∧ v2 < 8) (gd (inR (M (ch o0 0) v2.toNat)) (if (M (ch o0 0) v2.toNat) < 0 then (some (0, M)) else (if (M (ch o0 0) v2.toNat) < (al o1) then (gd (0 ≤ (M (ch o0 0) v2.toNat) ∧ (M (ch o0 0) v2.toNat) < al o1) (gd (inR (M (ch o0 1) v2.toNat)) (gd (inR (M o1 (M (ch o0 0) v2.toNat).toNat)) (if (M o1 (M (ch o0 0) v2.toNat).toNat) ≤ (M (ch o0 1) v2.toNat) then (f_X1_agreeWith_52 N o0 o1 (f_X1_agreeWith_2 N o0 o1 n) v2 0 M) else (f_X1_agreeWith_52 N o0 o1 (f_X1_agreeWith_2 N o0 o1 n) v2 1 M))))) else (some (0, M)))))))))
def f_X1_agreeWith (N : Nat) (o0 : Nat) (o1 : Nat) (M : Mem) : Option (Int × Mem) := f_X1_agreeWith_2 N o0 o1 N 0 M
theorem F_X1_agreeWith : CalF yX1_agreeWith cX1_agreeWith 5 (some .boolean) 1 := ⟨w_319, w_5, by decide +kernel⟩
set_option maxRecDepth 100000 in
set_option maxHeartbeats 4000000 in
theorem t_X1_agreeWith_52 {g : GP} {p : Program} {l : Launch} {e : Env} {s : State} {m : MethodId} {args : Array Value} {below : List Frame} {meth : Method} {c : Code} {Q : State → Prop} {N : Nat} {o0 : Nat} {o1 : Nat} (h0 : kd o0 = 1) (h1 : isA o1) (C : Cx g p s m args c cX1_agreeWith 5 "LentGallery$Knocks") {r : Int × Mem} (hQ : RetZ g p l e (rmK 0 0) s m args below meth c cX1_agreeWith r Q) {k2 : Int → Mem → Option (Int × Mem)} (hk2 : ∀ (v2 : Int) (M : Mem) (H : Heap) (locs : List Loc) (ls : Array Slot), k2 v2 M = some r → Inv g s M H locs → lv_has ls 5 [(0, rI g o0), (1, rI g o1), (2, iI v2)] → W p l e (rmK 0 0) s m args below meth c H locs 0 0 Q (F0 m 2 ls [])) : ∀ (v2 s0 : Int) (M : Mem) (H : Heap) (locs : List Loc) (ls : Array Slot), f_X1_agreeWith_52 N o0 o1 k2 v2 s0 M = some r → Inv g s M H locs → lv_has ls 5 [(0, rI g o0), (1, rI g o1), (2, iI v2)] → W p l e (rmK 0 0) s m args below meth c H locs 0 0 Q (F0 m 52 ls [iI s0]) := by
  intro v2 s0 M H locs ls hf hI hl
  unfold f_X1_agreeWith_52 at hf
  refine r_istore C hl (lv' := [(4, iI s0), (0, rI g o0), (1, rI g o1), (2, iI v2)]) dX1_agreeWith_52 (Nat.le_of_ble_eq_true rfl) rfl (fun ls hl => ?_)
  refine r_iload C hl 0 dX1_agreeWith_54 rfl ?_
  refine r_aload_n C hl 1 dX1_agreeWith_56 rfl rfl ?_
  refine g_1_2 C hI h0 w_113 dX1_agreeWith_57 ?_
  refine r_iload_n C hl 3 dX1_agreeWith_60 rfl rfl ?_
  refine r_gd hf (fun q61_0 hf => ?_)
  refine r_iald C hI 8 (n := 8) (k_1_2 h0) (by decide) rfl q61_0 dX1_agreeWith_61 ?_
  refine r_gd hf (fun q62_1 hf => ?_)
  refine r_gd hf (fun q62_2 hf => ?_)
  refine r_ic_eq C q62_1 q62_2 (tgt := 67) dX1_agreeWith_62 (by decide) hf (fun hf => ?_) (fun hf => ?_)
  · refine r_iinc C hl (lv' := [(2, iI (v2 + 1)), (4, iI s0), (0, rI g o0), (1, rI g o1)]) 3 dX1_agreeWith_67 rfl (Nat.le_of_ble_eq_true rfl) rfl (fun ls hl => ?_)
    refine r_goto C (tgt := 2) dX1_agreeWith_70 (by decide) ?_
    exact hk2 _ _ _ _ _ hf hI (lv_sub hl [2, 3, 0] rfl)
  · refine r_iconst C dX1_agreeWith_65 ?_
    exact r_zret hQ (by decide) hf hI dX1_agreeWith_66
set_option maxRecDepth 100000 in
set_option maxHeartbeats 4000000 in
theorem t_X1_agreeWith_2 {g : GP} {p : Program} {l : Launch} {e : Env} {s : State} {m : MethodId} {args : Array Value} {below : List Frame} {meth : Method} {c : Code} {Q : State → Prop} {N : Nat} {o0 : Nat} {o1 : Nat} (h0 : kd o0 = 1) (h1 : isA o1) (C : Cx g p s m args c cX1_agreeWith 5 "LentGallery$Knocks") {r : Int × Mem} (hQ : RetZ g p l e (rmK 0 0) s m args below meth c cX1_agreeWith r Q) : ∀ (n : Nat) (v2 : Int) (M : Mem) (H : Heap) (locs : List Loc) (ls : Array Slot), f_X1_agreeWith_2 N o0 o1 n v2 M = some r → Inv g s M H locs → lv_has ls 5 [(0, rI g o0), (1, rI g o1), (2, iI v2)] → W p l e (rmK 0 0) s m args below meth c H locs 0 0 Q (F0 m 2 ls []) := by
  intro n
  induction n with
  | zero =>
    intro v2 M H locs ls hf hI hl
    cases hf
  | succ n ih =>
    intro v2 M H locs ls hf hI hl
    rw [f_X1_agreeWith_2] at hf
    refine r_iload_n C hl 2 dX1_agreeWith_2 rfl rfl ?_
    refine r_aload_n C hl 0 dX1_agreeWith_3 rfl rfl ?_
    refine g_1_3 C hI h0 w_114 dX1_agreeWith_4 ?_
    refine r_gd hf (fun q7_0 hf => ?_)
    refine r_gd hf (fun q7_1 hf => ?_)
    refine r_ic_ge C q7_0 q7_1 (tgt := 73) dX1_agreeWith_7 (by decide) hf (fun hf => ?_) (fun hf => ?_)
    · refine r_iconst C dX1_agreeWith_73 ?_
      exact r_zret hQ (by decide) hf hI dX1_agreeWith_74
    · refine r_iload_n C hl 2 dX1_agreeWith_10 rfl rfl ?_
      refine r_bipush C dX1_agreeWith_11 rfl ?_
      refine r_ic_ge C q7_0 (by decide) (tgt := 73) dX1_agreeWith_13 (by decide) hf (fun hf => ?_) (fun hf => ?_)
      · refine r_iconst C dX1_agreeWith_73 ?_
        exact r_zret hQ (by decide) hf hI dX1_agreeWith_74
      · refine r_aload_n C hl 0 dX1_agreeWith_16 rfl rfl ?_
        refine g_1_0 C hI h0 w_111 dX1_agreeWith_17 ?_
        refine r_iload_n C hl 2 dX1_agreeWith_20 rfl rfl ?_
        refine r_gd hf (fun q21_2 hf => ?_)
        refine r_iald C hI 8 (n := 8) (k_1_0 h0) (by decide) rfl q21_2 dX1_agreeWith_21 ?_
        refine r_istore_n C hl (lv' := [(3, iI (M (ch o0 0) v2.toNat)), (0, rI g o0), (1, rI g o1), (2, iI v2)]) dX1_agreeWith_22 rfl (Nat.le_of_ble_eq_true rfl) rfl (fun ls hl => ?_)
        refine r_iload_n C hl 0 dX1_agreeWith_23 rfl rfl ?_
        refine r_gd hf (fun q24_3 hf => ?_)
        refine r_if_lt C q24_3 (tgt := 33) dX1_agreeWith_24 (by decide) hf (fun hf => ?_) (fun hf => ?_)
        · refine r_iconst C dX1_agreeWith_33 ?_
          exact r_zret hQ (by decide) hf hI dX1_agreeWith_34
        · refine r_iload_n C hl 0 dX1_agreeWith_27 rfl rfl ?_
          refine r_aload_n C hl 2 dX1_agreeWith_28 rfl rfl ?_
          refine r_alen C hI (al o1) (isA_eq h1) (by omega) rfl dX1_agreeWith_29 ?_
          refine r_ic_lt C q24_3 (inR_al h1) (tgt := 35) dX1_agreeWith_30 (by decide) hf (fun hf => ?_) (fun hf => ?_)
          · refine r_aload_n C hl 1 dX1_agreeWith_35 rfl rfl ?_
            refine g_1_1 C hI h0 w_112 dX1_agreeWith_36 ?_
            refine r_iload_n C hl 3 dX1_agreeWith_39 rfl rfl ?_
            refine r_iald C hI 8 (n := 8) (k_1_1 h0) (by decide) rfl q21_2 dX1_agreeWith_40 ?_
            refine r_aload_n C hl 2 dX1_agreeWith_41 rfl rfl ?_
            refine r_iload_n C hl 0 dX1_agreeWith_42 rfl rfl ?_
            refine r_gd hf (fun q43_4 hf => ?_)
            refine r_iald C hI (al o1) (isA_eq h1) (by omega) rfl q43_4 dX1_agreeWith_43 ?_
            refine r_gd hf (fun q44_5 hf => ?_)
            refine r_gd hf (fun q44_6 hf => ?_)
            refine r_ic_ge C q44_5 q44_6 (tgt := 51) dX1_agreeWith_44 (by decide) hf (fun hf => ?_) (fun hf => ?_)
            · refine r_iconst C dX1_agreeWith_51 ?_
              exact t_X1_agreeWith_52 h0 h1 C hQ ih _ _ _ _ _ _ hf hI (lv_sub hl [1, 2, 3] rfl)
            · refine r_iconst C dX1_agreeWith_47 ?_
              refine r_goto C (tgt := 52) dX1_agreeWith_48 (by decide) ?_
              exact t_X1_agreeWith_52 h0 h1 C hQ ih _ _ _ _ _ _ hf hI (lv_sub hl [1, 2, 3] rfl)
          · refine r_iconst C dX1_agreeWith_33 ?_
            exact r_zret hQ (by decide) hf hI dX1_agreeWith_34
set_option maxRecDepth 100000 in
set_option maxHeartbeats 4000000 in
theorem c_X1_agreeWith {l : Launch} {g : GP} (hj : Inj g) {N : Nat} {M : Mem} {o0 : Nat} {o1 : Nat} (h0 : kd o0 = 1) (h1 : isA o1) {r : Int × Mem} (hf : f_X1_agreeWith N o0 o1 M = some r) : Met l yX1_agreeWith (Cond.code yX1_agreeWith cX1_agreeWith 5 (some .boolean) :: TB) (rmK 0 0) (PreW g M [rI g o0, rI g o1]) (PostI g r.1 r.2) 0 0 (Ad g) := by
  unfold f_X1_agreeWith at hf
  refine met_of (nL := 5) (cc := cX1_agreeWith) (M := M) (by decide +kernel) hj (Nat.le_of_ble_eq_true rfl) ?_
  intro p e s m below meth c ls C hr hlk hI hl
  have C : Cx g p s m _ c cX1_agreeWith 5 "LentGallery$Knocks" := C
  have hl : lv_has ls 5 [(0, rI g o0), (1, rI g o1)] := hl
  have hQ := ret_z (l := l) (e := e) (R := (rmK 0 0)) (below := below) (r := r) C hr hlk
  generalize s.heap = H, ([] : List Loc) = locs at hI ⊢
  refine r_iconst C dX1_agreeWith_0 ?_
  refine r_istore_n C hl (lv' := [(2, iI 0), (0, rI g o0), (1, rI g o1)]) dX1_agreeWith_1 rfl (Nat.le_of_ble_eq_true rfl) rfl (fun ls hl => ?_)
  exact t_X1_agreeWith_2 h0 h1 C hQ _ _ _ _ _ _ hf hI (lv_sub hl [1, 2, 0] rfl)
/-! X2_write -/
def f_X2_write (N : Nat) (o0 : Nat) (v1 : Int) (M : Mem) : Option (Int × Mem) := gd (inR (M o0 1)) (if (M o0 1) < 0 then (some (0, M)) else (if (M o0 1) < 12 then (gd (0 ≤ (M o0 1) ∧ (M o0 1) < 12) (some (1, st (st M (ch o0 0) (M o0 1).toNat v1) o0 1 (((st M (ch o0 0) (M o0 1).toNat v1) o0 1) + 1)))) else (some (0, M))))
theorem F_X2_write : CalF yX2_write cX2_write 2 (some .boolean) 1 := ⟨w_232, w_2, by decide +kernel⟩
set_option maxRecDepth 100000 in
set_option maxHeartbeats 4000000 in
theorem c_X2_write {l : Launch} {g : GP} (hj : Inj g) {N : Nat} {M : Mem} {o0 : Nat} {v1 : Int} (h0 : kd o0 = 2) {r : Int × Mem} (hf : f_X2_write N o0 v1 M = some r) : Met l yX2_write (Cond.code yX2_write cX2_write 2 (some .boolean) :: TB) (rmK 0 0) (PreW g M [rI g o0, iI v1]) (PostI g r.1 r.2) 0 0 (Ad g) := by
  unfold f_X2_write at hf
  refine met_of (nL := 2) (cc := cX2_write) (M := M) (by decide +kernel) hj (Nat.le_of_ble_eq_true rfl) ?_
  intro p e s m below meth c ls C hr hlk hI hl
  have C : Cx g p s m _ c cX2_write 2 "LentGallery$Page" := C
  have hl : lv_has ls 2 [(0, rI g o0), (1, iI v1)] := hl
  have hQ := ret_z (l := l) (e := e) (R := (rmK 0 0)) (below := below) (r := r) C hr hlk
  generalize s.heap = H, ([] : List Loc) = locs at hI ⊢
  refine r_aload_n C hl 0 dX2_write_0 rfl rfl ?_
  refine g_2_1 C hI h0 w_30 dX2_write_1 ?_
  refine r_gd hf (fun q4_0 hf => ?_)
  refine r_if_lt C q4_0 (tgt := 16) dX2_write_4 (by decide) hf (fun hf => ?_) (fun hf => ?_)
  · refine r_iconst C dX2_write_16 ?_
    exact r_zret hQ (by decide) hf hI dX2_write_17
  · refine r_aload_n C hl 0 dX2_write_7 rfl rfl ?_
    refine g_2_1 C hI h0 w_30 dX2_write_8 ?_
    refine r_bipush C dX2_write_11 rfl ?_
    refine r_ic_lt C q4_0 (by decide) (tgt := 18) dX2_write_13 (by decide) hf (fun hf => ?_) (fun hf => ?_)
    · refine r_aload_n C hl 0 dX2_write_18 rfl rfl ?_
      refine g_2_0 C hI h0 w_28 dX2_write_19 ?_
      refine r_aload_n C hl 0 dX2_write_22 rfl rfl ?_
      refine g_2_1 C hI h0 w_30 dX2_write_23 ?_
      refine r_iload_n C hl 1 dX2_write_26 rfl rfl ?_
      refine r_gd hf (fun q27_1 hf => ?_)
      refine r_iast C hI 12 (n := 12) (k_2_0 h0) (by decide) rfl q27_1 dX2_write_27 (fun H locs hI => ?_)
      refine r_aload_n C hl 0 dX2_write_28 rfl rfl ?_
      refine r_dup C dX2_write_29 rfl ?_
      refine g_2_1 C hI h0 w_30 dX2_write_30 ?_
      refine r_iconst C dX2_write_33 ?_
      refine r_iadd C dX2_write_34 ?_
      refine p_2_1 C hI h0 w_30 dX2_write_35 (fun H locs hI => ?_)
      refine r_iconst C dX2_write_38 ?_
      exact r_zret hQ (by decide) hf hI dX2_write_39
    · refine r_iconst C dX2_write_16 ?_
      exact r_zret hQ (by decide) hf hI dX2_write_17
/-! X2_fits -/
def f_X2_fits_31 (N : Nat) (v0 : Int) (v1 : Int) (s0 : Int) (M : Mem) : Option (Int × Mem) := gd (inR v1) (gd (inR s0) (if v1 < s0 then (some (0, M)) else (if 57 < v1 then (some (0, M)) else (some (1, M)))))
def f_X2_fits (N : Nat) (v0 : Int) (v1 : Int) (M : Mem) : Option (Int × Mem) := gd (inR v0) (if v0 = 6 then (gd (inR v1) (if v1 = 59 then (some (1, M)) else (some (0, M)))) else (if v0 = 8 then (f_X2_fits_31 N v0 v1 49 M) else (f_X2_fits_31 N v0 v1 48 M)))
theorem F_X2_fits : CalF yX2_fits cX2_fits 3 (some .boolean) 2 := ⟨w_247, w_2, by decide +kernel⟩
set_option maxRecDepth 100000 in
set_option maxHeartbeats 4000000 in
theorem t_X2_fits_31 {g : GP} {p : Program} {l : Launch} {e : Env} {s : State} {m : MethodId} {args : Array Value} {below : List Frame} {meth : Method} {c : Code} {Q : State → Prop} {N : Nat} {v0 : Int} {v1 : Int} (C : Cx g p s m args c cX2_fits 3 "LentGallery$Page") {r : Int × Mem} (hQ : RetZ g p l e (rmK 0 0) s m args below meth c cX2_fits r Q) : ∀ (s0 : Int) (M : Mem) (H : Heap) (locs : List Loc) (ls : Array Slot), f_X2_fits_31 N v0 v1 s0 M = some r → Inv g s M H locs → lv_has ls 3 [(1, iI v1)] → W p l e (rmK 0 0) s m args below meth c H locs 0 0 Q (F0 m 31 ls [iI s0]) := by
  intro s0 M H locs ls hf hI hl
  unfold f_X2_fits_31 at hf
  refine r_istore_n C hl (lv' := [(2, iI s0), (1, iI v1)]) dX2_fits_31 rfl (Nat.le_of_ble_eq_true rfl) rfl (fun ls hl => ?_)
  refine r_iload_n C hl 1 dX2_fits_32 rfl rfl ?_
  refine r_iload_n C hl 0 dX2_fits_33 rfl rfl ?_
  refine r_gd hf (fun q34_0 hf => ?_)
  refine r_gd hf (fun q34_1 hf => ?_)
  refine r_ic_lt C q34_0 q34_1 (tgt := 47) dX2_fits_34 (by decide) hf (fun hf => ?_) (fun hf => ?_)
  · refine r_iconst C dX2_fits_47 ?_
    exact r_zret hQ (by decide) hf hI dX2_fits_48
  · refine r_iload_n C hl 1 dX2_fits_37 rfl rfl ?_
    refine r_bipush C dX2_fits_38 rfl ?_
    refine r_ic_gt C q34_0 (by decide) (tgt := 47) dX2_fits_40 (by decide) hf (fun hf => ?_) (fun hf => ?_)
    · refine r_iconst C dX2_fits_47 ?_
      exact r_zret hQ (by decide) hf hI dX2_fits_48
    · refine r_iconst C dX2_fits_43 ?_
      refine r_goto C (tgt := 48) dX2_fits_44 (by decide) ?_
      exact r_zret hQ (by decide) hf hI dX2_fits_48
set_option maxRecDepth 100000 in
set_option maxHeartbeats 4000000 in
theorem c_X2_fits {l : Launch} {g : GP} (hj : Inj g) {N : Nat} {M : Mem} {v0 : Int} {v1 : Int} {r : Int × Mem} (hf : f_X2_fits N v0 v1 M = some r) : Met l yX2_fits (Cond.code yX2_fits cX2_fits 3 (some .boolean) :: TB) (rmK 0 0) (PreW g M [iI v0, iI v1]) (PostI g r.1 r.2) 0 0 (Ad g) := by
  unfold f_X2_fits at hf
  refine met_of (nL := 3) (cc := cX2_fits) (M := M) (by decide +kernel) hj (Nat.le_of_ble_eq_true rfl) ?_
  intro p e s m below meth c ls C hr hlk hI hl
  have C : Cx g p s m _ c cX2_fits 3 "LentGallery$Page" := C
  have hl : lv_has ls 3 [(0, iI v0), (1, iI v1)] := hl
  have hQ := ret_z (l := l) (e := e) (R := (rmK 0 0)) (below := below) (r := r) C hr hlk
  generalize s.heap = H, ([] : List Loc) = locs at hI ⊢
  refine r_iload_n C hl 0 dX2_fits_0 rfl rfl ?_
  refine r_bipush C dX2_fits_1 rfl ?_
  refine r_gd hf (fun q3_0 hf => ?_)
  refine r_ic_ne C q3_0 (by decide) (tgt := 18) dX2_fits_3 (by decide) hf (fun hf => ?_) (fun hf => ?_)
  · refine r_iload_n C hl 0 dX2_fits_18 rfl rfl ?_
    refine r_bipush C dX2_fits_19 rfl ?_
    refine r_ic_ne C q3_0 (by decide) (tgt := 29) dX2_fits_21 (by decide) hf (fun hf => ?_) (fun hf => ?_)
    · refine r_bipush C dX2_fits_29 rfl ?_
      exact t_X2_fits_31 C hQ _ _ _ _ _ hf hI (lv_sub hl [1] rfl)
    · refine r_bipush C dX2_fits_24 rfl ?_
      refine r_goto C (tgt := 31) dX2_fits_26 (by decide) ?_
      exact t_X2_fits_31 C hQ _ _ _ _ _ hf hI (lv_sub hl [1] rfl)
  · refine r_iload_n C hl 1 dX2_fits_6 rfl rfl ?_
    refine r_bipush C dX2_fits_7 rfl ?_
    refine r_gd hf (fun q9_1 hf => ?_)
    refine r_ic_ne C q9_1 (by decide) (tgt := 16) dX2_fits_9 (by decide) hf (fun hf => ?_) (fun hf => ?_)
    · refine r_iconst C dX2_fits_16 ?_
      exact r_zret hQ (by decide) hf hI dX2_fits_17
    · refine r_iconst C dX2_fits_12 ?_
      refine r_goto C (tgt := 17) dX2_fits_13 (by decide) ?_
      exact r_zret hQ (by decide) hf hI dX2_fits_17
/-! X2_goodLetters -/
def f_X2_goodLetters_2 (N : Nat) (o0 : Nat) : Nat → Int → Mem → Option (Int × Mem)
  | 0, _, _ => none
  | n + 1, v1, M => gd (inR v1) (gd (inR (M o0 1)) (if (M o0 1) ≤ v1 then (some (v1, M)) else (if 9 ≤ v1 then (some (v1, M)) else (gd (0 ≤ v1 ∧ v1 < 12) (bnd (f_X2_fits N v1 (M (ch o0 0) v1.toNat) M) (fun r23 M23 => gd (inR r23) (if r23 = 0 then (some (v1, M23)) else (f_X2_goodLetters_2 N o0 n (v1 + 1) M23))))))))
def f_X2_goodLetters (N : Nat) (o0 : Nat) (M : Mem) : Option (Int × Mem) := f_X2_goodLetters_2 N o0 N 0 M
theorem F_X2_goodLetters : CalF yX2_goodLetters cX2_goodLetters 2 (some .int) 0 := ⟨w_244, w_2, by decide +kernel⟩
set_option maxRecDepth 100000 in
set_option maxHeartbeats 4000000 in
theorem t_X2_goodLetters_2 {g : GP} {p : Program} {l : Launch} {e : Env} {s : State} {m : MethodId} {args : Array Value} {below : List Frame} {meth : Method} {c : Code} {Q : State → Prop} {N : Nat} {o0 : Nat} (h0 : kd o0 = 2) (C : Cx g p s m args c cX2_goodLetters 2 "LentGallery$Page") {r : Int × Mem} (hQ : RetI g p l e (rmK 1 22) s m args below meth c cX2_goodLetters r Q) : ∀ (n : Nat) (v1 : Int) (M : Mem) (H : Heap) (locs : List Loc) (ls : Array Slot), f_X2_goodLetters_2 N o0 n v1 M = some r → Inv g s M H locs → lv_has ls 2 [(0, rI g o0), (1, iI v1)] → W p l e (rmK 1 22) s m args below meth c H locs 0 0 Q (F0 m 2 ls []) := by
  intro n
  induction n with
  | zero =>
    intro v1 M H locs ls hf hI hl
    cases hf
  | succ n ih =>
    intro v1 M H locs ls hf hI hl
    rw [f_X2_goodLetters_2] at hf
    refine r_iload_n C hl 1 dX2_goodLetters_2 rfl rfl ?_
    refine r_aload_n C hl 0 dX2_goodLetters_3 rfl rfl ?_
    refine g_2_1 C hI h0 w_30 dX2_goodLetters_4 ?_
    refine r_gd hf (fun q7_0 hf => ?_)
    refine r_gd hf (fun q7_1 hf => ?_)
    refine r_ic_ge C q7_0 q7_1 (tgt := 35) dX2_goodLetters_7 (by decide) hf (fun hf => ?_) (fun hf => ?_)
    · refine r_iload_n C hl 1 dX2_goodLetters_35 rfl rfl ?_
      exact r_iret hQ hf hI dX2_goodLetters_36
    · refine r_iload_n C hl 1 dX2_goodLetters_10 rfl rfl ?_
      refine r_bipush C dX2_goodLetters_11 rfl ?_
      refine r_ic_ge C q7_0 (by decide) (tgt := 35) dX2_goodLetters_13 (by decide) hf (fun hf => ?_) (fun hf => ?_)
      · refine r_iload_n C hl 1 dX2_goodLetters_35 rfl rfl ?_
        exact r_iret hQ hf hI dX2_goodLetters_36
      · refine r_iload_n C hl 1 dX2_goodLetters_16 rfl rfl ?_
        refine r_aload_n C hl 0 dX2_goodLetters_17 rfl rfl ?_
        refine g_2_0 C hI h0 w_28 dX2_goodLetters_18 ?_
        refine r_iload_n C hl 1 dX2_goodLetters_21 rfl rfl ?_
        refine r_gd hf (fun q22_2 hf => ?_)
        refine r_iald C hI 12 (n := 12) (k_2_0 h0) (by decide) rfl q22_2 dX2_goodLetters_22 ?_
        refine r_calli (rest := []) hI hf (fun r M' h => run_S C hI F_X2_fits w_246 w_245 ⟨⟨Nat.le_of_ble_eq_true rfl, Nat.le_of_ble_eq_true rfl⟩, Nat.le_of_ble_eq_true rfl, Nat.le_of_ble_eq_true rfl⟩ hl dX2_goodLetters_23 [iI v1, iI (M (ch o0 0) v1.toNat)] rfl rfl (Nat.le_of_ble_eq_true rfl) (c_X2_fits C.2.2.2.2.2.2 h)) (fun r23 M23 H locs hI hf => ?_)
        refine r_gd hf (fun q26_3 hf => ?_)
        refine r_if_eq C q26_3 (tgt := 35) dX2_goodLetters_26 (by decide) hf (fun hf => ?_) (fun hf => ?_)
        · refine r_iload_n C hl 1 dX2_goodLetters_35 rfl rfl ?_
          exact r_iret hQ hf hI dX2_goodLetters_36
        · refine r_iinc C hl (lv' := [(1, iI (v1 + 1)), (0, rI g o0)]) 1 dX2_goodLetters_29 rfl (Nat.le_of_ble_eq_true rfl) rfl (fun ls hl => ?_)
          refine r_goto C (tgt := 2) dX2_goodLetters_32 (by decide) ?_
          exact ih _ _ _ _ _ hf hI (lv_sub hl [1, 0] rfl)
set_option maxRecDepth 100000 in
set_option maxHeartbeats 4000000 in
theorem c_X2_goodLetters {l : Launch} {g : GP} (hj : Inj g) {N : Nat} {M : Mem} {o0 : Nat} (h0 : kd o0 = 2) {r : Int × Mem} (hf : f_X2_goodLetters N o0 M = some r) : Met l yX2_goodLetters (Cond.code yX2_goodLetters cX2_goodLetters 2 (some .int) :: TB) (rmK 1 22) (PreW g M [rI g o0]) (PostI g r.1 r.2) 0 0 (Ad g) := by
  unfold f_X2_goodLetters at hf
  refine met_of (nL := 2) (cc := cX2_goodLetters) (M := M) (by decide +kernel) hj (Nat.le_of_ble_eq_true rfl) ?_
  intro p e s m below meth c ls C hr hlk hI hl
  have C : Cx g p s m _ c cX2_goodLetters 2 "LentGallery$Page" := C
  have hl : lv_has ls 2 [(0, rI g o0)] := hl
  have hQ := ret_i (l := l) (e := e) (R := (rmK 1 22)) (below := below) (r := r) C hr hlk (nar_i _)
  generalize s.heap = H, ([] : List Loc) = locs at hI ⊢
  refine r_iconst C dX2_goodLetters_0 ?_
  refine r_istore_n C hl (lv' := [(1, iI 0), (0, rI g o0)]) dX2_goodLetters_1 rfl (Nat.le_of_ble_eq_true rfl) rfl (fun ls hl => ?_)
  exact t_X2_goodLetters_2 h0 C hQ _ _ _ _ _ _ hf hI (lv_sub hl [1, 0] rfl)
/-! X2_digit -/
def f_X2_digit (N : Nat) (o0 : Nat) (v1 : Int) (M : Mem) : Option (Int × Mem) := gd (inR v1) (if v1 < 0 then (some (0, M)) else (if 12 ≤ v1 then (some (0, M)) else (gd (0 ≤ v1 ∧ v1 < 12) (some ((M (ch o0 0) v1.toNat) - 48, M)))))
theorem F_X2_digit : CalF yX2_digit cX2_digit 2 (some .int) 1 := ⟨w_259, w_2, by decide +kernel⟩
set_option maxRecDepth 100000 in
set_option maxHeartbeats 4000000 in
theorem c_X2_digit {l : Launch} {g : GP} (hj : Inj g) {N : Nat} {M : Mem} {o0 : Nat} {v1 : Int} (h0 : kd o0 = 2) {r : Int × Mem} (hf : f_X2_digit N o0 v1 M = some r) : Met l yX2_digit (Cond.code yX2_digit cX2_digit 2 (some .int) :: TB) (rmK 0 0) (PreW g M [rI g o0, iI v1]) (PostI g r.1 r.2) 0 0 (Ad g) := by
  unfold f_X2_digit at hf
  refine met_of (nL := 2) (cc := cX2_digit) (M := M) (by decide +kernel) hj (Nat.le_of_ble_eq_true rfl) ?_
  intro p e s m below meth c ls C hr hlk hI hl
  have C : Cx g p s m _ c cX2_digit 2 "LentGallery$Page" := C
  have hl : lv_has ls 2 [(0, rI g o0), (1, iI v1)] := hl
  have hQ := ret_i (l := l) (e := e) (R := (rmK 0 0)) (below := below) (r := r) C hr hlk (nar_i _)
  generalize s.heap = H, ([] : List Loc) = locs at hI ⊢
  refine r_iload_n C hl 1 dX2_digit_0 rfl rfl ?_
  refine r_gd hf (fun q1_0 hf => ?_)
  refine r_if_lt C q1_0 (tgt := 22) dX2_digit_1 (by decide) hf (fun hf => ?_) (fun hf => ?_)
  · refine r_iconst C dX2_digit_22 ?_
    exact r_iret hQ hf hI dX2_digit_23
  · refine r_iload_n C hl 1 dX2_digit_4 rfl rfl ?_
    refine r_bipush C dX2_digit_5 rfl ?_
    refine r_ic_ge C q1_0 (by decide) (tgt := 22) dX2_digit_7 (by decide) hf (fun hf => ?_) (fun hf => ?_)
    · refine r_iconst C dX2_digit_22 ?_
      exact r_iret hQ hf hI dX2_digit_23
    · refine r_aload_n C hl 0 dX2_digit_10 rfl rfl ?_
      refine g_2_0 C hI h0 w_28 dX2_digit_11 ?_
      refine r_iload_n C hl 1 dX2_digit_14 rfl rfl ?_
      refine r_gd hf (fun q15_1 hf => ?_)
      refine r_iald C hI 12 (n := 12) (k_2_0 h0) (by decide) rfl q15_1 dX2_digit_15 ?_
      refine r_bipush C dX2_digit_16 rfl ?_
      refine r_isub C dX2_digit_18 ?_
      refine r_goto C (tgt := 23) dX2_digit_19 (by decide) ?_
      exact r_iret hQ hf hI dX2_digit_23
/-! X3_copyFrom -/
def f_X3_copyFrom (N : Nat) (o0 : Nat) (o1 : Nat) (M : Mem) : Option (Mem) := some (cpy (cpy M (ch o1 0) (ch o0 0) 6) (ch o1 1) (ch o0 1) 6)
theorem F_X3_copyFrom : CalF yX3_copyFrom cX3_copyFrom 2 none 1 := ⟨w_298, w_4, by decide +kernel⟩
set_option maxRecDepth 100000 in
set_option maxHeartbeats 4000000 in
theorem c_X3_copyFrom {l : Launch} {g : GP} (hj : Inj g) {N : Nat} {M : Mem} {o0 : Nat} {o1 : Nat} (h0 : kd o0 = 3) (h1 : kd o1 = 3) {r : Mem} (hf : f_X3_copyFrom N o0 o1 M = some r) : Met l yX3_copyFrom (Cond.code yX3_copyFrom cX3_copyFrom 2 none :: TB) (rmK 1 40) (PreW g M [rI g o0, rI g o1]) (PostV g r) 0 0 (Ad g) := by
  unfold f_X3_copyFrom at hf
  refine met_of (nL := 2) (cc := cX3_copyFrom) (M := M) (by decide +kernel) hj (Nat.le_of_ble_eq_true rfl) ?_
  intro p e s m below meth c ls C hr hlk hI hl
  have C : Cx g p s m _ c cX3_copyFrom 2 "LentGallery$Roof" := C
  have hl : lv_has ls 2 [(0, rI g o0), (1, rI g o1)] := hl
  have hQ := ret_v (l := l) (e := e) (R := (rmK 1 40)) (below := below) (r := r) C hr hlk
  generalize s.heap = H, ([] : List Loc) = locs at hI ⊢
  refine r_aload_n C hl 1 dX3_copyFrom_0 rfl rfl ?_
  refine g_3_0 C hI h1 w_50 dX3_copyFrom_1 ?_
  refine r_iconst C dX3_copyFrom_4 ?_
  refine r_aload_n C hl 0 dX3_copyFrom_5 rfl rfl ?_
  refine g_3_0 C hI h0 w_50 dX3_copyFrom_6 ?_
  refine r_iconst C dX3_copyFrom_9 ?_
  refine r_bipush C dX3_copyFrom_10 rfl ?_
  refine r_acopy C hI hl.1 (n1 := 6) (n2 := 6) 6 rfl (k_3_0 h1) (k_3_0 h0) (by decide) (by decide) (by decide) (by decide) w_299 w_301 w_300 w_11 (Nat.le_of_ble_eq_true rfl) (Nat.le_of_ble_eq_true rfl) dX3_copyFrom_12 (fun H locs hI => ?_)
  refine r_aload_n C hl 1 dX3_copyFrom_15 rfl rfl ?_
  refine g_3_1 C hI h1 w_54 dX3_copyFrom_16 ?_
  refine r_iconst C dX3_copyFrom_19 ?_
  refine r_aload_n C hl 0 dX3_copyFrom_20 rfl rfl ?_
  refine g_3_1 C hI h0 w_54 dX3_copyFrom_21 ?_
  refine r_iconst C dX3_copyFrom_24 ?_
  refine r_bipush C dX3_copyFrom_25 rfl ?_
  refine r_acopy C hI hl.1 (n1 := 6) (n2 := 6) 6 rfl (k_3_1 h1) (k_3_1 h0) (by decide) (by decide) (by decide) (by decide) w_299 w_301 w_300 w_11 (Nat.le_of_ble_eq_true rfl) (Nat.le_of_ble_eq_true rfl) dX3_copyFrom_27 (fun H locs hI => ?_)
  exact r_vret hQ hf hI dX3_copyFrom_30
/-! X3_stands -/
def f_X3_stands (N : Nat) (o0 : Nat) (v1 : Int) (M : Mem) : Option (Int × Mem) := gd (inR v1) (if v1 < 0 then (some (0, M)) else (if 6 ≤ v1 then (some (0, M)) else (gd (0 ≤ v1 ∧ v1 < 6) (gd (inR (M (ch o0 0) v1.toNat)) (if (M (ch o0 0) v1.toNat) ≤ 0 then (some (0, M)) else (some (1, M)))))))
theorem F_X3_stands : CalF yX3_stands cX3_stands 2 (some .boolean) 1 := ⟨w_309, w_4, by decide +kernel⟩
set_option maxRecDepth 100000 in
set_option maxHeartbeats 4000000 in
theorem c_X3_stands {l : Launch} {g : GP} (hj : Inj g) {N : Nat} {M : Mem} {o0 : Nat} {v1 : Int} (h0 : kd o0 = 3) {r : Int × Mem} (hf : f_X3_stands N o0 v1 M = some r) : Met l yX3_stands (Cond.code yX3_stands cX3_stands 2 (some .boolean) :: TB) (rmK 0 0) (PreW g M [rI g o0, iI v1]) (PostI g r.1 r.2) 0 0 (Ad g) := by
  unfold f_X3_stands at hf
  refine met_of (nL := 2) (cc := cX3_stands) (M := M) (by decide +kernel) hj (Nat.le_of_ble_eq_true rfl) ?_
  intro p e s m below meth c ls C hr hlk hI hl
  have C : Cx g p s m _ c cX3_stands 2 "LentGallery$Roof" := C
  have hl : lv_has ls 2 [(0, rI g o0), (1, iI v1)] := hl
  have hQ := ret_z (l := l) (e := e) (R := (rmK 0 0)) (below := below) (r := r) C hr hlk
  generalize s.heap = H, ([] : List Loc) = locs at hI ⊢
  refine r_iload_n C hl 1 dX3_stands_0 rfl rfl ?_
  refine r_gd hf (fun q1_0 hf => ?_)
  refine r_if_lt C q1_0 (tgt := 23) dX3_stands_1 (by decide) hf (fun hf => ?_) (fun hf => ?_)
  · refine r_iconst C dX3_stands_23 ?_
    exact r_zret hQ (by decide) hf hI dX3_stands_24
  · refine r_iload_n C hl 1 dX3_stands_4 rfl rfl ?_
    refine r_bipush C dX3_stands_5 rfl ?_
    refine r_ic_ge C q1_0 (by decide) (tgt := 23) dX3_stands_7 (by decide) hf (fun hf => ?_) (fun hf => ?_)
    · refine r_iconst C dX3_stands_23 ?_
      exact r_zret hQ (by decide) hf hI dX3_stands_24
    · refine r_aload_n C hl 0 dX3_stands_10 rfl rfl ?_
      refine g_3_0 C hI h0 w_50 dX3_stands_11 ?_
      refine r_iload_n C hl 1 dX3_stands_14 rfl rfl ?_
      refine r_gd hf (fun q15_1 hf => ?_)
      refine r_iald C hI 6 (n := 6) (k_3_0 h0) (by decide) rfl q15_1 dX3_stands_15 ?_
      refine r_gd hf (fun q16_2 hf => ?_)
      refine r_if_le C q16_2 (tgt := 23) dX3_stands_16 (by decide) hf (fun hf => ?_) (fun hf => ?_)
      · refine r_iconst C dX3_stands_23 ?_
        exact r_zret hQ (by decide) hf hI dX3_stands_24
      · refine r_iconst C dX3_stands_19 ?_
        refine r_goto C (tgt := 24) dX3_stands_20 (by decide) ?_
        exact r_zret hQ (by decide) hf hI dX3_stands_24
/-! X3_standing -/
def f_X3_standing_4 (N : Nat) (o0 : Nat) : Nat → Int → Int → Mem → Option (Int × Mem)
  | 0, _, _, _ => none
  | n + 1, v1, v2, M => gd (inR v2) (if 6 ≤ v2 then (some (v1, M)) else (gd (0 ≤ v2 ∧ v2 < 6) (gd (inR (M (ch o0 0) v2.toNat)) (if (M (ch o0 0) v2.toNat) ≤ 0 then (f_X3_standing_4 N o0 n (v1 + 0) (v2 + 1) M) else (f_X3_standing_4 N o0 n (v1 + 1) (v2 + 1) M)))))
def f_X3_standing (N : Nat) (o0 : Nat) (M : Mem) : Option (Int × Mem) := f_X3_standing_4 N o0 N 0 0 M
theorem F_X3_standing : CalF yX3_standing cX3_standing 3 (some .int) 0 := ⟨w_263, w_4, by decide +kernel⟩
set_option maxRecDepth 100000 in
set_option maxHeartbeats 4000000 in
theorem t_X3_standing_4 {g : GP} {p : Program} {l : Launch} {e : Env} {s : State} {m : MethodId} {args : Array Value} {below : List Frame} {meth : Method} {c : Code} {Q : State → Prop} {N : Nat} {o0 : Nat} (h0 : kd o0 = 3) (C : Cx g p s m args c cX3_standing 3 "LentGallery$Roof") {r : Int × Mem} (hQ : RetI g p l e (rmK 0 0) s m args below meth c cX3_standing r Q) : ∀ (n : Nat) (v1 v2 : Int) (M : Mem) (H : Heap) (locs : List Loc) (ls : Array Slot), f_X3_standing_4 N o0 n v1 v2 M = some r → Inv g s M H locs → lv_has ls 3 [(0, rI g o0), (1, iI v1), (2, iI v2)] → W p l e (rmK 0 0) s m args below meth c H locs 0 0 Q (F0 m 4 ls []) := by
  intro n
  induction n with
  | zero =>
    intro v1 v2 M H locs ls hf hI hl
    cases hf
  | succ n ih =>
    intro v1 v2 M H locs ls hf hI hl
    rw [f_X3_standing_4] at hf
    refine r_iload_n C hl 2 dX3_standing_4 rfl rfl ?_
    refine r_bipush C dX3_standing_5 rfl ?_
    refine r_gd hf (fun q7_0 hf => ?_)
    refine r_ic_ge C q7_0 (by decide) (tgt := 33) dX3_standing_7 (by decide) hf (fun hf => ?_) (fun hf => ?_)
    · refine r_iload_n C hl 1 dX3_standing_33 rfl rfl ?_
      exact r_iret hQ hf hI dX3_standing_34
    · refine r_iload_n C hl 1 dX3_standing_10 rfl rfl ?_
      refine r_aload_n C hl 0 dX3_standing_11 rfl rfl ?_
      refine g_3_0 C hI h0 w_50 dX3_standing_12 ?_
      refine r_iload_n C hl 2 dX3_standing_15 rfl rfl ?_
      refine r_gd hf (fun q16_1 hf => ?_)
      refine r_iald C hI 6 (n := 6) (k_3_0 h0) (by decide) rfl q16_1 dX3_standing_16 ?_
      refine r_gd hf (fun q17_2 hf => ?_)
      refine r_if_le C q17_2 (tgt := 24) dX3_standing_17 (by decide) hf (fun hf => ?_) (fun hf => ?_)
      · refine r_iconst C dX3_standing_24 ?_
        refine r_iadd C dX3_standing_25 ?_
        refine r_istore_n C hl (lv' := [(1, iI (v1 + 0)), (0, rI g o0), (2, iI v2)]) dX3_standing_26 rfl (Nat.le_of_ble_eq_true rfl) rfl (fun ls hl => ?_)
        refine r_iinc C hl (lv' := [(2, iI (v2 + 1)), (1, iI (v1 + 0)), (0, rI g o0)]) 2 dX3_standing_27 rfl (Nat.le_of_ble_eq_true rfl) rfl (fun ls hl => ?_)
        refine r_goto C (tgt := 4) dX3_standing_30 (by decide) ?_
        exact ih _ _ _ _ _ _ hf hI (lv_sub hl [2, 1, 0] rfl)
      · refine r_iconst C dX3_standing_20 ?_
        refine r_goto C (tgt := 25) dX3_standing_21 (by decide) ?_
        refine r_iadd C dX3_standing_25 ?_
        refine r_istore_n C hl (lv' := [(1, iI (v1 + 1)), (0, rI g o0), (2, iI v2)]) dX3_standing_26 rfl (Nat.le_of_ble_eq_true rfl) rfl (fun ls hl => ?_)
        refine r_iinc C hl (lv' := [(2, iI (v2 + 1)), (1, iI (v1 + 1)), (0, rI g o0)]) 2 dX3_standing_27 rfl (Nat.le_of_ble_eq_true rfl) rfl (fun ls hl => ?_)
        refine r_goto C (tgt := 4) dX3_standing_30 (by decide) ?_
        exact ih _ _ _ _ _ _ hf hI (lv_sub hl [2, 1, 0] rfl)
set_option maxRecDepth 100000 in
set_option maxHeartbeats 4000000 in
theorem c_X3_standing {l : Launch} {g : GP} (hj : Inj g) {N : Nat} {M : Mem} {o0 : Nat} (h0 : kd o0 = 3) {r : Int × Mem} (hf : f_X3_standing N o0 M = some r) : Met l yX3_standing (Cond.code yX3_standing cX3_standing 3 (some .int) :: TB) (rmK 0 0) (PreW g M [rI g o0]) (PostI g r.1 r.2) 0 0 (Ad g) := by
  unfold f_X3_standing at hf
  refine met_of (nL := 3) (cc := cX3_standing) (M := M) (by decide +kernel) hj (Nat.le_of_ble_eq_true rfl) ?_
  intro p e s m below meth c ls C hr hlk hI hl
  have C : Cx g p s m _ c cX3_standing 3 "LentGallery$Roof" := C
  have hl : lv_has ls 3 [(0, rI g o0)] := hl
  have hQ := ret_i (l := l) (e := e) (R := (rmK 0 0)) (below := below) (r := r) C hr hlk (nar_i _)
  generalize s.heap = H, ([] : List Loc) = locs at hI ⊢
  refine r_iconst C dX3_standing_0 ?_
  refine r_istore_n C hl (lv' := [(1, iI 0), (0, rI g o0)]) dX3_standing_1 rfl (Nat.le_of_ble_eq_true rfl) rfl (fun ls hl => ?_)
  refine r_iconst C dX3_standing_2 ?_
  refine r_istore_n C hl (lv' := [(2, iI 0), (1, iI 0), (0, rI g o0)]) dX3_standing_3 rfl (Nat.le_of_ble_eq_true rfl) rfl (fun ls hl => ?_)
  exact t_X3_standing_4 h0 C hQ _ _ _ _ _ _ _ hf hI (lv_sub hl [2, 1, 0] rfl)
/-! X3_firstFallen -/
def f_X3_firstFallen_2 (N : Nat) (o0 : Nat) : Nat → Int → Mem → Option (Int × Mem)
  | 0, _, _ => none
  | n + 1, v1, M => gd (inR v1) (if 6 ≤ v1 then (some (v1, M)) else (gd (0 ≤ v1 ∧ v1 < 6) (gd (inR (M (ch o0 0) v1.toNat)) (if (M (ch o0 0) v1.toNat) ≤ 0 then (some (v1, M)) else (f_X3_firstFallen_2 N o0 n (v1 + 1) M)))))
def f_X3_firstFallen (N : Nat) (o0 : Nat) (M : Mem) : Option (Int × Mem) := f_X3_firstFallen_2 N o0 N 0 M
theorem F_X3_firstFallen : CalF yX3_firstFallen cX3_firstFallen 2 (some .int) 0 := ⟨w_384, w_4, by decide +kernel⟩
set_option maxRecDepth 100000 in
set_option maxHeartbeats 4000000 in
theorem t_X3_firstFallen_2 {g : GP} {p : Program} {l : Launch} {e : Env} {s : State} {m : MethodId} {args : Array Value} {below : List Frame} {meth : Method} {c : Code} {Q : State → Prop} {N : Nat} {o0 : Nat} (h0 : kd o0 = 3) (C : Cx g p s m args c cX3_firstFallen 2 "LentGallery$Roof") {r : Int × Mem} (hQ : RetI g p l e (rmK 0 0) s m args below meth c cX3_firstFallen r Q) : ∀ (n : Nat) (v1 : Int) (M : Mem) (H : Heap) (locs : List Loc) (ls : Array Slot), f_X3_firstFallen_2 N o0 n v1 M = some r → Inv g s M H locs → lv_has ls 2 [(0, rI g o0), (1, iI v1)] → W p l e (rmK 0 0) s m args below meth c H locs 0 0 Q (F0 m 2 ls []) := by
  intro n
  induction n with
  | zero =>
    intro v1 M H locs ls hf hI hl
    cases hf
  | succ n ih =>
    intro v1 M H locs ls hf hI hl
    rw [f_X3_firstFallen_2] at hf
    refine r_iload_n C hl 1 dX3_firstFallen_2 rfl rfl ?_
    refine r_bipush C dX3_firstFallen_3 rfl ?_
    refine r_gd hf (fun q5_0 hf => ?_)
    refine r_ic_ge C q5_0 (by decide) (tgt := 23) dX3_firstFallen_5 (by decide) hf (fun hf => ?_) (fun hf => ?_)
    · refine r_iload_n C hl 1 dX3_firstFallen_23 rfl rfl ?_
      exact r_iret hQ hf hI dX3_firstFallen_24
    · refine r_aload_n C hl 0 dX3_firstFallen_8 rfl rfl ?_
      refine g_3_0 C hI h0 w_50 dX3_firstFallen_9 ?_
      refine r_iload_n C hl 1 dX3_firstFallen_12 rfl rfl ?_
      refine r_gd hf (fun q13_1 hf => ?_)
      refine r_iald C hI 6 (n := 6) (k_3_0 h0) (by decide) rfl q13_1 dX3_firstFallen_13 ?_
      refine r_gd hf (fun q14_2 hf => ?_)
      refine r_if_le C q14_2 (tgt := 23) dX3_firstFallen_14 (by decide) hf (fun hf => ?_) (fun hf => ?_)
      · refine r_iload_n C hl 1 dX3_firstFallen_23 rfl rfl ?_
        exact r_iret hQ hf hI dX3_firstFallen_24
      · refine r_iinc C hl (lv' := [(1, iI (v1 + 1)), (0, rI g o0)]) 1 dX3_firstFallen_17 rfl (Nat.le_of_ble_eq_true rfl) rfl (fun ls hl => ?_)
        refine r_goto C (tgt := 2) dX3_firstFallen_20 (by decide) ?_
        exact ih _ _ _ _ _ hf hI (lv_sub hl [1, 0] rfl)
set_option maxRecDepth 100000 in
set_option maxHeartbeats 4000000 in
theorem c_X3_firstFallen {l : Launch} {g : GP} (hj : Inj g) {N : Nat} {M : Mem} {o0 : Nat} (h0 : kd o0 = 3) {r : Int × Mem} (hf : f_X3_firstFallen N o0 M = some r) : Met l yX3_firstFallen (Cond.code yX3_firstFallen cX3_firstFallen 2 (some .int) :: TB) (rmK 0 0) (PreW g M [rI g o0]) (PostI g r.1 r.2) 0 0 (Ad g) := by
  unfold f_X3_firstFallen at hf
  refine met_of (nL := 2) (cc := cX3_firstFallen) (M := M) (by decide +kernel) hj (Nat.le_of_ble_eq_true rfl) ?_
  intro p e s m below meth c ls C hr hlk hI hl
  have C : Cx g p s m _ c cX3_firstFallen 2 "LentGallery$Roof" := C
  have hl : lv_has ls 2 [(0, rI g o0)] := hl
  have hQ := ret_i (l := l) (e := e) (R := (rmK 0 0)) (below := below) (r := r) C hr hlk (nar_i _)
  generalize s.heap = H, ([] : List Loc) = locs at hI ⊢
  refine r_iconst C dX3_firstFallen_0 ?_
  refine r_istore_n C hl (lv' := [(1, iI 0), (0, rI g o0)]) dX3_firstFallen_1 rfl (Nat.le_of_ble_eq_true rfl) rfl (fun ls hl => ?_)
  exact t_X3_firstFallen_2 h0 C hQ _ _ _ _ _ _ hf hI (lv_sub hl [1, 0] rfl)
/-! X3_lossAt -/
def f_X3_lossAt_57 (N : Nat) (o0 : Nat) (v1 : Int) (s0 : Int) (M : Mem) : Option (Int × Mem) := gd (0 ≤ v1 ∧ v1 < 6) (gd (inR s0) (if s0 = 0 then (some ((M (ch o0 1) v1.toNat) + 0, M)) else (some ((M (ch o0 1) v1.toNat) + 1, M))))
def f_X3_lossAt_56 (N : Nat) (o0 : Nat) (v1 : Int) (M : Mem) : Option (Int × Mem) := f_X3_lossAt_57 N o0 v1 0 M
def f_X3_lossAt_52 (N : Nat) (o0 : Nat) (v1 : Int) (M : Mem) : Option (Int × Mem) := f_X3_lossAt_57 N o0 v1 1 M
def f_X3_lossAt_36 (N : Nat) (o0 : Nat) (v1 : Int) (M : Mem) : Option (Int × Mem) := gd (inR v1) (if 5 ≤ v1 then (f_X3_lossAt_56 N o0 v1 M) else (gd (0 ≤ (v1 + 1) ∧ (v1 + 1) < 6) (gd (inR (M (ch o0 0) (v1 + 1).toNat)) (if 0 < (M (ch o0 0) (v1 + 1).toNat) then (f_X3_lossAt_56 N o0 v1 M) else (f_X3_lossAt_52 N o0 v1 M)))))
def f_X3_lossAt (N : Nat) (o0 : Nat) (v1 : Int) (M : Mem) : Option (Int × Mem) := gd (inR v1) (if v1 < 0 then (some (0, M)) else (if 6 ≤ v1 then (some (0, M)) else (gd (0 ≤ v1 ∧ v1 < 6) (gd (inR (M (ch o0 0) v1.toNat)) (if 0 < (M (ch o0 0) v1.toNat) then (if v1 ≤ 0 then (f_X3_lossAt_36 N o0 v1 M) else (gd (0 ≤ (v1 - 1) ∧ (v1 - 1) < 6) (gd (inR (M (ch o0 0) (v1 - 1).toNat)) (if (M (ch o0 0) (v1 - 1).toNat) ≤ 0 then (f_X3_lossAt_52 N o0 v1 M) else (f_X3_lossAt_36 N o0 v1 M))))) else (some (0, M)))))))
theorem F_X3_lossAt : CalF yX3_lossAt cX3_lossAt 3 (some .int) 1 := ⟨w_279, w_4, by decide +kernel⟩
set_option maxRecDepth 100000 in
set_option maxHeartbeats 4000000 in
theorem t_X3_lossAt_57 {g : GP} {p : Program} {l : Launch} {e : Env} {s : State} {m : MethodId} {args : Array Value} {below : List Frame} {meth : Method} {c : Code} {Q : State → Prop} {N : Nat} {o0 : Nat} {v1 : Int} (h0 : kd o0 = 3) (C : Cx g p s m args c cX3_lossAt 3 "LentGallery$Roof") {r : Int × Mem} (hQ : RetI g p l e (rmK 0 0) s m args below meth c cX3_lossAt r Q) : ∀ (s0 : Int) (M : Mem) (H : Heap) (locs : List Loc) (ls : Array Slot), f_X3_lossAt_57 N o0 v1 s0 M = some r → Inv g s M H locs → lv_has ls 3 [(0, rI g o0), (1, iI v1)] → W p l e (rmK 0 0) s m args below meth c H locs 0 0 Q (F0 m 57 ls [iI s0]) := by
  intro s0 M H locs ls hf hI hl
  unfold f_X3_lossAt_57 at hf
  refine r_istore_n C hl (lv' := [(2, iI s0), (0, rI g o0), (1, iI v1)]) dX3_lossAt_57 rfl (Nat.le_of_ble_eq_true rfl) rfl (fun ls hl => ?_)
  refine r_aload_n C hl 1 dX3_lossAt_58 rfl rfl ?_
  refine g_3_1 C hI h0 w_54 dX3_lossAt_59 ?_
  refine r_iload_n C hl 2 dX3_lossAt_62 rfl rfl ?_
  refine r_gd hf (fun q63_0 hf => ?_)
  refine r_iald C hI 6 (n := 6) (k_3_1 h0) (by decide) rfl q63_0 dX3_lossAt_63 ?_
  refine r_iload_n C hl 0 dX3_lossAt_64 rfl rfl ?_
  refine r_gd hf (fun q65_1 hf => ?_)
  refine r_if_eq C q65_1 (tgt := 72) dX3_lossAt_65 (by decide) hf (fun hf => ?_) (fun hf => ?_)
  · refine r_iconst C dX3_lossAt_72 ?_
    refine r_iadd C dX3_lossAt_73 ?_
    exact r_iret hQ hf hI dX3_lossAt_74
  · refine r_iconst C dX3_lossAt_68 ?_
    refine r_goto C (tgt := 73) dX3_lossAt_69 (by decide) ?_
    refine r_iadd C dX3_lossAt_73 ?_
    exact r_iret hQ hf hI dX3_lossAt_74
set_option maxRecDepth 100000 in
set_option maxHeartbeats 4000000 in
theorem t_X3_lossAt_56 {g : GP} {p : Program} {l : Launch} {e : Env} {s : State} {m : MethodId} {args : Array Value} {below : List Frame} {meth : Method} {c : Code} {Q : State → Prop} {N : Nat} {o0 : Nat} {v1 : Int} (h0 : kd o0 = 3) (C : Cx g p s m args c cX3_lossAt 3 "LentGallery$Roof") {r : Int × Mem} (hQ : RetI g p l e (rmK 0 0) s m args below meth c cX3_lossAt r Q) : ∀ (M : Mem) (H : Heap) (locs : List Loc) (ls : Array Slot), f_X3_lossAt_56 N o0 v1 M = some r → Inv g s M H locs → lv_has ls 3 [(0, rI g o0), (1, iI v1)] → W p l e (rmK 0 0) s m args below meth c H locs 0 0 Q (F0 m 56 ls []) := by
  intro M H locs ls hf hI hl
  unfold f_X3_lossAt_56 at hf
  refine r_iconst C dX3_lossAt_56 ?_
  exact t_X3_lossAt_57 h0 C hQ _ _ _ _ _ hf hI (lv_sub hl [0, 1] rfl)
set_option maxRecDepth 100000 in
set_option maxHeartbeats 4000000 in
theorem t_X3_lossAt_52 {g : GP} {p : Program} {l : Launch} {e : Env} {s : State} {m : MethodId} {args : Array Value} {below : List Frame} {meth : Method} {c : Code} {Q : State → Prop} {N : Nat} {o0 : Nat} {v1 : Int} (h0 : kd o0 = 3) (C : Cx g p s m args c cX3_lossAt 3 "LentGallery$Roof") {r : Int × Mem} (hQ : RetI g p l e (rmK 0 0) s m args below meth c cX3_lossAt r Q) : ∀ (M : Mem) (H : Heap) (locs : List Loc) (ls : Array Slot), f_X3_lossAt_52 N o0 v1 M = some r → Inv g s M H locs → lv_has ls 3 [(0, rI g o0), (1, iI v1)] → W p l e (rmK 0 0) s m args below meth c H locs 0 0 Q (F0 m 52 ls []) := by
  intro M H locs ls hf hI hl
  unfold f_X3_lossAt_52 at hf
  refine r_iconst C dX3_lossAt_52 ?_
  refine r_goto C (tgt := 57) dX3_lossAt_53 (by decide) ?_
  exact t_X3_lossAt_57 h0 C hQ _ _ _ _ _ hf hI (lv_sub hl [0, 1] rfl)
set_option maxRecDepth 100000 in
set_option maxHeartbeats 4000000 in
theorem t_X3_lossAt_36 {g : GP} {p : Program} {l : Launch} {e : Env} {s : State} {m : MethodId} {args : Array Value} {below : List Frame} {meth : Method} {c : Code} {Q : State → Prop} {N : Nat} {o0 : Nat} {v1 : Int} (h0 : kd o0 = 3) (C : Cx g p s m args c cX3_lossAt 3 "LentGallery$Roof") {r : Int × Mem} (hQ : RetI g p l e (rmK 0 0) s m args below meth c cX3_lossAt r Q) : ∀ (M : Mem) (H : Heap) (locs : List Loc) (ls : Array Slot), f_X3_lossAt_36 N o0 v1 M = some r → Inv g s M H locs → lv_has ls 3 [(0, rI g o0), (1, iI v1)] → W p l e (rmK 0 0) s m args below meth c H locs 0 0 Q (F0 m 36 ls []) := by
  intro M H locs ls hf hI hl
  unfold f_X3_lossAt_36 at hf
  refine r_iload_n C hl 1 dX3_lossAt_36 rfl rfl ?_
  refine r_iconst C dX3_lossAt_37 ?_
  refine r_gd hf (fun q38_0 hf => ?_)
  refine r_ic_ge C q38_0 (by decide) (tgt := 56) dX3_lossAt_38 (by decide) hf (fun hf => ?_) (fun hf => ?_)
  · exact t_X3_lossAt_56 h0 C hQ _ _ _ _ hf hI (lv_sub hl [0, 1] rfl)
  · refine r_aload_n C hl 0 dX3_lossAt_41 rfl rfl ?_
    refine g_3_0 C hI h0 w_50 dX3_lossAt_42 ?_
    refine r_iload_n C hl 1 dX3_lossAt_45 rfl rfl ?_
    refine r_iconst C dX3_lossAt_46 ?_
    refine r_iadd C dX3_lossAt_47 ?_
    refine r_gd hf (fun q48_1 hf => ?_)
    refine r_iald C hI 6 (n := 6) (k_3_0 h0) (by decide) rfl q48_1 dX3_lossAt_48 ?_
    refine r_gd hf (fun q49_2 hf => ?_)
    refine r_if_gt C q49_2 (tgt := 56) dX3_lossAt_49 (by decide) hf (fun hf => ?_) (fun hf => ?_)
    · exact t_X3_lossAt_56 h0 C hQ _ _ _ _ hf hI (lv_sub hl [0, 1] rfl)
    · exact t_X3_lossAt_52 h0 C hQ _ _ _ _ hf hI (lv_sub hl [0, 1] rfl)
set_option maxRecDepth 100000 in
set_option maxHeartbeats 4000000 in
theorem c_X3_lossAt {l : Launch} {g : GP} (hj : Inj g) {N : Nat} {M : Mem} {o0 : Nat} {v1 : Int} (h0 : kd o0 = 3) {r : Int × Mem} (hf : f_X3_lossAt N o0 v1 M = some r) : Met l yX3_lossAt (Cond.code yX3_lossAt cX3_lossAt 3 (some .int) :: TB) (rmK 0 0) (PreW g M [rI g o0, iI v1]) (PostI g r.1 r.2) 0 0 (Ad g) := by
  unfold f_X3_lossAt at hf
  refine met_of (nL := 3) (cc := cX3_lossAt) (M := M) (by decide +kernel) hj (Nat.le_of_ble_eq_true rfl) ?_
  intro p e s m below meth c ls C hr hlk hI hl
  have C : Cx g p s m _ c cX3_lossAt 3 "LentGallery$Roof" := C
  have hl : lv_has ls 3 [(0, rI g o0), (1, iI v1)] := hl
  have hQ := ret_i (l := l) (e := e) (R := (rmK 0 0)) (below := below) (r := r) C hr hlk (nar_i _)
  generalize s.heap = H, ([] : List Loc) = locs at hI ⊢
  refine r_iload_n C hl 1 dX3_lossAt_0 rfl rfl ?_
  refine r_gd hf (fun q1_0 hf => ?_)
  refine r_if_lt C q1_0 (tgt := 19) dX3_lossAt_1 (by decide) hf (fun hf => ?_) (fun hf => ?_)
  · refine r_iconst C dX3_lossAt_19 ?_
    exact r_iret hQ hf hI dX3_lossAt_20
  · refine r_iload_n C hl 1 dX3_lossAt_4 rfl rfl ?_
    refine r_bipush C dX3_lossAt_5 rfl ?_
    refine r_ic_ge C q1_0 (by decide) (tgt := 19) dX3_lossAt_7 (by decide) hf (fun hf => ?_) (fun hf => ?_)
    · refine r_iconst C dX3_lossAt_19 ?_
      exact r_iret hQ hf hI dX3_lossAt_20
    · refine r_aload_n C hl 0 dX3_lossAt_10 rfl rfl ?_
      refine g_3_0 C hI h0 w_50 dX3_lossAt_11 ?_
      refine r_iload_n C hl 1 dX3_lossAt_14 rfl rfl ?_
      refine r_gd hf (fun q15_1 hf => ?_)
      refine r_iald C hI 6 (n := 6) (k_3_0 h0) (by decide) rfl q15_1 dX3_lossAt_15 ?_
      refine r_gd hf (fun q16_2 hf => ?_)
      refine r_if_gt C q16_2 (tgt := 21) dX3_lossAt_16 (by decide) hf (fun hf => ?_) (fun hf => ?_)
      · refine r_iload_n C hl 1 dX3_lossAt_21 rfl rfl ?_
        refine r_if_le C q1_0 (tgt := 36) dX3_lossAt_22 (by decide) hf (fun hf => ?_) (fun hf => ?_)
        · exact t_X3_lossAt_36 h0 C hQ _ _ _ _ hf hI (lv_sub hl [0, 1] rfl)
        · refine r_aload_n C hl 0 dX3_lossAt_25 rfl rfl ?_
          refine g_3_0 C hI h0 w_50 dX3_lossAt_26 ?_
          refine r_iload_n C hl 1 dX3_lossAt_29 rfl rfl ?_
          refine r_iconst C dX3_lossAt_30 ?_
          refine r_isub C dX3_lossAt_31 ?_
          refine r_gd hf (fun q32_3 hf => ?_)
          refine r_iald C hI 6 (n := 6) (k_3_0 h0) (by decide) rfl q32_3 dX3_lossAt_32 ?_
          refine r_gd hf (fun q33_4 hf => ?_)
          refine r_if_le C q33_4 (tgt := 52) dX3_lossAt_33 (by decide) hf (fun hf => ?_) (fun hf => ?_)
          · exact t_X3_lossAt_52 h0 C hQ _ _ _ _ hf hI (lv_sub hl [0, 1] rfl)
          · exact t_X3_lossAt_36 h0 C hQ _ _ _ _ hf hI (lv_sub hl [0, 1] rfl)
      · refine r_iconst C dX3_lossAt_19 ?_
        exact r_iret hQ hf hI dX3_lossAt_20
