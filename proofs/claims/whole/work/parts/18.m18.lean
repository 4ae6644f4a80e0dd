/-! X8_place -/
def f_X8_place (N : Nat) (o0 : Nat) (v1 : Int) (v2 : Int) (M : Mem) : Option (Int × Mem) := bnd (f_X8_isPlace N o0 v1 M) (fun r2 M2 => gd (inR r2) (if r2 = 0 then (some (-101, M2)) else (bnd (f_X8_tellPlace N o0 v1 v2 M2) (fun r11 M11 => some (r11, M11)))))
theorem F_X8_place : CalF yX8_place cX8_place 3 (some .int) 2 := ⟨w_688, w_9, by decide +kernel⟩
set_option maxRecDepth 100000 in
set_option maxHeartbeats 4000000 in
theorem c_X8_place {l : Launch} {g : GP} (hj : Inj g) {N : Nat} {M : Mem} {o0 : Nat} {v1 : Int} {v2 : Int} (h0 : kd o0 = 8) {r : Int × Mem} (hf : f_X8_place N o0 v1 v2 M = some r) : Met l yX8_place (Cond.code yX8_place cX8_place 3 (some .int) :: TB) (rmK 8 189) (PreW g M [rI g o0, iI v1, iI v2]) (PostI g r.1 r.2) 0 0 (Ad g) := by
  unfold f_X8_place at hf
  refine met_of (nL := 3) (cc := cX8_place) (M := M) (by decide +kernel) hj (Nat.le_of_ble_eq_true rfl) ?_
  intro p e s m below meth c ls C hr hlk hI hl
  have C : Cx g p s m _ c cX8_place 3 "LentGalleryModel" := C
  have hl : lv_has ls 3 [(0, rI g o0), (1, iI v1), (2, iI v2)] := hl
  have hQ := ret_i (l := l) (e := e) (R := (rmK 8 189)) (below := below) (r := r) C hr hlk (nar_i _)
  generalize s.heap = H, ([] : List Loc) = locs at hI ⊢
  refine r_aload_n C hl 0 dX8_place_0 rfl rfl ?_
  refine r_iload_n C hl 1 dX8_place_1 rfl rfl ?_
  refine r_calli (rest := []) hI hf (fun r M' h => run_V C hI F_X8_isPlace w_691 v_11 w_689 ⟨⟨Nat.le_of_ble_eq_true rfl, Nat.le_of_ble_eq_true rfl⟩, Nat.le_of_ble_eq_true rfl, Nat.le_of_ble_eq_true rfl⟩ (zX8 h0) (oX8 h0) rfl hl dX8_place_2 [iI v1] rfl rfl (Nat.le_of_ble_eq_true rfl) (c_X8_isPlace C.2.2.2.2.2.2 h0 h)) (fun r2 M2 H locs hI hf => ?_)
  refine r_gd hf (fun q5_0 hf => ?_)
  refine r_if_eq C q5_0 (tgt := 17) dX8_place_5 (by decide) hf (fun hf => ?_) (fun hf => ?_)
  · refine r_bipush C dX8_place_17 rfl ?_
    exact r_iret hQ hf hI dX8_place_19
  · refine r_aload_n C hl 0 dX8_place_8 rfl rfl ?_
    refine r_iload_n C hl 1 dX8_place_9 rfl rfl ?_
    refine r_iload_n C hl 2 dX8_place_10 rfl rfl ?_
    refine r_calli (rest := []) hI hf (fun r M' h => run_V C hI F_X8_tellPlace w_700 v_13 w_698 ⟨⟨Nat.le_of_ble_eq_true rfl, Nat.le_of_ble_eq_true rfl⟩, Nat.le_of_ble_eq_true rfl, Nat.le_of_ble_eq_true rfl⟩ (zX8 h0) (oX8 h0) rfl hl dX8_place_11 [iI v1, iI v2] rfl rfl (Nat.le_of_ble_eq_true rfl) (c_X8_tellPlace C.2.2.2.2.2.2 h0 h)) (fun r11 M11 H locs hI hf => ?_)
    refine r_goto C (tgt := 19) dX8_place_14 (by decide) ?_
    exact r_iret hQ hf hI dX8_place_19
/-! X8_prop -/
def f_X8_prop (N : Nat) (o0 : Nat) (v1 : Int) (M : Mem) : Option (Int × Mem) := bnd (f_X8_isPlace N o0 v1 M) (fun r2 M2 => gd (inR r2) (if r2 = 0 then (some (-101, M2)) else (gd (0 ≤ v1 ∧ v1 < 6) (gd (inR (M2 (ch o0 8) v1.toNat)) (if (M2 (ch o0 8) v1.toNat) = 0 then (some (-103, M2)) else (gd (inR ((M2 (ch o0 8) v1.toNat) + 3)) (if ((M2 (ch o0 8) v1.toNat) + 3) ≤ 20 then (some ((st (st M2 (ch o0 8) v1.toNat ((M2 (ch o0 8) v1.toNat) + 3)) o0 6 (((st M2 (ch o0 8) v1.toNat ((M2 (ch o0 8) v1.toNat) + 3)) o0 6) + 1)) (ch o0 8) v1.toNat, st (st M2 (ch o0 8) v1.toNat ((M2 (ch o0 8) v1.toNat) + 3)) o0 6 (((st M2 (ch o0 8) v1.toNat ((M2 (ch o0 8) v1.toNat) + 3)) o0 6) + 1))) else (some (-103, M2)))))))))
theorem F_X8_prop : CalF yX8_prop cX8_prop 2 (some .int) 1 := ⟨w_746, w_9, by decide +kernel⟩
set_option maxRecDepth 100000 in
set_option maxHeartbeats 4000000 in
theorem c_X8_prop {l : Launch} {g : GP} (hj : Inj g) {N : Nat} {M : Mem} {o0 : Nat} {v1 : Int} (h0 : kd o0 = 8) {r : Int × Mem} (hf : f_X8_prop N o0 v1 M = some r) : Met l yX8_prop (Cond.code yX8_prop cX8_prop 2 (some .int) :: TB) (rmK 2 46) (PreW g M [rI g o0, iI v1]) (PostI g r.1 r.2) 0 0 (Ad g) := by
  unfold f_X8_prop at hf
  refine met_of (nL := 2) (cc := cX8_prop) (M := M) (by decide +kernel) hj (Nat.le_of_ble_eq_true rfl) ?_
  intro p e s m below meth c ls C hr hlk hI hl
  have C : Cx g p s m _ c cX8_prop 2 "LentGalleryModel" := C
  have hl : lv_has ls 2 [(0, rI g o0), (1, iI v1)] := hl
  have hQ := ret_i (l := l) (e := e) (R := (rmK 2 46)) (below := below) (r := r) C hr hlk (nar_i _)
  generalize s.heap = H, ([] : List Loc) = locs at hI ⊢
  refine r_aload_n C hl 0 dX8_prop_0 rfl rfl ?_
  refine r_iload_n C hl 1 dX8_prop_1 rfl rfl ?_
  refine r_calli (rest := []) hI hf (fun r M' h => run_V C hI F_X8_isPlace w_691 v_11 w_689 ⟨⟨Nat.le_of_ble_eq_true rfl, Nat.le_of_ble_eq_true rfl⟩, Nat.le_of_ble_eq_true rfl, Nat.le_of_ble_eq_true rfl⟩ (zX8 h0) (oX8 h0) rfl hl dX8_prop_2 [iI v1] rfl rfl (Nat.le_of_ble_eq_true rfl) (c_X8_isPlace C.2.2.2.2.2.2 h0 h)) (fun r2 M2 H locs hI hf => ?_)
  refine r_gd hf (fun q5_0 hf => ?_)
  refine r_if_ne C q5_0 (tgt := 11) dX8_prop_5 (by decide) hf (fun hf => ?_) (fun hf => ?_)
  · refine r_aload_n C hl 0 dX8_prop_11 rfl rfl ?_
    refine g_8_8 C hI h0 w_570 dX8_prop_12 ?_
    refine r_iload_n C hl 1 dX8_prop_15 rfl rfl ?_
    refine r_gd hf (fun q16_1 hf => ?_)
    refine r_iald C hI 6 (n := 6) (k_8_8 h0) (by decide) rfl q16_1 dX8_prop_16 ?_
    refine r_gd hf (fun q17_2 hf => ?_)
    refine r_if_eq C q17_2 (tgt := 33) dX8_prop_17 (by decide) hf (fun hf => ?_) (fun hf => ?_)
    · refine r_bipush C dX8_prop_33 rfl ?_
      exact r_iret hQ hf hI dX8_prop_35
    · refine r_aload_n C hl 0 dX8_prop_20 rfl rfl ?_
      refine g_8_8 C hI h0 w_570 dX8_prop_21 ?_
      refine r_iload_n C hl 1 dX8_prop_24 rfl rfl ?_
      refine r_iald C hI 6 (n := 6) (k_8_8 h0) (by decide) rfl q16_1 dX8_prop_25 ?_
      refine r_iconst C dX8_prop_26 ?_
      refine r_iadd C dX8_prop_27 ?_
      refine r_bipush C dX8_prop_28 rfl ?_
      refine r_gd hf (fun q30_3 hf => ?_)
      refine r_ic_le C q30_3 (by decide) (tgt := 36) dX8_prop_30 (by decide) hf (fun hf => ?_) (fun hf => ?_)
      · refine r_aload_n C hl 0 dX8_prop_36 rfl rfl ?_
        refine g_8_8 C hI h0 w_570 dX8_prop_37 ?_
        refine r_iload_n C hl 1 dX8_prop_40 rfl rfl ?_
        refine r_dup2 C dX8_prop_41 rfl rfl ?_
        refine r_iald C hI 6 (n := 6) (k_8_8 h0) (by decide) rfl q16_1 dX8_prop_42 ?_
        refine r_iconst C dX8_prop_43 ?_
        refine r_iadd C dX8_prop_44 ?_
        refine r_iast C hI 6 (n := 6) (k_8_8 h0) (by decide) rfl q16_1 dX8_prop_45 (fun H locs hI => ?_)
        refine r_aload_n C hl 0 dX8_prop_46 rfl rfl ?_
        refine r_dup C dX8_prop_47 rfl ?_
        refine g_8_6 C hI h0 w_568 dX8_prop_48 ?_
        refine r_iconst C dX8_prop_51 ?_
        refine r_iadd C dX8_prop_52 ?_
        refine p_8_6 C hI h0 w_568 dX8_prop_53 (fun H locs hI => ?_)
        refine r_aload_n C hl 0 dX8_prop_56 rfl rfl ?_
        refine g_8_8 C hI h0 w_570 dX8_prop_57 ?_
        refine r_iload_n C hl 1 dX8_prop_60 rfl rfl ?_
        refine r_iald C hI 6 (n := 6) (k_8_8 h0) (by decide) rfl q16_1 dX8_prop_61 ?_
        exact r_iret hQ hf hI dX8_prop_62
      · refine r_bipush C dX8_prop_33 rfl ?_
        exact r_iret hQ hf hI dX8_prop_35
  · refine r_bipush C dX8_prop_8 rfl ?_
    exact r_iret hQ hf hI dX8_prop_10
/-! X8_tenant -/
def f_X8_tenant (N : Nat) (o0 : Nat) (v1 : Int) (v2 : Int) (M : Mem) : Option (Int × Mem) := gd (inR v1) (bnd (f_X8_in N v1 0 4 M) (fun r6 M6 => gd (inR r6) (if r6 = 0 then (some (-102, M6)) else (bnd (f_X8_isPlace N o0 v2 M6) (fun r17 M17 => gd (inR r17) (if r17 = 0 then (some (-101, M17)) else (gd (0 ≤ v2 ∧ v2 < 6) (gd (inR (M17 (ch o0 8) v2.toNat)) (if (M17 (ch o0 8) v2.toNat) = 0 then (some (-103, M17)) else (gd (inR (M17 o0 9)) (if (M17 o0 9) = 5 then (some (-104, M17)) else (gd (0 ≤ (2 * (M17 o0 9)) ∧ (2 * (M17 o0 9)) < 10) (gd (0 ≤ ((2 * ((st M17 (ch o0 10) (2 * (M17 o0 9)).toNat v1) o0 9)) + 1) ∧ ((2 * ((st M17 (ch o0 10) (2 * (M17 o0 9)).toNat v1) o0 9)) + 1) < 10) (some (((st (st (st M17 (ch o0 10) (2 * (M17 o0 9)).toNat v1) (ch o0 10) ((2 * ((st M17 (ch o0 10) (2 * (M17 o0 9)).toNat v1) o0 9)) + 1).toNat v2) o0 9 (((st (st M17 (ch o0 10) (2 * (M17 o0 9)).toNat v1) (ch o0 10) ((2 * ((st M17 (ch o0 10) (2 * (M17 o0 9)).toNat v1) o0 9)) + 1).toNat v2) o0 9) + 1)) o0 9) - 1, st (st (st M17 (ch o0 10) (2 * (M17 o0 9)).toNat v1) (ch o0 10) ((2 * ((st M17 (ch o0 10) (2 * (M17 o0 9)).toNat v1) o0 9)) + 1).toNat v2) o0 9 (((st (st M17 (ch o0 10) (2 * (M17 o0 9)).toNat v1) (ch o0 10) ((2 * ((st M17 (ch o0 10) (2 * (M17 o0 9)).toNat v1) o0 9)) + 1).toNat v2) o0 9) + 1))))))))))))))))
theorem F_X8_tenant : CalF yX8_tenant cX8_tenant 3 (some .int) 2 := ⟨w_750, w_9, by decide +kernel⟩
set_option maxRecDepth 100000 in
set_option maxHeartbeats 4000000 in
theorem c_X8_tenant {l : Launch} {g : GP} (hj : Inj g) {N : Nat} {M : Mem} {o0 : Nat} {v1 : Int} {v2 : Int} (h0 : kd o0 = 8) {r : Int × Mem} (hf : f_X8_tenant N o0 v1 v2 M = some r) : Met l yX8_tenant (Cond.code yX8_tenant cX8_tenant 3 (some .int) :: TB) (rmK 2 46) (PreW g M [rI g o0, iI v1, iI v2]) (PostI g r.1 r.2) 0 0 (Ad g) := by
  unfold f_X8_tenant at hf
  refine met_of (nL := 3) (cc := cX8_tenant) (M := M) (by decide +kernel) hj (Nat.le_of_ble_eq_true rfl) ?_
  intro p e s m below meth c ls C hr hlk hI hl
  have C : Cx g p s m _ c cX8_tenant 3 "LentGalleryModel" := C
  have hl : lv_has ls 3 [(0, rI g o0), (1, iI v1), (2, iI v2)] := hl
  have hQ := ret_i (l := l) (e := e) (R := (rmK 2 46)) (below := below) (r := r) C hr hlk (nar_i _)
  generalize s.heap = H, ([] : List Loc) = locs at hI ⊢
  refine r_iload_n C hl 1 dX8_tenant_0 rfl rfl ?_
  refine r_gd hf (fun q1_0 hf => ?_)
  refine r_i2l C q1_0 dX8_tenant_1 ?_
  refine r_lconst C (v := 0) dX8_tenant_2 rfl ?_
  refine r_ldc2 C (n := 4) w_751 rfl dX8_tenant_3 ?_
  refine r_calli (rest := []) hI hf (fun r M' h => run_S C hI F_X8_in w_659 w_658 ⟨⟨Nat.le_of_ble_eq_true rfl, Nat.le_of_ble_eq_true rfl⟩, Nat.le_of_ble_eq_true rfl, Nat.le_of_ble_eq_true rfl⟩ hl dX8_tenant_6 [lI v1, lI 0, lI 4] rfl rfl (Nat.le_of_ble_eq_true rfl) (c_X8_in C.2.2.2.2.2.2 h)) (fun r6 M6 H locs hI hf => ?_)
  refine r_gd hf (fun q9_1 hf => ?_)
  refine r_if_ne C q9_1 (tgt := 15) dX8_tenant_9 (by decide) hf (fun hf => ?_) (fun hf => ?_)
  · refine r_aload_n C hl 0 dX8_tenant_15 rfl rfl ?_
    refine r_iload_n C hl 2 dX8_tenant_16 rfl rfl ?_
    refine r_calli (rest := []) hI hf (fun r M' h => run_V C hI F_X8_isPlace w_691 v_11 w_689 ⟨⟨Nat.le_of_ble_eq_true rfl, Nat.le_of_ble_eq_true rfl⟩, Nat.le_of_ble_eq_true rfl, Nat.le_of_ble_eq_true rfl⟩ (zX8 h0) (oX8 h0) rfl hl dX8_tenant_17 [iI v2] rfl rfl (Nat.le_of_ble_eq_true rfl) (c_X8_isPlace C.2.2.2.2.2.2 h0 h)) (fun r17 M17 H locs hI hf => ?_)
    refine r_gd hf (fun q20_2 hf => ?_)
    refine r_if_ne C q20_2 (tgt := 26) dX8_tenant_20 (by decide) hf (fun hf => ?_) (fun hf => ?_)
    · refine r_aload_n C hl 0 dX8_tenant_26 rfl rfl ?_
      refine g_8_8 C hI h0 w_570 dX8_tenant_27 ?_
      refine r_iload_n C hl 2 dX8_tenant_30 rfl rfl ?_
      refine r_gd hf (fun q31_3 hf => ?_)
      refine r_iald C hI 6 (n := 6) (k_8_8 h0) (by decide) rfl q31_3 dX8_tenant_31 ?_
      refine r_gd hf (fun q32_4 hf => ?_)
      refine r_if_ne C q32_4 (tgt := 38) dX8_tenant_32 (by decide) hf (fun hf => ?_) (fun hf => ?_)
      · refine r_aload_n C hl 0 dX8_tenant_38 rfl rfl ?_
        refine g_8_9 C hI h0 w_571 dX8_tenant_39 ?_
        refine r_iconst C dX8_tenant_42 ?_
        refine r_gd hf (fun q43_5 hf => ?_)
        refine r_ic_ne C q43_5 (by decide) (tgt := 49) dX8_tenant_43 (by decide) hf (fun hf => ?_) (fun hf => ?_)
        · refine r_aload_n C hl 0 dX8_tenant_49 rfl rfl ?_
          refine g_8_10 C hI h0 w_572 dX8_tenant_50 ?_
          refine r_iconst C dX8_tenant_53 ?_
          refine r_aload_n C hl 0 dX8_tenant_54 rfl rfl ?_
          refine g_8_9 C hI h0 w_571 dX8_tenant_55 ?_
          refine r_imul C dX8_tenant_58 ?_
          refine r_iload_n C hl 1 dX8_tenant_59 rfl rfl ?_
          refine r_gd hf (fun q60_6 hf => ?_)
          refine r_iast C hI 10 (n := 10) (k_8_10 h0) (by decide) rfl q60_6 dX8_tenant_60 (fun H locs hI => ?_)
          refine r_aload_n C hl 0 dX8_tenant_61 rfl rfl ?_
          refine g_8_10 C hI h0 w_572 dX8_tenant_62 ?_
          refine r_iconst C dX8_tenant_65 ?_
          refine r_aload_n C hl 0 dX8_tenant_66 rfl rfl ?_
          refine g_8_9 C hI h0 w_571 dX8_tenant_67 ?_
          refine r_imul C dX8_tenant_70 ?_
          refine r_iconst C dX8_tenant_71 ?_
          refine r_iadd C dX8_tenant_72 ?_
          refine r_iload_n C hl 2 dX8_tenant_73 rfl rfl ?_
          refine r_gd hf (fun q74_7 hf => ?_)
          refine r_iast C hI 10 (n := 10) (k_8_10 h0) (by decide) rfl q74_7 dX8_tenant_74 (fun H locs hI => ?_)
          refine r_aload_n C hl 0 dX8_tenant_75 rfl rfl ?_
          refine r_dup C dX8_tenant_76 rfl ?_
          refine g_8_9 C hI h0 w_571 dX8_tenant_77 ?_
          refine r_iconst C dX8_tenant_80 ?_
          refine r_iadd C dX8_tenant_81 ?_
          refine p_8_9 C hI h0 w_571 dX8_tenant_82 (fun H locs hI => ?_)
          refine r_aload_n C hl 0 dX8_tenant_85 rfl rfl ?_
          refine g_8_9 C hI h0 w_571 dX8_tenant_86 ?_
          refine r_iconst C dX8_tenant_89 ?_
          refine r_isub C dX8_tenant_90 ?_
          exact r_iret hQ hf hI dX8_tenant_91
        · refine r_bipush C dX8_tenant_46 rfl ?_
          exact r_iret hQ hf hI dX8_tenant_48
      · refine r_bipush C dX8_tenant_35 rfl ?_
        exact r_iret hQ hf hI dX8_tenant_37
    · refine r_bipush C dX8_tenant_23 rfl ?_
      exact r_iret hQ hf hI dX8_tenant_25
  · refine r_bipush C dX8_tenant_12 rfl ?_
    exact r_iret hQ hf hI dX8_tenant_14
/-! X8_isCutOff -/
def f_X8_isCutOff_4 (N : Nat) (o0 : Nat) (v1 : Int) : Nat → Int → Int → Mem → Option (Int × Mem)
  | 0, _, _, _ => none
  | n + 1, v2, v3, M => gd (0 ≤ v1 ∧ v1 < 5) (gd (inR v3) (gd (inR (M (ch o0 11) v1.toNat)) (if (M (ch o0 11) v1.toNat) < v3 then (gd (v2 = 0 ∨ v2 = 1) (some (v2, M))) else (gd (inR v2) (if v2 = 0 then (gd (0 ≤ v3 ∧ v3 < 6) (gd (inR (M (ch o0 12) v3.toNat)) (if (M (ch o0 12) v3.toNat) = 0 then (f_X8_isCutOff_4 N o0 v1 n 1 (v3 + 1) M) else (f_X8_isCutOff_4 N o0 v1 n 0 (v3 + 1) M)))) else (f_X8_isCutOff_4 N o0 v1 n 1 (v3 + 1) M))))))
def f_X8_isCutOff (N : Nat) (o0 : Nat) (v1 : Int) (M : Mem) : Option (Int × Mem) := f_X8_isCutOff_4 N o0 v1 N 0 0 M
theorem F_X8_isCutOff : CalF yX8_isCutOff cX8_isCutOff 4 (some .boolean) 1 := ⟨w_770, w_9, by decide +kernel⟩
set_option maxRecDepth 100000 in
set_option maxHeartbeats 4000000 in
theorem t_X8_isCutOff_4 {g : GP} {p : Program} {l : Launch} {e : Env} {s : State} {m : MethodId} {args : Array Value} {below : List Frame} {meth : Method} {c : Code} {Q : State → Prop} {N : Nat} {o0 : Nat} {v1 : Int} (h0 : kd o0 = 8) (C : Cx g p s m args c cX8_isCutOff 4 "LentGalleryModel") {r : Int × Mem} (hQ : RetZ g p l e (rmK 0 0) s m args below meth c cX8_isCutOff r Q) : ∀ (n : Nat) (v2 v3 : Int) (M : Mem) (H : Heap) (locs : List Loc) (ls : Array Slot), f_X8_isCutOff_4 N o0 v1 n v2 v3 M = some r → Inv g s M H locs → lv_has ls 4 [(0, rI g o0), (1, iI v1), (2, iI v2), (3, iI v3)] → W p l e (rmK 0 0) s m args below meth c H locs 0 0 Q (F0 m 4 ls []) := by
  intro n
  induction n with
  | zero =>
    intro v2 v3 M H locs ls hf hI hl
    cases hf
  | succ n ih =>
    intro v2 v3 M H locs ls hf hI hl
    rw [f_X8_isCutOff_4] at hf
    refine r_iload_n C hl 3 dX8_isCutOff_4 rfl rfl ?_
    refine r_aload_n C hl 0 dX8_isCutOff_5 rfl rfl ?_
    refine g_8_11 C hI h0 w_573 dX8_isCutOff_6 ?_
    refine r_iload_n C hl 1 dX8_isCutOff_9 rfl rfl ?_
    refine r_gd hf (fun q10_0 hf => ?_)
    refine r_iald C hI 5 (n := 5) (k_8_11 h0) (by decide) rfl q10_0 dX8_isCutOff_10 ?_
    refine r_gd hf (fun q11_1 hf => ?_)
    refine r_gd hf (fun q11_2 hf => ?_)
    refine r_ic_gt C q11_1 q11_2 (tgt := 39) dX8_isCutOff_11 (by decide) hf (fun hf => ?_) (fun hf => ?_)
    · refine r_iload_n C hl 2 dX8_isCutOff_39 rfl rfl ?_
      refine r_gd hf (fun q40_3 hf => ?_)
      exact r_zret hQ q40_3 hf hI dX8_isCutOff_40
    · refine r_iload_n C hl 2 dX8_isCutOff_14 rfl rfl ?_
      refine r_gd hf (fun q15_3 hf => ?_)
      refine r_if_ne C q15_3 (tgt := 27) dX8_isCutOff_15 (by decide) hf (fun hf => ?_) (fun hf => ?_)
      · refine r_iconst C dX8_isCutOff_27 ?_
        refine r_goto C (tgt := 32) dX8_isCutOff_28 (by decide) ?_
        refine r_istore_n C hl (lv' := [(2, iI 1), (0, rI g o0), (1, iI v1), (3, iI v3)]) dX8_isCutOff_32 rfl (Nat.le_of_ble_eq_true rfl) rfl (fun ls hl => ?_)
        refine r_iinc C hl (lv' := [(3, iI (v3 + 1)), (2, iI 1), (0, rI g o0), (1, iI v1)]) 3 dX8_isCutOff_33 rfl (Nat.le_of_ble_eq_true rfl) rfl (fun ls hl => ?_)
        refine r_goto C (tgt := 4) dX8_isCutOff_36 (by decide) ?_
        exact ih _ _ _ _ _ _ hf hI (lv_sub hl [2, 3, 1, 0] rfl)
      · refine r_aload_n C hl 0 dX8_isCutOff_18 rfl rfl ?_
        refine g_8_12 C hI h0 w_574 dX8_isCutOff_19 ?_
        refine r_iload_n C hl 3 dX8_isCutOff_22 rfl rfl ?_
        refine r_gd hf (fun q23_4 hf => ?_)
        refine r_iald C hI 6 (n := 6) (k_8_12 h0) (by decide) rfl q23_4 dX8_isCutOff_23 ?_
        refine r_gd hf (fun q24_5 hf => ?_)
        refine r_if_ne C q24_5 (tgt := 31) dX8_isCutOff_24 (by decide) hf (fun hf => ?_) (fun hf => ?_)
        · refine r_iconst C dX8_isCutOff_31 ?_
          refine r_istore_n C hl (lv' := [(2, iI 0), (0, rI g o0), (1, iI v1), (3, iI v3)]) dX8_isCutOff_32 rfl (Nat.le_of_ble_eq_true rfl) rfl (fun ls hl => ?_)
          refine r_iinc C hl (lv' := [(3, iI (v3 + 1)), (2, iI 0), (0, rI g o0), (1, iI v1)]) 3 dX8_isCutOff_33 rfl (Nat.le_of_ble_eq_true rfl) rfl (fun ls hl => ?_)
          refine r_goto C (tgt := 4) dX8_isCutOff_36 (by decide) ?_
          exact ih _ _ _ _ _ _ hf hI (lv_sub hl [2, 3, 1, 0] rfl)
        · refine r_iconst C dX8_isCutOff_27 ?_
          refine r_goto C (tgt := 32) dX8_isCutOff_28 (by decide) ?_
          refine r_istore_n C hl (lv' := [(2, iI 1), (0, rI g o0), (1, iI v1), (3, iI v3)]) dX8_isCutOff_32 rfl (Nat.le_of_ble_eq_true rfl) rfl (fun ls hl => ?_)
          refine r_iinc C hl (lv' := [(3, iI (v3 + 1)), (2, iI 1), (0, rI g o0), (1, iI v1)]) 3 dX8_isCutOff_33 rfl (Nat.le_of_ble_eq_true rfl) rfl (fun ls hl => ?_)
          refine r_goto C (tgt := 4) dX8_isCutOff_36 (by decide) ?_
          exact ih _ _ _ _ _ _ hf hI (lv_sub hl [2, 3, 1, 0] rfl)
set_option maxRecDepth 100000 in
set_option maxHeartbeats 4000000 in
theorem c_X8_isCutOff {l : Launch} {g : GP} (hj : Inj g) {N : Nat} {M : Mem} {o0 : Nat} {v1 : Int} (h0 : kd o0 = 8) {r : Int × Mem} (hf : f_X8_isCutOff N o0 v1 M = some r) : Met l yX8_isCutOff (Cond.code yX8_isCutOff cX8_isCutOff 4 (some .boolean) :: TB) (rmK 0 0) (PreW g M [rI g o0, iI v1]) (PostI g r.1 r.2) 0 0 (Ad g) := by
  unfold f_X8_isCutOff at hf
  refine met_of (nL := 4) (cc := cX8_isCutOff) (M := M) (by decide +kernel) hj (Nat.le_of_ble_eq_true rfl) ?_
  intro p e s m below meth c ls C hr hlk hI hl
  have C : Cx g p s m _ c cX8_isCutOff 4 "LentGalleryModel" := C
  have hl : lv_has ls 4 [(0, rI g o0), (1, iI v1)] := hl
  have hQ := ret_z (l := l) (e := e) (R := (rmK 0 0)) (below := below) (r := r) C hr hlk
  generalize s.heap = H, ([] : List Loc) = locs at hI ⊢
  refine r_iconst C dX8_isCutOff_0 ?_
  refine r_istore_n C hl (lv' := [(2, iI 0), (0, rI g o0), (1, iI v1)]) dX8_isCutOff_1 rfl (Nat.le_of_ble_eq_true rfl) rfl (fun ls hl => ?_)
  refine r_iconst C dX8_isCutOff_2 ?_
  refine r_istore_n C hl (lv' := [(3, iI 0), (2, iI 0), (0, rI g o0), (1, iI v1)]) dX8_isCutOff_3 rfl (Nat.le_of_ble_eq_true rfl) rfl (fun ls hl => ?_)
  exact t_X8_isCutOff_4 h0 C hQ _ _ _ _ _ _ _ hf hI (lv_sub hl [2, 3, 1, 0] rfl)
/-! X8_gasping -/
def f_X8_gasping_86 (N : Nat) (o0 : Nat) (k9 : Int → Int → Int → Mem → Option (Int × Mem)) (k18 : Int → Int → Int → Int → Mem → Option (Int × Mem)) (v2 : Int) (v3 : Int) (v4 : Int) (v6 : Int) (s0 : Int) (s1 : Int) (M : Mem) : Option (Int × Mem) := gd (inR v6) (if v6 = 0 then (k18 (s0 - s1) (i_or v2 0) v3 (v4 + 1) M) else (k18 (s0 - s1) (i_or v2 (i_shl 1 v4)) v3 (v4 + 1) M))
def f_X8_gasping_72 (N : Nat) (o0 : Nat) (k9 : Int → Int → Int → Mem → Option (Int × Mem)) (k18 : Int → Int → Int → Int → Mem → Option (Int × Mem)) (v1 : Int) (v2 : Int) (v3 : Int) (v4 : Int) (v5 : Int) (s0 : Int) (M : Mem) : Option (Int × Mem) := gd (inR s0) (if s0 = 0 then (f_X8_gasping_86 N o0 k9 k18 v2 v3 v4 s0 v1 v5 M) else (f_X8_gasping_86 N o0 k9 k18 v2 v3 v4 s0 v1 0 M))
def f_X8_gasping_67 (N : Nat) (o0 : Nat) (k9 : Int → Int → Int → Mem → Option (Int × Mem)) (k18 : Int → Int → Int → Int → Mem → Option (Int × Mem)) (v1 : Int) (v2 : Int) (v3 : Int) (v4 : Int) (v5 : Int) (M : Mem) : Option (Int × Mem) := f_X8_gasping_72 N o0 k9 k18 v1 v2 v3 v4 v5 1 M
def f_X8_gasping_18 (N : Nat) (o0 : Nat) (k9 : Int → Int → Int → Mem → Option (Int × Mem)) : Nat → Int → Int → Int → Int → Mem → Option (Int × Mem)
  | 0, _, _, _, _, _ => none
  | n + 1, v1, v2, v3, v4, M => gd (inR v4) (gd (inR (M o0 9)) (if (M o0 9) ≤ v4 then (k9 v1 v2 (v3 + 1) M) else (gd (0 ≤ v4 ∧ v4 < 5) (gd (inR (M (ch o0 11) v4.toNat)) (gd (inR v3) (if (M (ch o0 11) v4.toNat) = v3 then (gd (0 ≤ (2 * v4) ∧ (2 * v4) < 10) (bnd (f_X8_breathBy N (M (ch o0 10) (2 * v4).toNat) M) (fun r47 M47 => bnd (f_X8_isCutOff N o0 v4 M47) (fun r55 M55 => gd (inR r55) (if r55 = 0 then (gd (inR r47) (gd (inR v1) (if r47 ≤ v1 then (f_X8_gasping_72 N o0 k9 (f_X8_gasping_18 N o0 k9 n) v1 v2 v3 v4 r47 0 M55) else (f_X8_gasping_67 N o0 k9 (f_X8_gasping_18 N o0 k9 n) v1 v2 v3 v4 r47 M55)))) else (f_X8_gasping_67 N o0 k9 (f_X8_gasping_18 N o0 k9 n) v1 v2 v3 v4 r47 M55)))))) else (f_X8_gasping_18 N o0 k9 n v1 v2 v3 (v4 + 1) M)))))))
def f_X8_gasping_9 (N : Nat) (o0 : Nat) : Nat → Int → Int → Int → Mem → Option (Int × Mem)
  | 0, _, _, _, _ => none
  | n + 1, v1, v2, v3, M => gd (inR v3) (if 6 ≤ v3 then (some (v2, M)) else (f_X8_gasping_18 N o0 (f_X8_gasping_9 N o0 n) N v1 v2 v3 0 M))
def f_X8_gasping (N : Nat) (o0 : Nat) (M : Mem) : Option (Int × Mem) := f_X8_gasping_9 N o0 N (M o0 2) 0 0 M
theorem F_X8_gasping : CalF yX8_gasping cX8_gasping 7 (some .int) 0 := ⟨w_774, w_9, by decide +kernel⟩
set_option maxRecDepth 100000 in
set_option maxHeartbeats 4000000 in
theorem t_X8_gasping_86 {g : GP} {p : Program} {l : Launch} {e : Env} {s : State} {m : MethodId} {args : Array Value} {below : List Frame} {meth : Method} {c : Code} {Q : State → Prop} {N : Nat} {o0 : Nat} (h0 : kd o0 = 8) (C : Cx g p s m args c cX8_gasping 7 "LentGalleryModel") {r : Int × Mem} (hQ : RetI g p l e (rmK 1 23) s m args below meth c cX8_gasping r Q) {k9 : Int → Int → Int → Mem → Option (Int × Mem)} (hk9 : ∀ (v1 v2 v3 : Int) (M : Mem) (H : Heap) (locs : List Loc) (ls : Array Slot), k9 v1 v2 v3 M = some r → Inv g s M H locs → lv_has ls 7 [(0, rI g o0), (1, iI v1), (2, iI v2), (3, iI v3)] → W p l e (rmK 1 23) s m args below meth c H locs 0 0 Q (F0 m 9 ls [])) {k18 : Int → Int → Int → Int → Mem → Option (Int × Mem)} (hk18 : ∀ (v1 v2 v3 v4 : Int) (M : Mem) (H : Heap) (locs : List Loc) (ls : Array Slot), k18 v1 v2 v3 v4 M = some r → Inv g s M H locs → lv_has ls 7 [(0, rI g o0), (1, iI v1), (2, iI v2), (3, iI v3), (4, iI v4)] → W p l e (rmK 1 23) s m args below meth c H locs 0 0 Q (F0 m 18 ls [])) : ∀ (v2 v3 v4 v6 s0 s1 : Int) (M : Mem) (H : Heap) (locs : List Loc) (ls : Array Slot), f_X8_gasping_86 N o0 k9 k18 v2 v3 v4 v6 s0 s1 M = some r → Inv g s M H locs → lv_has ls 7 [(0, rI g o0), (2, iI v2), (3, iI v3), (4, iI v4), (6, iI v6)] → W p l e (rmK 1 23) s m args below meth c H locs 0 0 Q (F0 m 86 ls [iI s1, iI s0]) := by
  intro v2 v3 v4 v6 s0 s1 M H locs ls hf hI hl
  unfold f_X8_gasping_86 at hf
  refine r_isub C dX8_gasping_86 ?_
  refine r_istore_n C hl (lv' := [(1, iI (s0 - s1)), (0, rI g o0), (2, iI v2), (3, iI v3), (4, iI v4), (6, iI v6)]) dX8_gasping_87 rfl (Nat.le_of_ble_eq_true rfl) rfl (fun ls hl => ?_)
  refine r_iload_n C hl 2 dX8_gasping_88 rfl rfl ?_
  refine r_iload C hl 5 dX8_gasping_89 rfl ?_
  refine r_gd hf (fun q91_0 hf => ?_)
  refine r_if_eq C q91_0 (tgt := 101) dX8_gasping_91 (by decide) hf (fun hf => ?_) (fun hf => ?_)
  · refine r_iconst C dX8_gasping_101 ?_
    refine r_ior C dX8_gasping_102 ?_
    refine r_istore_n C hl (lv' := [(2, iI (i_or v2 0)), (1, iI (s0 - s1)), (0, rI g o0), (3, iI v3), (4, iI v4), (6, iI v6)]) dX8_gasping_103 rfl (Nat.le_of_ble_eq_true rfl) rfl (fun ls hl => ?_)
    refine r_iinc C hl (lv' := [(4, iI (v4 + 1)), (2, iI (i_or v2 0)), (1, iI (s0 - s1)), (0, rI g o0), (3, iI v3), (6, iI v6)]) 4 dX8_gasping_104 rfl (Nat.le_of_ble_eq_true rfl) rfl (fun ls hl => ?_)
    refine r_goto C (tgt := 18) dX8_gasping_107 (by decide) ?_
    exact hk18 _ _ _ _ _ _ _ _ hf hI (lv_sub hl [3, 2, 1, 4, 0] rfl)
  · refine r_iconst C dX8_gasping_94 ?_
    refine r_iload C hl 4 dX8_gasping_95 rfl ?_
    refine r_ishl C dX8_gasping_97 ?_
    refine r_goto C (tgt := 102) dX8_gasping_98 (by decide) ?_
    refine r_ior C dX8_gasping_102 ?_
    refine r_istore_n C hl (lv' := [(2, iI (i_or v2 (i_shl 1 v4))), (1, iI (s0 - s1)), (0, rI g o0), (3, iI v3), (4, iI v4), (6, iI v6)]) dX8_gasping_103 rfl (Nat.le_of_ble_eq_true rfl) rfl (fun ls hl => ?_)
    refine r_iinc C hl (lv' := [(4, iI (v4 + 1)), (2, iI (i_or v2 (i_shl 1 v4))), (1, iI (s0 - s1)), (0, rI g o0), (3, iI v3), (6, iI v6)]) 4 dX8_gasping_104 rfl (Nat.le_of_ble_eq_true rfl) rfl (fun ls hl => ?_)
    refine r_goto C (tgt := 18) dX8_gasping_107 (by decide) ?_
    exact hk18 _ _ _ _ _ _ _ _ hf hI (lv_sub hl [3, 2, 1, 4, 0] rfl)
set_option maxRecDepth 100000 in
set_option maxHeartbeats 4000000 in
theorem t_X8_gasping_72 {g : GP} {p : Program} {l : Launch} {e : Env} {s : State} {m : MethodId} {args : Array Value} {below : List Frame} {meth : Method} {c : Code} {Q : State → Prop} {N : Nat} {o0 : Nat} (h0 : kd o0 = 8) (C : Cx g p s m args c cX8_gasping 7 "LentGalleryModel") {r : Int × Mem} (hQ : RetI g p l e (rmK 1 23) s m args below meth c cX8_gasping r Q) {k9 : Int → Int → Int → Mem → Option (Int × Mem)} (hk9 : ∀ (v1 v2 v3 : Int) (M : Mem) (H : Heap) (locs : List Loc) (ls : Array Slot), k9 v1 v2 v3 M = some r → Inv g s M H locs → lv_has ls 7 [(0, rI g o0), (1, iI v1), (2, iI v2), (3, iI v3)] → W p l e (rmK 1 23) s m args below meth c H locs 0 0 Q (F0 m 9 ls [])) {k18 : Int → Int → Int → Int → Mem → Option (Int × Mem)} (hk18 : ∀ (v1 v2 v3 v4 : Int) (M : Mem) (H : Heap) (locs : List Loc) (ls : Array Slot), k18 v1 v2 v3 v4 M = some r → Inv g s M H locs → lv_has ls 7 [(0, rI g o0), (1, iI v1), (2, iI v2), (3, iI v3), (4, iI v4)] → W p l e (rmK 1 23) s m args below meth c H locs 0 0 Q (F0 m 18 ls [])) : ∀ (v1 v2 v3 v4 v5 s0 : Int) (M : Mem) (H : Heap) (locs : List Loc) (ls : Array Slot), f_X8_gasping_72 N o0 k9 k18 v1 v2 v3 v4 v5 s0 M = some r → Inv g s M H locs → lv_has ls 7 [(0, rI g o0), (1, iI v1), (2, iI v2), (3, iI v3), (4, iI v4), (5, iI v5)] → W p l e (rmK 1 23) s m args below meth c H locs 0 0 Q (F0 m 72 ls [iI s0]) := by
  intro v1 v2 v3 v4 v5 s0 M H locs ls hf hI hl
  unfold f_X8_gasping_72 at hf
  refine r_istore C hl (lv' := [(6, iI s0), (0, rI g o0), (1, iI v1), (2, iI v2), (3, iI v3), (4, iI v4), (5, iI v5)]) dX8_gasping_72 (Nat.le_of_ble_eq_true rfl) rfl (fun ls hl => ?_)
  refine r_iload_n C hl 2 dX8_gasping_74 rfl rfl ?_
  refine r_iload C hl 0 dX8_gasping_75 rfl ?_
  refine r_gd hf (fun q77_0 hf => ?_)
  refine r_if_eq C q77_0 (tgt := 84) dX8_gasping_77 (by decide) hf (fun hf => ?_) (fun hf => ?_)
  · refine r_iload C hl 6 dX8_gasping_84 rfl ?_
    exact t_X8_gasping_86 h0 C hQ hk9 hk18 _ _ _ _ _ _ _ _ _ _ hf hI (lv_sub hl [1, 3, 4, 5, 0] rfl)
  · refine r_iconst C dX8_gasping_80 ?_
    refine r_goto C (tgt := 86) dX8_gasping_81 (by decide) ?_
    exact t_X8_gasping_86 h0 C hQ hk9 hk18 _ _ _ _ _ _ _ _ _ _ hf hI (lv_sub hl [1, 3, 4, 5, 0] rfl)
set_option maxRecDepth 100000 in
set_option maxHeartbeats 4000000 in
theorem t_X8_gasping_67 {g : GP} {p : Program} {l : Launch} {e : Env} {s : State} {m : MethodId} {args : Array Value} {below : List Frame} {meth : Method} {c : Code} {Q : State → Prop} {N : Nat} {o0 : Nat} (h0 : kd o0 = 8) (C : Cx g p s m args c cX8_gasping 7 "LentGalleryModel") {r : Int × Mem} (hQ : RetI g p l e (rmK 1 23) s m args below meth c cX8_gasping r Q) {k9 : Int → Int → Int → Mem → Option (Int × Mem)} (hk9 : ∀ (v1 v2 v3 : Int) (M : Mem) (H : Heap) (locs : List Loc) (ls : Array Slot), k9 v1 v2 v3 M = some r → Inv g s M H locs → lv_has ls 7 [(0, rI g o0), (1, iI v1), (2, iI v2), (3, iI v3)] → W p l e (rmK 1 23) s m args below meth c H locs 0 0 Q (F0 m 9 ls [])) {k18 : Int → Int → Int → Int → Mem → Option (Int × Mem)} (hk18 : ∀ (v1 v2 v3 v4 : Int) (M : Mem) (H : Heap) (locs : List Loc) (ls : Array Slot), k18 v1 v2 v3 v4 M = some r → Inv g s M H locs → lv_has ls 7 [(0, rI g o0), (1, iI v1), (2, iI v2), (3, iI v3), (4, iI v4)] → W p l e (rmK 1 23) s m args below meth c H locs 0 0 Q (F0 m 18 ls [])) : ∀ (v1 v2 v3 v4 v5 : Int) (M : Mem) (H : Heap) (locs : List Loc) (ls : Array Slot), f_X8_gasping_67 N o0 k9 k18 v1 v2 v3 v4 v5 M = some r → Inv g s M H locs → lv_has ls 7 [(0, rI g o0), (1, iI v1), (2, iI v2), (3, iI v3), (4, iI v4), (5, iI v5)] → W p l e (rmK 1 23) s m args below meth c H locs 0 0 Q (F0 m 67 ls []) := by
  intro v1 v2 v3 v4 v5 M H locs ls hf hI hl
  unfold f_X8_gasping_67 at hf
  refine r_iconst C dX8_gasping_67 ?_
  refine r_goto C (tgt := 72) dX8_gasping_68 (by decide) ?_
  exact t_X8_gasping_72 h0 C hQ hk9 hk18 _ _ _ _ _ _ _ _ _ _ hf hI (lv_sub hl [0, 1, 2, 3, 4, 5] rfl)
set_option maxRecDepth 100000 in
set_option maxHeartbeats 4000000 in
theorem t_X8_gasping_18 {g : GP} {p : Program} {l : Launch} {e : Env} {s : State} {m : MethodId} {args : Array Value} {below : List Frame} {meth : Method} {c : Code} {Q : State → Prop} {N : Nat} {o0 : Nat} (h0 : kd o0 = 8) (C : Cx g p s m args c cX8_gasping 7 "LentGalleryModel") {r : Int × Mem} (hQ : RetI g p l e (rmK 1 23) s m args below meth c cX8_gasping r Q) {k9 : Int → Int → Int → Mem → Option (Int × Mem)} (hk9 : ∀ (v1 v2 v3 : Int) (M : Mem) (H : Heap) (locs : List Loc) (ls : Array Slot), k9 v1 v2 v3 M = some r → Inv g s M H locs → lv_has ls 7 [(0, rI g o0), (1, iI v1), (2, iI v2), (3, iI v3)] → W p l e (rmK 1 23) s m args below meth c H locs 0 0 Q (F0 m 9 ls [])) : ∀ (n : Nat) (v1 v2 v3 v4 : Int) (M : Mem) (H : Heap) (locs : List Loc) (ls : Array Slot), f_X8_gasping_18 N o0 k9 n v1 v2 v3 v4 M = some r → Inv g s M H locs → lv_has ls 7 [(0, rI g o0), (1, iI v1), (2, iI v2), (3, iI v3), (4, iI v4)] → W p l e (rmK 1 23) s m args below meth c H locs 0 0 Q (F0 m 18 ls []) := by
  intro n
  induction n with
  | zero =>
    intro v1 v2 v3 v4 M H locs ls hf hI hl
    cases hf
  | succ n ih =>
    intro v1 v2 v3 v4 M H locs ls hf hI hl
    rw [f_X8_gasping_18] at hf
    refine r_iload C hl 4 dX8_gasping_18 rfl ?_
    refine r_aload_n C hl 0 dX8_gasping_20 rfl rfl ?_
    refine g_8_9 C hI h0 w_571 dX8_gasping_21 ?_
    refine r_gd hf (fun q24_0 hf => ?_)
    refine r_gd hf (fun q24_1 hf => ?_)
    refine r_ic_ge C q24_0 q24_1 (tgt := 110) dX8_gasping_24 (by decide) hf (fun hf => ?_) (fun hf => ?_)
    · refine r_iinc C hl (lv' := [(3, iI (v3 + 1)), (0, rI g o0), (1, iI v1), (2, iI v2), (4, iI v4)]) 3 dX8_gasping_110 rfl (Nat.le_of_ble_eq_true rfl) rfl (fun ls hl => ?_)
      refine r_goto C (tgt := 9) dX8_gasping_113 (by decide) ?_
      exact hk9 _ _ _ _ _ _ _ hf hI (lv_sub hl [1, 2, 3, 0] rfl)
    · refine r_aload_n C hl 0 dX8_gasping_27 rfl rfl ?_
      refine g_8_11 C hI h0 w_573 dX8_gasping_28 ?_
      refine r_iload C hl 4 dX8_gasping_31 rfl ?_
      refine r_gd hf (fun q33_2 hf => ?_)
      refine r_iald C hI 5 (n := 5) (k_8_11 h0) (by decide) rfl q33_2 dX8_gasping_33 ?_
      refine r_iload_n C hl 3 dX8_gasping_34 rfl rfl ?_
      refine r_gd hf (fun q35_3 hf => ?_)
      refine r_gd hf (fun q35_4 hf => ?_)
      refine r_ic_ne C q35_3 q35_4 (tgt := 104) dX8_gasping_35 (by decide) hf (fun hf => ?_) (fun hf => ?_)
      · refine r_iinc C hl (lv' := [(4, iI (v4 + 1)), (0, rI g o0), (1, iI v1), (2, iI v2), (3, iI v3)]) 4 dX8_gasping_104 rfl (Nat.le_of_ble_eq_true rfl) rfl (fun ls hl => ?_)
        refine r_goto C (tgt := 18) dX8_gasping_107 (by decide) ?_
        exact ih _ _ _ _ _ _ _ _ hf hI (lv_sub hl [1, 2, 3, 4, 0] rfl)
      · refine r_aload_n C hl 0 dX8_gasping_38 rfl rfl ?_
        refine g_8_10 C hI h0 w_572 dX8_gasping_39 ?_
        refine r_iconst C dX8_gasping_42 ?_
        refine r_iload C hl 4 dX8_gasping_43 rfl ?_
        refine r_imul C dX8_gasping_45 ?_
        refine r_gd hf (fun q46_5 hf => ?_)
        refine r_iald C hI 10 (n := 10) (k_8_10 h0) (by decide) rfl q46_5 dX8_gasping_46 ?_
        refine r_calli (rest := []) hI hf (fun r M' h => run_S C hI F_X8_breathBy w_765 w_764 ⟨⟨Nat.le_of_ble_eq_true rfl, Nat.le_of_ble_eq_true rfl⟩, Nat.le_of_ble_eq_true rfl, Nat.le_of_ble_eq_true rfl⟩ hl dX8_gasping_47 [iI (M (ch o0 10) (2 * v4).toNat)] rfl rfl (Nat.le_of_ble_eq_true rfl) (c_X8_breathBy C.2.2.2.2.2.2 h)) (fun r47 M47 H locs hI hf => ?_)
        refine r_istore C hl (lv' := [(5, iI r47), (0, rI g o0), (1, iI v1), (2, iI v2), (3, iI v3), (4, iI v4)]) dX8_gasping_50 (Nat.le_of_ble_eq_true rfl) rfl (fun ls hl => ?_)
        refine r_aload_n C hl 1 dX8_gasping_52 rfl rfl ?_
        refine r_iload C hl 5 dX8_gasping_53 rfl ?_
        refine r_calli (rest := []) hI hf (fun r M' h => run_V C hI F_X8_isCutOff w_769 v_24 w_767 ⟨⟨Nat.le_of_ble_eq_true rfl, Nat.le_of_ble_eq_true rfl⟩, Nat.le_of_ble_eq_true rfl, Nat.le_of_ble_eq_true rfl⟩ (zX8 h0) (oX8 h0) rfl hl dX8_gasping_55 [iI v4] rfl rfl (Nat.le_of_ble_eq_true rfl) (c_X8_isCutOff C.2.2.2.2.2.2 h0 h)) (fun r55 M55 H locs hI hf => ?_)
        refine r_gd hf (fun q58_6 hf => ?_)
        refine r_if_ne C q58_6 (tgt := 67) dX8_gasping_58 (by decide) hf (fun hf => ?_) (fun hf => ?_)
        · exact t_X8_gasping_67 h0 C hQ hk9 ih _ _ _ _ _ _ _ _ _ hf hI (lv_sub hl [1, 2, 3, 4, 5, 0] rfl)
        · refine r_iload C hl 0 dX8_gasping_61 rfl ?_
          refine r_iload_n C hl 2 dX8_gasping_63 rfl rfl ?_
          refine r_gd hf (fun q64_7 hf => ?_)
          refine r_gd hf (fun q64_8 hf => ?_)
          refine r_ic_le C q64_7 q64_8 (tgt := 71) dX8_gasping_64 (by decide) hf (fun hf => ?_) (fun hf => ?_)
          · refine r_iconst C dX8_gasping_71 ?_
            exact t_X8_gasping_72 h0 C hQ hk9 ih _ _ _ _ _ _ _ _ _ _ hf hI (lv_sub hl [1, 2, 3, 4, 5, 0] rfl)
          · exact t_X8_gasping_67 h0 C hQ hk9 ih _ _ _ _ _ _ _ _ _ hf hI (lv_sub hl [1, 2, 3, 4, 5, 0] rfl)
set_option maxRecDepth 100000 in
set_option maxHeartbeats 4000000 in
theorem t_X8_gasping_9 {g : GP} {p : Program} {l : Launch} {e : Env} {s : State} {m : MethodId} {args : Array Value} {below : List Frame} {meth : Method} {c : Code} {Q : State → Prop} {N : Nat} {o0 : Nat} (h0 : kd o0 = 8) (C : Cx g p s m args c cX8_gasping 7 "LentGalleryModel") {r : Int × Mem} (hQ : RetI g p l e (rmK 1 23) s m args below meth c cX8_gasping r Q) : ∀ (n : Nat) (v1 v2 v3 : Int) (M : Mem) (H : Heap) (locs : List Loc) (ls : Array Slot), f_X8_gasping_9 N o0 n v1 v2 v3 M = some r → Inv g s M H locs → lv_has ls 7 [(0, rI g o0), (1, iI v1), (2, iI v2), (3, iI v3)] → W p l e (rmK 1 23) s m args below meth c H locs 0 0 Q (F0 m 9 ls []) := by
  intro n
  induction n with
  | zero =>
    intro v1 v2 v3 M H locs ls hf hI hl
    cases hf
  | succ n ih =>
    intro v1 v2 v3 M H locs ls hf hI hl
    rw [f_X8_gasping_9] at hf
    refine r_iload_n C hl 3 dX8_gasping_9 rfl rfl ?_
    refine r_bipush C dX8_gasping_10 rfl ?_
    refine r_gd hf (fun q12_0 hf => ?_)
    refine r_ic_ge C q12_0 (by decide) (tgt := 116) dX8_gasping_12 (by decide) hf (fun hf => ?_) (fun hf => ?_)
    · refine r_iload_n C hl 2 dX8_gasping_116 rfl rfl ?_
      exact r_iret hQ hf hI dX8_gasping_117
    · refine r_iconst C dX8_gasping_15 ?_
      refine r_istore C hl (lv' := [(4, iI 0), (0, rI g o0), (1, iI v1), (2, iI v2), (3, iI v3)]) dX8_gasping_16 (Nat.le_of_ble_eq_true rfl) rfl (fun ls hl => ?_)
      exact t_X8_gasping_18 h0 C hQ ih _ _ _ _ _ _ _ _ _ hf hI (lv_sub hl [1, 2, 3, 4, 0] rfl)
set_option maxRecDepth 100000 in
set_option maxHeartbeats 4000000 in
theorem c_X8_gasping {l : Launch} {g : GP} (hj : Inj g) {N : Nat} {M : Mem} {o0 : Nat} (h0 : kd o0 = 8) {r : Int × Mem} (hf : f_X8_gasping N o0 M = some r) : Met l yX8_gasping (Cond.code yX8_gasping cX8_gasping 7 (some .int) :: TB) (rmK 1 23) (PreW g M [rI g o0]) (PostI g r.1 r.2) 0 0 (Ad g) := by
  unfold f_X8_gasping at hf
  refine met_of (nL := 7) (cc := cX8_gasping) (M := M) (by decide +kernel) hj (Nat.le_of_ble_eq_true rfl) ?_
  intro p e s m below meth c ls C hr hlk hI hl
  have C : Cx g p s m _ c cX8_gasping 7 "LentGalleryModel" := C
  have hl : lv_has ls 7 [(0, rI g o0)] := hl
  have hQ := ret_i (l := l) (e := e) (R := (rmK 1 23)) (below := below) (r := r) C hr hlk (nar_i _)
  generalize s.heap = H, ([] : List Loc) = locs at hI ⊢
  refine r_aload_n C hl 0 dX8_gasping_0 rfl rfl ?_
  refine g_8_2 C hI h0 w_564 dX8_gasping_1 ?_
  refine r_istore_n C hl (lv' := [(1, iI (M o0 2)), (0, rI g o0)]) dX8_gasping_4 rfl (Nat.le_of_ble_eq_true rfl) rfl (fun ls hl => ?_)
  refine r_iconst C dX8_gasping_5 ?_
  refine r_istore_n C hl (lv' := [(2, iI 0), (1, iI (M o0 2)), (0, rI g o0)]) dX8_gasping_6 rfl (Nat.le_of_ble_eq_true rfl) rfl (fun ls hl => ?_)
  refine r_iconst C dX8_gasping_7 ?_
  refine r_istore_n C hl (lv' := [(3, iI 0), (2, iI 0), (1, iI (M o0 2)), (0, rI g o0)]) dX8_gasping_8 rfl (Nat.le_of_ble_eq_true rfl) rfl (fun ls hl => ?_)
  exact t_X8_gasping_9 h0 C hQ _ _ _ _ _ _ _ _ hf hI (lv_sub hl [3, 2, 1, 0] rfl)
/-! X8_tell -/
def f_X8_tell (N : Nat) (o0 : Nat) (v1 : Int) (v2 : Int) (M : Mem) : Option (Int × Mem) := bnv (f_X8_asItIs N o0 M) (fun M1 => gd (inR v2) (if v2 < 0 ∨ 5 < v2 then (some (-102, M1)) else (if v2 = 0 then (gd (0 ≤ ((2 * v1) + v2) ∧ ((2 * v1) + v2) < 10) (some (M1 (ch o0 10) ((2 * v1) + v2).toNat, M1))) else (if v2 = 1 then (gd (0 ≤ ((2 * v1) + v2) ∧ ((2 * v1) + v2) < 10) (some (M1 (ch o0 10) ((2 * v1) + v2).toNat, M1))) else (if v2 = 2 then (gd (0 ≤ (2 * v1) ∧ (2 * v1) < 10) (bnd (f_X8_weightBy N (M1 (ch o0 10) (2 * v1).toNat) M1) (fun r63 M63 => some (r63, M63)))) else (if v2 = 3 then (gd (0 ≤ (2 * v1) ∧ (2 * v1) < 10) (bnd (f_X8_breathBy N (M1 (ch o0 10) (2 * v1).toNat) M1) (fun r75 M75 => some (r75, M75)))) else (if v2 = 4 then (bnd (f_X8_isCutOff N o0 v1 M1) (fun r81 M81 => gd (inR r81) (if r81 = 0 then (some (0, M81)) else (some (1, M81))))) else (bnd (f_X8_gasping N o0 M1) (fun r94 M94 => some (i_and (i_shr r94 v1) 1, M94))))))))))
theorem F_X8_tell : CalF yX8_tell cX8_tell 3 (some .int) 2 := ⟨w_763, w_9, by decide +kernel⟩
set_option maxRecDepth 100000 in
set_option maxHeartbeats 4000000 in
theorem c_X8_tell {l : Launch} {g : GP} (hj : Inj g) {N : Nat} {M : Mem} {o0 : Nat} {v1 : Int} {v2 : Int} (h0 : kd o0 = 8) {r : Int × Mem} (hf : f_X8_tell N o0 v1 v2 M = some r) : Met l yX8_tell (Cond.code yX8_tell cX8_tell 3 (some .int) :: TB) (rmK 2 49) (PreW g M [rI g o0, iI v1, iI v2]) (PostI g r.1 r.2) 0 0 (Ad g) := by
  unfold f_X8_tell at hf
  refine met_of (nL := 3) (cc := cX8_tell) (M := M) (by decide +kernel) hj (Nat.le_of_ble_eq_true rfl) ?_
  intro p e s m below meth c ls C hr hlk hI hl
  have C : Cx g p s m _ c cX8_tell 3 "LentGalleryModel" := C
  have hl : lv_has ls 3 [(0, rI g o0), (1, iI v1), (2, iI v2)] := hl
  have hQ := ret_i (l := l) (e := e) (R := (rmK 2 49)) (below := below) (r := r) C hr hlk (nar_i _)
  generalize s.heap = H, ([] : List Loc) = locs at hI ⊢
  refine r_aload_n C hl 0 dX8_tell_0 rfl rfl ?_
  refine r_callv (rest := []) hI hf (fun M' h => run_V C hI F_X8_asItIs w_704 v_14 w_702 ⟨⟨Nat.le_of_ble_eq_true rfl, Nat.le_of_ble_eq_true rfl⟩, Nat.le_of_ble_eq_true rfl, Nat.le_of_ble_eq_true rfl⟩ (zX8 h0) (oX8 h0) rfl hl dX8_tell_1 [] rfl rfl (Nat.le_of_ble_eq_true rfl) (c_X8_asItIs C.2.2.2.2.2.2 h0 h)) (fun M1 H locs hI hf => ?_)
  refine r_iload_n C hl 2 dX8_tell_4 rfl rfl ?_
  refine r_gd hf (fun q5_0 hf => ?_)
  refine r_if hf (fun hc hf => ?_) (fun hc hf => ?_)
  · refine r_tabOut C q5_0 dX8_tell_5 hc (tgt := 102) (by decide) ?_
    refine r_bipush C dX8_tell_102 rfl ?_
    exact r_iret hQ hf hI dX8_tell_104
  · refine r_if hf (fun hc0 hf => ?_) (fun hc0 hf => ?_)
    · refine r_tabIn C 0 hc0 (by decide) dX8_tell_5 (by decide) (by decide) (off := 39) rfl (tgt := 44) (by decide) ?_
      refine r_aload_n C hl 0 dX8_tell_44 rfl rfl ?_
      refine g_8_10 C hI h0 w_572 dX8_tell_45 ?_
      refine r_iconst C dX8_tell_48 ?_
      refine r_iload_n C hl 1 dX8_tell_49 rfl rfl ?_
      refine r_imul C dX8_tell_50 ?_
      refine r_iload_n C hl 2 dX8_tell_51 rfl rfl ?_
      refine r_iadd C dX8_tell_52 ?_
      refine r_gd hf (fun q53_1 hf => ?_)
      refine r_iald C hI 10 (n := 10) (k_8_10 h0) (by decide) rfl q53_1 dX8_tell_53 ?_
      exact r_iret hQ hf hI dX8_tell_54
    · refine r_if hf (fun hc1 hf => ?_) (fun hc1 hf => ?_)
      · refine r_tabIn C 1 hc1 (by decide) dX8_tell_5 (by decide) (by decide) (off := 39) rfl (tgt := 44) (by decide) ?_
        refine r_aload_n C hl 0 dX8_tell_44 rfl rfl ?_
        refine g_8_10 C hI h0 w_572 dX8_tell_45 ?_
        refine r_iconst C dX8_tell_48 ?_
        refine r_iload_n C hl 1 dX8_tell_49 rfl rfl ?_
        refine r_imul C dX8_tell_50 ?_
        refine r_iload_n C hl 2 dX8_tell_51 rfl rfl ?_
        refine r_iadd C dX8_tell_52 ?_
        refine r_gd hf (fun q53_1 hf => ?_)
        refine r_iald C hI 10 (n := 10) (k_8_10 h0) (by decide) rfl q53_1 dX8_tell_53 ?_
        exact r_iret hQ hf hI dX8_tell_54
      · refine r_if hf (fun hc2 hf => ?_) (fun hc2 hf => ?_)
        · refine r_tabIn C 2 hc2 (by decide) dX8_tell_5 (by decide) (by decide) (off := 50) rfl (tgt := 55) (by decide) ?_
          refine r_aload_n C hl 0 dX8_tell_55 rfl rfl ?_
          refine g_8_10 C hI h0 w_572 dX8_tell_56 ?_
          refine r_iconst C dX8_tell_59 ?_
          refine r_iload_n C hl 1 dX8_tell_60 rfl rfl ?_
          refine r_imul C dX8_tell_61 ?_
          refine r_gd hf (fun q62_1 hf => ?_)
          refine r_iald C hI 10 (n := 10) (k_8_10 h0) (by decide) rfl q62_1 dX8_tell_62 ?_
          refine r_calli (rest := []) hI hf (fun r M' h => run_S C hI F_X8_weightBy w_714 w_713 ⟨⟨Nat.le_of_ble_eq_true rfl, Nat.le_of_ble_eq_true rfl⟩, Nat.le_of_ble_eq_true rfl, Nat.le_of_ble_eq_true rfl⟩ hl dX8_tell_63 [iI (M1 (ch o0 10) (2 * v1).toNat)] rfl rfl (Nat.le_of_ble_eq_true rfl) (c_X8_weightBy C.2.2.2.2.2.2 h)) (fun r63 M63 H locs hI hf => ?_)
          exact r_iret hQ hf hI dX8_tell_66
        · refine r_if hf (fun hc3 hf => ?_) (fun hc3 hf => ?_)
          · refine r_tabIn C 3 hc3 (by decide) dX8_tell_5 (by decide) (by decide) (off := 62) rfl (tgt := 67) (by decide) ?_
            refine r_aload_n C hl 0 dX8_tell_67 rfl rfl ?_
            refine g_8_10 C hI h0 w_572 dX8_tell_68 ?_
            refine r_iconst C dX8_tell_71 ?_
            refine r_iload_n C hl 1 dX8_tell_72 rfl rfl ?_
            refine r_imul C dX8_tell_73 ?_
            refine r_gd hf (fun q74_1 hf => ?_)
            refine r_iald C hI 10 (n := 10) (k_8_10 h0) (by decide) rfl q74_1 dX8_tell_74 ?_
            refine r_calli (rest := []) hI hf (fun r M' h => run_S C hI F_X8_breathBy w_765 w_764 ⟨⟨Nat.le_of_ble_eq_true rfl, Nat.le_of_ble_eq_true rfl⟩, Nat.le_of_ble_eq_true rfl, Nat.le_of_ble_eq_true rfl⟩ hl dX8_tell_75 [iI (M1 (ch o0 10) (2 * v1).toNat)] rfl rfl (Nat.le_of_ble_eq_true rfl) (c_X8_breathBy C.2.2.2.2.2.2 h)) (fun r75 M75 H locs hI hf => ?_)
            exact r_iret hQ hf hI dX8_tell_78
          · refine r_if hf (fun hc4 hf => ?_) (fun hc4 hf => ?_)
            · refine r_tabIn C 4 hc4 (by decide) dX8_tell_5 (by decide) (by decide) (off := 74) rfl (tgt := 79) (by decide) ?_
              refine r_aload_n C hl 0 dX8_tell_79 rfl rfl ?_
              refine r_iload_n C hl 1 dX8_tell_80 rfl rfl ?_
              refine r_calli (rest := []) hI hf (fun r M' h => run_V C hI F_X8_isCutOff w_769 v_24 w_767 ⟨⟨Nat.le_of_ble_eq_true rfl, Nat.le_of_ble_eq_true rfl⟩, Nat.le_of_ble_eq_true rfl, Nat.le_of_ble_eq_true rfl⟩ (zX8 h0) (oX8 h0) rfl hl dX8_tell_81 [iI v1] rfl rfl (Nat.le_of_ble_eq_true rfl) (c_X8_isCutOff C.2.2.2.2.2.2 h0 h)) (fun r81 M81 H locs hI hf => ?_)
              refine r_gd hf (fun q84_1 hf => ?_)
              refine r_if_eq C q84_1 (tgt := 91) dX8_tell_84 (by decide) hf (fun hf => ?_) (fun hf => ?_)
              · refine r_iconst C dX8_tell_91 ?_
                exact r_iret hQ hf hI dX8_tell_92
              · refine r_iconst C dX8_tell_87 ?_
                refine r_goto C (tgt := 92) dX8_tell_88 (by decide) ?_
                exact r_iret hQ hf hI dX8_tell_92
            · refine r_tabIn C 5 (by omega) (by decide) dX8_tell_5 (by decide) (by decide) (off := 88) rfl (tgt := 93) (by decide) ?_
              refine r_aload_n C hl 0 dX8_tell_93 rfl rfl ?_
              refine r_calli (rest := []) hI hf (fun r M' h => run_V C hI F_X8_gasping w_773 v_25 w_771 ⟨⟨Nat.le_of_ble_eq_true rfl, Nat.le_of_ble_eq_true rfl⟩, Nat.le_of_ble_eq_true rfl, Nat.le_of_ble_eq_true rfl⟩ (zX8 h0) (oX8 h0) rfl hl dX8_tell_94 [] rfl rfl (Nat.le_of_ble_eq_true rfl) (c_X8_gasping C.2.2.2.2.2.2 h0 h)) (fun r94 M94 H locs hI hf => ?_)
              refine r_iload_n C hl 1 dX8_tell_97 rfl rfl ?_
              refine r_ishr C dX8_tell_98 ?_
              refine r_iconst C dX8_tell_99 ?_
              refine r_iand C dX8_tell_100 ?_
              exact r_iret hQ hf hI dX8_tell_101
/-! X8_about -/
def f_X8_about (N : Nat) (o0 : Nat) (v1 : Int) (v2 : Int) (M : Mem) : Option (Int × Mem) := bnd (f_X8_isTenant N o0 v1 M) (fun r2 M2 => gd (inR r2) (if r2 = 0 then (some (-101, M2)) else (bnd (f_X8_tell N o0 v1 v2 M2) (fun r11 M11 => some (r11, M11)))))
theorem F_X8_about : CalF yX8_about cX8_about 3 (some .int) 2 := ⟨w_755, w_9, by decide +kernel⟩
set_option maxRecDepth 100000 in
set_option maxHeartbeats 4000000 in
theorem c_X8_about {l : Launch} {g : GP} (hj : Inj g) {N : Nat} {M : Mem} {o0 : Nat} {v1 : Int} {v2 : Int} (h0 : kd o0 = 8) {r : Int × Mem} (hf : f_X8_about N o0 v1 v2 M = some r) : Met l yX8_about (Cond.code yX8_about cX8_about 3 (some .int) :: TB) (rmK 3 71) (PreW g M [rI g o0, iI v1, iI v2]) (PostI g r.1 r.2) 0 0 (Ad g) := by
  unfold f_X8_about at hf
  refine met_of (nL := 3) (cc := cX8_about) (M := M) (by decide +kernel) hj (Nat.le_of_ble_eq_true rfl) ?_
  intro p e s m below meth c ls C hr hlk hI hl
  have C : Cx g p s m _ c cX8_about 3 "LentGalleryModel" := C
  have hl : lv_has ls 3 [(0, rI g o0), (1, iI v1), (2, iI v2)] := hl
  have hQ := ret_i (l := l) (e := e) (R := (rmK 3 71)) (below := below) (r := r) C hr hlk (nar_i _)
  generalize s.heap = H, ([] : List Loc) = locs at hI ⊢
  refine r_aload_n C hl 0 dX8_about_0 rfl rfl ?_
  refine r_iload_n C hl 1 dX8_about_1 rfl rfl ?_
  refine r_calli (rest := []) hI hf (fun r M' h => run_V C hI F_X8_isTenant w_758 v_22 w_756 ⟨⟨Nat.le_of_ble_eq_true rfl, Nat.le_of_ble_eq_true rfl⟩, Nat.le_of_ble_eq_true rfl, Nat.le_of_ble_eq_true rfl⟩ (zX8 h0) (oX8 h0) rfl hl dX8_about_2 [iI v1] rfl rfl (Nat.le_of_ble_eq_true rfl) (c_X8_isTenant C.2.2.2.2.2.2 h0 h)) (fun r2 M2 H locs hI hf => ?_)
  refine r_gd hf (fun q5_0 hf => ?_)
  refine r_if_eq C q5_0 (tgt := 17) dX8_about_5 (by decide) hf (fun hf => ?_) (fun hf => ?_)
  · refine r_bipush C dX8_about_17 rfl ?_
    exact r_iret hQ hf hI dX8_about_19
  · refine r_aload_n C hl 0 dX8_about_8 rfl rfl ?_
    refine r_iload_n C hl 1 dX8_about_9 rfl rfl ?_
    refine r_iload_n C hl 2 dX8_about_10 rfl rfl ?_
    refine r_calli (rest := []) hI hf (fun r M' h => run_V C hI F_X8_tell w_762 v_23 w_760 ⟨⟨Nat.le_of_ble_eq_true rfl, Nat.le_of_ble_eq_true rfl⟩, Nat.le_of_ble_eq_true rfl, Nat.le_of_ble_eq_true rfl⟩ (zX8 h0) (oX8 h0) rfl hl dX8_about_11 [iI v1, iI v2] rfl rfl (Nat.le_of_ble_eq_true rfl) (c_X8_tell C.2.2.2.2.2.2 h0 h)) (fun r11 M11 H locs hI hf => ?_)
    refine r_goto C (tgt := 19) dX8_about_14 (by decide) ?_
    exact r_iret hQ hf hI dX8_about_19
/-! X8_as -/
def f_X8_as_59 (N : Nat) (o0 : Nat) (v1 : Int) (v2 : Int) (s0 : Int) (M : Mem) : Option (Int × Mem) := gd (inR s0) (if s0 = 0 then (some (-1, M)) else (some (v1, M)))
def f_X8_as_58 (N : Nat) (o0 : Nat) (v1 : Int) (v2 : Int) (M : Mem) : Option (Int × Mem) := f_X8_as_59 N o0 v1 v2 0 M
def f_X8_as (N : Nat) (o0 : Nat) (v1 : Int) (v2 : Int) (M : Mem) : Option (Int × Mem) := bnd (f_X8_isTenant N o0 v1 M) (fun r2 M2 => gd (inR r2) (if r2 = 0 then (some (-101, M2)) else (gd (inR v2) (bnd (f_X8_in N v2 0 4 M2) (fun r17 M17 => gd (inR r17) (if r17 = 0 then (some (-102, M17)) else (gd (0 ≤ (2 * v1) ∧ (2 * v1) < 10) (if v2 = 0 then (f_X8_as_59 N o0 v1 v2 1 M17) else (gd (inR (M17 (ch o0 10) (2 * v1).toNat)) (if v2 = (M17 (ch o0 10) (2 * v1).toNat) then (f_X8_as_59 N o0 v1 v2 1 M17) else (if v2 = 1 then (if (M17 (ch o0 10) (2 * v1).toNat) = 4 then (f_X8_as_59 N o0 v1 v2 1 M17) else (f_X8_as_58 N o0 v1 v2 M17)) else (f_X8_as_58 N o0 v1 v2 M17))))))))))))
theorem F_X8_as : CalF yX8_as cX8_as 5 (some .int) 2 := ⟨w_778, w_9, by decide +kernel⟩
set_option maxRecDepth 100000 in
set_option maxHeartbeats 4000000 in
theorem t_X8_as_59 {g : GP} {p : Program} {l : Launch} {e : Env} {s : State} {m : MethodId} {args : Array Value} {below : List Frame} {meth : Method} {c : Code} {Q : State → Prop} {N : Nat} {o0 : Nat} {v1 : Int} {v2 : Int} (h0 : kd o0 = 8) (C : Cx g p s m args c cX8_as 5 "LentGalleryModel") {r : Int × Mem} (hQ : RetI g p l e (rmK 2 46) s m args below meth c cX8_as r Q) : ∀ (s0 : Int) (M : Mem) (H : Heap) (locs : List Loc) (ls : Array Slot), f_X8_as_59 N o0 v1 v2 s0 M = some r → Inv g s M H locs → lv_has ls 5 [(1, iI v1)] → W p l e (rmK 2 46) s m args below meth c H locs 0 0 Q (F0 m 59 ls [iI s0]) := by
  intro s0 M H locs ls hf hI hl
  unfold f_X8_as_59 at hf
  refine r_istore C hl (lv' := [(4, iI s0), (1, iI v1)]) dX8_as_59 (Nat.le_of_ble_eq_true rfl) rfl (fun ls hl => ?_)
  refine r_iload C hl 0 dX8_as_61 rfl ?_
  refine r_gd hf (fun q63_0 hf => ?_)
  refine r_if_eq C q63_0 (tgt := 70) dX8_as_63 (by decide) hf (fun hf => ?_) (fun hf => ?_)
  · refine r_iconst C dX8_as_70 ?_
    exact r_iret hQ hf hI dX8_as_71
  · refine r_iload_n C hl 1 dX8_as_66 rfl rfl ?_
    refine r_goto C (tgt := 71) dX8_as_67 (by decide) ?_
    exact r_iret hQ hf hI dX8_as_71
set_option maxRecDepth 100000 in
set_option maxHeartbeats 4000000 in
theorem t_X8_as_58 {g : GP} {p : Program} {l : Launch} {e : Env} {s : State} {m : MethodId} {args : Array Value} {below : List Frame} {meth : Method} {c : Code} {Q : State → Prop} {N : Nat} {o0 : Nat} {v1 : Int} {v2 : Int} (h0 : kd o0 = 8) (C : Cx g p s m args c cX8_as 5 "LentGalleryModel") {r : Int × Mem} (hQ : RetI g p l e (rmK 2 46) s m args below meth c cX8_as r Q) : ∀ (M : Mem) (H : Heap) (locs : List Loc) (ls : Array Slot), f_X8_as_58 N o0 v1 v2 M = some r → Inv g s M H locs → lv_has ls 5 [(1, iI v1)] → W p l e (rmK 2 46) s m args below meth c H locs 0 0 Q (F0 m 58 ls []) := by
  intro M H locs ls hf hI hl
  unfold f_X8_as_58 at hf
  refine r_iconst C dX8_as_58 ?_
  exact t_X8_as_59 h0 C hQ _ _ _ _ _ hf hI (lv_sub hl [0] rfl)
set_option maxRecDepth 100000 in
set_option maxHeartbeats 4000000 in
theorem c_X8_as {l : Launch} {g : GP} (hj : Inj g) {N : Nat} {M : Mem} {o0 : Nat} {v1 : Int} {v2 : Int} (h0 : kd o0 = 8) {r : Int × Mem} (hf : f_X8_as N o0 v1 v2 M = some r) : Met l yX8_as (Cond.code yX8_as cX8_as 5 (some .int) :: TB) (rmK 2 46) (PreW g M [rI g o0, iI v1, iI v2]) (PostI g r.1 r.2) 0 0 (Ad g) := by
  unfold f_X8_as at hf
  refine met_of (nL := 5) (cc := cX8_as) (M := M) (by decide +kernel) hj (Nat.le_of_ble_eq_true rfl) ?_
  intro p e s m below meth c ls C hr hlk hI hl
  have C : Cx g p s m _ c cX8_as 5 "LentGalleryModel" := C
  have hl : lv_has ls 5 [(0, rI g o0), (1, iI v1), (2, iI v2)] := hl
  have hQ := ret_i (l := l) (e := e) (R := (rmK 2 46)) (below := below) (r := r) C hr hlk (nar_i _)
  generalize s.heap = H, ([] : List Loc) = locs at hI ⊢
  refine r_aload_n C hl 0 dX8_as_0 rfl rfl ?_
  refine r_iload_n C hl 1 dX8_as_1 rfl rfl ?_
  refine r_calli (rest := []) hI hf (fun r M' h => run_V C hI F_X8_isTenant w_758 v_22 w_756 ⟨⟨Nat.le_of_ble_eq_true rfl, Nat.le_of_ble_eq_true rfl⟩, Nat.le_of_ble_eq_true rfl, Nat.le_of_ble_eq_true rfl⟩ (zX8 h0) (oX8 h0) rfl hl dX8_as_2 [iI v1] rfl rfl (Nat.le_of_ble_eq_true rfl) (c_X8_isTenant C.2.2.2.2.2.2 h0 h)) (fun r2 M2 H locs hI hf => ?_)
  refine r_gd hf (fun q5_0 hf => ?_)
  refine r_if_ne C q5_0 (tgt := 11) dX8_as_5 (by decide) hf (fun hf => ?_) (fun hf => ?_)
  · refine r_iload_n C hl 2 dX8_as_11 rfl rfl ?_
    refine r_gd hf (fun q12_1 hf => ?_)
    refine r_i2l C q12_1 dX8_as_12 ?_
    refine r_lconst C (v := 0) dX8_as_13 rfl ?_
    refine r_ldc2 C (n := 4) w_751 rfl dX8_as_14 ?_
    refine r_calli (rest := []) hI hf (fun r M' h => run_S C hI F_X8_in w_659 w_658 ⟨⟨Nat.le_of_ble_eq_true rfl, Nat.le_of_ble_eq_true rfl⟩, Nat.le_of_ble_eq_true rfl, Nat.le_of_ble_eq_true rfl⟩ hl dX8_as_17 [lI v2, lI 0, lI 4] rfl rfl (Nat.le_of_ble_eq_true rfl) (c_X8_in C.2.2.2.2.2.2 h)) (fun r17 M17 H locs hI hf => ?_)
    refine r_gd hf (fun q20_2 hf => ?_)
    refine r_if_ne C q20_2 (tgt := 26) dX8_as_20 (by decide) hf (fun hf => ?_) (fun hf => ?_)
    · refine r_aload_n C hl 0 dX8_as_26 rfl rfl ?_
      refine g_8_10 C hI h0 w_572 dX8_as_27 ?_
      refine r_iconst C dX8_as_30 ?_
      refine r_iload_n C hl 1 dX8_as_31 rfl rfl ?_
      refine r_imul C dX8_as_32 ?_
      refine r_gd hf (fun q33_3 hf => ?_)
      refine r_iald C hI 10 (n := 10) (k_8_10 h0) (by decide) rfl q33_3 dX8_as_33 ?_
      refine r_istore_n C hl (lv' := [(3, iI (M17 (ch o0 10) (2 * v1).toNat)), (0, rI g o0), (1, iI v1), (2, iI v2)]) dX8_as_34 rfl (Nat.le_of_ble_eq_true rfl) rfl (fun ls hl => ?_)
      refine r_iload_n C hl 3 dX8_as_35 rfl rfl ?_
      refine r_if_eq C q12_1 (tgt := 54) dX8_as_36 (by decide) hf (fun hf => ?_) (fun hf => ?_)
      · refine r_iconst C dX8_as_54 ?_
        refine r_goto C (tgt := 59) dX8_as_55 (by decide) ?_
        exact t_X8_as_59 h0 C hQ _ _ _ _ _ hf hI (lv_sub hl [2] rfl)
      · refine r_iload_n C hl 3 dX8_as_39 rfl rfl ?_
        refine r_iload_n C hl 0 dX8_as_40 rfl rfl ?_
        refine r_gd hf (fun q41_4 hf => ?_)
        refine r_ic_eq C q12_1 q41_4 (tgt := 54) dX8_as_41 (by decide) hf (fun hf => ?_) (fun hf => ?_)
        · refine r_iconst C dX8_as_54 ?_
          refine r_goto C (tgt := 59) dX8_as_55 (by decide) ?_
          exact t_X8_as_59 h0 C hQ _ _ _ _ _ hf hI (lv_sub hl [2] rfl)
        · refine r_iload_n C hl 3 dX8_as_44 rfl rfl ?_
          refine r_iconst C dX8_as_45 ?_
          refine r_ic_ne C q12_1 (by decide) (tgt := 58) dX8_as_46 (by decide) hf (fun hf => ?_) (fun hf => ?_)
          · exact t_X8_as_58 h0 C hQ _ _ _ _ hf hI (lv_sub hl [2] rfl)
          · refine r_iload_n C hl 0 dX8_as_49 rfl rfl ?_
            refine r_iconst C dX8_as_50 ?_
            refine r_ic_ne C q41_4 (by decide) (tgt := 58) dX8_as_51 (by decide) hf (fun hf => ?_) (fun hf => ?_)
            · exact t_X8_as_58 h0 C hQ _ _ _ _ hf hI (lv_sub hl [2] rfl)
            · refine r_iconst C dX8_as_54 ?_
              refine r_goto C (tgt := 59) dX8_as_55 (by decide) ?_
              exact t_X8_as_59 h0 C hQ _ _ _ _ _ hf hI (lv_sub hl [2] rfl)
    · refine r_bipush C dX8_as_23 rfl ?_
      exact r_iret hQ hf hI dX8_as_25
  · refine r_bipush C dX8_as_8 rfl ?_
    exact r_iret hQ hf hI dX8_as_10
/-! X8_move -/
def f_X8_move (N : Nat) (o0 : Nat) (v1 : Int) (v2 : Int) (M : Mem) : Option (Int × Mem) := bnd (f_X8_isTenant N o0 v1 M) (fun r2 M2 => gd (inR r2) (if r2 = 0 then (some (-101, M2)) else (bnd (f_X8_isPlace N o0 v2 M2) (fun r10 M10 => gd (inR r10) (if r10 = 0 then (some (-101, M10)) else (bnv (f_X8_asItIs N o0 M10) (fun M20 => gd (0 ≤ v2 ∧ v2 < 6) (gd (inR (M20 (ch o0 8) v2.toNat)) (if (M20 (ch o0 8) v2.toNat) = 0 then (some (-103, M20)) else (bnd (f_X8_isCutOff N o0 v1 M20) (fun r34 M34 => gd (inR r34) (if r34 = 0 then (gd (0 ≤ ((2 * v1) + 1) ∧ ((2 * v1) + 1) < 10) (gd (0 ≤ v1 ∧ v1 < 5) (some ((st M34 (ch o0 10) ((2 * v1) + 1).toNat v2) (ch o0 11) v1.toNat, st M34 (ch o0 10) ((2 * v1) + 1).toNat v2)))) else (some (-103, M34))))))))))))))
theorem F_X8_move : CalF yX8_move cX8_move 3 (some .int) 2 := ⟨w_782, w_9, by decide +kernel⟩
set_option maxRecDepth 100000 in
set_option maxHeartbeats 4000000 in
theorem c_X8_move {l : Launch} {g : GP} (hj : Inj g) {N : Nat} {M : Mem} {o0 : Nat} {v1 : Int} {v2 : Int} (h0 : kd o0 = 8) {r : Int × Mem} (hf : f_X8_move N o0 v1 v2 M = some r) : Met l yX8_move (Cond.code yX8_move cX8_move 3 (some .int) :: TB) (rmK 2 46) (PreW g M [rI g o0, iI v1, iI v2]) (PostI g r.1 r.2) 0 0 (Ad g) := by
  unfold f_X8_move at hf
  refine met_of (nL := 3) (cc := cX8_move) (M := M) (by decide +kernel) hj (Nat.le_of_ble_eq_true rfl) ?_
  intro p e s m below meth c ls C hr hlk hI hl
  have C : Cx g p s m _ c cX8_move 3 "LentGalleryModel" := C
  have hl : lv_has ls 3 [(0, rI g o0), (1, iI v1), (2, iI v2)] := hl
  have hQ := ret_i (l := l) (e := e) (R := (rmK 2 46)) (below := below) (r := r) C hr hlk (nar_i _)
  generalize s.heap = H, ([] : List Loc) = locs at hI ⊢
  refine r_aload_n C hl 0 dX8_move_0 rfl rfl ?_
  refine r_iload_n C hl 1 dX8_move_1 rfl rfl ?_
  refine r_calli (rest := []) hI hf (fun r M' h => run_V C hI F_X8_isTenant w_758 v_22 w_756 ⟨⟨Nat.le_of_ble_eq_true rfl, Nat.le_of_ble_eq_true rfl⟩, Nat.le_of_ble_eq_true rfl, Nat.le_of_ble_eq_true rfl⟩ (zX8 h0) (oX8 h0) rfl hl dX8_move_2 [iI v1] rfl rfl (Nat.le_of_ble_eq_true rfl) (c_X8_isTenant C.2.2.2.2.2.2 h0 h)) (fun r2 M2 H locs hI hf => ?_)
  refine r_gd hf (fun q5_0 hf => ?_)
  refine r_if_eq C q5_0 (tgt := 16) dX8_move_5 (by decide) hf (fun hf => ?_) (fun hf => ?_)
  · refine r_bipush C dX8_move_16 rfl ?_
    exact r_iret hQ hf hI dX8_move_18
  · refine r_aload_n C hl 0 dX8_move_8 rfl rfl ?_
    refine r_iload_n C hl 2 dX8_move_9 rfl rfl ?_
    refine r_calli (rest := []) hI hf (fun r M' h => run_V C hI F_X8_isPlace w_691 v_11 w_689 ⟨⟨Nat.le_of_ble_eq_true rfl, Nat.le_of_ble_eq_true rfl⟩, Nat.le_of_ble_eq_true rfl, Nat.le_of_ble_eq_true rfl⟩ (zX8 h0) (oX8 h0) rfl hl dX8_move_10 [iI v2] rfl rfl (Nat.le_of_ble_eq_true rfl) (c_X8_isPlace C.2.2.2.2.2.2 h0 h)) (fun r10 M10 H locs hI hf => ?_)
    refine r_gd hf (fun q13_1 hf => ?_)
    refine r_if_ne C q13_1 (tgt := 19) dX8_move_13 (by decide) hf (fun hf => ?_) (fun hf => ?_)
    · refine r_aload_n C hl 0 dX8_move_19 rfl rfl ?_
      refine r_callv (rest := []) hI hf (fun M' h => run_V C hI F_X8_asItIs w_704 v_14 w_702 ⟨⟨Nat.le_of_ble_eq_true rfl, Nat.le_of_ble_eq_true rfl⟩, Nat.le_of_ble_eq_true rfl, Nat.le_of_ble_eq_true rfl⟩ (zX8 h0) (oX8 h0) rfl hl dX8_move_20 [] rfl rfl (Nat.le_of_ble_eq_true rfl) (c_X8_asItIs C.2.2.2.2.2.2 h0 h)) (fun M20 H locs hI hf => ?_)
      refine r_aload_n C hl 0 dX8_move_23 rfl rfl ?_
      refine g_8_8 C hI h0 w_570 dX8_move_24 ?_
      refine r_iload_n C hl 2 dX8_move_27 rfl rfl ?_
      refine r_gd hf (fun q28_2 hf => ?_)
      refine r_iald C hI 6 (n := 6) (k_8_8 h0) (by decide) rfl q28_2 dX8_move_28 ?_
      refine r_gd hf (fun q29_3 hf => ?_)
      refine r_if_eq C q29_3 (tgt := 40) dX8_move_29 (by decide) hf (fun hf => ?_) (fun hf => ?_)
      · refine r_bipush C dX8_move_40 rfl ?_
        exact r_iret hQ hf hI dX8_move_42
      · refine r_aload_n C hl 0 dX8_move_32 rfl rfl ?_
        refine r_iload_n C hl 1 dX8_move_33 rfl rfl ?_
        refine r_calli (rest := []) hI hf (fun r M' h => run_V C hI F_X8_isCutOff w_769 v_24 w_767 ⟨⟨Nat.le_of_ble_eq_true rfl, Nat.le_of_ble_eq_true rfl⟩, Nat.le_of_ble_eq_true rfl, Nat.le_of_ble_eq_true rfl⟩ (zX8 h0) (oX8 h0) rfl hl dX8_move_34 [iI v1] rfl rfl (Nat.le_of_ble_eq_true rfl) (c_X8_isCutOff C.2.2.2.2.2.2 h0 h)) (fun r34 M34 H locs hI hf => ?_)
        refine r_gd hf (fun q37_4 hf => ?_)
        refine r_if_eq C q37_4 (tgt := 43) dX8_move_37 (by decide) hf (fun hf => ?_) (fun hf => ?_)
        · refine r_aload_n C hl 0 dX8_move_43 rfl rfl ?_
          refine g_8_10 C hI h0 w_572 dX8_move_44 ?_
          refine r_iconst C dX8_move_47 ?_
          refine r_iload_n C hl 1 dX8_move_48 rfl rfl ?_
          refine r_imul C dX8_move_49 ?_
          refine r_iconst C dX8_move_50 ?_
          refine r_iadd C dX8_move_51 ?_
          refine r_iload_n C hl 2 dX8_move_52 rfl rfl ?_
          refine r_gd hf (fun q53_5 hf => ?_)
          refine r_iast C hI 10 (n := 10) (k_8_10 h0) (by decide) rfl q53_5 dX8_move_53 (fun H locs hI => ?_)
          refine r_aload_n C hl 0 dX8_move_54 rfl rfl ?_
          refine g_8_11 C hI h0 w_573 dX8_move_55 ?_
          refine r_iload_n C hl 1 dX8_move_58 rfl rfl ?_
          refine r_gd hf (fun q59_6 hf => ?_)
          refine r_iald C hI 5 (n := 5) (k_8_11 h0) (by decide) rfl q59_6 dX8_move_59 ?_
          exact r_iret hQ hf hI dX8_move_60
        · refine r_bipush C dX8_move_40 rfl ?_
          exact r_iret hQ hf hI dX8_move_42
    · refine r_bipush C dX8_move_16 rfl ?_
      exact r_iret hQ hf hI dX8_move_18
