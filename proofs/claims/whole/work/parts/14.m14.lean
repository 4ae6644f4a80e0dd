/-! X7_prop -/
def f_X7_prop (N : Nat) (o0 : Nat) (v1 : Int) (M : Mem) : Option (Int × Mem) := bnd (f_X7_isPlace N o0 v1 M) (fun r2 M2 => gd (inR r2) (if r2 = 0 then (some (-101, M2)) else (bnd (f_X3_stands N (ch (ch o0 1) 0) v1 M2) (fun r19 M19 => gd (inR r19) (if r19 = 0 then (some (-103, M19)) else (gd (0 ≤ v1 ∧ v1 < 6) (gd (inR ((M19 (ch (ch (ch o0 1) 0) 0) v1.toNat) + 3)) (if ((M19 (ch (ch (ch o0 1) 0) 0) v1.toNat) + 3) ≤ 20 then (some ((st (st M19 (ch (ch (ch o0 1) 0) 0) v1.toNat ((M19 (ch (ch (ch o0 1) 0) 0) v1.toNat) + 3)) (ch o0 1) 8 (((st M19 (ch (ch (ch o0 1) 0) 0) v1.toNat ((M19 (ch (ch (ch o0 1) 0) 0) v1.toNat) + 3)) (ch o0 1) 8) + 1)) (ch (ch (ch o0 1) 0) 0) v1.toNat, st (st M19 (ch (ch (ch o0 1) 0) 0) v1.toNat ((M19 (ch (ch (ch o0 1) 0) 0) v1.toNat) + 3)) (ch o0 1) 8 (((st M19 (ch (ch (ch o0 1) 0) 0) v1.toNat ((M19 (ch (ch (ch o0 1) 0) 0) v1.toNat) + 3)) (ch o0 1) 8) + 1))) else (some (-103, M19))))))))))
theorem F_X7_prop : CalF yX7_prop cX7_prop 2 (some .int) 1 := ⟨w_337, w_1, by decide +kernel⟩
set_option maxRecDepth 100000 in
set_option maxHeartbeats 4000000 in
theorem c_X7_prop {l : Launch} {g : GP} (hj : Inj g) {N : Nat} {M : Mem} {o0 : Nat} {v1 : Int} (h0 : kd o0 = 7) {r : Int × Mem} (hf : f_X7_prop N o0 v1 M = some r) : Met l yX7_prop (Cond.code yX7_prop cX7_prop 2 (some .int) :: TB) (rmK 1 21) (PreW g M [rI g o0, iI v1]) (PostI g r.1 r.2) 0 0 (Ad g) := by
  unfold f_X7_prop at hf
  refine met_of (nL := 2) (cc := cX7_prop) (M := M) (by decide +kernel) hj (Nat.le_of_ble_eq_true rfl) ?_
  intro p e s m below meth c ls C hr hlk hI hl
  have C : Cx g p s m _ c cX7_prop 2 "LentGallery" := C
  have hl : lv_has ls 2 [(0, rI g o0), (1, iI v1)] := hl
  have hQ := ret_i (l := l) (e := e) (R := (rmK 1 21)) (below := below) (r := r) C hr hlk (nar_i _)
  generalize s.heap = H, ([] : List Loc) = locs at hI ⊢
  refine r_aload_n C hl 0 dX7_prop_0 rfl rfl ?_
  refine r_iload_n C hl 1 dX7_prop_1 rfl rfl ?_
  refine r_calli (rest := []) hI hf (fun r M' h => run_V C hI F_X7_isPlace w_270 v_0 w_268 ⟨⟨Nat.le_of_ble_eq_true rfl, Nat.le_of_ble_eq_true rfl⟩, Nat.le_of_ble_eq_true rfl, Nat.le_of_ble_eq_true rfl⟩ (zX7 h0) (oX7 h0) rfl hl dX7_prop_2 [iI v1] rfl rfl (Nat.le_of_ble_eq_true rfl) (c_X7_isPlace C.2.2.2.2.2.2 h0 h)) (fun r2 M2 H locs hI hf => ?_)
  refine r_gd hf (fun q5_0 hf => ?_)
  refine r_if_ne C q5_0 (tgt := 11) dX7_prop_5 (by decide) hf (fun hf => ?_) (fun hf => ?_)
  · refine r_aload_n C hl 0 dX7_prop_11 rfl rfl ?_
    refine g_7_1 C hI h0 w_186 dX7_prop_12 ?_
    refine g_6_0 C hI (k_7_1 h0) w_68 dX7_prop_15 ?_
    refine r_iload_n C hl 1 dX7_prop_18 rfl rfl ?_
    refine r_calli (rest := []) hI hf (fun r M' h => run_V C hI F_X3_stands w_307 w_308 w_338 ⟨⟨Nat.le_of_ble_eq_true rfl, Nat.le_of_ble_eq_true rfl⟩, Nat.le_of_ble_eq_true rfl, Nat.le_of_ble_eq_true rfl⟩ (zX3 (k_6_0 (k_7_1 h0))) (oX3 (k_6_0 (k_7_1 h0))) rfl hl dX7_prop_19 [iI v1] rfl rfl (Nat.le_of_ble_eq_true rfl) (c_X3_stands C.2.2.2.2.2.2 (k_6_0 (k_7_1 h0)) h)) (fun r19 M19 H locs hI hf => ?_)
    refine r_gd hf (fun q22_1 hf => ?_)
    refine r_if_eq C q22_1 (tgt := 44) dX7_prop_22 (by decide) hf (fun hf => ?_) (fun hf => ?_)
    · refine r_bipush C dX7_prop_44 rfl ?_
      exact r_iret hQ hf hI dX7_prop_46
    · refine r_aload_n C hl 0 dX7_prop_25 rfl rfl ?_
      refine g_7_1 C hI h0 w_186 dX7_prop_26 ?_
      refine g_6_0 C hI (k_7_1 h0) w_68 dX7_prop_29 ?_
      refine g_3_0 C hI (k_6_0 (k_7_1 h0)) w_53 dX7_prop_32 ?_
      refine r_iload_n C hl 1 dX7_prop_35 rfl rfl ?_
      refine r_gd hf (fun q36_2 hf => ?_)
      refine r_iald C hI 6 (n := 6) (k_3_0 (k_6_0 (k_7_1 h0))) (by decide) rfl q36_2 dX7_prop_36 ?_
      refine r_iconst C dX7_prop_37 ?_
      refine r_iadd C dX7_prop_38 ?_
      refine r_bipush C dX7_prop_39 rfl ?_
      refine r_gd hf (fun q41_3 hf => ?_)
      refine r_ic_le C q41_3 (by decide) (tgt := 47) dX7_prop_41 (by decide) hf (fun hf => ?_) (fun hf => ?_)
      · refine r_aload_n C hl 0 dX7_prop_47 rfl rfl ?_
        refine g_7_1 C hI h0 w_186 dX7_prop_48 ?_
        refine g_6_0 C hI (k_7_1 h0) w_68 dX7_prop_51 ?_
        refine g_3_0 C hI (k_6_0 (k_7_1 h0)) w_53 dX7_prop_54 ?_
        refine r_iload_n C hl 1 dX7_prop_57 rfl rfl ?_
        refine r_dup2 C dX7_prop_58 rfl rfl ?_
        refine r_iald C hI 6 (n := 6) (k_3_0 (k_6_0 (k_7_1 h0))) (by decide) rfl q36_2 dX7_prop_59 ?_
        refine r_iconst C dX7_prop_60 ?_
        refine r_iadd C dX7_prop_61 ?_
        refine r_iast C hI 6 (n := 6) (k_3_0 (k_6_0 (k_7_1 h0))) (by decide) rfl q36_2 dX7_prop_62 (fun H locs hI => ?_)
        refine r_aload_n C hl 0 dX7_prop_63 rfl rfl ?_
        refine g_7_1 C hI h0 w_186 dX7_prop_64 ?_
        refine r_dup C dX7_prop_67 rfl ?_
        refine g_6_8 C hI (k_7_1 h0) w_85 dX7_prop_68 ?_
        refine r_iconst C dX7_prop_71 ?_
        refine r_iadd C dX7_prop_72 ?_
        refine p_6_8 C hI (k_7_1 h0) w_85 dX7_prop_73 (fun H locs hI => ?_)
        refine r_aload_n C hl 0 dX7_prop_76 rfl rfl ?_
        refine g_7_1 C hI h0 w_186 dX7_prop_77 ?_
        refine g_6_0 C hI (k_7_1 h0) w_68 dX7_prop_80 ?_
        refine g_3_0 C hI (k_6_0 (k_7_1 h0)) w_53 dX7_prop_83 ?_
        refine r_iload_n C hl 1 dX7_prop_86 rfl rfl ?_
        refine r_iald C hI 6 (n := 6) (k_3_0 (k_6_0 (k_7_1 h0))) (by decide) rfl q36_2 dX7_prop_87 ?_
        exact r_iret hQ hf hI dX7_prop_88
      · refine r_bipush C dX7_prop_44 rfl ?_
        exact r_iret hQ hf hI dX7_prop_46
  · refine r_bipush C dX7_prop_8 rfl ?_
    exact r_iret hQ hf hI dX7_prop_10
/-! X7_tenant -/
def f_X7_tenant (N : Nat) (o0 : Nat) (v1 : Int) (v2 : Int) (M : Mem) : Option (Int × Mem) := bnd (f_X7_isKind N v1 M) (fun r1 M1 => gd (inR r1) (if r1 = 0 then (some (-102, M1)) else (bnd (f_X7_isPlace N o0 v2 M1) (fun r12 M12 => gd (inR r12) (if r12 = 0 then (some (-101, M12)) else (bnd (f_X3_stands N (ch (ch o0 1) 0) v2 M12) (fun r29 M29 => gd (inR r29) (if r29 = 0 then (some (-103, M29)) else (gd (inR (M29 (ch o0 1) 3)) (if (M29 (ch o0 1) 3) < 5 then (bnv (f_X6_welcome N (ch o0 1) v1 v2 M29) (fun M58 => some ((M58 (ch o0 1) 3) - 1, M58))) else (some (-104, M29))))))))))))
theorem F_X7_tenant : CalF yX7_tenant cX7_tenant 3 (some .int) 2 := ⟨w_342, w_1, by decide +kernel⟩
set_option maxRecDepth 100000 in
set_option maxHeartbeats 4000000 in
theorem c_X7_tenant {l : Launch} {g : GP} (hj : Inj g) {N : Nat} {M : Mem} {o0 : Nat} {v1 : Int} {v2 : Int} (h0 : kd o0 = 7) {r : Int × Mem} (hf : f_X7_tenant N o0 v1 v2 M = some r) : Met l yX7_tenant (Cond.code yX7_tenant cX7_tenant 3 (some .int) :: TB) (rmK 2 43) (PreW g M [rI g o0, iI v1, iI v2]) (PostI g r.1 r.2) 0 0 (Ad g) := by
  unfold f_X7_tenant at hf
  refine met_of (nL := 3) (cc := cX7_tenant) (M := M) (by decide +kernel) hj (Nat.le_of_ble_eq_true rfl) ?_
  intro p e s m below meth c ls C hr hlk hI hl
  have C : Cx g p s m _ c cX7_tenant 3 "LentGallery" := C
  have hl : lv_has ls 3 [(0, rI g o0), (1, iI v1), (2, iI v2)] := hl
  have hQ := ret_i (l := l) (e := e) (R := (rmK 2 43)) (below := below) (r := r) C hr hlk (nar_i _)
  generalize s.heap = H, ([] : List Loc) = locs at hI ⊢
  refine r_iload_n C hl 1 dX7_tenant_0 rfl rfl ?_
  refine r_calli (rest := []) hI hf (fun r M' h => run_S C hI F_X7_isKind w_344 w_343 ⟨⟨Nat.le_of_ble_eq_true rfl, Nat.le_of_ble_eq_true rfl⟩, Nat.le_of_ble_eq_true rfl, Nat.le_of_ble_eq_true rfl⟩ hl dX7_tenant_1 [iI v1] rfl rfl (Nat.le_of_ble_eq_true rfl) (c_X7_isKind C.2.2.2.2.2.2 h)) (fun r1 M1 H locs hI hf => ?_)
  refine r_gd hf (fun q4_0 hf => ?_)
  refine r_if_ne C q4_0 (tgt := 10) dX7_tenant_4 (by decide) hf (fun hf => ?_) (fun hf => ?_)
  · refine r_aload_n C hl 0 dX7_tenant_10 rfl rfl ?_
    refine r_iload_n C hl 2 dX7_tenant_11 rfl rfl ?_
    refine r_calli (rest := []) hI hf (fun r M' h => run_V C hI F_X7_isPlace w_270 v_0 w_268 ⟨⟨Nat.le_of_ble_eq_true rfl, Nat.le_of_ble_eq_true rfl⟩, Nat.le_of_ble_eq_true rfl, Nat.le_of_ble_eq_true rfl⟩ (zX7 h0) (oX7 h0) rfl hl dX7_tenant_12 [iI v2] rfl rfl (Nat.le_of_ble_eq_true rfl) (c_X7_isPlace C.2.2.2.2.2.2 h0 h)) (fun r12 M12 H locs hI hf => ?_)
    refine r_gd hf (fun q15_1 hf => ?_)
    refine r_if_ne C q15_1 (tgt := 21) dX7_tenant_15 (by decide) hf (fun hf => ?_) (fun hf => ?_)
    · refine r_aload_n C hl 0 dX7_tenant_21 rfl rfl ?_
      refine g_7_1 C hI h0 w_186 dX7_tenant_22 ?_
      refine g_6_0 C hI (k_7_1 h0) w_68 dX7_tenant_25 ?_
      refine r_iload_n C hl 2 dX7_tenant_28 rfl rfl ?_
      refine r_calli (rest := []) hI hf (fun r M' h => run_V C hI F_X3_stands w_307 w_308 w_338 ⟨⟨Nat.le_of_ble_eq_true rfl, Nat.le_of_ble_eq_true rfl⟩, Nat.le_of_ble_eq_true rfl, Nat.le_of_ble_eq_true rfl⟩ (zX3 (k_6_0 (k_7_1 h0))) (oX3 (k_6_0 (k_7_1 h0))) rfl hl dX7_tenant_29 [iI v2] rfl rfl (Nat.le_of_ble_eq_true rfl) (c_X3_stands C.2.2.2.2.2.2 (k_6_0 (k_7_1 h0)) h)) (fun r29 M29 H locs hI hf => ?_)
      refine r_gd hf (fun q32_2 hf => ?_)
      refine r_if_ne C q32_2 (tgt := 38) dX7_tenant_32 (by decide) hf (fun hf => ?_) (fun hf => ?_)
      · refine r_aload_n C hl 0 dX7_tenant_38 rfl rfl ?_
        refine g_7_1 C hI h0 w_186 dX7_tenant_39 ?_
        refine g_6_3 C hI (k_7_1 h0) w_75 dX7_tenant_42 ?_
        refine r_iconst C dX7_tenant_45 ?_
        refine r_gd hf (fun q46_3 hf => ?_)
        refine r_ic_lt C q46_3 (by decide) (tgt := 52) dX7_tenant_46 (by decide) hf (fun hf => ?_) (fun hf => ?_)
        · refine r_aload_n C hl 0 dX7_tenant_52 rfl rfl ?_
          refine g_7_1 C hI h0 w_186 dX7_tenant_53 ?_
          refine r_iload_n C hl 1 dX7_tenant_56 rfl rfl ?_
          refine r_iload_n C hl 2 dX7_tenant_57 rfl rfl ?_
          refine r_callv (rest := []) hI hf (fun M' h => run_V C hI F_X6_welcome w_349 w_350 w_348 ⟨⟨Nat.le_of_ble_eq_true rfl, Nat.le_of_ble_eq_true rfl⟩, Nat.le_of_ble_eq_true rfl, Nat.le_of_ble_eq_true rfl⟩ (zX6 (k_7_1 h0)) (oX6 (k_7_1 h0)) rfl hl dX7_tenant_58 [iI v1, iI v2] rfl rfl (Nat.le_of_ble_eq_true rfl) (c_X6_welcome C.2.2.2.2.2.2 (k_7_1 h0) h)) (fun M58 H locs hI hf => ?_)
          refine r_aload_n C hl 0 dX7_tenant_61 rfl rfl ?_
          refine g_7_1 C hI h0 w_186 dX7_tenant_62 ?_
          refine g_6_3 C hI (k_7_1 h0) w_75 dX7_tenant_65 ?_
          refine r_iconst C dX7_tenant_68 ?_
          refine r_isub C dX7_tenant_69 ?_
          exact r_iret hQ hf hI dX7_tenant_70
        · refine r_bipush C dX7_tenant_49 rfl ?_
          exact r_iret hQ hf hI dX7_tenant_51
      · refine r_bipush C dX7_tenant_35 rfl ?_
        exact r_iret hQ hf hI dX7_tenant_37
    · refine r_bipush C dX7_tenant_18 rfl ?_
      exact r_iret hQ hf hI dX7_tenant_20
  · refine r_bipush C dX7_tenant_7 rfl ?_
    exact r_iret hQ hf hI dX7_tenant_9
/-! X7_isTenant -/
def f_X7_isTenant (N : Nat) (o0 : Nat) (v1 : Int) (M : Mem) : Option (Int × Mem) := gd (inR v1) (if v1 < 0 then (some (0, M)) else (gd (inR (M (ch o0 1) 3)) (if (M (ch o0 1) 3) ≤ v1 then (some (0, M)) else (if 5 ≤ v1 then (some (0, M)) else (some (1, M))))))
theorem F_X7_isTenant : CalF yX7_isTenant cX7_isTenant 2 (some .boolean) 1 := ⟨w_362, w_1, by decide +kernel⟩
set_option maxRecDepth 100000 in
set_option maxHeartbeats 4000000 in
theorem c_X7_isTenant {l : Launch} {g : GP} (hj : Inj g) {N : Nat} {M : Mem} {o0 : Nat} {v1 : Int} (h0 : kd o0 = 7) {r : Int × Mem} (hf : f_X7_isTenant N o0 v1 M = some r) : Met l yX7_isTenant (Cond.code yX7_isTenant cX7_isTenant 2 (some .boolean) :: TB) (rmK 0 0) (PreW g M [rI g o0, iI v1]) (PostI g r.1 r.2) 0 0 (Ad g) := by
  unfold f_X7_isTenant at hf
  refine met_of (nL := 2) (cc := cX7_isTenant) (M := M) (by decide +kernel) hj (Nat.le_of_ble_eq_true rfl) ?_
  intro p e s m below meth c ls C hr hlk hI hl
  have C : Cx g p s m _ c cX7_isTenant 2 "LentGallery" := C
  have hl : lv_has ls 2 [(0, rI g o0), (1, iI v1)] := hl
  have hQ := ret_z (l := l) (e := e) (R := (rmK 0 0)) (below := below) (r := r) C hr hlk
  generalize s.heap = H, ([] : List Loc) = locs at hI ⊢
  refine r_iload_n C hl 1 dX7_isTenant_0 rfl rfl ?_
  refine r_gd hf (fun q1_0 hf => ?_)
  refine r_if_lt C q1_0 (tgt := 24) dX7_isTenant_1 (by decide) hf (fun hf => ?_) (fun hf => ?_)
  · refine r_iconst C dX7_isTenant_24 ?_
    exact r_zret hQ (by decide) hf hI dX7_isTenant_25
  · refine r_iload_n C hl 1 dX7_isTenant_4 rfl rfl ?_
    refine r_aload_n C hl 0 dX7_isTenant_5 rfl rfl ?_
    refine g_7_1 C hI h0 w_186 dX7_isTenant_6 ?_
    refine g_6_3 C hI (k_7_1 h0) w_75 dX7_isTenant_9 ?_
    refine r_gd hf (fun q12_1 hf => ?_)
    refine r_ic_ge C q1_0 q12_1 (tgt := 24) dX7_isTenant_12 (by decide) hf (fun hf => ?_) (fun hf => ?_)
    · refine r_iconst C dX7_isTenant_24 ?_
      exact r_zret hQ (by decide) hf hI dX7_isTenant_25
    · refine r_iload_n C hl 1 dX7_isTenant_15 rfl rfl ?_
      refine r_iconst C dX7_isTenant_16 ?_
      refine r_ic_ge C q1_0 (by decide) (tgt := 24) dX7_isTenant_17 (by decide) hf (fun hf => ?_) (fun hf => ?_)
      · refine r_iconst C dX7_isTenant_24 ?_
        exact r_zret hQ (by decide) hf hI dX7_isTenant_25
      · refine r_iconst C dX7_isTenant_20 ?_
        refine r_goto C (tgt := 25) dX7_isTenant_21 (by decide) ?_
        exact r_zret hQ (by decide) hf hI dX7_isTenant_25
/-! X7_about -/
def f_X7_about (N : Nat) (o0 : Nat) (v1 : Int) (v2 : Int) (M : Mem) : Option (Int × Mem) := bnd (f_X7_isTenant N o0 v1 M) (fun r2 M2 => gd (inR r2) (if r2 = 0 then (some (-101, M2)) else (gd (inR v2) (if v2 < 0 ∨ 5 < v2 then (some (-102, M2)) else (if v2 = 0 then (gd (0 ≤ v1 ∧ v1 < 5) (some (M2 (ch (ch o0 1) 1) v1.toNat, M2))) else (if v2 = 1 then (gd (0 ≤ v1 ∧ v1 < 5) (some (M2 (ch (ch o0 1) 2) v1.toNat, M2))) else (if v2 = 2 then (bnd (f_X6_weightOf N (ch o0 1) v1 M2) (fun r77 M77 => some (r77, M77))) else (if v2 = 3 then (bnd (f_X6_breathOf N (ch o0 1) v1 M2) (fun r86 M86 => some (r86, M86))) else (if v2 = 4 then (bnd (f_X6_isCutOff N (ch o0 1) v1 M2) (fun r95 M95 => gd (inR r95) (if r95 = 0 then (some (0, M95)) else (some (1, M95))))) else (bnd (f_X6_gaspers N (ch o0 1) M2) (fun r111 M111 => some (i_and (i_shr r111 v1) 1, M111))))))))))))
theorem F_X7_about : CalF yX7_about cX7_about 3 (some .int) 2 := ⟨w_358, w_1, by decide +kernel⟩
set_option maxRecDepth 100000 in
set_option maxHeartbeats 4000000 in
theorem c_X7_about {l : Launch} {g : GP} (hj : Inj g) {N : Nat} {M : Mem} {o0 : Nat} {v1 : Int} {v2 : Int} (h0 : kd o0 = 7) {r : Int × Mem} (hf : f_X7_about N o0 v1 v2 M = some r) : Met l yX7_about (Cond.code yX7_about cX7_about 3 (some .int) :: TB) (rmK 3 67) (PreW g M [rI g o0, iI v1, iI v2]) (PostI g r.1 r.2) 0 0 (Ad g) := by
  unfold f_X7_about at hf
  refine met_of (nL := 3) (cc := cX7_about) (M := M) (by decide +kernel) hj (Nat.le_of_ble_eq_true rfl) ?_
  intro p e s m below meth c ls C hr hlk hI hl
  have C : Cx g p s m _ c cX7_about 3 "LentGallery" := C
  have hl : lv_has ls 3 [(0, rI g o0), (1, iI v1), (2, iI v2)] := hl
  have hQ := ret_i (l := l) (e := e) (R := (rmK 3 67)) (below := below) (r := r) C hr hlk (nar_i _)
  generalize s.heap = H, ([] : List Loc) = locs at hI ⊢
  refine r_aload_n C hl 0 dX7_about_0 rfl rfl ?_
  refine r_iload_n C hl 1 dX7_about_1 rfl rfl ?_
  refine r_calli (rest := []) hI hf (fun r M' h => run_V C hI F_X7_isTenant w_361 v_3 w_359 ⟨⟨Nat.le_of_ble_eq_true rfl, Nat.le_of_ble_eq_true rfl⟩, Nat.le_of_ble_eq_true rfl, Nat.le_of_ble_eq_true rfl⟩ (zX7 h0) (oX7 h0) rfl hl dX7_about_2 [iI v1] rfl rfl (Nat.le_of_ble_eq_true rfl) (c_X7_isTenant C.2.2.2.2.2.2 h0 h)) (fun r2 M2 H locs hI hf => ?_)
  refine r_gd hf (fun q5_0 hf => ?_)
  refine r_if_ne C q5_0 (tgt := 11) dX7_about_5 (by decide) hf (fun hf => ?_) (fun hf => ?_)
  · refine r_iload_n C hl 2 dX7_about_11 rfl rfl ?_
    refine r_gd hf (fun q12_1 hf => ?_)
    refine r_if hf (fun hc hf => ?_) (fun hc hf => ?_)
    · refine r_tabOut C q12_1 dX7_about_12 hc (tgt := 119) (by decide) ?_
      refine r_bipush C dX7_about_119 rfl ?_
      exact r_iret hQ hf hI dX7_about_121
    · refine r_if hf (fun hc0 hf => ?_) (fun hc0 hf => ?_)
      · refine r_tabIn C 0 hc0 (by decide) dX7_about_12 (by decide) (by decide) (off := 40) rfl (tgt := 52) (by decide) ?_
        refine r_aload_n C hl 0 dX7_about_52 rfl rfl ?_
        refine g_7_1 C hI h0 w_186 dX7_about_53 ?_
        refine g_6_1 C hI (k_7_1 h0) w_70 dX7_about_56 ?_
        refine r_iload_n C hl 1 dX7_about_59 rfl rfl ?_
        refine r_gd hf (fun q60_2 hf => ?_)
        refine r_iald C hI 5 (n := 5) (k_6_1 (k_7_1 h0)) (by decide) rfl q60_2 dX7_about_60 ?_
        exact r_iret hQ hf hI dX7_about_61
      · refine r_if hf (fun hc1 hf => ?_) (fun hc1 hf => ?_)
        · refine r_tabIn C 1 hc1 (by decide) dX7_about_12 (by decide) (by decide) (off := 50) rfl (tgt := 62) (by decide) ?_
          refine r_aload_n C hl 0 dX7_about_62 rfl rfl ?_
          refine g_7_1 C hI h0 w_186 dX7_about_63 ?_
          refine g_6_2 C hI (k_7_1 h0) w_72 dX7_about_66 ?_
          refine r_iload_n C hl 1 dX7_about_69 rfl rfl ?_
          refine r_gd hf (fun q70_2 hf => ?_)
          refine r_iald C hI 5 (n := 5) (k_6_2 (k_7_1 h0)) (by decide) rfl q70_2 dX7_about_70 ?_
          exact r_iret hQ hf hI dX7_about_71
        · refine r_if hf (fun hc2 hf => ?_) (fun hc2 hf => ?_)
          · refine r_tabIn C 2 hc2 (by decide) dX7_about_12 (by decide) (by decide) (off := 60) rfl (tgt := 72) (by decide) ?_
            refine r_aload_n C hl 0 dX7_about_72 rfl rfl ?_
            refine g_7_1 C hI h0 w_186 dX7_about_73 ?_
            refine r_iload_n C hl 1 dX7_about_76 rfl rfl ?_
            refine r_calli (rest := []) hI hf (fun r M' h => run_V C hI F_X6_weightOf w_364 w_365 w_363 ⟨⟨Nat.le_of_ble_eq_true rfl, Nat.le_of_ble_eq_true rfl⟩, Nat.le_of_ble_eq_true rfl, Nat.le_of_ble_eq_true rfl⟩ (zX6 (k_7_1 h0)) (oX6 (k_7_1 h0)) rfl hl dX7_about_77 [iI v1] rfl rfl (Nat.le_of_ble_eq_true rfl) (c_X6_weightOf C.2.2.2.2.2.2 (k_7_1 h0) h)) (fun r77 M77 H locs hI hf => ?_)
            exact r_iret hQ hf hI dX7_about_80
          · refine r_if hf (fun hc3 hf => ?_) (fun hc3 hf => ?_)
            · refine r_tabIn C 3 hc3 (by decide) dX7_about_12 (by decide) (by decide) (off := 69) rfl (tgt := 81) (by decide) ?_
              refine r_aload_n C hl 0 dX7_about_81 rfl rfl ?_
              refine g_7_1 C hI h0 w_186 dX7_about_82 ?_
              refine r_iload_n C hl 1 dX7_about_85 rfl rfl ?_
              refine r_calli (rest := []) hI hf (fun r M' h => run_V C hI F_X6_breathOf w_372 w_373 w_371 ⟨⟨Nat.le_of_ble_eq_true rfl, Nat.le_of_ble_eq_true rfl⟩, Nat.le_of_ble_eq_true rfl, Nat.le_of_ble_eq_true rfl⟩ (zX6 (k_7_1 h0)) (oX6 (k_7_1 h0)) rfl hl dX7_about_86 [iI v1] rfl rfl (Nat.le_of_ble_eq_true rfl) (c_X6_breathOf C.2.2.2.2.2.2 (k_7_1 h0) h)) (fun r86 M86 H locs hI hf => ?_)
              exact r_iret hQ hf hI dX7_about_89
            · refine r_if hf (fun hc4 hf => ?_) (fun hc4 hf => ?_)
              · refine r_tabIn C 4 hc4 (by decide) dX7_about_12 (by decide) (by decide) (off := 78) rfl (tgt := 90) (by decide) ?_
                refine r_aload_n C hl 0 dX7_about_90 rfl rfl ?_
                refine g_7_1 C hI h0 w_186 dX7_about_91 ?_
                refine r_iload_n C hl 1 dX7_about_94 rfl rfl ?_
                refine r_calli (rest := []) hI hf (fun r M' h => run_V C hI F_X6_isCutOff w_378 w_379 w_377 ⟨⟨Nat.le_of_ble_eq_true rfl, Nat.le_of_ble_eq_true rfl⟩, Nat.le_of_ble_eq_true rfl, Nat.le_of_ble_eq_true rfl⟩ (zX6 (k_7_1 h0)) (oX6 (k_7_1 h0)) rfl hl dX7_about_95 [iI v1] rfl rfl (Nat.le_of_ble_eq_true rfl) (c_X6_isCutOff C.2.2.2.2.2.2 (k_7_1 h0) h)) (fun r95 M95 H locs hI hf => ?_)
                refine r_gd hf (fun q98_2 hf => ?_)
                refine r_if_eq C q98_2 (tgt := 105) dX7_about_98 (by decide) hf (fun hf => ?_) (fun hf => ?_)
                · refine r_iconst C dX7_about_105 ?_
                  exact r_iret hQ hf hI dX7_about_106
                · refine r_iconst C dX7_about_101 ?_
                  refine r_goto C (tgt := 106) dX7_about_102 (by decide) ?_
                  exact r_iret hQ hf hI dX7_about_106
              · refine r_tabIn C 5 (by omega) (by decide) dX7_about_12 (by decide) (by decide) (off := 95) rfl (tgt := 107) (by decide) ?_
                refine r_aload_n C hl 0 dX7_about_107 rfl rfl ?_
                refine g_7_1 C hI h0 w_186 dX7_about_108 ?_
                refine r_calli (rest := []) hI hf (fun r M' h => run_V C hI F_X6_gaspers w_386 w_387 w_385 ⟨⟨Nat.le_of_ble_eq_true rfl, Nat.le_of_ble_eq_true rfl⟩, Nat.le_of_ble_eq_true rfl, Nat.le_of_ble_eq_true rfl⟩ (zX6 (k_7_1 h0)) (oX6 (k_7_1 h0)) rfl hl dX7_about_111 [] rfl rfl (Nat.le_of_ble_eq_true rfl) (c_X6_gaspers C.2.2.2.2.2.2 (k_7_1 h0) h)) (fun r111 M111 H locs hI hf => ?_)
                refine r_iload_n C hl 1 dX7_about_114 rfl rfl ?_
                refine r_ishr C dX7_about_115 ?_
                refine r_iconst C dX7_about_116 ?_
                refine r_iand C dX7_about_117 ?_
                exact r_iret hQ hf hI dX7_about_118
  · refine r_bipush C dX7_about_8 rfl ?_
    exact r_iret hQ hf hI dX7_about_10
/-! X7_isSuch -/
def f_X7_isSuch (N : Nat) (v0 : Int) (v1 : Int) (M : Mem) : Option (Int × Mem) := gd (inR v1) (if v1 = 0 then (some (1, M)) else (gd (inR v0) (if v0 = v1 then (some (1, M)) else (if v0 = 4 then (if v1 = 1 then (some (1, M)) else (some (0, M))) else (some (0, M))))))
theorem F_X7_isSuch : CalF yX7_isSuch cX7_isSuch 2 (some .boolean) 2 := ⟨w_398, w_1, by decide +kernel⟩
set_option maxRecDepth 100000 in
set_option maxHeartbeats 4000000 in
theorem c_X7_isSuch {l : Launch} {g : GP} (hj : Inj g) {N : Nat} {M : Mem} {v0 : Int} {v1 : Int} {r : Int × Mem} (hf : f_X7_isSuch N v0 v1 M = some r) : Met l yX7_isSuch (Cond.code yX7_isSuch cX7_isSuch 2 (some .boolean) :: TB) (rmK 0 0) (PreW g M [iI v0, iI v1]) (PostI g r.1 r.2) 0 0 (Ad g) := by
  unfold f_X7_isSuch at hf
  refine met_of (nL := 2) (cc := cX7_isSuch) (M := M) (by decide +kernel) hj (Nat.le_of_ble_eq_true rfl) ?_
  intro p e s m below meth c ls C hr hlk hI hl
  have C : Cx g p s m _ c cX7_isSuch 2 "LentGallery" := C
  have hl : lv_has ls 2 [(0, iI v0), (1, iI v1)] := hl
  have hQ := ret_z (l := l) (e := e) (R := (rmK 0 0)) (below := below) (r := r) C hr hlk
  generalize s.heap = H, ([] : List Loc) = locs at hI ⊢
  refine r_iload_n C hl 1 dX7_isSuch_0 rfl rfl ?_
  refine r_gd hf (fun q1_0 hf => ?_)
  refine r_if_eq C q1_0 (tgt := 19) dX7_isSuch_1 (by decide) hf (fun hf => ?_) (fun hf => ?_)
  · refine r_iconst C dX7_isSuch_19 ?_
    refine r_goto C (tgt := 24) dX7_isSuch_20 (by decide) ?_
    exact r_zret hQ (by decide) hf hI dX7_isSuch_24
  · refine r_iload_n C hl 0 dX7_isSuch_4 rfl rfl ?_
    refine r_iload_n C hl 1 dX7_isSuch_5 rfl rfl ?_
    refine r_gd hf (fun q6_1 hf => ?_)
    refine r_ic_eq C q6_1 q1_0 (tgt := 19) dX7_isSuch_6 (by decide) hf (fun hf => ?_) (fun hf => ?_)
    · refine r_iconst C dX7_isSuch_19 ?_
      refine r_goto C (tgt := 24) dX7_isSuch_20 (by decide) ?_
      exact r_zret hQ (by decide) hf hI dX7_isSuch_24
    · refine r_iload_n C hl 0 dX7_isSuch_9 rfl rfl ?_
      refine r_iconst C dX7_isSuch_10 ?_
      refine r_ic_ne C q6_1 (by decide) (tgt := 23) dX7_isSuch_11 (by decide) hf (fun hf => ?_) (fun hf => ?_)
      · refine r_iconst C dX7_isSuch_23 ?_
        exact r_zret hQ (by decide) hf hI dX7_isSuch_24
      · refine r_iload_n C hl 1 dX7_isSuch_14 rfl rfl ?_
        refine r_iconst C dX7_isSuch_15 ?_
        refine r_ic_ne C q1_0 (by decide) (tgt := 23) dX7_isSuch_16 (by decide) hf (fun hf => ?_) (fun hf => ?_)
        · refine r_iconst C dX7_isSuch_23 ?_
          exact r_zret hQ (by decide) hf hI dX7_isSuch_24
        · refine r_iconst C dX7_isSuch_19 ?_
          refine r_goto C (tgt := 24) dX7_isSuch_20 (by decide) ?_
          exact r_zret hQ (by decide) hf hI dX7_isSuch_24
/-! X7_as -/
def f_X7_as (N : Nat) (o0 : Nat) (v1 : Int) (v2 : Int) (M : Mem) : Option (Int × Mem) := bnd (f_X7_isTenant N o0 v1 M) (fun r2 M2 => gd (inR r2) (if r2 = 0 then (some (-101, M2)) else (bnd (f_X7_isKind N v2 M2) (fun r12 M12 => gd (inR r12) (if r12 = 0 then (some (-102, M12)) else (gd (0 ≤ v1 ∧ v1 < 5) (bnd (f_X7_isSuch N (M12 (ch (ch o0 1) 1) v1.toNat) v2 M12) (fun r31 M31 => gd (inR r31) (if r31 = 0 then (some (-1, M31)) else (some (v1, M31)))))))))))
theorem F_X7_as : CalF yX7_as cX7_as 3 (some .int) 2 := ⟨w_395, w_1, by decide +kernel⟩
set_option maxRecDepth 100000 in
set_option maxHeartbeats 4000000 in
theorem c_X7_as {l : Launch} {g : GP} (hj : Inj g) {N : Nat} {M : Mem} {o0 : Nat} {v1 : Int} {v2 : Int} (h0 : kd o0 = 7) {r : Int × Mem} (hf : f_X7_as N o0 v1 v2 M = some r) : Met l yX7_as (Cond.code yX7_as cX7_as 3 (some .int) :: TB) (rmK 1 21) (PreW g M [rI g o0, iI v1, iI v2]) (PostI g r.1 r.2) 0 0 (Ad g) := by
  unfold f_X7_as at hf
  refine met_of (nL := 3) (cc := cX7_as) (M := M) (by decide +kernel) hj (Nat.le_of_ble_eq_true rfl) ?_
  intro p e s m below meth c ls C hr hlk hI hl
  have C : Cx g p s m _ c cX7_as 3 "LentGallery" := C
  have hl : lv_has ls 3 [(0, rI g o0), (1, iI v1), (2, iI v2)] := hl
  have hQ := ret_i (l := l) (e := e) (R := (rmK 1 21)) (below := below) (r := r) C hr hlk (nar_i _)
  generalize s.heap = H, ([] : List Loc) = locs at hI ⊢
  refine r_aload_n C hl 0 dX7_as_0 rfl rfl ?_
  refine r_iload_n C hl 1 dX7_as_1 rfl rfl ?_
  refine r_calli (rest := []) hI hf (fun r M' h => run_V C hI F_X7_isTenant w_361 v_3 w_359 ⟨⟨Nat.le_of_ble_eq_true rfl, Nat.le_of_ble_eq_true rfl⟩, Nat.le_of_ble_eq_true rfl, Nat.le_of_ble_eq_true rfl⟩ (zX7 h0) (oX7 h0) rfl hl dX7_as_2 [iI v1] rfl rfl (Nat.le_of_ble_eq_true rfl) (c_X7_isTenant C.2.2.2.2.2.2 h0 h)) (fun r2 M2 H locs hI hf => ?_)
  refine r_gd hf (fun q5_0 hf => ?_)
  refine r_if_ne C q5_0 (tgt := 11) dX7_as_5 (by decide) hf (fun hf => ?_) (fun hf => ?_)
  · refine r_iload_n C hl 2 dX7_as_11 rfl rfl ?_
    refine r_calli (rest := []) hI hf (fun r M' h => run_S C hI F_X7_isKind w_344 w_343 ⟨⟨Nat.le_of_ble_eq_true rfl, Nat.le_of_ble_eq_true rfl⟩, Nat.le_of_ble_eq_true rfl, Nat.le_of_ble_eq_true rfl⟩ hl dX7_as_12 [iI v2] rfl rfl (Nat.le_of_ble_eq_true rfl) (c_X7_isKind C.2.2.2.2.2.2 h)) (fun r12 M12 H locs hI hf => ?_)
    refine r_gd hf (fun q15_1 hf => ?_)
    refine r_if_ne C q15_1 (tgt := 21) dX7_as_15 (by decide) hf (fun hf => ?_) (fun hf => ?_)
    · refine r_aload_n C hl 0 dX7_as_21 rfl rfl ?_
      refine g_7_1 C hI h0 w_186 dX7_as_22 ?_
      refine g_6_1 C hI (k_7_1 h0) w_70 dX7_as_25 ?_
      refine r_iload_n C hl 1 dX7_as_28 rfl rfl ?_
      refine r_gd hf (fun q29_2 hf => ?_)
      refine r_iald C hI 5 (n := 5) (k_6_1 (k_7_1 h0)) (by decide) rfl q29_2 dX7_as_29 ?_
      refine r_iload_n C hl 2 dX7_as_30 rfl rfl ?_
      refine r_calli (rest := []) hI hf (fun r M' h => run_S C hI F_X7_isSuch w_397 w_396 ⟨⟨Nat.le_of_ble_eq_true rfl, Nat.le_of_ble_eq_true rfl⟩, Nat.le_of_ble_eq_true rfl, Nat.le_of_ble_eq_true rfl⟩ hl dX7_as_31 [iI (M12 (ch (ch o0 1) 1) v1.toNat), iI v2] rfl rfl (Nat.le_of_ble_eq_true rfl) (c_X7_isSuch C.2.2.2.2.2.2 h)) (fun r31 M31 H locs hI hf => ?_)
      refine r_gd hf (fun q34_3 hf => ?_)
      refine r_if_eq C q34_3 (tgt := 41) dX7_as_34 (by decide) hf (fun hf => ?_) (fun hf => ?_)
      · refine r_iconst C dX7_as_41 ?_
        exact r_iret hQ hf hI dX7_as_42
      · refine r_iload_n C hl 1 dX7_as_37 rfl rfl ?_
        refine r_goto C (tgt := 42) dX7_as_38 (by decide) ?_
        exact r_iret hQ hf hI dX7_as_42
    · refine r_bipush C dX7_as_18 rfl ?_
      exact r_iret hQ hf hI dX7_as_20
  · refine r_bipush C dX7_as_8 rfl ?_
    exact r_iret hQ hf hI dX7_as_10
/-! X7_move -/
def f_X7_move (N : Nat) (o0 : Nat) (v1 : Int) (v2 : Int) (M : Mem) : Option (Int × Mem) := bnd (f_X7_isTenant N o0 v1 M) (fun r2 M2 => gd (inR r2) (if r2 = 0 then (some (-101, M2)) else (bnd (f_X7_isPlace N o0 v2 M2) (fun r10 M10 => gd (inR r10) (if r10 = 0 then (some (-101, M10)) else (gd (0 ≤ v1 ∧ v1 < 5) (bnd (f_X6_rehouse N (ch o0 1) v1 v2 M10) (fun r35 M35 => gd (inR r35) (if r35 = 0 then (some (-103, M35)) else (some (M10 (ch (ch o0 1) 2) v1.toNat, M35)))))))))))
theorem F_X7_move : CalF yX7_move cX7_move 4 (some .int) 2 := ⟨w_402, w_1, by decide +kernel⟩
set_option maxRecDepth 100000 in
set_option maxHeartbeats 4000000 in
theorem c_X7_move {l : Launch} {g : GP} (hj : Inj g) {N : Nat} {M : Mem} {o0 : Nat} {v1 : Int} {v2 : Int} (h0 : kd o0 = 7) {r : Int × Mem} (hf : f_X7_move N o0 v1 v2 M = some r) : Met l yX7_move (Cond.code yX7_move cX7_move 4 (some .int) :: TB) (rmK 3 66) (PreW g M [rI g o0, iI v1, iI v2]) (PostI g r.1 r.2) 0 0 (Ad g) := by
  unfold f_X7_move at hf
  refine met_of (nL := 4) (cc := cX7_move) (M := M) (by decide +kernel) hj (Nat.le_of_ble_eq_true rfl) ?_
  intro p e s m below meth c ls C hr hlk hI hl
  have C : Cx g p s m _ c cX7_move 4 "LentGallery" := C
  have hl : lv_has ls 4 [(0, rI g o0), (1, iI v1), (2, iI v2)] := hl
  have hQ := ret_i (l := l) (e := e) (R := (rmK 3 66)) (below := below) (r := r) C hr hlk (nar_i _)
  generalize s.heap = H, ([] : List Loc) = locs at hI ⊢
  refine r_aload_n C hl 0 dX7_move_0 rfl rfl ?_
  refine r_iload_n C hl 1 dX7_move_1 rfl rfl ?_
  refine r_calli (rest := []) hI hf (fun r M' h => run_V C hI F_X7_isTenant w_361 v_3 w_359 ⟨⟨Nat.le_of_ble_eq_true rfl, Nat.le_of_ble_eq_true rfl⟩, Nat.le_of_ble_eq_true rfl, Nat.le_of_ble_eq_true rfl⟩ (zX7 h0) (oX7 h0) rfl hl dX7_move_2 [iI v1] rfl rfl (Nat.le_of_ble_eq_true rfl) (c_X7_isTenant C.2.2.2.2.2.2 h0 h)) (fun r2 M2 H locs hI hf => ?_)
  refine r_gd hf (fun q5_0 hf => ?_)
  refine r_if_eq C q5_0 (tgt := 16) dX7_move_5 (by decide) hf (fun hf => ?_) (fun hf => ?_)
  · refine r_bipush C dX7_move_16 rfl ?_
    exact r_iret hQ hf hI dX7_move_18
  · refine r_aload_n C hl 0 dX7_move_8 rfl rfl ?_
    refine r_iload_n C hl 2 dX7_move_9 rfl rfl ?_
    refine r_calli (rest := []) hI hf (fun r M' h => run_V C hI F_X7_isPlace w_270 v_0 w_268 ⟨⟨Nat.le_of_ble_eq_true rfl, Nat.le_of_ble_eq_true rfl⟩, Nat.le_of_ble_eq_true rfl, Nat.le_of_ble_eq_true rfl⟩ (zX7 h0) (oX7 h0) rfl hl dX7_move_10 [iI v2] rfl rfl (Nat.le_of_ble_eq_true rfl) (c_X7_isPlace C.2.2.2.2.2.2 h0 h)) (fun r10 M10 H locs hI hf => ?_)
    refine r_gd hf (fun q13_1 hf => ?_)
    refine r_if_ne C q13_1 (tgt := 19) dX7_move_13 (by decide) hf (fun hf => ?_) (fun hf => ?_)
    · refine r_aload_n C hl 0 dX7_move_19 rfl rfl ?_
      refine g_7_1 C hI h0 w_186 dX7_move_20 ?_
      refine g_6_2 C hI (k_7_1 h0) w_72 dX7_move_23 ?_
      refine r_iload_n C hl 1 dX7_move_26 rfl rfl ?_
      refine r_gd hf (fun q27_2 hf => ?_)
      refine r_iald C hI 5 (n := 5) (k_6_2 (k_7_1 h0)) (by decide) rfl q27_2 dX7_move_27 ?_
      refine r_istore_n C hl (lv' := [(3, iI (M10 (ch (ch o0 1) 2) v1.toNat)), (0, rI g o0), (1, iI v1), (2, iI v2)]) dX7_move_28 rfl (Nat.le_of_ble_eq_true rfl) rfl (fun ls hl => ?_)
      refine r_aload_n C hl 1 dX7_move_29 rfl rfl ?_
      refine g_7_1 C hI h0 w_186 dX7_move_30 ?_
      refine r_iload_n C hl 2 dX7_move_33 rfl rfl ?_
      refine r_iload_n C hl 3 dX7_move_34 rfl rfl ?_
      refine r_calli (rest := []) hI hf (fun r M' h => run_V C hI F_X6_rehouse w_404 w_405 w_403 ⟨⟨Nat.le_of_ble_eq_true rfl, Nat.le_of_ble_eq_true rfl⟩, Nat.le_of_ble_eq_true rfl, Nat.le_of_ble_eq_true rfl⟩ (zX6 (k_7_1 h0)) (oX6 (k_7_1 h0)) rfl hl dX7_move_35 [iI v1, iI v2] rfl rfl (Nat.le_of_ble_eq_true rfl) (c_X6_rehouse C.2.2.2.2.2.2 (k_7_1 h0) h)) (fun r35 M35 H locs hI hf => ?_)
      refine r_gd hf (fun q38_3 hf => ?_)
      refine r_if_eq C q38_3 (tgt := 45) dX7_move_38 (by decide) hf (fun hf => ?_) (fun hf => ?_)
      · refine r_bipush C dX7_move_45 rfl ?_
        exact r_iret hQ hf hI dX7_move_47
      · refine r_iload_n C hl 0 dX7_move_41 rfl rfl ?_
        refine r_goto C (tgt := 47) dX7_move_42 (by decide) ?_
        exact r_iret hQ hf hI dX7_move_47
    · refine r_bipush C dX7_move_16 rfl ?_
      exact r_iret hQ hf hI dX7_move_18
/-! X7_day -/
def f_X7_day (N : Nat) (o0 : Nat) (M : Mem) : Option (Int × Mem) := gd (inR (M o0 9)) (if (M o0 9) = 0 then (some (-103, M)) else (bnd (f_X6_liveDay N (ch o0 1) M) (fun r11 M11 => some (r11, M11))))
theorem F_X7_day : CalF yX7_day cX7_day 1 (some .int) 0 := ⟨w_411, w_1, by decide +kernel⟩
set_option maxRecDepth 100000 in
set_option maxHeartbeats 4000000 in
theorem c_X7_day {l : Launch} {g : GP} (hj : Inj g) {N : Nat} {M : Mem} {o0 : Nat} (h0 : kd o0 = 7) {r : Int × Mem} (hf : f_X7_day N o0 M = some r) : Met l yX7_day (Cond.code yX7_day cX7_day 1 (some .int) :: TB) (rmK 3 65) (PreW g M [rI g o0]) (PostI g r.1 r.2) 0 0 (Ad g) := by
  unfold f_X7_day at hf
  refine met_of (nL := 1) (cc := cX7_day) (M := M) (by decide +kernel) hj (Nat.le_of_ble_eq_true rfl) ?_
  intro p e s m below meth c ls C hr hlk hI hl
  have C : Cx g p s m _ c cX7_day 1 "LentGallery" := C
  have hl : lv_has ls 1 [(0, rI g o0)] := hl
  have hQ := ret_i (l := l) (e := e) (R := (rmK 3 65)) (below := below) (r := r) C hr hlk (nar_i _)
  generalize s.heap = H, ([] : List Loc) = locs at hI ⊢
  refine r_aload_n C hl 0 dX7_day_0 rfl rfl ?_
  refine g_7_9 C hI h0 w_194 dX7_day_1 ?_
  refine r_gd hf (fun q4_0 hf => ?_)
  refine r_if_eq C q4_0 (tgt := 17) dX7_day_4 (by decide) hf (fun hf => ?_) (fun hf => ?_)
  · refine r_bipush C dX7_day_17 rfl ?_
    exact r_iret hQ hf hI dX7_day_19
  · refine r_aload_n C hl 0 dX7_day_7 rfl rfl ?_
    refine g_7_1 C hI h0 w_186 dX7_day_8 ?_
    refine r_calli (rest := []) hI hf (fun r M' h => run_V C hI F_X6_liveDay w_413 w_414 w_412 ⟨⟨Nat.le_of_ble_eq_true rfl, Nat.le_of_ble_eq_true rfl⟩, Nat.le_of_ble_eq_true rfl, Nat.le_of_ble_eq_true rfl⟩ (zX6 (k_7_1 h0)) (oX6 (k_7_1 h0)) rfl hl dX7_day_11 [] rfl rfl (Nat.le_of_ble_eq_true rfl) (c_X6_liveDay C.2.2.2.2.2.2 (k_7_1 h0) h)) (fun r11 M11 H locs hI hf => ?_)
    refine r_goto C (tgt := 19) dX7_day_14 (by decide) ?_
    exact r_iret hQ hf hI dX7_day_19
/-! X7_orNone -/
def f_X7_orNone (N : Nat) (v0 : Int) (M : Mem) : Option (Int × Mem) := gd (inR v0) (if v0 = 41 then (some (-1, M)) else (some (v0, M)))
theorem F_X7_orNone : CalF yX7_orNone cX7_orNone 1 (some .int) 1 := ⟨w_428, w_1, by decide +kernel⟩
set_option maxRecDepth 100000 in
set_option maxHeartbeats 4000000 in
theorem c_X7_orNone {l : Launch} {g : GP} (hj : Inj g) {N : Nat} {M : Mem} {v0 : Int} {r : Int × Mem} (hf : f_X7_orNone N v0 M = some r) : Met l yX7_orNone (Cond.code yX7_orNone cX7_orNone 1 (some .int) :: TB) (rmK 0 0) (PreW g M [iI v0]) (PostI g r.1 r.2) 0 0 (Ad g) := by
  unfold f_X7_orNone at hf
  refine met_of (nL := 1) (cc := cX7_orNone) (M := M) (by decide +kernel) hj (Nat.le_of_ble_eq_true rfl) ?_
  intro p e s m below meth c ls C hr hlk hI hl
  have C : Cx g p s m _ c cX7_orNone 1 "LentGallery" := C
  have hl : lv_has ls 1 [(0, iI v0)] := hl
  have hQ := ret_i (l := l) (e := e) (R := (rmK 0 0)) (below := below) (r := r) C hr hlk (nar_i _)
  generalize s.heap = H, ([] : List Loc) = locs at hI ⊢
  refine r_iload_n C hl 0 dX7_orNone_0 rfl rfl ?_
  refine r_bipush C dX7_orNone_1 rfl ?_
  refine r_gd hf (fun q3_0 hf => ?_)
  refine r_ic_ne C q3_0 (by decide) (tgt := 10) dX7_orNone_3 (by decide) hf (fun hf => ?_) (fun hf => ?_)
  · refine r_iload_n C hl 0 dX7_orNone_10 rfl rfl ?_
    exact r_iret hQ hf hI dX7_orNone_11
  · refine r_iconst C dX7_orNone_6 ?_
    refine r_goto C (tgt := 11) dX7_orNone_7 (by decide) ?_
    exact r_iret hQ hf hI dX7_orNone_11
/-! X7_holds -/
def f_X7_holds (N : Nat) (o0 : Nat) (M : Mem) : Option (Int × Mem) := gd (inR (M o0 9)) (if (M o0 9) = 0 then (some (-103, M)) else (bnd (f_X3_firstFall N (ch (ch o0 1) 0) M) (fun r14 M14 => bnd (f_X7_orNone N r14 M14) (fun r17 M17 => some (r17, M17)))))
theorem F_X7_holds : CalF yX7_holds cX7_holds 1 (some .int) 0 := ⟨w_420, w_1, by decide +kernel⟩
set_option maxRecDepth 100000 in
set_option maxHeartbeats 4000000 in
theorem c_X7_holds {l : Launch} {g : GP} (hj : Inj g) {N : Nat} {M : Mem} {o0 : Nat} (h0 : kd o0 = 7) {r : Int × Mem} (hf : f_X7_holds N o0 M = some r) : Met l yX7_holds (Cond.code yX7_holds cX7_holds 1 (some .int) :: TB) (rmK 2 45) (PreW g M [rI g o0]) (PostI g r.1 r.2) 0 0 (Ad g) := by
  unfold f_X7_holds at hf
  refine met_of (nL := 1) (cc := cX7_holds) (M := M) (by decide +kernel) hj (Nat.le_of_ble_eq_true rfl) ?_
  intro p e s m below meth c ls C hr hlk hI hl
  have C : Cx g p s m _ c cX7_holds 1 "LentGallery" := C
  have hl : lv_has ls 1 [(0, rI g o0)] := hl
  have hQ := ret_i (l := l) (e := e) (R := (rmK 2 45)) (below := below) (r := r) C hr hlk (nar_i _)
  generalize s.heap = H, ([] : List Loc) = locs at hI ⊢
  refine r_aload_n C hl 0 dX7_holds_0 rfl rfl ?_
  refine g_7_9 C hI h0 w_194 dX7_holds_1 ?_
  refine r_gd hf (fun q4_0 hf => ?_)
  refine r_if_eq C q4_0 (tgt := 23) dX7_holds_4 (by decide) hf (fun hf => ?_) (fun hf => ?_)
  · refine r_bipush C dX7_holds_23 rfl ?_
    exact r_iret hQ hf hI dX7_holds_25
  · refine r_aload_n C hl 0 dX7_holds_7 rfl rfl ?_
    refine g_7_1 C hI h0 w_186 dX7_holds_8 ?_
    refine g_6_0 C hI (k_7_1 h0) w_68 dX7_holds_11 ?_
    refine r_calli (rest := []) hI hf (fun r M' h => run_V C hI F_X3_firstFall w_422 w_423 w_421 ⟨⟨Nat.le_of_ble_eq_true rfl, Nat.le_of_ble_eq_true rfl⟩, Nat.le_of_ble_eq_true rfl, Nat.le_of_ble_eq_true rfl⟩ (zX3 (k_6_0 (k_7_1 h0))) (oX3 (k_6_0 (k_7_1 h0))) rfl hl dX7_holds_14 [] rfl rfl (Nat.le_of_ble_eq_true rfl) (c_X3_firstFall C.2.2.2.2.2.2 (k_6_0 (k_7_1 h0)) h)) (fun r14 M14 H locs hI hf => ?_)
    refine r_calli (rest := []) hI hf (fun r M' h => run_S C hI F_X7_orNone w_427 w_426 ⟨⟨Nat.le_of_ble_eq_true rfl, Nat.le_of_ble_eq_true rfl⟩, Nat.le_of_ble_eq_true rfl, Nat.le_of_ble_eq_true rfl⟩ hl dX7_holds_17 [iI r14] rfl rfl (Nat.le_of_ble_eq_true rfl) (c_X7_orNone C.2.2.2.2.2.2 h)) (fun r17 M17 H locs hI hf => ?_)
    refine r_goto C (tgt := 25) dX7_holds_20 (by decide) ?_
    exact r_iret hQ hf hI dX7_holds_25
/-! X7_where -/
def f_X7_where_33 (N : Nat) (o0 : Nat) (v1 : Int) (v2 : Int) (v3 : Int) (M : Mem) : Option (Int × Mem) := gd (inR (M o0 9)) (if (M o0 9) = 0 then (some (-103, M)) else (gd (inR (M o0 12)) (if (M o0 12) < 12 then (bnv (f_X4_seek N (ch o0 6) (ch o0 1) (st M o0 12 ((M o0 12) + 1))) (fun M70 => gd (inR (M70 (ch o0 6) 4)) (if (M70 (ch o0 6) 4) = 0 then (some (-1, M70)) else (gd (inR v3) (if v3 = 0 then (bnd (f_X7_orNone N (M70 (ch o0 6) 3) M70) (fun r96 M96 => some (r96, M96))) else (bnd (f_X7_isTenant N o0 v2 M70) (fun r102 M102 => gd (inR r102) (if r102 = 0 then (some (-1, M102)) else (gd (0 ≤ v2 ∧ v2 < 5) (some (M102 (ch (ch o0 6) 2) v2.toNat, M102))))))))))) else (some (-103, M)))))
def f_X7_where_21 (N : Nat) (o0 : Nat) (v1 : Int) (v2 : Int) (s0 : Int) (M : Mem) : Option (Int × Mem) := gd (inR v1) (if v1 = 0 then (f_X7_where_33 N o0 v1 v2 s0 M) else (gd (inR s0) (if s0 = 0 then (some (-102, M)) else (f_X7_where_33 N o0 v1 v2 s0 M))))
def f_X7_where_20 (N : Nat) (o0 : Nat) (v1 : Int) (v2 : Int) (M : Mem) : Option (Int × Mem) := f_X7_where_21 N o0 v1 v2 0 M
def f_X7_where (N : Nat) (o0 : Nat) (v1 : Int) (M : Mem) : Option (Int × Mem) := gd (inR v1) (if v1 < 10 then (f_X7_where_20 N o0 v1 (v1 - 10) M) else (gd (inR (v1 - 10)) (if 5 ≤ (v1 - 10) then (f_X7_where_20 N o0 v1 (v1 - 10) M) else (f_X7_where_21 N o0 v1 (v1 - 10) 1 M))))
theorem F_X7_where : CalF yX7_where cX7_where 4 (some .int) 1 := ⟨w_432, w_1, by decide +kernel⟩
set_option maxRecDepth 100000 in
set_option maxHeartbeats 4000000 in
theorem t_X7_where_33 {g : GP} {p : Program} {l : Launch} {e : Env} {s : State} {m : MethodId} {args : Array Value} {below : List Frame} {meth : Method} {c : Code} {Q : State → Prop} {N : Nat} {o0 : Nat} {v1 : Int} (h0 : kd o0 = 7) (C : Cx g p s m args c cX7_where 4 "LentGallery") {r : Int × Mem} (hQ : RetI g p l e (rmK 10 257) s m args below meth c cX7_where r Q) : ∀ (v2 v3 : Int) (M : Mem) (H : Heap) (locs : List Loc) (ls : Array Slot), f_X7_where_33 N o0 v1 v2 v3 M = some r → Inv g s M H locs → lv_has ls 4 [(0, rI g o0), (2, iI v2), (3, iI v3)] → W p l e (rmK 10 257) s m args below meth c H locs 0 0 Q (F0 m 33 ls []) := by
  intro v2 v3 M H locs ls hf hI hl
  unfold f_X7_where_33 at hf
  refine r_aload_n C hl 0 dX7_where_33 rfl rfl ?_
  refine g_7_9 C hI h0 w_194 dX7_where_34 ?_
  refine r_gd hf (fun q37_0 hf => ?_)
  refine r_if_eq C q37_0 (tgt := 49) dX7_where_37 (by decide) hf (fun hf => ?_) (fun hf => ?_)
  · refine r_bipush C dX7_where_49 rfl ?_
    exact r_iret hQ hf hI dX7_where_51
  · refine r_aload_n C hl 0 dX7_where_40 rfl rfl ?_
    refine g_7_12 C hI h0 w_197 dX7_where_41 ?_
    refine r_bipush C dX7_where_44 rfl ?_
    refine r_gd hf (fun q46_1 hf => ?_)
    refine r_ic_lt C q46_1 (by decide) (tgt := 52) dX7_where_46 (by decide) hf (fun hf => ?_) (fun hf => ?_)
    · refine r_aload_n C hl 0 dX7_where_52 rfl rfl ?_
      refine r_dup C dX7_where_53 rfl ?_
      refine g_7_12 C hI h0 w_197 dX7_where_54 ?_
      refine r_iconst C dX7_where_57 ?_
      refine r_iadd C dX7_where_58 ?_
      refine p_7_12 C hI h0 w_197 dX7_where_59 (fun H locs hI => ?_)
      refine r_aload_n C hl 0 dX7_where_62 rfl rfl ?_
      refine g_7_6 C hI h0 w_191 dX7_where_63 ?_
      refine r_aload_n C hl 0 dX7_where_66 rfl rfl ?_
      refine g_7_1 C hI h0 w_186 dX7_where_67 ?_
      refine r_callv (rest := []) hI hf (fun M' h => run_V C hI F_X4_seek w_434 w_435 w_433 ⟨⟨Nat.le_of_ble_eq_true rfl, Nat.le_of_ble_eq_true rfl⟩, Nat.le_of_ble_eq_true rfl, Nat.le_of_ble_eq_true rfl⟩ (zX4 (k_7_6 h0)) (oX4 (k_7_6 h0)) rfl hl dX7_where_70 [rI g (ch o0 1)] rfl rfl (Nat.le_of_ble_eq_true rfl) (c_X4_seek C.2.2.2.2.2.2 (k_7_6 h0) (k_7_1 h0) h)) (fun M70 H locs hI hf => ?_)
      refine r_aload_n C hl 0 dX7_where_73 rfl rfl ?_
      refine g_7_6 C hI h0 w_191 dX7_where_74 ?_
      refine g_4_4 C hI (k_7_6 h0) w_140 dX7_where_77 ?_
      refine r_gd hf (fun q80_2 hf => ?_)
      refine r_if_ne C q80_2 (tgt := 85) dX7_where_80 (by decide) hf (fun hf => ?_) (fun hf => ?_)
      · refine r_iload_n C hl 2 dX7_where_85 rfl rfl ?_
        refine r_gd hf (fun q86_3 hf => ?_)
        refine r_if_ne C q86_3 (tgt := 100) dX7_where_86 (by decide) hf (fun hf => ?_) (fun hf => ?_)
        · refine r_aload_n C hl 0 dX7_where_100 rfl rfl ?_
          refine r_iload_n C hl 1 dX7_where_101 rfl rfl ?_
          refine r_calli (rest := []) hI hf (fun r M' h => run_V C hI F_X7_isTenant w_361 v_3 w_359 ⟨⟨Nat.le_of_ble_eq_true rfl, Nat.le_of_ble_eq_true rfl⟩, Nat.le_of_ble_eq_true rfl, Nat.le_of_ble_eq_true rfl⟩ (zX7 h0) (oX7 h0) rfl hl dX7_where_102 [iI v2] rfl rfl (Nat.le_of_ble_eq_true rfl) (c_X7_isTenant C.2.2.2.2.2.2 h0 h)) (fun r102 M102 H locs hI hf => ?_)
          refine r_gd hf (fun q105_4 hf => ?_)
          refine r_if_eq C q105_4 (tgt := 120) dX7_where_105 (by decide) hf (fun hf => ?_) (fun hf => ?_)
          · refine r_iconst C dX7_where_120 ?_
            exact r_iret hQ hf hI dX7_where_121
          · refine r_aload_n C hl 0 dX7_where_108 rfl rfl ?_
            refine g_7_6 C hI h0 w_191 dX7_where_109 ?_
            refine g_4_2 C hI (k_7_6 h0) w_136 dX7_where_112 ?_
            refine r_iload_n C hl 1 dX7_where_115 rfl rfl ?_
            refine r_gd hf (fun q116_5 hf => ?_)
            refine r_iald C hI 5 (n := 5) (k_4_2 (k_7_6 h0)) (by decide) rfl q116_5 dX7_where_116 ?_
            refine r_goto C (tgt := 121) dX7_where_117 (by decide) ?_
            exact r_iret hQ hf hI dX7_where_121
        · refine r_aload_n C hl 0 dX7_where_89 rfl rfl ?_
          refine g_7_6 C hI h0 w_191 dX7_where_90 ?_
          refine g_4_3 C hI (k_7_6 h0) w_138 dX7_where_93 ?_
          refine r_calli (rest := []) hI hf (fun r M' h => run_S C hI F_X7_orNone w_427 w_426 ⟨⟨Nat.le_of_ble_eq_true rfl, Nat.le_of_ble_eq_true rfl⟩, Nat.le_of_ble_eq_true rfl, Nat.le_of_ble_eq_true rfl⟩ hl dX7_where_96 [iI (M70 (ch o0 6) 3)] rfl rfl (Nat.le_of_ble_eq_true rfl) (c_X7_orNone C.2.2.2.2.2.2 h)) (fun r96 M96 H locs hI hf => ?_)
          exact r_iret hQ hf hI dX7_where_99
      · refine r_iconst C dX7_where_83 ?_
        exact r_iret hQ hf hI dX7_where_84
    · refine r_bipush C dX7_where_49 rfl ?_
      exact r_iret hQ hf hI dX7_where_51
set_option maxRecDepth 100000 in
set_option maxHeartbeats 4000000 in
theorem t_X7_where_21 {g : GP} {p : Program} {l : Launch} {e : Env} {s : State} {m : MethodId} {args : Array Value} {below : List Frame} {meth : Method} {c : Code} {Q : State → Prop} {N : Nat} {o0 : Nat} {v1 : Int} (h0 : kd o0 = 7) (C : Cx g p s m args c cX7_where 4 "LentGallery") {r : Int × Mem} (hQ : RetI g p l e (rmK 10 257) s m args below meth c cX7_where r Q) : ∀ (v2 s0 : Int) (M : Mem) (H : Heap) (locs : List Loc) (ls : Array Slot), f_X7_where_21 N o0 v1 v2 s0 M = some r → Inv g s M H locs → lv_has ls 4 [(0, rI g o0), (1, iI v1), (2, iI v2)] → W p l e (rmK 10 257) s m args below meth c H locs 0 0 Q (F0 m 21 ls [iI s0]) := by
  intro v2 s0 M H locs ls hf hI hl
  unfold f_X7_where_21 at hf
  refine r_istore_n C hl (lv' := [(3, iI s0), (0, rI g o0), (1, iI v1), (2, iI v2)]) dX7_where_21 rfl (Nat.le_of_ble_eq_true rfl) rfl (fun ls hl => ?_)
  refine r_iload_n C hl 2 dX7_where_22 rfl rfl ?_
  refine r_gd hf (fun q23_0 hf => ?_)
  refine r_if_eq C q23_0 (tgt := 33) dX7_where_23 (by decide) hf (fun hf => ?_) (fun hf => ?_)
  · exact t_X7_where_33 h0 C hQ _ _ _ _ _ _ hf hI (lv_sub hl [1, 3, 0] rfl)
  · refine r_iload_n C hl 0 dX7_where_26 rfl rfl ?_
    refine r_gd hf (fun q27_1 hf => ?_)
    refine r_if_ne C q27_1 (tgt := 33) dX7_where_27 (by decide) hf (fun hf => ?_) (fun hf => ?_)
    · exact t_X7_where_33 h0 C hQ _ _ _ _ _ _ hf hI (lv_sub hl [1, 3, 0] rfl)
    · refine r_bipush C dX7_where_30 rfl ?_
      exact r_iret hQ hf hI dX7_where_32
set_option maxRecDepth 100000 in
set_option maxHeartbeats 4000000 in
theorem t_X7_where_20 {g : GP} {p : Program} {l : Launch} {e : Env} {s : State} {m : MethodId} {args : Array Value} {below : List Frame} {meth : Method} {c : Code} {Q : State → Prop} {N : Nat} {o0 : Nat} {v1 : Int} (h0 : kd o0 = 7) (C : Cx g p s m args c cX7_where 4 "LentGallery") {r : Int × Mem} (hQ : RetI g p l e (rmK 10 257) s m args below meth c cX7_where r Q) : ∀ (v2 : Int) (M : Mem) (H : Heap) (locs : List Loc) (ls : Array Slot), f_X7_where_20 N o0 v1 v2 M = some r → Inv g s M H locs → lv_has ls 4 [(0, rI g o0), (1, iI v1), (2, iI v2)] → W p l e (rmK 10 257) s m args below meth c H locs 0 0 Q (F0 m 20 ls []) := by
  intro v2 M H locs ls hf hI hl
  unfold f_X7_where_20 at hf
  refine r_iconst C dX7_where_20 ?_
  exact t_X7_where_21 h0 C hQ _ _ _ _ _ _ hf hI (lv_sub hl [0, 1, 2] rfl)
set_option maxRecDepth 100000 in
set_option maxHeartbeats 4000000 in
theorem c_X7_where {l : Launch} {g : GP} (hj : Inj g) {N : Nat} {M : Mem} {o0 : Nat} {v1 : Int} (h0 : kd o0 = 7) {r : Int × Mem} (hf : f_X7_where N o0 v1 M = some r) : Met l yX7_where (Cond.code yX7_where cX7_where 4 (some .int) :: TB) (rmK 10 257) (PreW g M [rI g o0, iI v1]) (PostI g r.1 r.2) 0 0 (Ad g) := by
  unfold f_X7_where at hf
  refine met_of (nL := 4) (cc := cX7_where) (M := M) (by decide +kernel) hj (Nat.le_of_ble_eq_true rfl) ?_
  intro p e s m below meth c ls C hr hlk hI hl
  have C : Cx g p s m _ c cX7_where 4 "LentGallery" := C
  have hl : lv_has ls 4 [(0, rI g o0), (1, iI v1)] := hl
  have hQ := ret_i (l := l) (e := e) (R := (rmK 10 257)) (below := below) (r := r) C hr hlk (nar_i _)
  generalize s.heap = H, ([] : List Loc) = locs at hI ⊢
  refine r_iload_n C hl 1 dX7_where_0 rfl rfl ?_
  refine r_bipush C dX7_where_1 rfl ?_
  refine r_isub C dX7_where_3 ?_
  refine r_istore_n C hl (lv' := [(2, iI (v1 - 10)), (0, rI g o0), (1, iI v1)]) dX7_where_4 rfl (Nat.le_of_ble_eq_true rfl) rfl (fun ls hl => ?_)
  refine r_iload_n C hl 2 dX7_where_5 rfl rfl ?_
  refine r_bipush C dX7_where_6 rfl ?_
  refine r_gd hf (fun q8_0 hf => ?_)
  refine r_ic_lt C q8_0 (by decide) (tgt := 20) dX7_where_8 (by decide) hf (fun hf => ?_) (fun hf => ?_)
  · exact t_X7_where_20 h0 C hQ _ _ _ _ _ hf hI (lv_sub hl [1, 2, 0] rfl)
  · refine r_iload_n C hl 0 dX7_where_11 rfl rfl ?_
    refine r_iconst C dX7_where_12 ?_
    refine r_gd hf (fun q13_1 hf => ?_)
    refine r_ic_ge C q13_1 (by decide) (tgt := 20) dX7_where_13 (by decide) hf (fun hf => ?_) (fun hf => ?_)
    · exact t_X7_where_20 h0 C hQ _ _ _ _ _ hf hI (lv_sub hl [1, 2, 0] rfl)
    · refine r_iconst C dX7_where_16 ?_
      refine r_goto C (tgt := 21) dX7_where_17 (by decide) ?_
      exact t_X7_where_21 h0 C hQ _ _ _ _ _ _ hf hI (lv_sub hl [1, 2, 0] rfl)
/-! X7_props -/
def f_X7_props_47 (N : Nat) (o0 : Nat) (v1 : Int) (v2 : Int) (v3 : Int) (v4 : Int) (M : Mem) : Option (Int × Mem) := gd (inR (M o0 9)) (if (M o0 9) = 0 then (some (-103, M)) else (bnd (f_X3_propsNeeded N (ch (ch o0 1) 0) v1 M) (fun r65 M65 => gd (inR r65) (if r65 = (-1) then (some (r65, M65)) else (gd (inR v4) (if v4 = 0 then (some (r65, M65)) else (bnd (f_X3_propsNeededAt N (ch (ch o0 1) 0) v3 v1 M65) (fun r95 M95 => some (r95, M95)))))))))
def f_X7_props_22 (N : Nat) (o0 : Nat) (v1 : Int) (v2 : Int) (v3 : Int) (s0 : Int) (M : Mem) : Option (Int × Mem) := gd (inR v1) (if v1 < 1 then (some (-102, M)) else (if 20 < v1 then (some (-102, M)) else (gd (inR v2) (if v2 = 0 then (f_X7_props_47 N o0 v1 v2 v3 s0 M) else (gd (inR s0) (if s0 = 0 then (some (-102, M)) else (f_X7_props_47 N o0 v1 v2 v3 s0 M)))))))
def f_X7_props_21 (N : Nat) (o0 : Nat) (v1 : Int) (v2 : Int) (v3 : Int) (M : Mem) : Option (Int × Mem) := f_X7_props_22 N o0 v1 v2 v3 0 M
def f_X7_props (N : Nat) (o0 : Nat) (v1 : Int) (v2 : Int) (M : Mem) : Option (Int × Mem) := gd (inR v2) (if v2 < 10 then (f_X7_props_21 N o0 v1 v2 (v2 - 10) M) else (gd (inR (v2 - 10)) (if 6 ≤ (v2 - 10) then (f_X7_props_21 N o0 v1 v2 (v2 - 10) M) else (f_X7_props_22 N o0 v1 v2 (v2 - 10) 1 M))))
theorem F_X7_props : CalF yX7_props cX7_props 6 (some .int) 2 := ⟨w_455, w_1, by decide +kernel⟩
set_option maxRecDepth 100000 in
set_option maxHeartbeats 4000000 in
theorem t_X7_props_47 {g : GP} {p : Program} {l : Launch} {e : Env} {s : State} {m : MethodId} {args : Array Value} {below : List Frame} {meth : Method} {c : Code} {Q : State → Prop} {N : Nat} {o0 : Nat} {v1 : Int} {v2 : Int} (h0 : kd o0 = 7) (C : Cx g p s m args c cX7_props 6 "LentGallery") {r : Int × Mem} (hQ : RetI g p l e (rmK 3 70) s m args below meth c cX7_props r Q) : ∀ (v3 v4 : Int) (M : Mem) (H : Heap) (locs : List Loc) (ls : Array Slot), f_X7_props_47 N o0 v1 v2 v3 v4 M = some r → Inv g s M H locs → lv_has ls 6 [(0, rI g o0), (1, iI v1), (3, iI v3), (4, iI v4)] → W p l e (rmK 3 70) s m args below meth c H locs 0 0 Q (F0 m 47 ls []) := by
  intro v3 v4 M H locs ls hf hI hl
  unfold f_X7_props_47 at hf
  refine r_aload_n C hl 0 dX7_props_47 rfl rfl ?_
  refine g_7_9 C hI h0 w_194 dX7_props_48 ?_
  refine r_gd hf (fun q51_0 hf => ?_)
  refine r_if_ne C q51_0 (tgt := 57) dX7_props_51 (by decide) hf (fun hf => ?_) (fun hf => ?_)
  · refine r_aload_n C hl 0 dX7_props_57 rfl rfl ?_
    refine g_7_1 C hI h0 w_186 dX7_props_58 ?_
    refine g_6_0 C hI (k_7_1 h0) w_68 dX7_props_61 ?_
    refine r_iload_n C hl 1 dX7_props_64 rfl rfl ?_
    refine r_calli (rest := []) hI hf (fun r M' h => run_V C hI F_X3_propsNeeded w_457 w_458 w_456 ⟨⟨Nat.le_of_ble_eq_true rfl, Nat.le_of_ble_eq_true rfl⟩, Nat.le_of_ble_eq_true rfl, Nat.le_of_ble_eq_true rfl⟩ (zX3 (k_6_0 (k_7_1 h0))) (oX3 (k_6_0 (k_7_1 h0))) rfl hl dX7_props_65 [iI v1] rfl rfl (Nat.le_of_ble_eq_true rfl) (c_X3_propsNeeded C.2.2.2.2.2.2 (k_6_0 (k_7_1 h0)) h)) (fun r65 M65 H locs hI hf => ?_)
    refine r_istore C hl (lv' := [(5, iI r65), (0, rI g o0), (1, iI v1), (3, iI v3), (4, iI v4)]) dX7_props_68 (Nat.le_of_ble_eq_true rfl) rfl (fun ls hl => ?_)
    refine r_iload C hl 0 dX7_props_70 rfl ?_
    refine r_iconst C dX7_props_72 ?_
    refine r_gd hf (fun q73_1 hf => ?_)
    refine r_ic_eq C q73_1 (by decide) (tgt := 81) dX7_props_73 (by decide) hf (fun hf => ?_) (fun hf => ?_)
    · refine r_iload C hl 0 dX7_props_81 rfl ?_
      refine r_goto C (tgt := 98) dX7_props_83 (by decide) ?_
      exact r_iret hQ hf hI dX7_props_98
    · refine r_iload C hl 4 dX7_props_76 rfl ?_
      refine r_gd hf (fun q78_2 hf => ?_)
      refine r_if_ne C q78_2 (tgt := 86) dX7_props_78 (by decide) hf (fun hf => ?_) (fun hf => ?_)
      · refine r_aload_n C hl 1 dX7_props_86 rfl rfl ?_
        refine g_7_1 C hI h0 w_186 dX7_props_87 ?_
        refine g_6_0 C hI (k_7_1 h0) w_68 dX7_props_90 ?_
        refine r_iload_n C hl 3 dX7_props_93 rfl rfl ?_
        refine r_iload_n C hl 2 dX7_props_94 rfl rfl ?_
        refine r_calli (rest := []) hI hf (fun r M' h => run_V C hI F_X3_propsNeededAt w_461 w_462 w_465 ⟨⟨Nat.le_of_ble_eq_true rfl, Nat.le_of_ble_eq_true rfl⟩, Nat.le_of_ble_eq_true rfl, Nat.le_of_ble_eq_true rfl⟩ (zX3 (k_6_0 (k_7_1 h0))) (oX3 (k_6_0 (k_7_1 h0))) rfl hl dX7_props_95 [iI v3, iI v1] rfl rfl (Nat.le_of_ble_eq_true rfl) (c_X3_propsNeededAt C.2.2.2.2.2.2 (k_6_0 (k_7_1 h0)) h)) (fun r95 M95 H locs hI hf => ?_)
        exact r_iret hQ hf hI dX7_props_98
      · refine r_iload C hl 0 dX7_props_81 rfl ?_
        refine r_goto C (tgt := 98) dX7_props_83 (by decide) ?_
        exact r_iret hQ hf hI dX7_props_98
  · refine r_bipush C dX7_props_54 rfl ?_
    exact r_iret hQ hf hI dX7_props_56
set_option maxRecDepth 100000 in
set_option maxHeartbeats 4000000 in
theorem t_X7_props_22 {g : GP} {p : Program} {l : Launch} {e : Env} {s : State} {m : MethodId} {args : Array Value} {below : List Frame} {meth : Method} {c : Code} {Q : State → Prop} {N : Nat} {o0 : Nat} {v1 : Int} {v2 : Int} (h0 : kd o0 = 7) (C : Cx g p s m args c cX7_props 6 "LentGallery") {r : Int × Mem} (hQ : RetI g p l e (rmK 3 70) s m args below meth c cX7_props r Q) : ∀ (v3 s0 : Int) (M : Mem) (H : Heap) (locs : List Loc) (ls : Array Slot), f_X7_props_22 N o0 v1 v2 v3 s0 M = some r → Inv g s M H locs → lv_has ls 6 [(0, rI g o0), (1, iI v1), (2, iI v2), (3, iI v3)] → W p l e (rmK 3 70) s m args below meth c H locs 0 0 Q (F0 m 22 ls [iI s0]) := by
  intro v3 s0 M H locs ls hf hI hl
  unfold f_X7_props_22 at hf
  refine r_istore C hl (lv' := [(4, iI s0), (0, rI g o0), (1, iI v1), (2, iI v2), (3, iI v3)]) dX7_props_22 (Nat.le_of_ble_eq_true rfl) rfl (fun ls hl => ?_)
  refine r_iload_n C hl 2 dX7_props_24 rfl rfl ?_
  refine r_iconst C dX7_props_25 ?_
  refine r_gd hf (fun q26_0 hf => ?_)
  refine r_ic_lt C q26_0 (by decide) (tgt := 44) dX7_props_26 (by decide) hf (fun hf => ?_) (fun hf => ?_)
  · refine r_bipush C dX7_props_44 rfl ?_
    exact r_iret hQ hf hI dX7_props_46
  · refine r_iload_n C hl 2 dX7_props_29 rfl rfl ?_
    refine r_bipush C dX7_props_30 rfl ?_
    refine r_ic_gt C q26_0 (by decide) (tgt := 44) dX7_props_32 (by decide) hf (fun hf => ?_) (fun hf => ?_)
    · refine r_bipush C dX7_props_44 rfl ?_
      exact r_iret hQ hf hI dX7_props_46
    · refine r_iload_n C hl 3 dX7_props_35 rfl rfl ?_
      refine r_gd hf (fun q36_1 hf => ?_)
      refine r_if_eq C q36_1 (tgt := 47) dX7_props_36 (by decide) hf (fun hf => ?_) (fun hf => ?_)
      · exact t_X7_props_47 h0 C hQ _ _ _ _ _ _ hf hI (lv_sub hl [1, 2, 4, 0] rfl)
      · refine r_iload C hl 0 dX7_props_39 rfl ?_
        refine r_gd hf (fun q41_2 hf => ?_)
        refine r_if_ne C q41_2 (tgt := 47) dX7_props_41 (by decide) hf (fun hf => ?_) (fun hf => ?_)
        · exact t_X7_props_47 h0 C hQ _ _ _ _ _ _ hf hI (lv_sub hl [1, 2, 4, 0] rfl)
        · refine r_bipush C dX7_props_44 rfl ?_
          exact r_iret hQ hf hI dX7_props_46
set_option maxRecDepth 100000 in
set_option maxHeartbeats 4000000 in
theorem t_X7_props_21 {g : GP} {p : Program} {l : Launch} {e : Env} {s : State} {m : MethodId} {args : Array Value} {below : List Frame} {meth : Method} {c : Code} {Q : State → Prop} {N : Nat} {o0 : Nat} {v1 : Int} {v2 : Int} (h0 : kd o0 = 7) (C : Cx g p s m args c cX7_props 6 "LentGallery") {r : Int × Mem} (hQ : RetI g p l e (rmK 3 70) s m args below meth c cX7_props r Q) : ∀ (v3 : Int) (M : Mem) (H : Heap) (locs : List Loc) (ls : Array Slot), f_X7_props_21 N o0 v1 v2 v3 M = some r → Inv g s M H locs → lv_has ls 6 [(0, rI g o0), (1, iI v1), (2, iI v2), (3, iI v3)] → W p l e (rmK 3 70) s m args below meth c H locs 0 0 Q (F0 m 21 ls []) := by
  intro v3 M H locs ls hf hI hl
  unfold f_X7_props_21 at hf
  refine r_iconst C dX7_props_21 ?_
  exact t_X7_props_22 h0 C hQ _ _ _ _ _ _ hf hI (lv_sub hl [0, 1, 2, 3] rfl)
set_option maxRecDepth 100000 in
set_option maxHeartbeats 4000000 in
theorem c_X7_props {l : Launch} {g : GP} (hj : Inj g) {N : Nat} {M : Mem} {o0 : Nat} {v1 : Int} {v2 : Int} (h0 : kd o0 = 7) {r : Int × Mem} (hf : f_X7_props N o0 v1 v2 M = some r) : Met l yX7_props (Cond.code yX7_props cX7_props 6 (some .int) :: TB) (rmK 3 70) (PreW g M [rI g o0, iI v1, iI v2]) (PostI g r.1 r.2) 0 0 (Ad g) := by
  unfold f_X7_props at hf
  refine met_of (nL := 6) (cc := cX7_props) (M := M) (by decide +kernel) hj (Nat.le_of_ble_eq_true rfl) ?_
  intro p e s m below meth c ls C hr hlk hI hl
  have C : Cx g p s m _ c cX7_props 6 "LentGallery" := C
  have hl : lv_has ls 6 [(0, rI g o0), (1, iI v1), (2, iI v2)] := hl
  have hQ := ret_i (l := l) (e := e) (R := (rmK 3 70)) (below := below) (r := r) C hr hlk (nar_i _)
  generalize s.heap = H, ([] : List Loc) = locs at hI ⊢
  refine r_iload_n C hl 2 dX7_props_0 rfl rfl ?_
  refine r_bipush C dX7_props_1 rfl ?_
  refine r_isub C dX7_props_3 ?_
  refine r_istore_n C hl (lv' := [(3, iI (v2 - 10)), (0, rI g o0), (1, iI v1), (2, iI v2)]) dX7_props_4 rfl (Nat.le_of_ble_eq_true rfl) rfl (fun ls hl => ?_)
  refine r_iload_n C hl 3 dX7_props_5 rfl rfl ?_
  refine r_bipush C dX7_props_6 rfl ?_
  refine r_gd hf (fun q8_0 hf => ?_)
  refine r_ic_lt C q8_0 (by decide) (tgt := 21) dX7_props_8 (by decide) hf (fun hf => ?_) (fun hf => ?_)
  · exact t_X7_props_21 h0 C hQ _ _ _ _ _ hf hI (lv_sub hl [1, 2, 3, 0] rfl)
  · refine r_iload_n C hl 0 dX7_props_11 rfl rfl ?_
    refine r_bipush C dX7_props_12 rfl ?_
    refine r_gd hf (fun q14_1 hf => ?_)
    refine r_ic_ge C q14_1 (by decide) (tgt := 21) dX7_props_14 (by decide) hf (fun hf => ?_) (fun hf => ?_)
    · exact t_X7_props_21 h0 C hQ _ _ _ _ _ hf hI (lv_sub hl [1, 2, 3, 0] rfl)
    · refine r_iconst C dX7_props_17 ?_
      refine r_goto C (tgt := 22) dX7_props_18 (by decide) ?_
      exact t_X7_props_22 h0 C hQ _ _ _ _ _ _ hf hI (lv_sub hl [1, 2, 3, 0] rfl)
/-! X7_out -/
def f_X7_out (N : Nat) (o0 : Nat) (M : Mem) : Option (Int × Mem) := gd (inR (M o0 9)) (if (M o0 9) = 0 then (some (-103, M)) else (bnd (f_X6_minutesOut N (ch o0 1) M) (fun r11 M11 => some (r11, M11))))
theorem F_X7_out : CalF yX7_out cX7_out 1 (some .int) 0 := ⟨w_469, w_1, by decide +kernel⟩
set_option maxRecDepth 100000 in
set_option maxHeartbeats 4000000 in
theorem c_X7_out {l : Launch} {g : GP} (hj : Inj g) {N : Nat} {M : Mem} {o0 : Nat} (h0 : kd o0 = 7) {r : Int × Mem} (hf : f_X7_out N o0 M = some r) : Met l yX7_out (Cond.code yX7_out cX7_out 1 (some .int) :: TB) (rmK 4 88) (PreW g M [rI g o0]) (PostI g r.1 r.2) 0 0 (Ad g) := by
  unfold f_X7_out at hf
  refine met_of (nL := 1) (cc := cX7_out) (M := M) (by decide +kernel) hj (Nat.le_of_ble_eq_true rfl) ?_
  intro p e s m below meth c ls C hr hlk hI hl
  have C : Cx g p s m _ c cX7_out 1 "LentGallery" := C
  have hl : lv_has ls 1 [(0, rI g o0)] := hl
  have hQ := ret_i (l := l) (e := e) (R := (rmK 4 88)) (below := below) (r := r) C hr hlk (nar_i _)
  generalize s.heap = H, ([] : List Loc) = locs at hI ⊢
  refine r_aload_n C hl 0 dX7_out_0 rfl rfl ?_
  refine g_7_9 C hI h0 w_194 dX7_out_1 ?_
  refine r_gd hf (fun q4_0 hf => ?_)
  refine r_if_eq C q4_0 (tgt := 17) dX7_out_4 (by decide) hf (fun hf => ?_) (fun hf => ?_)
  · refine r_bipush C dX7_out_17 rfl ?_
    exact r_iret hQ hf hI dX7_out_19
  · refine r_aload_n C hl 0 dX7_out_7 rfl rfl ?_
    refine g_7_1 C hI h0 w_186 dX7_out_8 ?_
    refine r_calli (rest := []) hI hf (fun r M' h => run_V C hI F_X6_minutesOut w_471 w_472 w_470 ⟨⟨Nat.le_of_ble_eq_true rfl, Nat.le_of_ble_eq_true rfl⟩, Nat.le_of_ble_eq_true rfl, Nat.le_of_ble_eq_true rfl⟩ (zX6 (k_7_1 h0)) (oX6 (k_7_1 h0)) rfl hl dX7_out_11 [] rfl rfl (Nat.le_of_ble_eq_true rfl) (c_X6_minutesOut C.2.2.2.2.2.2 (k_7_1 h0) h)) (fun r11 M11 H locs hI hf => ?_)
    refine r_goto C (tgt := 19) dX7_out_14 (by decide) ?_
    exact r_iret hQ hf hI dX7_out_19
/-! X7_knock -/
def f_X7_knock (N : Nat) (o0 : Nat) (v1 : Int) (v2 : Int) (v3 : Int) (M : Mem) : Option (Int × Mem) := bnd (f_X7_isPlace N o0 v1 M) (fun r2 M2 => gd (inR r2) (if r2 = 0 then (some (-101, M2)) else (gd (inR v2) (if v2 < 0 then (some (-102, M2)) else (if v2 ≤ 20 then (bnd (f_X1_hear N (ch o0 2) v1 v2 v3 M2) (fun r31 M31 => gd (inR r31) (if r31 = 0 then (some (-104, M31)) else (some (M31 (ch o0 2) 3, M31))))) else (some (-102, M2)))))))
theorem F_X7_knock : CalF yX7_knock cX7_knock 4 (some .int) 3 := ⟨w_487, w_1, by decide +kernel⟩
set_option maxRecDepth 100000 in
set_option maxHeartbeats 4000000 in
theorem c_X7_knock {l : Launch} {g : GP} (hj : Inj g) {N : Nat} {M : Mem} {o0 : Nat} {v1 : Int} {v2 : Int} {v3 : Int} (h0 : kd o0 = 7) {r : Int × Mem} (hf : f_X7_knock N o0 v1 v2 v3 M = some r) : Met l yX7_knock (Cond.code yX7_knock cX7_knock 4 (some .int) :: TB) (rmK 1 23) (PreW g M [rI g o0, iI v1, iI v2, iI v3]) (PostI g r.1 r.2) 0 0 (Ad g) := by
  unfold f_X7_knock at hf
  refine met_of (nL := 4) (cc := cX7_knock) (M := M) (by decide +kernel) hj (Nat.le_of_ble_eq_true rfl) ?_
  intro p e s m below meth c ls C hr hlk hI hl
  have C : Cx g p s m _ c cX7_knock 4 "LentGallery" := C
  have hl : lv_has ls 4 [(0, rI g o0), (1, iI v1), (2, iI v2), (3, iI v3)] := hl
  have hQ := ret_i (l := l) (e := e) (R := (rmK 1 23)) (below := below) (r := r) C hr hlk (nar_i _)
  generalize s.heap = H, ([] : List Loc) = locs at hI ⊢
  refine r_aload_n C hl 0 dX7_knock_0 rfl rfl ?_
  refine r_iload_n C hl 1 dX7_knock_1 rfl rfl ?_
  refine r_calli (rest := []) hI hf (fun r M' h => run_V C hI F_X7_isPlace w_270 v_0 w_268 ⟨⟨Nat.le_of_ble_eq_true rfl, Nat.le_of_ble_eq_true rfl⟩, Nat.le_of_ble_eq_true rfl, Nat.le_of_ble_eq_true rfl⟩ (zX7 h0) (oX7 h0) rfl hl dX7_knock_2 [iI v1] rfl rfl (Nat.le_of_ble_eq_true rfl) (c_X7_isPlace C.2.2.2.2.2.2 h0 h)) (fun r2 M2 H locs hI hf => ?_)
  refine r_gd hf (fun q5_0 hf => ?_)
  refine r_if_ne C q5_0 (tgt := 11) dX7_knock_5 (by decide) hf (fun hf => ?_) (fun hf => ?_)
  · refine r_iload_n C hl 2 dX7_knock_11 rfl rfl ?_
    refine r_gd hf (fun q12_1 hf => ?_)
    refine r_if_lt C q12_1 (tgt := 21) dX7_knock_12 (by decide) hf (fun hf => ?_) (fun hf => ?_)
    · refine r_bipush C dX7_knock_21 rfl ?_
      exact r_iret hQ hf hI dX7_knock_23
    · refine r_iload_n C hl 2 dX7_knock_15 rfl rfl ?_
      refine r_bipush C dX7_knock_16 rfl ?_
      refine r_ic_le C q12_1 (by decide) (tgt := 24) dX7_knock_18 (by decide) hf (fun hf => ?_) (fun hf => ?_)
      · refine r_aload_n C hl 0 dX7_knock_24 rfl rfl ?_
        refine g_7_2 C hI h0 w_187 dX7_knock_25 ?_
        refine r_iload_n C hl 1 dX7_knock_28 rfl rfl ?_
        refine r_iload_n C hl 2 dX7_knock_29 rfl rfl ?_
        refine r_iload_n C hl 3 dX7_knock_30 rfl rfl ?_
        refine r_calli (rest := []) hI hf (fun r M' h => run_V C hI F_X1_hear w_489 w_490 w_488 ⟨⟨Nat.le_of_ble_eq_true rfl, Nat.le_of_ble_eq_true rfl⟩, Nat.le_of_ble_eq_true rfl, Nat.le_of_ble_eq_true rfl⟩ (zX1 (k_7_2 h0)) (oX1 (k_7_2 h0)) rfl hl dX7_knock_31 [iI v1, iI v2, iI v3] rfl rfl (Nat.le_of_ble_eq_true rfl) (c_X1_hear C.2.2.2.2.2.2 (k_7_2 h0) h)) (fun r31 M31 H locs hI hf => ?_)
        refine r_gd hf (fun q34_2 hf => ?_)
        refine r_if_eq C q34_2 (tgt := 47) dX7_knock_34 (by decide) hf (fun hf => ?_) (fun hf => ?_)
        · refine r_bipush C dX7_knock_47 rfl ?_
          exact r_iret hQ hf hI dX7_knock_49
        · refine r_aload_n C hl 0 dX7_knock_37 rfl rfl ?_
          refine g_7_2 C hI h0 w_187 dX7_knock_38 ?_
          refine g_1_3 C hI (k_7_2 h0) w_115 dX7_knock_41 ?_
          refine r_goto C (tgt := 49) dX7_knock_44 (by decide) ?_
          exact r_iret hQ hf hI dX7_knock_49
      · refine r_bipush C dX7_knock_21 rfl ?_
        exact r_iret hQ hf hI dX7_knock_23
  · refine r_bipush C dX7_knock_8 rfl ?_
    exact r_iret hQ hf hI dX7_knock_10
