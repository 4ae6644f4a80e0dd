/-! X5_sound -/
def f_X5_sound_30 (N : Nat) (o0 : Nat) (o1 : Nat) (o2 : Nat) (v3 : Int) : Nat → Int → Int → Mem → Option (Mem)
  | 0, _, _, _ => none
  | n + 1, v4, v5, M => gd (inR v5) (if 10 ≤ v5 then (some M) else (bnv (f_X3_copyFrom N (ch o0 0) o1 M) (fun M42 => gd (0 ≤ v3 ∧ v3 < 6) (bnv (f_X5_liveDays N o0 v4 (st M42 (ch (ch o0 0) 0) v3.toNat v5)) (fun M59 => gd (0 ≤ v5 ∧ v5 < 10) (bnd (f_X1_agreeWith N o2 (ch o0 1) (st M59 (ch o0 2) v5.toNat (M59 (ch o0 1) v3.toNat))) (fun r85 M85 => gd (inR r85) (if r85 = 0 then (f_X5_sound_30 N o0 o1 o2 v3 n v4 (v5 + 1) (st M85 o0 3 (i_or ((st M59 (ch o0 2) v5.toNat (M59 (ch o0 1) v3.toNat)) o0 3) 0))) else (f_X5_sound_30 N o0 o1 o2 v3 n v4 (v5 + 1) (st M85 o0 3 (i_or ((st M59 (ch o0 2) v5.toNat (M59 (ch o0 1) v3.toNat)) o0 3) (i_shl 1 v5))))))))))))
def f_X5_sound (N : Nat) (o0 : Nat) (o1 : Nat) (o2 : Nat) (v3 : Int) (M : Mem) : Option (Mem) := gd (inR v3) (if v3 < 0 then (some (st M o0 3 0)) else (if v3 < 6 then (bnd (f_X1_lastDay N o2 (st M o0 3 0)) (fun r19 M19 => bnd (f_J9_max_7cf53 N 10 r19 M19) (fun r22 M22 => f_X5_sound_30 N o0 o1 o2 v3 N r22 0 M22))) else (some (st M o0 3 0))))
theorem F_X5_sound : CalF yX5_sound cX5_sound 6 none 3 := ⟨w_286, w_7, by decide +kernel⟩
set_option maxRecDepth 100000 in
set_option maxHeartbeats 4000000 in
theorem t_X5_sound_30 {g : GP} {p : Program} {l : Launch} {e : Env} {s : State} {m : MethodId} {args : Array Value} {below : List Frame} {meth : Method} {c : Code} {Q : State → Prop} {N : Nat} {o0 : Nat} {o1 : Nat} {o2 : Nat} {v3 : Int} (h0 : kd o0 = 5) (h1 : kd o1 = 3) (h2 : kd o2 = 1) (C : Cx g p s m args c cX5_sound 6 "LentGallery$Sounding") {r : Mem} (hQ : RetV g p l e (rmK 3 67) s m args below meth c cX5_sound r Q) : ∀ (n : Nat) (v4 v5 : Int) (M : Mem) (H : Heap) (locs : List Loc) (ls : Array Slot), f_X5_sound_30 N o0 o1 o2 v3 n v4 v5 M = some r → Inv g s M H locs → lv_has ls 6 [(0, rI g o0), (1, rI g o1), (2, rI g o2), (3, iI v3), (4, iI v4), (5, iI v5)] → W p l e (rmK 3 67) s m args below meth c H locs 0 0 Q (F0 m 30 ls []) := by
  intro n
  induction n with
  | zero =>
    intro v4 v5 M H locs ls hf hI hl
    cases hf
  | succ n ih =>
    intro v4 v5 M H locs ls hf hI hl
    rw [f_X5_sound_30] at hf
    refine r_iload C hl 5 dX5_sound_30 rfl ?_
    refine r_bipush C dX5_sound_32 rfl ?_
    refine r_gd hf (fun q34_0 hf => ?_)
    refine r_ic_ge C q34_0 (by decide) (tgt := 109) dX5_sound_34 (by decide) hf (fun hf => ?_) (fun hf => ?_)
    · exact r_vret hQ hf hI dX5_sound_109
    · refine r_aload_n C hl 0 dX5_sound_37 rfl rfl ?_
      refine g_5_0 C hI h0 w_160 dX5_sound_38 ?_
      refine r_aload_n C hl 1 dX5_sound_41 rfl rfl ?_
      refine r_callv (rest := []) hI hf (fun M' h => run_V C hI F_X3_copyFrom w_296 w_297 w_295 ⟨⟨Nat.le_of_ble_eq_true rfl, Nat.le_of_ble_eq_true rfl⟩, Nat.le_of_ble_eq_true rfl, Nat.le_of_ble_eq_true rfl⟩ (zX3 (k_5_0 h0)) (oX3 (k_5_0 h0)) rfl hl dX5_sound_42 [rI g o1] rfl rfl (Nat.le_of_ble_eq_true rfl) (c_X3_copyFrom C.2.2.2.2.2.2 (k_5_0 h0) h1 h)) (fun M42 H locs hI hf => ?_)
      refine r_aload_n C hl 0 dX5_sound_45 rfl rfl ?_
      refine g_5_0 C hI h0 w_160 dX5_sound_46 ?_
      refine g_3_0 C hI (k_5_0 h0) w_52 dX5_sound_49 ?_
      refine r_iload_n C hl 3 dX5_sound_52 rfl rfl ?_
      refine r_iload C hl 5 dX5_sound_53 rfl ?_
      refine r_gd hf (fun q55_1 hf => ?_)
      refine r_iast C hI 6 (n := 6) (k_3_0 (k_5_0 h0)) (by decide) rfl q55_1 dX5_sound_55 (fun H locs hI => ?_)
      refine r_aload_n C hl 0 dX5_sound_56 rfl rfl ?_
      refine r_iload C hl 4 dX5_sound_57 rfl ?_
      refine r_callv (rest := []) hI hf (fun M' h => run_V C hI F_X5_liveDays w_304 v_1 w_302 ⟨⟨Nat.le_of_ble_eq_true rfl, Nat.le_of_ble_eq_true rfl⟩, Nat.le_of_ble_eq_true rfl, Nat.le_of_ble_eq_true rfl⟩ (zX5 h0) (oX5 h0) rfl hl dX5_sound_59 [iI v4] rfl rfl (Nat.le_of_ble_eq_true rfl) (c_X5_liveDays C.2.2.2.2.2.2 h0 h)) (fun M59 H locs hI hf => ?_)
      refine r_aload_n C hl 0 dX5_sound_62 rfl rfl ?_
      refine g_5_2 C hI h0 w_162 dX5_sound_63 ?_
      refine r_iload C hl 5 dX5_sound_66 rfl ?_
      refine r_aload_n C hl 0 dX5_sound_68 rfl rfl ?_
      refine g_5_1 C hI h0 w_161 dX5_sound_69 ?_
      refine r_iload_n C hl 3 dX5_sound_72 rfl rfl ?_
      refine r_iald C hI 6 (n := 6) (k_5_1 h0) (by decide) rfl q55_1 dX5_sound_73 ?_
      refine r_gd hf (fun q74_2 hf => ?_)
      refine r_iast C hI 10 (n := 10) (k_5_2 h0) (by decide) rfl q74_2 dX5_sound_74 (fun H locs hI => ?_)
      refine r_aload_n C hl 0 dX5_sound_75 rfl rfl ?_
      refine r_dup C dX5_sound_76 rfl ?_
      refine g_5_3 C hI h0 w_163 dX5_sound_77 ?_
      refine r_aload_n C hl 2 dX5_sound_80 rfl rfl ?_
      refine r_aload_n C hl 0 dX5_sound_81 rfl rfl ?_
      refine g_5_1 C hI h0 w_161 dX5_sound_82 ?_
      refine r_calli (rest := [iI ((st M59 (ch o0 2) v5.toNat (M59 (ch o0 1) v3.toNat)) o0 3), rI g o0]) hI hf (fun r M' h => run_V C hI F_X1_agreeWith w_317 w_318 w_316 ⟨⟨Nat.le_of_ble_eq_true rfl, Nat.le_of_ble_eq_true rfl⟩, Nat.le_of_ble_eq_true rfl, Nat.le_of_ble_eq_true rfl⟩ (zX1 h2) (oX1 h2) rfl hl dX5_sound_85 [rI g (ch o0 1)] rfl rfl (Nat.le_of_ble_eq_true rfl) (c_X1_agreeWith C.2.2.2.2.2.2 h2 (isA_k (k_5_1 h0) (by decide) (by decide)) h)) (fun r85 M85 H locs hI hf => ?_)
      refine r_gd hf (fun q88_3 hf => ?_)
      refine r_if_eq C q88_3 (tgt := 98) dX5_sound_88 (by decide) hf (fun hf => ?_) (fun hf => ?_)
      · refine r_iconst C dX5_sound_98 ?_
        refine r_ior C dX5_sound_99 ?_
        refine p_5_3 C hI h0 w_163 dX5_sound_100 (fun H locs hI => ?_)
        refine r_iinc C hl (lv' := [(5, iI (v5 + 1)), (0, rI g o0), (1, rI g o1), (2, rI g o2), (3, iI v3), (4, iI v4)]) 5 dX5_sound_103 rfl (Nat.le_of_ble_eq_true rfl) rfl (fun ls hl => ?_)
        refine r_goto C (tgt := 30) dX5_sound_106 (by decide) ?_
        exact ih _ _ _ _ _ _ hf hI (lv_sub hl [1, 2, 3, 4, 5, 0] rfl)
      · refine r_iconst C dX5_sound_91 ?_
        refine r_iload C hl 5 dX5_sound_92 rfl ?_
        refine r_ishl C dX5_sound_94 ?_
        refine r_goto C (tgt := 99) dX5_sound_95 (by decide) ?_
        refine r_ior C dX5_sound_99 ?_
        refine p_5_3 C hI h0 w_163 dX5_sound_100 (fun H locs hI => ?_)
        refine r_iinc C hl (lv' := [(5, iI (v5 + 1)), (0, rI g o0), (1, rI g o1), (2, rI g o2), (3, iI v3), (4, iI v4)]) 5 dX5_sound_103 rfl (Nat.le_of_ble_eq_true rfl) rfl (fun ls hl => ?_)
        refine r_goto C (tgt := 30) dX5_sound_106 (by decide) ?_
        exact ih _ _ _ _ _ _ hf hI (lv_sub hl [1, 2, 3, 4, 5, 0] rfl)
set_option maxRecDepth 100000 in
set_option maxHeartbeats 4000000 in
theorem c_X5_sound {l : Launch} {g : GP} (hj : Inj g) {N : Nat} {M : Mem} {o0 : Nat} {o1 : Nat} {o2 : Nat} {v3 : Int} (h0 : kd o0 = 5) (h1 : kd o1 = 3) (h2 : kd o2 = 1) {r : Mem} (hf : f_X5_sound N o0 o1 o2 v3 M = some r) : Met l yX5_sound (Cond.code yX5_sound cX5_sound 6 none :: TB) (rmK 3 67) (PreW g M [rI g o0, rI g o1, rI g o2, iI v3]) (PostV g r) 0 0 (Ad g) := by
  unfold f_X5_sound at hf
  refine met_of (nL := 6) (cc := cX5_sound) (M := M) (by decide +kernel) hj (Nat.le_of_ble_eq_true rfl) ?_
  intro p e s m below meth c ls C hr hlk hI hl
  have C : Cx g p s m _ c cX5_sound 6 "LentGallery$Sounding" := C
  have hl : lv_has ls 6 [(0, rI g o0), (1, rI g o1), (2, rI g o2), (3, iI v3)] := hl
  have hQ := ret_v (l := l) (e := e) (R := (rmK 3 67)) (below := below) (r := r) C hr hlk
  generalize s.heap = H, ([] : List Loc) = locs at hI ⊢
  refine r_aload_n C hl 0 dX5_sound_0 rfl rfl ?_
  refine r_iconst C dX5_sound_1 ?_
  refine p_5_3 C hI h0 w_163 dX5_sound_2 (fun H locs hI => ?_)
  refine r_iload_n C hl 3 dX5_sound_5 rfl rfl ?_
  refine r_gd hf (fun q6_0 hf => ?_)
  refine r_if_lt C q6_0 (tgt := 15) dX5_sound_6 (by decide) hf (fun hf => ?_) (fun hf => ?_)
  · exact r_vret hQ hf hI dX5_sound_15
  · refine r_iload_n C hl 3 dX5_sound_9 rfl rfl ?_
    refine r_bipush C dX5_sound_10 rfl ?_
    refine r_ic_lt C q6_0 (by decide) (tgt := 16) dX5_sound_12 (by decide) hf (fun hf => ?_) (fun hf => ?_)
    · refine r_bipush C dX5_sound_16 rfl ?_
      refine r_aload_n C hl 2 dX5_sound_18 rfl rfl ?_
      refine r_calli (rest := [iI 10]) hI hf (fun r M' h => run_V C hI F_X1_lastDay w_288 w_289 w_287 ⟨⟨Nat.le_of_ble_eq_true rfl, Nat.le_of_ble_eq_true rfl⟩, Nat.le_of_ble_eq_true rfl, Nat.le_of_ble_eq_true rfl⟩ (zX1 h2) (oX1 h2) rfl hl dX5_sound_19 [] rfl rfl (Nat.le_of_ble_eq_true rfl) (c_X1_lastDay C.2.2.2.2.2.2 h2 h)) (fun r19 M19 H locs hI hf => ?_)
      refine r_calli (rest := []) hI hf (fun r M' h => run_S C hI F_J9_max_7cf53 w_292 w_294 ⟨⟨Nat.le_of_ble_eq_true rfl, Nat.le_of_ble_eq_true rfl⟩, Nat.le_of_ble_eq_true rfl, Nat.le_of_ble_eq_true rfl⟩ hl dX5_sound_22 [iI 10, iI r19] rfl rfl (Nat.le_of_ble_eq_true rfl) (c_J9_max_7cf53 C.2.2.2.2.2.2 h)) (fun r22 M22 H locs hI hf => ?_)
      refine r_istore C hl (lv' := [(4, iI r22), (0, rI g o0), (1, rI g o1), (2, rI g o2), (3, iI v3)]) dX5_sound_25 (Nat.le_of_ble_eq_true rfl) rfl (fun ls hl => ?_)
      refine r_iconst C dX5_sound_27 ?_
      refine r_istore C hl (lv' := [(5, iI 0), (4, iI r22), (0, rI g o0), (1, rI g o1), (2, rI g o2), (3, iI v3)]) dX5_sound_28 (Nat.le_of_ble_eq_true rfl) rfl (fun ls hl => ?_)
      exact t_X5_sound_30 h0 h1 h2 C hQ _ _ _ _ _ _ _ hf hI (lv_sub hl [2, 3, 4, 5, 1, 0] rfl)
    · exact r_vret hQ hf hI dX5_sound_15
/-! J6_bitCount_0f7a4 -/
def f_J6_bitCount_0f7a4 (N : Nat) (v0 : Int) (M : Mem) : Option (Int × Mem) := some (i_and (((i_and (((i_and (v0 - (i_and (i_ushr v0 1) 1431655765)) 858993459) + (i_and (i_ushr (v0 - (i_and (i_ushr v0 1) 1431655765)) 2) 858993459)) + (i_ushr ((i_and (v0 - (i_and (i_ushr v0 1) 1431655765)) 858993459) + (i_and (i_ushr (v0 - (i_and (i_ushr v0 1) 1431655765)) 2) 858993459)) 4)) 252645135) + (i_ushr (i_and (((i_and (v0 - (i_and (i_ushr v0 1) 1431655765)) 858993459) + (i_and (i_ushr (v0 - (i_and (i_ushr v0 1) 1431655765)) 2) 858993459)) + (i_ushr ((i_and (v0 - (i_and (i_ushr v0 1) 1431655765)) 858993459) + (i_and (i_ushr (v0 - (i_and (i_ushr v0 1) 1431655765)) 2) 858993459)) 4)) 252645135) 8)) + (i_ushr ((i_and (((i_and (v0 - (i_and (i_ushr v0 1) 1431655765)) 858993459) + (i_and (i_ushr (v0 - (i_and (i_ushr v0 1) 1431655765)) 2) 858993459)) + (i_ushr ((i_and (v0 - (i_and (i_ushr v0 1) 1431655765)) 858993459) + (i_and (i_ushr (v0 - (i_and (i_ushr v0 1) 1431655765)) 2) 858993459)) 4)) 252645135) + (i_ushr (i_and (((i_and (v0 - (i_and (i_ushr v0 1) 1431655765)) 858993459) + (i_and (i_ushr (v0 - (i_and (i_ushr v0 1) 1431655765)) 2) 858993459)) + (i_ushr ((i_and (v0 - (i_and (i_ushr v0 1) 1431655765)) 858993459) + (i_and (i_ushr (v0 - (i_and (i_ushr v0 1) 1431655765)) 2) 858993459)) 4)) 252645135) 8)) 16)) 63, M)
theorem F_J6_bitCount_0f7a4 : CalF yJ6_bitCount_0f7a4 cJ6_bitCount_0f7a4 1 (some .int) 1 := ⟨w_330, w_12, by decide +kernel⟩
set_option maxRecDepth 100000 in
set_option maxHeartbeats 4000000 in
theorem c_J6_bitCount_0f7a4 {l : Launch} {g : GP} (hj : Inj g) {N : Nat} {M : Mem} {v0 : Int} {r : Int × Mem} (hf : f_J6_bitCount_0f7a4 N v0 M = some r) : Met l yJ6_bitCount_0f7a4 (Cond.code yJ6_bitCount_0f7a4 cJ6_bitCount_0f7a4 1 (some .int) :: TB) (rmK 0 0) (PreW g M [iI v0]) (PostI g r.1 r.2) 0 0 (Ad g) := by
  unfold f_J6_bitCount_0f7a4 at hf
  refine met_of (nL := 1) (cc := cJ6_bitCount_0f7a4) (M := M) (by decide +kernel) hj (Nat.le_of_ble_eq_true rfl) ?_
  intro p e s m below meth c ls C hr hlk hI hl
  have C : Cx g p s m _ c cJ6_bitCount_0f7a4 1 "java/lang/Integer" := C
  have hl : lv_has ls 1 [(0, iI v0)] := hl
  have hQ := ret_i (l := l) (e := e) (R := (rmK 0 0)) (below := below) (r := r) C hr hlk (nar_i _)
  generalize s.heap = H, ([] : List Loc) = locs at hI ⊢
  refine r_iload_n C hl 0 dJ6_bitCount_0f7a4_0 rfl rfl ?_
  refine r_iload_n C hl 0 dJ6_bitCount_0f7a4_1 rfl rfl ?_
  refine r_iconst C dJ6_bitCount_0f7a4_2 ?_
  refine r_iushr C dJ6_bitCount_0f7a4_3 ?_
  refine r_ldcw C (n := 1431655765) w_331 rfl dJ6_bitCount_0f7a4_4 ?_
  refine r_iand C dJ6_bitCount_0f7a4_7 ?_
  refine r_isub C dJ6_bitCount_0f7a4_8 ?_
  refine r_istore_n C hl (lv' := [(0, iI (v0 - (i_and (i_ushr v0 1) 1431655765)))]) dJ6_bitCount_0f7a4_9 rfl (Nat.le_of_ble_eq_true rfl) rfl (fun ls hl => ?_)
  refine r_iload_n C hl 0 dJ6_bitCount_0f7a4_10 rfl rfl ?_
  refine r_ldcw C (n := 858993459) w_332 rfl dJ6_bitCount_0f7a4_11 ?_
  refine r_iand C dJ6_bitCount_0f7a4_14 ?_
  refine r_iload_n C hl 0 dJ6_bitCount_0f7a4_15 rfl rfl ?_
  refine r_iconst C dJ6_bitCount_0f7a4_16 ?_
  refine r_iushr C dJ6_bitCount_0f7a4_17 ?_
  refine r_ldcw C (n := 858993459) w_332 rfl dJ6_bitCount_0f7a4_18 ?_
  refine r_iand C dJ6_bitCount_0f7a4_21 ?_
  refine r_iadd C dJ6_bitCount_0f7a4_22 ?_
  refine r_istore_n C hl (lv' := [(0, iI ((i_and (v0 - (i_and (i_ushr v0 1) 1431655765)) 858993459) + (i_and (i_ushr (v0 - (i_and (i_ushr v0 1) 1431655765)) 2) 858993459)))]) dJ6_bitCount_0f7a4_23 rfl (Nat.le_of_ble_eq_true rfl) rfl (fun ls hl => ?_)
  refine r_iload_n C hl 0 dJ6_bitCount_0f7a4_24 rfl rfl ?_
  refine r_iload_n C hl 0 dJ6_bitCount_0f7a4_25 rfl rfl ?_
  refine r_iconst C dJ6_bitCount_0f7a4_26 ?_
  refine r_iushr C dJ6_bitCount_0f7a4_27 ?_
  refine r_iadd C dJ6_bitCount_0f7a4_28 ?_
  refine r_ldcw C (n := 252645135) w_333 rfl dJ6_bitCount_0f7a4_29 ?_
  refine r_iand C dJ6_bitCount_0f7a4_32 ?_
  refine r_istore_n C hl (lv' := [(0, iI (i_and (((i_and (v0 - (i_and (i_ushr v0 1) 1431655765)) 858993459) + (i_and (i_ushr (v0 - (i_and (i_ushr v0 1) 1431655765)) 2) 858993459)) + (i_ushr ((i_and (v0 - (i_and (i_ushr v0 1) 1431655765)) 858993459) + (i_and (i_ushr (v0 - (i_and (i_ushr v0 1) 1431655765)) 2) 858993459)) 4)) 252645135))]) dJ6_bitCount_0f7a4_33 rfl (Nat.le_of_ble_eq_true rfl) rfl (fun ls hl => ?_)
  refine r_iload_n C hl 0 dJ6_bitCount_0f7a4_34 rfl rfl ?_
  refine r_iload_n C hl 0 dJ6_bitCount_0f7a4_35 rfl rfl ?_
  refine r_bipush C dJ6_bitCount_0f7a4_36 rfl ?_
  refine r_iushr C dJ6_bitCount_0f7a4_38 ?_
  refine r_iadd C dJ6_bitCount_0f7a4_39 ?_
  refine r_istore_n C hl (lv' := [(0, iI ((i_and (((i_and (v0 - (i_and (i_ushr v0 1) 1431655765)) 858993459) + (i_and (i_ushr (v0 - (i_and (i_ushr v0 1) 1431655765)) 2) 858993459)) + (i_ushr ((i_and (v0 - (i_and (i_ushr v0 1) 1431655765)) 858993459) + (i_and (i_ushr (v0 - (i_and (i_ushr v0 1) 1431655765)) 2) 858993459)) 4)) 252645135) + (i_ushr (i_and (((i_and (v0 - (i_and (i_ushr v0 1) 1431655765)) 858993459) + (i_and (i_ushr (v0 - (i_and (i_ushr v0 1) 1431655765)) 2) 858993459)) + (i_ushr ((i_and (v0 - (i_and (i_ushr v0 1) 1431655765)) 858993459) + (i_and (i_ushr (v0 - (i_and (i_ushr v0 1) 1431655765)) 2) 858993459)) 4)) 252645135) 8)))]) dJ6_bitCount_0f7a4_40 rfl (Nat.le_of_ble_eq_true rfl) rfl (fun ls hl => ?_)
  refine r_iload_n C hl 0 dJ6_bitCount_0f7a4_41 rfl rfl ?_
  refine r_iload_n C hl 0 dJ6_bitCount_0f7a4_42 rfl rfl ?_
  refine r_bipush C dJ6_bitCount_0f7a4_43 rfl ?_
  refine r_iushr C dJ6_bitCount_0f7a4_45 ?_
  refine r_iadd C dJ6_bitCount_0f7a4_46 ?_
  refine r_istore_n C hl (lv' := [(0, iI (((i_and (((i_and (v0 - (i_and (i_ushr v0 1) 1431655765)) 858993459) + (i_and (i_ushr (v0 - (i_and (i_ushr v0 1) 1431655765)) 2) 858993459)) + (i_ushr ((i_and (v0 - (i_and (i_ushr v0 1) 1431655765)) 858993459) + (i_and (i_ushr (v0 - (i_and (i_ushr v0 1) 1431655765)) 2) 858993459)) 4)) 252645135) + (i_ushr (i_and (((i_and (v0 - (i_and (i_ushr v0 1) 1431655765)) 858993459) + (i_and (i_ushr (v0 - (i_and (i_ushr v0 1) 1431655765)) 2) 858993459)) + (i_ushr ((i_and (v0 - (i_and (i_ushr v0 1) 1431655765)) 858993459) + (i_and (i_ushr (v0 - (i_and (i_ushr v0 1) 1431655765)) 2) 858993459)) 4)) 252645135) 8)) + (i_ushr ((i_and (((i_and (v0 - (i_and (i_ushr v0 1) 1431655765)) 858993459) + (i_and (i_ushr (v0 - (i_and (i_ushr v0 1) 1431655765)) 2) 858993459)) + (i_ushr ((i_and (v0 - (i_and (i_ushr v0 1) 1431655765)) 858993459) + (i_and (i_ushr (v0 - (i_and (i_ushr v0 1) 1431655765)) 2) 858993459)) 4)) 252645135) + (i_ushr (i_and (((i_and (v0 - (i_and (i_ushr v0 1) 1431655765)) 858993459) + (i_and (i_ushr (v0 - (i_and (i_ushr v0 1) 1431655765)) 2) 858993459)) + (i_ushr ((i_and (v0 - (i_and (i_ushr v0 1) 1431655765)) 858993459) + (i_and (i_ushr (v0 - (i_and (i_ushr v0 1) 1431655765)) 2) 858993459)) 4)) 252645135) 8)) 16)))]) dJ6_bitCount_0f7a4_47 rfl (Nat.le_of_ble_eq_true rfl) rfl (fun ls hl => ?_)
  refine r_iload_n C hl 0 dJ6_bitCount_0f7a4_48 rfl rfl ?_
  refine r_bipush C dJ6_bitCount_0f7a4_49 rfl ?_
  refine r_iand C dJ6_bitCount_0f7a4_51 ?_
  exact r_iret hQ hf hI dJ6_bitCount_0f7a4_52
/-! X5_leftAtWorst -/
def f_X5_leftAtWorst_4 (N : Nat) (o0 : Nat) (v1 : Int) : Nat → Int → Int → Mem → Option (Int × Mem)
  | 0, _, _, _ => none
  | n + 1, v2, v3, M => gd (inR v3) (if 10 ≤ v3 then (bnd (f_J6_bitCount_0f7a4 N (M o0 3) M) (fun r46 M46 => bnd (f_J9_max_7cf53 N v2 (r46 - v2) M46) (fun r51 M51 => some (r51, M51)))) else (gd (0 ≤ v3 ∧ v3 < 10) (gd (inR v1) (gd (inR (M (ch o0 2) v3.toNat)) (if (M (ch o0 2) v3.toNat) ≤ v1 then (f_X5_leftAtWorst_4 N o0 v1 n (v2 + 0) (v3 + 1) M) else (f_X5_leftAtWorst_4 N o0 v1 n (v2 + (i_and (i_shr (M o0 3) v3) 1)) (v3 + 1) M))))))
def f_X5_leftAtWorst (N : Nat) (o0 : Nat) (v1 : Int) (M : Mem) : Option (Int × Mem) := f_X5_leftAtWorst_4 N o0 v1 N 0 0 M
theorem F_X5_leftAtWorst : CalF yX5_leftAtWorst cX5_leftAtWorst 4 (some .int) 1 := ⟨w_327, w_7, by decide +kernel⟩
set_option maxRecDepth 100000 in
set_option maxHeartbeats 4000000 in
theorem t_X5_leftAtWorst_4 {g : GP} {p : Program} {l : Launch} {e : Env} {s : State} {m : MethodId} {args : Array Value} {below : List Frame} {meth : Method} {c : Code} {Q : State → Prop} {N : Nat} {o0 : Nat} {v1 : Int} (h0 : kd o0 = 5) (C : Cx g p s m args c cX5_leftAtWorst 4 "LentGallery$Sounding") {r : Int × Mem} (hQ : RetI g p l e (rmK 1 21) s m args below meth c cX5_leftAtWorst r Q) : ∀ (n : Nat) (v2 v3 : Int) (M : Mem) (H : Heap) (locs : List Loc) (ls : Array Slot), f_X5_leftAtWorst_4 N o0 v1 n v2 v3 M = some r → Inv g s M H locs → lv_has ls 4 [(0, rI g o0), (1, iI v1), (2, iI v2), (3, iI v3)] → W p l e (rmK 1 21) s m args below meth c H locs 0 0 Q (F0 m 4 ls []) := by
  intro n
  induction n with
  | zero =>
    intro v2 v3 M H locs ls hf hI hl
    cases hf
  | succ n ih =>
    intro v2 v3 M H locs ls hf hI hl
    rw [f_X5_leftAtWorst_4] at hf
    refine r_iload_n C hl 3 dX5_leftAtWorst_4 rfl rfl ?_
    refine r_bipush C dX5_leftAtWorst_5 rfl ?_
    refine r_gd hf (fun q7_0 hf => ?_)
    refine r_ic_ge C q7_0 (by decide) (tgt := 41) dX5_leftAtWorst_7 (by decide) hf (fun hf => ?_) (fun hf => ?_)
    · refine r_iload_n C hl 2 dX5_leftAtWorst_41 rfl rfl ?_
      refine r_aload_n C hl 0 dX5_leftAtWorst_42 rfl rfl ?_
      refine g_5_3 C hI h0 w_163 dX5_leftAtWorst_43 ?_
      refine r_calli (rest := [iI v2]) hI hf (fun r M' h => run_S C hI F_J6_bitCount_0f7a4 w_329 w_328 ⟨⟨Nat.le_of_ble_eq_true rfl, Nat.le_of_ble_eq_true rfl⟩, Nat.le_of_ble_eq_true rfl, Nat.le_of_ble_eq_true rfl⟩ hl dX5_leftAtWorst_46 [iI (M o0 3)] rfl rfl (Nat.le_of_ble_eq_true rfl) (c_J6_bitCount_0f7a4 C.2.2.2.2.2.2 h)) (fun r46 M46 H locs hI hf => ?_)
      refine r_iload_n C hl 2 dX5_leftAtWorst_49 rfl rfl ?_
      refine r_isub C dX5_leftAtWorst_50 ?_
      refine r_calli (rest := []) hI hf (fun r M' h => run_S C hI F_J9_max_7cf53 w_292 w_294 ⟨⟨Nat.le_of_ble_eq_true rfl, Nat.le_of_ble_eq_true rfl⟩, Nat.le_of_ble_eq_true rfl, Nat.le_of_ble_eq_true rfl⟩ hl dX5_leftAtWorst_51 [iI v2, iI (r46 - v2)] rfl rfl (Nat.le_of_ble_eq_true rfl) (c_J9_max_7cf53 C.2.2.2.2.2.2 h)) (fun r51 M51 H locs hI hf => ?_)
      exact r_iret hQ hf hI dX5_leftAtWorst_54
    · refine r_iload_n C hl 2 dX5_leftAtWorst_10 rfl rfl ?_
      refine r_iload_n C hl 1 dX5_leftAtWorst_11 rfl rfl ?_
      refine r_aload_n C hl 0 dX5_leftAtWorst_12 rfl rfl ?_
      refine g_5_2 C hI h0 w_162 dX5_leftAtWorst_13 ?_
      refine r_iload_n C hl 3 dX5_leftAtWorst_16 rfl rfl ?_
      refine r_gd hf (fun q17_1 hf => ?_)
      refine r_iald C hI 10 (n := 10) (k_5_2 h0) (by decide) rfl q17_1 dX5_leftAtWorst_17 ?_
      refine r_gd hf (fun q18_2 hf => ?_)
      refine r_gd hf (fun q18_3 hf => ?_)
      refine r_ic_ge C q18_2 q18_3 (tgt := 32) dX5_leftAtWorst_18 (by decide) hf (fun hf => ?_) (fun hf => ?_)
      · refine r_iconst C dX5_leftAtWorst_32 ?_
        refine r_iadd C dX5_leftAtWorst_33 ?_
        refine r_istore_n C hl (lv' := [(2, iI (v2 + 0)), (0, rI g o0), (1, iI v1), (3, iI v3)]) dX5_leftAtWorst_34 rfl (Nat.le_of_ble_eq_true rfl) rfl (fun ls hl => ?_)
        refine r_iinc C hl (lv' := [(3, iI (v3 + 1)), (2, iI (v2 + 0)), (0, rI g o0), (1, iI v1)]) 3 dX5_leftAtWorst_35 rfl (Nat.le_of_ble_eq_true rfl) rfl (fun ls hl => ?_)
        refine r_goto C (tgt := 4) dX5_leftAtWorst_38 (by decide) ?_
        exact ih _ _ _ _ _ _ hf hI (lv_sub hl [2, 3, 1, 0] rfl)
      · refine r_aload_n C hl 0 dX5_leftAtWorst_21 rfl rfl ?_
        refine g_5_3 C hI h0 w_163 dX5_leftAtWorst_22 ?_
        refine r_iload_n C hl 3 dX5_leftAtWorst_25 rfl rfl ?_
        refine r_ishr C dX5_leftAtWorst_26 ?_
        refine r_iconst C dX5_leftAtWorst_27 ?_
        refine r_iand C dX5_leftAtWorst_28 ?_
        refine r_goto C (tgt := 33) dX5_leftAtWorst_29 (by decide) ?_
        refine r_iadd C dX5_leftAtWorst_33 ?_
        refine r_istore_n C hl (lv' := [(2, iI (v2 + (i_and (i_shr (M o0 3) v3) 1))), (0, rI g o0), (1, iI v1), (3, iI v3)]) dX5_leftAtWorst_34 rfl (Nat.le_of_ble_eq_true rfl) rfl (fun ls hl => ?_)
        refine r_iinc C hl (lv' := [(3, iI (v3 + 1)), (2, iI (v2 + (i_and (i_shr (M o0 3) v3) 1))), (0, rI g o0), (1, iI v1)]) 3 dX5_leftAtWorst_35 rfl (Nat.le_of_ble_eq_true rfl) rfl (fun ls hl => ?_)
        refine r_goto C (tgt := 4) dX5_leftAtWorst_38 (by decide) ?_
        exact ih _ _ _ _ _ _ hf hI (lv_sub hl [2, 3, 1, 0] rfl)
set_option maxRecDepth 100000 in
set_option maxHeartbeats 4000000 in
theorem c_X5_leftAtWorst {l : Launch} {g : GP} (hj : Inj g) {N : Nat} {M : Mem} {o0 : Nat} {v1 : Int} (h0 : kd o0 = 5) {r : Int × Mem} (hf : f_X5_leftAtWorst N o0 v1 M = some r) : Met l yX5_leftAtWorst (Cond.code yX5_leftAtWorst cX5_leftAtWorst 4 (some .int) :: TB) (rmK 1 21) (PreW g M [rI g o0, iI v1]) (PostI g r.1 r.2) 0 0 (Ad g) := by
  unfold f_X5_leftAtWorst at hf
  refine met_of (nL := 4) (cc := cX5_leftAtWorst) (M := M) (by decide +kernel) hj (Nat.le_of_ble_eq_true rfl) ?_
  intro p e s m below meth c ls C hr hlk hI hl
  have C : Cx g p s m _ c cX5_leftAtWorst 4 "LentGallery$Sounding" := C
  have hl : lv_has ls 4 [(0, rI g o0), (1, iI v1)] := hl
  have hQ := ret_i (l := l) (e := e) (R := (rmK 1 21)) (below := below) (r := r) C hr hlk (nar_i _)
  generalize s.heap = H, ([] : List Loc) = locs at hI ⊢
  refine r_iconst C dX5_leftAtWorst_0 ?_
  refine r_istore_n C hl (lv' := [(2, iI 0), (0, rI g o0), (1, iI v1)]) dX5_leftAtWorst_1 rfl (Nat.le_of_ble_eq_true rfl) rfl (fun ls hl => ?_)
  refine r_iconst C dX5_leftAtWorst_2 ?_
  refine r_istore_n C hl (lv' := [(3, iI 0), (2, iI 0), (0, rI g o0), (1, iI v1)]) dX5_leftAtWorst_3 rfl (Nat.le_of_ble_eq_true rfl) rfl (fun ls hl => ?_)
  exact t_X5_leftAtWorst_4 h0 C hQ _ _ _ _ _ _ _ hf hI (lv_sub hl [2, 3, 1, 0] rfl)
/-! X5_bestDay -/
def f_X5_bestDay_16 (N : Nat) (o0 : Nat) : Nat → Int → Int → Int → Mem → Option (Int × Mem)
  | 0, _, _, _, _ => none
  | n + 1, v1, v2, v3, M => gd (inR v3) (if 10 < v3 then (some (v1, M)) else (bnd (f_X5_leftAtWorst N o0 v3 M) (fun r24 M24 => gd (inR r24) (gd (inR v2) (if v2 ≤ r24 then (f_X5_bestDay_16 N o0 n v1 v2 (v3 + 1) M24) else (f_X5_bestDay_16 N o0 n v3 r24 (v3 + 1) M24))))))
def f_X5_bestDay (N : Nat) (o0 : Nat) (M : Mem) : Option (Int × Mem) := gd (inR (M o0 3)) (if (M o0 3) = 0 then (some (-1, M)) else (f_X5_bestDay_16 N o0 N 1 11 1 M))
theorem F_X5_bestDay : CalF yX5_bestDay cX5_bestDay 5 (some .int) 0 := ⟨w_323, w_7, by decide +kernel⟩
set_option maxRecDepth 100000 in
set_option maxHeartbeats 4000000 in
theorem t_X5_bestDay_16 {g : GP} {p : Program} {l : Launch} {e : Env} {s : State} {m : MethodId} {args : Array Value} {below : List Frame} {meth : Method} {c : Code} {Q : State → Prop} {N : Nat} {o0 : Nat} (h0 : kd o0 = 5) (C : Cx g p s m args c cX5_bestDay 5 "LentGallery$Sounding") {r : Int × Mem} (hQ : RetI g p l e (rmK 2 44) s m args below meth c cX5_bestDay r Q) : ∀ (n : Nat) (v1 v2 v3 : Int) (M : Mem) (H : Heap) (locs : List Loc) (ls : Array Slot), f_X5_bestDay_16 N o0 n v1 v2 v3 M = some r → Inv g s M H locs → lv_has ls 5 [(0, rI g o0), (1, iI v1), (2, iI v2), (3, iI v3)] → W p l e (rmK 2 44) s m args below meth c H locs 0 0 Q (F0 m 16 ls []) := by
  intro n
  induction n with
  | zero =>
    intro v1 v2 v3 M H locs ls hf hI hl
    cases hf
  | succ n ih =>
    intro v1 v2 v3 M H locs ls hf hI hl
    rw [f_X5_bestDay_16] at hf
    refine r_iload_n C hl 3 dX5_bestDay_16 rfl rfl ?_
    refine r_bipush C dX5_bestDay_17 rfl ?_
    refine r_gd hf (fun q19_0 hf => ?_)
    refine r_ic_gt C q19_0 (by decide) (tgt := 46) dX5_bestDay_19 (by decide) hf (fun hf => ?_) (fun hf => ?_)
    · refine r_iload_n C hl 1 dX5_bestDay_46 rfl rfl ?_
      exact r_iret hQ hf hI dX5_bestDay_47
    · refine r_aload_n C hl 0 dX5_bestDay_22 rfl rfl ?_
      refine r_iload_n C hl 3 dX5_bestDay_23 rfl rfl ?_
      refine r_calli (rest := []) hI hf (fun r M' h => run_V C hI F_X5_leftAtWorst w_326 v_2 w_324 ⟨⟨Nat.le_of_ble_eq_true rfl, Nat.le_of_ble_eq_true rfl⟩, Nat.le_of_ble_eq_true rfl, Nat.le_of_ble_eq_true rfl⟩ (zX5 h0) (oX5 h0) rfl hl dX5_bestDay_24 [iI v3] rfl rfl (Nat.le_of_ble_eq_true rfl) (c_X5_leftAtWorst C.2.2.2.2.2.2 h0 h)) (fun r24 M24 H locs hI hf => ?_)
      refine r_istore C hl (lv' := [(4, iI r24), (0, rI g o0), (1, iI v1), (2, iI v2), (3, iI v3)]) dX5_bestDay_27 (Nat.le_of_ble_eq_true rfl) rfl (fun ls hl => ?_)
      refine r_iload C hl 0 dX5_bestDay_29 rfl ?_
      refine r_iload_n C hl 3 dX5_bestDay_31 rfl rfl ?_
      refine r_gd hf (fun q32_1 hf => ?_)
      refine r_gd hf (fun q32_2 hf => ?_)
      refine r_ic_ge C q32_1 q32_2 (tgt := 40) dX5_bestDay_32 (by decide) hf (fun hf => ?_) (fun hf => ?_)
      · refine r_iinc C hl (lv' := [(3, iI (v3 + 1)), (4, iI r24), (0, rI g o0), (1, iI v1), (2, iI v2)]) 4 dX5_bestDay_40 rfl (Nat.le_of_ble_eq_true rfl) rfl (fun ls hl => ?_)
        refine r_goto C (tgt := 16) dX5_bestDay_43 (by decide) ?_
        exact ih _ _ _ _ _ _ _ hf hI (lv_sub hl [2, 3, 4, 0] rfl)
      · refine r_iload C hl 0 dX5_bestDay_35 rfl ?_
        refine r_istore_n C hl (lv' := [(2, iI r24), (4, iI r24), (0, rI g o0), (1, iI v1), (3, iI v3)]) dX5_bestDay_37 rfl (Nat.le_of_ble_eq_true rfl) rfl (fun ls hl => ?_)
        refine r_iload_n C hl 4 dX5_bestDay_38 rfl rfl ?_
        refine r_istore_n C hl (lv' := [(1, iI v3), (2, iI r24), (4, iI r24), (0, rI g o0), (3, iI v3)]) dX5_bestDay_39 rfl (Nat.le_of_ble_eq_true rfl) rfl (fun ls hl => ?_)
        refine r_iinc C hl (lv' := [(3, iI (v3 + 1)), (1, iI v3), (2, iI r24), (4, iI r24), (0, rI g o0)]) 4 dX5_bestDay_40 rfl (Nat.le_of_ble_eq_true rfl) rfl (fun ls hl => ?_)
        refine r_goto C (tgt := 16) dX5_bestDay_43 (by decide) ?_
        exact ih _ _ _ _ _ _ _ hf hI (lv_sub hl [4, 1, 2, 0] rfl)
set_option maxRecDepth 100000 in
set_option maxHeartbeats 4000000 in
theorem c_X5_bestDay {l : Launch} {g : GP} (hj : Inj g) {N : Nat} {M : Mem} {o0 : Nat} (h0 : kd o0 = 5) {r : Int × Mem} (hf : f_X5_bestDay N o0 M = some r) : Met l yX5_bestDay (Cond.code yX5_bestDay cX5_bestDay 5 (some .int) :: TB) (rmK 2 44) (PreW g M [rI g o0]) (PostI g r.1 r.2) 0 0 (Ad g) := by
  unfold f_X5_bestDay at hf
  refine met_of (nL := 5) (cc := cX5_bestDay) (M := M) (by decide +kernel) hj (Nat.le_of_ble_eq_true rfl) ?_
  intro p e s m below meth c ls C hr hlk hI hl
  have C : Cx g p s m _ c cX5_bestDay 5 "LentGallery$Sounding" := C
  have hl : lv_has ls 5 [(0, rI g o0)] := hl
  have hQ := ret_i (l := l) (e := e) (R := (rmK 2 44)) (below := below) (r := r) C hr hlk (nar_i _)
  generalize s.heap = H, ([] : List Loc) = locs at hI ⊢
  refine r_aload_n C hl 0 dX5_bestDay_0 rfl rfl ?_
  refine g_5_3 C hI h0 w_163 dX5_bestDay_1 ?_
  refine r_gd hf (fun q4_0 hf => ?_)
  refine r_if_ne C q4_0 (tgt := 9) dX5_bestDay_4 (by decide) hf (fun hf => ?_) (fun hf => ?_)
  · refine r_iconst C dX5_bestDay_9 ?_
    refine r_istore_n C hl (lv' := [(1, iI 1), (0, rI g o0)]) dX5_bestDay_10 rfl (Nat.le_of_ble_eq_true rfl) rfl (fun ls hl => ?_)
    refine r_bipush C dX5_bestDay_11 rfl ?_
    refine r_istore_n C hl (lv' := [(2, iI 11), (1, iI 1), (0, rI g o0)]) dX5_bestDay_13 rfl (Nat.le_of_ble_eq_true rfl) rfl (fun ls hl => ?_)
    refine r_iconst C dX5_bestDay_14 ?_
    refine r_istore_n C hl (lv' := [(3, iI 1), (2, iI 11), (1, iI 1), (0, rI g o0)]) dX5_bestDay_15 rfl (Nat.le_of_ble_eq_true rfl) rfl (fun ls hl => ?_)
    exact t_X5_bestDay_16 h0 C hQ _ _ _ _ _ _ _ _ hf hI (lv_sub hl [3, 2, 1, 0] rfl)
  · refine r_iconst C dX5_bestDay_7 ?_
    exact r_iret hQ hf hI dX5_bestDay_8
/-! X6_open -/
def f_X6_open_2 (N : Nat) (o0 : Nat) (o1 : Nat) : Nat → Int → Mem → Option (Mem)
  | 0, _, _ => none
  | n + 1, v2, M => gd (inR v2) (if 6 ≤ v2 then (bnd (f_X2_digit N o1 7 M) (fun r42 M42 => bnd (f_X2_digit N o1 8 (st M42 o0 4 r42)) (fun r52 M52 => some (st (st (st (st (st M52 o0 5 r52) o0 3 0) o0 6 0) o0 7 0) o0 8 0)))) else (bnd (f_X2_digit N o1 v2 M) (fun r18 M18 => gd (0 ≤ v2 ∧ v2 < 6) (f_X6_open_2 N o0 o1 n (v2 + 1) (st (st M18 (ch (ch o0 0) 0) v2.toNat r18) (ch (ch o0 0) 1) v2.toNat 0)))))
def f_X6_open (N : Nat) (o0 : Nat) (o1 : Nat) (M : Mem) : Option (Mem) := f_X6_open_2 N o0 o1 N 0 M
theorem F_X6_open : CalF yX6_open cX6_open 3 none 1 := ⟨w_255, w_3, by decide +kernel⟩
set_option maxRecDepth 100000 in
set_option maxHeartbeats 4000000 in
theorem t_X6_open_2 {g : GP} {p : Program} {l : Launch} {e : Env} {s : State} {m : MethodId} {args : Array Value} {below : List Frame} {meth : Method} {c : Code} {Q : State → Prop} {N : Nat} {o0 : Nat} {o1 : Nat} (h0 : kd o0 = 6) (h1 : kd o1 = 2) (C : Cx g p s m args c cX6_open 3 "LentGallery$Street") {r : Mem} (hQ : RetV g p l e (rmK 1 21) s m args below meth c cX6_open r Q) : ∀ (n : Nat) (v2 : Int) (M : Mem) (H : Heap) (locs : List Loc) (ls : Array Slot), f_X6_open_2 N o0 o1 n v2 M = some r → Inv g s M H locs → lv_has ls 3 [(0, rI g o0), (1, rI g o1), (2, iI v2)] → W p l e (rmK 1 21) s m args below meth c H locs 0 0 Q (F0 m 2 ls []) := by
  intro n
  induction n with
  | zero =>
    intro v2 M H locs ls hf hI hl
    cases hf
  | succ n ih =>
    intro v2 M H locs ls hf hI hl
    rw [f_X6_open_2] at hf
    refine r_iload_n C hl 2 dX6_open_2 rfl rfl ?_
    refine r_bipush C dX6_open_3 rfl ?_
    refine r_gd hf (fun q5_0 hf => ?_)
    refine r_ic_ge C q5_0 (by decide) (tgt := 38) dX6_open_5 (by decide) hf (fun hf => ?_) (fun hf => ?_)
    · refine r_aload_n C hl 0 dX6_open_38 rfl rfl ?_
      refine r_aload_n C hl 1 dX6_open_39 rfl rfl ?_
      refine r_bipush C dX6_open_40 rfl ?_
      refine r_calli (rest := [rI g o0]) hI hf (fun r M' h => run_V C hI F_X2_digit w_257 w_258 w_256 ⟨⟨Nat.le_of_ble_eq_true rfl, Nat.le_of_ble_eq_true rfl⟩, Nat.le_of_ble_eq_true rfl, Nat.le_of_ble_eq_true rfl⟩ (zX2 h1) (oX2 h1) rfl hl dX6_open_42 [iI 7] rfl rfl (Nat.le_of_ble_eq_true rfl) (c_X2_digit C.2.2.2.2.2.2 h1 h)) (fun r42 M42 H locs hI hf => ?_)
      refine p_6_4 C hI h0 w_76 dX6_open_45 (fun H locs hI => ?_)
      refine r_aload_n C hl 0 dX6_open_48 rfl rfl ?_
      refine r_aload_n C hl 1 dX6_open_49 rfl rfl ?_
      refine r_bipush C dX6_open_50 rfl ?_
      refine r_calli (rest := [rI g o0]) hI hf (fun r M' h => run_V C hI F_X2_digit w_257 w_258 w_256 ⟨⟨Nat.le_of_ble_eq_true rfl, Nat.le_of_ble_eq_true rfl⟩, Nat.le_of_ble_eq_true rfl, Nat.le_of_ble_eq_true rfl⟩ (zX2 h1) (oX2 h1) rfl hl dX6_open_52 [iI 8] rfl rfl (Nat.le_of_ble_eq_true rfl) (c_X2_digit C.2.2.2.2.2.2 h1 h)) (fun r52 M52 H locs hI hf => ?_)
      refine p_6_5 C hI h0 w_78 dX6_open_55 (fun H locs hI => ?_)
      refine r_aload_n C hl 0 dX6_open_58 rfl rfl ?_
      refine r_iconst C dX6_open_59 ?_
      refine p_6_3 C hI h0 w_73 dX6_open_60 (fun H locs hI => ?_)
      refine r_aload_n C hl 0 dX6_open_63 rfl rfl ?_
      refine r_iconst C dX6_open_64 ?_
      refine p_6_6 C hI h0 w_80 dX6_open_65 (fun H locs hI => ?_)
      refine r_aload_n C hl 0 dX6_open_68 rfl rfl ?_
      refine r_iconst C dX6_open_69 ?_
      refine p_6_7 C hI h0 w_82 dX6_open_70 (fun H locs hI => ?_)
      refine r_aload_n C hl 0 dX6_open_73 rfl rfl ?_
      refine r_iconst C dX6_open_74 ?_
      refine p_6_8 C hI h0 w_84 dX6_open_75 (fun H locs hI => ?_)
      exact r_vret hQ hf hI dX6_open_78
    · refine r_aload_n C hl 0 dX6_open_8 rfl rfl ?_
      refine g_6_0 C hI h0 w_66 dX6_open_9 ?_
      refine g_3_0 C hI (k_6_0 h0) w_51 dX6_open_12 ?_
      refine r_iload_n C hl 2 dX6_open_15 rfl rfl ?_
      refine r_aload_n C hl 1 dX6_open_16 rfl rfl ?_
      refine r_iload_n C hl 2 dX6_open_17 rfl rfl ?_
      refine r_calli (rest := [iI v2, rI g (ch (ch o0 0) 0)]) hI hf (fun r M' h => run_V C hI F_X2_digit w_257 w_258 w_256 ⟨⟨Nat.le_of_ble_eq_true rfl, Nat.le_of_ble_eq_true rfl⟩, Nat.le_of_ble_eq_true rfl, Nat.le_of_ble_eq_true rfl⟩ (zX2 h1) (oX2 h1) rfl hl dX6_open_18 [iI v2] rfl rfl (Nat.le_of_ble_eq_true rfl) (c_X2_digit C.2.2.2.2.2.2 h1 h)) (fun r18 M18 H locs hI hf => ?_)
      refine r_gd hf (fun q21_1 hf => ?_)
      refine r_iast C hI 6 (n := 6) (k_3_0 (k_6_0 h0)) (by decide) rfl q21_1 dX6_open_21 (fun H locs hI => ?_)
      refine r_aload_n C hl 0 dX6_open_22 rfl rfl ?_
      refine g_6_0 C hI h0 w_66 dX6_open_23 ?_
      refine g_3_1 C hI (k_6_0 h0) w_56 dX6_open_26 ?_
      refine r_iload_n C hl 2 dX6_open_29 rfl rfl ?_
      refine r_iconst C dX6_open_30 ?_
      refine r_iast C hI 6 (n := 6) (k_3_1 (k_6_0 h0)) (by decide) rfl q21_1 dX6_open_31 (fun H locs hI => ?_)
      refine r_iinc C hl (lv' := [(2, iI (v2 + 1)), (0, rI g o0), (1, rI g o1)]) 2 dX6_open_32 rfl (Nat.le_of_ble_eq_true rfl) rfl (fun ls hl => ?_)
      refine r_goto C (tgt := 2) dX6_open_35 (by decide) ?_
      exact ih _ _ _ _ _ hf hI (lv_sub hl [1, 2, 0] rfl)
set_option maxRecDepth 100000 in
set_option maxHeartbeats 4000000 in
theorem c_X6_open {l : Launch} {g : GP} (hj : Inj g) {N : Nat} {M : Mem} {o0 : Nat} {o1 : Nat} (h0 : kd o0 = 6) (h1 : kd o1 = 2) {r : Mem} (hf : f_X6_open N o0 o1 M = some r) : Met l yX6_open (Cond.code yX6_open cX6_open 3 none :: TB) (rmK 1 21) (PreW g M [rI g o0, rI g o1]) (PostV g r) 0 0 (Ad g) := by
  unfold f_X6_open at hf
  refine met_of (nL := 3) (cc := cX6_open) (M := M) (by decide +kernel) hj (Nat.le_of_ble_eq_true rfl) ?_
  intro p e s m below meth c ls C hr hlk hI hl
  have C : Cx g p s m _ c cX6_open 3 "LentGallery$Street" := C
  have hl : lv_has ls 3 [(0, rI g o0), (1, rI g o1)] := hl
  have hQ := ret_v (l := l) (e := e) (R := (rmK 1 21)) (below := below) (r := r) C hr hlk
  generalize s.heap = H, ([] : List Loc) = locs at hI ⊢
  refine r_iconst C dX6_open_0 ?_
  refine r_istore_n C hl (lv' := [(2, iI 0), (0, rI g o0), (1, rI g o1)]) dX6_open_1 rfl (Nat.le_of_ble_eq_true rfl) rfl (fun ls hl => ?_)
  exact t_X6_open_2 h0 h1 C hQ _ _ _ _ _ _ hf hI (lv_sub hl [1, 2, 0] rfl)
/-! X6_copyFrom -/
def f_X6_copyFrom (N : Nat) (o0 : Nat) (o1 : Nat) (M : Mem) : Option (Mem) := bnv (f_X3_copyFrom N (ch o0 0) (ch o1 0) M) (fun M8 => some (st (st (st (st (st (st (cpy (cpy M8 (ch o1 1) (ch o0 1) 5) (ch o1 2) (ch o0 2) 5) o0 3 ((cpy (cpy M8 (ch o1 1) (ch o0 1) 5) (ch o1 2) (ch o0 2) 5) o1 3)) o0 4 ((st (cpy (cpy M8 (ch o1 1) (ch o0 1) 5) (ch o1 2) (ch o0 2) 5) o0 3 ((cpy (cpy M8 (ch o1 1) (ch o0 1) 5) (ch o1 2) (ch o0 2) 5) o1 3)) o1 4)) o0 5 ((st (st (cpy (cpy M8 (ch o1 1) (ch o0 1) 5) (ch o1 2) (ch o0 2) 5) o0 3 ((cpy (cpy M8 (ch o1 1) (ch o0 1) 5) (ch o1 2) (ch o0 2) 5) o1 3)) o0 4 ((st (cpy (cpy M8 (ch o1 1) (ch o0 1) 5) (ch o1 2) (ch o0 2) 5) o0 3 ((cpy (cpy M8 (ch o1 1) (ch o0 1) 5) (ch o1 2) (ch o0 2) 5) o1 3)) o1 4)) o1 5)) o0 6 ((st (st (st (cpy (cpy M8 (ch o1 1) (ch o0 1) 5) (ch o1 2) (ch o0 2) 5) o0 3 ((cpy (cpy M8 (ch o1 1) (ch o0 1) 5) (ch o1 2) (ch o0 2) 5) o1 3)) o0 4 ((st (cpy (cpy M8 (ch o1 1) (ch o0 1) 5) (ch o1 2) (ch o0 2) 5) o0 3 ((cpy (cpy M8 (ch o1 1) (ch o0 1) 5) (ch o1 2) (ch o0 2) 5) o1 3)) o1 4)) o0 5 ((st (st (cpy (cpy M8 (ch o1 1) (ch o0 1) 5) (ch o1 2) (ch o0 2) 5) o0 3 ((cpy (cpy M8 (ch o1 1) (ch o0 1) 5) (ch o1 2) (ch o0 2) 5) o1 3)) o0 4 ((st (cpy (cpy M8 (ch o1 1) (ch o0 1) 5) (ch o1 2) (ch o0 2) 5) o0 3 ((cpy (cpy M8 (ch o1 1) (ch o0 1) 5) (ch o1 2) (ch o0 2) 5) o1 3)) o1 4)) o1 5)) o1 6)) o0 7 ((st (st (st (st (cpy (cpy M8 (ch o1 1) (ch o0 1) 5) (ch o1 2) (ch o0 2) 5) o0 3 ((cpy (cpy M8 (ch o1 1) (ch o0 1) 5) (ch o1 2) (ch o0 2) 5) o1 3)) o0 4 ((st (cpy (cpy M8 (ch o1 1) (ch o0 1) 5) (ch o1 2) (ch o0 2) 5) o0 3 ((cpy (cpy M8 (ch o1 1) (ch o0 1) 5) (ch o1 2) (ch o0 2) 5) o1 3)) o1 4)) o0 5 ((st (st (cpy (cpy M8 (ch o1 1) (ch o0 1) 5) (ch o1 2) (ch o0 2) 5) o0 3 ((cpy (cpy M8 (ch o1 1) (ch o0 1) 5) (ch o1 2) (ch o0 2) 5) o1 3)) o0 4 ((st (cpy (cpy M8 (ch o1 1) (ch o0 1) 5) (ch o1 2) (ch o0 2) 5) o0 3 ((cpy (cpy M8 (ch o1 1) (ch o0 1) 5) (ch o1 2) (ch o0 2) 5) o1 3)) o1 4)) o1 5)) o0 6 ((st (st (st (cpy (cpy M8 (ch o1 1) (ch o0 1) 5) (ch o1 2) (ch o0 2) 5) o0 3 ((cpy (cpy M8 (ch o1 1) (ch o0 1) 5) (ch o1 2) (ch o0 2) 5) o1 3)) o0 4 ((st (cpy (cpy M8 (ch o1 1) (ch o0 1) 5) (ch o1 2) (ch o0 2) 5) o0 3 ((cpy (cpy M8 (ch o1 1) (ch o0 1) 5) (ch o1 2) (ch o0 2) 5) o1 3)) o1 4)) o0 5 ((st (st (cpy (cpy M8 (ch o1 1) (ch o0 1) 5) (ch o1 2) (ch o0 2) 5) o0 3 ((cpy (cpy M8 (ch o1 1) (ch o0 1) 5) (ch o1 2) (ch o0 2) 5) o1 3)) o0 4 ((st (cpy (cpy M8 (ch o1 1) (ch o0 1) 5) (ch o1 2) (ch o0 2) 5) o0 3 ((cpy (cpy M8 (ch o1 1) (ch o0 1) 5) (ch o1 2) (ch o0 2) 5) o1 3)) o1 4)) o1 5)) o1 6)) o1 7)) o0 8 ((st (st (st (st (st (cpy (cpy M8 (ch o1 1) (ch o0 1) 5) (ch o1 2) (ch o0 2) 5) o0 3 ((cpy (cpy M8 (ch o1 1) (ch o0 1) 5) (ch o1 2) (ch o0 2) 5) o1 3)) o0 4 ((st (cpy (cpy M8 (ch o1 1) (ch o0 1) 5) (ch o1 2) (ch o0 2) 5) o0 3 ((cpy (cpy M8 (ch o1 1) (ch o0 1) 5) (ch o1 2) (ch o0 2) 5) o1 3)) o1 4)) o0 5 ((st (st (cpy (cpy M8 (ch o1 1) (ch o0 1) 5) (ch o1 2) (ch o0 2) 5) o0 3 ((cpy (cpy M8 (ch o1 1) (ch o0 1) 5) (ch o1 2) (ch o0 2) 5) o1 3)) o0 4 ((st (cpy (cpy M8 (ch o1 1) (ch o0 1) 5) (ch o1 2) (ch o0 2) 5) o0 3 ((cpy (cpy M8 (ch o1 1) (ch o0 1) 5) (ch o1 2) (ch o0 2) 5) o1 3)) o1 4)) o1 5)) o0 6 ((st (st (st (cpy (cpy M8 (ch o1 1) (ch o0 1) 5) (ch o1 2) (ch o0 2) 5) o0 3 ((cpy (cpy M8 (ch o1 1) (ch o0 1) 5) (ch o1 2) (ch o0 2) 5) o1 3)) o0 4 ((st (cpy (cpy M8 (ch o1 1) (ch o0 1) 5) (ch o1 2) (ch o0 2) 5) o0 3 ((cpy (cpy M8 (ch o1 1) (ch o0 1) 5) (ch o1 2) (ch o0 2) 5) o1 3)) o1 4)) o0 5 ((st (st (cpy (cpy M8 (ch o1 1) (ch o0 1) 5) (ch o1 2) (ch o0 2) 5) o0 3 ((cpy (cpy M8 (ch o1 1) (ch o0 1) 5) (ch o1 2) (ch o0 2) 5) o1 3)) o0 4 ((st (cpy (cpy M8 (ch o1 1) (ch o0 1) 5) (ch o1 2) (ch o0 2) 5) o0 3 ((cpy (cpy M8 (ch o1 1) (ch o0 1) 5) (ch o1 2) (ch o0 2) 5) o1 3)) o1 4)) o1 5)) o1 6)) o0 7 ((st (st (st (st (cpy (cpy M8 (ch o1 1) (ch o0 1) 5) (ch o1 2) (ch o0 2) 5) o0 3 ((cpy (cpy M8 (ch o1 1) (ch o0 1) 5) (ch o1 2) (ch o0 2) 5) o1 3)) o0 4 ((st (cpy (cpy M8 (ch o1 1) (ch o0 1) 5) (ch o1 2) (ch o0 2) 5) o0 3 ((cpy (cpy M8 (ch o1 1) (ch o0 1) 5) (ch o1 2) (ch o0 2) 5) o1 3)) o1 4)) o0 5 ((st (st (cpy (cpy M8 (ch o1 1) (ch o0 1) 5) (ch o1 2) (ch o0 2) 5) o0 3 ((cpy (cpy M8 (ch o1 1) (ch o0 1) 5) (ch o1 2) (ch o0 2) 5) o1 3)) o0 4 ((st (cpy (cpy M8 (ch o1 1) (ch o0 1) 5) (ch o1 2) (ch o0 2) 5) o0 3 ((cpy (cpy M8 (ch o1 1) (ch o0 1) 5) (ch o1 2) (ch o0 2) 5) o1 3)) o1 4)) o1 5)) o0 6 ((st (st (st (cpy (cpy M8 (ch o1 1) (ch o0 1) 5) (ch o1 2) (ch o0 2) 5) o0 3 ((cpy (cpy M8 (ch o1 1) (ch o0 1) 5) (ch o1 2) (ch o0 2) 5) o1 3)) o0 4 ((st (cpy (cpy M8 (ch o1 1) (ch o0 1) 5) (ch o1 2) (ch o0 2) 5) o0 3 ((cpy (cpy M8 (ch o1 1) (ch o0 1) 5) (ch o1 2) (ch o0 2) 5) o1 3)) o1 4)) o0 5 ((st (st (cpy (cpy M8 (ch o1 1) (ch o0 1) 5) (ch o1 2) (ch o0 2) 5) o0 3 ((cpy (cpy M8 (ch o1 1) (ch o0 1) 5) (ch o1 2) (ch o0 2) 5) o1 3)) o0 4 ((st (cpy (cpy M8 (ch o1 1) (ch o0 1) 5) (ch o1 2) (ch o0 2) 5) o0 3 ((cpy (cpy M8 (ch o1 1) (ch o0 1) 5) (ch o1 2) (ch o0 2) 5) o1 3)) o1 4)) o1 5)) o1 6)) o1 7)) o1 8)))
theorem F_X6_copyFrom : CalF yX6_copyFrom cX6_copyFrom 2 none 1 := ⟨w_503, w_3, by decide +kernel⟩
set_option maxRecDepth 100000 in
set_option maxHeartbeats 4000000 in
theorem c_X6_copyFrom {l : Launch} {g : GP} (hj : Inj g) {N : Nat} {M : Mem} {o0 : Nat} {o1 : Nat} (h0 : kd o0 = 6) (h1 : kd o1 = 6) {r : Mem} (hf : f_X6_copyFrom N o0 o1 M = some r) : Met l yX6_copyFrom (Cond.code yX6_copyFrom cX6_copyFrom 2 none :: TB) (rmK 2 61) (PreW g M [rI g o0, rI g o1]) (PostV g r) 0 0 (Ad g) := by
  unfold f_X6_copyFrom at hf
  refine met_of (nL := 2) (cc := cX6_copyFrom) (M := M) (by decide +kernel) hj (Nat.le_of_ble_eq_true rfl) ?_
  intro p e s m below meth c ls C hr hlk hI hl
  have C : Cx g p s m _ c cX6_copyFrom 2 "LentGallery$Street" := C
  have hl : lv_has ls 2 [(0, rI g o0), (1, rI g o1)] := hl
  have hQ := ret_v (l := l) (e := e) (R := (rmK 2 61)) (below := below) (r := r) C hr hlk
  generalize s.heap = H, ([] : List Loc) = locs at hI ⊢
  refine r_aload_n C hl 0 dX6_copyFrom_0 rfl rfl ?_
  refine g_6_0 C hI h0 w_66 dX6_copyFrom_1 ?_
  refine r_aload_n C hl 1 dX6_copyFrom_4 rfl rfl ?_
  refine g_6_0 C hI h1 w_66 dX6_copyFrom_5 ?_
  refine r_callv (rest := []) hI hf (fun M' h => run_V C hI F_X3_copyFrom w_296 w_297 w_504 ⟨⟨Nat.le_of_ble_eq_true rfl, Nat.le_of_ble_eq_true rfl⟩, Nat.le_of_ble_eq_true rfl, Nat.le_of_ble_eq_true rfl⟩ (zX3 (k_6_0 h0)) (oX3 (k_6_0 h0)) rfl hl dX6_copyFrom_8 [rI g (ch o1 0)] rfl rfl (Nat.le_of_ble_eq_true rfl) (c_X3_copyFrom C.2.2.2.2.2.2 (k_6_0 h0) (k_6_0 h1) h)) (fun M8 H locs hI hf => ?_)
  refine r_aload_n C hl 1 dX6_copyFrom_11 rfl rfl ?_
  refine g_6_1 C hI h1 w_69 dX6_copyFrom_12 ?_
  refine r_iconst C dX6_copyFrom_15 ?_
  refine r_aload_n C hl 0 dX6_copyFrom_16 rfl rfl ?_
  refine g_6_1 C hI h0 w_69 dX6_copyFrom_17 ?_
  refine r_iconst C dX6_copyFrom_20 ?_
  refine r_iconst C dX6_copyFrom_21 ?_
  refine r_acopy C hI hl.1 (n1 := 5) (n2 := 5) 5 rfl (k_6_1 h1) (k_6_1 h0) (by decide) (by decide) (by decide) (by decide) w_505 w_301 w_300 w_11 (Nat.le_of_ble_eq_true rfl) (Nat.le_of_ble_eq_true rfl) dX6_copyFrom_22 (fun H locs hI => ?_)
  refine r_aload_n C hl 1 dX6_copyFrom_25 rfl rfl ?_
  refine g_6_2 C hI h1 w_71 dX6_copyFrom_26 ?_
  refine r_iconst C dX6_copyFrom_29 ?_
  refine r_aload_n C hl 0 dX6_copyFrom_30 rfl rfl ?_
  refine g_6_2 C hI h0 w_71 dX6_copyFrom_31 ?_
  refine r_iconst C dX6_copyFrom_34 ?_
  refine r_iconst C dX6_copyFrom_35 ?_
  refine r_acopy C hI hl.1 (n1 := 5) (n2 := 5) 5 rfl (k_6_2 h1) (k_6_2 h0) (by decide) (by decide) (by decide) (by decide) w_505 w_301 w_300 w_11 (Nat.le_of_ble_eq_true rfl) (Nat.le_of_ble_eq_true rfl) dX6_copyFrom_36 (fun H locs hI => ?_)
  refine r_aload_n C hl 0 dX6_copyFrom_39 rfl rfl ?_
  refine r_aload_n C hl 1 dX6_copyFrom_40 rfl rfl ?_
  refine g_6_3 C hI h1 w_73 dX6_copyFrom_41 ?_
  refine p_6_3 C hI h0 w_73 dX6_copyFrom_44 (fun H locs hI => ?_)
  refine r_aload_n C hl 0 dX6_copyFrom_47 rfl rfl ?_
  refine r_aload_n C hl 1 dX6_copyFrom_48 rfl rfl ?_
  refine g_6_4 C hI h1 w_76 dX6_copyFrom_49 ?_
  refine p_6_4 C hI h0 w_76 dX6_copyFrom_52 (fun H locs hI => ?_)
  refine r_aload_n C hl 0 dX6_copyFrom_55 rfl rfl ?_
  refine r_aload_n C hl 1 dX6_copyFrom_56 rfl rfl ?_
  refine g_6_5 C hI h1 w_78 dX6_copyFrom_57 ?_
  refine p_6_5 C hI h0 w_78 dX6_copyFrom_60 (fun H locs hI => ?_)
  refine r_aload_n C hl 0 dX6_copyFrom_63 rfl rfl ?_
  refine r_aload_n C hl 1 dX6_copyFrom_64 rfl rfl ?_
  refine g_6_6 C hI h1 w_80 dX6_copyFrom_65 ?_
  refine p_6_6 C hI h0 w_80 dX6_copyFrom_68 (fun H locs hI => ?_)
  refine r_aload_n C hl 0 dX6_copyFrom_71 rfl rfl ?_
  refine r_aload_n C hl 1 dX6_copyFrom_72 rfl rfl ?_
  refine g_6_7 C hI h1 w_82 dX6_copyFrom_73 ?_
  refine p_6_7 C hI h0 w_82 dX6_copyFrom_76 (fun H locs hI => ?_)
  refine r_aload_n C hl 0 dX6_copyFrom_79 rfl rfl ?_
  refine r_aload_n C hl 1 dX6_copyFrom_80 rfl rfl ?_
  refine g_6_8 C hI h1 w_84 dX6_copyFrom_81 ?_
  refine p_6_8 C hI h0 w_84 dX6_copyFrom_84 (fun H locs hI => ?_)
  exact r_vret hQ hf hI dX6_copyFrom_87
/-! X6_welcome -/
def f_X6_welcome (N : Nat) (o0 : Nat) (v1 : Int) (v2 : Int) (M : Mem) : Option (Mem) := gd (inR (M o0 3)) (if (M o0 3) < 0 then (some M) else (if 5 ≤ (M o0 3) then (some M) else (bnd (f_X7_isKind N v1 M) (fun r16 M16 => gd (inR r16) (if r16 = 0 then (some M16) else (bnd (f_X3_stands N (ch o0 0) v2 M16) (fun r27 M27 => gd (inR r27) (if r27 = 0 then (some M27) else (gd (0 ≤ (M27 o0 3) ∧ (M27 o0 3) < 5) (gd (0 ≤ ((st M27 (ch o0 1) (M27 o0 3).toNat v1) o0 3) ∧ ((st M27 (ch o0 1) (M27 o0 3).toNat v1) o0 3) < 5) (gd (0 ≤ v2 ∧ v2 < 6) (gd (0 ≤ v1 ∧ v1 < 5) (some (st (st (st (st M27 (ch o0 1) (M27 o0 3).toNat v1) (ch o0 2) ((st M27 (ch o0 1) (M27 o0 3).toNat v1) o0 3).toNat v2) (ch (ch o0 0) 1) v2.toNat (((st (st M27 (ch o0 1) (M27 o0 3).toNat v1) (ch o0 2) ((st M27 (ch o0 1) (M27 o0 3).toNat v1) o0 3).toNat v2) (ch (ch o0 0) 1) v2.toNat) + (wts v1))) o0 3 (((st (st (st M27 (ch o0 1) (M27 o0 3).toNat v1) (ch o0 2) ((st M27 (ch o0 1) (M27 o0 3).toNat v1) o0 3).toNat v2) (ch (ch o0 0) 1) v2.toNat (((st (st M27 (ch o0 1) (M27 o0 3).toNat v1) (ch o0 2) ((st M27 (ch o0 1) (M27 o0 3).toNat v1) o0 3).toNat v2) (ch (ch o0 0) 1) v2.toNat) + (wts v1))) o0 3) + 1)))))))))))))))
theorem F_X6_welcome : CalF yX6_welcome cX6_welcome 3 none 2 := ⟨w_351, w_3, by decide +kernel⟩
set_option maxRecDepth 100000 in
set_option maxHeartbeats 4000000 in
theorem c_X6_welcome {l : Launch} {g : GP} (hj : Inj g) {N : Nat} {M : Mem} {o0 : Nat} {v1 : Int} {v2 : Int} (h0 : kd o0 = 6) {r : Mem} (hf : f_X6_welcome N o0 v1 v2 M = some r) : Met l yX6_welcome (Cond.code yX6_welcome cX6_welcome 3 none :: TB) (rmK 1 21) (PreW g M [rI g o0, iI v1, iI v2]) (PostV g r) 0 0 (Ad g) := by
  unfold f_X6_welcome at hf
  refine met_of (nL := 3) (cc := cX6_welcome) (M := M) (by decide +kernel) hj (Nat.le_of_ble_eq_true rfl) ?_
  intro p e s m below meth c ls C hr hlk hI hl
  have C : Cx g p s m _ c cX6_welcome 3 "LentGallery$Street" := C
  have hl : lv_has ls 3 [(0, rI g o0), (1, iI v1), (2, iI v2)] := hl
  have hQ := ret_v (l := l) (e := e) (R := (rmK 1 21)) (below := below) (r := r) C hr hlk
  generalize s.heap = H, ([] : List Loc) = locs at hI ⊢
  refine r_aload_n C hl 0 dX6_welcome_0 rfl rfl ?_
  refine g_6_3 C hI h0 w_73 dX6_welcome_1 ?_
  refine r_gd hf (fun q4_0 hf => ?_)
  refine r_if_lt C q4_0 (tgt := 33) dX6_welcome_4 (by decide) hf (fun hf => ?_) (fun hf => ?_)
  · exact r_vret hQ hf hI dX6_welcome_33
  · refine r_aload_n C hl 0 dX6_welcome_7 rfl rfl ?_
    refine g_6_3 C hI h0 w_73 dX6_welcome_8 ?_
    refine r_iconst C dX6_welcome_11 ?_
    refine r_ic_ge C q4_0 (by decide) (tgt := 33) dX6_welcome_12 (by decide) hf (fun hf => ?_) (fun hf => ?_)
    · exact r_vret hQ hf hI dX6_welcome_33
    · refine r_iload_n C hl 1 dX6_welcome_15 rfl rfl ?_
      refine r_calli (rest := []) hI hf (fun r M' h => run_N C hI F_X7_isKind w_344 (List.mem_of_getElem? (i := 9) rfl) ⟨⟨Nat.le_of_ble_eq_true rfl, Nat.le_of_ble_eq_true rfl⟩, Nat.le_of_ble_eq_true rfl, Nat.le_of_ble_eq_true rfl⟩ hl dX6_welcome_16 [iI v1] rfl rfl (Nat.le_of_ble_eq_true rfl) (c_X7_isKind C.2.2.2.2.2.2 h)) (fun r16 M16 H locs hI hf => ?_)
      refine r_gd hf (fun q19_1 hf => ?_)
      refine r_if_eq C q19_1 (tgt := 33) dX6_welcome_19 (by decide) hf (fun hf => ?_) (fun hf => ?_)
      · exact r_vret hQ hf hI dX6_welcome_33
      · refine r_aload_n C hl 0 dX6_welcome_22 rfl rfl ?_
        refine g_6_0 C hI h0 w_66 dX6_welcome_23 ?_
        refine r_iload_n C hl 2 dX6_welcome_26 rfl rfl ?_
        refine r_calli (rest := []) hI hf (fun r M' h => run_V C hI F_X3_stands w_307 w_308 w_353 ⟨⟨Nat.le_of_ble_eq_true rfl, Nat.le_of_ble_eq_true rfl⟩, Nat.le_of_ble_eq_true rfl, Nat.le_of_ble_eq_true rfl⟩ (zX3 (k_6_0 h0)) (oX3 (k_6_0 h0)) rfl hl dX6_welcome_27 [iI v2] rfl rfl (Nat.le_of_ble_eq_true rfl) (c_X3_stands C.2.2.2.2.2.2 (k_6_0 h0) h)) (fun r27 M27 H locs hI hf => ?_)
        refine r_gd hf (fun q30_2 hf => ?_)
        refine r_if_ne C q30_2 (tgt := 34) dX6_welcome_30 (by decide) hf (fun hf => ?_) (fun hf => ?_)
        · refine r_aload_n C hl 0 dX6_welcome_34 rfl rfl ?_
          refine g_6_1 C hI h0 w_69 dX6_welcome_35 ?_
          refine r_aload_n C hl 0 dX6_welcome_38 rfl rfl ?_
          refine g_6_3 C hI h0 w_73 dX6_welcome_39 ?_
          refine r_iload_n C hl 1 dX6_welcome_42 rfl rfl ?_
          refine r_gd hf (fun q43_3 hf => ?_)
          refine r_iast C hI 5 (n := 5) (k_6_1 h0) (by decide) rfl q43_3 dX6_welcome_43 (fun H locs hI => ?_)
          refine r_aload_n C hl 0 dX6_welcome_44 rfl rfl ?_
          refine g_6_2 C hI h0 w_71 dX6_welcome_45 ?_
          refine r_aload_n C hl 0 dX6_welcome_48 rfl rfl ?_
          refine g_6_3 C hI h0 w_73 dX6_welcome_49 ?_
          refine r_iload_n C hl 2 dX6_welcome_52 rfl rfl ?_
          refine r_gd hf (fun q53_4 hf => ?_)
          refine r_iast C hI 5 (n := 5) (k_6_2 h0) (by decide) rfl q53_4 dX6_welcome_53 (fun H locs hI => ?_)
          refine r_aload_n C hl 0 dX6_welcome_54 rfl rfl ?_
          refine g_6_0 C hI h0 w_66 dX6_welcome_55 ?_
          refine g_3_1 C hI (k_6_0 h0) w_56 dX6_welcome_58 ?_
          refine r_iload_n C hl 2 dX6_welcome_61 rfl rfl ?_
          refine r_dup2 C dX6_welcome_62 rfl rfl ?_
          refine r_gd hf (fun q63_5 hf => ?_)
          refine r_iald C hI 6 (n := 6) (k_3_1 (k_6_0 h0)) (by decide) rfl q63_5 dX6_welcome_63 ?_
          refine va_getsN C.1 C.2.1 C.2.2.2.2.2.1.2.2.1 hI.2 C.2.2.2.1 (va_Nw.use rfl (C.2.2.2.2.2.1.2.1 _ (List.mem_of_getElem? (i := 10) rfl))) (fun _ h => h) dX6_welcome_64 ?_
          refine r_iload_n C hl 1 dX6_welcome_67 rfl rfl ?_
          refine r_gd hf (fun q68_6 hf => ?_)
          refine r_stld C hI wts C.2.2.2.2.2.1.2.2.2.2.1 q68_6 dX6_welcome_68 ?_
          refine r_iadd C dX6_welcome_69 ?_
          refine r_iast C hI 6 (n := 6) (k_3_1 (k_6_0 h0)) (by decide) rfl q63_5 dX6_welcome_70 (fun H locs hI => ?_)
          refine r_aload_n C hl 0 dX6_welcome_71 rfl rfl ?_
          refine r_dup C dX6_welcome_72 rfl ?_
          refine g_6_3 C hI h0 w_73 dX6_welcome_73 ?_
          refine r_iconst C dX6_welcome_76 ?_
          refine r_iadd C dX6_welcome_77 ?_
          refine p_6_3 C hI h0 w_73 dX6_welcome_78 (fun H locs hI => ?_)
          exact r_vret hQ hf hI dX6_welcome_81
        · exact r_vret hQ hf hI dX6_welcome_33
/-! X6_isCutOff -/
def f_X6_isCutOff (N : Nat) (o0 : Nat) (v1 : Int) (M : Mem) : Option (Int × Mem) := bnd (f_X6_isHere N o0 v1 M) (fun r2 M2 => gd (inR r2) (if r2 = 0 then (some (0, M2)) else (gd (0 ≤ v1 ∧ v1 < 5) (bnd (f_X3_firstFallen N (ch o0 0) M2) (fun r18 M18 => gd (inR (M2 (ch o0 2) v1.toNat)) (gd (inR r18) (if (M2 (ch o0 2) v1.toNat) < r18 then (some (0, M18)) else (some (1, M18)))))))))
theorem F_X6_isCutOff : CalF yX6_isCutOff cX6_isCutOff 2 (some .boolean) 1 := ⟨w_380, w_3, by decide +kernel⟩
set_option maxRecDepth 100000 in
set_option maxHeartbeats 4000000 in
theorem c_X6_isCutOff {l : Launch} {g : GP} (hj : Inj g) {N : Nat} {M : Mem} {o0 : Nat} {v1 : Int} (h0 : kd o0 = 6) {r : Int × Mem} (hf : f_X6_isCutOff N o0 v1 M = some r) : Met l yX6_isCutOff (Cond.code yX6_isCutOff cX6_isCutOff 2 (some .boolean) :: TB) (rmK 1 21) (PreW g M [rI g o0, iI v1]) (PostI g r.1 r.2) 0 0 (Ad g) := by
  unfold f_X6_isCutOff at hf
  refine met_of (nL := 2) (cc := cX6_isCutOff) (M := M) (by decide +kernel) hj (Nat.le_of_ble_eq_true rfl) ?_
  intro p e s m below meth c ls C hr hlk hI hl
  have C : Cx g p s m _ c cX6_isCutOff 2 "LentGallery$Street" := C
  have hl : lv_has ls 2 [(0, rI g o0), (1, iI v1)] := hl
  have hQ := ret_z (l := l) (e := e) (R := (rmK 1 21)) (below := below) (r := r) C hr hlk
  generalize s.heap = H, ([] : List Loc) = locs at hI ⊢
  refine r_aload_n C hl 0 dX6_isCutOff_0 rfl rfl ?_
  refine r_iload_n C hl 1 dX6_isCutOff_1 rfl rfl ?_
  refine r_calli (rest := []) hI hf (fun r M' h => run_V C hI F_X6_isHere w_369 v_4 w_367 ⟨⟨Nat.le_of_ble_eq_true rfl, Nat.le_of_ble_eq_true rfl⟩, Nat.le_of_ble_eq_true rfl, Nat.le_of_ble_eq_true rfl⟩ (zX6 h0) (oX6 h0) rfl hl dX6_isCutOff_2 [iI v1] rfl rfl (Nat.le_of_ble_eq_true rfl) (c_X6_isHere C.2.2.2.2.2.2 h0 h)) (fun r2 M2 H locs hI hf => ?_)
  refine r_gd hf (fun q5_0 hf => ?_)
  refine r_if_eq C q5_0 (tgt := 28) dX6_isCutOff_5 (by decide) hf (fun hf => ?_) (fun hf => ?_)
  · refine r_iconst C dX6_isCutOff_28 ?_
    exact r_zret hQ (by decide) hf hI dX6_isCutOff_29
  · refine r_aload_n C hl 0 dX6_isCutOff_8 rfl rfl ?_
    refine g_6_2 C hI h0 w_71 dX6_isCutOff_9 ?_
    refine r_iload_n C hl 1 dX6_isCutOff_12 rfl rfl ?_
    refine r_gd hf (fun q13_1 hf => ?_)
    refine r_iald C hI 5 (n := 5) (k_6_2 h0) (by decide) rfl q13_1 dX6_isCutOff_13 ?_
    refine r_aload_n C hl 0 dX6_isCutOff_14 rfl rfl ?_
    refine g_6_0 C hI h0 w_66 dX6_isCutOff_15 ?_
    refine r_calli (rest := [iI (M2 (ch o0 2) v1.toNat)]) hI hf (fun r M' h => run_V C hI F_X3_firstFallen w_382 w_383 w_381 ⟨⟨Nat.le_of_ble_eq_true rfl, Nat.le_of_ble_eq_true rfl⟩, Nat.le_of_ble_eq_true rfl, Nat.le_of_ble_eq_true rfl⟩ (zX3 (k_6_0 h0)) (oX3 (k_6_0 h0)) rfl hl dX6_isCutOff_18 [] rfl rfl (Nat.le_of_ble_eq_true rfl) (c_X3_firstFallen C.2.2.2.2.2.2 (k_6_0 h0) h)) (fun r18 M18 H locs hI hf => ?_)
    refine r_gd hf (fun q21_2 hf => ?_)
    refine r_gd hf (fun q21_3 hf => ?_)
    refine r_ic_lt C q21_2 q21_3 (tgt := 28) dX6_isCutOff_21 (by decide) hf (fun hf => ?_) (fun hf => ?_)
    · refine r_iconst C dX6_isCutOff_28 ?_
      exact r_zret hQ (by decide) hf hI dX6_isCutOff_29
    · refine r_iconst C dX6_isCutOff_24 ?_
      refine r_goto C (tgt := 29) dX6_isCutOff_25 (by decide) ?_
      exact r_zret hQ (by decide) hf hI dX6_isCutOff_29
/-! X6_rehouse -/
def f_X6_rehouse_69 (N : Nat) (o0 : Nat) (v1 : Int) (v2 : Int) (v3 : Int) (M : Mem) : Option (Int × Mem) := gd (0 ≤ v2 ∧ v2 < 6) (gd (0 ≤ v1 ∧ v1 < 5) (some (1, st (st M (ch (ch o0 0) 1) v2.toNat ((M (ch (ch o0 0) 1) v2.toNat) + v3)) (ch o0 2) v1.toNat v2)))
def f_X6_rehouse (N : Nat) (o0 : Nat) (v1 : Int) (v2 : Int) (M : Mem) : Option (Int × Mem) := bnd (f_X6_isHere N o0 v1 M) (fun r2 M2 => gd (inR r2) (if r2 = 0 then (some (0, M2)) else (bnd (f_X3_stands N (ch o0 0) v2 M2) (fun r13 M13 => gd (inR r13) (if r13 = 0 then (some (0, M13)) else (bnd (f_X6_isCutOff N o0 v1 M13) (fun r21 M21 => gd (inR r21) (if r21 = 0 then (bnd (f_X6_weightOf N o0 v1 M21) (fun r31 M31 => gd (0 ≤ v1 ∧ v1 < 5) (gd (inR (M31 (ch o0 2) v1.toNat)) (if (M31 (ch o0 2) v1.toNat) < 0 then (f_X6_rehouse_69 N o0 v1 v2 r31 M31) else (if 6 ≤ (M31 (ch o0 2) v1.toNat) then (f_X6_rehouse_69 N o0 v1 v2 r31 M31) else (gd (0 ≤ (M31 (ch o0 2) v1.toNat) ∧ (M31 (ch o0 2) v1.toNat) < 6) (f_X6_rehouse_69 N o0 v1 v2 r31 (st M31 (ch (ch o0 0) 1) (M31 (ch o0 2) v1.toNat).toNat ((M31 (ch (ch o0 0) 1) (M31 (ch o0 2) v1.toNat).toNat) - r31))))))))) else (some (0, M21))))))))))
theorem F_X6_rehouse : CalF yX6_rehouse cX6_rehouse 5 (some .boolean) 2 := ⟨w_406, w_3, by decide +kernel⟩
set_option maxRecDepth 100000 in
set_option maxHeartbeats 4000000 in
theorem t_X6_rehouse_69 {g : GP} {p : Program} {l : Launch} {e : Env} {s : State} {m : MethodId} {args : Array Value} {below : List Frame} {meth : Method} {c : Code} {Q : State → Prop} {N : Nat} {o0 : Nat} {v1 : Int} {v2 : Int} (h0 : kd o0 = 6) (C : Cx g p s m args c cX6_rehouse 5 "LentGallery$Street") {r : Int × Mem} (hQ : RetZ g p l e (rmK 2 42) s m args below meth c cX6_rehouse r Q) : ∀ (v3 : Int) (M : Mem) (H : Heap) (locs : List Loc) (ls : Array Slot), f_X6_rehouse_69 N o0 v1 v2 v3 M = some r → Inv g s M H locs → lv_has ls 5 [(0, rI g o0), (1, iI v1), (2, iI v2), (3, iI v3)] → W p l e (rmK 2 42) s m args below meth c H locs 0 0 Q (F0 m 69 ls []) := by
  intro v3 M H locs ls hf hI hl
  unfold f_X6_rehouse_69 at hf
  refine r_aload_n C hl 0 dX6_rehouse_69 rfl rfl ?_
  refine g_6_0 C hI h0 w_66 dX6_rehouse_70 ?_
  refine g_3_1 C hI (k_6_0 h0) w_56 dX6_rehouse_73 ?_
  refine r_iload_n C hl 2 dX6_rehouse_76 rfl rfl ?_
  refine r_dup2 C dX6_rehouse_77 rfl rfl ?_
  refine r_gd hf (fun q78_0 hf => ?_)
  refine r_iald C hI 6 (n := 6) (k_3_1 (k_6_0 h0)) (by decide) rfl q78_0 dX6_rehouse_78 ?_
  refine r_iload_n C hl 3 dX6_rehouse_79 rfl rfl ?_
  refine r_iadd C dX6_rehouse_80 ?_
  refine r_iast C hI 6 (n := 6) (k_3_1 (k_6_0 h0)) (by decide) rfl q78_0 dX6_rehouse_81 (fun H locs hI => ?_)
  refine r_aload_n C hl 0 dX6_rehouse_82 rfl rfl ?_
  refine g_6_2 C hI h0 w_71 dX6_rehouse_83 ?_
  refine r_iload_n C hl 1 dX6_rehouse_86 rfl rfl ?_
  refine r_iload_n C hl 2 dX6_rehouse_87 rfl rfl ?_
  refine r_gd hf (fun q88_1 hf => ?_)
  refine r_iast C hI 5 (n := 5) (k_6_2 h0) (by decide) rfl q88_1 dX6_rehouse_88 (fun H locs hI => ?_)
  refine r_iconst C dX6_rehouse_89 ?_
  exact r_zret hQ (by decide) hf hI dX6_rehouse_90
set_option maxRecDepth 100000 in
set_option maxHeartbeats 4000000 in
theorem c_X6_rehouse {l : Launch} {g : GP} (hj : Inj g) {N : Nat} {M : Mem} {o0 : Nat} {v1 : Int} {v2 : Int} (h0 : kd o0 = 6) {r : Int × Mem} (hf : f_X6_rehouse N o0 v1 v2 M = some r) : Met l yX6_rehouse (Cond.code yX6_rehouse cX6_rehouse 5 (some .boolean) :: TB) (rmK 2 42) (PreW g M [rI g o0, iI v1, iI v2]) (PostI g r.1 r.2) 0 0 (Ad g) := by
  unfold f_X6_rehouse at hf
  refine met_of (nL := 5) (cc := cX6_rehouse) (M := M) (by decide +kernel) hj (Nat.le_of_ble_eq_true rfl) ?_
  intro p e s m below meth c ls C hr hlk hI hl
  have C : Cx g p s m _ c cX6_rehouse 5 "LentGallery$Street" := C
  have hl : lv_has ls 5 [(0, rI g o0), (1, iI v1), (2, iI v2)] := hl
  have hQ := ret_z (l := l) (e := e) (R := (rmK 2 42)) (below := below) (r := r) C hr hlk
  generalize s.heap = H, ([] : List Loc) = locs at hI ⊢
  refine r_aload_n C hl 0 dX6_rehouse_0 rfl rfl ?_
  refine r_iload_n C hl 1 dX6_rehouse_1 rfl rfl ?_
  refine r_calli (rest := []) hI hf (fun r M' h => run_V C hI F_X6_isHere w_369 v_4 w_367 ⟨⟨Nat.le_of_ble_eq_true rfl, Nat.le_of_ble_eq_true rfl⟩, Nat.le_of_ble_eq_true rfl, Nat.le_of_ble_eq_true rfl⟩ (zX6 h0) (oX6 h0) rfl hl dX6_rehouse_2 [iI v1] rfl rfl (Nat.le_of_ble_eq_true rfl) (c_X6_isHere C.2.2.2.2.2.2 h0 h)) (fun r2 M2 H locs hI hf => ?_)
  refine r_gd hf (fun q5_0 hf => ?_)
  refine r_if_eq C q5_0 (tgt := 27) dX6_rehouse_5 (by decide) hf (fun hf => ?_) (fun hf => ?_)
  · refine r_iconst C dX6_rehouse_27 ?_
    exact r_zret hQ (by decide) hf hI dX6_rehouse_28
  · refine r_aload_n C hl 0 dX6_rehouse_8 rfl rfl ?_
    refine g_6_0 C hI h0 w_66 dX6_rehouse_9 ?_
    refine r_iload_n C hl 2 dX6_rehouse_12 rfl rfl ?_
    refine r_calli (rest := []) hI hf (fun r M' h => run_V C hI F_X3_stands w_307 w_308 w_353 ⟨⟨Nat.le_of_ble_eq_true rfl, Nat.le_of_ble_eq_true rfl⟩, Nat.le_of_ble_eq_true rfl, Nat.le_of_ble_eq_true rfl⟩ (zX3 (k_6_0 h0)) (oX3 (k_6_0 h0)) rfl hl dX6_rehouse_13 [iI v2] rfl rfl (Nat.le_of_ble_eq_true rfl) (c_X3_stands C.2.2.2.2.2.2 (k_6_0 h0) h)) (fun r13 M13 H locs hI hf => ?_)
    refine r_gd hf (fun q16_1 hf => ?_)
    refine r_if_eq C q16_1 (tgt := 27) dX6_rehouse_16 (by decide) hf (fun hf => ?_) (fun hf => ?_)
    · refine r_iconst C dX6_rehouse_27 ?_
      exact r_zret hQ (by decide) hf hI dX6_rehouse_28
    · refine r_aload_n C hl 0 dX6_rehouse_19 rfl rfl ?_
      refine r_iload_n C hl 1 dX6_rehouse_20 rfl rfl ?_
      refine r_calli (rest := []) hI hf (fun r M' h => run_V C hI F_X6_isCutOff w_378 w_379 w_390 ⟨⟨Nat.le_of_ble_eq_true rfl, Nat.le_of_ble_eq_true rfl⟩, Nat.le_of_ble_eq_true rfl, Nat.le_of_ble_eq_true rfl⟩ (zX6 h0) (oX6 h0) rfl hl dX6_rehouse_21 [iI v1] rfl rfl (Nat.le_of_ble_eq_true rfl) (c_X6_isCutOff C.2.2.2.2.2.2 h0 h)) (fun r21 M21 H locs hI hf => ?_)
      refine r_gd hf (fun q24_2 hf => ?_)
      refine r_if_eq C q24_2 (tgt := 29) dX6_rehouse_24 (by decide) hf (fun hf => ?_) (fun hf => ?_)
      · refine r_aload_n C hl 0 dX6_rehouse_29 rfl rfl ?_
        refine r_iload_n C hl 1 dX6_rehouse_30 rfl rfl ?_
        refine r_calli (rest := []) hI hf (fun r M' h => run_V C hI F_X6_weightOf w_364 w_365 w_407 ⟨⟨Nat.le_of_ble_eq_true rfl, Nat.le_of_ble_eq_true rfl⟩, Nat.le_of_ble_eq_true rfl, Nat.le_of_ble_eq_true rfl⟩ (zX6 h0) (oX6 h0) rfl hl dX6_rehouse_31 [iI v1] rfl rfl (Nat.le_of_ble_eq_true rfl) (c_X6_weightOf C.2.2.2.2.2.2 h0 h)) (fun r31 M31 H locs hI hf => ?_)
        refine r_istore_n C hl (lv' := [(3, iI r31), (0, rI g o0), (1, iI v1), (2, iI v2)]) dX6_rehouse_34 rfl (Nat.le_of_ble_eq_true rfl) rfl (fun ls hl => ?_)
        refine r_aload_n C hl 1 dX6_rehouse_35 rfl rfl ?_
        refine g_6_2 C hI h0 w_71 dX6_rehouse_36 ?_
        refine r_iload_n C hl 2 dX6_rehouse_39 rfl rfl ?_
        refine r_gd hf (fun q40_3 hf => ?_)
        refine r_iald C hI 5 (n := 5) (k_6_2 h0) (by decide) rfl q40_3 dX6_rehouse_40 ?_
        refine r_istore C hl (lv' := [(4, iI (M31 (ch o0 2) v1.toNat)), (3, iI r31), (0, rI g o0), (1, iI v1), (2, iI v2)]) dX6_rehouse_41 (Nat.le_of_ble_eq_true rfl) rfl (fun ls hl => ?_)
        refine r_iload C hl 0 dX6_rehouse_43 rfl ?_
        refine r_gd hf (fun q45_4 hf => ?_)
        refine r_if_lt C q45_4 (tgt := 69) dX6_rehouse_45 (by decide) hf (fun hf => ?_) (fun hf => ?_)
        · exact t_X6_rehouse_69 h0 C hQ _ _ _ _ _ hf hI (lv_sub hl [2, 3, 4, 1] rfl)
        · refine r_iload C hl 0 dX6_rehouse_48 rfl ?_
          refine r_bipush C dX6_rehouse_50 rfl ?_
          refine r_ic_ge C q45_4 (by decide) (tgt := 69) dX6_rehouse_52 (by decide) hf (fun hf => ?_) (fun hf => ?_)
          · exact t_X6_rehouse_69 h0 C hQ _ _ _ _ _ hf hI (lv_sub hl [2, 3, 4, 1] rfl)
          · refine r_aload_n C hl 2 dX6_rehouse_55 rfl rfl ?_
            refine g_6_0 C hI h0 w_66 dX6_rehouse_56 ?_
            refine g_3_1 C hI (k_6_0 h0) w_56 dX6_rehouse_59 ?_
            refine r_iload C hl 0 dX6_rehouse_62 rfl ?_
            refine r_dup2 C dX6_rehouse_64 rfl rfl ?_
            refine r_gd hf (fun q65_5 hf => ?_)
            refine r_iald C hI 6 (n := 6) (k_3_1 (k_6_0 h0)) (by decide) rfl q65_5 dX6_rehouse_65 ?_
            refine r_iload_n C hl 1 dX6_rehouse_66 rfl rfl ?_
            refine r_isub C dX6_rehouse_67 ?_
            refine r_iast C hI 6 (n := 6) (k_3_1 (k_6_0 h0)) (by decide) rfl q65_5 dX6_rehouse_68 (fun H locs hI => ?_)
            exact t_X6_rehouse_69 h0 C hQ _ _ _ _ _ hf hI (lv_sub hl [2, 3, 4, 1] rfl)
      · refine r_iconst C dX6_rehouse_27 ?_
        exact r_zret hQ (by decide) hf hI dX6_rehouse_28
