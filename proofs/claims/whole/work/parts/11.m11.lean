/-! X3_passDay -/
def f_X3_passDay_29 (N : Nat) (o0 : Nat) : Nat → Int → Int → Mem → Option (Int × Mem)
  | 0, _, _, _ => none
  | n + 1, v1, v2, M => gd (inR v2) (if 6 ≤ v2 then (some (v1, M)) else (gd (0 ≤ v2 ∧ v2 < 6) (gd (inR (M (ch o0 0) v2.toNat)) (if (M (ch o0 0) v2.toNat) ≤ 0 then (f_X3_passDay_29 N o0 n v1 (v2 + 1) M) else (bnd (f_J9_max_7cf53 N 0 ((M (ch o0 0) v2.toNat) - (M (ch o0 2) v2.toNat)) M) (fun r63 M63 => gd (inR ((st M63 (ch o0 0) v2.toNat r63) (ch o0 0) v2.toNat)) (if ((st M63 (ch o0 0) v2.toNat r63) (ch o0 0) v2.toNat) = 0 then (f_X3_passDay_29 N o0 n (v1 + 1) (v2 + 1) (st M63 (ch o0 0) v2.toNat r63)) else (f_X3_passDay_29 N o0 n (v1 + 0) (v2 + 1) (st M63 (ch o0 0) v2.toNat r63)))))))))
def f_X3_passDay_2 (N : Nat) (o0 : Nat) : Nat → Int → Mem → Option (Int × Mem)
  | 0, _, _ => none
  | n + 1, v1, M => gd (inR v1) (if 6 ≤ v1 then (f_X3_passDay_29 N o0 N 0 0 M) else (bnd (f_X3_lossAt N o0 v1 M) (fun r15 M15 => gd (0 ≤ v1 ∧ v1 < 6) (f_X3_passDay_2 N o0 n (v1 + 1) (st M15 (ch o0 2) v1.toNat r15)))))
def f_X3_passDay (N : Nat) (o0 : Nat) (M : Mem) : Option (Int × Mem) := f_X3_passDay_2 N o0 N 0 M
theorem F_X3_passDay : CalF yX3_passDay cX3_passDay 3 (some .int) 0 := ⟨w_313, w_4, by decide +kernel⟩
set_option maxRecDepth 100000 in
set_option maxHeartbeats 4000000 in
theorem t_X3_passDay_29 {g : GP} {p : Program} {l : Launch} {e : Env} {s : State} {m : MethodId} {args : Array Value} {below : List Frame} {meth : Method} {c : Code} {Q : State → Prop} {N : Nat} {o0 : Nat} (h0 : kd o0 = 3) (C : Cx g p s m args c cX3_passDay 3 "LentGallery$Roof") {r : Int × Mem} (hQ : RetI g p l e (rmK 1 22) s m args below meth c cX3_passDay r Q) : ∀ (n : Nat) (v1 v2 : Int) (M : Mem) (H : Heap) (locs : List Loc) (ls : Array Slot), f_X3_passDay_29 N o0 n v1 v2 M = some r → Inv g s M H locs → lv_has ls 3 [(0, rI g o0), (1, iI v1), (2, iI v2)] → W p l e (rmK 1 22) s m args below meth c H locs 0 0 Q (F0 m 29 ls []) := by
  intro n
  induction n with
  | zero =>
    intro v1 v2 M H locs ls hf hI hl
    cases hf
  | succ n ih =>
    intro v1 v2 M H locs ls hf hI hl
    rw [f_X3_passDay_29] at hf
    refine r_iload_n C hl 2 dX3_passDay_29 rfl rfl ?_
    refine r_bipush C dX3_passDay_30 rfl ?_
    refine r_gd hf (fun q32_0 hf => ?_)
    refine r_ic_ge C q32_0 (by decide) (tgt := 90) dX3_passDay_32 (by decide) hf (fun hf => ?_) (fun hf => ?_)
    · refine r_iload_n C hl 1 dX3_passDay_90 rfl rfl ?_
      exact r_iret hQ hf hI dX3_passDay_91
    · refine r_aload_n C hl 0 dX3_passDay_35 rfl rfl ?_
      refine g_3_0 C hI h0 w_50 dX3_passDay_36 ?_
      refine r_iload_n C hl 2 dX3_passDay_39 rfl rfl ?_
      refine r_gd hf (fun q40_1 hf => ?_)
      refine r_iald C hI 6 (n := 6) (k_3_0 h0) (by decide) rfl q40_1 dX3_passDay_40 ?_
      refine r_gd hf (fun q41_2 hf => ?_)
      refine r_if_le C q41_2 (tgt := 84) dX3_passDay_41 (by decide) hf (fun hf => ?_) (fun hf => ?_)
      · refine r_iinc C hl (lv' := [(2, iI (v2 + 1)), (0, rI g o0), (1, iI v1)]) 2 dX3_passDay_84 rfl (Nat.le_of_ble_eq_true rfl) rfl (fun ls hl => ?_)
        refine r_goto C (tgt := 29) dX3_passDay_87 (by decide) ?_
        exact ih _ _ _ _ _ _ hf hI (lv_sub hl [1, 2, 0] rfl)
      · refine r_aload_n C hl 0 dX3_passDay_44 rfl rfl ?_
        refine g_3_0 C hI h0 w_50 dX3_passDay_45 ?_
        refine r_iload_n C hl 2 dX3_passDay_48 rfl rfl ?_
        refine r_iconst C dX3_passDay_49 ?_
        refine r_aload_n C hl 0 dX3_passDay_50 rfl rfl ?_
        refine g_3_0 C hI h0 w_50 dX3_passDay_51 ?_
        refine r_iload_n C hl 2 dX3_passDay_54 rfl rfl ?_
        refine r_iald C hI 6 (n := 6) (k_3_0 h0) (by decide) rfl q40_1 dX3_passDay_55 ?_
        refine r_aload_n C hl 0 dX3_passDay_56 rfl rfl ?_
        refine g_3_2 C hI h0 w_58 dX3_passDay_57 ?_
        refine r_iload_n C hl 2 dX3_passDay_60 rfl rfl ?_
        refine r_iald C hI 6 (n := 6) (k_3_2 h0) (by decide) rfl q40_1 dX3_passDay_61 ?_
        refine r_isub C dX3_passDay_62 ?_
        refine r_calli (rest := [iI v2, rI g (ch o0 0)]) hI hf (fun r M' h => run_S C hI F_J9_max_7cf53 w_292 w_315 ⟨⟨Nat.le_of_ble_eq_true rfl, Nat.le_of_ble_eq_true rfl⟩, Nat.le_of_ble_eq_true rfl, Nat.le_of_ble_eq_true rfl⟩ hl dX3_passDay_63 [iI 0, iI ((M (ch o0 0) v2.toNat) - (M (ch o0 2) v2.toNat))] rfl rfl (Nat.le_of_ble_eq_true rfl) (c_J9_max_7cf53 C.2.2.2.2.2.2 h)) (fun r63 M63 H locs hI hf => ?_)
        refine r_iast C hI 6 (n := 6) (k_3_0 h0) (by decide) rfl q40_1 dX3_passDay_66 (fun H locs hI => ?_)
        refine r_iload_n C hl 1 dX3_passDay_67 rfl rfl ?_
        refine r_aload_n C hl 0 dX3_passDay_68 rfl rfl ?_
        refine g_3_0 C hI h0 w_50 dX3_passDay_69 ?_
        refine r_iload_n C hl 2 dX3_passDay_72 rfl rfl ?_
        refine r_iald C hI 6 (n := 6) (k_3_0 h0) (by decide) rfl q40_1 dX3_passDay_73 ?_
        refine r_gd hf (fun q74_3 hf => ?_)
        refine r_if_ne C q74_3 (tgt := 81) dX3_passDay_74 (by decide) hf (fun hf => ?_) (fun hf => ?_)
        · refine r_iconst C dX3_passDay_81 ?_
          refine r_iadd C dX3_passDay_82 ?_
          refine r_istore_n C hl (lv' := [(1, iI (v1 + 0)), (0, rI g o0), (2, iI v2)]) dX3_passDay_83 rfl (Nat.le_of_ble_eq_true rfl) rfl (fun ls hl => ?_)
          refine r_iinc C hl (lv' := [(2, iI (v2 + 1)), (1, iI (v1 + 0)), (0, rI g o0)]) 2 dX3_passDay_84 rfl (Nat.le_of_ble_eq_true rfl) rfl (fun ls hl => ?_)
          refine r_goto C (tgt := 29) dX3_passDay_87 (by decide) ?_
          exact ih _ _ _ _ _ _ hf hI (lv_sub hl [2, 1, 0] rfl)
        · refine r_iconst C dX3_passDay_77 ?_
          refine r_goto C (tgt := 82) dX3_passDay_78 (by decide) ?_
          refine r_iadd C dX3_passDay_82 ?_
          refine r_istore_n C hl (lv' := [(1, iI (v1 + 1)), (0, rI g o0), (2, iI v2)]) dX3_passDay_83 rfl (Nat.le_of_ble_eq_true rfl) rfl (fun ls hl => ?_)
          refine r_iinc C hl (lv' := [(2, iI (v2 + 1)), (1, iI (v1 + 1)), (0, rI g o0)]) 2 dX3_passDay_84 rfl (Nat.le_of_ble_eq_true rfl) rfl (fun ls hl => ?_)
          refine r_goto C (tgt := 29) dX3_passDay_87 (by decide) ?_
          exact ih _ _ _ _ _ _ hf hI (lv_sub hl [2, 1, 0] rfl)
set_option maxRecDepth 100000 in
set_option maxHeartbeats 4000000 in
theorem t_X3_passDay_2 {g : GP} {p : Program} {l : Launch} {e : Env} {s : State} {m : MethodId} {args : Array Value} {below : List Frame} {meth : Method} {c : Code} {Q : State → Prop} {N : Nat} {o0 : Nat} (h0 : kd o0 = 3) (C : Cx g p s m args c cX3_passDay 3 "LentGallery$Roof") {r : Int × Mem} (hQ : RetI g p l e (rmK 1 22) s m args below meth c cX3_passDay r Q) : ∀ (n : Nat) (v1 : Int) (M : Mem) (H : Heap) (locs : List Loc) (ls : Array Slot), f_X3_passDay_2 N o0 n v1 M = some r → Inv g s M H locs → lv_has ls 3 [(0, rI g o0), (1, iI v1)] → W p l e (rmK 1 22) s m args below meth c H locs 0 0 Q (F0 m 2 ls []) := by
  intro n
  induction n with
  | zero =>
    intro v1 M H locs ls hf hI hl
    cases hf
  | succ n ih =>
    intro v1 M H locs ls hf hI hl
    rw [f_X3_passDay_2] at hf
    refine r_iload_n C hl 1 dX3_passDay_2 rfl rfl ?_
    refine r_bipush C dX3_passDay_3 rfl ?_
    refine r_gd hf (fun q5_0 hf => ?_)
    refine r_ic_ge C q5_0 (by decide) (tgt := 25) dX3_passDay_5 (by decide) hf (fun hf => ?_) (fun hf => ?_)
    · refine r_iconst C dX3_passDay_25 ?_
      refine r_istore_n C hl (lv' := [(1, iI 0), (0, rI g o0)]) dX3_passDay_26 rfl (Nat.le_of_ble_eq_true rfl) rfl (fun ls hl => ?_)
      refine r_iconst C dX3_passDay_27 ?_
      refine r_istore_n C hl (lv' := [(2, iI 0), (1, iI 0), (0, rI g o0)]) dX3_passDay_28 rfl (Nat.le_of_ble_eq_true rfl) rfl (fun ls hl => ?_)
      exact t_X3_passDay_29 h0 C hQ _ _ _ _ _ _ _ hf hI (lv_sub hl [2, 1, 0] rfl)
    · refine r_aload_n C hl 0 dX3_passDay_8 rfl rfl ?_
      refine g_3_2 C hI h0 w_58 dX3_passDay_9 ?_
      refine r_iload_n C hl 1 dX3_passDay_12 rfl rfl ?_
      refine r_aload_n C hl 0 dX3_passDay_13 rfl rfl ?_
      refine r_iload_n C hl 1 dX3_passDay_14 rfl rfl ?_
      refine r_calli (rest := [iI v1, rI g (ch o0 2)]) hI hf (fun r M' h => run_V C hI F_X3_lossAt w_277 w_278 w_314 ⟨⟨Nat.le_of_ble_eq_true rfl, Nat.le_of_ble_eq_true rfl⟩, Nat.le_of_ble_eq_true rfl, Nat.le_of_ble_eq_true rfl⟩ (zX3 h0) (oX3 h0) rfl hl dX3_passDay_15 [iI v1] rfl rfl (Nat.le_of_ble_eq_true rfl) (c_X3_lossAt C.2.2.2.2.2.2 h0 h)) (fun r15 M15 H locs hI hf => ?_)
      refine r_gd hf (fun q18_1 hf => ?_)
      refine r_iast C hI 6 (n := 6) (k_3_2 h0) (by decide) rfl q18_1 dX3_passDay_18 (fun H locs hI => ?_)
      refine r_iinc C hl (lv' := [(1, iI (v1 + 1)), (0, rI g o0)]) 1 dX3_passDay_19 rfl (Nat.le_of_ble_eq_true rfl) rfl (fun ls hl => ?_)
      refine r_goto C (tgt := 2) dX3_passDay_22 (by decide) ?_
      exact ih _ _ _ _ _ hf hI (lv_sub hl [1, 0] rfl)
set_option maxRecDepth 100000 in
set_option maxHeartbeats 4000000 in
theorem c_X3_passDay {l : Launch} {g : GP} (hj : Inj g) {N : Nat} {M : Mem} {o0 : Nat} (h0 : kd o0 = 3) {r : Int × Mem} (hf : f_X3_passDay N o0 M = some r) : Met l yX3_passDay (Cond.code yX3_passDay cX3_passDay 3 (some .int) :: TB) (rmK 1 22) (PreW g M [rI g o0]) (PostI g r.1 r.2) 0 0 (Ad g) := by
  unfold f_X3_passDay at hf
  refine met_of (nL := 3) (cc := cX3_passDay) (M := M) (by decide +kernel) hj (Nat.le_of_ble_eq_true rfl) ?_
  intro p e s m below meth c ls C hr hlk hI hl
  have C : Cx g p s m _ c cX3_passDay 3 "LentGallery$Roof" := C
  have hl : lv_has ls 3 [(0, rI g o0)] := hl
  have hQ := ret_i (l := l) (e := e) (R := (rmK 1 22)) (below := below) (r := r) C hr hlk (nar_i _)
  generalize s.heap = H, ([] : List Loc) = locs at hI ⊢
  refine r_iconst C dX3_passDay_0 ?_
  refine r_istore_n C hl (lv' := [(1, iI 0), (0, rI g o0)]) dX3_passDay_1 rfl (Nat.le_of_ble_eq_true rfl) rfl (fun ls hl => ?_)
  exact t_X3_passDay_2 h0 C hQ _ _ _ _ _ _ hf hI (lv_sub hl [1, 0] rfl)
/-! J9_min_7cf53 -/
def f_J9_min_7cf53 (N : Nat) (v0 : Int) (v1 : Int) (M : Mem) : Option (Int × Mem) := gd (inR v0) (gd (inR v1) (if v1 < v0 then (some (v1, M)) else (some (v0, M))))
theorem F_J9_min_7cf53 : CalF yJ9_min_7cf53 cJ9_min_7cf53 2 (some .int) 2 := ⟨w_282, w_10, by decide +kernel⟩
set_option maxRecDepth 100000 in
set_option maxHeartbeats 4000000 in
theorem c_J9_min_7cf53 {l : Launch} {g : GP} (hj : Inj g) {N : Nat} {M : Mem} {v0 : Int} {v1 : Int} {r : Int × Mem} (hf : f_J9_min_7cf53 N v0 v1 M = some r) : Met l yJ9_min_7cf53 (Cond.code yJ9_min_7cf53 cJ9_min_7cf53 2 (some .int) :: TB) (rmK 0 0) (PreW g M [iI v0, iI v1]) (PostI g r.1 r.2) 0 0 (Ad g) := by
  unfold f_J9_min_7cf53 at hf
  refine met_of (nL := 2) (cc := cJ9_min_7cf53) (M := M) (by decide +kernel) hj (Nat.le_of_ble_eq_true rfl) ?_
  intro p e s m below meth c ls C hr hlk hI hl
  have C : Cx g p s m _ c cJ9_min_7cf53 2 "java/lang/Math" := C
  have hl : lv_has ls 2 [(0, iI v0), (1, iI v1)] := hl
  have hQ := ret_i (l := l) (e := e) (R := (rmK 0 0)) (below := below) (r := r) C hr hlk (nar_i _)
  generalize s.heap = H, ([] : List Loc) = locs at hI ⊢
  refine r_iload_n C hl 0 dJ9_min_7cf53_0 rfl rfl ?_
  refine r_iload_n C hl 1 dJ9_min_7cf53_1 rfl rfl ?_
  refine r_gd hf (fun q2_0 hf => ?_)
  refine r_gd hf (fun q2_1 hf => ?_)
  refine r_ic_gt C q2_0 q2_1 (tgt := 9) dJ9_min_7cf53_2 (by decide) hf (fun hf => ?_) (fun hf => ?_)
  · refine r_iload_n C hl 1 dJ9_min_7cf53_9 rfl rfl ?_
    exact r_iret hQ hf hI dJ9_min_7cf53_10
  · refine r_iload_n C hl 0 dJ9_min_7cf53_5 rfl rfl ?_
    refine r_goto C (tgt := 10) dJ9_min_7cf53_6 (by decide) ?_
    exact r_iret hQ hf hI dJ9_min_7cf53_10
/-! X3_firstFall -/
def f_X3_firstFall_5 (N : Nat) (o0 : Nat) : Nat → Int → Int → Mem → Option (Int × Mem)
  | 0, _, _, _ => none
  | n + 1, v1, v2, M => gd (inR v2) (if 6 ≤ v2 then (some (v1, M)) else (bnd (f_X3_lossAt N o0 v2 M) (fun r13 M13 => gd (inR r13) (if r13 ≤ 0 then (f_X3_firstFall_5 N o0 n v1 (v2 + 1) M13) else (gd (0 ≤ v2 ∧ v2 < 6) (gd (inR r13 ∧ r13 ≠ 0) (bnd (f_J9_min_7cf53 N v1 (i_div (((M13 (ch o0 0) v2.toNat) + r13) - 1) r13) M13) (fun r34 M34 => f_X3_firstFall_5 N o0 n r34 (v2 + 1) M34))))))))
def f_X3_firstFall (N : Nat) (o0 : Nat) (M : Mem) : Option (Int × Mem) := f_X3_firstFall_5 N o0 N 41 0 M
theorem F_X3_firstFall : CalF yX3_firstFall cX3_firstFall 4 (some .int) 0 := ⟨w_424, w_4, by decide +kernel⟩
set_option maxRecDepth 100000 in
set_option maxHeartbeats 4000000 in
theorem t_X3_firstFall_5 {g : GP} {p : Program} {l : Launch} {e : Env} {s : State} {m : MethodId} {args : Array Value} {below : List Frame} {meth : Method} {c : Code} {Q : State → Prop} {N : Nat} {o0 : Nat} (h0 : kd o0 = 3) (C : Cx g p s m args c cX3_firstFall 4 "LentGallery$Roof") {r : Int × Mem} (hQ : RetI g p l e (rmK 1 22) s m args below meth c cX3_firstFall r Q) : ∀ (n : Nat) (v1 v2 : Int) (M : Mem) (H : Heap) (locs : List Loc) (ls : Array Slot), f_X3_firstFall_5 N o0 n v1 v2 M = some r → Inv g s M H locs → lv_has ls 4 [(0, rI g o0), (1, iI v1), (2, iI v2)] → W p l e (rmK 1 22) s m args below meth c H locs 0 0 Q (F0 m 5 ls []) := by
  intro n
  induction n with
  | zero =>
    intro v1 v2 M H locs ls hf hI hl
    cases hf
  | succ n ih =>
    intro v1 v2 M H locs ls hf hI hl
    rw [f_X3_firstFall_5] at hf
    refine r_iload_n C hl 2 dX3_firstFall_5 rfl rfl ?_
    refine r_bipush C dX3_firstFall_6 rfl ?_
    refine r_gd hf (fun q8_0 hf => ?_)
    refine r_ic_ge C q8_0 (by decide) (tgt := 44) dX3_firstFall_8 (by decide) hf (fun hf => ?_) (fun hf => ?_)
    · refine r_iload_n C hl 1 dX3_firstFall_44 rfl rfl ?_
      exact r_iret hQ hf hI dX3_firstFall_45
    · refine r_aload_n C hl 0 dX3_firstFall_11 rfl rfl ?_
      refine r_iload_n C hl 2 dX3_firstFall_12 rfl rfl ?_
      refine r_calli (rest := []) hI hf (fun r M' h => run_V C hI F_X3_lossAt w_277 w_278 w_314 ⟨⟨Nat.le_of_ble_eq_true rfl, Nat.le_of_ble_eq_true rfl⟩, Nat.le_of_ble_eq_true rfl, Nat.le_of_ble_eq_true rfl⟩ (zX3 h0) (oX3 h0) rfl hl dX3_firstFall_13 [iI v2] rfl rfl (Nat.le_of_ble_eq_true rfl) (c_X3_lossAt C.2.2.2.2.2.2 h0 h)) (fun r13 M13 H locs hI hf => ?_)
      refine r_istore_n C hl (lv' := [(3, iI r13), (0, rI g o0), (1, iI v1), (2, iI v2)]) dX3_firstFall_16 rfl (Nat.le_of_ble_eq_true rfl) rfl (fun ls hl => ?_)
      refine r_iload_n C hl 0 dX3_firstFall_17 rfl rfl ?_
      refine r_gd hf (fun q18_1 hf => ?_)
      refine r_if_le C q18_1 (tgt := 38) dX3_firstFall_18 (by decide) hf (fun hf => ?_) (fun hf => ?_)
      · refine r_iinc C hl (lv' := [(2, iI (v2 + 1)), (3, iI r13), (0, rI g o0), (1, iI v1)]) 3 dX3_firstFall_38 rfl (Nat.le_of_ble_eq_true rfl) rfl (fun ls hl => ?_)
        refine r_goto C (tgt := 5) dX3_firstFall_41 (by decide) ?_
        exact ih _ _ _ _ _ _ hf hI (lv_sub hl [2, 3, 0] rfl)
      · refine r_iload_n C hl 2 dX3_firstFall_21 rfl rfl ?_
        refine r_aload_n C hl 1 dX3_firstFall_22 rfl rfl ?_
        refine g_3_0 C hI h0 w_50 dX3_firstFall_23 ?_
        refine r_iload_n C hl 3 dX3_firstFall_26 rfl rfl ?_
        refine r_gd hf (fun q27_2 hf => ?_)
        refine r_iald C hI 6 (n := 6) (k_3_0 h0) (by decide) rfl q27_2 dX3_firstFall_27 ?_
        refine r_iload_n C hl 0 dX3_firstFall_28 rfl rfl ?_
        refine r_iadd C dX3_firstFall_29 ?_
        refine r_iconst C dX3_firstFall_30 ?_
        refine r_isub C dX3_firstFall_31 ?_
        refine r_iload_n C hl 0 dX3_firstFall_32 rfl rfl ?_
        refine r_gd hf (fun q33_3 hf => ?_)
        refine r_idiv C q33_3 dX3_firstFall_33 ?_
        refine r_calli (rest := []) hI hf (fun r M' h => run_S C hI F_J9_min_7cf53 w_281 w_425 ⟨⟨Nat.le_of_ble_eq_true rfl, Nat.le_of_ble_eq_true rfl⟩, Nat.le_of_ble_eq_true rfl, Nat.le_of_ble_eq_true rfl⟩ hl dX3_firstFall_34 [iI v1, iI (i_div (((M13 (ch o0 0) v2.toNat) + r13) - 1) r13)] rfl rfl (Nat.le_of_ble_eq_true rfl) (c_J9_min_7cf53 C.2.2.2.2.2.2 h)) (fun r34 M34 H locs hI hf => ?_)
        refine r_istore_n C hl (lv' := [(1, iI r34), (3, iI r13), (0, rI g o0), (2, iI v2)]) dX3_firstFall_37 rfl (Nat.le_of_ble_eq_true rfl) rfl (fun ls hl => ?_)
        refine r_iinc C hl (lv' := [(2, iI (v2 + 1)), (1, iI r34), (3, iI r13), (0, rI g o0)]) 3 dX3_firstFall_38 rfl (Nat.le_of_ble_eq_true rfl) rfl (fun ls hl => ?_)
        refine r_goto C (tgt := 5) dX3_firstFall_41 (by decide) ?_
        exact ih _ _ _ _ _ _ hf hI (lv_sub hl [3, 1, 0] rfl)
set_option maxRecDepth 100000 in
set_option maxHeartbeats 4000000 in
theorem c_X3_firstFall {l : Launch} {g : GP} (hj : Inj g) {N : Nat} {M : Mem} {o0 : Nat} (h0 : kd o0 = 3) {r : Int × Mem} (hf : f_X3_firstFall N o0 M = some r) : Met l yX3_firstFall (Cond.code yX3_firstFall cX3_firstFall 4 (some .int) :: TB) (rmK 1 22) (PreW g M [rI g o0]) (PostI g r.1 r.2) 0 0 (Ad g) := by
  unfold f_X3_firstFall at hf
  refine met_of (nL := 4) (cc := cX3_firstFall) (M := M) (by decide +kernel) hj (Nat.le_of_ble_eq_true rfl) ?_
  intro p e s m below meth c ls C hr hlk hI hl
  have C : Cx g p s m _ c cX3_firstFall 4 "LentGallery$Roof" := C
  have hl : lv_has ls 4 [(0, rI g o0)] := hl
  have hQ := ret_i (l := l) (e := e) (R := (rmK 1 22)) (below := below) (r := r) C hr hlk (nar_i _)
  generalize s.heap = H, ([] : List Loc) = locs at hI ⊢
  refine r_bipush C dX3_firstFall_0 rfl ?_
  refine r_istore_n C hl (lv' := [(1, iI 41), (0, rI g o0)]) dX3_firstFall_2 rfl (Nat.le_of_ble_eq_true rfl) rfl (fun ls hl => ?_)
  refine r_iconst C dX3_firstFall_3 ?_
  refine r_istore_n C hl (lv' := [(2, iI 0), (1, iI 41), (0, rI g o0)]) dX3_firstFall_4 rfl (Nat.le_of_ble_eq_true rfl) rfl (fun ls hl => ?_)
  exact t_X3_firstFall_5 h0 C hQ _ _ _ _ _ _ _ hf hI (lv_sub hl [2, 1, 0] rfl)
/-! X3_propsNeededAt -/
def f_X3_propsNeededAt (N : Nat) (o0 : Nat) (v1 : Int) (v2 : Int) (M : Mem) : Option (Int × Mem) := bnd (f_X3_stands N o0 v1 M) (fun r2 M2 => gd (inR r2) (if r2 = 0 then (some (0, M2)) else (bnd (f_X3_lossAt N o0 v1 M2) (fun r12 M12 => gd (0 ≤ v1 ∧ v1 < 6) (gd (inR (((r12 * v2) + 1) - (M12 (ch o0 0) v1.toNat))) (if 0 < (((r12 * v2) + 1) - (M12 (ch o0 0) v1.toNat)) then (gd (inR ((M12 (ch o0 0) v1.toNat) + ((i_div (((((r12 * v2) + 1) - (M12 (ch o0 0) v1.toNat)) + 3) - 1) 3) * 3))) (if ((M12 (ch o0 0) v1.toNat) + ((i_div (((((r12 * v2) + 1) - (M12 (ch o0 0) v1.toNat)) + 3) - 1) 3) * 3)) ≤ 20 then (some (i_div (((((r12 * v2) + 1) - (M12 (ch o0 0) v1.toNat)) + 3) - 1) 3, M12)) else (some (-1, M12)))) else (some (0, M12))))))))
theorem F_X3_propsNeededAt : CalF yX3_propsNeededAt cX3_propsNeededAt 5 (some .int) 2 := ⟨w_463, w_4, by decide +kernel⟩
set_option maxRecDepth 100000 in
set_option maxHeartbeats 4000000 in
theorem c_X3_propsNeededAt {l : Launch} {g : GP} (hj : Inj g) {N : Nat} {M : Mem} {o0 : Nat} {v1 : Int} {v2 : Int} (h0 : kd o0 = 3) {r : Int × Mem} (hf : f_X3_propsNeededAt N o0 v1 v2 M = some r) : Met l yX3_propsNeededAt (Cond.code yX3_propsNeededAt cX3_propsNeededAt 5 (some .int) :: TB) (rmK 1 22) (PreW g M [rI g o0, iI v1, iI v2]) (PostI g r.1 r.2) 0 0 (Ad g) := by
  unfold f_X3_propsNeededAt at hf
  refine met_of (nL := 5) (cc := cX3_propsNeededAt) (M := M) (by decide +kernel) hj (Nat.le_of_ble_eq_true rfl) ?_
  intro p e s m below meth c ls C hr hlk hI hl
  have C : Cx g p s m _ c cX3_propsNeededAt 5 "LentGallery$Roof" := C
  have hl : lv_has ls 5 [(0, rI g o0), (1, iI v1), (2, iI v2)] := hl
  have hQ := ret_i (l := l) (e := e) (R := (rmK 1 22)) (below := below) (r := r) C hr hlk (nar_i _)
  generalize s.heap = H, ([] : List Loc) = locs at hI ⊢
  refine r_aload_n C hl 0 dX3_propsNeededAt_0 rfl rfl ?_
  refine r_iload_n C hl 1 dX3_propsNeededAt_1 rfl rfl ?_
  refine r_calli (rest := []) hI hf (fun r M' h => run_V C hI F_X3_stands w_307 w_308 w_464 ⟨⟨Nat.le_of_ble_eq_true rfl, Nat.le_of_ble_eq_true rfl⟩, Nat.le_of_ble_eq_true rfl, Nat.le_of_ble_eq_true rfl⟩ (zX3 h0) (oX3 h0) rfl hl dX3_propsNeededAt_2 [iI v1] rfl rfl (Nat.le_of_ble_eq_true rfl) (c_X3_stands C.2.2.2.2.2.2 h0 h)) (fun r2 M2 H locs hI hf => ?_)
  refine r_gd hf (fun q5_0 hf => ?_)
  refine r_if_ne C q5_0 (tgt := 10) dX3_propsNeededAt_5 (by decide) hf (fun hf => ?_) (fun hf => ?_)
  · refine r_aload_n C hl 0 dX3_propsNeededAt_10 rfl rfl ?_
    refine r_iload_n C hl 1 dX3_propsNeededAt_11 rfl rfl ?_
    refine r_calli (rest := []) hI hf (fun r M' h => run_V C hI F_X3_lossAt w_277 w_278 w_314 ⟨⟨Nat.le_of_ble_eq_true rfl, Nat.le_of_ble_eq_true rfl⟩, Nat.le_of_ble_eq_true rfl, Nat.le_of_ble_eq_true rfl⟩ (zX3 h0) (oX3 h0) rfl hl dX3_propsNeededAt_12 [iI v1] rfl rfl (Nat.le_of_ble_eq_true rfl) (c_X3_lossAt C.2.2.2.2.2.2 h0 h)) (fun r12 M12 H locs hI hf => ?_)
    refine r_iload_n C hl 2 dX3_propsNeededAt_15 rfl rfl ?_
    refine r_imul C dX3_propsNeededAt_16 ?_
    refine r_iconst C dX3_propsNeededAt_17 ?_
    refine r_iadd C dX3_propsNeededAt_18 ?_
    refine r_aload_n C hl 0 dX3_propsNeededAt_19 rfl rfl ?_
    refine g_3_0 C hI h0 w_50 dX3_propsNeededAt_20 ?_
    refine r_iload_n C hl 1 dX3_propsNeededAt_23 rfl rfl ?_
    refine r_gd hf (fun q24_1 hf => ?_)
    refine r_iald C hI 6 (n := 6) (k_3_0 h0) (by decide) rfl q24_1 dX3_propsNeededAt_24 ?_
    refine r_isub C dX3_propsNeededAt_25 ?_
    refine r_istore_n C hl (lv' := [(3, iI (((r12 * v2) + 1) - (M12 (ch o0 0) v1.toNat))), (0, rI g o0), (1, iI v1), (2, iI v2)]) dX3_propsNeededAt_26 rfl (Nat.le_of_ble_eq_true rfl) rfl (fun ls hl => ?_)
    refine r_iload_n C hl 0 dX3_propsNeededAt_27 rfl rfl ?_
    refine r_gd hf (fun q28_2 hf => ?_)
    refine r_if_gt C q28_2 (tgt := 33) dX3_propsNeededAt_28 (by decide) hf (fun hf => ?_) (fun hf => ?_)
    · refine r_iload_n C hl 0 dX3_propsNeededAt_33 rfl rfl ?_
      refine r_iconst C dX3_propsNeededAt_34 ?_
      refine r_iadd C dX3_propsNeededAt_35 ?_
      refine r_iconst C dX3_propsNeededAt_36 ?_
      refine r_isub C dX3_propsNeededAt_37 ?_
      refine r_iconst C dX3_propsNeededAt_38 ?_
      refine r_idiv C (by decide) dX3_propsNeededAt_39 ?_
      refine r_istore C hl (lv' := [(4, iI (i_div (((((r12 * v2) + 1) - (M12 (ch o0 0) v1.toNat)) + 3) - 1) 3)), (3, iI (((r12 * v2) + 1) - (M12 (ch o0 0) v1.toNat))), (0, rI g o0), (1, iI v1), (2, iI v2)]) dX3_propsNeededAt_40 (Nat.le_of_ble_eq_true rfl) rfl (fun ls hl => ?_)
      refine r_aload_n C hl 2 dX3_propsNeededAt_42 rfl rfl ?_
      refine g_3_0 C hI h0 w_50 dX3_propsNeededAt_43 ?_
      refine r_iload_n C hl 3 dX3_propsNeededAt_46 rfl rfl ?_
      refine r_iald C hI 6 (n := 6) (k_3_0 h0) (by decide) rfl q24_1 dX3_propsNeededAt_47 ?_
      refine r_iload C hl 0 dX3_propsNeededAt_48 rfl ?_
      refine r_iconst C dX3_propsNeededAt_50 ?_
      refine r_imul C dX3_propsNeededAt_51 ?_
      refine r_iadd C dX3_propsNeededAt_52 ?_
      refine r_bipush C dX3_propsNeededAt_53 rfl ?_
      refine r_gd hf (fun q55_3 hf => ?_)
      refine r_ic_le C q55_3 (by decide) (tgt := 62) dX3_propsNeededAt_55 (by decide) hf (fun hf => ?_) (fun hf => ?_)
      · refine r_iload C hl 0 dX3_propsNeededAt_62 rfl ?_
        exact r_iret hQ hf hI dX3_propsNeededAt_64
      · refine r_iconst C dX3_propsNeededAt_58 ?_
        refine r_goto C (tgt := 64) dX3_propsNeededAt_59 (by decide) ?_
        exact r_iret hQ hf hI dX3_propsNeededAt_64
    · refine r_iconst C dX3_propsNeededAt_31 ?_
      exact r_iret hQ hf hI dX3_propsNeededAt_32
  · refine r_iconst C dX3_propsNeededAt_8 ?_
    exact r_iret hQ hf hI dX3_propsNeededAt_9
/-! X3_propsNeeded -/
def f_X3_propsNeeded_4 (N : Nat) (o0 : Nat) (v1 : Int) : Nat → Int → Int → Mem → Option (Int × Mem)
  | 0, _, _, _ => none
  | n + 1, v2, v3, M => gd (inR v3) (if 6 ≤ v3 then (some (v2, M)) else (bnd (f_X3_propsNeededAt N o0 v3 v1 M) (fun r13 M13 => gd (inR r13) (if r13 = (-1) then (some (-1, M13)) else (f_X3_propsNeeded_4 N o0 v1 n (v2 + r13) (v3 + 1) M13)))))
def f_X3_propsNeeded (N : Nat) (o0 : Nat) (v1 : Int) (M : Mem) : Option (Int × Mem) := f_X3_propsNeeded_4 N o0 v1 N 0 0 M
theorem F_X3_propsNeeded : CalF yX3_propsNeeded cX3_propsNeeded 5 (some .int) 1 := ⟨w_459, w_4, by decide +kernel⟩
set_option maxRecDepth 100000 in
set_option maxHeartbeats 4000000 in
theorem t_X3_propsNeeded_4 {g : GP} {p : Program} {l : Launch} {e : Env} {s : State} {m : MethodId} {args : Array Value} {below : List Frame} {meth : Method} {c : Code} {Q : State → Prop} {N : Nat} {o0 : Nat} {v1 : Int} (h0 : kd o0 = 3) (C : Cx g p s m args c cX3_propsNeeded 5 "LentGallery$Roof") {r : Int × Mem} (hQ : RetI g p l e (rmK 2 46) s m args below meth c cX3_propsNeeded r Q) : ∀ (n : Nat) (v2 v3 : Int) (M : Mem) (H : Heap) (locs : List Loc) (ls : Array Slot), f_X3_propsNeeded_4 N o0 v1 n v2 v3 M = some r → Inv g s M H locs → lv_has ls 5 [(0, rI g o0), (1, iI v1), (2, iI v2), (3, iI v3)] → W p l e (rmK 2 46) s m args below meth c H locs 0 0 Q (F0 m 4 ls []) := by
  intro n
  induction n with
  | zero =>
    intro v2 v3 M H locs ls hf hI hl
    cases hf
  | succ n ih =>
    intro v2 v3 M H locs ls hf hI hl
    rw [f_X3_propsNeeded_4] at hf
    refine r_iload_n C hl 3 dX3_propsNeeded_4 rfl rfl ?_
    refine r_bipush C dX3_propsNeeded_5 rfl ?_
    refine r_gd hf (fun q7_0 hf => ?_)
    refine r_ic_ge C q7_0 (by decide) (tgt := 37) dX3_propsNeeded_7 (by decide) hf (fun hf => ?_) (fun hf => ?_)
    · refine r_iload_n C hl 2 dX3_propsNeeded_37 rfl rfl ?_
      exact r_iret hQ hf hI dX3_propsNeeded_38
    · refine r_aload_n C hl 0 dX3_propsNeeded_10 rfl rfl ?_
      refine r_iload_n C hl 3 dX3_propsNeeded_11 rfl rfl ?_
      refine r_iload_n C hl 1 dX3_propsNeeded_12 rfl rfl ?_
      refine r_calli (rest := []) hI hf (fun r M' h => run_V C hI F_X3_propsNeededAt w_461 w_462 w_460 ⟨⟨Nat.le_of_ble_eq_true rfl, Nat.le_of_ble_eq_true rfl⟩, Nat.le_of_ble_eq_true rfl, Nat.le_of_ble_eq_true rfl⟩ (zX3 h0) (oX3 h0) rfl hl dX3_propsNeeded_13 [iI v3, iI v1] rfl rfl (Nat.le_of_ble_eq_true rfl) (c_X3_propsNeededAt C.2.2.2.2.2.2 h0 h)) (fun r13 M13 H locs hI hf => ?_)
      refine r_istore C hl (lv' := [(4, iI r13), (0, rI g o0), (1, iI v1), (2, iI v2), (3, iI v3)]) dX3_propsNeeded_16 (Nat.le_of_ble_eq_true rfl) rfl (fun ls hl => ?_)
      refine r_iload C hl 0 dX3_propsNeeded_18 rfl ?_
      refine r_iconst C dX3_propsNeeded_20 ?_
      refine r_gd hf (fun q21_1 hf => ?_)
      refine r_ic_ne C q21_1 (by decide) (tgt := 26) dX3_propsNeeded_21 (by decide) hf (fun hf => ?_) (fun hf => ?_)
      · refine r_iload_n C hl 3 dX3_propsNeeded_26 rfl rfl ?_
        refine r_iload C hl 0 dX3_propsNeeded_27 rfl ?_
        refine r_iadd C dX3_propsNeeded_29 ?_
        refine r_istore_n C hl (lv' := [(2, iI (v2 + r13)), (4, iI r13), (0, rI g o0), (1, iI v1), (3, iI v3)]) dX3_propsNeeded_30 rfl (Nat.le_of_ble_eq_true rfl) rfl (fun ls hl => ?_)
        refine r_iinc C hl (lv' := [(3, iI (v3 + 1)), (2, iI (v2 + r13)), (4, iI r13), (0, rI g o0), (1, iI v1)]) 4 dX3_propsNeeded_31 rfl (Nat.le_of_ble_eq_true rfl) rfl (fun ls hl => ?_)
        refine r_goto C (tgt := 4) dX3_propsNeeded_34 (by decide) ?_
        exact ih _ _ _ _ _ _ hf hI (lv_sub hl [3, 4, 1, 0] rfl)
      · refine r_iconst C dX3_propsNeeded_24 ?_
        exact r_iret hQ hf hI dX3_propsNeeded_25
set_option maxRecDepth 100000 in
set_option maxHeartbeats 4000000 in
theorem c_X3_propsNeeded {l : Launch} {g : GP} (hj : Inj g) {N : Nat} {M : Mem} {o0 : Nat} {v1 : Int} (h0 : kd o0 = 3) {r : Int × Mem} (hf : f_X3_propsNeeded N o0 v1 M = some r) : Met l yX3_propsNeeded (Cond.code yX3_propsNeeded cX3_propsNeeded 5 (some .int) :: TB) (rmK 2 46) (PreW g M [rI g o0, iI v1]) (PostI g r.1 r.2) 0 0 (Ad g) := by
  unfold f_X3_propsNeeded at hf
  refine met_of (nL := 5) (cc := cX3_propsNeeded) (M := M) (by decide +kernel) hj (Nat.le_of_ble_eq_true rfl) ?_
  intro p e s m below meth c ls C hr hlk hI hl
  have C : Cx g p s m _ c cX3_propsNeeded 5 "LentGallery$Roof" := C
  have hl : lv_has ls 5 [(0, rI g o0), (1, iI v1)] := hl
  have hQ := ret_i (l := l) (e := e) (R := (rmK 2 46)) (below := below) (r := r) C hr hlk (nar_i _)
  generalize s.heap = H, ([] : List Loc) = locs at hI ⊢
  refine r_iconst C dX3_propsNeeded_0 ?_
  refine r_istore_n C hl (lv' := [(2, iI 0), (0, rI g o0), (1, iI v1)]) dX3_propsNeeded_1 rfl (Nat.le_of_ble_eq_true rfl) rfl (fun ls hl => ?_)
  refine r_iconst C dX3_propsNeeded_2 ?_
  refine r_istore_n C hl (lv' := [(3, iI 0), (2, iI 0), (0, rI g o0), (1, iI v1)]) dX3_propsNeeded_3 rfl (Nat.le_of_ble_eq_true rfl) rfl (fun ls hl => ?_)
  exact t_X3_propsNeeded_4 h0 C hQ _ _ _ _ _ _ _ hf hI (lv_sub hl [2, 3, 1, 0] rfl)
/-! J7_fill_53178 -/
def f_J7_fill_53178_5 (N : Nat) (o0 : Nat) (v1 : Int) : Nat → Int → Int → Mem → Option (Mem)
  | 0, _, _, _ => none
  | n + 1, v2, v3, M => gd (inR v2) (gd (inR v3) (if v3 ≤ v2 then (some M) else (gd (0 ≤ v2 ∧ v2 < al o0) (f_J7_fill_53178_5 N o0 v1 n (v2 + 1) v3 (st M o0 v2.toNat v1)))))
def f_J7_fill_53178 (N : Nat) (o0 : Nat) (v1 : Int) (M : Mem) : Option (Mem) := f_J7_fill_53178_5 N o0 v1 N 0 (al o0) M
theorem F_J7_fill_53178 : CalF yJ7_fill_53178 cJ7_fill_53178 4 none 2 := ⟨w_440, w_13, by decide +kernel⟩
set_option maxRecDepth 100000 in
set_option maxHeartbeats 4000000 in
theorem t_J7_fill_53178_5 {g : GP} {p : Program} {l : Launch} {e : Env} {s : State} {m : MethodId} {args : Array Value} {below : List Frame} {meth : Method} {c : Code} {Q : State → Prop} {N : Nat} {o0 : Nat} {v1 : Int} (h0 : isA o0) (C : Cx g p s m args c cJ7_fill_53178 4 "java/util/Arrays") {r : Mem} (hQ : RetV g p l e (rmK 0 0) s m args below meth c cJ7_fill_53178 r Q) : ∀ (n : Nat) (v2 v3 : Int) (M : Mem) (H : Heap) (locs : List Loc) (ls : Array Slot), f_J7_fill_53178_5 N o0 v1 n v2 v3 M = some r → Inv g s M H locs → lv_has ls 4 [(0, rI g o0), (1, iI v1), (2, iI v2), (3, iI v3)] → W p l e (rmK 0 0) s m args below meth c H locs 0 0 Q (F0 m 5 ls []) := by
  intro n
  induction n with
  | zero =>
    intro v2 v3 M H locs ls hf hI hl
    cases hf
  | succ n ih =>
    intro v2 v3 M H locs ls hf hI hl
    rw [f_J7_fill_53178_5] at hf
    refine r_iload_n C hl 2 dJ7_fill_53178_5 rfl rfl ?_
    refine r_iload_n C hl 3 dJ7_fill_53178_6 rfl rfl ?_
    refine r_gd hf (fun q7_0 hf => ?_)
    refine r_gd hf (fun q7_1 hf => ?_)
    refine r_ic_ge C q7_0 q7_1 (tgt := 20) dJ7_fill_53178_7 (by decide) hf (fun hf => ?_) (fun hf => ?_)
    · exact r_vret hQ hf hI dJ7_fill_53178_20
    · refine r_aload_n C hl 0 dJ7_fill_53178_10 rfl rfl ?_
      refine r_iload_n C hl 2 dJ7_fill_53178_11 rfl rfl ?_
      refine r_iload_n C hl 1 dJ7_fill_53178_12 rfl rfl ?_
      refine r_gd hf (fun q13_2 hf => ?_)
      refine r_iast C hI (al o0) (isA_eq h0) (by omega) rfl q13_2 dJ7_fill_53178_13 (fun H locs hI => ?_)
      refine r_iinc C hl (lv' := [(2, iI (v2 + 1)), (0, rI g o0), (1, iI v1), (3, iI v3)]) 2 dJ7_fill_53178_14 rfl (Nat.le_of_ble_eq_true rfl) rfl (fun ls hl => ?_)
      refine r_goto C (tgt := 5) dJ7_fill_53178_17 (by decide) ?_
      exact ih _ _ _ _ _ _ hf hI (lv_sub hl [1, 2, 0, 3] rfl)
set_option maxRecDepth 100000 in
set_option maxHeartbeats 4000000 in
theorem c_J7_fill_53178 {l : Launch} {g : GP} (hj : Inj g) {N : Nat} {M : Mem} {o0 : Nat} {v1 : Int} (h0 : isA o0) {r : Mem} (hf : f_J7_fill_53178 N o0 v1 M = some r) : Met l yJ7_fill_53178 (Cond.code yJ7_fill_53178 cJ7_fill_53178 4 none :: TB) (rmK 0 0) (PreW g M [rI g o0, iI v1]) (PostV g r) 0 0 (Ad g) := by
  unfold f_J7_fill_53178 at hf
  refine met_of (nL := 4) (cc := cJ7_fill_53178) (M := M) (by decide +kernel) hj (Nat.le_of_ble_eq_true rfl) ?_
  intro p e s m below meth c ls C hr hlk hI hl
  have C : Cx g p s m _ c cJ7_fill_53178 4 "java/util/Arrays" := C
  have hl : lv_has ls 4 [(0, rI g o0), (1, iI v1)] := hl
  have hQ := ret_v (l := l) (e := e) (R := (rmK 0 0)) (below := below) (r := r) C hr hlk
  generalize s.heap = H, ([] : List Loc) = locs at hI ⊢
  refine r_iconst C dJ7_fill_53178_0 ?_
  refine r_istore_n C hl (lv' := [(2, iI 0), (0, rI g o0), (1, iI v1)]) dJ7_fill_53178_1 rfl (Nat.le_of_ble_eq_true rfl) rfl (fun ls hl => ?_)
  refine r_aload_n C hl 1 dJ7_fill_53178_2 rfl rfl ?_
  refine r_alen C hI (al o0) (isA_eq h0) (by omega) rfl dJ7_fill_53178_3 ?_
  refine r_istore_n C hl (lv' := [(3, iI (al o0)), (2, iI 0), (0, rI g o0), (1, iI v1)]) dJ7_fill_53178_4 rfl (Nat.le_of_ble_eq_true rfl) rfl (fun ls hl => ?_)
  exact t_J7_fill_53178_5 h0 C hQ _ _ _ _ _ _ _ hf hI (lv_sub hl [2, 3, 1, 0] rfl)
/-! X4_keep -/
def f_X4_keep (N : Nat) (o0 : Nat) (v1 : Int) (M : Mem) : Option (Mem) := some (cpy (st (st M o0 4 1) o0 3 v1) (ch o0 1) (ch o0 2) 5)
theorem F_X4_keep : CalF yX4_keep cX4_keep 2 none 1 := ⟨w_448, w_6, by decide +kernel⟩
set_option maxRecDepth 100000 in
set_option maxHeartbeats 4000000 in
theorem c_X4_keep {l : Launch} {g : GP} (hj : Inj g) {N : Nat} {M : Mem} {o0 : Nat} {v1 : Int} (h0 : kd o0 = 4) {r : Mem} (hf : f_X4_keep N o0 v1 M = some r) : Met l yX4_keep (Cond.code yX4_keep cX4_keep 2 none :: TB) (rmK 1 40) (PreW g M [rI g o0, iI v1]) (PostV g r) 0 0 (Ad g) := by
  unfold f_X4_keep at hf
  refine met_of (nL := 2) (cc := cX4_keep) (M := M) (by decide +kernel) hj (Nat.le_of_ble_eq_true rfl) ?_
  intro p e s m below meth c ls C hr hlk hI hl
  have C : Cx g p s m _ c cX4_keep 2 "LentGallery$Settling" := C
  have hl : lv_has ls 2 [(0, rI g o0), (1, iI v1)] := hl
  have hQ := ret_v (l := l) (e := e) (R := (rmK 1 40)) (below := below) (r := r) C hr hlk
  generalize s.heap = H, ([] : List Loc) = locs at hI ⊢
  refine r_aload_n C hl 0 dX4_keep_0 rfl rfl ?_
  refine r_iconst C dX4_keep_1 ?_
  refine p_4_4 C hI h0 (by decide) w_139 dX4_keep_2 (fun H locs hI => ?_)
  refine r_aload_n C hl 0 dX4_keep_5 rfl rfl ?_
  refine r_iload_n C hl 1 dX4_keep_6 rfl rfl ?_
  refine p_4_3 C hI h0 w_137 dX4_keep_7 (fun H locs hI => ?_)
  refine r_aload_n C hl 0 dX4_keep_10 rfl rfl ?_
  refine g_4_1 C hI h0 w_134 dX4_keep_11 ?_
  refine r_iconst C dX4_keep_14 ?_
  refine r_aload_n C hl 0 dX4_keep_15 rfl rfl ?_
  refine g_4_2 C hI h0 w_135 dX4_keep_16 ?_
  refine r_iconst C dX4_keep_19 ?_
  refine r_iconst C dX4_keep_20 ?_
  refine r_acopy C hI hl.1 (n1 := 5) (n2 := 5) 5 rfl (k_4_1 h0) (k_4_2 h0) (by decide) (by decide) (by decide) (by decide) w_449 w_301 w_300 w_11 (Nat.le_of_ble_eq_true rfl) (Nat.le_of_ble_eq_true rfl) dX4_keep_21 (fun H locs hI => ?_)
  exact r_vret hQ hf hI dX4_keep_24
/-! X6_isHere -/
def f_X6_isHere (N : Nat) (o0 : Nat) (v1 : Int) (M : Mem) : Option (Int × Mem) := gd (inR v1) (if v1 < 0 then (some (0, M)) else (gd (inR (M o0 3)) (if (M o0 3) ≤ v1 then (some (0, M)) else (if 5 ≤ v1 then (some (0, M)) else (some (1, M))))))
theorem F_X6_isHere : CalF yX6_isHere cX6_isHere 2 (some .boolean) 1 := ⟨w_370, w_3, by decide +kernel⟩
set_option maxRecDepth 100000 in
set_option maxHeartbeats 4000000 in
theorem c_X6_isHere {l : Launch} {g : GP} (hj : Inj g) {N : Nat} {M : Mem} {o0 : Nat} {v1 : Int} (h0 : kd o0 = 6) {r : Int × Mem} (hf : f_X6_isHere N o0 v1 M = some r) : Met l yX6_isHere (Cond.code yX6_isHere cX6_isHere 2 (some .boolean) :: TB) (rmK 0 0) (PreW g M [rI g o0, iI v1]) (PostI g r.1 r.2) 0 0 (Ad g) := by
  unfold f_X6_isHere at hf
  refine met_of (nL := 2) (cc := cX6_isHere) (M := M) (by decide +kernel) hj (Nat.le_of_ble_eq_true rfl) ?_
  intro p e s m below meth c ls C hr hlk hI hl
  have C : Cx g p s m _ c cX6_isHere 2 "LentGallery$Street" := C
  have hl : lv_has ls 2 [(0, rI g o0), (1, iI v1)] := hl
  have hQ := ret_z (l := l) (e := e) (R := (rmK 0 0)) (below := below) (r := r) C hr hlk
  generalize s.heap = H, ([] : List Loc) = locs at hI ⊢
  refine r_iload_n C hl 1 dX6_isHere_0 rfl rfl ?_
  refine r_gd hf (fun q1_0 hf => ?_)
  refine r_if_lt C q1_0 (tgt := 21) dX6_isHere_1 (by decide) hf (fun hf => ?_) (fun hf => ?_)
  · refine r_iconst C dX6_isHere_21 ?_
    exact r_zret hQ (by decide) hf hI dX6_isHere_22
  · refine r_iload_n C hl 1 dX6_isHere_4 rfl rfl ?_
    refine r_aload_n C hl 0 dX6_isHere_5 rfl rfl ?_
    refine g_6_3 C hI h0 w_73 dX6_isHere_6 ?_
    refine r_gd hf (fun q9_1 hf => ?_)
    refine r_ic_ge C q1_0 q9_1 (tgt := 21) dX6_isHere_9 (by decide) hf (fun hf => ?_) (fun hf => ?_)
    · refine r_iconst C dX6_isHere_21 ?_
      exact r_zret hQ (by decide) hf hI dX6_isHere_22
    · refine r_iload_n C hl 1 dX6_isHere_12 rfl rfl ?_
      refine r_iconst C dX6_isHere_13 ?_
      refine r_ic_ge C q1_0 (by decide) (tgt := 21) dX6_isHere_14 (by decide) hf (fun hf => ?_) (fun hf => ?_)
      · refine r_iconst C dX6_isHere_21 ?_
        exact r_zret hQ (by decide) hf hI dX6_isHere_22
      · refine r_iconst C dX6_isHere_17 ?_
        refine r_goto C (tgt := 22) dX6_isHere_18 (by decide) ?_
        exact r_zret hQ (by decide) hf hI dX6_isHere_22
/-! X7_isKind -/
def f_X7_isKind (N : Nat) (v0 : Int) (M : Mem) : Option (Int × Mem) := gd (inR v0) (if v0 < 0 then (some (0, M)) else (if 5 ≤ v0 then (some (0, M)) else (some (1, M))))
theorem F_X7_isKind : CalF yX7_isKind cX7_isKind 1 (some .boolean) 1 := ⟨w_345, w_1, by decide +kernel⟩
set_option maxRecDepth 100000 in
set_option maxHeartbeats 4000000 in
theorem c_X7_isKind {l : Launch} {g : GP} (hj : Inj g) {N : Nat} {M : Mem} {v0 : Int} {r : Int × Mem} (hf : f_X7_isKind N v0 M = some r) : Met l yX7_isKind (Cond.code yX7_isKind cX7_isKind 1 (some .boolean) :: TB) (rmK 0 0) (PreW g M [iI v0]) (PostI g r.1 r.2) 0 0 (Ad g) := by
  unfold f_X7_isKind at hf
  refine met_of (nL := 1) (cc := cX7_isKind) (M := M) (by decide +kernel) hj (Nat.le_of_ble_eq_true rfl) ?_
  intro p e s m below meth c ls C hr hlk hI hl
  have C : Cx g p s m _ c cX7_isKind 1 "LentGallery" := C
  have hl : lv_has ls 1 [(0, iI v0)] := hl
  have hQ := ret_z (l := l) (e := e) (R := (rmK 0 0)) (below := below) (r := r) C hr hlk
  generalize s.heap = H, ([] : List Loc) = locs at hI ⊢
  refine r_iload_n C hl 0 dX7_isKind_0 rfl rfl ?_
  refine r_gd hf (fun q1_0 hf => ?_)
  refine r_if_lt C q1_0 (tgt := 16) dX7_isKind_1 (by decide) hf (fun hf => ?_) (fun hf => ?_)
  · refine r_iconst C dX7_isKind_16 ?_
    exact r_zret hQ (by decide) hf hI dX7_isKind_17
  · refine r_iload_n C hl 0 dX7_isKind_4 rfl rfl ?_
    refine va_gets C.1 C.2.1 C.2.2.2.2.2.1.2.2.1 hI.2 C.2.2.2.1 (C.2.2.2.2.1 _ w_346) (fun _ h => h) dX7_isKind_5 ?_
    refine r_stlen C hI C.2.2.2.2.2.1.2.2.2.2.1 dX7_isKind_8 ?_
    refine r_ic_ge C q1_0 (by decide) (tgt := 16) dX7_isKind_9 (by decide) hf (fun hf => ?_) (fun hf => ?_)
    · refine r_iconst C dX7_isKind_16 ?_
      exact r_zret hQ (by decide) hf hI dX7_isKind_17
    · refine r_iconst C dX7_isKind_12 ?_
      refine r_goto C (tgt := 17) dX7_isKind_13 (by decide) ?_
      exact r_zret hQ (by decide) hf hI dX7_isKind_17
/-! X6_weightOf -/
def f_X6_weightOf (N : Nat) (o0 : Nat) (v1 : Int) (M : Mem) : Option (Int × Mem) := bnd (f_X6_isHere N o0 v1 M) (fun r2 M2 => gd (inR r2) (if r2 = 0 then (some (0, M2)) else (gd (0 ≤ v1 ∧ v1 < 5) (bnd (f_X7_isKind N (M2 (ch o0 1) v1.toNat) M2) (fun r14 M14 => gd (inR r14) (if r14 = 0 then (some (0, M14)) else (gd (0 ≤ (M14 (ch o0 1) v1.toNat) ∧ (M14 (ch o0 1) v1.toNat) < 5) (some (wts (M14 (ch o0 1) v1.toNat), M14)))))))))
theorem F_X6_weightOf : CalF yX6_weightOf cX6_weightOf 2 (some .int) 1 := ⟨w_366, w_3, by decide +kernel⟩
set_option maxRecDepth 100000 in
set_option maxHeartbeats 4000000 in
theorem c_X6_weightOf {l : Launch} {g : GP} (hj : Inj g) {N : Nat} {M : Mem} {o0 : Nat} {v1 : Int} (h0 : kd o0 = 6) {r : Int × Mem} (hf : f_X6_weightOf N o0 v1 M = some r) : Met l yX6_weightOf (Cond.code yX6_weightOf cX6_weightOf 2 (some .int) :: TB) (rmK 1 21) (PreW g M [rI g o0, iI v1]) (PostI g r.1 r.2) 0 0 (Ad g) := by
  unfold f_X6_weightOf at hf
  refine met_of (nL := 2) (cc := cX6_weightOf) (M := M) (by decide +kernel) hj (Nat.le_of_ble_eq_true rfl) ?_
  intro p e s m below meth c ls C hr hlk hI hl
  have C : Cx g p s m _ c cX6_weightOf 2 "LentGallery$Street" := C
  have hl : lv_has ls 2 [(0, rI g o0), (1, iI v1)] := hl
  have hQ := ret_i (l := l) (e := e) (R := (rmK 1 21)) (below := below) (r := r) C hr hlk (nar_i _)
  generalize s.heap = H, ([] : List Loc) = locs at hI ⊢
  refine r_aload_n C hl 0 dX6_weightOf_0 rfl rfl ?_
  refine r_iload_n C hl 1 dX6_weightOf_1 rfl rfl ?_
  refine r_calli (rest := []) hI hf (fun r M' h => run_V C hI F_X6_isHere w_369 v_4 w_367 ⟨⟨Nat.le_of_ble_eq_true rfl, Nat.le_of_ble_eq_true rfl⟩, Nat.le_of_ble_eq_true rfl, Nat.le_of_ble_eq_true rfl⟩ (zX6 h0) (oX6 h0) rfl hl dX6_weightOf_2 [iI v1] rfl rfl (Nat.le_of_ble_eq_true rfl) (c_X6_isHere C.2.2.2.2.2.2 h0 h)) (fun r2 M2 H locs hI hf => ?_)
  refine r_gd hf (fun q5_0 hf => ?_)
  refine r_if_eq C q5_0 (tgt := 33) dX6_weightOf_5 (by decide) hf (fun hf => ?_) (fun hf => ?_)
  · refine r_iconst C dX6_weightOf_33 ?_
    exact r_iret hQ hf hI dX6_weightOf_34
  · refine r_aload_n C hl 0 dX6_weightOf_8 rfl rfl ?_
    refine g_6_1 C hI h0 w_69 dX6_weightOf_9 ?_
    refine r_iload_n C hl 1 dX6_weightOf_12 rfl rfl ?_
    refine r_gd hf (fun q13_1 hf => ?_)
    refine r_iald C hI 5 (n := 5) (k_6_1 h0) (by decide) rfl q13_1 dX6_weightOf_13 ?_
    refine r_calli (rest := []) hI hf (fun r M' h => run_N C hI F_X7_isKind w_344 (List.mem_of_getElem? (i := 9) rfl) ⟨⟨Nat.le_of_ble_eq_true rfl, Nat.le_of_ble_eq_true rfl⟩, Nat.le_of_ble_eq_true rfl, Nat.le_of_ble_eq_true rfl⟩ hl dX6_weightOf_14 [iI (M2 (ch o0 1) v1.toNat)] rfl rfl (Nat.le_of_ble_eq_true rfl) (c_X7_isKind C.2.2.2.2.2.2 h)) (fun r14 M14 H locs hI hf => ?_)
    refine r_gd hf (fun q17_2 hf => ?_)
    refine r_if_eq C q17_2 (tgt := 33) dX6_weightOf_17 (by decide) hf (fun hf => ?_) (fun hf => ?_)
    · refine r_iconst C dX6_weightOf_33 ?_
      exact r_iret hQ hf hI dX6_weightOf_34
    · refine va_getsN C.1 C.2.1 C.2.2.2.2.2.1.2.2.1 hI.2 C.2.2.2.1 (va_Nw.use rfl (C.2.2.2.2.2.1.2.1 _ (List.mem_of_getElem? (i := 10) rfl))) (fun _ h => h) dX6_weightOf_20 ?_
      refine r_aload_n C hl 0 dX6_weightOf_23 rfl rfl ?_
      refine g_6_1 C hI h0 w_69 dX6_weightOf_24 ?_
      refine r_iload_n C hl 1 dX6_weightOf_27 rfl rfl ?_
      refine r_iald C hI 5 (n := 5) (k_6_1 h0) (by decide) rfl q13_1 dX6_weightOf_28 ?_
      refine r_gd hf (fun q29_3 hf => ?_)
      refine r_stld C hI wts C.2.2.2.2.2.1.2.2.2.2.1 q29_3 dX6_weightOf_29 ?_
      refine r_goto C (tgt := 34) dX6_weightOf_30 (by decide) ?_
      exact r_iret hQ hf hI dX6_weightOf_34
/-! X4_settle -/
def f_X4_settle_50 (N : Nat) (o0 : Nat) (o1 : Nat) (v2 : Int) (rc : Nat → Nat → Int → Mem → Option (Mem)) : Nat → Int → Int → Mem → Option (Mem)
  | 0, _, _, _ => none
  | n + 1, v4, v5, M => gd (inR v5) (if 6 ≤ v5 then (some M) else (bnd (f_X3_stands N (ch o0 0) v5 M) (fun r63 M63 => gd (inR r63) (if r63 = 0 then (f_X4_settle_50 N o0 o1 v2 rc n v4 (v5 + 1) M63) else (gd (0 ≤ v2 ∧ v2 < 5) (gd (0 ≤ v5 ∧ v5 < 6) (bnv (rc o0 o1 (v2 + 1) (st (st M63 (ch o0 1) v2.toNat v5) (ch (ch o0 0) 1) v5.toNat (((st M63 (ch o0 1) v2.toNat v5) (ch (ch o0 0) 1) v5.toNat) + v4))) (fun M97 => f_X4_settle_50 N o0 o1 v2 rc n v4 (v5 + 1) (st M97 (ch (ch o0 0) 1) v5.toNat ((M97 (ch (ch o0 0) 1) v5.toNat) - v4))))))))))
def f_X4_settle (N : Nat) : Nat → Nat → Nat → Int → Mem → Option (Mem)
  | 0, _, _, _, _ => none
  | d + 1, o0, o1, v2, M => bnd (f_X3_firstFall N (ch o0 0) M) (fun r4 M4 => gd (inR r4) (gd (inR (M4 o0 3)) (if (M4 o0 3) < r4 then (gd (inR v2) (if v2 < 0 then (bnv (f_X4_keep N o0 r4 M4) (fun M36 => some M36)) else (gd (inR (M4 o1 3)) (if (M4 o1 3) ≤ v2 then (bnv (f_X4_keep N o0 r4 M4) (fun M36 => some M36)) else (if v2 < 5 then (bnd (f_X6_weightOf N o1 v2 M4) (fun r42 M42 => f_X4_settle_50 N o0 o1 v2 (f_X4_settle N d) N r42 0 M42)) else (bnv (f_X4_keep N o0 r4 M4) (fun M36 => some M36))))))) else (some M4))))
theorem F_X4_settle : CalF yX4_settle cX4_settle 6 none 3 := ⟨w_443, w_6, by decide +kernel⟩
set_option maxRecDepth 100000 in
set_option maxHeartbeats 4000000 in
theorem t_X4_settle_50 {g : GP} {p : Program} {l : Launch} {e : Env} {R : Room} {s : State} {m : MethodId} {args : Array Value} {below : List Frame} {meth : Method} {c : Code} {Q : State → Prop} {N : Nat} {o0 : Nat} {o1 : Nat} {v2 : Int} (h0 : kd o0 = 4) (h1 : kd o1 = 6) (C : Cx g p s m args c cX4_settle 6 "LentGallery$Settling") {r : Mem} (hQ : RetV g p l e R s m args below meth c cX4_settle r Q) {rc : Nat → Nat → Int → Mem → Option (Mem)} {ra rb : Nat} (hRn : 2 ≤ R.frames ∧ 61 ≤ R.locals ∧ 0 ≤ R.cells ∧ 0 ≤ R.slots) (hRr : (ra + 1 ≤ R.frames ∧ 8 + (6 + 11) + rb ≤ R.locals) ∧ 0 ≤ R.cells ∧ 0 ≤ R.slots) (hrc : ∀ (o0 : Nat) (o1 : Nat) (v2 : Int) (M : Mem) (r : Mem), kd o0 = 4 → kd o1 = 6 → rc o0 o1 v2 M = some r → Met l yX4_settle (Cond.code yX4_settle cX4_settle 6 none :: TB) (rmK ra rb) (PreW g M [rI g o0, rI g o1, iI v2]) (PostV g r) 0 0 (Ad g)) : ∀ (n : Nat) (v4 v5 : Int) (M : Mem) (H : Heap) (locs : List Loc) (ls : Array Slot), f_X4_settle_50 N o0 o1 v2 rc n v4 v5 M = some r → Inv g s M H locs → lv_has ls 6 [(0, rI g o0), (1, rI g o1), (2, iI v2), (4, iI v4), (5, iI v5)] → W p l e R s m args below meth c H locs 0 0 Q (F0 m 50 ls []) := by
  intro n
  induction n with
  | zero =>
    intro v4 v5 M H locs ls hf hI hl
    cases hf
  | succ n ih =>
    intro v4 v5 M H locs ls hf hI hl
    rw [f_X4_settle_50] at hf
    refine r_iload C hl 4 dX4_settle_50 rfl ?_
    refine r_bipush C dX4_settle_52 rfl ?_
    refine r_gd hf (fun q54_0 hf => ?_)
    refine r_ic_ge C q54_0 (by decide) (tgt := 121) dX4_settle_54 (by decide) hf (fun hf => ?_) (fun hf => ?_)
    · exact r_vret hQ hf hI dX4_settle_121
    · refine r_aload_n C hl 0 dX4_settle_57 rfl rfl ?_
      refine g_4_0 C hI h0 w_133 dX4_settle_58 ?_
      refine r_iload C hl 4 dX4_settle_61 rfl ?_
      refine r_calli (rest := []) hI hf (fun r M' h => run_V C hI F_X3_stands w_307 w_308 w_451 ⟨⟨Nat.le_trans (Nat.le_of_ble_eq_true rfl) hRn.1, Nat.le_trans (Nat.le_of_ble_eq_true rfl) hRn.2.1⟩, hRn.2.2⟩ (zX3 (k_4_0 h0)) (oX3 (k_4_0 h0)) rfl hl dX4_settle_63 [iI v5] rfl rfl (Nat.le_of_ble_eq_true rfl) (c_X3_stands C.2.2.2.2.2.2 (k_4_0 h0) h)) (fun r63 M63 H locs hI hf => ?_)
      refine r_gd hf (fun q66_1 hf => ?_)
      refine r_if_eq C q66_1 (tgt := 115) dX4_settle_66 (by decide) hf (fun hf => ?_) (fun hf => ?_)
      · refine r_iinc C hl (lv' := [(5, iI (v5 + 1)), (0, rI g o0), (1, rI g o1), (2, iI v2), (4, iI v4)]) 4 dX4_settle_115 rfl (Nat.le_of_ble_eq_true rfl) rfl (fun ls hl => ?_)
        refine r_goto C (tgt := 50) dX4_settle_118 (by decide) ?_
        exact ih _ _ _ _ _ _ hf hI (lv_sub hl [1, 2, 3, 4, 0] rfl)
      · refine r_aload_n C hl 0 dX4_settle_69 rfl rfl ?_
        refine g_4_1 C hI h0 w_134 dX4_settle_70 ?_
        refine r_iload_n C hl 2 dX4_settle_73 rfl rfl ?_
        refine r_iload C hl 4 dX4_settle_74 rfl ?_
        refine r_gd hf (fun q76_2 hf => ?_)
        refine r_iast C hI 5 (n := 5) (k_4_1 h0) (by decide) rfl q76_2 dX4_settle_76 (fun H locs hI => ?_)
        refine r_aload_n C hl 0 dX4_settle_77 rfl rfl ?_
        refine g_4_0 C hI h0 w_133 dX4_settle_78 ?_
        refine g_3_1 C hI (k_4_0 h0) w_55 dX4_settle_81 ?_
        refine r_iload C hl 4 dX4_settle_84 rfl ?_
        refine r_dup2 C dX4_settle_86 rfl rfl ?_
        refine r_gd hf (fun q87_3 hf => ?_)
        refine r_iald C hI 6 (n := 6) (k_3_1 (k_4_0 h0)) (by decide) rfl q87_3 dX4_settle_87 ?_
        refine r_iload C hl 3 dX4_settle_88 rfl ?_
        refine r_iadd C dX4_settle_90 ?_
        refine r_iast C hI 6 (n := 6) (k_3_1 (k_4_0 h0)) (by decide) rfl q87_3 dX4_settle_91 (fun H locs hI => ?_)
        refine r_aload_n C hl 0 dX4_settle_92 rfl rfl ?_
        refine r_aload_n C hl 1 dX4_settle_93 rfl rfl ?_
        refine r_iload_n C hl 2 dX4_settle_94 rfl rfl ?_
        refine r_iconst C dX4_settle_95 ?_
        refine r_iadd C dX4_settle_96 ?_
        refine r_callv (rest := []) hI hf (fun M' h => run_S C hI F_X4_settle w_442 w_441 hRr hl dX4_settle_97 [rI g o0, rI g o1, iI (v2 + 1)] rfl rfl (Nat.le_of_ble_eq_true rfl) (hrc o0 o1 (v2 + 1) _ _ h0 h1 h)) (fun M97 H locs hI hf => ?_)
        refine r_aload_n C hl 0 dX4_settle_100 rfl rfl ?_
        refine g_4_0 C hI h0 w_133 dX4_settle_101 ?_
        refine g_3_1 C hI (k_4_0 h0) w_55 dX4_settle_104 ?_
        refine r_iload C hl 4 dX4_settle_107 rfl ?_
        refine r_dup2 C dX4_settle_109 rfl rfl ?_
        refine r_iald C hI 6 (n := 6) (k_3_1 (k_4_0 h0)) (by decide) rfl q87_3 dX4_settle_110 ?_
        refine r_iload C hl 3 dX4_settle_111 rfl ?_
        refine r_isub C dX4_settle_113 ?_
        refine r_iast C hI 6 (n := 6) (k_3_1 (k_4_0 h0)) (by decide) rfl q87_3 dX4_settle_114 (fun H locs hI => ?_)
        refine r_iinc C hl (lv' := [(5, iI (v5 + 1)), (0, rI g o0), (1, rI g o1), (2, iI v2), (4, iI v4)]) 4 dX4_settle_115 rfl (Nat.le_of_ble_eq_true rfl) rfl (fun ls hl => ?_)
        refine r_goto C (tgt := 50) dX4_settle_118 (by decide) ?_
        exact ih _ _ _ _ _ _ hf hI (lv_sub hl [1, 2, 3, 4, 0] rfl)
set_option maxRecDepth 100000 in
set_option maxHeartbeats 4000000 in
theorem c_X4_settle_d {l : Launch} {g : GP} (hj : Inj g) {N : Nat} : ∀ (d : Nat) (o0 : Nat) (o1 : Nat) (v2 : Int) (M : Mem) (r : Mem), kd o0 = 4 → kd o1 = 6 → f_X4_settle N d o0 o1 v2 M = some r → Met l yX4_settle (Cond.code yX4_settle cX4_settle 6 none :: TB) (rmK (2 + d) (61 + 25 * d)) (PreW g M [rI g o0, rI g o1, iI v2]) (PostV g r) 0 0 (Ad g) := by
  intro d
  induction d with
  | zero =>
    intro o0 o1 v2 M r h0 h1 hf
    cases hf
  | succ d ihd =>
    intro o0 o1 v2 M r h0 h1 hf
    rw [f_X4_settle] at hf
    refine met_of (nL := 6) (cc := cX4_settle) (M := M) (by decide +kernel) hj (Nat.le_of_ble_eq_true rfl) ?_
    intro p e s m below meth c ls C hr hlk hI hl
    have C : Cx g p s m _ c cX4_settle 6 "LentGallery$Settling" := C
    have hl : lv_has ls 6 [(0, rI g o0), (1, rI g o1), (2, iI v2)] := hl
    have hQ := ret_v (l := l) (e := e) (R := (rmK (2 + (d + 1)) (61 + 25 * (d + 1)))) (below := below) (r := r) C hr hlk
    generalize s.heap = H, ([] : List Loc) = locs at hI ⊢
    have hRn : 2 ≤ (rmK (2 + (d + 1)) (61 + 25 * (d + 1))).frames ∧ 61 ≤ (rmK (2 + (d + 1)) (61 + 25 * (d + 1))).locals ∧ 0 ≤ (rmK (2 + (d + 1)) (61 + 25 * (d + 1))).cells ∧ 0 ≤ (rmK (2 + (d + 1)) (61 + 25 * (d + 1))).slots := ⟨by show 2 ≤ 2 + (d + 1); omega, by show 61 ≤ 61 + 25 * (d + 1); omega, Nat.zero_le _, Nat.zero_le _⟩
    have hRr : ((2 + d) + 1 ≤ (rmK (2 + (d + 1)) (61 + 25 * (d + 1))).frames ∧ 8 + (6 + 11) + (61 + 25 * d) ≤ (rmK (2 + (d + 1)) (61 + 25 * (d + 1))).locals) ∧ 0 ≤ (rmK (2 + (d + 1)) (61 + 25 * (d + 1))).cells ∧ 0 ≤ (rmK (2 + (d + 1)) (61 + 25 * (d + 1))).slots := ⟨⟨by show (2 + d) + 1 ≤ 2 + (d + 1); omega, by show 8 + (6 + 11) + (61 + 25 * d) ≤ 61 + 25 * (d + 1); omega⟩, Nat.zero_le _, Nat.zero_le _⟩
    have hrc := ihd
    refine r_aload_n C hl 0 dX4_settle_0 rfl rfl ?_
    refine g_4_0 C hI h0 w_133 dX4_settle_1 ?_
    refine r_calli (rest := []) hI hf (fun r M' h => run_V C hI F_X3_firstFall w_422 w_423 w_444 ⟨⟨Nat.le_trans (Nat.le_of_ble_eq_true rfl) hRn.1, Nat.le_trans (Nat.le_of_ble_eq_true rfl) hRn.2.1⟩, hRn.2.2⟩ (zX3 (k_4_0 h0)) (oX3 (k_4_0 h0)) rfl hl dX4_settle_4 [] rfl rfl (Nat.le_of_ble_eq_true rfl) (c_X3_firstFall C.2.2.2.2.2.2 (k_4_0 h0) h)) (fun r4 M4 H locs hI hf => ?_)
    refine r_istore_n C hl (lv' := [(3, iI r4), (0, rI g o0), (1, rI g o1), (2, iI v2)]) dX4_settle_7 rfl (Nat.le_of_ble_eq_true rfl) rfl (fun ls hl => ?_)
    refine r_iload_n C hl 0 dX4_settle_8 rfl rfl ?_
    refine r_aload_n C hl 1 dX4_settle_9 rfl rfl ?_
    refine g_4_3 C hI h0 w_137 dX4_settle_10 ?_
    refine r_gd hf (fun q13_0 hf => ?_)
    refine r_gd hf (fun q13_1 hf => ?_)
    refine r_ic_gt C q13_0 q13_1 (tgt := 17) dX4_settle_13 (by decide) hf (fun hf => ?_) (fun hf => ?_)
    · refine r_iload_n C hl 3 dX4_settle_17 rfl rfl ?_
      refine r_gd hf (fun q18_2 hf => ?_)
      refine r_if_lt C q18_2 (tgt := 34) dX4_settle_18 (by decide) hf (fun hf => ?_) (fun hf => ?_)
      · refine r_aload_n C hl 1 dX4_settle_34 rfl rfl ?_
        refine r_iload_n C hl 0 dX4_settle_35 rfl rfl ?_
        refine r_callv (rest := []) hI hf (fun M' h => run_V C hI F_X4_keep w_447 v_5 w_445 ⟨⟨Nat.le_trans (Nat.le_of_ble_eq_true rfl) hRn.1, Nat.le_trans (Nat.le_of_ble_eq_true rfl) hRn.2.1⟩, hRn.2.2⟩ (zX4 h0) (oX4 h0) rfl hl dX4_settle_36 [iI r4] rfl rfl (Nat.le_of_ble_eq_true rfl) (c_X4_keep C.2.2.2.2.2.2 h0 h)) (fun M36 H locs hI hf => ?_)
        exact r_vret hQ hf hI dX4_settle_39
      · refine r_iload_n C hl 3 dX4_settle_21 rfl rfl ?_
        refine r_aload_n C hl 2 dX4_settle_22 rfl rfl ?_
        refine g_6_3 C hI h1 w_74 dX4_settle_23 ?_
        refine r_gd hf (fun q26_3 hf => ?_)
        refine r_ic_ge C q18_2 q26_3 (tgt := 34) dX4_settle_26 (by decide) hf (fun hf => ?_) (fun hf => ?_)
        · refine r_aload_n C hl 1 dX4_settle_34 rfl rfl ?_
          refine r_iload_n C hl 0 dX4_settle_35 rfl rfl ?_
          refine r_callv (rest := []) hI hf (fun M' h => run_V C hI F_X4_keep w_447 v_5 w_445 ⟨⟨Nat.le_trans (Nat.le_of_ble_eq_true rfl) hRn.1, Nat.le_trans (Nat.le_of_ble_eq_true rfl) hRn.2.1⟩, hRn.2.2⟩ (zX4 h0) (oX4 h0) rfl hl dX4_settle_36 [iI r4] rfl rfl (Nat.le_of_ble_eq_true rfl) (c_X4_keep C.2.2.2.2.2.2 h0 h)) (fun M36 H locs hI hf => ?_)
          exact r_vret hQ hf hI dX4_settle_39
        · refine r_iload_n C hl 3 dX4_settle_29 rfl rfl ?_
          refine r_iconst C dX4_settle_30 ?_
          refine r_ic_lt C q18_2 (by decide) (tgt := 40) dX4_settle_31 (by decide) hf (fun hf => ?_) (fun hf => ?_)
          · refine r_aload_n C hl 2 dX4_settle_40 rfl rfl ?_
            refine r_iload_n C hl 3 dX4_settle_41 rfl rfl ?_
            refine r_calli (rest := []) hI hf (fun r M' h => run_V C hI F_X6_weightOf w_364 w_365 w_450 ⟨⟨Nat.le_trans (Nat.le_of_ble_eq_true rfl) hRn.1, Nat.le_trans (Nat.le_of_ble_eq_true rfl) hRn.2.1⟩, hRn.2.2⟩ (zX6 h1) (oX6 h1) rfl hl dX4_settle_42 [iI v2] rfl rfl (Nat.le_of_ble_eq_true rfl) (c_X6_weightOf C.2.2.2.2.2.2 h1 h)) (fun r42 M42 H locs hI hf => ?_)
            refine r_istore C hl (lv' := [(4, iI r42), (3, iI r4), (0, rI g o0), (1, rI g o1), (2, iI v2)]) dX4_settle_45 (Nat.le_of_ble_eq_true rfl) rfl (fun ls hl => ?_)
            refine r_iconst C dX4_settle_47 ?_
            refine r_istore C hl (lv' := [(5, iI 0), (4, iI r42), (3, iI r4), (0, rI g o0), (1, rI g o1), (2, iI v2)]) dX4_settle_48 (Nat.le_of_ble_eq_true rfl) rfl (fun ls hl => ?_)
            exact t_X4_settle_50 h0 h1 C hQ hRn hRr hrc _ _ _ _ _ _ _ hf hI (lv_sub hl [3, 4, 5, 1, 0] rfl)
          · refine r_aload_n C hl 1 dX4_settle_34 rfl rfl ?_
            refine r_iload_n C hl 0 dX4_settle_35 rfl rfl ?_
            refine r_callv (rest := []) hI hf (fun M' h => run_V C hI F_X4_keep w_447 v_5 w_445 ⟨⟨Nat.le_trans (Nat.le_of_ble_eq_true rfl) hRn.1, Nat.le_trans (Nat.le_of_ble_eq_true rfl) hRn.2.1⟩, hRn.2.2⟩ (zX4 h0) (oX4 h0) rfl hl dX4_settle_36 [iI r4] rfl rfl (Nat.le_of_ble_eq_true rfl) (c_X4_keep C.2.2.2.2.2.2 h0 h)) (fun M36 H locs hI hf => ?_)
            exact r_vret hQ hf hI dX4_settle_39
    · exact r_vret hQ hf hI dX4_settle_16
theorem c_X4_settle {l : Launch} {g : GP} (hj : Inj g) {N : Nat} {M : Mem} {o0 : Nat} {o1 : Nat} {v2 : Int} (h0 : kd o0 = 4) (h1 : kd o1 = 6) {r : Mem} (hf : f_X4_settle N 6 o0 o1 v2 M = some r) : Met l yX4_settle (Cond.code yX4_settle cX4_settle 6 none :: TB) (rmK 8 211) (PreW g M [rI g o0, rI g o1, iI v2]) (PostV g r) 0 0 (Ad g) := c_X4_settle_d hj 6 o0 o1 v2 M r h0 h1 hf
/-! X4_seek -/
def f_X4_seek (N : Nat) (o0 : Nat) (o1 : Nat) (M : Mem) : Option (Mem) := bnv (f_X3_copyFrom N (ch o0 0) (ch o1 0) M) (fun M8 => bnv (f_J7_fill_53178 N (ch (ch o0 0) 1) 0 M8) (fun M19 => bnv (f_X4_settle N 6 o0 o1 0 (st (st M19 o0 3 0) o0 4 0)) (fun M35 => some M35)))
theorem F_X4_seek : CalF yX4_seek cX4_seek 2 none 1 := ⟨w_436, w_6, by decide +kernel⟩
set_option maxRecDepth 100000 in
set_option maxHeartbeats 4000000 in
theorem c_X4_seek {l : Launch} {g : GP} (hj : Inj g) {N : Nat} {M : Mem} {o0 : Nat} {o1 : Nat} (h0 : kd o0 = 4) (h1 : kd o1 = 6) {r : Mem} (hf : f_X4_seek N o0 o1 M = some r) : Met l yX4_seek (Cond.code yX4_seek cX4_seek 2 none :: TB) (rmK 9 236) (PreW g M [rI g o0, rI g o1]) (PostV g r) 0 0 (Ad g) := by
  unfold f_X4_seek at hf
  refine met_of (nL := 2) (cc := cX4_seek) (M := M) (by decide +kernel) hj (Nat.le_of_ble_eq_true rfl) ?_
  intro p e s m below meth c ls C hr hlk hI hl
  have C : Cx g p s m _ c cX4_seek 2 "LentGallery$Settling" := C
  have hl : lv_has ls 2 [(0, rI g o0), (1, rI g o1)] := hl
  have hQ := ret_v (l := l) (e := e) (R := (rmK 9 236)) (below := below) (r := r) C hr hlk
  generalize s.heap = H, ([] : List Loc) = locs at hI ⊢
  refine r_aload_n C hl 0 dX4_seek_0 rfl rfl ?_
  refine g_4_0 C hI h0 w_133 dX4_seek_1 ?_
  refine r_aload_n C hl 1 dX4_seek_4 rfl rfl ?_
  refine g_6_0 C hI h1 w_67 dX4_seek_5 ?_
  refine r_callv (rest := []) hI hf (fun M' h => run_V C hI F_X3_copyFrom w_296 w_297 w_437 ⟨⟨Nat.le_of_ble_eq_true rfl, Nat.le_of_ble_eq_true rfl⟩, Nat.le_of_ble_eq_true rfl, Nat.le_of_ble_eq_true rfl⟩ (zX3 (k_4_0 h0)) (oX3 (k_4_0 h0)) rfl hl dX4_seek_8 [rI g (ch o1 0)] rfl rfl (Nat.le_of_ble_eq_true rfl) (c_X3_copyFrom C.2.2.2.2.2.2 (k_4_0 h0) (k_6_0 h1) h)) (fun M8 H locs hI hf => ?_)
  refine r_aload_n C hl 0 dX4_seek_11 rfl rfl ?_
  refine g_4_0 C hI h0 w_133 dX4_seek_12 ?_
  refine g_3_1 C hI (k_4_0 h0) w_55 dX4_seek_15 ?_
  refine r_iconst C dX4_seek_18 ?_
  refine r_callv (rest := []) hI hf (fun M' h => run_S C hI F_J7_fill_53178 w_439 w_438 ⟨⟨Nat.le_of_ble_eq_true rfl, Nat.le_of_ble_eq_true rfl⟩, Nat.le_of_ble_eq_true rfl, Nat.le_of_ble_eq_true rfl⟩ hl dX4_seek_19 [rI g (ch (ch o0 0) 1), iI 0] rfl rfl (Nat.le_of_ble_eq_true rfl) (c_J7_fill_53178 C.2.2.2.2.2.2 (isA_k (k_3_1 (k_4_0 h0)) (by decide) (by decide)) h)) (fun M19 H locs hI hf => ?_)
  refine r_aload_n C hl 0 dX4_seek_22 rfl rfl ?_
  refine r_iconst C dX4_seek_23 ?_
  refine p_4_3 C hI h0 w_137 dX4_seek_24 (fun H locs hI => ?_)
  refine r_aload_n C hl 0 dX4_seek_27 rfl rfl ?_
  refine r_iconst C dX4_seek_28 ?_
  refine p_4_4 C hI h0 (by decide) w_139 dX4_seek_29 (fun H locs hI => ?_)
  refine r_aload_n C hl 0 dX4_seek_32 rfl rfl ?_
  refine r_aload_n C hl 1 dX4_seek_33 rfl rfl ?_
  refine r_iconst C dX4_seek_34 ?_
  refine r_callv (rest := []) hI hf (fun M' h => run_S C hI F_X4_settle w_442 w_441 ⟨⟨Nat.le_of_ble_eq_true rfl, Nat.le_of_ble_eq_true rfl⟩, Nat.le_of_ble_eq_true rfl, Nat.le_of_ble_eq_true rfl⟩ hl dX4_seek_35 [rI g o0, rI g o1, iI 0] rfl rfl (Nat.le_of_ble_eq_true rfl) (c_X4_settle C.2.2.2.2.2.2 h0 h1 h)) (fun M35 H locs hI hf => ?_)
  exact r_vret hQ hf hI dX4_seek_38
/-! X5_liveDays -/
def f_X5_liveDays_60 (N : Nat) (o0 : Nat) (v1 : Int) (k39 : Int → Mem → Option (Mem)) : Nat → Int → Int → Mem → Option (Mem)
  | 0, _, _, _ => none
  | n + 1, v2, v3, M => gd (inR v3) (if 6 ≤ v3 then (k39 (v2 + 1) M) else (gd (0 ≤ v3 ∧ v3 < 6) (gd (inR (M (ch o0 1) v3.toNat)) (if (M (ch o0 1) v3.toNat) = 41 then (bnd (f_X3_stands N (ch o0 0) v3 M) (fun r82 M82 => gd (inR r82) (if r82 = 0 then (f_X5_liveDays_60 N o0 v1 k39 n v2 (v3 + 1) (st M82 (ch o0 1) v3.toNat v2)) else (f_X5_liveDays_60 N o0 v1 k39 n v2 (v3 + 1) M82)))) else (f_X5_liveDays_60 N o0 v1 k39 n v2 (v3 + 1) M)))))
def f_X5_liveDays_39 (N : Nat) (o0 : Nat) (v1 : Int) : Nat → Int → Mem → Option (Mem)
  | 0, _, _ => none
  | n + 1, v2, M => gd (inR v2) (gd (inR v1) (if v1 < v2 then (some M) else (if 20 < v2 then (some M) else (bnd (f_X3_passDay N (ch o0 0) M) (fun r54 M54 => f_X5_liveDays_60 N o0 v1 (f_X5_liveDays_39 N o0 v1 n) N v2 0 M54)))))
def f_X5_liveDays_2 (N : Nat) (o0 : Nat) (v1 : Int) : Nat → Int → Mem → Option (Mem)
  | 0, _, _ => none
  | n + 1, v2, M => gd (inR v2) (if 6 ≤ v2 then (f_X5_liveDays_39 N o0 v1 N 1 M) else (bnd (f_X3_stands N (ch o0 0) v2 M) (fun r18 M18 => gd (inR r18) (if r18 = 0 then (gd (0 ≤ v2 ∧ v2 < 6) (f_X5_liveDays_2 N o0 v1 n (v2 + 1) (st M18 (ch o0 1) v2.toNat 0))) else (gd (0 ≤ v2 ∧ v2 < 6) (f_X5_liveDays_2 N o0 v1 n (v2 + 1) (st M18 (ch o0 1) v2.toNat 41)))))))
def f_X5_liveDays (N : Nat) (o0 : Nat) (v1 : Int) (M : Mem) : Option (Mem) := f_X5_liveDays_2 N o0 v1 N 0 M
theorem F_X5_liveDays : CalF yX5_liveDays cX5_liveDays 4 none 1 := ⟨w_305, w_7, by decide +kernel⟩
set_option maxRecDepth 100000 in
set_option maxHeartbeats 4000000 in
theorem t_X5_liveDays_60 {g : GP} {p : Program} {l : Launch} {e : Env} {s : State} {m : MethodId} {args : Array Value} {below : List Frame} {meth : Method} {c : Code} {Q : State → Prop} {N : Nat} {o0 : Nat} {v1 : Int} (h0 : kd o0 = 5) (C : Cx g p s m args c cX5_liveDays 4 "LentGallery$Sounding") {r : Mem} (hQ : RetV g p l e (rmK 2 44) s m args below meth c cX5_liveDays r Q) {k39 : Int → Mem → Option (Mem)} (hk39 : ∀ (v2 : Int) (M : Mem) (H : Heap) (locs : List Loc) (ls : Array Slot), k39 v2 M = some r → Inv g s M H locs → lv_has ls 4 [(0, rI g o0), (1, iI v1), (2, iI v2)] → W p l e (rmK 2 44) s m args below meth c H locs 0 0 Q (F0 m 39 ls [])) : ∀ (n : Nat) (v2 v3 : Int) (M : Mem) (H : Heap) (locs : List Loc) (ls : Array Slot), f_X5_liveDays_60 N o0 v1 k39 n v2 v3 M = some r → Inv g s M H locs → lv_has ls 4 [(0, rI g o0), (1, iI v1), (2, iI v2), (3, iI v3)] → W p l e (rmK 2 44) s m args below meth c H locs 0 0 Q (F0 m 60 ls []) := by
  intro n
  induction n with
  | zero =>
    intro v2 v3 M H locs ls hf hI hl
    cases hf
  | succ n ih =>
    intro v2 v3 M H locs ls hf hI hl
    rw [f_X5_liveDays_60] at hf
    refine r_iload_n C hl 3 dX5_liveDays_60 rfl rfl ?_
    refine r_bipush C dX5_liveDays_61 rfl ?_
    refine r_gd hf (fun q63_0 hf => ?_)
    refine r_ic_ge C q63_0 (by decide) (tgt := 101) dX5_liveDays_63 (by decide) hf (fun hf => ?_) (fun hf => ?_)
    · refine r_iinc C hl (lv' := [(2, iI (v2 + 1)), (0, rI g o0), (1, iI v1), (3, iI v3)]) 2 dX5_liveDays_101 rfl (Nat.le_of_ble_eq_true rfl) rfl (fun ls hl => ?_)
      refine r_goto C (tgt := 39) dX5_liveDays_104 (by decide) ?_
      exact hk39 _ _ _ _ _ hf hI (lv_sub hl [1, 2, 0] rfl)
    · refine r_aload_n C hl 0 dX5_liveDays_66 rfl rfl ?_
      refine g_5_1 C hI h0 w_161 dX5_liveDays_67 ?_
      refine r_iload_n C hl 3 dX5_liveDays_70 rfl rfl ?_
      refine r_gd hf (fun q71_1 hf => ?_)
      refine r_iald C hI 6 (n := 6) (k_5_1 h0) (by decide) rfl q71_1 dX5_liveDays_71 ?_
      refine r_bipush C dX5_liveDays_72 rfl ?_
      refine r_gd hf (fun q74_2 hf => ?_)
      refine r_ic_ne C q74_2 (by decide) (tgt := 95) dX5_liveDays_74 (by decide) hf (fun hf => ?_) (fun hf => ?_)
      · refine r_iinc C hl (lv' := [(3, iI (v3 + 1)), (0, rI g o0), (1, iI v1), (2, iI v2)]) 3 dX5_liveDays_95 rfl (Nat.le_of_ble_eq_true rfl) rfl (fun ls hl => ?_)
        refine r_goto C (tgt := 60) dX5_liveDays_98 (by decide) ?_
        exact ih _ _ _ _ _ _ hf hI (lv_sub hl [1, 2, 3, 0] rfl)
      · refine r_aload_n C hl 0 dX5_liveDays_77 rfl rfl ?_
        refine g_5_0 C hI h0 w_160 dX5_liveDays_78 ?_
        refine r_iload_n C hl 3 dX5_liveDays_81 rfl rfl ?_
        refine r_calli (rest := []) hI hf (fun r M' h => run_V C hI F_X3_stands w_307 w_308 w_306 ⟨⟨Nat.le_of_ble_eq_true rfl, Nat.le_of_ble_eq_true rfl⟩, Nat.le_of_ble_eq_true rfl, Nat.le_of_ble_eq_true rfl⟩ (zX3 (k_5_0 h0)) (oX3 (k_5_0 h0)) rfl hl dX5_liveDays_82 [iI v3] rfl rfl (Nat.le_of_ble_eq_true rfl) (c_X3_stands C.2.2.2.2.2.2 (k_5_0 h0) h)) (fun r82 M82 H locs hI hf => ?_)
        refine r_gd hf (fun q85_3 hf => ?_)
        refine r_if_ne C q85_3 (tgt := 95) dX5_liveDays_85 (by decide) hf (fun hf => ?_) (fun hf => ?_)
        · refine r_iinc C hl (lv' := [(3, iI (v3 + 1)), (0, rI g o0), (1, iI v1), (2, iI v2)]) 3 dX5_liveDays_95 rfl (Nat.le_of_ble_eq_true rfl) rfl (fun ls hl => ?_)
          refine r_goto C (tgt := 60) dX5_liveDays_98 (by decide) ?_
          exact ih _ _ _ _ _ _ hf hI (lv_sub hl [1, 2, 3, 0] rfl)
        · refine r_aload_n C hl 0 dX5_liveDays_88 rfl rfl ?_
          refine g_5_1 C hI h0 w_161 dX5_liveDays_89 ?_
          refine r_iload_n C hl 3 dX5_liveDays_92 rfl rfl ?_
          refine r_iload_n C hl 2 dX5_liveDays_93 rfl rfl ?_
          refine r_iast C hI 6 (n := 6) (k_5_1 h0) (by decide) rfl q71_1 dX5_liveDays_94 (fun H locs hI => ?_)
          refine r_iinc C hl (lv' := [(3, iI (v3 + 1)), (0, rI g o0), (1, iI v1), (2, iI v2)]) 3 dX5_liveDays_95 rfl (Nat.le_of_ble_eq_true rfl) rfl (fun ls hl => ?_)
          refine r_goto C (tgt := 60) dX5_liveDays_98 (by decide) ?_
          exact ih _ _ _ _ _ _ hf hI (lv_sub hl [1, 2, 3, 0] rfl)
set_option maxRecDepth 100000 in
set_option maxHeartbeats 4000000 in
theorem t_X5_liveDays_39 {g : GP} {p : Program} {l : Launch} {e : Env} {s : State} {m : MethodId} {args : Array Value} {below : List Frame} {meth : Method} {c : Code} {Q : State → Prop} {N : Nat} {o0 : Nat} {v1 : Int} (h0 : kd o0 = 5) (C : Cx g p s m args c cX5_liveDays 4 "LentGallery$Sounding") {r : Mem} (hQ : RetV g p l e (rmK 2 44) s m args below meth c cX5_liveDays r Q) : ∀ (n : Nat) (v2 : Int) (M : Mem) (H : Heap) (locs : List Loc) (ls : Array Slot), f_X5_liveDays_39 N o0 v1 n v2 M = some r → Inv g s M H locs → lv_has ls 4 [(0, rI g o0), (1, iI v1), (2, iI v2)] → W p l e (rmK 2 44) s m args below meth c H locs 0 0 Q (F0 m 39 ls []) := by
  intro n
  induction n with
  | zero =>
    intro v2 M H locs ls hf hI hl
    cases hf
  | succ n ih =>
    intro v2 M H locs ls hf hI hl
    rw [f_X5_liveDays_39] at hf
    refine r_iload_n C hl 2 dX5_liveDays_39 rfl rfl ?_
    refine r_iload_n C hl 1 dX5_liveDays_40 rfl rfl ?_
    refine r_gd hf (fun q41_0 hf => ?_)
    refine r_gd hf (fun q41_1 hf => ?_)
    refine r_ic_gt C q41_0 q41_1 (tgt := 107) dX5_liveDays_41 (by decide) hf (fun hf => ?_) (fun hf => ?_)
    · exact r_vret hQ hf hI dX5_liveDays_107
    · refine r_iload_n C hl 2 dX5_liveDays_44 rfl rfl ?_
      refine r_bipush C dX5_liveDays_45 rfl ?_
      refine r_ic_gt C q41_0 (by decide) (tgt := 107) dX5_liveDays_47 (by decide) hf (fun hf => ?_) (fun hf => ?_)
      · exact r_vret hQ hf hI dX5_liveDays_107
      · refine r_aload_n C hl 0 dX5_liveDays_50 rfl rfl ?_
        refine g_5_0 C hI h0 w_160 dX5_liveDays_51 ?_
        refine r_calli (rest := []) hI hf (fun r M' h => run_V C hI F_X3_passDay w_311 w_312 w_310 ⟨⟨Nat.le_of_ble_eq_true rfl, Nat.le_of_ble_eq_true rfl⟩, Nat.le_of_ble_eq_true rfl, Nat.le_of_ble_eq_true rfl⟩ (zX3 (k_5_0 h0)) (oX3 (k_5_0 h0)) rfl hl dX5_liveDays_54 [] rfl rfl (Nat.le_of_ble_eq_true rfl) (c_X3_passDay C.2.2.2.2.2.2 (k_5_0 h0) h)) (fun r54 M54 H locs hI hf => ?_)
        refine r_pop C dX5_liveDays_57 rfl ?_
        refine r_iconst C dX5_liveDays_58 ?_
        refine r_istore_n C hl (lv' := [(3, iI 0), (0, rI g o0), (1, iI v1), (2, iI v2)]) dX5_liveDays_59 rfl (Nat.le_of_ble_eq_true rfl) rfl (fun ls hl => ?_)
        exact t_X5_liveDays_60 h0 C hQ ih _ _ _ _ _ _ _ hf hI (lv_sub hl [1, 2, 3, 0] rfl)
set_option maxRecDepth 100000 in
set_option maxHeartbeats 4000000 in
theorem t_X5_liveDays_2 {g : GP} {p : Program} {l : Launch} {e : Env} {s : State} {m : MethodId} {args : Array Value} {below : List Frame} {meth : Method} {c : Code} {Q : State → Prop} {N : Nat} {o0 : Nat} {v1 : Int} (h0 : kd o0 = 5) (C : Cx g p s m args c cX5_liveDays 4 "LentGallery$Sounding") {r : Mem} (hQ : RetV g p l e (rmK 2 44) s m args below meth c cX5_liveDays r Q) : ∀ (n : Nat) (v2 : Int) (M : Mem) (H : Heap) (locs : List Loc) (ls : Array Slot), f_X5_liveDays_2 N o0 v1 n v2 M = some r → Inv g s M H locs → lv_has ls 4 [(0, rI g o0), (1, iI v1), (2, iI v2)] → W p l e (rmK 2 44) s m args below meth c H locs 0 0 Q (F0 m 2 ls []) := by
  intro n
  induction n with
  | zero =>
    intro v2 M H locs ls hf hI hl
    cases hf
  | succ n ih =>
    intro v2 M H locs ls hf hI hl
    rw [f_X5_liveDays_2] at hf
    refine r_iload_n C hl 2 dX5_liveDays_2 rfl rfl ?_
    refine r_bipush C dX5_liveDays_3 rfl ?_
    refine r_gd hf (fun q5_0 hf => ?_)
    refine r_ic_ge C q5_0 (by decide) (tgt := 37) dX5_liveDays_5 (by decide) hf (fun hf => ?_) (fun hf => ?_)
    · refine r_iconst C dX5_liveDays_37 ?_
      refine r_istore_n C hl (lv' := [(2, iI 1), (0, rI g o0), (1, iI v1)]) dX5_liveDays_38 rfl (Nat.le_of_ble_eq_true rfl) rfl (fun ls hl => ?_)
      exact t_X5_liveDays_39 h0 C hQ _ _ _ _ _ _ hf hI (lv_sub hl [1, 2, 0] rfl)
    · refine r_aload_n C hl 0 dX5_liveDays_8 rfl rfl ?_
      refine g_5_1 C hI h0 w_161 dX5_liveDays_9 ?_
      refine r_iload_n C hl 2 dX5_liveDays_12 rfl rfl ?_
      refine r_aload_n C hl 0 dX5_liveDays_13 rfl rfl ?_
      refine g_5_0 C hI h0 w_160 dX5_liveDays_14 ?_
      refine r_iload_n C hl 2 dX5_liveDays_17 rfl rfl ?_
      refine r_calli (rest := [iI v2, rI g (ch o0 1)]) hI hf (fun r M' h => run_V C hI F_X3_stands w_307 w_308 w_306 ⟨⟨Nat.le_of_ble_eq_true rfl, Nat.le_of_ble_eq_true rfl⟩, Nat.le_of_ble_eq_true rfl, Nat.le_of_ble_eq_true rfl⟩ (zX3 (k_5_0 h0)) (oX3 (k_5_0 h0)) rfl hl dX5_liveDays_18 [iI v2] rfl rfl (Nat.le_of_ble_eq_true rfl) (c_X3_stands C.2.2.2.2.2.2 (k_5_0 h0) h)) (fun r18 M18 H locs hI hf => ?_)
      refine r_gd hf (fun q21_1 hf => ?_)
      refine r_if_eq C q21_1 (tgt := 29) dX5_liveDays_21 (by decide) hf (fun hf => ?_) (fun hf => ?_)
      · refine r_iconst C dX5_liveDays_29 ?_
        refine r_gd hf (fun q30_2 hf => ?_)
        refine r_iast C hI 6 (n := 6) (k_5_1 h0) (by decide) rfl q30_2 dX5_liveDays_30 (fun H locs hI => ?_)
        refine r_iinc C hl (lv' := [(2, iI (v2 + 1)), (0, rI g o0), (1, iI v1)]) 2 dX5_liveDays_31 rfl (Nat.le_of_ble_eq_true rfl) rfl (fun ls hl => ?_)
        refine r_goto C (tgt := 2) dX5_liveDays_34 (by decide) ?_
        exact ih _ _ _ _ _ hf hI (lv_sub hl [1, 2, 0] rfl)
      · refine r_bipush C dX5_liveDays_24 rfl ?_
        refine r_goto C (tgt := 30) dX5_liveDays_26 (by decide) ?_
        refine r_gd hf (fun q30_2 hf => ?_)
        refine r_iast C hI 6 (n := 6) (k_5_1 h0) (by decide) rfl q30_2 dX5_liveDays_30 (fun H locs hI => ?_)
        refine r_iinc C hl (lv' := [(2, iI (v2 + 1)), (0, rI g o0), (1, iI v1)]) 2 dX5_liveDays_31 rfl (Nat.le_of_ble_eq_true rfl) rfl (fun ls hl => ?_)
        refine r_goto C (tgt := 2) dX5_liveDays_34 (by decide) ?_
        exact ih _ _ _ _ _ hf hI (lv_sub hl [1, 2, 0] rfl)
set_option maxRecDepth 100000 in
set_option maxHeartbeats 4000000 in
theorem c_X5_liveDays {l : Launch} {g : GP} (hj : Inj g) {N : Nat} {M : Mem} {o0 : Nat} {v1 : Int} (h0 : kd o0 = 5) {r : Mem} (hf : f_X5_liveDays N o0 v1 M = some r) : Met l yX5_liveDays (Cond.code yX5_liveDays cX5_liveDays 4 none :: TB) (rmK 2 44) (PreW g M [rI g o0, iI v1]) (PostV g r) 0 0 (Ad g) := by
  unfold f_X5_liveDays at hf
  refine met_of (nL := 4) (cc := cX5_liveDays) (M := M) (by decide +kernel) hj (Nat.le_of_ble_eq_true rfl) ?_
  intro p e s m below meth c ls C hr hlk hI hl
  have C : Cx g p s m _ c cX5_liveDays 4 "LentGallery$Sounding" := C
  have hl : lv_has ls 4 [(0, rI g o0), (1, iI v1)] := hl
  have hQ := ret_v (l := l) (e := e) (R := (rmK 2 44)) (below := below) (r := r) C hr hlk
  generalize s.heap = H, ([] : List Loc) = locs at hI ⊢
  refine r_iconst C dX5_liveDays_0 ?_
  refine r_istore_n C hl (lv' := [(2, iI 0), (0, rI g o0), (1, iI v1)]) dX5_liveDays_1 rfl (Nat.le_of_ble_eq_true rfl) rfl (fun ls hl => ?_)
  exact t_X5_liveDays_2 h0 C hQ _ _ _ _ _ _ hf hI (lv_sub hl [1, 2, 0] rfl)
