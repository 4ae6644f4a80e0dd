/-! X8_goesBy -/
def f_X8_goesBy_61 (N : Nat) (o0 : Nat) (k15 : Int → Int → Mem → Option (Int × Mem)) (v1 : Int) (v2 : Int) (v3 : Int) (s1 : Int) (s2 : Int) (M : Mem) : Option (Int × Mem) := gd (0 ≤ s1 ∧ s1 < 6) (gd (inR v3) (if v3 ≤ 0 then (k15 (v1 + 1) (v2 + 1) (st M (ch o0 12) s1.toNat s2)) else (k15 (v1 + 0) (v2 + 1) (st M (ch o0 12) s1.toNat s2))))
def f_X8_goesBy_15 (N : Nat) (o0 : Nat) : Nat → Int → Int → Mem → Option (Int × Mem)
  | 0, _, _, _ => none
  | n + 1, v1, v2, M => gd (inR v2) (if 6 ≤ v2 then (some (v1, M)) else (gd (0 ≤ v2 ∧ v2 < 6) (gd (inR (M (ch o0 13) v2.toNat)) (if (M (ch o0 13) v2.toNat) ≤ 0 then (f_X8_goesBy_15 N o0 n v1 (v2 + 1) M) else (bnd (f_X8_lessOf N o0 v2 (ch o0 13) M) (fun r42 M42 => gd (inR ((M (ch o0 13) v2.toNat) - r42)) (if ((M (ch o0 13) v2.toNat) - r42) ≤ 0 then (f_X8_goesBy_61 N o0 (f_X8_goesBy_15 N o0 n) v1 v2 ((M (ch o0 13) v2.toNat) - r42) v2 0 M42) else (f_X8_goesBy_61 N o0 (f_X8_goesBy_15 N o0 n) v1 v2 ((M (ch o0 13) v2.toNat) - r42) v2 ((M (ch o0 13) v2.toNat) - r42) M42))))))))
def f_X8_goesBy (N : Nat) (o0 : Nat) (M : Mem) : Option (Int × Mem) := bnv (f_X8_copy N (ch o0 12) (ch o0 13) M) (fun M8 => f_X8_goesBy_15 N o0 N 0 0 M8)
theorem F_X8_goesBy : CalF yX8_goesBy cX8_goesBy 4 (some .int) 0 := ⟨w_738, w_9, by decide +kernel⟩
set_option maxRecDepth 100000 in
set_option maxHeartbeats 4000000 in
theorem t_X8_goesBy_61 {g : GP} {p : Program} {l : Launch} {e : Env} {s : State} {m : MethodId} {args : Array Value} {below : List Frame} {meth : Method} {c : Code} {Q : State → Prop} {N : Nat} {o0 : Nat} (h0 : kd o0 = 8) (C : Cx g p s m args c cX8_goesBy 4 "LentGalleryModel") {r : Int × Mem} (hQ : RetI g p l e (rmK 3 68) s m args below meth c cX8_goesBy r Q) {k15 : Int → Int → Mem → Option (Int × Mem)} (hk15 : ∀ (v1 v2 : Int) (M : Mem) (H : Heap) (locs : List Loc) (ls : Array Slot), k15 v1 v2 M = some r → Inv g s M H locs → lv_has ls 4 [(0, rI g o0), (1, iI v1), (2, iI v2)] → W p l e (rmK 3 68) s m args below meth c H locs 0 0 Q (F0 m 15 ls [])) : ∀ (v1 v2 v3 s1 s2 : Int) (M : Mem) (H : Heap) (locs : List Loc) (ls : Array Slot), f_X8_goesBy_61 N o0 k15 v1 v2 v3 s1 s2 M = some r → Inv g s M H locs → lv_has ls 4 [(0, rI g o0), (1, iI v1), (2, iI v2), (3, iI v3)] → W p l e (rmK 3 68) s m args below meth c H locs 0 0 Q (F0 m 61 ls [iI s2, iI s1, rI g (ch o0 12)]) := by
  intro v1 v2 v3 s1 s2 M H locs ls hf hI hl
  unfold f_X8_goesBy_61 at hf
  refine r_gd hf (fun q61_0 hf => ?_)
  refine r_iast C hI 6 (n := 6) (k_8_12 h0) (by decide) rfl q61_0 dX8_goesBy_61 (fun H locs hI => ?_)
  refine r_iload_n C hl 1 dX8_goesBy_62 rfl rfl ?_
  refine r_iload_n C hl 3 dX8_goesBy_63 rfl rfl ?_
  refine r_gd hf (fun q64_1 hf => ?_)
  refine r_if_le C q64_1 (tgt := 71) dX8_goesBy_64 (by decide) hf (fun hf => ?_) (fun hf => ?_)
  · refine r_iconst C dX8_goesBy_71 ?_
    refine r_iadd C dX8_goesBy_72 ?_
    refine r_istore_n C hl (lv' := [(1, iI (v1 + 1)), (0, rI g o0), (2, iI v2), (3, iI v3)]) dX8_goesBy_73 rfl (Nat.le_of_ble_eq_true rfl) rfl (fun ls hl => ?_)
    refine r_iinc C hl (lv' := [(2, iI (v2 + 1)), (1, iI (v1 + 1)), (0, rI g o0), (3, iI v3)]) 2 dX8_goesBy_74 rfl (Nat.le_of_ble_eq_true rfl) rfl (fun ls hl => ?_)
    refine r_goto C (tgt := 15) dX8_goesBy_77 (by decide) ?_
    exact hk15 _ _ _ _ _ _ hf hI (lv_sub hl [2, 1, 0] rfl)
  · refine r_iconst C dX8_goesBy_67 ?_
    refine r_goto C (tgt := 72) dX8_goesBy_68 (by decide) ?_
    refine r_iadd C dX8_goesBy_72 ?_
    refine r_istore_n C hl (lv' := [(1, iI (v1 + 0)), (0, rI g o0), (2, iI v2), (3, iI v3)]) dX8_goesBy_73 rfl (Nat.le_of_ble_eq_true rfl) rfl (fun ls hl => ?_)
    refine r_iinc C hl (lv' := [(2, iI (v2 + 1)), (1, iI (v1 + 0)), (0, rI g o0), (3, iI v3)]) 2 dX8_goesBy_74 rfl (Nat.le_of_ble_eq_true rfl) rfl (fun ls hl => ?_)
    refine r_goto C (tgt := 15) dX8_goesBy_77 (by decide) ?_
    exact hk15 _ _ _ _ _ _ hf hI (lv_sub hl [2, 1, 0] rfl)
set_option maxRecDepth 100000 in
set_option maxHeartbeats 4000000 in
theorem t_X8_goesBy_15 {g : GP} {p : Program} {l : Launch} {e : Env} {s : State} {m : MethodId} {args : Array Value} {below : List Frame} {meth : Method} {c : Code} {Q : State → Prop} {N : Nat} {o0 : Nat} (h0 : kd o0 = 8) (C : Cx g p s m args c cX8_goesBy 4 "LentGalleryModel") {r : Int × Mem} (hQ : RetI g p l e (rmK 3 68) s m args below meth c cX8_goesBy r Q) : ∀ (n : Nat) (v1 v2 : Int) (M : Mem) (H : Heap) (locs : List Loc) (ls : Array Slot), f_X8_goesBy_15 N o0 n v1 v2 M = some r → Inv g s M H locs → lv_has ls 4 [(0, rI g o0), (1, iI v1), (2, iI v2)] → W p l e (rmK 3 68) s m args below meth c H locs 0 0 Q (F0 m 15 ls []) := by
  intro n
  induction n with
  | zero =>
    intro v1 v2 M H locs ls hf hI hl
    cases hf
  | succ n ih =>
    intro v1 v2 M H locs ls hf hI hl
    rw [f_X8_goesBy_15] at hf
    refine r_iload_n C hl 2 dX8_goesBy_15 rfl rfl ?_
    refine r_bipush C dX8_goesBy_16 rfl ?_
    refine r_gd hf (fun q18_0 hf => ?_)
    refine r_ic_ge C q18_0 (by decide) (tgt := 80) dX8_goesBy_18 (by decide) hf (fun hf => ?_) (fun hf => ?_)
    · refine r_iload_n C hl 1 dX8_goesBy_80 rfl rfl ?_
      exact r_iret hQ hf hI dX8_goesBy_81
    · refine r_aload_n C hl 0 dX8_goesBy_21 rfl rfl ?_
      refine g_8_13 C hI h0 w_575 dX8_goesBy_22 ?_
      refine r_iload_n C hl 2 dX8_goesBy_25 rfl rfl ?_
      refine r_gd hf (fun q26_1 hf => ?_)
      refine r_iald C hI 6 (n := 6) (k_8_13 h0) (by decide) rfl q26_1 dX8_goesBy_26 ?_
      refine r_gd hf (fun q27_2 hf => ?_)
      refine r_if_le C q27_2 (tgt := 74) dX8_goesBy_27 (by decide) hf (fun hf => ?_) (fun hf => ?_)
      · refine r_iinc C hl (lv' := [(2, iI (v2 + 1)), (0, rI g o0), (1, iI v1)]) 2 dX8_goesBy_74 rfl (Nat.le_of_ble_eq_true rfl) rfl (fun ls hl => ?_)
        refine r_goto C (tgt := 15) dX8_goesBy_77 (by decide) ?_
        exact ih _ _ _ _ _ _ hf hI (lv_sub hl [1, 2, 0] rfl)
      · refine r_aload_n C hl 0 dX8_goesBy_30 rfl rfl ?_
        refine g_8_13 C hI h0 w_575 dX8_goesBy_31 ?_
        refine r_iload_n C hl 2 dX8_goesBy_34 rfl rfl ?_
        refine r_iald C hI 6 (n := 6) (k_8_13 h0) (by decide) rfl q26_1 dX8_goesBy_35 ?_
        refine r_aload_n C hl 0 dX8_goesBy_36 rfl rfl ?_
        refine r_iload_n C hl 2 dX8_goesBy_37 rfl rfl ?_
        refine r_aload_n C hl 0 dX8_goesBy_38 rfl rfl ?_
        refine g_8_13 C hI h0 w_575 dX8_goesBy_39 ?_
        refine r_calli (rest := [iI (M (ch o0 13) v2.toNat)]) hI hf (fun r M' h => run_V C hI F_X8_lessOf w_722 v_17 w_720 ⟨⟨Nat.le_of_ble_eq_true rfl, Nat.le_of_ble_eq_true rfl⟩, Nat.le_of_ble_eq_true rfl, Nat.le_of_ble_eq_true rfl⟩ (zX8 h0) (oX8 h0) rfl hl dX8_goesBy_42 [iI v2, rI g (ch o0 13)] rfl rfl (Nat.le_of_ble_eq_true rfl) (c_X8_lessOf C.2.2.2.2.2.2 h0 (isA_k (k_8_13 h0) (by decide) (by decide)) h)) (fun r42 M42 H locs hI hf => ?_)
        refine r_isub C dX8_goesBy_45 ?_
        refine r_istore_n C hl (lv' := [(3, iI ((M (ch o0 13) v2.toNat) - r42)), (0, rI g o0), (1, iI v1), (2, iI v2)]) dX8_goesBy_46 rfl (Nat.le_of_ble_eq_true rfl) rfl (fun ls hl => ?_)
        refine r_aload_n C hl 1 dX8_goesBy_47 rfl rfl ?_
        refine g_8_12 C hI h0 w_574 dX8_goesBy_48 ?_
        refine r_iload_n C hl 3 dX8_goesBy_51 rfl rfl ?_
        refine r_iload_n C hl 0 dX8_goesBy_52 rfl rfl ?_
        refine r_gd hf (fun q53_3 hf => ?_)
        refine r_if_le C q53_3 (tgt := 60) dX8_goesBy_53 (by decide) hf (fun hf => ?_) (fun hf => ?_)
        · refine r_iconst C dX8_goesBy_60 ?_
          exact t_X8_goesBy_61 h0 C hQ ih _ _ _ _ _ _ _ _ _ hf hI (lv_sub hl [1, 2, 3, 0] rfl)
        · refine r_iload_n C hl 0 dX8_goesBy_56 rfl rfl ?_
          refine r_goto C (tgt := 61) dX8_goesBy_57 (by decide) ?_
          exact t_X8_goesBy_61 h0 C hQ ih _ _ _ _ _ _ _ _ _ hf hI (lv_sub hl [1, 2, 3, 0] rfl)
set_option maxRecDepth 100000 in
set_option maxHeartbeats 4000000 in
theorem c_X8_goesBy {l : Launch} {g : GP} (hj : Inj g) {N : Nat} {M : Mem} {o0 : Nat} (h0 : kd o0 = 8) {r : Int × Mem} (hf : f_X8_goesBy N o0 M = some r) : Met l yX8_goesBy (Cond.code yX8_goesBy cX8_goesBy 4 (some .int) :: TB) (rmK 3 68) (PreW g M [rI g o0]) (PostI g r.1 r.2) 0 0 (Ad g) := by
  unfold f_X8_goesBy at hf
  refine met_of (nL := 4) (cc := cX8_goesBy) (M := M) (by decide +kernel) hj (Nat.le_of_ble_eq_true rfl) ?_
  intro p e s m below meth c ls C hr hlk hI hl
  have C : Cx g p s m _ c cX8_goesBy 4 "LentGalleryModel" := C
  have hl : lv_has ls 4 [(0, rI g o0)] := hl
  have hQ := ret_i (l := l) (e := e) (R := (rmK 3 68)) (below := below) (r := r) C hr hlk (nar_i _)
  generalize s.heap = H, ([] : List Loc) = locs at hI ⊢
  refine r_aload_n C hl 0 dX8_goesBy_0 rfl rfl ?_
  refine g_8_12 C hI h0 w_574 dX8_goesBy_1 ?_
  refine r_aload_n C hl 0 dX8_goesBy_4 rfl rfl ?_
  refine g_8_13 C hI h0 w_575 dX8_goesBy_5 ?_
  refine r_callv (rest := []) hI hf (fun M' h => run_S C hI F_X8_copy w_707 w_706 ⟨⟨Nat.le_of_ble_eq_true rfl, Nat.le_of_ble_eq_true rfl⟩, Nat.le_of_ble_eq_true rfl, Nat.le_of_ble_eq_true rfl⟩ hl dX8_goesBy_8 [rI g (ch o0 12), rI g (ch o0 13)] rfl rfl (Nat.le_of_ble_eq_true rfl) (c_X8_copy C.2.2.2.2.2.2 (isA_k (k_8_12 h0) (by decide) (by decide)) (isA_k (k_8_13 h0) (by decide) (by decide)) h)) (fun M8 H locs hI hf => ?_)
  refine r_iconst C dX8_goesBy_11 ?_
  refine r_istore_n C hl (lv' := [(1, iI 0), (0, rI g o0)]) dX8_goesBy_12 rfl (Nat.le_of_ble_eq_true rfl) rfl (fun ls hl => ?_)
  refine r_iconst C dX8_goesBy_13 ?_
  refine r_istore_n C hl (lv' := [(2, iI 0), (1, iI 0), (0, rI g o0)]) dX8_goesBy_14 rfl (Nat.le_of_ble_eq_true rfl) rfl (fun ls hl => ?_)
  exact t_X8_goesBy_15 h0 C hQ _ _ _ _ _ _ _ hf hI (lv_sub hl [2, 1, 0] rfl)
/-! X8_whoIn -/
def f_X8_whoIn_4 (N : Nat) (o0 : Nat) (v1 : Int) : Nat → Int → Int → Mem → Option (Int × Mem)
  | 0, _, _, _ => none
  | n + 1, v2, v3, M => gd (inR v3) (gd (inR (M o0 9)) (if (M o0 9) ≤ v3 then (some (v2, M)) else (gd (0 ≤ ((2 * v3) + 1) ∧ ((2 * v3) + 1) < 10) (gd (inR (M (ch o0 10) ((2 * v3) + 1).toNat)) (gd (inR v1) (if (M (ch o0 10) ((2 * v3) + 1).toNat) = v1 then (f_X8_whoIn_4 N o0 v1 n (i_or v2 (i_shl 1 v3)) (v3 + 1) M) else (f_X8_whoIn_4 N o0 v1 n (i_or v2 0) (v3 + 1) M)))))))
def f_X8_whoIn (N : Nat) (o0 : Nat) (v1 : Int) (M : Mem) : Option (Int × Mem) := f_X8_whoIn_4 N o0 v1 N 0 0 M
theorem F_X8_whoIn : CalF yX8_whoIn cX8_whoIn 4 (some .int) 1 := ⟨w_719, w_9, by decide +kernel⟩
set_option maxRecDepth 100000 in
set_option maxHeartbeats 4000000 in
theorem t_X8_whoIn_4 {g : GP} {p : Program} {l : Launch} {e : Env} {s : State} {m : MethodId} {args : Array Value} {below : List Frame} {meth : Method} {c : Code} {Q : State → Prop} {N : Nat} {o0 : Nat} {v1 : Int} (h0 : kd o0 = 8) (C : Cx g p s m args c cX8_whoIn 4 "LentGalleryModel") {r : Int × Mem} (hQ : RetI g p l e (rmK 0 0) s m args below meth c cX8_whoIn r Q) : ∀ (n : Nat) (v2 v3 : Int) (M : Mem) (H : Heap) (locs : List Loc) (ls : Array Slot), f_X8_whoIn_4 N o0 v1 n v2 v3 M = some r → Inv g s M H locs → lv_has ls 4 [(0, rI g o0), (1, iI v1), (2, iI v2), (3, iI v3)] → W p l e (rmK 0 0) s m args below meth c H locs 0 0 Q (F0 m 4 ls []) := by
  intro n
  induction n with
  | zero =>
    intro v2 v3 M H locs ls hf hI hl
    cases hf
  | succ n ih =>
    intro v2 v3 M H locs ls hf hI hl
    rw [f_X8_whoIn_4] at hf
    refine r_iload_n C hl 3 dX8_whoIn_4 rfl rfl ?_
    refine r_aload_n C hl 0 dX8_whoIn_5 rfl rfl ?_
    refine g_8_9 C hI h0 w_571 dX8_whoIn_6 ?_
    refine r_gd hf (fun q9_0 hf => ?_)
    refine r_gd hf (fun q9_1 hf => ?_)
    refine r_ic_ge C q9_0 q9_1 (tgt := 42) dX8_whoIn_9 (by decide) hf (fun hf => ?_) (fun hf => ?_)
    · refine r_iload_n C hl 2 dX8_whoIn_42 rfl rfl ?_
      exact r_iret hQ hf hI dX8_whoIn_43
    · refine r_iload_n C hl 2 dX8_whoIn_12 rfl rfl ?_
      refine r_aload_n C hl 0 dX8_whoIn_13 rfl rfl ?_
      refine g_8_10 C hI h0 w_572 dX8_whoIn_14 ?_
      refine r_iconst C dX8_whoIn_17 ?_
      refine r_iload_n C hl 3 dX8_whoIn_18 rfl rfl ?_
      refine r_imul C dX8_whoIn_19 ?_
      refine r_iconst C dX8_whoIn_20 ?_
      refine r_iadd C dX8_whoIn_21 ?_
      refine r_gd hf (fun q22_2 hf => ?_)
      refine r_iald C hI 10 (n := 10) (k_8_10 h0) (by decide) rfl q22_2 dX8_whoIn_22 ?_
      refine r_iload_n C hl 1 dX8_whoIn_23 rfl rfl ?_
      refine r_gd hf (fun q24_3 hf => ?_)
      refine r_gd hf (fun q24_4 hf => ?_)
      refine r_ic_ne C q24_3 q24_4 (tgt := 33) dX8_whoIn_24 (by decide) hf (fun hf => ?_) (fun hf => ?_)
      · refine r_iconst C dX8_whoIn_33 ?_
        refine r_ior C dX8_whoIn_34 ?_
        refine r_istore_n C hl (lv' := [(2, iI (i_or v2 0)), (0, rI g o0), (1, iI v1), (3, iI v3)]) dX8_whoIn_35 rfl (Nat.le_of_ble_eq_true rfl) rfl (fun ls hl => ?_)
        refine r_iinc C hl (lv' := [(3, iI (v3 + 1)), (2, iI (i_or v2 0)), (0, rI g o0), (1, iI v1)]) 3 dX8_whoIn_36 rfl (Nat.le_of_ble_eq_true rfl) rfl (fun ls hl => ?_)
        refine r_goto C (tgt := 4) dX8_whoIn_39 (by decide) ?_
        exact ih _ _ _ _ _ _ hf hI (lv_sub hl [2, 3, 1, 0] rfl)
      · refine r_iconst C dX8_whoIn_27 ?_
        refine r_iload_n C hl 3 dX8_whoIn_28 rfl rfl ?_
        refine r_ishl C dX8_whoIn_29 ?_
        refine r_goto C (tgt := 34) dX8_whoIn_30 (by decide) ?_
        refine r_ior C dX8_whoIn_34 ?_
        refine r_istore_n C hl (lv' := [(2, iI (i_or v2 (i_shl 1 v3))), (0, rI g o0), (1, iI v1), (3, iI v3)]) dX8_whoIn_35 rfl (Nat.le_of_ble_eq_true rfl) rfl (fun ls hl => ?_)
        refine r_iinc C hl (lv' := [(3, iI (v3 + 1)), (2, iI (i_or v2 (i_shl 1 v3))), (0, rI g o0), (1, iI v1)]) 3 dX8_whoIn_36 rfl (Nat.le_of_ble_eq_true rfl) rfl (fun ls hl => ?_)
        refine r_goto C (tgt := 4) dX8_whoIn_39 (by decide) ?_
        exact ih _ _ _ _ _ _ hf hI (lv_sub hl [2, 3, 1, 0] rfl)
set_option maxRecDepth 100000 in
set_option maxHeartbeats 4000000 in
theorem c_X8_whoIn {l : Launch} {g : GP} (hj : Inj g) {N : Nat} {M : Mem} {o0 : Nat} {v1 : Int} (h0 : kd o0 = 8) {r : Int × Mem} (hf : f_X8_whoIn N o0 v1 M = some r) : Met l yX8_whoIn (Cond.code yX8_whoIn cX8_whoIn 4 (some .int) :: TB) (rmK 0 0) (PreW g M [rI g o0, iI v1]) (PostI g r.1 r.2) 0 0 (Ad g) := by
  unfold f_X8_whoIn at hf
  refine met_of (nL := 4) (cc := cX8_whoIn) (M := M) (by decide +kernel) hj (Nat.le_of_ble_eq_true rfl) ?_
  intro p e s m below meth c ls C hr hlk hI hl
  have C : Cx g p s m _ c cX8_whoIn 4 "LentGalleryModel" := C
  have hl : lv_has ls 4 [(0, rI g o0), (1, iI v1)] := hl
  have hQ := ret_i (l := l) (e := e) (R := (rmK 0 0)) (below := below) (r := r) C hr hlk (nar_i _)
  generalize s.heap = H, ([] : List Loc) = locs at hI ⊢
  refine r_iconst C dX8_whoIn_0 ?_
  refine r_istore_n C hl (lv' := [(2, iI 0), (0, rI g o0), (1, iI v1)]) dX8_whoIn_1 rfl (Nat.le_of_ble_eq_true rfl) rfl (fun ls hl => ?_)
  refine r_iconst C dX8_whoIn_2 ?_
  refine r_istore_n C hl (lv' := [(3, iI 0), (2, iI 0), (0, rI g o0), (1, iI v1)]) dX8_whoIn_3 rfl (Nat.le_of_ble_eq_true rfl) rfl (fun ls hl => ?_)
  exact t_X8_whoIn_4 h0 C hQ _ _ _ _ _ _ _ hf hI (lv_sub hl [2, 3, 1, 0] rfl)
/-! X8_isKnocked -/
def f_X8_isKnocked_57 (N : Nat) (o0 : Nat) (v1 : Int) (v2 : Int) (k16 : Int → Int → Mem → Option (Int × Mem)) (k26 : Int → Int → Int → Mem → Option (Int × Mem)) (v3 : Int) (v4 : Int) (v5 : Int) (s0 : Int) (M : Mem) : Option (Int × Mem) := gd (inR v3) (if v3 = 0 then (k26 0 v4 (v5 + 1) M) else (gd (0 ≤ ((3 * v5) + 1) ∧ ((3 * v5) + 1) < 24) (gd (inR (M (ch o0 17) ((3 * v5) + 1).toNat)) (gd (inR v4) (if (M (ch o0 17) ((3 * v5) + 1).toNat) = v4 then (gd (0 ≤ ((3 * v5) + 2) ∧ ((3 * v5) + 2) < 24) (gd (inR s0) (gd (inR (M (ch o0 17) ((3 * v5) + 2).toNat)) (if s0 = (M (ch o0 17) ((3 * v5) + 2).toNat) then (k26 1 v4 (v5 + 1) M) else (k26 0 v4 (v5 + 1) M))))) else (k26 1 v4 (v5 + 1) M))))))
def f_X8_isKnocked_26 (N : Nat) (o0 : Nat) (v1 : Int) (v2 : Int) (k16 : Int → Int → Mem → Option (Int × Mem)) : Nat → Int → Int → Int → Mem → Option (Int × Mem)
  | 0, _, _, _, _ => none
  | n + 1, v3, v4, v5, M => gd (inR v5) (gd (inR (M o0 16)) (if (M o0 16) ≤ v5 then (bnd (f_X8_goesBy N o0 M) (fun r108 M108 => k16 v3 (v4 + 1) M108)) else (gd (0 ≤ (3 * v5) ∧ (3 * v5) < 24) (gd (0 ≤ (M (ch o0 17) (3 * v5).toNat) ∧ (M (ch o0 17) (3 * v5).toNat) < 6) (gd (inR (M (ch o0 12) (M (ch o0 17) (3 * v5).toNat).toNat)) (if (M (ch o0 12) (M (ch o0 17) (3 * v5).toNat).toNat) ≤ 0 then (f_X8_isKnocked_57 N o0 v1 v2 k16 (f_X8_isKnocked_26 N o0 v1 v2 k16 n) v3 v4 v5 0 M) else (f_X8_isKnocked_57 N o0 v1 v2 k16 (f_X8_isKnocked_26 N o0 v1 v2 k16 n) v3 v4 v5 1 M)))))))
def f_X8_isKnocked_16 (N : Nat) (o0 : Nat) (v1 : Int) (v2 : Int) : Nat → Int → Int → Mem → Option (Int × Mem)
  | 0, _, _, _ => none
  | n + 1, v3, v4, M => gd (inR v4) (if 21 ≤ v4 then (gd (v3 = 0 ∨ v3 = 1) (some (v3, M))) else (f_X8_isKnocked_26 N o0 v1 v2 (f_X8_isKnocked_16 N o0 v1 v2 n) N v3 v4 0 M))
def f_X8_isKnocked (N : Nat) (o0 : Nat) (v1 : Int) (v2 : Int) (M : Mem) : Option (Int × Mem) := bnv (f_X8_asItIs N o0 M) (fun M1 => gd (0 ≤ v1 ∧ v1 < 6) (f_X8_isKnocked_16 N o0 v1 v2 N 1 0 (st M1 (ch o0 12) v1.toNat v2)))
theorem F_X8_isKnocked : CalF yX8_isKnocked cX8_isKnocked 7 (some .boolean) 2 := ⟨w_734, w_9, by decide +kernel⟩
set_option maxRecDepth 100000 in
set_option maxHeartbeats 4000000 in
theorem t_X8_isKnocked_57 {g : GP} {p : Program} {l : Launch} {e : Env} {s : State} {m : MethodId} {args : Array Value} {below : List Frame} {meth : Method} {c : Code} {Q : State → Prop} {N : Nat} {o0 : Nat} {v1 : Int} {v2 : Int} (h0 : kd o0 = 8) (C : Cx g p s m args c cX8_isKnocked 7 "LentGalleryModel") {r : Int × Mem} (hQ : RetZ g p l e (rmK 4 91) s m args below meth c cX8_isKnocked r Q) {k16 : Int → Int → Mem → Option (Int × Mem)} (hk16 : ∀ (v3 v4 : Int) (M : Mem) (H : Heap) (locs : List Loc) (ls : Array Slot), k16 v3 v4 M = some r → Inv g s M H locs → lv_has ls 7 [(0, rI g o0), (3, iI v3), (4, iI v4)] → W p l e (rmK 4 91) s m args below meth c H locs 0 0 Q (F0 m 16 ls [])) {k26 : Int → Int → Int → Mem → Option (Int × Mem)} (hk26 : ∀ (v3 v4 v5 : Int) (M : Mem) (H : Heap) (locs : List Loc) (ls : Array Slot), k26 v3 v4 v5 M = some r → Inv g s M H locs → lv_has ls 7 [(0, rI g o0), (3, iI v3), (4, iI v4), (5, iI v5)] → W p l e (rmK 4 91) s m args below meth c H locs 0 0 Q (F0 m 26 ls [])) : ∀ (v3 v4 v5 s0 : Int) (M : Mem) (H : Heap) (locs : List Loc) (ls : Array Slot), f_X8_isKnocked_57 N o0 v1 v2 k16 k26 v3 v4 v5 s0 M = some r → Inv g s M H locs → lv_has ls 7 [(0, rI g o0), (3, iI v3), (4, iI v4), (5, iI v5)] → W p l e (rmK 4 91) s m args below meth c H locs 0 0 Q (F0 m 57 ls [iI s0]) := by
  intro v3 v4 v5 s0 M H locs ls hf hI hl
  unfold f_X8_isKnocked_57 at hf
  refine r_istore C hl (lv' := [(6, iI s0), (0, rI g o0), (3, iI v3), (4, iI v4), (5, iI v5)]) dX8_isKnocked_57 (Nat.le_of_ble_eq_true rfl) rfl (fun ls hl => ?_)
  refine r_iload_n C hl 2 dX8_isKnocked_59 rfl rfl ?_
  refine r_gd hf (fun q60_0 hf => ?_)
  refine r_if_eq C q60_0 (tgt := 99) dX8_isKnocked_60 (by decide) hf (fun hf => ?_) (fun hf => ?_)
  · refine r_iconst C dX8_isKnocked_99 ?_
    refine r_istore_n C hl (lv' := [(3, iI 0), (6, iI s0), (0, rI g o0), (4, iI v4), (5, iI v5)]) dX8_isKnocked_100 rfl (Nat.le_of_ble_eq_true rfl) rfl (fun ls hl => ?_)
    refine r_iinc C hl (lv' := [(5, iI (v5 + 1)), (3, iI 0), (6, iI s0), (0, rI g o0), (4, iI v4)]) 4 dX8_isKnocked_101 rfl (Nat.le_of_ble_eq_true rfl) rfl (fun ls hl => ?_)
    refine r_goto C (tgt := 26) dX8_isKnocked_104 (by decide) ?_
    exact hk26 _ _ _ _ _ _ _ hf hI (lv_sub hl [3, 1, 4, 0] rfl)
  · refine r_aload_n C hl 1 dX8_isKnocked_63 rfl rfl ?_
    refine g_8_17 C hI h0 w_579 dX8_isKnocked_64 ?_
    refine r_iconst C dX8_isKnocked_67 ?_
    refine r_iload C hl 4 dX8_isKnocked_68 rfl ?_
    refine r_imul C dX8_isKnocked_70 ?_
    refine r_iconst C dX8_isKnocked_71 ?_
    refine r_iadd C dX8_isKnocked_72 ?_
    refine r_gd hf (fun q73_1 hf => ?_)
    refine r_iald C hI 24 (n := 24) (k_8_17 h0) (by decide) rfl q73_1 dX8_isKnocked_73 ?_
    refine r_iload C hl 3 dX8_isKnocked_74 rfl ?_
    refine r_gd hf (fun q76_2 hf => ?_)
    refine r_gd hf (fun q76_3 hf => ?_)
    refine r_ic_ne C q76_2 q76_3 (tgt := 95) dX8_isKnocked_76 (by decide) hf (fun hf => ?_) (fun hf => ?_)
    · refine r_iconst C dX8_isKnocked_95 ?_
      refine r_goto C (tgt := 100) dX8_isKnocked_96 (by decide) ?_
      refine r_istore_n C hl (lv' := [(3, iI 1), (6, iI s0), (0, rI g o0), (4, iI v4), (5, iI v5)]) dX8_isKnocked_100 rfl (Nat.le_of_ble_eq_true rfl) rfl (fun ls hl => ?_)
      refine r_iinc C hl (lv' := [(5, iI (v5 + 1)), (3, iI 1), (6, iI s0), (0, rI g o0), (4, iI v4)]) 4 dX8_isKnocked_101 rfl (Nat.le_of_ble_eq_true rfl) rfl (fun ls hl => ?_)
      refine r_goto C (tgt := 26) dX8_isKnocked_104 (by decide) ?_
      exact hk26 _ _ _ _ _ _ _ hf hI (lv_sub hl [3, 1, 4, 0] rfl)
    · refine r_iload C hl 0 dX8_isKnocked_79 rfl ?_
      refine r_aload_n C hl 1 dX8_isKnocked_81 rfl rfl ?_
      refine g_8_17 C hI h0 w_579 dX8_isKnocked_82 ?_
      refine r_iconst C dX8_isKnocked_85 ?_
      refine r_iload C hl 4 dX8_isKnocked_86 rfl ?_
      refine r_imul C dX8_isKnocked_88 ?_
      refine r_iconst C dX8_isKnocked_89 ?_
      refine r_iadd C dX8_isKnocked_90 ?_
      refine r_gd hf (fun q91_4 hf => ?_)
      refine r_iald C hI 24 (n := 24) (k_8_17 h0) (by decide) rfl q91_4 dX8_isKnocked_91 ?_
      refine r_gd hf (fun q92_5 hf => ?_)
      refine r_gd hf (fun q92_6 hf => ?_)
      refine r_ic_ne C q92_5 q92_6 (tgt := 99) dX8_isKnocked_92 (by decide) hf (fun hf => ?_) (fun hf => ?_)
      · refine r_iconst C dX8_isKnocked_99 ?_
        refine r_istore_n C hl (lv' := [(3, iI 0), (6, iI s0), (0, rI g o0), (4, iI v4), (5, iI v5)]) dX8_isKnocked_100 rfl (Nat.le_of_ble_eq_true rfl) rfl (fun ls hl => ?_)
        refine r_iinc C hl (lv' := [(5, iI (v5 + 1)), (3, iI 0), (6, iI s0), (0, rI g o0), (4, iI v4)]) 4 dX8_isKnocked_101 rfl (Nat.le_of_ble_eq_true rfl) rfl (fun ls hl => ?_)
        refine r_goto C (tgt := 26) dX8_isKnocked_104 (by decide) ?_
        exact hk26 _ _ _ _ _ _ _ hf hI (lv_sub hl [3, 1, 4, 0] rfl)
      · refine r_iconst C dX8_isKnocked_95 ?_
        refine r_goto C (tgt := 100) dX8_isKnocked_96 (by decide) ?_
        refine r_istore_n C hl (lv' := [(3, iI 1), (6, iI s0), (0, rI g o0), (4, iI v4), (5, iI v5)]) dX8_isKnocked_100 rfl (Nat.le_of_ble_eq_true rfl) rfl (fun ls hl => ?_)
        refine r_iinc C hl (lv' := [(5, iI (v5 + 1)), (3, iI 1), (6, iI s0), (0, rI g o0), (4, iI v4)]) 4 dX8_isKnocked_101 rfl (Nat.le_of_ble_eq_true rfl) rfl (fun ls hl => ?_)
        refine r_goto C (tgt := 26) dX8_isKnocked_104 (by decide) ?_
        exact hk26 _ _ _ _ _ _ _ hf hI (lv_sub hl [3, 1, 4, 0] rfl)
set_option maxRecDepth 100000 in
set_option maxHeartbeats 4000000 in
theorem t_X8_isKnocked_26 {g : GP} {p : Program} {l : Launch} {e : Env} {s : State} {m : MethodId} {args : Array Value} {below : List Frame} {meth : Method} {c : Code} {Q : State → Prop} {N : Nat} {o0 : Nat} {v1 : Int} {v2 : Int} (h0 : kd o0 = 8) (C : Cx g p s m args c cX8_isKnocked 7 "LentGalleryModel") {r : Int × Mem} (hQ : RetZ g p l e (rmK 4 91) s m args below meth c cX8_isKnocked r Q) {k16 : Int → Int → Mem → Option (Int × Mem)} (hk16 : ∀ (v3 v4 : Int) (M : Mem) (H : Heap) (locs : List Loc) (ls : Array Slot), k16 v3 v4 M = some r → Inv g s M H locs → lv_has ls 7 [(0, rI g o0), (3, iI v3), (4, iI v4)] → W p l e (rmK 4 91) s m args below meth c H locs 0 0 Q (F0 m 16 ls [])) : ∀ (n : Nat) (v3 v4 v5 : Int) (M : Mem) (H : Heap) (locs : List Loc) (ls : Array Slot), f_X8_isKnocked_26 N o0 v1 v2 k16 n v3 v4 v5 M = some r → Inv g s M H locs → lv_has ls 7 [(0, rI g o0), (3, iI v3), (4, iI v4), (5, iI v5)] → W p l e (rmK 4 91) s m args below meth c H locs 0 0 Q (F0 m 26 ls []) := by
  intro n
  induction n with
  | zero =>
    intro v3 v4 v5 M H locs ls hf hI hl
    cases hf
  | succ n ih =>
    intro v3 v4 v5 M H locs ls hf hI hl
    rw [f_X8_isKnocked_26] at hf
    refine r_iload C hl 3 dX8_isKnocked_26 rfl ?_
    refine r_aload_n C hl 0 dX8_isKnocked_28 rfl rfl ?_
    refine g_8_16 C hI h0 w_578 dX8_isKnocked_29 ?_
    refine r_gd hf (fun q32_0 hf => ?_)
    refine r_gd hf (fun q32_1 hf => ?_)
    refine r_ic_ge C q32_0 q32_1 (tgt := 107) dX8_isKnocked_32 (by decide) hf (fun hf => ?_) (fun hf => ?_)
    · refine r_aload_n C hl 0 dX8_isKnocked_107 rfl rfl ?_
      refine r_calli (rest := []) hI hf (fun r M' h => run_V C hI F_X8_goesBy w_737 v_20 w_735 ⟨⟨Nat.le_of_ble_eq_true rfl, Nat.le_of_ble_eq_true rfl⟩, Nat.le_of_ble_eq_true rfl, Nat.le_of_ble_eq_true rfl⟩ (zX8 h0) (oX8 h0) rfl hl dX8_isKnocked_108 [] rfl rfl (Nat.le_of_ble_eq_true rfl) (c_X8_goesBy C.2.2.2.2.2.2 h0 h)) (fun r108 M108 H locs hI hf => ?_)
      refine r_istore C hl (lv' := [(5, iI r108), (0, rI g o0), (3, iI v3), (4, iI v4)]) dX8_isKnocked_111 (Nat.le_of_ble_eq_true rfl) rfl (fun ls hl => ?_)
      refine r_iinc C hl (lv' := [(4, iI (v4 + 1)), (5, iI r108), (0, rI g o0), (3, iI v3)]) 3 dX8_isKnocked_113 rfl (Nat.le_of_ble_eq_true rfl) rfl (fun ls hl => ?_)
      refine r_goto C (tgt := 16) dX8_isKnocked_116 (by decide) ?_
      exact hk16 _ _ _ _ _ _ hf hI (lv_sub hl [2, 3, 0] rfl)
    · refine r_aload_n C hl 0 dX8_isKnocked_35 rfl rfl ?_
      refine g_8_12 C hI h0 w_574 dX8_isKnocked_36 ?_
      refine r_aload_n C hl 0 dX8_isKnocked_39 rfl rfl ?_
      refine g_8_17 C hI h0 w_579 dX8_isKnocked_40 ?_
      refine r_iconst C dX8_isKnocked_43 ?_
      refine r_iload C hl 3 dX8_isKnocked_44 rfl ?_
      refine r_imul C dX8_isKnocked_46 ?_
      refine r_gd hf (fun q47_2 hf => ?_)
      refine r_iald C hI 24 (n := 24) (k_8_17 h0) (by decide) rfl q47_2 dX8_isKnocked_47 ?_
      refine r_gd hf (fun q48_3 hf => ?_)
      refine r_iald C hI 6 (n := 6) (k_8_12 h0) (by decide) rfl q48_3 dX8_isKnocked_48 ?_
      refine r_gd hf (fun q49_4 hf => ?_)
      refine r_if_le C q49_4 (tgt := 56) dX8_isKnocked_49 (by decide) hf (fun hf => ?_) (fun hf => ?_)
      · refine r_iconst C dX8_isKnocked_56 ?_
        exact t_X8_isKnocked_57 h0 C hQ hk16 ih _ _ _ _ _ _ _ _ hf hI (lv_sub hl [0, 1, 2, 3] rfl)
      · refine r_iconst C dX8_isKnocked_52 ?_
        refine r_goto C (tgt := 57) dX8_isKnocked_53 (by decide) ?_
        exact t_X8_isKnocked_57 h0 C hQ hk16 ih _ _ _ _ _ _ _ _ hf hI (lv_sub hl [0, 1, 2, 3] rfl)
set_option maxRecDepth 100000 in
set_option maxHeartbeats 4000000 in
theorem t_X8_isKnocked_16 {g : GP} {p : Program} {l : Launch} {e : Env} {s : State} {m : MethodId} {args : Array Value} {below : List Frame} {meth : Method} {c : Code} {Q : State → Prop} {N : Nat} {o0 : Nat} {v1 : Int} {v2 : Int} (h0 : kd o0 = 8) (C : Cx g p s m args c cX8_isKnocked 7 "LentGalleryModel") {r : Int × Mem} (hQ : RetZ g p l e (rmK 4 91) s m args below meth c cX8_isKnocked r Q) : ∀ (n : Nat) (v3 v4 : Int) (M : Mem) (H : Heap) (locs : List Loc) (ls : Array Slot), f_X8_isKnocked_16 N o0 v1 v2 n v3 v4 M = some r → Inv g s M H locs → lv_has ls 7 [(0, rI g o0), (3, iI v3), (4, iI v4)] → W p l e (rmK 4 91) s m args below meth c H locs 0 0 Q (F0 m 16 ls []) := by
  intro n
  induction n with
  | zero =>
    intro v3 v4 M H locs ls hf hI hl
    cases hf
  | succ n ih =>
    intro v3 v4 M H locs ls hf hI hl
    rw [f_X8_isKnocked_16] at hf
    refine r_iload C hl 2 dX8_isKnocked_16 rfl ?_
    refine r_bipush C dX8_isKnocked_18 rfl ?_
    refine r_gd hf (fun q20_0 hf => ?_)
    refine r_ic_ge C q20_0 (by decide) (tgt := 119) dX8_isKnocked_20 (by decide) hf (fun hf => ?_) (fun hf => ?_)
    · refine r_iload_n C hl 1 dX8_isKnocked_119 rfl rfl ?_
      refine r_gd hf (fun q120_1 hf => ?_)
      exact r_zret hQ q120_1 hf hI dX8_isKnocked_120
    · refine r_iconst C dX8_isKnocked_23 ?_
      refine r_istore C hl (lv' := [(5, iI 0), (0, rI g o0), (3, iI v3), (4, iI v4)]) dX8_isKnocked_24 (Nat.le_of_ble_eq_true rfl) rfl (fun ls hl => ?_)
      exact t_X8_isKnocked_26 h0 C hQ ih _ _ _ _ _ _ _ _ hf hI (lv_sub hl [1, 2, 3, 0] rfl)
set_option maxRecDepth 100000 in
set_option maxHeartbeats 4000000 in
theorem c_X8_isKnocked {l : Launch} {g : GP} (hj : Inj g) {N : Nat} {M : Mem} {o0 : Nat} {v1 : Int} {v2 : Int} (h0 : kd o0 = 8) {r : Int × Mem} (hf : f_X8_isKnocked N o0 v1 v2 M = some r) : Met l yX8_isKnocked (Cond.code yX8_isKnocked cX8_isKnocked 7 (some .boolean) :: TB) (rmK 4 91) (PreW g M [rI g o0, iI v1, iI v2]) (PostI g r.1 r.2) 0 0 (Ad g) := by
  unfold f_X8_isKnocked at hf
  refine met_of (nL := 7) (cc := cX8_isKnocked) (M := M) (by decide +kernel) hj (Nat.le_of_ble_eq_true rfl) ?_
  intro p e s m below meth c ls C hr hlk hI hl
  have C : Cx g p s m _ c cX8_isKnocked 7 "LentGalleryModel" := C
  have hl : lv_has ls 7 [(0, rI g o0), (1, iI v1), (2, iI v2)] := hl
  have hQ := ret_z (l := l) (e := e) (R := (rmK 4 91)) (below := below) (r := r) C hr hlk
  generalize s.heap = H, ([] : List Loc) = locs at hI ⊢
  refine r_aload_n C hl 0 dX8_isKnocked_0 rfl rfl ?_
  refine r_callv (rest := []) hI hf (fun M' h => run_V C hI F_X8_asItIs w_704 v_14 w_702 ⟨⟨Nat.le_of_ble_eq_true rfl, Nat.le_of_ble_eq_true rfl⟩, Nat.le_of_ble_eq_true rfl, Nat.le_of_ble_eq_true rfl⟩ (zX8 h0) (oX8 h0) rfl hl dX8_isKnocked_1 [] rfl rfl (Nat.le_of_ble_eq_true rfl) (c_X8_asItIs C.2.2.2.2.2.2 h0 h)) (fun M1 H locs hI hf => ?_)
  refine r_aload_n C hl 0 dX8_isKnocked_4 rfl rfl ?_
  refine g_8_12 C hI h0 w_574 dX8_isKnocked_5 ?_
  refine r_iload_n C hl 1 dX8_isKnocked_8 rfl rfl ?_
  refine r_iload_n C hl 2 dX8_isKnocked_9 rfl rfl ?_
  refine r_gd hf (fun q10_0 hf => ?_)
  refine r_iast C hI 6 (n := 6) (k_8_12 h0) (by decide) rfl q10_0 dX8_isKnocked_10 (fun H locs hI => ?_)
  refine r_iconst C dX8_isKnocked_11 ?_
  refine r_istore_n C hl (lv' := [(3, iI 1), (0, rI g o0), (1, iI v1), (2, iI v2)]) dX8_isKnocked_12 rfl (Nat.le_of_ble_eq_true rfl) rfl (fun ls hl => ?_)
  refine r_iconst C dX8_isKnocked_13 ?_
  refine r_istore C hl (lv' := [(4, iI 0), (3, iI 1), (0, rI g o0), (1, iI v1), (2, iI v2)]) dX8_isKnocked_14 (Nat.le_of_ble_eq_true rfl) rfl (fun ls hl => ?_)
  exact t_X8_isKnocked_16 h0 C hQ _ _ _ _ _ _ _ hf hI (lv_sub hl [2, 1, 0] rfl)
/-! X8_strongOf -/
def f_X8_strongOf_4 (N : Nat) (o0 : Nat) (v1 : Int) : Nat → Int → Int → Mem → Option (Int × Mem)
  | 0, _, _, _ => none
  | n + 1, v2, v3, M => gd (inR v3) (if 10 ≤ v3 then (some (v2, M)) else (bnd (f_X8_isKnocked N o0 v1 v3 M) (fun r14 M14 => gd (inR r14) (if r14 = 0 then (f_X8_strongOf_4 N o0 v1 n (i_or v2 0) (v3 + 1) M14) else (f_X8_strongOf_4 N o0 v1 n (i_or v2 (i_shl 1 v3)) (v3 + 1) M14)))))
def f_X8_strongOf (N : Nat) (o0 : Nat) (v1 : Int) (M : Mem) : Option (Int × Mem) := f_X8_strongOf_4 N o0 v1 N 0 0 M
theorem F_X8_strongOf : CalF yX8_strongOf cX8_strongOf 4 (some .int) 1 := ⟨w_730, w_9, by decide +kernel⟩
set_option maxRecDepth 100000 in
set_option maxHeartbeats 4000000 in
theorem t_X8_strongOf_4 {g : GP} {p : Program} {l : Launch} {e : Env} {s : State} {m : MethodId} {args : Array Value} {below : List Frame} {meth : Method} {c : Code} {Q : State → Prop} {N : Nat} {o0 : Nat} {v1 : Int} (h0 : kd o0 = 8) (C : Cx g p s m args c cX8_strongOf 4 "LentGalleryModel") {r : Int × Mem} (hQ : RetI g p l e (rmK 5 117) s m args below meth c cX8_strongOf r Q) : ∀ (n : Nat) (v2 v3 : Int) (M : Mem) (H : Heap) (locs : List Loc) (ls : Array Slot), f_X8_strongOf_4 N o0 v1 n v2 v3 M = some r → Inv g s M H locs → lv_has ls 4 [(0, rI g o0), (1, iI v1), (2, iI v2), (3, iI v3)] → W p l e (rmK 5 117) s m args below meth c H locs 0 0 Q (F0 m 4 ls []) := by
  intro n
  induction n with
  | zero =>
    intro v2 v3 M H locs ls hf hI hl
    cases hf
  | succ n ih =>
    intro v2 v3 M H locs ls hf hI hl
    rw [f_X8_strongOf_4] at hf
    refine r_iload_n C hl 3 dX8_strongOf_4 rfl rfl ?_
    refine r_bipush C dX8_strongOf_5 rfl ?_
    refine r_gd hf (fun q7_0 hf => ?_)
    refine r_ic_ge C q7_0 (by decide) (tgt := 35) dX8_strongOf_7 (by decide) hf (fun hf => ?_) (fun hf => ?_)
    · refine r_iload_n C hl 2 dX8_strongOf_35 rfl rfl ?_
      exact r_iret hQ hf hI dX8_strongOf_36
    · refine r_iload_n C hl 2 dX8_strongOf_10 rfl rfl ?_
      refine r_aload_n C hl 0 dX8_strongOf_11 rfl rfl ?_
      refine r_iload_n C hl 1 dX8_strongOf_12 rfl rfl ?_
      refine r_iload_n C hl 3 dX8_strongOf_13 rfl rfl ?_
      refine r_calli (rest := [iI v2]) hI hf (fun r M' h => run_V C hI F_X8_isKnocked w_733 v_19 w_731 ⟨⟨Nat.le_of_ble_eq_true rfl, Nat.le_of_ble_eq_true rfl⟩, Nat.le_of_ble_eq_true rfl, Nat.le_of_ble_eq_true rfl⟩ (zX8 h0) (oX8 h0) rfl hl dX8_strongOf_14 [iI v1, iI v3] rfl rfl (Nat.le_of_ble_eq_true rfl) (c_X8_isKnocked C.2.2.2.2.2.2 h0 h)) (fun r14 M14 H locs hI hf => ?_)
      refine r_gd hf (fun q17_1 hf => ?_)
      refine r_if_eq C q17_1 (tgt := 26) dX8_strongOf_17 (by decide) hf (fun hf => ?_) (fun hf => ?_)
      · refine r_iconst C dX8_strongOf_26 ?_
        refine r_ior C dX8_strongOf_27 ?_
        refine r_istore_n C hl (lv' := [(2, iI (i_or v2 0)), (0, rI g o0), (1, iI v1), (3, iI v3)]) dX8_strongOf_28 rfl (Nat.le_of_ble_eq_true rfl) rfl (fun ls hl => ?_)
        refine r_iinc C hl (lv' := [(3, iI (v3 + 1)), (2, iI (i_or v2 0)), (0, rI g o0), (1, iI v1)]) 3 dX8_strongOf_29 rfl (Nat.le_of_ble_eq_true rfl) rfl (fun ls hl => ?_)
        refine r_goto C (tgt := 4) dX8_strongOf_32 (by decide) ?_
        exact ih _ _ _ _ _ _ hf hI (lv_sub hl [2, 3, 1, 0] rfl)
      · refine r_iconst C dX8_strongOf_20 ?_
        refine r_iload_n C hl 3 dX8_strongOf_21 rfl rfl ?_
        refine r_ishl C dX8_strongOf_22 ?_
        refine r_goto C (tgt := 27) dX8_strongOf_23 (by decide) ?_
        refine r_ior C dX8_strongOf_27 ?_
        refine r_istore_n C hl (lv' := [(2, iI (i_or v2 (i_shl 1 v3))), (0, rI g o0), (1, iI v1), (3, iI v3)]) dX8_strongOf_28 rfl (Nat.le_of_ble_eq_true rfl) rfl (fun ls hl => ?_)
        refine r_iinc C hl (lv' := [(3, iI (v3 + 1)), (2, iI (i_or v2 (i_shl 1 v3))), (0, rI g o0), (1, iI v1)]) 3 dX8_strongOf_29 rfl (Nat.le_of_ble_eq_true rfl) rfl (fun ls hl => ?_)
        refine r_goto C (tgt := 4) dX8_strongOf_32 (by decide) ?_
        exact ih _ _ _ _ _ _ hf hI (lv_sub hl [2, 3, 1, 0] rfl)
set_option maxRecDepth 100000 in
set_option maxHeartbeats 4000000 in
theorem c_X8_strongOf {l : Launch} {g : GP} (hj : Inj g) {N : Nat} {M : Mem} {o0 : Nat} {v1 : Int} (h0 : kd o0 = 8) {r : Int × Mem} (hf : f_X8_strongOf N o0 v1 M = some r) : Met l yX8_strongOf (Cond.code yX8_strongOf cX8_strongOf 4 (some .int) :: TB) (rmK 5 117) (PreW g M [rI g o0, iI v1]) (PostI g r.1 r.2) 0 0 (Ad g) := by
  unfold f_X8_strongOf at hf
  refine met_of (nL := 4) (cc := cX8_strongOf) (M := M) (by decide +kernel) hj (Nat.le_of_ble_eq_true rfl) ?_
  intro p e s m below meth c ls C hr hlk hI hl
  have C : Cx g p s m _ c cX8_strongOf 4 "LentGalleryModel" := C
  have hl : lv_has ls 4 [(0, rI g o0), (1, iI v1)] := hl
  have hQ := ret_i (l := l) (e := e) (R := (rmK 5 117)) (below := below) (r := r) C hr hlk (nar_i _)
  generalize s.heap = H, ([] : List Loc) = locs at hI ⊢
  refine r_iconst C dX8_strongOf_0 ?_
  refine r_istore_n C hl (lv' := [(2, iI 0), (0, rI g o0), (1, iI v1)]) dX8_strongOf_1 rfl (Nat.le_of_ble_eq_true rfl) rfl (fun ls hl => ?_)
  refine r_iconst C dX8_strongOf_2 ?_
  refine r_istore_n C hl (lv' := [(3, iI 0), (2, iI 0), (0, rI g o0), (1, iI v1)]) dX8_strongOf_3 rfl (Nat.le_of_ble_eq_true rfl) rfl (fun ls hl => ?_)
  exact t_X8_strongOf_4 h0 C hQ _ _ _ _ _ _ _ hf hI (lv_sub hl [2, 3, 1, 0] rfl)
/-! X8_knockOf -/
def f_X8_knockOf_194 (N : Nat) (o0 : Nat) (v1 : Int) (k129 : Int → Int → Int → Int → Mem → Option (Int × Mem)) (v3 : Int) (v5 : Int) (v6 : Int) (v7 : Int) (s0 : Int) (M : Mem) : Option (Int × Mem) := gd (inR v7) (gd (inR v5) (if v5 ≤ v7 then (k129 v3 s0 v5 (v6 + 1) M) else (k129 v3 s0 v7 (v6 + 1) M)))
def f_X8_knockOf_178 (N : Nat) (o0 : Nat) (v1 : Int) (k129 : Int → Int → Int → Int → Mem → Option (Int × Mem)) (v3 : Int) (v4 : Int) (v5 : Int) (v6 : Int) (s0 : Int) (M : Mem) : Option (Int × Mem) := gd (inR s0) (gd (inR v5) (if v5 ≤ s0 then (f_X8_knockOf_194 N o0 v1 k129 v3 v5 v6 s0 v4 M) else (f_X8_knockOf_194 N o0 v1 k129 v3 v5 v6 s0 v6 M)))
def f_X8_knockOf_129 (N : Nat) (o0 : Nat) (v1 : Int) : Nat → Int → Int → Int → Int → Mem → Option (Int × Mem)
  | 0, _, _, _, _, _ => none
  | n + 1, v3, v4, v5, v6, M => gd (inR v6) (if 11 ≤ v6 then (some (v4, M)) else (gd (inR v3) (if v3 ≤ 0 then (some (v4, M)) else (gd (0 ≤ v6 ∧ v6 < 11) (gd (inR (M (ch o0 18) v6.toNat)) (gd (inR (v3 - (M (ch o0 18) v6.toNat))) (if (M (ch o0 18) v6.toNat) ≤ (v3 - (M (ch o0 18) v6.toNat)) then (f_X8_knockOf_178 N o0 v1 (f_X8_knockOf_129 N o0 v1 n) v3 v4 v5 v6 (v3 - (M (ch o0 18) v6.toNat)) M) else (f_X8_knockOf_178 N o0 v1 (f_X8_knockOf_129 N o0 v1 n) v3 v4 v5 v6 (M (ch o0 18) v6.toNat) M))))))))
def f_X8_knockOf_70 (N : Nat) (o0 : Nat) (v1 : Int) (k35 : Int → Int → Int → Mem → Option (Int × Mem)) : Nat → Int → Int → Int → Int → Mem → Option (Int × Mem)
  | 0, _, _, _, _, _ => none
  | n + 1, v2, v3, v4, v5, M => gd (inR v5) (if 11 ≤ v5 then (k35 v2 v3 (v4 + 1) M) else (bnd (f_X8_goesBy N o0 M) (fun r78 M78 => gd (0 ≤ v5 ∧ v5 < 11) (gd (0 ≤ v1 ∧ v1 < 6) (gd (inR (M78 (ch o0 12) v1.toNat)) (if (M78 (ch o0 12) v1.toNat) ≤ 0 then (f_X8_knockOf_70 N o0 v1 k35 n v2 v3 v4 (v5 + 1) (st M78 (ch o0 18) v5.toNat ((M78 (ch o0 18) v5.toNat) + 0))) else (f_X8_knockOf_70 N o0 v1 k35 n v2 v3 v4 (v5 + 1) (st M78 (ch o0 18) v5.toNat ((M78 (ch o0 18) v5.toNat) + 1)))))))))
def f_X8_knockOf_35 (N : Nat) (o0 : Nat) (v1 : Int) : Nat → Int → Int → Int → Mem → Option (Int × Mem)
  | 0, _, _, _, _ => none
  | n + 1, v2, v3, v4, M => gd (inR v4) (if 10 ≤ v4 then (f_X8_knockOf_129 N o0 v1 N v3 (-1) 11 1 M) else (if (i_and (i_shr v2 v4) 1) = 1 then (bnv (f_X8_asItIs N o0 M) (fun M56 => gd (0 ≤ v1 ∧ v1 < 6) (f_X8_knockOf_70 N o0 v1 (f_X8_knockOf_35 N o0 v1 n) N v2 (v3 + 1) v4 1 (st M56 (ch o0 12) v1.toNat v4)))) else (f_X8_knockOf_35 N o0 v1 n v2 v3 (v4 + 1) M)))
def f_X8_knockOf_11 (N : Nat) (o0 : Nat) (v1 : Int) : Nat → Int → Int → Int → Mem → Option (Int × Mem)
  | 0, _, _, _, _ => none
  | n + 1, v2, v3, v4, M => gd (inR v4) (if 11 ≤ v4 then (f_X8_knockOf_35 N o0 v1 N v2 v3 0 M) else (gd (0 ≤ v4 ∧ v4 < 11) (f_X8_knockOf_11 N o0 v1 n v2 v3 (v4 + 1) (st M (ch o0 18) v4.toNat 0))))
def f_X8_knockOf (N : Nat) (o0 : Nat) (v1 : Int) (M : Mem) : Option (Int × Mem) := bnd (f_X8_strongOf N o0 v1 M) (fun r2 M2 => f_X8_knockOf_11 N o0 v1 N r2 0 0 M2)
theorem F_X8_knockOf : CalF yX8_knockOf cX8_knockOf 8 (some .int) 1 := ⟨w_742, w_9, by decide +kernel⟩
set_option maxRecDepth 100000 in
set_option maxHeartbeats 4000000 in
theorem t_X8_knockOf_194 {g : GP} {p : Program} {l : Launch} {e : Env} {s : State} {m : MethodId} {args : Array Value} {below : List Frame} {meth : Method} {c : Code} {Q : State → Prop} {N : Nat} {o0 : Nat} {v1 : Int} (h0 : kd o0 = 8) (C : Cx g p s m args c cX8_knockOf 8 "LentGalleryModel") {r : Int × Mem} (hQ : RetI g p l e (rmK 6 140) s m args below meth c cX8_knockOf r Q) {k129 : Int → Int → Int → Int → Mem → Option (Int × Mem)} (hk129 : ∀ (v3 v4 v5 v6 : Int) (M : Mem) (H : Heap) (locs : List Loc) (ls : Array Slot), k129 v3 v4 v5 v6 M = some r → Inv g s M H locs → lv_has ls 8 [(0, rI g o0), (3, iI v3), (4, iI v4), (5, iI v5), (6, iI v6)] → W p l e (rmK 6 140) s m args below meth c H locs 0 0 Q (F0 m 129 ls [])) : ∀ (v3 v5 v6 v7 s0 : Int) (M : Mem) (H : Heap) (locs : List Loc) (ls : Array Slot), f_X8_knockOf_194 N o0 v1 k129 v3 v5 v6 v7 s0 M = some r → Inv g s M H locs → lv_has ls 8 [(0, rI g o0), (3, iI v3), (5, iI v5), (6, iI v6), (7, iI v7)] → W p l e (rmK 6 140) s m args below meth c H locs 0 0 Q (F0 m 194 ls [iI s0]) := by
  intro v3 v5 v6 v7 s0 M H locs ls hf hI hl
  unfold f_X8_knockOf_194 at hf
  refine r_istore C hl (lv' := [(4, iI s0), (0, rI g o0), (3, iI v3), (5, iI v5), (6, iI v6), (7, iI v7)]) dX8_knockOf_194 (Nat.le_of_ble_eq_true rfl) rfl (fun ls hl => ?_)
  refine r_iload C hl 5 dX8_knockOf_196 rfl ?_
  refine r_iload C hl 3 dX8_knockOf_198 rfl ?_
  refine r_gd hf (fun q200_0 hf => ?_)
  refine r_gd hf (fun q200_1 hf => ?_)
  refine r_ic_ge C q200_0 q200_1 (tgt := 208) dX8_knockOf_200 (by decide) hf (fun hf => ?_) (fun hf => ?_)
  · refine r_iload C hl 3 dX8_knockOf_208 rfl ?_
    refine r_istore C hl (lv' := [(5, iI v5), (4, iI s0), (0, rI g o0), (3, iI v3), (6, iI v6), (7, iI v7)]) dX8_knockOf_210 (Nat.le_of_ble_eq_true rfl) rfl (fun ls hl => ?_)
    refine r_iinc C hl (lv' := [(6, iI (v6 + 1)), (5, iI v5), (4, iI s0), (0, rI g o0), (3, iI v3), (7, iI v7)]) 4 dX8_knockOf_212 rfl (Nat.le_of_ble_eq_true rfl) rfl (fun ls hl => ?_)
    refine r_goto C (tgt := 129) dX8_knockOf_215 (by decide) ?_
    exact hk129 _ _ _ _ _ _ _ _ hf hI (lv_sub hl [3, 4, 2, 1, 0] rfl)
  · refine r_iload C hl 5 dX8_knockOf_203 rfl ?_
    refine r_goto C (tgt := 210) dX8_knockOf_205 (by decide) ?_
    refine r_istore C hl (lv' := [(5, iI v7), (4, iI s0), (0, rI g o0), (3, iI v3), (6, iI v6), (7, iI v7)]) dX8_knockOf_210 (Nat.le_of_ble_eq_true rfl) rfl (fun ls hl => ?_)
    refine r_iinc C hl (lv' := [(6, iI (v6 + 1)), (5, iI v7), (4, iI s0), (0, rI g o0), (3, iI v3), (7, iI v7)]) 4 dX8_knockOf_212 rfl (Nat.le_of_ble_eq_true rfl) rfl (fun ls hl => ?_)
    refine r_goto C (tgt := 129) dX8_knockOf_215 (by decide) ?_
    exact hk129 _ _ _ _ _ _ _ _ hf hI (lv_sub hl [3, 4, 2, 1, 0] rfl)
set_option maxRecDepth 100000 in
set_option maxHeartbeats 4000000 in
theorem t_X8_knockOf_178 {g : GP} {p : Program} {l : Launch} {e : Env} {s : State} {m : MethodId} {args : Array Value} {below : List Frame} {meth : Method} {c : Code} {Q : State → Prop} {N : Nat} {o0 : Nat} {v1 : Int} (h0 : kd o0 = 8) (C : Cx g p s m args c cX8_knockOf 8 "LentGalleryModel") {r : Int × Mem} (hQ : RetI g p l e (rmK 6 140) s m args below meth c cX8_knockOf r Q) {k129 : Int → Int → Int → Int → Mem → Option (Int × Mem)} (hk129 : ∀ (v3 v4 v5 v6 : Int) (M : Mem) (H : Heap) (locs : List Loc) (ls : Array Slot), k129 v3 v4 v5 v6 M = some r → Inv g s M H locs → lv_has ls 8 [(0, rI g o0), (3, iI v3), (4, iI v4), (5, iI v5), (6, iI v6)] → W p l e (rmK 6 140) s m args below meth c H locs 0 0 Q (F0 m 129 ls [])) : ∀ (v3 v4 v5 v6 s0 : Int) (M : Mem) (H : Heap) (locs : List Loc) (ls : Array Slot), f_X8_knockOf_178 N o0 v1 k129 v3 v4 v5 v6 s0 M = some r → Inv g s M H locs → lv_has ls 8 [(0, rI g o0), (3, iI v3), (4, iI v4), (5, iI v5), (6, iI v6)] → W p l e (rmK 6 140) s m args below meth c H locs 0 0 Q (F0 m 178 ls [iI s0]) := by
  intro v3 v4 v5 v6 s0 M H locs ls hf hI hl
  unfold f_X8_knockOf_178 at hf
  refine r_istore C hl (lv' := [(7, iI s0), (0, rI g o0), (3, iI v3), (4, iI v4), (5, iI v5), (6, iI v6)]) dX8_knockOf_178 (Nat.le_of_ble_eq_true rfl) rfl (fun ls hl => ?_)
  refine r_iload C hl 0 dX8_knockOf_180 rfl ?_
  refine r_iload C hl 4 dX8_knockOf_182 rfl ?_
  refine r_gd hf (fun q184_0 hf => ?_)
  refine r_gd hf (fun q184_1 hf => ?_)
  refine r_ic_ge C q184_0 q184_1 (tgt := 192) dX8_knockOf_184 (by decide) hf (fun hf => ?_) (fun hf => ?_)
  · refine r_iload C hl 3 dX8_knockOf_192 rfl ?_
    exact t_X8_knockOf_194 h0 C hQ hk129 _ _ _ _ _ _ _ _ _ hf hI (lv_sub hl [1, 2, 4, 5, 0] rfl)
  · refine r_iload C hl 5 dX8_knockOf_187 rfl ?_
    refine r_goto C (tgt := 194) dX8_knockOf_189 (by decide) ?_
    exact t_X8_knockOf_194 h0 C hQ hk129 _ _ _ _ _ _ _ _ _ hf hI (lv_sub hl [1, 2, 4, 5, 0] rfl)
set_option maxRecDepth 100000 in
set_option maxHeartbeats 4000000 in
theorem t_X8_knockOf_129 {g : GP} {p : Program} {l : Launch} {e : Env} {s : State} {m : MethodId} {args : Array Value} {below : List Frame} {meth : Method} {c : Code} {Q : State → Prop} {N : Nat} {o0 : Nat} {v1 : Int} (h0 : kd o0 = 8) (C : Cx g p s m args c cX8_knockOf 8 "LentGalleryModel") {r : Int × Mem} (hQ : RetI g p l e (rmK 6 140) s m args below meth c cX8_knockOf r Q) : ∀ (n : Nat) (v3 v4 v5 v6 : Int) (M : Mem) (H : Heap) (locs : List Loc) (ls : Array Slot), f_X8_knockOf_129 N o0 v1 n v3 v4 v5 v6 M = some r → Inv g s M H locs → lv_has ls 8 [(0, rI g o0), (3, iI v3), (4, iI v4), (5, iI v5), (6, iI v6)] → W p l e (rmK 6 140) s m args below meth c H locs 0 0 Q (F0 m 129 ls []) := by
  intro n
  induction n with
  | zero =>
    intro v3 v4 v5 v6 M H locs ls hf hI hl
    cases hf
  | succ n ih =>
    intro v3 v4 v5 v6 M H locs ls hf hI hl
    rw [f_X8_knockOf_129] at hf
    refine r_iload C hl 4 dX8_knockOf_129 rfl ?_
    refine r_bipush C dX8_knockOf_131 rfl ?_
    refine r_gd hf (fun q133_0 hf => ?_)
    refine r_ic_ge C q133_0 (by decide) (tgt := 218) dX8_knockOf_133 (by decide) hf (fun hf => ?_) (fun hf => ?_)
    · refine r_iload C hl 2 dX8_knockOf_218 rfl ?_
      exact r_iret hQ hf hI dX8_knockOf_220
    · refine r_iload_n C hl 1 dX8_knockOf_136 rfl rfl ?_
      refine r_gd hf (fun q137_1 hf => ?_)
      refine r_if_le C q137_1 (tgt := 218) dX8_knockOf_137 (by decide) hf (fun hf => ?_) (fun hf => ?_)
      · refine r_iload C hl 2 dX8_knockOf_218 rfl ?_
        exact r_iret hQ hf hI dX8_knockOf_220
      · refine r_aload_n C hl 0 dX8_knockOf_140 rfl rfl ?_
        refine g_8_18 C hI h0 w_580 dX8_knockOf_141 ?_
        refine r_iload C hl 4 dX8_knockOf_144 rfl ?_
        refine r_gd hf (fun q146_2 hf => ?_)
        refine r_iald C hI 11 (n := 11) (k_8_18 h0) (by decide) rfl q146_2 dX8_knockOf_146 ?_
        refine r_iload_n C hl 1 dX8_knockOf_147 rfl rfl ?_
        refine r_aload_n C hl 0 dX8_knockOf_148 rfl rfl ?_
        refine g_8_18 C hI h0 w_580 dX8_knockOf_149 ?_
        refine r_iload C hl 4 dX8_knockOf_152 rfl ?_
        refine r_iald C hI 11 (n := 11) (k_8_18 h0) (by decide) rfl q146_2 dX8_knockOf_154 ?_
        refine r_isub C dX8_knockOf_155 ?_
        refine r_gd hf (fun q156_3 hf => ?_)
        refine r_gd hf (fun q156_4 hf => ?_)
        refine r_ic_le C q156_3 q156_4 (tgt := 169) dX8_knockOf_156 (by decide) hf (fun hf => ?_) (fun hf => ?_)
        · refine r_iload_n C hl 1 dX8_knockOf_169 rfl rfl ?_
          refine r_aload_n C hl 0 dX8_knockOf_170 rfl rfl ?_
          refine g_8_18 C hI h0 w_580 dX8_knockOf_171 ?_
          refine r_iload C hl 4 dX8_knockOf_174 rfl ?_
          refine r_iald C hI 11 (n := 11) (k_8_18 h0) (by decide) rfl q146_2 dX8_knockOf_176 ?_
          refine r_isub C dX8_knockOf_177 ?_
          exact t_X8_knockOf_178 h0 C hQ ih _ _ _ _ _ _ _ _ _ hf hI (lv_sub hl [0, 1, 2, 3, 4] rfl)
        · refine r_aload_n C hl 0 dX8_knockOf_159 rfl rfl ?_
          refine g_8_18 C hI h0 w_580 dX8_knockOf_160 ?_
          refine r_iload C hl 4 dX8_knockOf_163 rfl ?_
          refine r_iald C hI 11 (n := 11) (k_8_18 h0) (by decide) rfl q146_2 dX8_knockOf_165 ?_
          refine r_goto C (tgt := 178) dX8_knockOf_166 (by decide) ?_
          exact t_X8_knockOf_178 h0 C hQ ih _ _ _ _ _ _ _ _ _ hf hI (lv_sub hl [0, 1, 2, 3, 4] rfl)
set_option maxRecDepth 100000 in
set_option maxHeartbeats 4000000 in
theorem t_X8_knockOf_70 {g : GP} {p : Program} {l : Launch} {e : Env} {s : State} {m : MethodId} {args : Array Value} {below : List Frame} {meth : Method} {c : Code} {Q : State → Prop} {N : Nat} {o0 : Nat} {v1 : Int} (h0 : kd o0 = 8) (C : Cx g p s m args c cX8_knockOf 8 "LentGalleryModel") {r : Int × Mem} (hQ : RetI g p l e (rmK 6 140) s m args below meth c cX8_knockOf r Q) {k35 : Int → Int → Int → Mem → Option (Int × Mem)} (hk35 : ∀ (v2 v3 v4 : Int) (M : Mem) (H : Heap) (locs : List Loc) (ls : Array Slot), k35 v2 v3 v4 M = some r → Inv g s M H locs → lv_has ls 8 [(0, rI g o0), (1, iI v1), (2, iI v2), (3, iI v3), (4, iI v4)] → W p l e (rmK 6 140) s m args below meth c H locs 0 0 Q (F0 m 35 ls [])) : ∀ (n : Nat) (v2 v3 v4 v5 : Int) (M : Mem) (H : Heap) (locs : List Loc) (ls : Array Slot), f_X8_knockOf_70 N o0 v1 k35 n v2 v3 v4 v5 M = some r → Inv g s M H locs → lv_has ls 8 [(0, rI g o0), (1, iI v1), (2, iI v2), (3, iI v3), (4, iI v4), (5, iI v5)] → W p l e (rmK 6 140) s m args below meth c H locs 0 0 Q (F0 m 70 ls []) := by
  intro n
  induction n with
  | zero =>
    intro v2 v3 v4 v5 M H locs ls hf hI hl
    cases hf
  | succ n ih =>
    intro v2 v3 v4 v5 M H locs ls hf hI hl
    rw [f_X8_knockOf_70] at hf
    refine r_iload C hl 5 dX8_knockOf_70 rfl ?_
    refine r_bipush C dX8_knockOf_72 rfl ?_
    refine r_gd hf (fun q74_0 hf => ?_)
    refine r_ic_ge C q74_0 (by decide) (tgt := 113) dX8_knockOf_74 (by decide) hf (fun hf => ?_) (fun hf => ?_)
    · refine r_iinc C hl (lv' := [(4, iI (v4 + 1)), (0, rI g o0), (1, iI v1), (2, iI v2), (3, iI v3), (5, iI v5)]) 4 dX8_knockOf_113 rfl (Nat.le_of_ble_eq_true rfl) rfl (fun ls hl => ?_)
      refine r_goto C (tgt := 35) dX8_knockOf_116 (by decide) ?_
      exact hk35 _ _ _ _ _ _ _ hf hI (lv_sub hl [1, 2, 3, 4, 0] rfl)
    · refine r_aload_n C hl 0 dX8_knockOf_77 rfl rfl ?_
      refine r_calli (rest := []) hI hf (fun r M' h => run_V C hI F_X8_goesBy w_737 v_20 w_735 ⟨⟨Nat.le_of_ble_eq_true rfl, Nat.le_of_ble_eq_true rfl⟩, Nat.le_of_ble_eq_true rfl, Nat.le_of_ble_eq_true rfl⟩ (zX8 h0) (oX8 h0) rfl hl dX8_knockOf_78 [] rfl rfl (Nat.le_of_ble_eq_true rfl) (c_X8_goesBy C.2.2.2.2.2.2 h0 h)) (fun r78 M78 H locs hI hf => ?_)
      refine r_istore C hl (lv' := [(6, iI r78), (0, rI g o0), (1, iI v1), (2, iI v2), (3, iI v3), (4, iI v4), (5, iI v5)]) dX8_knockOf_81 (Nat.le_of_ble_eq_true rfl) rfl (fun ls hl => ?_)
      refine r_aload_n C hl 1 dX8_knockOf_83 rfl rfl ?_
      refine g_8_18 C hI h0 w_580 dX8_knockOf_84 ?_
      refine r_iload C hl 6 dX8_knockOf_87 rfl ?_
      refine r_dup2 C dX8_knockOf_89 rfl rfl ?_
      refine r_gd hf (fun q90_1 hf => ?_)
      refine r_iald C hI 11 (n := 11) (k_8_18 h0) (by decide) rfl q90_1 dX8_knockOf_90 ?_
      refine r_aload_n C hl 1 dX8_knockOf_91 rfl rfl ?_
      refine g_8_12 C hI h0 w_574 dX8_knockOf_92 ?_
      refine r_iload_n C hl 2 dX8_knockOf_95 rfl rfl ?_
      refine r_gd hf (fun q96_2 hf => ?_)
      refine r_iald C hI 6 (n := 6) (k_8_12 h0) (by decide) rfl q96_2 dX8_knockOf_96 ?_
      refine r_gd hf (fun q97_3 hf => ?_)
      refine r_if_le C q97_3 (tgt := 104) dX8_knockOf_97 (by decide) hf (fun hf => ?_) (fun hf => ?_)
      · refine r_iconst C dX8_knockOf_104 ?_
        refine r_iadd C dX8_knockOf_105 ?_
        refine r_iast C hI 11 (n := 11) (k_8_18 h0) (by decide) rfl q90_1 dX8_knockOf_106 (fun H locs hI => ?_)
        refine r_iinc C hl (lv' := [(5, iI (v5 + 1)), (6, iI r78), (0, rI g o0), (1, iI v1), (2, iI v2), (3, iI v3), (4, iI v4)]) 6 dX8_knockOf_107 rfl (Nat.le_of_ble_eq_true rfl) rfl (fun ls hl => ?_)
        refine r_goto C (tgt := 70) dX8_knockOf_110 (by decide) ?_
        exact ih _ _ _ _ _ _ _ _ hf hI (lv_sub hl [2, 3, 4, 5, 6, 0] rfl)
      · refine r_iconst C dX8_knockOf_100 ?_
        refine r_goto C (tgt := 105) dX8_knockOf_101 (by decide) ?_
        refine r_iadd C dX8_knockOf_105 ?_
        refine r_iast C hI 11 (n := 11) (k_8_18 h0) (by decide) rfl q90_1 dX8_knockOf_106 (fun H locs hI => ?_)
        refine r_iinc C hl (lv' := [(5, iI (v5 + 1)), (6, iI r78), (0, rI g o0), (1, iI v1), (2, iI v2), (3, iI v3), (4, iI v4)]) 6 dX8_knockOf_107 rfl (Nat.le_of_ble_eq_true rfl) rfl (fun ls hl => ?_)
        refine r_goto C (tgt := 70) dX8_knockOf_110 (by decide) ?_
        exact ih _ _ _ _ _ _ _ _ hf hI (lv_sub hl [2, 3, 4, 5, 6, 0] rfl)
set_option maxRecDepth 100000 in
set_option maxHeartbeats 4000000 in
theorem t_X8_knockOf_35 {g : GP} {p : Program} {l : Launch} {e : Env} {s : State} {m : MethodId} {args : Array Value} {below : List Frame} {meth : Method} {c : Code} {Q : State → Prop} {N : Nat} {o0 : Nat} {v1 : Int} (h0 : kd o0 = 8) (C : Cx g p s m args c cX8_knockOf 8 "LentGalleryModel") {r : Int × Mem} (hQ : RetI g p l e (rmK 6 140) s m args below meth c cX8_knockOf r Q) : ∀ (n : Nat) (v2 v3 v4 : Int) (M : Mem) (H : Heap) (locs : List Loc) (ls : Array Slot), f_X8_knockOf_35 N o0 v1 n v2 v3 v4 M = some r → Inv g s M H locs → lv_has ls 8 [(0, rI g o0), (1, iI v1), (2, iI v2), (3, iI v3), (4, iI v4)] → W p l e (rmK 6 140) s m args below meth c H locs 0 0 Q (F0 m 35 ls []) := by
  intro n
  induction n with
  | zero =>
    intro v2 v3 v4 M H locs ls hf hI hl
    cases hf
  | succ n ih =>
    intro v2 v3 v4 M H locs ls hf hI hl
    rw [f_X8_knockOf_35] at hf
    refine r_iload C hl 4 dX8_knockOf_35 rfl ?_
    refine r_bipush C dX8_knockOf_37 rfl ?_
    refine r_gd hf (fun q39_0 hf => ?_)
    refine r_ic_ge C q39_0 (by decide) (tgt := 119) dX8_knockOf_39 (by decide) hf (fun hf => ?_) (fun hf => ?_)
    · refine r_iconst C dX8_knockOf_119 ?_
      refine r_istore C hl (lv' := [(4, iI (-1)), (0, rI g o0), (1, iI v1), (2, iI v2), (3, iI v3)]) dX8_knockOf_120 (Nat.le_of_ble_eq_true rfl) rfl (fun ls hl => ?_)
      refine r_bipush C dX8_knockOf_122 rfl ?_
      refine r_istore C hl (lv' := [(5, iI 11), (4, iI (-1)), (0, rI g o0), (1, iI v1), (2, iI v2), (3, iI v3)]) dX8_knockOf_124 (Nat.le_of_ble_eq_true rfl) rfl (fun ls hl => ?_)
      refine r_iconst C dX8_knockOf_126 ?_
      refine r_istore C hl (lv' := [(6, iI 1), (5, iI 11), (4, iI (-1)), (0, rI g o0), (1, iI v1), (2, iI v2), (3, iI v3)]) dX8_knockOf_127 (Nat.le_of_ble_eq_true rfl) rfl (fun ls hl => ?_)
      exact t_X8_knockOf_129 h0 C hQ _ _ _ _ _ _ _ _ _ hf hI (lv_sub hl [3, 6, 2, 1, 0] rfl)
    · refine r_iload_n C hl 2 dX8_knockOf_42 rfl rfl ?_
      refine r_iload C hl 4 dX8_knockOf_43 rfl ?_
      refine r_ishr C dX8_knockOf_45 ?_
      refine r_iconst C dX8_knockOf_46 ?_
      refine r_iand C dX8_knockOf_47 ?_
      refine r_iconst C dX8_knockOf_48 ?_
      refine r_ic_ne C (inR_t _) (by decide) (tgt := 113) dX8_knockOf_49 (by decide) hf (fun hf => ?_) (fun hf => ?_)
      · refine r_iinc C hl (lv' := [(4, iI (v4 + 1)), (0, rI g o0), (1, iI v1), (2, iI v2), (3, iI v3)]) 4 dX8_knockOf_113 rfl (Nat.le_of_ble_eq_true rfl) rfl (fun ls hl => ?_)
        refine r_goto C (tgt := 35) dX8_knockOf_116 (by decide) ?_
        exact ih _ _ _ _ _ _ _ hf hI (lv_sub hl [1, 2, 3, 4, 0] rfl)
      · refine r_iinc C hl (lv' := [(3, iI (v3 + 1)), (0, rI g o0), (1, iI v1), (2, iI v2), (4, iI v4)]) 3 dX8_knockOf_52 rfl (Nat.le_of_ble_eq_true rfl) rfl (fun ls hl => ?_)
        refine r_aload_n C hl 1 dX8_knockOf_55 rfl rfl ?_
        refine r_callv (rest := []) hI hf (fun M' h => run_V C hI F_X8_asItIs w_704 v_14 w_702 ⟨⟨Nat.le_of_ble_eq_true rfl, Nat.le_of_ble_eq_true rfl⟩, Nat.le_of_ble_eq_true rfl, Nat.le_of_ble_eq_true rfl⟩ (zX8 h0) (oX8 h0) rfl hl dX8_knockOf_56 [] rfl rfl (Nat.le_of_ble_eq_true rfl) (c_X8_asItIs C.2.2.2.2.2.2 h0 h)) (fun M56 H locs hI hf => ?_)
        refine r_aload_n C hl 1 dX8_knockOf_59 rfl rfl ?_
        refine g_8_12 C hI h0 w_574 dX8_knockOf_60 ?_
        refine r_iload_n C hl 2 dX8_knockOf_63 rfl rfl ?_
        refine r_iload C hl 4 dX8_knockOf_64 rfl ?_
        refine r_gd hf (fun q66_1 hf => ?_)
        refine r_iast C hI 6 (n := 6) (k_8_12 h0) (by decide) rfl q66_1 dX8_knockOf_66 (fun H locs hI => ?_)
        refine r_iconst C dX8_knockOf_67 ?_
        refine r_istore C hl (lv' := [(5, iI 1), (3, iI (v3 + 1)), (0, rI g o0), (1, iI v1), (2, iI v2), (4, iI v4)]) dX8_knockOf_68 (Nat.le_of_ble_eq_true rfl) rfl (fun ls hl => ?_)
        exact t_X8_knockOf_70 h0 C hQ ih _ _ _ _ _ _ _ _ _ hf hI (lv_sub hl [2, 3, 4, 1, 5, 0] rfl)
set_option maxRecDepth 100000 in
set_option maxHeartbeats 4000000 in
theorem t_X8_knockOf_11 {g : GP} {p : Program} {l : Launch} {e : Env} {s : State} {m : MethodId} {args : Array Value} {below : List Frame} {meth : Method} {c : Code} {Q : State → Prop} {N : Nat} {o0 : Nat} {v1 : Int} (h0 : kd o0 = 8) (C : Cx g p s m args c cX8_knockOf 8 "LentGalleryModel") {r : Int × Mem} (hQ : RetI g p l e (rmK 6 140) s m args below meth c cX8_knockOf r Q) : ∀ (n : Nat) (v2 v3 v4 : Int) (M : Mem) (H : Heap) (locs : List Loc) (ls : Array Slot), f_X8_knockOf_11 N o0 v1 n v2 v3 v4 M = some r → Inv g s M H locs → lv_has ls 8 [(0, rI g o0), (1, iI v1), (2, iI v2), (3, iI v3), (4, iI v4)] → W p l e (rmK 6 140) s m args below meth c H locs 0 0 Q (F0 m 11 ls []) := by
  intro n
  induction n with
  | zero =>
    intro v2 v3 v4 M H locs ls hf hI hl
    cases hf
  | succ n ih =>
    intro v2 v3 v4 M H locs ls hf hI hl
    rw [f_X8_knockOf_11] at hf
    refine r_iload C hl 4 dX8_knockOf_11 rfl ?_
    refine r_bipush C dX8_knockOf_13 rfl ?_
    refine r_gd hf (fun q15_0 hf => ?_)
    refine r_ic_ge C q15_0 (by decide) (tgt := 32) dX8_knockOf_15 (by decide) hf (fun hf => ?_) (fun hf => ?_)
    · refine r_iconst C dX8_knockOf_32 ?_
      refine r_istore C hl (lv' := [(4, iI 0), (0, rI g o0), (1, iI v1), (2, iI v2), (3, iI v3)]) dX8_knockOf_33 (Nat.le_of_ble_eq_true rfl) rfl (fun ls hl => ?_)
      exact t_X8_knockOf_35 h0 C hQ _ _ _ _ _ _ _ _ hf hI (lv_sub hl [1, 2, 3, 4, 0] rfl)
    · refine r_aload_n C hl 0 dX8_knockOf_18 rfl rfl ?_
      refine g_8_18 C hI h0 w_580 dX8_knockOf_19 ?_
      refine r_iload C hl 4 dX8_knockOf_22 rfl ?_
      refine r_iconst C dX8_knockOf_24 ?_
      refine r_gd hf (fun q25_1 hf => ?_)
      refine r_iast C hI 11 (n := 11) (k_8_18 h0) (by decide) rfl q25_1 dX8_knockOf_25 (fun H locs hI => ?_)
      refine r_iinc C hl (lv' := [(4, iI (v4 + 1)), (0, rI g o0), (1, iI v1), (2, iI v2), (3, iI v3)]) 4 dX8_knockOf_26 rfl (Nat.le_of_ble_eq_true rfl) rfl (fun ls hl => ?_)
      refine r_goto C (tgt := 11) dX8_knockOf_29 (by decide) ?_
      exact ih _ _ _ _ _ _ _ hf hI (lv_sub hl [1, 2, 3, 4, 0] rfl)
set_option maxRecDepth 100000 in
set_option maxHeartbeats 4000000 in
theorem c_X8_knockOf {l : Launch} {g : GP} (hj : Inj g) {N : Nat} {M : Mem} {o0 : Nat} {v1 : Int} (h0 : kd o0 = 8) {r : Int × Mem} (hf : f_X8_knockOf N o0 v1 M = some r) : Met l yX8_knockOf (Cond.code yX8_knockOf cX8_knockOf 8 (some .int) :: TB) (rmK 6 140) (PreW g M [rI g o0, iI v1]) (PostI g r.1 r.2) 0 0 (Ad g) := by
  unfold f_X8_knockOf at hf
  refine met_of (nL := 8) (cc := cX8_knockOf) (M := M) (by decide +kernel) hj (Nat.le_of_ble_eq_true rfl) ?_
  intro p e s m below meth c ls C hr hlk hI hl
  have C : Cx g p s m _ c cX8_knockOf 8 "LentGalleryModel" := C
  have hl : lv_has ls 8 [(0, rI g o0), (1, iI v1)] := hl
  have hQ := ret_i (l := l) (e := e) (R := (rmK 6 140)) (below := below) (r := r) C hr hlk (nar_i _)
  generalize s.heap = H, ([] : List Loc) = locs at hI ⊢
  refine r_aload_n C hl 0 dX8_knockOf_0 rfl rfl ?_
  refine r_iload_n C hl 1 dX8_knockOf_1 rfl rfl ?_
  refine r_calli (rest := []) hI hf (fun r M' h => run_V C hI F_X8_strongOf w_729 v_18 w_727 ⟨⟨Nat.le_of_ble_eq_true rfl, Nat.le_of_ble_eq_true rfl⟩, Nat.le_of_ble_eq_true rfl, Nat.le_of_ble_eq_true rfl⟩ (zX8 h0) (oX8 h0) rfl hl dX8_knockOf_2 [iI v1] rfl rfl (Nat.le_of_ble_eq_true rfl) (c_X8_strongOf C.2.2.2.2.2.2 h0 h)) (fun r2 M2 H locs hI hf => ?_)
  refine r_istore_n C hl (lv' := [(2, iI r2), (0, rI g o0), (1, iI v1)]) dX8_knockOf_5 rfl (Nat.le_of_ble_eq_true rfl) rfl (fun ls hl => ?_)
  refine r_iconst C dX8_knockOf_6 ?_
  refine r_istore_n C hl (lv' := [(3, iI 0), (2, iI r2), (0, rI g o0), (1, iI v1)]) dX8_knockOf_7 rfl (Nat.le_of_ble_eq_true rfl) rfl (fun ls hl => ?_)
  refine r_iconst C dX8_knockOf_8 ?_
  refine r_istore C hl (lv' := [(4, iI 0), (3, iI 0), (2, iI r2), (0, rI g o0), (1, iI v1)]) dX8_knockOf_9 (Nat.le_of_ble_eq_true rfl) rfl (fun ls hl => ?_)
  exact t_X8_knockOf_11 h0 C hQ _ _ _ _ _ _ _ _ hf hI (lv_sub hl [3, 4, 2, 1, 0] rfl)
/-! X8_tellPlace -/
def f_X8_tellPlace (N : Nat) (o0 : Nat) (v1 : Int) (v2 : Int) (M : Mem) : Option (Int × Mem) := gd (inR v2) (if v2 < 0 ∨ 5 < v2 then (some (-102, M)) else (if v2 = 0 then (gd (0 ≤ v1 ∧ v1 < 6) (some (M (ch o0 8) v1.toNat, M))) else (if v2 = 1 then (bnv (f_X8_asItIs N o0 M) (fun M48 => bnd (f_X8_weightIn N o0 v1 M48) (fun r53 M53 => some (r53, M53)))) else (if v2 = 2 then (bnd (f_X8_whoIn N o0 v1 M) (fun r59 M59 => some (r59, M59))) else (if v2 = 3 then (bnv (f_X8_asItIs N o0 M) (fun M64 => gd (0 ≤ v1 ∧ v1 < 6) (bnd (f_X8_lessOf N o0 v1 (ch o0 12) M64) (fun r79 M79 => gd (inR (M64 (ch o0 8) v1.toNat)) (gd (inR r79) (if r79 ≤ (M64 (ch o0 8) v1.toNat) then (bnd (f_X8_lessOf N o0 v1 (ch o0 12) M79) (fun r100 M100 => some (r100, M100))) else (some (M79 (ch o0 8) v1.toNat, M79)))))))) else (if v2 = 4 then (bnd (f_X8_strongOf N o0 v1 M) (fun r106 M106 => some (r106, M106))) else (bnd (f_X8_knockOf N o0 v1 M) (fun r112 M112 => some (r112, M112)))))))))
theorem F_X8_tellPlace : CalF yX8_tellPlace cX8_tellPlace 3 (some .int) 2 := ⟨w_701, w_9, by decide +kernel⟩
set_option maxRecDepth 100000 in
set_option maxHeartbeats 4000000 in
theorem c_X8_tellPlace {l : Launch} {g : GP} (hj : Inj g) {N : Nat} {M : Mem} {o0 : Nat} {v1 : Int} {v2 : Int} (h0 : kd o0 = 8) {r : Int × Mem} (hf : f_X8_tellPlace N o0 v1 v2 M = some r) : Met l yX8_tellPlace (Cond.code yX8_tellPlace cX8_tellPlace 3 (some .int) :: TB) (rmK 7 167) (PreW g M [rI g o0, iI v1, iI v2]) (PostI g r.1 r.2) 0 0 (Ad g) := by
  unfold f_X8_tellPlace at hf
  refine met_of (nL := 3) (cc := cX8_tellPlace) (M := M) (by decide +kernel) hj (Nat.le_of_ble_eq_true rfl) ?_
  intro p e s m below meth c ls C hr hlk hI hl
  have C : Cx g p s m _ c cX8_tellPlace 3 "LentGalleryModel" := C
  have hl : lv_has ls 3 [(0, rI g o0), (1, iI v1), (2, iI v2)] := hl
  have hQ := ret_i (l := l) (e := e) (R := (rmK 7 167)) (below := below) (r := r) C hr hlk (nar_i _)
  generalize s.heap = H, ([] : List Loc) = locs at hI ⊢
  refine r_iload_n C hl 2 dX8_tellPlace_0 rfl rfl ?_
  refine r_gd hf (fun q1_0 hf => ?_)
  refine r_if hf (fun hc hf => ?_) (fun hc hf => ?_)
  · refine r_tabOut C q1_0 dX8_tellPlace_1 hc (tgt := 116) (by decide) ?_
    refine r_bipush C dX8_tellPlace_116 rfl ?_
    exact r_iret hQ hf hI dX8_tellPlace_118
  · refine r_if hf (fun hc0 hf => ?_) (fun hc0 hf => ?_)
    · refine r_tabIn C 0 hc0 (by decide) dX8_tellPlace_1 (by decide) (by decide) (off := 39) rfl (tgt := 40) (by decide) ?_
      refine r_aload_n C hl 0 dX8_tellPlace_40 rfl rfl ?_
      refine g_8_8 C hI h0 w_570 dX8_tellPlace_41 ?_
      refine r_iload_n C hl 1 dX8_tellPlace_44 rfl rfl ?_
      refine r_gd hf (fun q45_1 hf => ?_)
      refine r_iald C hI 6 (n := 6) (k_8_8 h0) (by decide) rfl q45_1 dX8_tellPlace_45 ?_
      exact r_iret hQ hf hI dX8_tellPlace_46
    · refine r_if hf (fun hc1 hf => ?_) (fun hc1 hf => ?_)
      · refine r_tabIn C 1 hc1 (by decide) dX8_tellPlace_1 (by decide) (by decide) (off := 46) rfl (tgt := 47) (by decide) ?_
        refine r_aload_n C hl 0 dX8_tellPlace_47 rfl rfl ?_
        refine r_callv (rest := []) hI hf (fun M' h => run_V C hI F_X8_asItIs w_704 v_14 w_702 ⟨⟨Nat.le_of_ble_eq_true rfl, Nat.le_of_ble_eq_true rfl⟩, Nat.le_of_ble_eq_true rfl, Nat.le_of_ble_eq_true rfl⟩ (zX8 h0) (oX8 h0) rfl hl dX8_tellPlace_48 [] rfl rfl (Nat.le_of_ble_eq_true rfl) (c_X8_asItIs C.2.2.2.2.2.2 h0 h)) (fun M48 H locs hI hf => ?_)
        refine r_aload_n C hl 0 dX8_tellPlace_51 rfl rfl ?_
        refine r_iload_n C hl 1 dX8_tellPlace_52 rfl rfl ?_
        refine r_calli (rest := []) hI hf (fun r M' h => run_V C hI F_X8_weightIn w_711 v_15 w_709 ⟨⟨Nat.le_of_ble_eq_true rfl, Nat.le_of_ble_eq_true rfl⟩, Nat.le_of_ble_eq_true rfl, Nat.le_of_ble_eq_true rfl⟩ (zX8 h0) (oX8 h0) rfl hl dX8_tellPlace_53 [iI v1] rfl rfl (Nat.le_of_ble_eq_true rfl) (c_X8_weightIn C.2.2.2.2.2.2 h0 h)) (fun r53 M53 H locs hI hf => ?_)
        exact r_iret hQ hf hI dX8_tellPlace_56
      · refine r_if hf (fun hc2 hf => ?_) (fun hc2 hf => ?_)
        · refine r_tabIn C 2 hc2 (by decide) dX8_tellPlace_1 (by decide) (by decide) (off := 56) rfl (tgt := 57) (by decide) ?_
          refine r_aload_n C hl 0 dX8_tellPlace_57 rfl rfl ?_
          refine r_iload_n C hl 1 dX8_tellPlace_58 rfl rfl ?_
          refine r_calli (rest := []) hI hf (fun r M' h => run_V C hI F_X8_whoIn w_718 v_16 w_716 ⟨⟨Nat.le_of_ble_eq_true rfl, Nat.le_of_ble_eq_true rfl⟩, Nat.le_of_ble_eq_true rfl, Nat.le_of_ble_eq_true rfl⟩ (zX8 h0) (oX8 h0) rfl hl dX8_tellPlace_59 [iI v1] rfl rfl (Nat.le_of_ble_eq_true rfl) (c_X8_whoIn C.2.2.2.2.2.2 h0 h)) (fun r59 M59 H locs hI hf => ?_)
          exact r_iret hQ hf hI dX8_tellPlace_62
        · refine r_if hf (fun hc3 hf => ?_) (fun hc3 hf => ?_)
          · refine r_tabIn C 3 hc3 (by decide) dX8_tellPlace_1 (by decide) (by decide) (off := 62) rfl (tgt := 63) (by decide) ?_
            refine r_aload_n C hl 0 dX8_tellPlace_63 rfl rfl ?_
            refine r_callv (rest := []) hI hf (fun M' h => run_V C hI F_X8_asItIs w_704 v_14 w_702 ⟨⟨Nat.le_of_ble_eq_true rfl, Nat.le_of_ble_eq_true rfl⟩, Nat.le_of_ble_eq_true rfl, Nat.le_of_ble_eq_true rfl⟩ (zX8 h0) (oX8 h0) rfl hl dX8_tellPlace_64 [] rfl rfl (Nat.le_of_ble_eq_true rfl) (c_X8_asItIs C.2.2.2.2.2.2 h0 h)) (fun M64 H locs hI hf => ?_)
            refine r_aload_n C hl 0 dX8_tellPlace_67 rfl rfl ?_
            refine g_8_8 C hI h0 w_570 dX8_tellPlace_68 ?_
            refine r_iload_n C hl 1 dX8_tellPlace_71 rfl rfl ?_
            refine r_gd hf (fun q72_1 hf => ?_)
            refine r_iald C hI 6 (n := 6) (k_8_8 h0) (by decide) rfl q72_1 dX8_tellPlace_72 ?_
            refine r_aload_n C hl 0 dX8_tellPlace_73 rfl rfl ?_
            refine r_iload_n C hl 1 dX8_tellPlace_74 rfl rfl ?_
            refine r_aload_n C hl 0 dX8_tellPlace_75 rfl rfl ?_
            refine g_8_12 C hI h0 w_574 dX8_tellPlace_76 ?_
            refine r_calli (rest := [iI (M64 (ch o0 8) v1.toNat)]) hI hf (fun r M' h => run_V C hI F_X8_lessOf w_722 v_17 w_720 ⟨⟨Nat.le_of_ble_eq_true rfl, Nat.le_of_ble_eq_true rfl⟩, Nat.le_of_ble_eq_true rfl, Nat.le_of_ble_eq_true rfl⟩ (zX8 h0) (oX8 h0) rfl hl dX8_tellPlace_79 [iI v1, rI g (ch o0 12)] rfl rfl (Nat.le_of_ble_eq_true rfl) (c_X8_lessOf C.2.2.2.2.2.2 h0 (isA_k (k_8_12 h0) (by decide) (by decide)) h)) (fun r79 M79 H locs hI hf => ?_)
            refine r_gd hf (fun q82_2 hf => ?_)
            refine r_gd hf (fun q82_3 hf => ?_)
            refine r_ic_ge C q82_2 q82_3 (tgt := 94) dX8_tellPlace_82 (by decide) hf (fun hf => ?_) (fun hf => ?_)
            · refine r_aload_n C hl 0 dX8_tellPlace_94 rfl rfl ?_
              refine r_iload_n C hl 1 dX8_tellPlace_95 rfl rfl ?_
              refine r_aload_n C hl 0 dX8_tellPlace_96 rfl rfl ?_
              refine g_8_12 C hI h0 w_574 dX8_tellPlace_97 ?_
              refine r_calli (rest := []) hI hf (fun r M' h => run_V C hI F_X8_lessOf w_722 v_17 w_720 ⟨⟨Nat.le_of_ble_eq_true rfl, Nat.le_of_ble_eq_true rfl⟩, Nat.le_of_ble_eq_true rfl, Nat.le_of_ble_eq_true rfl⟩ (zX8 h0) (oX8 h0) rfl hl dX8_tellPlace_100 [iI v1, rI g (ch o0 12)] rfl rfl (Nat.le_of_ble_eq_true rfl) (c_X8_lessOf C.2.2.2.2.2.2 h0 (isA_k (k_8_12 h0) (by decide) (by decide)) h)) (fun r100 M100 H locs hI hf => ?_)
              exact r_iret hQ hf hI dX8_tellPlace_103
            · refine r_aload_n C hl 0 dX8_tellPlace_85 rfl rfl ?_
              refine g_8_8 C hI h0 w_570 dX8_tellPlace_86 ?_
              refine r_iload_n C hl 1 dX8_tellPlace_89 rfl rfl ?_
              refine r_iald C hI 6 (n := 6) (k_8_8 h0) (by decide) rfl q72_1 dX8_tellPlace_90 ?_
              refine r_goto C (tgt := 103) dX8_tellPlace_91 (by decide) ?_
              exact r_iret hQ hf hI dX8_tellPlace_103
          · refine r_if hf (fun hc4 hf => ?_) (fun hc4 hf => ?_)
            · refine r_tabIn C 4 hc4 (by decide) dX8_tellPlace_1 (by decide) (by decide) (off := 103) rfl (tgt := 104) (by decide) ?_
              refine r_aload_n C hl 0 dX8_tellPlace_104 rfl rfl ?_
              refine r_iload_n C hl 1 dX8_tellPlace_105 rfl rfl ?_
              refine r_calli (rest := []) hI hf (fun r M' h => run_V C hI F_X8_strongOf w_729 v_18 w_727 ⟨⟨Nat.le_of_ble_eq_true rfl, Nat.le_of_ble_eq_true rfl⟩, Nat.le_of_ble_eq_true rfl, Nat.le_of_ble_eq_true rfl⟩ (zX8 h0) (oX8 h0) rfl hl dX8_tellPlace_106 [iI v1] rfl rfl (Nat.le_of_ble_eq_true rfl) (c_X8_strongOf C.2.2.2.2.2.2 h0 h)) (fun r106 M106 H locs hI hf => ?_)
              exact r_iret hQ hf hI dX8_tellPlace_109
            · refine r_tabIn C 5 (by omega) (by decide) dX8_tellPlace_1 (by decide) (by decide) (off := 109) rfl (tgt := 110) (by decide) ?_
              refine r_aload_n C hl 0 dX8_tellPlace_110 rfl rfl ?_
              refine r_iload_n C hl 1 dX8_tellPlace_111 rfl rfl ?_
              refine r_calli (rest := []) hI hf (fun r M' h => run_V C hI F_X8_knockOf w_741 v_21 w_739 ⟨⟨Nat.le_of_ble_eq_true rfl, Nat.le_of_ble_eq_true rfl⟩, Nat.le_of_ble_eq_true rfl, Nat.le_of_ble_eq_true rfl⟩ (zX8 h0) (oX8 h0) rfl hl dX8_tellPlace_112 [iI v1] rfl rfl (Nat.le_of_ble_eq_true rfl) (c_X8_knockOf C.2.2.2.2.2.2 h0 h)) (fun r112 M112 H locs hI hf => ?_)
              exact r_iret hQ hf hI dX8_tellPlace_115
