/-! X6_liveDay -/
def f_X6_liveDay (N : Nat) (o0 : Nat) (M : Mem) : Option (Int × Mem) := bnd (f_X3_passDay N (ch o0 0) M) (fun r4 M4 => some (r4, st (st M4 o0 6 ((M4 o0 6) + 1)) o0 7 (((st M4 o0 6 ((M4 o0 6) + 1)) o0 7) + r4)))
theorem F_X6_liveDay : CalF yX6_liveDay cX6_liveDay 2 (some .int) 0 := ⟨w_415, w_3, by decide +kernel⟩
set_option maxRecDepth 100000 in
set_option maxHeartbeats 4000000 in
theorem c_X6_liveDay {l : Launch} {g : GP} (hj : Inj g) {N : Nat} {M : Mem} {o0 : Nat} (h0 : kd o0 = 6) {r : Int × Mem} (hf : f_X6_liveDay N o0 M = some r) : Met l yX6_liveDay (Cond.code yX6_liveDay cX6_liveDay 2 (some .int) :: TB) (rmK 2 44) (PreW g M [rI g o0]) (PostI g r.1 r.2) 0 0 (Ad g) := by
  unfold f_X6_liveDay at hf
  refine met_of (nL := 2) (cc := cX6_liveDay) (M := M) (by decide +kernel) hj (Nat.le_of_ble_eq_true rfl) ?_
  intro p e s m below meth c ls C hr hlk hI hl
  have C : Cx g p s m _ c cX6_liveDay 2 "LentGallery$Street" := C
  have hl : lv_has ls 2 [(0, rI g o0)] := hl
  have hQ := ret_i (l := l) (e := e) (R := (rmK 2 44)) (below := below) (r := r) C hr hlk (nar_i _)
  generalize s.heap = H, ([] : List Loc) = locs at hI ⊢
  refine r_aload_n C hl 0 dX6_liveDay_0 rfl rfl ?_
  refine g_6_0 C hI h0 w_66 dX6_liveDay_1 ?_
  refine r_calli (rest := []) hI hf (fun r M' h => run_V C hI F_X3_passDay w_311 w_312 w_416 ⟨⟨Nat.le_of_ble_eq_true rfl, Nat.le_of_ble_eq_true rfl⟩, Nat.le_of_ble_eq_true rfl, Nat.le_of_ble_eq_true rfl⟩ (zX3 (k_6_0 h0)) (oX3 (k_6_0 h0)) rfl hl dX6_liveDay_4 [] rfl rfl (Nat.le_of_ble_eq_true rfl) (c_X3_passDay C.2.2.2.2.2.2 (k_6_0 h0) h)) (fun r4 M4 H locs hI hf => ?_)
  refine r_istore_n C hl (lv' := [(1, iI r4), (0, rI g o0)]) dX6_liveDay_7 rfl (Nat.le_of_ble_eq_true rfl) rfl (fun ls hl => ?_)
  refine r_aload_n C hl 1 dX6_liveDay_8 rfl rfl ?_
  refine r_dup C dX6_liveDay_9 rfl ?_
  refine g_6_6 C hI h0 w_80 dX6_liveDay_10 ?_
  refine r_iconst C dX6_liveDay_13 ?_
  refine r_iadd C dX6_liveDay_14 ?_
  refine p_6_6 C hI h0 w_80 dX6_liveDay_15 (fun H locs hI => ?_)
  refine r_aload_n C hl 1 dX6_liveDay_18 rfl rfl ?_
  refine r_dup C dX6_liveDay_19 rfl ?_
  refine g_6_7 C hI h0 w_82 dX6_liveDay_20 ?_
  refine r_iload_n C hl 0 dX6_liveDay_23 rfl rfl ?_
  refine r_iadd C dX6_liveDay_24 ?_
  refine p_6_7 C hI h0 w_82 dX6_liveDay_25 (fun H locs hI => ?_)
  refine r_iload_n C hl 0 dX6_liveDay_28 rfl rfl ?_
  exact r_iret hQ hf hI dX6_liveDay_29
/-! X6_breathOf -/
def f_X6_breathOf (N : Nat) (o0 : Nat) (v1 : Int) (M : Mem) : Option (Int × Mem) := bnd (f_X6_isHere N o0 v1 M) (fun r2 M2 => gd (inR r2) (if r2 = 0 then (some (0, M2)) else (gd (0 ≤ v1 ∧ v1 < 5) (bnd (f_X7_isKind N (M2 (ch o0 1) v1.toNat) M2) (fun r14 M14 => gd (inR r14) (if r14 = 0 then (some (0, M14)) else (gd (0 ≤ (M14 (ch o0 1) v1.toNat) ∧ (M14 (ch o0 1) v1.toNat) < 5) (some (brs (M14 (ch o0 1) v1.toNat), M14)))))))))
theorem F_X6_breathOf : CalF yX6_breathOf cX6_breathOf 2 (some .int) 1 := ⟨w_374, w_3, by decide +kernel⟩
set_option maxRecDepth 100000 in
set_option maxHeartbeats 4000000 in
theorem c_X6_breathOf {l : Launch} {g : GP} (hj : Inj g) {N : Nat} {M : Mem} {o0 : Nat} {v1 : Int} (h0 : kd o0 = 6) {r : Int × Mem} (hf : f_X6_breathOf N o0 v1 M = some r) : Met l yX6_breathOf (Cond.code yX6_breathOf cX6_breathOf 2 (some .int) :: TB) (rmK 1 21) (PreW g M [rI g o0, iI v1]) (PostI g r.1 r.2) 0 0 (Ad g) := by
  unfold f_X6_breathOf at hf
  refine met_of (nL := 2) (cc := cX6_breathOf) (M := M) (by decide +kernel) hj (Nat.le_of_ble_eq_true rfl) ?_
  intro p e s m below meth c ls C hr hlk hI hl
  have C : Cx g p s m _ c cX6_breathOf 2 "LentGallery$Street" := C
  have hl : lv_has ls 2 [(0, rI g o0), (1, iI v1)] := hl
  have hQ := ret_i (l := l) (e := e) (R := (rmK 1 21)) (below := below) (r := r) C hr hlk (nar_i _)
  generalize s.heap = H, ([] : List Loc) = locs at hI ⊢
  refine r_aload_n C hl 0 dX6_breathOf_0 rfl rfl ?_
  refine r_iload_n C hl 1 dX6_breathOf_1 rfl rfl ?_
  refine r_calli (rest := []) hI hf (fun r M' h => run_V C hI F_X6_isHere w_369 v_4 w_367 ⟨⟨Nat.le_of_ble_eq_true rfl, Nat.le_of_ble_eq_true rfl⟩, Nat.le_of_ble_eq_true rfl, Nat.le_of_ble_eq_true rfl⟩ (zX6 h0) (oX6 h0) rfl hl dX6_breathOf_2 [iI v1] rfl rfl (Nat.le_of_ble_eq_true rfl) (c_X6_isHere C.2.2.2.2.2.2 h0 h)) (fun r2 M2 H locs hI hf => ?_)
  refine r_gd hf (fun q5_0 hf => ?_)
  refine r_if_eq C q5_0 (tgt := 33) dX6_breathOf_5 (by decide) hf (fun hf => ?_) (fun hf => ?_)
  · refine r_iconst C dX6_breathOf_33 ?_
    exact r_iret hQ hf hI dX6_breathOf_34
  · refine r_aload_n C hl 0 dX6_breathOf_8 rfl rfl ?_
    refine g_6_1 C hI h0 w_69 dX6_breathOf_9 ?_
    refine r_iload_n C hl 1 dX6_breathOf_12 rfl rfl ?_
    refine r_gd hf (fun q13_1 hf => ?_)
    refine r_iald C hI 5 (n := 5) (k_6_1 h0) (by decide) rfl q13_1 dX6_breathOf_13 ?_
    refine r_calli (rest := []) hI hf (fun r M' h => run_N C hI F_X7_isKind w_344 (List.mem_of_getElem? (i := 9) rfl) ⟨⟨Nat.le_of_ble_eq_true rfl, Nat.le_of_ble_eq_true rfl⟩, Nat.le_of_ble_eq_true rfl, Nat.le_of_ble_eq_true rfl⟩ hl dX6_breathOf_14 [iI (M2 (ch o0 1) v1.toNat)] rfl rfl (Nat.le_of_ble_eq_true rfl) (c_X7_isKind C.2.2.2.2.2.2 h)) (fun r14 M14 H locs hI hf => ?_)
    refine r_gd hf (fun q17_2 hf => ?_)
    refine r_if_eq C q17_2 (tgt := 33) dX6_breathOf_17 (by decide) hf (fun hf => ?_) (fun hf => ?_)
    · refine r_iconst C dX6_breathOf_33 ?_
      exact r_iret hQ hf hI dX6_breathOf_34
    · refine va_getsN C.1 C.2.1 C.2.2.2.2.2.1.2.2.2.1 hI.2 C.2.2.2.1 (va_Nw.use rfl (C.2.2.2.2.2.1.2.1 _ (List.mem_of_getElem? (i := 11) rfl))) (fun _ h => h) dX6_breathOf_20 ?_
      refine r_aload_n C hl 0 dX6_breathOf_23 rfl rfl ?_
      refine g_6_1 C hI h0 w_69 dX6_breathOf_24 ?_
      refine r_iload_n C hl 1 dX6_breathOf_27 rfl rfl ?_
      refine r_iald C hI 5 (n := 5) (k_6_1 h0) (by decide) rfl q13_1 dX6_breathOf_28 ?_
      refine r_gd hf (fun q29_3 hf => ?_)
      refine r_stld C hI brs C.2.2.2.2.2.1.2.2.2.2.2 q29_3 dX6_breathOf_29 ?_
      refine r_goto C (tgt := 34) dX6_breathOf_30 (by decide) ?_
      exact r_iret hQ hf hI dX6_breathOf_34
/-! X6_cutOffs -/
def f_X6_cutOffs_4 (N : Nat) (o0 : Nat) : Nat → Int → Int → Mem → Option (Int × Mem)
  | 0, _, _, _ => none
  | n + 1, v1, v2, M => gd (inR v2) (gd (inR (M o0 3)) (if (M o0 3) ≤ v2 then (some (v1, M)) else (bnd (f_X6_isCutOff N o0 v2 M) (fun r15 M15 => gd (inR r15) (if r15 = 0 then (f_X6_cutOffs_4 N o0 n (v1 + 0) (v2 + 1) M15) else (f_X6_cutOffs_4 N o0 n (v1 + 1) (v2 + 1) M15))))))
def f_X6_cutOffs (N : Nat) (o0 : Nat) (M : Mem) : Option (Int × Mem) := f_X6_cutOffs_4 N o0 N 0 0 M
theorem F_X6_cutOffs : CalF yX6_cutOffs cX6_cutOffs 3 (some .int) 0 := ⟨w_477, w_3, by decide +kernel⟩
set_option maxRecDepth 100000 in
set_option maxHeartbeats 4000000 in
theorem t_X6_cutOffs_4 {g : GP} {p : Program} {l : Launch} {e : Env} {s : State} {m : MethodId} {args : Array Value} {below : List Frame} {meth : Method} {c : Code} {Q : State → Prop} {N : Nat} {o0 : Nat} (h0 : kd o0 = 6) (C : Cx g p s m args c cX6_cutOffs 3 "LentGallery$Street") {r : Int × Mem} (hQ : RetI g p l e (rmK 2 42) s m args below meth c cX6_cutOffs r Q) : ∀ (n : Nat) (v1 v2 : Int) (M : Mem) (H : Heap) (locs : List Loc) (ls : Array Slot), f_X6_cutOffs_4 N o0 n v1 v2 M = some r → Inv g s M H locs → lv_has ls 3 [(0, rI g o0), (1, iI v1), (2, iI v2)] → W p l e (rmK 2 42) s m args below meth c H locs 0 0 Q (F0 m 4 ls []) := by
  intro n
  induction n with
  | zero =>
    intro v1 v2 M H locs ls hf hI hl
    cases hf
  | succ n ih =>
    intro v1 v2 M H locs ls hf hI hl
    rw [f_X6_cutOffs_4] at hf
    refine r_iload_n C hl 2 dX6_cutOffs_4 rfl rfl ?_
    refine r_aload_n C hl 0 dX6_cutOffs_5 rfl rfl ?_
    refine g_6_3 C hI h0 w_73 dX6_cutOffs_6 ?_
    refine r_gd hf (fun q9_0 hf => ?_)
    refine r_gd hf (fun q9_1 hf => ?_)
    refine r_ic_ge C q9_0 q9_1 (tgt := 34) dX6_cutOffs_9 (by decide) hf (fun hf => ?_) (fun hf => ?_)
    · refine r_iload_n C hl 1 dX6_cutOffs_34 rfl rfl ?_
      exact r_iret hQ hf hI dX6_cutOffs_35
    · refine r_iload_n C hl 1 dX6_cutOffs_12 rfl rfl ?_
      refine r_aload_n C hl 0 dX6_cutOffs_13 rfl rfl ?_
      refine r_iload_n C hl 2 dX6_cutOffs_14 rfl rfl ?_
      refine r_calli (rest := [iI v1]) hI hf (fun r M' h => run_V C hI F_X6_isCutOff w_378 w_379 w_390 ⟨⟨Nat.le_of_ble_eq_true rfl, Nat.le_of_ble_eq_true rfl⟩, Nat.le_of_ble_eq_true rfl, Nat.le_of_ble_eq_true rfl⟩ (zX6 h0) (oX6 h0) rfl hl dX6_cutOffs_15 [iI v2] rfl rfl (Nat.le_of_ble_eq_true rfl) (c_X6_isCutOff C.2.2.2.2.2.2 h0 h)) (fun r15 M15 H locs hI hf => ?_)
      refine r_gd hf (fun q18_2 hf => ?_)
      refine r_if_eq C q18_2 (tgt := 25) dX6_cutOffs_18 (by decide) hf (fun hf => ?_) (fun hf => ?_)
      · refine r_iconst C dX6_cutOffs_25 ?_
        refine r_iadd C dX6_cutOffs_26 ?_
        refine r_istore_n C hl (lv' := [(1, iI (v1 + 0)), (0, rI g o0), (2, iI v2)]) dX6_cutOffs_27 rfl (Nat.le_of_ble_eq_true rfl) rfl (fun ls hl => ?_)
        refine r_iinc C hl (lv' := [(2, iI (v2 + 1)), (1, iI (v1 + 0)), (0, rI g o0)]) 2 dX6_cutOffs_28 rfl (Nat.le_of_ble_eq_true rfl) rfl (fun ls hl => ?_)
        refine r_goto C (tgt := 4) dX6_cutOffs_31 (by decide) ?_
        exact ih _ _ _ _ _ _ hf hI (lv_sub hl [2, 1, 0] rfl)
      · refine r_iconst C dX6_cutOffs_21 ?_
        refine r_goto C (tgt := 26) dX6_cutOffs_22 (by decide) ?_
        refine r_iadd C dX6_cutOffs_26 ?_
        refine r_istore_n C hl (lv' := [(1, iI (v1 + 1)), (0, rI g o0), (2, iI v2)]) dX6_cutOffs_27 rfl (Nat.le_of_ble_eq_true rfl) rfl (fun ls hl => ?_)
        refine r_iinc C hl (lv' := [(2, iI (v2 + 1)), (1, iI (v1 + 1)), (0, rI g o0)]) 2 dX6_cutOffs_28 rfl (Nat.le_of_ble_eq_true rfl) rfl (fun ls hl => ?_)
        refine r_goto C (tgt := 4) dX6_cutOffs_31 (by decide) ?_
        exact ih _ _ _ _ _ _ hf hI (lv_sub hl [2, 1, 0] rfl)
set_option maxRecDepth 100000 in
set_option maxHeartbeats 4000000 in
theorem c_X6_cutOffs {l : Launch} {g : GP} (hj : Inj g) {N : Nat} {M : Mem} {o0 : Nat} (h0 : kd o0 = 6) {r : Int × Mem} (hf : f_X6_cutOffs N o0 M = some r) : Met l yX6_cutOffs (Cond.code yX6_cutOffs cX6_cutOffs 3 (some .int) :: TB) (rmK 2 42) (PreW g M [rI g o0]) (PostI g r.1 r.2) 0 0 (Ad g) := by
  unfold f_X6_cutOffs at hf
  refine met_of (nL := 3) (cc := cX6_cutOffs) (M := M) (by decide +kernel) hj (Nat.le_of_ble_eq_true rfl) ?_
  intro p e s m below meth c ls C hr hlk hI hl
  have C : Cx g p s m _ c cX6_cutOffs 3 "LentGallery$Street" := C
  have hl : lv_has ls 3 [(0, rI g o0)] := hl
  have hQ := ret_i (l := l) (e := e) (R := (rmK 2 42)) (below := below) (r := r) C hr hlk (nar_i _)
  generalize s.heap = H, ([] : List Loc) = locs at hI ⊢
  refine r_iconst C dX6_cutOffs_0 ?_
  refine r_istore_n C hl (lv' := [(1, iI 0), (0, rI g o0)]) dX6_cutOffs_1 rfl (Nat.le_of_ble_eq_true rfl) rfl (fun ls hl => ?_)
  refine r_iconst C dX6_cutOffs_2 ?_
  refine r_istore_n C hl (lv' := [(2, iI 0), (1, iI 0), (0, rI g o0)]) dX6_cutOffs_3 rfl (Nat.le_of_ble_eq_true rfl) rfl (fun ls hl => ?_)
  exact t_X6_cutOffs_4 h0 C hQ _ _ _ _ _ _ _ hf hI (lv_sub hl [2, 1, 0] rfl)
/-! X6_dwellers -/
def f_X6_dwellers_4 (N : Nat) (o0 : Nat) (v1 : Int) : Nat → Int → Int → Mem → Option (Int × Mem)
  | 0, _, _, _ => none
  | n + 1, v2, v3, M => gd (inR v3) (gd (inR (M o0 3)) (if (M o0 3) ≤ v3 then (some (v2, M)) else (if 5 ≤ v3 then (some (v2, M)) else (gd (0 ≤ v3 ∧ v3 < 5) (gd (inR (M (ch o0 2) v3.toNat)) (gd (inR v1) (if (M (ch o0 2) v3.toNat) = v1 then (f_X6_dwellers_4 N o0 v1 n (i_or v2 (i_shl 1 v3)) (v3 + 1) M) else (f_X6_dwellers_4 N o0 v1 n (i_or v2 0) (v3 + 1) M))))))))
def f_X6_dwellers (N : Nat) (o0 : Nat) (v1 : Int) (M : Mem) : Option (Int × Mem) := f_X6_dwellers_4 N o0 v1 N 0 0 M
theorem F_X6_dwellers : CalF yX6_dwellers cX6_dwellers 4 (some .int) 1 := ⟨w_275, w_3, by decide +kernel⟩
set_option maxRecDepth 100000 in
set_option maxHeartbeats 4000000 in
theorem t_X6_dwellers_4 {g : GP} {p : Program} {l : Launch} {e : Env} {s : State} {m : MethodId} {args : Array Value} {below : List Frame} {meth : Method} {c : Code} {Q : State → Prop} {N : Nat} {o0 : Nat} {v1 : Int} (h0 : kd o0 = 6) (C : Cx g p s m args c cX6_dwellers 4 "LentGallery$Street") {r : Int × Mem} (hQ : RetI g p l e (rmK 0 0) s m args below meth c cX6_dwellers r Q) : ∀ (n : Nat) (v2 v3 : Int) (M : Mem) (H : Heap) (locs : List Loc) (ls : Array Slot), f_X6_dwellers_4 N o0 v1 n v2 v3 M = some r → Inv g s M H locs → lv_has ls 4 [(0, rI g o0), (1, iI v1), (2, iI v2), (3, iI v3)] → W p l e (rmK 0 0) s m args below meth c H locs 0 0 Q (F0 m 4 ls []) := by
  intro n
  induction n with
  | zero =>
    intro v2 v3 M H locs ls hf hI hl
    cases hf
  | succ n ih =>
    intro v2 v3 M H locs ls hf hI hl
    rw [f_X6_dwellers_4] at hf
    refine r_iload_n C hl 3 dX6_dwellers_4 rfl rfl ?_
    refine r_aload_n C hl 0 dX6_dwellers_5 rfl rfl ?_
    refine g_6_3 C hI h0 w_73 dX6_dwellers_6 ?_
    refine r_gd hf (fun q9_0 hf => ?_)
    refine r_gd hf (fun q9_1 hf => ?_)
    refine r_ic_ge C q9_0 q9_1 (tgt := 43) dX6_dwellers_9 (by decide) hf (fun hf => ?_) (fun hf => ?_)
    · refine r_iload_n C hl 2 dX6_dwellers_43 rfl rfl ?_
      exact r_iret hQ hf hI dX6_dwellers_44
    · refine r_iload_n C hl 3 dX6_dwellers_12 rfl rfl ?_
      refine r_iconst C dX6_dwellers_13 ?_
      refine r_ic_ge C q9_0 (by decide) (tgt := 43) dX6_dwellers_14 (by decide) hf (fun hf => ?_) (fun hf => ?_)
      · refine r_iload_n C hl 2 dX6_dwellers_43 rfl rfl ?_
        exact r_iret hQ hf hI dX6_dwellers_44
      · refine r_iload_n C hl 2 dX6_dwellers_17 rfl rfl ?_
        refine r_aload_n C hl 0 dX6_dwellers_18 rfl rfl ?_
        refine g_6_2 C hI h0 w_71 dX6_dwellers_19 ?_
        refine r_iload_n C hl 3 dX6_dwellers_22 rfl rfl ?_
        refine r_gd hf (fun q23_2 hf => ?_)
        refine r_iald C hI 5 (n := 5) (k_6_2 h0) (by decide) rfl q23_2 dX6_dwellers_23 ?_
        refine r_iload_n C hl 1 dX6_dwellers_24 rfl rfl ?_
        refine r_gd hf (fun q25_3 hf => ?_)
        refine r_gd hf (fun q25_4 hf => ?_)
        refine r_ic_ne C q25_3 q25_4 (tgt := 34) dX6_dwellers_25 (by decide) hf (fun hf => ?_) (fun hf => ?_)
        · refine r_iconst C dX6_dwellers_34 ?_
          refine r_ior C dX6_dwellers_35 ?_
          refine r_istore_n C hl (lv' := [(2, iI (i_or v2 0)), (0, rI g o0), (1, iI v1), (3, iI v3)]) dX6_dwellers_36 rfl (Nat.le_of_ble_eq_true rfl) rfl (fun ls hl => ?_)
          refine r_iinc C hl (lv' := [(3, iI (v3 + 1)), (2, iI (i_or v2 0)), (0, rI g o0), (1, iI v1)]) 3 dX6_dwellers_37 rfl (Nat.le_of_ble_eq_true rfl) rfl (fun ls hl => ?_)
          refine r_goto C (tgt := 4) dX6_dwellers_40 (by decide) ?_
          exact ih _ _ _ _ _ _ hf hI (lv_sub hl [2, 3, 1, 0] rfl)
        · refine r_iconst C dX6_dwellers_28 ?_
          refine r_iload_n C hl 3 dX6_dwellers_29 rfl rfl ?_
          refine r_ishl C dX6_dwellers_30 ?_
          refine r_goto C (tgt := 35) dX6_dwellers_31 (by decide) ?_
          refine r_ior C dX6_dwellers_35 ?_
          refine r_istore_n C hl (lv' := [(2, iI (i_or v2 (i_shl 1 v3))), (0, rI g o0), (1, iI v1), (3, iI v3)]) dX6_dwellers_36 rfl (Nat.le_of_ble_eq_true rfl) rfl (fun ls hl => ?_)
          refine r_iinc C hl (lv' := [(3, iI (v3 + 1)), (2, iI (i_or v2 (i_shl 1 v3))), (0, rI g o0), (1, iI v1)]) 3 dX6_dwellers_37 rfl (Nat.le_of_ble_eq_true rfl) rfl (fun ls hl => ?_)
          refine r_goto C (tgt := 4) dX6_dwellers_40 (by decide) ?_
          exact ih _ _ _ _ _ _ hf hI (lv_sub hl [2, 3, 1, 0] rfl)
set_option maxRecDepth 100000 in
set_option maxHeartbeats 4000000 in
theorem c_X6_dwellers {l : Launch} {g : GP} (hj : Inj g) {N : Nat} {M : Mem} {o0 : Nat} {v1 : Int} (h0 : kd o0 = 6) {r : Int × Mem} (hf : f_X6_dwellers N o0 v1 M = some r) : Met l yX6_dwellers (Cond.code yX6_dwellers cX6_dwellers 4 (some .int) :: TB) (rmK 0 0) (PreW g M [rI g o0, iI v1]) (PostI g r.1 r.2) 0 0 (Ad g) := by
  unfold f_X6_dwellers at hf
  refine met_of (nL := 4) (cc := cX6_dwellers) (M := M) (by decide +kernel) hj (Nat.le_of_ble_eq_true rfl) ?_
  intro p e s m below meth c ls C hr hlk hI hl
  have C : Cx g p s m _ c cX6_dwellers 4 "LentGallery$Street" := C
  have hl : lv_has ls 4 [(0, rI g o0), (1, iI v1)] := hl
  have hQ := ret_i (l := l) (e := e) (R := (rmK 0 0)) (below := below) (r := r) C hr hlk (nar_i _)
  generalize s.heap = H, ([] : List Loc) = locs at hI ⊢
  refine r_iconst C dX6_dwellers_0 ?_
  refine r_istore_n C hl (lv' := [(2, iI 0), (0, rI g o0), (1, iI v1)]) dX6_dwellers_1 rfl (Nat.le_of_ble_eq_true rfl) rfl (fun ls hl => ?_)
  refine r_iconst C dX6_dwellers_2 ?_
  refine r_istore_n C hl (lv' := [(3, iI 0), (2, iI 0), (0, rI g o0), (1, iI v1)]) dX6_dwellers_3 rfl (Nat.le_of_ble_eq_true rfl) rfl (fun ls hl => ?_)
  exact t_X6_dwellers_4 h0 C hQ _ _ _ _ _ _ _ hf hI (lv_sub hl [2, 3, 1, 0] rfl)
/-! X6_gaspers -/
def f_X6_gaspers_25 (N : Nat) (o0 : Nat) (k9 : Int → Int → Int → Mem → Option (Int × Mem)) : Nat → Int → Int → Int → Int → Int → Mem → Option (Int × Mem)
  | 0, _, _, _, _, _, _ => none
  | n + 1, v1, v2, v3, v4, v5, M => gd (inR v5) (gd (inR (M o0 3)) (if (M o0 3) ≤ v5 then (k9 v1 v2 (v3 + 1) M) else (if (i_and (i_shr v4 v5) 1) = 0 then (f_X6_gaspers_25 N o0 k9 n v1 v2 v3 v4 (v5 + 1) M) else (bnd (f_X6_isCutOff N o0 v5 M) (fun r50 M50 => gd (inR r50) (if r50 = 0 then (bnd (f_X6_breathOf N o0 v5 M50) (fun r59 M59 => gd (inR r59) (gd (inR v1) (if r59 ≤ v1 then (bnd (f_X6_breathOf N o0 v5 M59) (fun r80 M80 => f_X6_gaspers_25 N o0 k9 n (v1 - r80) v2 v3 v4 (v5 + 1) M80)) else (f_X6_gaspers_25 N o0 k9 n v1 (i_or v2 (i_shl 1 v5)) v3 v4 (v5 + 1) M59))))) else (f_X6_gaspers_25 N o0 k9 n v1 (i_or v2 (i_shl 1 v5)) v3 v4 (v5 + 1) M50)))))))
def f_X6_gaspers_9 (N : Nat) (o0 : Nat) : Nat → Int → Int → Int → Mem → Option (Int × Mem)
  | 0, _, _, _, _ => none
  | n + 1, v1, v2, v3, M => gd (inR v3) (if 6 ≤ v3 then (some (v2, M)) else (bnd (f_X6_dwellers N o0 v3 M) (fun r17 M17 => f_X6_gaspers_25 N o0 (f_X6_gaspers_9 N o0 n) N v1 v2 v3 r17 0 M17)))
def f_X6_gaspers (N : Nat) (o0 : Nat) (M : Mem) : Option (Int × Mem) := f_X6_gaspers_9 N o0 N (M o0 4) 0 0 M
theorem F_X6_gaspers : CalF yX6_gaspers cX6_gaspers 6 (some .int) 0 := ⟨w_388, w_3, by decide +kernel⟩
set_option maxRecDepth 100000 in
set_option maxHeartbeats 4000000 in
theorem t_X6_gaspers_25 {g : GP} {p : Program} {l : Launch} {e : Env} {s : State} {m : MethodId} {args : Array Value} {below : List Frame} {meth : Method} {c : Code} {Q : State → Prop} {N : Nat} {o0 : Nat} (h0 : kd o0 = 6) (C : Cx g p s m args c cX6_gaspers 6 "LentGallery$Street") {r : Int × Mem} (hQ : RetI g p l e (rmK 2 42) s m args below meth c cX6_gaspers r Q) {k9 : Int → Int → Int → Mem → Option (Int × Mem)} (hk9 : ∀ (v1 v2 v3 : Int) (M : Mem) (H : Heap) (locs : List Loc) (ls : Array Slot), k9 v1 v2 v3 M = some r → Inv g s M H locs → lv_has ls 6 [(0, rI g o0), (1, iI v1), (2, iI v2), (3, iI v3)] → W p l e (rmK 2 42) s m args below meth c H locs 0 0 Q (F0 m 9 ls [])) : ∀ (n : Nat) (v1 v2 v3 v4 v5 : Int) (M : Mem) (H : Heap) (locs : List Loc) (ls : Array Slot), f_X6_gaspers_25 N o0 k9 n v1 v2 v3 v4 v5 M = some r → Inv g s M H locs → lv_has ls 6 [(0, rI g o0), (1, iI v1), (2, iI v2), (3, iI v3), (4, iI v4), (5, iI v5)] → W p l e (rmK 2 42) s m args below meth c H locs 0 0 Q (F0 m 25 ls []) := by
  intro n
  induction n with
  | zero =>
    intro v1 v2 v3 v4 v5 M H locs ls hf hI hl
    cases hf
  | succ n ih =>
    intro v1 v2 v3 v4 v5 M H locs ls hf hI hl
    rw [f_X6_gaspers_25] at hf
    refine r_iload C hl 5 dX6_gaspers_25 rfl ?_
    refine r_aload_n C hl 0 dX6_gaspers_27 rfl rfl ?_
    refine g_6_3 C hI h0 w_73 dX6_gaspers_28 ?_
    refine r_gd hf (fun q31_0 hf => ?_)
    refine r_gd hf (fun q31_1 hf => ?_)
    refine r_ic_ge C q31_0 q31_1 (tgt := 91) dX6_gaspers_31 (by decide) hf (fun hf => ?_) (fun hf => ?_)
    · refine r_iinc C hl (lv' := [(3, iI (v3 + 1)), (0, rI g o0), (1, iI v1), (2, iI v2), (4, iI v4), (5, iI v5)]) 3 dX6_gaspers_91 rfl (Nat.le_of_ble_eq_true rfl) rfl (fun ls hl => ?_)
      refine r_goto C (tgt := 9) dX6_gaspers_94 (by decide) ?_
      exact hk9 _ _ _ _ _ _ _ hf hI (lv_sub hl [1, 2, 3, 0] rfl)
    · refine r_iload C hl 4 dX6_gaspers_34 rfl ?_
      refine r_iload C hl 5 dX6_gaspers_36 rfl ?_
      refine r_ishr C dX6_gaspers_38 ?_
      refine r_iconst C dX6_gaspers_39 ?_
      refine r_iand C dX6_gaspers_40 ?_
      refine r_if_ne C (inR_t _) (tgt := 47) dX6_gaspers_41 (by decide) hf (fun hf => ?_) (fun hf => ?_)
      · refine r_aload_n C hl 0 dX6_gaspers_47 rfl rfl ?_
        refine r_iload C hl 5 dX6_gaspers_48 rfl ?_
        refine r_calli (rest := []) hI hf (fun r M' h => run_V C hI F_X6_isCutOff w_378 w_379 w_390 ⟨⟨Nat.le_of_ble_eq_true rfl, Nat.le_of_ble_eq_true rfl⟩, Nat.le_of_ble_eq_true rfl, Nat.le_of_ble_eq_true rfl⟩ (zX6 h0) (oX6 h0) rfl hl dX6_gaspers_50 [iI v5] rfl rfl (Nat.le_of_ble_eq_true rfl) (c_X6_isCutOff C.2.2.2.2.2.2 h0 h)) (fun r50 M50 H locs hI hf => ?_)
        refine r_gd hf (fun q53_2 hf => ?_)
        refine r_if_ne C q53_2 (tgt := 66) dX6_gaspers_53 (by decide) hf (fun hf => ?_) (fun hf => ?_)
        · refine r_iload_n C hl 2 dX6_gaspers_66 rfl rfl ?_
          refine r_iconst C dX6_gaspers_67 ?_
          refine r_iload C hl 5 dX6_gaspers_68 rfl ?_
          refine r_ishl C dX6_gaspers_70 ?_
          refine r_ior C dX6_gaspers_71 ?_
          refine r_istore_n C hl (lv' := [(2, iI (i_or v2 (i_shl 1 v5))), (0, rI g o0), (1, iI v1), (3, iI v3), (4, iI v4), (5, iI v5)]) dX6_gaspers_72 rfl (Nat.le_of_ble_eq_true rfl) rfl (fun ls hl => ?_)
          refine r_goto C (tgt := 85) dX6_gaspers_73 (by decide) ?_
          refine r_iinc C hl (lv' := [(5, iI (v5 + 1)), (2, iI (i_or v2 (i_shl 1 v5))), (0, rI g o0), (1, iI v1), (3, iI v3), (4, iI v4)]) 5 dX6_gaspers_85 rfl (Nat.le_of_ble_eq_true rfl) rfl (fun ls hl => ?_)
          refine r_goto C (tgt := 25) dX6_gaspers_88 (by decide) ?_
          exact ih _ _ _ _ _ _ _ _ _ hf hI (lv_sub hl [2, 3, 1, 4, 5, 0] rfl)
        · refine r_aload_n C hl 0 dX6_gaspers_56 rfl rfl ?_
          refine r_iload C hl 5 dX6_gaspers_57 rfl ?_
          refine r_calli (rest := []) hI hf (fun r M' h => run_V C hI F_X6_breathOf w_372 w_373 w_391 ⟨⟨Nat.le_of_ble_eq_true rfl, Nat.le_of_ble_eq_true rfl⟩, Nat.le_of_ble_eq_true rfl, Nat.le_of_ble_eq_true rfl⟩ (zX6 h0) (oX6 h0) rfl hl dX6_gaspers_59 [iI v5] rfl rfl (Nat.le_of_ble_eq_true rfl) (c_X6_breathOf C.2.2.2.2.2.2 h0 h)) (fun r59 M59 H locs hI hf => ?_)
          refine r_iload_n C hl 1 dX6_gaspers_62 rfl rfl ?_
          refine r_gd hf (fun q63_3 hf => ?_)
          refine r_gd hf (fun q63_4 hf => ?_)
          refine r_ic_le C q63_3 q63_4 (tgt := 76) dX6_gaspers_63 (by decide) hf (fun hf => ?_) (fun hf => ?_)
          · refine r_iload_n C hl 1 dX6_gaspers_76 rfl rfl ?_
            refine r_aload_n C hl 0 dX6_gaspers_77 rfl rfl ?_
            refine r_iload C hl 5 dX6_gaspers_78 rfl ?_
            refine r_calli (rest := [iI v1]) hI hf (fun r M' h => run_V C hI F_X6_breathOf w_372 w_373 w_391 ⟨⟨Nat.le_of_ble_eq_true rfl, Nat.le_of_ble_eq_true rfl⟩, Nat.le_of_ble_eq_true rfl, Nat.le_of_ble_eq_true rfl⟩ (zX6 h0) (oX6 h0) rfl hl dX6_gaspers_80 [iI v5] rfl rfl (Nat.le_of_ble_eq_true rfl) (c_X6_breathOf C.2.2.2.2.2.2 h0 h)) (fun r80 M80 H locs hI hf => ?_)
            refine r_isub C dX6_gaspers_83 ?_
            refine r_istore_n C hl (lv' := [(1, iI (v1 - r80)), (0, rI g o0), (2, iI v2), (3, iI v3), (4, iI v4), (5, iI v5)]) dX6_gaspers_84 rfl (Nat.le_of_ble_eq_true rfl) rfl (fun ls hl => ?_)
            refine r_iinc C hl (lv' := [(5, iI (v5 + 1)), (1, iI (v1 - r80)), (0, rI g o0), (2, iI v2), (3, iI v3), (4, iI v4)]) 5 dX6_gaspers_85 rfl (Nat.le_of_ble_eq_true rfl) rfl (fun ls hl => ?_)
            refine r_goto C (tgt := 25) dX6_gaspers_88 (by decide) ?_
            exact ih _ _ _ _ _ _ _ _ _ hf hI (lv_sub hl [2, 1, 3, 4, 5, 0] rfl)
          · refine r_iload_n C hl 2 dX6_gaspers_66 rfl rfl ?_
            refine r_iconst C dX6_gaspers_67 ?_
            refine r_iload C hl 5 dX6_gaspers_68 rfl ?_
            refine r_ishl C dX6_gaspers_70 ?_
            refine r_ior C dX6_gaspers_71 ?_
            refine r_istore_n C hl (lv' := [(2, iI (i_or v2 (i_shl 1 v5))), (0, rI g o0), (1, iI v1), (3, iI v3), (4, iI v4), (5, iI v5)]) dX6_gaspers_72 rfl (Nat.le_of_ble_eq_true rfl) rfl (fun ls hl => ?_)
            refine r_goto C (tgt := 85) dX6_gaspers_73 (by decide) ?_
            refine r_iinc C hl (lv' := [(5, iI (v5 + 1)), (2, iI (i_or v2 (i_shl 1 v5))), (0, rI g o0), (1, iI v1), (3, iI v3), (4, iI v4)]) 5 dX6_gaspers_85 rfl (Nat.le_of_ble_eq_true rfl) rfl (fun ls hl => ?_)
            refine r_goto C (tgt := 25) dX6_gaspers_88 (by decide) ?_
            exact ih _ _ _ _ _ _ _ _ _ hf hI (lv_sub hl [2, 3, 1, 4, 5, 0] rfl)
      · refine r_goto C (tgt := 85) dX6_gaspers_44 (by decide) ?_
        refine r_iinc C hl (lv' := [(5, iI (v5 + 1)), (0, rI g o0), (1, iI v1), (2, iI v2), (3, iI v3), (4, iI v4)]) 5 dX6_gaspers_85 rfl (Nat.le_of_ble_eq_true rfl) rfl (fun ls hl => ?_)
        refine r_goto C (tgt := 25) dX6_gaspers_88 (by decide) ?_
        exact ih _ _ _ _ _ _ _ _ _ hf hI (lv_sub hl [1, 2, 3, 4, 5, 0] rfl)
set_option maxRecDepth 100000 in
set_option maxHeartbeats 4000000 in
theorem t_X6_gaspers_9 {g : GP} {p : Program} {l : Launch} {e : Env} {s : State} {m : MethodId} {args : Array Value} {below : List Frame} {meth : Method} {c : Code} {Q : State → Prop} {N : Nat} {o0 : Nat} (h0 : kd o0 = 6) (C : Cx g p s m args c cX6_gaspers 6 "LentGallery$Street") {r : Int × Mem} (hQ : RetI g p l e (rmK 2 42) s m args below meth c cX6_gaspers r Q) : ∀ (n : Nat) (v1 v2 v3 : Int) (M : Mem) (H : Heap) (locs : List Loc) (ls : Array Slot), f_X6_gaspers_9 N o0 n v1 v2 v3 M = some r → Inv g s M H locs → lv_has ls 6 [(0, rI g o0), (1, iI v1), (2, iI v2), (3, iI v3)] → W p l e (rmK 2 42) s m args below meth c H locs 0 0 Q (F0 m 9 ls []) := by
  intro n
  induction n with
  | zero =>
    intro v1 v2 v3 M H locs ls hf hI hl
    cases hf
  | succ n ih =>
    intro v1 v2 v3 M H locs ls hf hI hl
    rw [f_X6_gaspers_9] at hf
    refine r_iload_n C hl 3 dX6_gaspers_9 rfl rfl ?_
    refine r_bipush C dX6_gaspers_10 rfl ?_
    refine r_gd hf (fun q12_0 hf => ?_)
    refine r_ic_ge C q12_0 (by decide) (tgt := 97) dX6_gaspers_12 (by decide) hf (fun hf => ?_) (fun hf => ?_)
    · refine r_iload_n C hl 2 dX6_gaspers_97 rfl rfl ?_
      exact r_iret hQ hf hI dX6_gaspers_98
    · refine r_aload_n C hl 0 dX6_gaspers_15 rfl rfl ?_
      refine r_iload_n C hl 3 dX6_gaspers_16 rfl rfl ?_
      refine r_calli (rest := []) hI hf (fun r M' h => run_V C hI F_X6_dwellers w_273 w_274 w_389 ⟨⟨Nat.le_of_ble_eq_true rfl, Nat.le_of_ble_eq_true rfl⟩, Nat.le_of_ble_eq_true rfl, Nat.le_of_ble_eq_true rfl⟩ (zX6 h0) (oX6 h0) rfl hl dX6_gaspers_17 [iI v3] rfl rfl (Nat.le_of_ble_eq_true rfl) (c_X6_dwellers C.2.2.2.2.2.2 h0 h)) (fun r17 M17 H locs hI hf => ?_)
      refine r_istore C hl (lv' := [(4, iI r17), (0, rI g o0), (1, iI v1), (2, iI v2), (3, iI v3)]) dX6_gaspers_20 (Nat.le_of_ble_eq_true rfl) rfl (fun ls hl => ?_)
      refine r_iconst C dX6_gaspers_22 ?_
      refine r_istore C hl (lv' := [(5, iI 0), (4, iI r17), (0, rI g o0), (1, iI v1), (2, iI v2), (3, iI v3)]) dX6_gaspers_23 (Nat.le_of_ble_eq_true rfl) rfl (fun ls hl => ?_)
      exact t_X6_gaspers_25 h0 C hQ ih _ _ _ _ _ _ _ _ _ _ hf hI (lv_sub hl [2, 3, 4, 5, 1, 0] rfl)
set_option maxRecDepth 100000 in
set_option maxHeartbeats 4000000 in
theorem c_X6_gaspers {l : Launch} {g : GP} (hj : Inj g) {N : Nat} {M : Mem} {o0 : Nat} (h0 : kd o0 = 6) {r : Int × Mem} (hf : f_X6_gaspers N o0 M = some r) : Met l yX6_gaspers (Cond.code yX6_gaspers cX6_gaspers 6 (some .int) :: TB) (rmK 2 42) (PreW g M [rI g o0]) (PostI g r.1 r.2) 0 0 (Ad g) := by
  unfold f_X6_gaspers at hf
  refine met_of (nL := 6) (cc := cX6_gaspers) (M := M) (by decide +kernel) hj (Nat.le_of_ble_eq_true rfl) ?_
  intro p e s m below meth c ls C hr hlk hI hl
  have C : Cx g p s m _ c cX6_gaspers 6 "LentGallery$Street" := C
  have hl : lv_has ls 6 [(0, rI g o0)] := hl
  have hQ := ret_i (l := l) (e := e) (R := (rmK 2 42)) (below := below) (r := r) C hr hlk (nar_i _)
  generalize s.heap = H, ([] : List Loc) = locs at hI ⊢
  refine r_aload_n C hl 0 dX6_gaspers_0 rfl rfl ?_
  refine g_6_4 C hI h0 w_76 dX6_gaspers_1 ?_
  refine r_istore_n C hl (lv' := [(1, iI (M o0 4)), (0, rI g o0)]) dX6_gaspers_4 rfl (Nat.le_of_ble_eq_true rfl) rfl (fun ls hl => ?_)
  refine r_iconst C dX6_gaspers_5 ?_
  refine r_istore_n C hl (lv' := [(2, iI 0), (1, iI (M o0 4)), (0, rI g o0)]) dX6_gaspers_6 rfl (Nat.le_of_ble_eq_true rfl) rfl (fun ls hl => ?_)
  refine r_iconst C dX6_gaspers_7 ?_
  refine r_istore_n C hl (lv' := [(3, iI 0), (2, iI 0), (1, iI (M o0 4)), (0, rI g o0)]) dX6_gaspers_8 rfl (Nat.le_of_ble_eq_true rfl) rfl (fun ls hl => ?_)
  exact t_X6_gaspers_9 h0 C hQ _ _ _ _ _ _ _ _ hf hI (lv_sub hl [3, 2, 1, 0] rfl)
/-! X6_comersFrom -/
def f_X6_comersFrom (N : Nat) (o0 : Nat) (v1 : Int) (M : Mem) : Option (Int × Mem) := bnd (f_X3_firstFallen N (ch o0 0) M) (fun r5 M5 => gd (inR v1) (gd (inR r5) (if r5 ≤ v1 then (some (0, M5)) else (bnd (f_X6_dwellers N o0 v1 M5) (fun r13 M13 => bnd (f_J6_bitCount_0f7a4 N r13 M13) (fun r16 M16 => some (r16, M16)))))))
theorem F_X6_comersFrom : CalF yX6_comersFrom cX6_comersFrom 2 (some .int) 1 := ⟨w_482, w_3, by decide +kernel⟩
set_option maxRecDepth 100000 in
set_option maxHeartbeats 4000000 in
theorem c_X6_comersFrom {l : Launch} {g : GP} (hj : Inj g) {N : Nat} {M : Mem} {o0 : Nat} {v1 : Int} (h0 : kd o0 = 6) {r : Int × Mem} (hf : f_X6_comersFrom N o0 v1 M = some r) : Met l yX6_comersFrom (Cond.code yX6_comersFrom cX6_comersFrom 2 (some .int) :: TB) (rmK 1 23) (PreW g M [rI g o0, iI v1]) (PostI g r.1 r.2) 0 0 (Ad g) := by
  unfold f_X6_comersFrom at hf
  refine met_of (nL := 2) (cc := cX6_comersFrom) (M := M) (by decide +kernel) hj (Nat.le_of_ble_eq_true rfl) ?_
  intro p e s m below meth c ls C hr hlk hI hl
  have C : Cx g p s m _ c cX6_comersFrom 2 "LentGallery$Street" := C
  have hl : lv_has ls 2 [(0, rI g o0), (1, iI v1)] := hl
  have hQ := ret_i (l := l) (e := e) (R := (rmK 1 23)) (below := below) (r := r) C hr hlk (nar_i _)
  generalize s.heap = H, ([] : List Loc) = locs at hI ⊢
  refine r_iload_n C hl 1 dX6_comersFrom_0 rfl rfl ?_
  refine r_aload_n C hl 0 dX6_comersFrom_1 rfl rfl ?_
  refine g_6_0 C hI h0 w_66 dX6_comersFrom_2 ?_
  refine r_calli (rest := [iI v1]) hI hf (fun r M' h => run_V C hI F_X3_firstFallen w_382 w_383 w_381 ⟨⟨Nat.le_of_ble_eq_true rfl, Nat.le_of_ble_eq_true rfl⟩, Nat.le_of_ble_eq_true rfl, Nat.le_of_ble_eq_true rfl⟩ (zX3 (k_6_0 h0)) (oX3 (k_6_0 h0)) rfl hl dX6_comersFrom_5 [] rfl rfl (Nat.le_of_ble_eq_true rfl) (c_X3_firstFallen C.2.2.2.2.2.2 (k_6_0 h0) h)) (fun r5 M5 H locs hI hf => ?_)
  refine r_gd hf (fun q8_0 hf => ?_)
  refine r_gd hf (fun q8_1 hf => ?_)
  refine r_ic_ge C q8_0 q8_1 (tgt := 22) dX6_comersFrom_8 (by decide) hf (fun hf => ?_) (fun hf => ?_)
  · refine r_iconst C dX6_comersFrom_22 ?_
    exact r_iret hQ hf hI dX6_comersFrom_23
  · refine r_aload_n C hl 0 dX6_comersFrom_11 rfl rfl ?_
    refine r_iload_n C hl 1 dX6_comersFrom_12 rfl rfl ?_
    refine r_calli (rest := []) hI hf (fun r M' h => run_V C hI F_X6_dwellers w_273 w_274 w_389 ⟨⟨Nat.le_of_ble_eq_true rfl, Nat.le_of_ble_eq_true rfl⟩, Nat.le_of_ble_eq_true rfl, Nat.le_of_ble_eq_true rfl⟩ (zX6 h0) (oX6 h0) rfl hl dX6_comersFrom_13 [iI v1] rfl rfl (Nat.le_of_ble_eq_true rfl) (c_X6_dwellers C.2.2.2.2.2.2 h0 h)) (fun r13 M13 H locs hI hf => ?_)
    refine r_calli (rest := []) hI hf (fun r M' h => run_S C hI F_J6_bitCount_0f7a4 w_329 w_483 ⟨⟨Nat.le_of_ble_eq_true rfl, Nat.le_of_ble_eq_true rfl⟩, Nat.le_of_ble_eq_true rfl, Nat.le_of_ble_eq_true rfl⟩ hl dX6_comersFrom_16 [iI r13] rfl rfl (Nat.le_of_ble_eq_true rfl) (c_J6_bitCount_0f7a4 C.2.2.2.2.2.2 h)) (fun r16 M16 H locs hI hf => ?_)
    refine r_goto C (tgt := 23) dX6_comersFrom_19 (by decide) ?_
    exact r_iret hQ hf hI dX6_comersFrom_23
/-! X6_minutesOut -/
def f_X6_minutesOut_14 (N : Nat) (o0 : Nat) : Nat → Int → Int → Int → Mem → Option (Int × Mem)
  | 0, _, _, _, _ => none
  | n + 1, v1, v2, v3, M => gd (inR v1) (if v1 ≤ 0 then (some (v3, M)) else (gd (inR v3) (if 11 ≤ v3 then (some (v3, M)) else (bnd (f_J9_min_7cf53 N v2 (M o0 5) M) (fun r32 M32 => bnd (f_X6_comersFrom N o0 ((v3 + 1) - 1) M32) (fun r52 M52 => f_X6_minutesOut_14 N o0 n (v1 - r32) ((v2 - r32) + r52) (v3 + 1) M52))))))
def f_X6_minutesOut (N : Nat) (o0 : Nat) (M : Mem) : Option (Int × Mem) := bnd (f_X6_cutOffs N o0 M) (fun r5 M5 => f_X6_minutesOut_14 N o0 N ((M o0 3) - r5) 0 0 M5)
theorem F_X6_minutesOut : CalF yX6_minutesOut cX6_minutesOut 5 (some .int) 0 := ⟨w_473, w_3, by decide +kernel⟩
set_option maxRecDepth 100000 in
set_option maxHeartbeats 4000000 in
theorem t_X6_minutesOut_14 {g : GP} {p : Program} {l : Launch} {e : Env} {s : State} {m : MethodId} {args : Array Value} {below : List Frame} {meth : Method} {c : Code} {Q : State → Prop} {N : Nat} {o0 : Nat} (h0 : kd o0 = 6) (C : Cx g p s m args c cX6_minutesOut 5 "LentGallery$Street") {r : Int × Mem} (hQ : RetI g p l e (rmK 3 64) s m args below meth c cX6_minutesOut r Q) : ∀ (n : Nat) (v1 v2 v3 : Int) (M : Mem) (H : Heap) (locs : List Loc) (ls : Array Slot), f_X6_minutesOut_14 N o0 n v1 v2 v3 M = some r → Inv g s M H locs → lv_has ls 5 [(0, rI g o0), (1, iI v1), (2, iI v2), (3, iI v3)] → W p l e (rmK 3 64) s m args below meth c H locs 0 0 Q (F0 m 14 ls []) := by
  intro n
  induction n with
  | zero =>
    intro v1 v2 v3 M H locs ls hf hI hl
    cases hf
  | succ n ih =>
    intro v1 v2 v3 M H locs ls hf hI hl
    rw [f_X6_minutesOut_14] at hf
    refine r_iload_n C hl 1 dX6_minutesOut_14 rfl rfl ?_
    refine r_gd hf (fun q15_0 hf => ?_)
    refine r_if_le C q15_0 (tgt := 60) dX6_minutesOut_15 (by decide) hf (fun hf => ?_) (fun hf => ?_)
    · refine r_iload_n C hl 3 dX6_minutesOut_60 rfl rfl ?_
      exact r_iret hQ hf hI dX6_minutesOut_61
    · refine r_iload_n C hl 3 dX6_minutesOut_18 rfl rfl ?_
      refine r_bipush C dX6_minutesOut_19 rfl ?_
      refine r_gd hf (fun q21_1 hf => ?_)
      refine r_ic_ge C q21_1 (by decide) (tgt := 60) dX6_minutesOut_21 (by decide) hf (fun hf => ?_) (fun hf => ?_)
      · refine r_iload_n C hl 3 dX6_minutesOut_60 rfl rfl ?_
        exact r_iret hQ hf hI dX6_minutesOut_61
      · refine r_iinc C hl (lv' := [(3, iI (v3 + 1)), (0, rI g o0), (1, iI v1), (2, iI v2)]) 3 dX6_minutesOut_24 rfl (Nat.le_of_ble_eq_true rfl) rfl (fun ls hl => ?_)
        refine r_iload_n C hl 3 dX6_minutesOut_27 rfl rfl ?_
        refine r_aload_n C hl 1 dX6_minutesOut_28 rfl rfl ?_
        refine g_6_5 C hI h0 w_78 dX6_minutesOut_29 ?_
        refine r_calli (rest := []) hI hf (fun r M' h => run_S C hI F_J9_min_7cf53 w_281 w_478 ⟨⟨Nat.le_of_ble_eq_true rfl, Nat.le_of_ble_eq_true rfl⟩, Nat.le_of_ble_eq_true rfl, Nat.le_of_ble_eq_true rfl⟩ hl dX6_minutesOut_32 [iI v2, iI (M o0 5)] rfl rfl (Nat.le_of_ble_eq_true rfl) (c_J9_min_7cf53 C.2.2.2.2.2.2 h)) (fun r32 M32 H locs hI hf => ?_)
        refine r_istore C hl (lv' := [(4, iI r32), (3, iI (v3 + 1)), (0, rI g o0), (1, iI v1), (2, iI v2)]) dX6_minutesOut_35 (Nat.le_of_ble_eq_true rfl) rfl (fun ls hl => ?_)
        refine r_iload_n C hl 4 dX6_minutesOut_37 rfl rfl ?_
        refine r_iload C hl 0 dX6_minutesOut_38 rfl ?_
        refine r_isub C dX6_minutesOut_40 ?_
        refine r_istore_n C hl (lv' := [(2, iI (v2 - r32)), (4, iI r32), (3, iI (v3 + 1)), (0, rI g o0), (1, iI v1)]) dX6_minutesOut_41 rfl (Nat.le_of_ble_eq_true rfl) rfl (fun ls hl => ?_)
        refine r_iload_n C hl 4 dX6_minutesOut_42 rfl rfl ?_
        refine r_iload C hl 1 dX6_minutesOut_43 rfl ?_
        refine r_isub C dX6_minutesOut_45 ?_
        refine r_istore_n C hl (lv' := [(1, iI (v1 - r32)), (2, iI (v2 - r32)), (4, iI r32), (3, iI (v3 + 1)), (0, rI g o0)]) dX6_minutesOut_46 rfl (Nat.le_of_ble_eq_true rfl) rfl (fun ls hl => ?_)
        refine r_iload_n C hl 1 dX6_minutesOut_47 rfl rfl ?_
        refine r_aload_n C hl 4 dX6_minutesOut_48 rfl rfl ?_
        refine r_iload_n C hl 3 dX6_minutesOut_49 rfl rfl ?_
        refine r_iconst C dX6_minutesOut_50 ?_
        refine r_isub C dX6_minutesOut_51 ?_
        refine r_calli (rest := [iI (v2 - r32)]) hI hf (fun r M' h => run_V C hI F_X6_comersFrom w_481 v_6 w_479 ⟨⟨Nat.le_of_ble_eq_true rfl, Nat.le_of_ble_eq_true rfl⟩, Nat.le_of_ble_eq_true rfl, Nat.le_of_ble_eq_true rfl⟩ (zX6 h0) (oX6 h0) rfl hl dX6_minutesOut_52 [iI ((v3 + 1) - 1)] rfl rfl (Nat.le_of_ble_eq_true rfl) (c_X6_comersFrom C.2.2.2.2.2.2 h0 h)) (fun r52 M52 H locs hI hf => ?_)
        refine r_iadd C dX6_minutesOut_55 ?_
        refine r_istore_n C hl (lv' := [(2, iI ((v2 - r32) + r52)), (1, iI (v1 - r32)), (4, iI r32), (3, iI (v3 + 1)), (0, rI g o0)]) dX6_minutesOut_56 rfl (Nat.le_of_ble_eq_true rfl) rfl (fun ls hl => ?_)
        refine r_goto C (tgt := 14) dX6_minutesOut_57 (by decide) ?_
        exact ih _ _ _ _ _ _ _ hf hI (lv_sub hl [4, 1, 0, 3] rfl)
set_option maxRecDepth 100000 in
set_option maxHeartbeats 4000000 in
theorem c_X6_minutesOut {l : Launch} {g : GP} (hj : Inj g) {N : Nat} {M : Mem} {o0 : Nat} (h0 : kd o0 = 6) {r : Int × Mem} (hf : f_X6_minutesOut N o0 M = some r) : Met l yX6_minutesOut (Cond.code yX6_minutesOut cX6_minutesOut 5 (some .int) :: TB) (rmK 3 64) (PreW g M [rI g o0]) (PostI g r.1 r.2) 0 0 (Ad g) := by
  unfold f_X6_minutesOut at hf
  refine met_of (nL := 5) (cc := cX6_minutesOut) (M := M) (by decide +kernel) hj (Nat.le_of_ble_eq_true rfl) ?_
  intro p e s m below meth c ls C hr hlk hI hl
  have C : Cx g p s m _ c cX6_minutesOut 5 "LentGallery$Street" := C
  have hl : lv_has ls 5 [(0, rI g o0)] := hl
  have hQ := ret_i (l := l) (e := e) (R := (rmK 3 64)) (below := below) (r := r) C hr hlk (nar_i _)
  generalize s.heap = H, ([] : List Loc) = locs at hI ⊢
  refine r_aload_n C hl 0 dX6_minutesOut_0 rfl rfl ?_
  refine g_6_3 C hI h0 w_73 dX6_minutesOut_1 ?_
  refine r_aload_n C hl 0 dX6_minutesOut_4 rfl rfl ?_
  refine r_calli (rest := [iI (M o0 3)]) hI hf (fun r M' h => run_V C hI F_X6_cutOffs w_475 w_476 w_474 ⟨⟨Nat.le_of_ble_eq_true rfl, Nat.le_of_ble_eq_true rfl⟩, Nat.le_of_ble_eq_true rfl, Nat.le_of_ble_eq_true rfl⟩ (zX6 h0) (oX6 h0) rfl hl dX6_minutesOut_5 [] rfl rfl (Nat.le_of_ble_eq_true rfl) (c_X6_cutOffs C.2.2.2.2.2.2 h0 h)) (fun r5 M5 H locs hI hf => ?_)
  refine r_isub C dX6_minutesOut_8 ?_
  refine r_istore_n C hl (lv' := [(1, iI ((M o0 3) - r5)), (0, rI g o0)]) dX6_minutesOut_9 rfl (Nat.le_of_ble_eq_true rfl) rfl (fun ls hl => ?_)
  refine r_iconst C dX6_minutesOut_10 ?_
  refine r_istore_n C hl (lv' := [(2, iI 0), (1, iI ((M o0 3) - r5)), (0, rI g o0)]) dX6_minutesOut_11 rfl (Nat.le_of_ble_eq_true rfl) rfl (fun ls hl => ?_)
  refine r_iconst C dX6_minutesOut_12 ?_
  refine r_istore_n C hl (lv' := [(3, iI 0), (2, iI 0), (1, iI ((M o0 3) - r5)), (0, rI g o0)]) dX6_minutesOut_13 rfl (Nat.le_of_ble_eq_true rfl) rfl (fun ls hl => ?_)
  exact t_X6_minutesOut_14 h0 C hQ _ _ _ _ _ _ _ _ hf hI (lv_sub hl [3, 2, 1, 0] rfl)
/-! X7_letter -/
def f_X7_letter (N : Nat) (o0 : Nat) (v1 : Int) (M : Mem) : Option (Int × Mem) := gd (inR v1) (if v1 < 1 then (some (-102, M)) else (if v1 ≤ 126 then (bnd (f_X2_write N (ch o0 0) v1 M) (fun r19 M19 => gd (inR r19) (if r19 = 0 then (some (-104, M19)) else (some (M19 (ch o0 0) 1, M19))))) else (some (-102, M))))
theorem F_X7_letter : CalF yX7_letter cX7_letter 2 (some .int) 1 := ⟨w_228, w_1, by decide +kernel⟩
set_option maxRecDepth 100000 in
set_option maxHeartbeats 4000000 in
theorem c_X7_letter {l : Launch} {g : GP} (hj : Inj g) {N : Nat} {M : Mem} {o0 : Nat} {v1 : Int} (h0 : kd o0 = 7) {r : Int × Mem} (hf : f_X7_letter N o0 v1 M = some r) : Met l yX7_letter (Cond.code yX7_letter cX7_letter 2 (some .int) :: TB) (rmK 1 21) (PreW g M [rI g o0, iI v1]) (PostI g r.1 r.2) 0 0 (Ad g) := by
  unfold f_X7_letter at hf
  refine met_of (nL := 2) (cc := cX7_letter) (M := M) (by decide +kernel) hj (Nat.le_of_ble_eq_true rfl) ?_
  intro p e s m below meth c ls C hr hlk hI hl
  have C : Cx g p s m _ c cX7_letter 2 "LentGallery" := C
  have hl : lv_has ls 2 [(0, rI g o0), (1, iI v1)] := hl
  have hQ := ret_i (l := l) (e := e) (R := (rmK 1 21)) (below := below) (r := r) C hr hlk (nar_i _)
  generalize s.heap = H, ([] : List Loc) = locs at hI ⊢
  refine r_iload_n C hl 1 dX7_letter_0 rfl rfl ?_
  refine r_iconst C dX7_letter_1 ?_
  refine r_gd hf (fun q2_0 hf => ?_)
  refine r_ic_lt C q2_0 (by decide) (tgt := 11) dX7_letter_2 (by decide) hf (fun hf => ?_) (fun hf => ?_)
  · refine r_bipush C dX7_letter_11 rfl ?_
    exact r_iret hQ hf hI dX7_letter_13
  · refine r_iload_n C hl 1 dX7_letter_5 rfl rfl ?_
    refine r_bipush C dX7_letter_6 rfl ?_
    refine r_ic_le C q2_0 (by decide) (tgt := 14) dX7_letter_8 (by decide) hf (fun hf => ?_) (fun hf => ?_)
    · refine r_aload_n C hl 0 dX7_letter_14 rfl rfl ?_
      refine g_7_0 C hI h0 w_185 dX7_letter_15 ?_
      refine r_iload_n C hl 1 dX7_letter_18 rfl rfl ?_
      refine r_calli (rest := []) hI hf (fun r M' h => run_V C hI F_X2_write w_230 w_231 w_229 ⟨⟨Nat.le_of_ble_eq_true rfl, Nat.le_of_ble_eq_true rfl⟩, Nat.le_of_ble_eq_true rfl, Nat.le_of_ble_eq_true rfl⟩ (zX2 (k_7_0 h0)) (oX2 (k_7_0 h0)) rfl hl dX7_letter_19 [iI v1] rfl rfl (Nat.le_of_ble_eq_true rfl) (c_X2_write C.2.2.2.2.2.2 (k_7_0 h0) h)) (fun r19 M19 H locs hI hf => ?_)
      refine r_gd hf (fun q22_1 hf => ?_)
      refine r_if_eq C q22_1 (tgt := 35) dX7_letter_22 (by decide) hf (fun hf => ?_) (fun hf => ?_)
      · refine r_bipush C dX7_letter_35 rfl ?_
        exact r_iret hQ hf hI dX7_letter_37
      · refine r_aload_n C hl 0 dX7_letter_25 rfl rfl ?_
        refine g_7_0 C hI h0 w_185 dX7_letter_26 ?_
        refine g_2_1 C hI (k_7_0 h0) w_31 dX7_letter_29 ?_
        refine r_goto C (tgt := 37) dX7_letter_32 (by decide) ?_
        exact r_iret hQ hf hI dX7_letter_37
    · refine r_bipush C dX7_letter_11 rfl ?_
      exact r_iret hQ hf hI dX7_letter_13
/-! X7_blank -/
def f_X7_blank (N : Nat) (o0 : Nat) (M : Mem) : Option (Int × Mem) := some (M (ch o0 0) 1, st M (ch o0 0) 1 0)
theorem F_X7_blank : CalF yX7_blank cX7_blank 2 (some .int) 0 := ⟨w_236, w_1, by decide +kernel⟩
set_option maxRecDepth 100000 in
set_option maxHeartbeats 4000000 in
theorem c_X7_blank {l : Launch} {g : GP} (hj : Inj g) {N : Nat} {M : Mem} {o0 : Nat} (h0 : kd o0 = 7) {r : Int × Mem} (hf : f_X7_blank N o0 M = some r) : Met l yX7_blank (Cond.code yX7_blank cX7_blank 2 (some .int) :: TB) (rmK 0 0) (PreW g M [rI g o0]) (PostI g r.1 r.2) 0 0 (Ad g) := by
  unfold f_X7_blank at hf
  refine met_of (nL := 2) (cc := cX7_blank) (M := M) (by decide +kernel) hj (Nat.le_of_ble_eq_true rfl) ?_
  intro p e s m below meth c ls C hr hlk hI hl
  have C : Cx g p s m _ c cX7_blank 2 "LentGallery" := C
  have hl : lv_has ls 2 [(0, rI g o0)] := hl
  have hQ := ret_i (l := l) (e := e) (R := (rmK 0 0)) (below := below) (r := r) C hr hlk (nar_i _)
  generalize s.heap = H, ([] : List Loc) = locs at hI ⊢
  refine r_aload_n C hl 0 dX7_blank_0 rfl rfl ?_
  refine g_7_0 C hI h0 w_185 dX7_blank_1 ?_
  refine g_2_1 C hI (k_7_0 h0) w_31 dX7_blank_4 ?_
  refine r_istore_n C hl (lv' := [(1, iI (M (ch o0 0) 1)), (0, rI g o0)]) dX7_blank_7 rfl (Nat.le_of_ble_eq_true rfl) rfl (fun ls hl => ?_)
  refine r_aload_n C hl 1 dX7_blank_8 rfl rfl ?_
  refine g_7_0 C hI h0 w_185 dX7_blank_9 ?_
  refine r_iconst C dX7_blank_12 ?_
  refine p_2_1 C hI (k_7_0 h0) w_31 dX7_blank_13 (fun H locs hI => ?_)
  refine r_iload_n C hl 0 dX7_blank_16 rfl rfl ?_
  exact r_iret hQ hf hI dX7_blank_17
/-! X7_fault -/
def f_X7_fault (N : Nat) (o0 : Nat) (M : Mem) : Option (Int × Mem) := bnd (f_X2_goodLetters N (ch o0 0) M) (fun r4 M4 => some (r4, M4))
theorem F_X7_fault : CalF yX7_fault cX7_fault 1 (some .int) 0 := ⟨w_240, w_1, by decide +kernel⟩
set_option maxRecDepth 100000 in
set_option maxHeartbeats 4000000 in
theorem c_X7_fault {l : Launch} {g : GP} (hj : Inj g) {N : Nat} {M : Mem} {o0 : Nat} (h0 : kd o0 = 7) {r : Int × Mem} (hf : f_X7_fault N o0 M = some r) : Met l yX7_fault (Cond.code yX7_fault cX7_fault 1 (some .int) :: TB) (rmK 2 43) (PreW g M [rI g o0]) (PostI g r.1 r.2) 0 0 (Ad g) := by
  unfold f_X7_fault at hf
  refine met_of (nL := 1) (cc := cX7_fault) (M := M) (by decide +kernel) hj (Nat.le_of_ble_eq_true rfl) ?_
  intro p e s m below meth c ls C hr hlk hI hl
  have C : Cx g p s m _ c cX7_fault 1 "LentGallery" := C
  have hl : lv_has ls 1 [(0, rI g o0)] := hl
  have hQ := ret_i (l := l) (e := e) (R := (rmK 2 43)) (below := below) (r := r) C hr hlk (nar_i _)
  generalize s.heap = H, ([] : List Loc) = locs at hI ⊢
  refine r_aload_n C hl 0 dX7_fault_0 rfl rfl ?_
  refine g_7_0 C hI h0 w_185 dX7_fault_1 ?_
  refine r_calli (rest := []) hI hf (fun r M' h => run_V C hI F_X2_goodLetters w_242 w_243 w_241 ⟨⟨Nat.le_of_ble_eq_true rfl, Nat.le_of_ble_eq_true rfl⟩, Nat.le_of_ble_eq_true rfl, Nat.le_of_ble_eq_true rfl⟩ (zX2 (k_7_0 h0)) (oX2 (k_7_0 h0)) rfl hl dX7_fault_4 [] rfl rfl (Nat.le_of_ble_eq_true rfl) (c_X2_goodLetters C.2.2.2.2.2.2 (k_7_0 h0) h)) (fun r4 M4 H locs hI hf => ?_)
  exact r_iret hQ hf hI dX7_fault_7
/-! X7_gallery -/
def f_X7_gallery (N : Nat) (o0 : Nat) (M : Mem) : Option (Int × Mem) := gd (inR (M (ch o0 0) 1)) (if (M (ch o0 0) 1) = 9 then (bnd (f_X2_goodLetters N (ch o0 0) M) (fun r16 M16 => gd (inR r16) (if r16 = 9 then (bnv (f_X6_open N (ch o0 1) (ch o0 0) M16) (fun M35 => bnd (f_X3_standing N (ch (ch o0 1) 0) (st (st (st (st (st M35 (ch o0 2) 3 0) (ch o0 0) 1 0) o0 9 1) o0 10 0) o0 11 (((st (st (st (st M35 (ch o0 2) 3 0) (ch o0 0) 1 0) o0 9 1) o0 10 0) o0 11) + 1))) (fun r81 M81 => some (r81, M81)))) else (some (-103, M16))))) else (some (-103, M)))
theorem F_X7_gallery : CalF yX7_gallery cX7_gallery 1 (some .int) 0 := ⟨w_251, w_1, by decide +kernel⟩
set_option maxRecDepth 100000 in
set_option maxHeartbeats 4000000 in
theorem c_X7_gallery {l : Launch} {g : GP} (hj : Inj g) {N : Nat} {M : Mem} {o0 : Nat} (h0 : kd o0 = 7) {r : Int × Mem} (hf : f_X7_gallery N o0 M = some r) : Met l yX7_gallery (Cond.code yX7_gallery cX7_gallery 1 (some .int) :: TB) (rmK 2 43) (PreW g M [rI g o0]) (PostI g r.1 r.2) 0 0 (Ad g) := by
  unfold f_X7_gallery at hf
  refine met_of (nL := 1) (cc := cX7_gallery) (M := M) (by decide +kernel) hj (Nat.le_of_ble_eq_true rfl) ?_
  intro p e s m below meth c ls C hr hlk hI hl
  have C : Cx g p s m _ c cX7_gallery 1 "LentGallery" := C
  have hl : lv_has ls 1 [(0, rI g o0)] := hl
  have hQ := ret_i (l := l) (e := e) (R := (rmK 2 43)) (below := below) (r := r) C hr hlk (nar_i _)
  generalize s.heap = H, ([] : List Loc) = locs at hI ⊢
  refine r_aload_n C hl 0 dX7_gallery_0 rfl rfl ?_
  refine g_7_0 C hI h0 w_185 dX7_gallery_1 ?_
  refine g_2_1 C hI (k_7_0 h0) w_31 dX7_gallery_4 ?_
  refine r_bipush C dX7_gallery_7 rfl ?_
  refine r_gd hf (fun q9_0 hf => ?_)
  refine r_ic_ne C q9_0 (by decide) (tgt := 24) dX7_gallery_9 (by decide) hf (fun hf => ?_) (fun hf => ?_)
  · refine r_bipush C dX7_gallery_24 rfl ?_
    exact r_iret hQ hf hI dX7_gallery_26
  · refine r_aload_n C hl 0 dX7_gallery_12 rfl rfl ?_
    refine g_7_0 C hI h0 w_185 dX7_gallery_13 ?_
    refine r_calli (rest := []) hI hf (fun r M' h => run_V C hI F_X2_goodLetters w_242 w_243 w_241 ⟨⟨Nat.le_of_ble_eq_true rfl, Nat.le_of_ble_eq_true rfl⟩, Nat.le_of_ble_eq_true rfl, Nat.le_of_ble_eq_true rfl⟩ (zX2 (k_7_0 h0)) (oX2 (k_7_0 h0)) rfl hl dX7_gallery_16 [] rfl rfl (Nat.le_of_ble_eq_true rfl) (c_X2_goodLetters C.2.2.2.2.2.2 (k_7_0 h0) h)) (fun r16 M16 H locs hI hf => ?_)
    refine r_bipush C dX7_gallery_19 rfl ?_
    refine r_gd hf (fun q21_1 hf => ?_)
    refine r_ic_eq C q21_1 (by decide) (tgt := 27) dX7_gallery_21 (by decide) hf (fun hf => ?_) (fun hf => ?_)
    · refine r_aload_n C hl 0 dX7_gallery_27 rfl rfl ?_
      refine g_7_1 C hI h0 w_186 dX7_gallery_28 ?_
      refine r_aload_n C hl 0 dX7_gallery_31 rfl rfl ?_
      refine g_7_0 C hI h0 w_185 dX7_gallery_32 ?_
      refine r_callv (rest := []) hI hf (fun M' h => run_V C hI F_X6_open w_253 w_254 w_252 ⟨⟨Nat.le_of_ble_eq_true rfl, Nat.le_of_ble_eq_true rfl⟩, Nat.le_of_ble_eq_true rfl, Nat.le_of_ble_eq_true rfl⟩ (zX6 (k_7_1 h0)) (oX6 (k_7_1 h0)) rfl hl dX7_gallery_35 [rI g (ch o0 0)] rfl rfl (Nat.le_of_ble_eq_true rfl) (c_X6_open C.2.2.2.2.2.2 (k_7_1 h0) (k_7_0 h0) h)) (fun M35 H locs hI hf => ?_)
      refine r_aload_n C hl 0 dX7_gallery_38 rfl rfl ?_
      refine g_7_2 C hI h0 w_187 dX7_gallery_39 ?_
      refine r_iconst C dX7_gallery_42 ?_
      refine p_1_3 C hI (k_7_2 h0) w_115 dX7_gallery_43 (fun H locs hI => ?_)
      refine r_aload_n C hl 0 dX7_gallery_46 rfl rfl ?_
      refine g_7_0 C hI h0 w_185 dX7_gallery_47 ?_
      refine r_iconst C dX7_gallery_50 ?_
      refine p_2_1 C hI (k_7_0 h0) w_31 dX7_gallery_51 (fun H locs hI => ?_)
      refine r_aload_n C hl 0 dX7_gallery_54 rfl rfl ?_
      refine r_iconst C dX7_gallery_55 ?_
      refine p_7_9 C hI h0 (by decide) w_194 dX7_gallery_56 (fun H locs hI => ?_)
      refine r_aload_n C hl 0 dX7_gallery_59 rfl rfl ?_
      refine r_iconst C dX7_gallery_60 ?_
      refine p_7_10 C hI h0 (by decide) w_195 dX7_gallery_61 (fun H locs hI => ?_)
      refine r_aload_n C hl 0 dX7_gallery_64 rfl rfl ?_
      refine r_dup C dX7_gallery_65 rfl ?_
      refine g_7_11 C hI h0 w_196 dX7_gallery_66 ?_
      refine r_iconst C dX7_gallery_69 ?_
      refine r_iadd C dX7_gallery_70 ?_
      refine p_7_11 C hI h0 w_196 dX7_gallery_71 (fun H locs hI => ?_)
      refine r_aload_n C hl 0 dX7_gallery_74 rfl rfl ?_
      refine g_7_1 C hI h0 w_186 dX7_gallery_75 ?_
      refine g_6_0 C hI (k_7_1 h0) w_68 dX7_gallery_78 ?_
      refine r_calli (rest := []) hI hf (fun r M' h => run_V C hI F_X3_standing w_261 w_262 w_260 ⟨⟨Nat.le_of_ble_eq_true rfl, Nat.le_of_ble_eq_true rfl⟩, Nat.le_of_ble_eq_true rfl, Nat.le_of_ble_eq_true rfl⟩ (zX3 (k_6_0 (k_7_1 h0))) (oX3 (k_6_0 (k_7_1 h0))) rfl hl dX7_gallery_81 [] rfl rfl (Nat.le_of_ble_eq_true rfl) (c_X3_standing C.2.2.2.2.2.2 (k_6_0 (k_7_1 h0)) h)) (fun r81 M81 H locs hI hf => ?_)
      exact r_iret hQ hf hI dX7_gallery_84
    · refine r_bipush C dX7_gallery_24 rfl ?_
      exact r_iret hQ hf hI dX7_gallery_26
/-! X7_isPlace -/
def f_X7_isPlace (N : Nat) (o0 : Nat) (v1 : Int) (M : Mem) : Option (Int × Mem) := gd (inR (M o0 9)) (if (M o0 9) = 0 then (some (0, M)) else (gd (inR v1) (if v1 < 0 then (some (0, M)) else (if 6 ≤ v1 then (some (0, M)) else (some (1, M))))))
theorem F_X7_isPlace : CalF yX7_isPlace cX7_isPlace 2 (some .boolean) 1 := ⟨w_271, w_1, by decide +kernel⟩
set_option maxRecDepth 100000 in
set_option maxHeartbeats 4000000 in
theorem c_X7_isPlace {l : Launch} {g : GP} (hj : Inj g) {N : Nat} {M : Mem} {o0 : Nat} {v1 : Int} (h0 : kd o0 = 7) {r : Int × Mem} (hf : f_X7_isPlace N o0 v1 M = some r) : Met l yX7_isPlace (Cond.code yX7_isPlace cX7_isPlace 2 (some .boolean) :: TB) (rmK 0 0) (PreW g M [rI g o0, iI v1]) (PostI g r.1 r.2) 0 0 (Ad g) := by
  unfold f_X7_isPlace at hf
  refine met_of (nL := 2) (cc := cX7_isPlace) (M := M) (by decide +kernel) hj (Nat.le_of_ble_eq_true rfl) ?_
  intro p e s m below meth c ls C hr hlk hI hl
  have C : Cx g p s m _ c cX7_isPlace 2 "LentGallery" := C
  have hl : lv_has ls 2 [(0, rI g o0), (1, iI v1)] := hl
  have hQ := ret_z (l := l) (e := e) (R := (rmK 0 0)) (below := below) (r := r) C hr hlk
  generalize s.heap = H, ([] : List Loc) = locs at hI ⊢
  refine r_aload_n C hl 0 dX7_isPlace_0 rfl rfl ?_
  refine g_7_9 C hI h0 w_194 dX7_isPlace_1 ?_
  refine r_gd hf (fun q4_0 hf => ?_)
  refine r_if_eq C q4_0 (tgt := 21) dX7_isPlace_4 (by decide) hf (fun hf => ?_) (fun hf => ?_)
  · refine r_iconst C dX7_isPlace_21 ?_
    exact r_zret hQ (by decide) hf hI dX7_isPlace_22
  · refine r_iload_n C hl 1 dX7_isPlace_7 rfl rfl ?_
    refine r_gd hf (fun q8_1 hf => ?_)
    refine r_if_lt C q8_1 (tgt := 21) dX7_isPlace_8 (by decide) hf (fun hf => ?_) (fun hf => ?_)
    · refine r_iconst C dX7_isPlace_21 ?_
      exact r_zret hQ (by decide) hf hI dX7_isPlace_22
    · refine r_iload_n C hl 1 dX7_isPlace_11 rfl rfl ?_
      refine r_bipush C dX7_isPlace_12 rfl ?_
      refine r_ic_ge C q8_1 (by decide) (tgt := 21) dX7_isPlace_14 (by decide) hf (fun hf => ?_) (fun hf => ?_)
      · refine r_iconst C dX7_isPlace_21 ?_
        exact r_zret hQ (by decide) hf hI dX7_isPlace_22
      · refine r_iconst C dX7_isPlace_17 ?_
        refine r_goto C (tgt := 22) dX7_isPlace_18 (by decide) ?_
        exact r_zret hQ (by decide) hf hI dX7_isPlace_22
/-! X7_place -/
def f_X7_place (N : Nat) (o0 : Nat) (v1 : Int) (v2 : Int) (M : Mem) : Option (Int × Mem) := bnd (f_X7_isPlace N o0 v1 M) (fun r2 M2 => gd (inR r2) (if r2 = 0 then (some (-101, M2)) else (gd (inR v2) (if v2 < 0 ∨ 5 < v2 then (some (-102, M2)) else (if v2 = 0 then (gd (0 ≤ v1 ∧ v1 < 6) (some (M2 (ch (ch (ch o0 1) 0) 0) v1.toNat, M2))) else (if v2 = 1 then (gd (0 ≤ v1 ∧ v1 < 6) (some (M2 (ch (ch (ch o0 1) 0) 1) v1.toNat, M2))) else (if v2 = 2 then (bnd (f_X6_dwellers N (ch o0 1) v1 M2) (fun r83 M83 => some (r83, M83))) else (if v2 = 3 then (bnd (f_X3_lossAt N (ch (ch o0 1) 0) v1 M2) (fun r95 M95 => gd (0 ≤ v1 ∧ v1 < 6) (bnd (f_J9_min_7cf53 N r95 (M95 (ch (ch (ch o0 1) 0) 0) v1.toNat) M95) (fun r110 M110 => some (r110, M110))))) else (if v2 = 4 then (bnv (f_X5_sound N (ch o0 7) (ch (ch o0 1) 0) (ch o0 2) v1 M2) (fun M130 => some (M130 (ch o0 7) 3, M130))) else (bnv (f_X5_sound N (ch o0 7) (ch (ch o0 1) 0) (ch o0 2) v1 M2) (fun M157 => bnd (f_X5_bestDay N (ch o0 7) M157) (fun r164 M164 => some (r164, M164)))))))))))))
theorem F_X7_place : CalF yX7_place cX7_place 3 (some .int) 2 := ⟨w_267, w_1, by decide +kernel⟩
set_option maxRecDepth 100000 in
set_option maxHeartbeats 4000000 in
theorem c_X7_place {l : Launch} {g : GP} (hj : Inj g) {N : Nat} {M : Mem} {o0 : Nat} {v1 : Int} {v2 : Int} (h0 : kd o0 = 7) {r : Int × Mem} (hf : f_X7_place N o0 v1 v2 M = some r) : Met l yX7_place (Cond.code yX7_place cX7_place 3 (some .int) :: TB) (rmK 4 92) (PreW g M [rI g o0, iI v1, iI v2]) (PostI g r.1 r.2) 0 0 (Ad g) := by
  unfold f_X7_place at hf
  refine met_of (nL := 3) (cc := cX7_place) (M := M) (by decide +kernel) hj (Nat.le_of_ble_eq_true rfl) ?_
  intro p e s m below meth c ls C hr hlk hI hl
  have C : Cx g p s m _ c cX7_place 3 "LentGallery" := C
  have hl : lv_has ls 3 [(0, rI g o0), (1, iI v1), (2, iI v2)] := hl
  have hQ := ret_i (l := l) (e := e) (R := (rmK 4 92)) (below := below) (r := r) C hr hlk (nar_i _)
  generalize s.heap = H, ([] : List Loc) = locs at hI ⊢
  refine r_aload_n C hl 0 dX7_place_0 rfl rfl ?_
  refine r_iload_n C hl 1 dX7_place_1 rfl rfl ?_
  refine r_calli (rest := []) hI hf (fun r M' h => run_V C hI F_X7_isPlace w_270 v_0 w_268 ⟨⟨Nat.le_of_ble_eq_true rfl, Nat.le_of_ble_eq_true rfl⟩, Nat.le_of_ble_eq_true rfl, Nat.le_of_ble_eq_true rfl⟩ (zX7 h0) (oX7 h0) rfl hl dX7_place_2 [iI v1] rfl rfl (Nat.le_of_ble_eq_true rfl) (c_X7_isPlace C.2.2.2.2.2.2 h0 h)) (fun r2 M2 H locs hI hf => ?_)
  refine r_gd hf (fun q5_0 hf => ?_)
  refine r_if_ne C q5_0 (tgt := 11) dX7_place_5 (by decide) hf (fun hf => ?_) (fun hf => ?_)
  · refine r_iload_n C hl 2 dX7_place_11 rfl rfl ?_
    refine r_gd hf (fun q12_1 hf => ?_)
    refine r_if hf (fun hc hf => ?_) (fun hc hf => ?_)
    · refine r_tabOut C q12_1 dX7_place_12 hc (tgt := 168) (by decide) ?_
      refine r_bipush C dX7_place_168 rfl ?_
      exact r_iret hQ hf hI dX7_place_170
    · refine r_if hf (fun hc0 hf => ?_) (fun hc0 hf => ?_)
      · refine r_tabIn C 0 hc0 (by decide) dX7_place_12 (by decide) (by decide) (off := 40) rfl (tgt := 52) (by decide) ?_
        refine r_aload_n C hl 0 dX7_place_52 rfl rfl ?_
        refine g_7_1 C hI h0 w_186 dX7_place_53 ?_
        refine g_6_0 C hI (k_7_1 h0) w_68 dX7_place_56 ?_
        refine g_3_0 C hI (k_6_0 (k_7_1 h0)) w_53 dX7_place_59 ?_
        refine r_iload_n C hl 1 dX7_place_62 rfl rfl ?_
        refine r_gd hf (fun q63_2 hf => ?_)
        refine r_iald C hI 6 (n := 6) (k_3_0 (k_6_0 (k_7_1 h0))) (by decide) rfl q63_2 dX7_place_63 ?_
        exact r_iret hQ hf hI dX7_place_64
      · refine r_if hf (fun hc1 hf => ?_) (fun hc1 hf => ?_)
        · refine r_tabIn C 1 hc1 (by decide) dX7_place_12 (by decide) (by decide) (off := 53) rfl (tgt := 65) (by decide) ?_
          refine r_aload_n C hl 0 dX7_place_65 rfl rfl ?_
          refine g_7_1 C hI h0 w_186 dX7_place_66 ?_
          refine g_6_0 C hI (k_7_1 h0) w_68 dX7_place_69 ?_
          refine g_3_1 C hI (k_6_0 (k_7_1 h0)) w_57 dX7_place_72 ?_
          refine r_iload_n C hl 1 dX7_place_75 rfl rfl ?_
          refine r_gd hf (fun q76_2 hf => ?_)
          refine r_iald C hI 6 (n := 6) (k_3_1 (k_6_0 (k_7_1 h0))) (by decide) rfl q76_2 dX7_place_76 ?_
          exact r_iret hQ hf hI dX7_place_77
        · refine r_if hf (fun hc2 hf => ?_) (fun hc2 hf => ?_)
          · refine r_tabIn C 2 hc2 (by decide) dX7_place_12 (by decide) (by decide) (off := 66) rfl (tgt := 78) (by decide) ?_
            refine r_aload_n C hl 0 dX7_place_78 rfl rfl ?_
            refine g_7_1 C hI h0 w_186 dX7_place_79 ?_
            refine r_iload_n C hl 1 dX7_place_82 rfl rfl ?_
            refine r_calli (rest := []) hI hf (fun r M' h => run_V C hI F_X6_dwellers w_273 w_274 w_272 ⟨⟨Nat.le_of_ble_eq_true rfl, Nat.le_of_ble_eq_true rfl⟩, Nat.le_of_ble_eq_true rfl, Nat.le_of_ble_eq_true rfl⟩ (zX6 (k_7_1 h0)) (oX6 (k_7_1 h0)) rfl hl dX7_place_83 [iI v1] rfl rfl (Nat.le_of_ble_eq_true rfl) (c_X6_dwellers C.2.2.2.2.2.2 (k_7_1 h0) h)) (fun r83 M83 H locs hI hf => ?_)
            exact r_iret hQ hf hI dX7_place_86
          · refine r_if hf (fun hc3 hf => ?_) (fun hc3 hf => ?_)
            · refine r_tabIn C 3 hc3 (by decide) dX7_place_12 (by decide) (by decide) (off := 75) rfl (tgt := 87) (by decide) ?_
              refine r_aload_n C hl 0 dX7_place_87 rfl rfl ?_
              refine g_7_1 C hI h0 w_186 dX7_place_88 ?_
              refine g_6_0 C hI (k_7_1 h0) w_68 dX7_place_91 ?_
              refine r_iload_n C hl 1 dX7_place_94 rfl rfl ?_
              refine r_calli (rest := []) hI hf (fun r M' h => run_V C hI F_X3_lossAt w_277 w_278 w_276 ⟨⟨Nat.le_of_ble_eq_true rfl, Nat.le_of_ble_eq_true rfl⟩, Nat.le_of_ble_eq_true rfl, Nat.le_of_ble_eq_true rfl⟩ (zX3 (k_6_0 (k_7_1 h0))) (oX3 (k_6_0 (k_7_1 h0))) rfl hl dX7_place_95 [iI v1] rfl rfl (Nat.le_of_ble_eq_true rfl) (c_X3_lossAt C.2.2.2.2.2.2 (k_6_0 (k_7_1 h0)) h)) (fun r95 M95 H locs hI hf => ?_)
              refine r_aload_n C hl 0 dX7_place_98 rfl rfl ?_
              refine g_7_1 C hI h0 w_186 dX7_place_99 ?_
              refine g_6_0 C hI (k_7_1 h0) w_68 dX7_place_102 ?_
              refine g_3_0 C hI (k_6_0 (k_7_1 h0)) w_53 dX7_place_105 ?_
              refine r_iload_n C hl 1 dX7_place_108 rfl rfl ?_
              refine r_gd hf (fun q109_2 hf => ?_)
              refine r_iald C hI 6 (n := 6) (k_3_0 (k_6_0 (k_7_1 h0))) (by decide) rfl q109_2 dX7_place_109 ?_
              refine r_calli (rest := []) hI hf (fun r M' h => run_S C hI F_J9_min_7cf53 w_281 w_280 ⟨⟨Nat.le_of_ble_eq_true rfl, Nat.le_of_ble_eq_true rfl⟩, Nat.le_of_ble_eq_true rfl, Nat.le_of_ble_eq_true rfl⟩ hl dX7_place_110 [iI r95, iI (M95 (ch (ch (ch o0 1) 0) 0) v1.toNat)] rfl rfl (Nat.le_of_ble_eq_true rfl) (c_J9_min_7cf53 C.2.2.2.2.2.2 h)) (fun r110 M110 H locs hI hf => ?_)
              exact r_iret hQ hf hI dX7_place_113
            · refine r_if hf (fun hc4 hf => ?_) (fun hc4 hf => ?_)
              · refine r_tabIn C 4 hc4 (by decide) dX7_place_12 (by decide) (by decide) (off := 102) rfl (tgt := 114) (by decide) ?_
                refine r_aload_n C hl 0 dX7_place_114 rfl rfl ?_
                refine g_7_7 C hI h0 w_192 dX7_place_115 ?_
                refine r_aload_n C hl 0 dX7_place_118 rfl rfl ?_
                refine g_7_1 C hI h0 w_186 dX7_place_119 ?_
                refine g_6_0 C hI (k_7_1 h0) w_68 dX7_place_122 ?_
                refine r_aload_n C hl 0 dX7_place_125 rfl rfl ?_
                refine g_7_2 C hI h0 w_187 dX7_place_126 ?_
                refine r_iload_n C hl 1 dX7_place_129 rfl rfl ?_
                refine r_callv (rest := []) hI hf (fun M' h => run_V C hI F_X5_sound w_284 w_285 w_283 ⟨⟨Nat.le_of_ble_eq_true rfl, Nat.le_of_ble_eq_true rfl⟩, Nat.le_of_ble_eq_true rfl, Nat.le_of_ble_eq_true rfl⟩ (zX5 (k_7_7 h0)) (oX5 (k_7_7 h0)) rfl hl dX7_place_130 [rI g (ch (ch o0 1) 0), rI g (ch o0 2), iI v1] rfl rfl (Nat.le_of_ble_eq_true rfl) (c_X5_sound C.2.2.2.2.2.2 (k_7_7 h0) (k_6_0 (k_7_1 h0)) (k_7_2 h0) h)) (fun M130 H locs hI hf => ?_)
                refine r_aload_n C hl 0 dX7_place_133 rfl rfl ?_
                refine g_7_7 C hI h0 w_192 dX7_place_134 ?_
                refine g_5_3 C hI (k_7_7 h0) w_164 dX7_place_137 ?_
                exact r_iret hQ hf hI dX7_place_140
              · refine r_tabIn C 5 (by omega) (by decide) dX7_place_12 (by decide) (by decide) (off := 129) rfl (tgt := 141) (by decide) ?_
                refine r_aload_n C hl 0 dX7_place_141 rfl rfl ?_
                refine g_7_7 C hI h0 w_192 dX7_place_142 ?_
                refine r_aload_n C hl 0 dX7_place_145 rfl rfl ?_
                refine g_7_1 C hI h0 w_186 dX7_place_146 ?_
                refine g_6_0 C hI (k_7_1 h0) w_68 dX7_place_149 ?_
                refine r_aload_n C hl 0 dX7_place_152 rfl rfl ?_
                refine g_7_2 C hI h0 w_187 dX7_place_153 ?_
                refine r_iload_n C hl 1 dX7_place_156 rfl rfl ?_
                refine r_callv (rest := []) hI hf (fun M' h => run_V C hI F_X5_sound w_284 w_285 w_283 ⟨⟨Nat.le_of_ble_eq_true rfl, Nat.le_of_ble_eq_true rfl⟩, Nat.le_of_ble_eq_true rfl, Nat.le_of_ble_eq_true rfl⟩ (zX5 (k_7_7 h0)) (oX5 (k_7_7 h0)) rfl hl dX7_place_157 [rI g (ch (ch o0 1) 0), rI g (ch o0 2), iI v1] rfl rfl (Nat.le_of_ble_eq_true rfl) (c_X5_sound C.2.2.2.2.2.2 (k_7_7 h0) (k_6_0 (k_7_1 h0)) (k_7_2 h0) h)) (fun M157 H locs hI hf => ?_)
                refine r_aload_n C hl 0 dX7_place_160 rfl rfl ?_
                refine g_7_7 C hI h0 w_192 dX7_place_161 ?_
                refine r_calli (rest := []) hI hf (fun r M' h => run_V C hI F_X5_bestDay w_321 w_322 w_320 ⟨⟨Nat.le_of_ble_eq_true rfl, Nat.le_of_ble_eq_true rfl⟩, Nat.le_of_ble_eq_true rfl, Nat.le_of_ble_eq_true rfl⟩ (zX5 (k_7_7 h0)) (oX5 (k_7_7 h0)) rfl hl dX7_place_164 [] rfl rfl (Nat.le_of_ble_eq_true rfl) (c_X5_bestDay C.2.2.2.2.2.2 (k_7_7 h0) h)) (fun r164 M164 H locs hI hf => ?_)
                exact r_iret hQ hf hI dX7_place_167
  · refine r_bipush C dX7_place_8 rfl ?_
    exact r_iret hQ hf hI dX7_place_10
