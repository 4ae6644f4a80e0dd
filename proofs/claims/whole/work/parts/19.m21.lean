/-! X8_restore -/
def f_X8_restore (N : Nat) (o0 : Nat) (M : Mem) : Option (Int × Mem) := gd (inR (M o0 20)) (gd (inR (M o0 7)) (if (M o0 20) = (M o0 7) then (bnv (f_X8_copy N (ch o0 26) (ch o0 8) M) (fun M22 => bnv (f_X8_copy N (ch o0 27) (ch o0 10) M22) (fun M33 => bnv (f_X8_copy N (ch o0 28) (ch o0 17) M33) (fun M44 => some ((st (st (st (st (st M44 o0 9 (M44 o0 21)) o0 4 ((st M44 o0 9 (M44 o0 21)) o0 22)) o0 5 ((st (st M44 o0 9 (M44 o0 21)) o0 4 ((st M44 o0 9 (M44 o0 21)) o0 22)) o0 23)) o0 6 ((st (st (st M44 o0 9 (M44 o0 21)) o0 4 ((st M44 o0 9 (M44 o0 21)) o0 22)) o0 5 ((st (st M44 o0 9 (M44 o0 21)) o0 4 ((st M44 o0 9 (M44 o0 21)) o0 22)) o0 23)) o0 24)) o0 16 ((st (st (st (st M44 o0 9 (M44 o0 21)) o0 4 ((st M44 o0 9 (M44 o0 21)) o0 22)) o0 5 ((st (st M44 o0 9 (M44 o0 21)) o0 4 ((st M44 o0 9 (M44 o0 21)) o0 22)) o0 23)) o0 6 ((st (st (st M44 o0 9 (M44 o0 21)) o0 4 ((st M44 o0 9 (M44 o0 21)) o0 22)) o0 5 ((st (st M44 o0 9 (M44 o0 21)) o0 4 ((st M44 o0 9 (M44 o0 21)) o0 22)) o0 23)) o0 24)) o0 25)) o0 4, st (st (st (st (st M44 o0 9 (M44 o0 21)) o0 4 ((st M44 o0 9 (M44 o0 21)) o0 22)) o0 5 ((st (st M44 o0 9 (M44 o0 21)) o0 4 ((st M44 o0 9 (M44 o0 21)) o0 22)) o0 23)) o0 6 ((st (st (st M44 o0 9 (M44 o0 21)) o0 4 ((st M44 o0 9 (M44 o0 21)) o0 22)) o0 5 ((st (st M44 o0 9 (M44 o0 21)) o0 4 ((st M44 o0 9 (M44 o0 21)) o0 22)) o0 23)) o0 24)) o0 16 ((st (st (st (st M44 o0 9 (M44 o0 21)) o0 4 ((st M44 o0 9 (M44 o0 21)) o0 22)) o0 5 ((st (st M44 o0 9 (M44 o0 21)) o0 4 ((st M44 o0 9 (M44 o0 21)) o0 22)) o0 23)) o0 6 ((st (st (st M44 o0 9 (M44 o0 21)) o0 4 ((st M44 o0 9 (M44 o0 21)) o0 22)) o0 5 ((st (st M44 o0 9 (M44 o0 21)) o0 4 ((st M44 o0 9 (M44 o0 21)) o0 22)) o0 23)) o0 24)) o0 25)))))) else (some (-103, M))))
theorem F_X8_restore : CalF yX8_restore cX8_restore 1 (some .int) 0 := ⟨w_863, w_9, by decide +kernel⟩
set_option maxRecDepth 100000 in
set_option maxHeartbeats 4000000 in
theorem c_X8_restore {l : Launch} {g : GP} (hj : Inj g) {N : Nat} {M : Mem} {o0 : Nat} (h0 : kd o0 = 8) {r : Int × Mem} (hf : f_X8_restore N o0 M = some r) : Met l yX8_restore (Cond.code yX8_restore cX8_restore 1 (some .int) :: TB) (rmK 1 22) (PreW g M [rI g o0]) (PostI g r.1 r.2) 0 0 (Ad g) := by
  unfold f_X8_restore at hf
  refine met_of (nL := 1) (cc := cX8_restore) (M := M) (by decide +kernel) hj (Nat.le_of_ble_eq_true rfl) ?_
  intro p e s m below meth c ls C hr hlk hI hl
  have C : Cx g p s m _ c cX8_restore 1 "LentGalleryModel" := C
  have hl : lv_has ls 1 [(0, rI g o0)] := hl
  have hQ := ret_i (l := l) (e := e) (R := (rmK 1 22)) (below := below) (r := r) C hr hlk (nar_i _)
  generalize s.heap = H, ([] : List Loc) = locs at hI ⊢
  refine r_aload_n C hl 0 dX8_restore_0 rfl rfl ?_
  refine g_8_20 C hI h0 w_582 dX8_restore_1 ?_
  refine r_aload_n C hl 0 dX8_restore_4 rfl rfl ?_
  refine g_8_7 C hI h0 w_569 dX8_restore_5 ?_
  refine r_gd hf (fun q8_0 hf => ?_)
  refine r_gd hf (fun q8_1 hf => ?_)
  refine r_ic_eq C q8_0 q8_1 (tgt := 14) dX8_restore_8 (by decide) hf (fun hf => ?_) (fun hf => ?_)
  · refine r_aload_n C hl 0 dX8_restore_14 rfl rfl ?_
    refine g_8_26 C hI h0 w_588 dX8_restore_15 ?_
    refine r_aload_n C hl 0 dX8_restore_18 rfl rfl ?_
    refine g_8_8 C hI h0 w_570 dX8_restore_19 ?_
    refine r_callv (rest := []) hI hf (fun M' h => run_S C hI F_X8_copy w_707 w_706 ⟨⟨Nat.le_of_ble_eq_true rfl, Nat.le_of_ble_eq_true rfl⟩, Nat.le_of_ble_eq_true rfl, Nat.le_of_ble_eq_true rfl⟩ hl dX8_restore_22 [rI g (ch o0 26), rI g (ch o0 8)] rfl rfl (Nat.le_of_ble_eq_true rfl) (c_X8_copy C.2.2.2.2.2.2 (isA_k (k_8_26 h0) (by decide) (by decide)) (isA_k (k_8_8 h0) (by decide) (by decide)) h)) (fun M22 H locs hI hf => ?_)
    refine r_aload_n C hl 0 dX8_restore_25 rfl rfl ?_
    refine g_8_27 C hI h0 w_589 dX8_restore_26 ?_
    refine r_aload_n C hl 0 dX8_restore_29 rfl rfl ?_
    refine g_8_10 C hI h0 w_572 dX8_restore_30 ?_
    refine r_callv (rest := []) hI hf (fun M' h => run_S C hI F_X8_copy w_707 w_706 ⟨⟨Nat.le_of_ble_eq_true rfl, Nat.le_of_ble_eq_true rfl⟩, Nat.le_of_ble_eq_true rfl, Nat.le_of_ble_eq_true rfl⟩ hl dX8_restore_33 [rI g (ch o0 27), rI g (ch o0 10)] rfl rfl (Nat.le_of_ble_eq_true rfl) (c_X8_copy C.2.2.2.2.2.2 (isA_k (k_8_27 h0) (by decide) (by decide)) (isA_k (k_8_10 h0) (by decide) (by decide)) h)) (fun M33 H locs hI hf => ?_)
    refine r_aload_n C hl 0 dX8_restore_36 rfl rfl ?_
    refine g_8_28 C hI h0 w_590 dX8_restore_37 ?_
    refine r_aload_n C hl 0 dX8_restore_40 rfl rfl ?_
    refine g_8_17 C hI h0 w_579 dX8_restore_41 ?_
    refine r_callv (rest := []) hI hf (fun M' h => run_S C hI F_X8_copy w_707 w_706 ⟨⟨Nat.le_of_ble_eq_true rfl, Nat.le_of_ble_eq_true rfl⟩, Nat.le_of_ble_eq_true rfl, Nat.le_of_ble_eq_true rfl⟩ hl dX8_restore_44 [rI g (ch o0 28), rI g (ch o0 17)] rfl rfl (Nat.le_of_ble_eq_true rfl) (c_X8_copy C.2.2.2.2.2.2 (isA_k (k_8_28 h0) (by decide) (by decide)) (isA_k (k_8_17 h0) (by decide) (by decide)) h)) (fun M44 H locs hI hf => ?_)
    refine r_aload_n C hl 0 dX8_restore_47 rfl rfl ?_
    refine r_aload_n C hl 0 dX8_restore_48 rfl rfl ?_
    refine g_8_21 C hI h0 w_583 dX8_restore_49 ?_
    refine p_8_9 C hI h0 w_571 dX8_restore_52 (fun H locs hI => ?_)
    refine r_aload_n C hl 0 dX8_restore_55 rfl rfl ?_
    refine r_aload_n C hl 0 dX8_restore_56 rfl rfl ?_
    refine g_8_22 C hI h0 w_584 dX8_restore_57 ?_
    refine p_8_4 C hI h0 w_566 dX8_restore_60 (fun H locs hI => ?_)
    refine r_aload_n C hl 0 dX8_restore_63 rfl rfl ?_
    refine r_aload_n C hl 0 dX8_restore_64 rfl rfl ?_
    refine g_8_23 C hI h0 w_585 dX8_restore_65 ?_
    refine p_8_5 C hI h0 w_567 dX8_restore_68 (fun H locs hI => ?_)
    refine r_aload_n C hl 0 dX8_restore_71 rfl rfl ?_
    refine r_aload_n C hl 0 dX8_restore_72 rfl rfl ?_
    refine g_8_24 C hI h0 w_586 dX8_restore_73 ?_
    refine p_8_6 C hI h0 w_568 dX8_restore_76 (fun H locs hI => ?_)
    refine r_aload_n C hl 0 dX8_restore_79 rfl rfl ?_
    refine r_aload_n C hl 0 dX8_restore_80 rfl rfl ?_
    refine g_8_25 C hI h0 w_587 dX8_restore_81 ?_
    refine p_8_16 C hI h0 w_578 dX8_restore_84 (fun H locs hI => ?_)
    refine r_aload_n C hl 0 dX8_restore_87 rfl rfl ?_
    refine g_8_4 C hI h0 w_566 dX8_restore_88 ?_
    exact r_iret hQ hf hI dX8_restore_91
  · refine r_bipush C dX8_restore_11 rfl ?_
    exact r_iret hQ hf hI dX8_restore_13
/-! X8_sumBy -/
def f_X8_sumBy_4 (N : Nat) (o0 : Nat) (v1 : Int) : Nat → Int → Int → Mem → Option (Int × Mem)
  | 0, _, _, _ => none
  | n + 1, v2, v3, M => gd (inR v3) (gd (inR (M o0 9)) (if (M o0 9) ≤ v3 then (some (v2, M)) else (bnd (f_X8_tell N o0 v3 v1 M) (fun r16 M16 => f_X8_sumBy_4 N o0 v1 n (v2 + r16) (v3 + 1) M16))))
def f_X8_sumBy (N : Nat) (o0 : Nat) (v1 : Int) (M : Mem) : Option (Int × Mem) := f_X8_sumBy_4 N o0 v1 N 0 0 M
theorem F_X8_sumBy : CalF yX8_sumBy cX8_sumBy 4 (some .int) 1 := ⟨w_875, w_9, by decide +kernel⟩
set_option maxRecDepth 100000 in
set_option maxHeartbeats 4000000 in
theorem t_X8_sumBy_4 {g : GP} {p : Program} {l : Launch} {e : Env} {s : State} {m : MethodId} {args : Array Value} {below : List Frame} {meth : Method} {c : Code} {Q : State → Prop} {N : Nat} {o0 : Nat} {v1 : Int} (h0 : kd o0 = 8) (C : Cx g p s m args c cX8_sumBy 4 "LentGalleryModel") {r : Int × Mem} (hQ : RetI g p l e (rmK 3 71) s m args below meth c cX8_sumBy r Q) : ∀ (n : Nat) (v2 v3 : Int) (M : Mem) (H : Heap) (locs : List Loc) (ls : Array Slot), f_X8_sumBy_4 N o0 v1 n v2 v3 M = some r → Inv g s M H locs → lv_has ls 4 [(0, rI g o0), (1, iI v1), (2, iI v2), (3, iI v3)] → W p l e (rmK 3 71) s m args below meth c H locs 0 0 Q (F0 m 4 ls []) := by
  intro n
  induction n with
  | zero =>
    intro v2 v3 M H locs ls hf hI hl
    cases hf
  | succ n ih =>
    intro v2 v3 M H locs ls hf hI hl
    rw [f_X8_sumBy_4] at hf
    refine r_iload_n C hl 3 dX8_sumBy_4 rfl rfl ?_
    refine r_aload_n C hl 0 dX8_sumBy_5 rfl rfl ?_
    refine g_8_9 C hI h0 w_571 dX8_sumBy_6 ?_
    refine r_gd hf (fun q9_0 hf => ?_)
    refine r_gd hf (fun q9_1 hf => ?_)
    refine r_ic_ge C q9_0 q9_1 (tgt := 27) dX8_sumBy_9 (by decide) hf (fun hf => ?_) (fun hf => ?_)
    · refine r_iload_n C hl 2 dX8_sumBy_27 rfl rfl ?_
      exact r_iret hQ hf hI dX8_sumBy_28
    · refine r_iload_n C hl 2 dX8_sumBy_12 rfl rfl ?_
      refine r_aload_n C hl 0 dX8_sumBy_13 rfl rfl ?_
      refine r_iload_n C hl 3 dX8_sumBy_14 rfl rfl ?_
      refine r_iload_n C hl 1 dX8_sumBy_15 rfl rfl ?_
      refine r_calli (rest := [iI v2]) hI hf (fun r M' h => run_V C hI F_X8_tell w_762 v_23 w_760 ⟨⟨Nat.le_of_ble_eq_true rfl, Nat.le_of_ble_eq_true rfl⟩, Nat.le_of_ble_eq_true rfl, Nat.le_of_ble_eq_true rfl⟩ (zX8 h0) (oX8 h0) rfl hl dX8_sumBy_16 [iI v3, iI v1] rfl rfl (Nat.le_of_ble_eq_true rfl) (c_X8_tell C.2.2.2.2.2.2 h0 h)) (fun r16 M16 H locs hI hf => ?_)
      refine r_iadd C dX8_sumBy_19 ?_
      refine r_istore_n C hl (lv' := [(2, iI (v2 + r16)), (0, rI g o0), (1, iI v1), (3, iI v3)]) dX8_sumBy_20 rfl (Nat.le_of_ble_eq_true rfl) rfl (fun ls hl => ?_)
      refine r_iinc C hl (lv' := [(3, iI (v3 + 1)), (2, iI (v2 + r16)), (0, rI g o0), (1, iI v1)]) 3 dX8_sumBy_21 rfl (Nat.le_of_ble_eq_true rfl) rfl (fun ls hl => ?_)
      refine r_goto C (tgt := 4) dX8_sumBy_24 (by decide) ?_
      exact ih _ _ _ _ _ _ hf hI (lv_sub hl [2, 3, 1, 0] rfl)
set_option maxRecDepth 100000 in
set_option maxHeartbeats 4000000 in
theorem c_X8_sumBy {l : Launch} {g : GP} (hj : Inj g) {N : Nat} {M : Mem} {o0 : Nat} {v1 : Int} (h0 : kd o0 = 8) {r : Int × Mem} (hf : f_X8_sumBy N o0 v1 M = some r) : Met l yX8_sumBy (Cond.code yX8_sumBy cX8_sumBy 4 (some .int) :: TB) (rmK 3 71) (PreW g M [rI g o0, iI v1]) (PostI g r.1 r.2) 0 0 (Ad g) := by
  unfold f_X8_sumBy at hf
  refine met_of (nL := 4) (cc := cX8_sumBy) (M := M) (by decide +kernel) hj (Nat.le_of_ble_eq_true rfl) ?_
  intro p e s m below meth c ls C hr hlk hI hl
  have C : Cx g p s m _ c cX8_sumBy 4 "LentGalleryModel" := C
  have hl : lv_has ls 4 [(0, rI g o0), (1, iI v1)] := hl
  have hQ := ret_i (l := l) (e := e) (R := (rmK 3 71)) (below := below) (r := r) C hr hlk (nar_i _)
  generalize s.heap = H, ([] : List Loc) = locs at hI ⊢
  refine r_iconst C dX8_sumBy_0 ?_
  refine r_istore_n C hl (lv' := [(2, iI 0), (0, rI g o0), (1, iI v1)]) dX8_sumBy_1 rfl (Nat.le_of_ble_eq_true rfl) rfl (fun ls hl => ?_)
  refine r_iconst C dX8_sumBy_2 ?_
  refine r_istore_n C hl (lv' := [(3, iI 0), (2, iI 0), (0, rI g o0), (1, iI v1)]) dX8_sumBy_3 rfl (Nat.le_of_ble_eq_true rfl) rfl (fun ls hl => ?_)
  exact t_X8_sumBy_4 h0 C hQ _ _ _ _ _ _ _ hf hI (lv_sub hl [2, 3, 1, 0] rfl)
/-! X8_countOf -/
def f_X8_countOf (N : Nat) (o0 : Nat) (v1 : Int) (M : Mem) : Option (Int × Mem) := gd (inR v1) (if v1 < 0 ∨ 12 < v1 then (some (-102, M)) else (if v1 = 0 then (bnd (f_X8_standing N o0 M) (fun r69 M69 => some (r69, M69))) else (if v1 = 1 then (some (M o0 2, M)) else (if v1 = 2 then (some (M o0 3, M)) else (if v1 = 3 then (some (M o0 9, M)) else (if v1 = 4 then (bnd (f_X8_sumBy N o0 4 M) (fun r90 M90 => some (r90, M90))) else (if v1 = 5 then (bnd (f_X8_sumBy N o0 5 M) (fun r96 M96 => some (r96, M96))) else (if v1 = 6 then (some (M o0 4, M)) else (if v1 = 7 then (some (M o0 5, M)) else (if v1 = 8 then (some (M o0 6, M)) else (if v1 = 9 then (some (M o0 16, M)) else (if v1 = 10 then (some (M o0 1, M)) else (if v1 = 11 then (some (M o0 7, M)) else (some (M o0 14, M)))))))))))))))
theorem F_X8_countOf : CalF yX8_countOf cX8_countOf 2 (some .int) 1 := ⟨w_871, w_9, by decide +kernel⟩
set_option maxRecDepth 100000 in
set_option maxHeartbeats 4000000 in
theorem c_X8_countOf {l : Launch} {g : GP} (hj : Inj g) {N : Nat} {M : Mem} {o0 : Nat} {v1 : Int} (h0 : kd o0 = 8) {r : Int × Mem} (hf : f_X8_countOf N o0 v1 M = some r) : Met l yX8_countOf (Cond.code yX8_countOf cX8_countOf 2 (some .int) :: TB) (rmK 4 94) (PreW g M [rI g o0, iI v1]) (PostI g r.1 r.2) 0 0 (Ad g) := by
  unfold f_X8_countOf at hf
  refine met_of (nL := 2) (cc := cX8_countOf) (M := M) (by decide +kernel) hj (Nat.le_of_ble_eq_true rfl) ?_
  intro p e s m below meth c ls C hr hlk hI hl
  have C : Cx g p s m _ c cX8_countOf 2 "LentGalleryModel" := C
  have hl : lv_has ls 2 [(0, rI g o0), (1, iI v1)] := hl
  have hQ := ret_i (l := l) (e := e) (R := (rmK 4 94)) (below := below) (r := r) C hr hlk (nar_i _)
  generalize s.heap = H, ([] : List Loc) = locs at hI ⊢
  refine r_iload_n C hl 1 dX8_countOf_0 rfl rfl ?_
  refine r_gd hf (fun q1_0 hf => ?_)
  refine r_if hf (fun hc hf => ?_) (fun hc hf => ?_)
  · refine r_tabOut C q1_0 dX8_countOf_1 hc (tgt := 135) (by decide) ?_
    refine r_bipush C dX8_countOf_135 rfl ?_
    exact r_iret hQ hf hI dX8_countOf_137
  · refine r_if hf (fun hc0 hf => ?_) (fun hc0 hf => ?_)
    · refine r_tabIn C 0 hc0 (by decide) dX8_countOf_1 (by decide) (by decide) (off := 67) rfl (tgt := 68) (by decide) ?_
      refine r_aload_n C hl 0 dX8_countOf_68 rfl rfl ?_
      refine r_calli (rest := []) hI hf (fun r M' h => run_V C hI F_X8_standing w_683 v_10 w_681 ⟨⟨Nat.le_of_ble_eq_true rfl, Nat.le_of_ble_eq_true rfl⟩, Nat.le_of_ble_eq_true rfl, Nat.le_of_ble_eq_true rfl⟩ (zX8 h0) (oX8 h0) rfl hl dX8_countOf_69 [] rfl rfl (Nat.le_of_ble_eq_true rfl) (c_X8_standing C.2.2.2.2.2.2 h0 h)) (fun r69 M69 H locs hI hf => ?_)
      exact r_iret hQ hf hI dX8_countOf_72
    · refine r_if hf (fun hc1 hf => ?_) (fun hc1 hf => ?_)
      · refine r_tabIn C 1 hc1 (by decide) dX8_countOf_1 (by decide) (by decide) (off := 72) rfl (tgt := 73) (by decide) ?_
        refine r_aload_n C hl 0 dX8_countOf_73 rfl rfl ?_
        refine g_8_2 C hI h0 w_564 dX8_countOf_74 ?_
        exact r_iret hQ hf hI dX8_countOf_77
      · refine r_if hf (fun hc2 hf => ?_) (fun hc2 hf => ?_)
        · refine r_tabIn C 2 hc2 (by decide) dX8_countOf_1 (by decide) (by decide) (off := 77) rfl (tgt := 78) (by decide) ?_
          refine r_aload_n C hl 0 dX8_countOf_78 rfl rfl ?_
          refine g_8_3 C hI h0 w_565 dX8_countOf_79 ?_
          exact r_iret hQ hf hI dX8_countOf_82
        · refine r_if hf (fun hc3 hf => ?_) (fun hc3 hf => ?_)
          · refine r_tabIn C 3 hc3 (by decide) dX8_countOf_1 (by decide) (by decide) (off := 82) rfl (tgt := 83) (by decide) ?_
            refine r_aload_n C hl 0 dX8_countOf_83 rfl rfl ?_
            refine g_8_9 C hI h0 w_571 dX8_countOf_84 ?_
            exact r_iret hQ hf hI dX8_countOf_87
          · refine r_if hf (fun hc4 hf => ?_) (fun hc4 hf => ?_)
            · refine r_tabIn C 4 hc4 (by decide) dX8_countOf_1 (by decide) (by decide) (off := 87) rfl (tgt := 88) (by decide) ?_
              refine r_aload_n C hl 0 dX8_countOf_88 rfl rfl ?_
              refine r_iconst C dX8_countOf_89 ?_
              refine r_calli (rest := []) hI hf (fun r M' h => run_V C hI F_X8_sumBy w_874 v_34 w_872 ⟨⟨Nat.le_of_ble_eq_true rfl, Nat.le_of_ble_eq_true rfl⟩, Nat.le_of_ble_eq_true rfl, Nat.le_of_ble_eq_true rfl⟩ (zX8 h0) (oX8 h0) rfl hl dX8_countOf_90 [iI 4] rfl rfl (Nat.le_of_ble_eq_true rfl) (c_X8_sumBy C.2.2.2.2.2.2 h0 h)) (fun r90 M90 H locs hI hf => ?_)
              exact r_iret hQ hf hI dX8_countOf_93
            · refine r_if hf (fun hc5 hf => ?_) (fun hc5 hf => ?_)
              · refine r_tabIn C 5 hc5 (by decide) dX8_countOf_1 (by decide) (by decide) (off := 93) rfl (tgt := 94) (by decide) ?_
                refine r_aload_n C hl 0 dX8_countOf_94 rfl rfl ?_
                refine r_iconst C dX8_countOf_95 ?_
                refine r_calli (rest := []) hI hf (fun r M' h => run_V C hI F_X8_sumBy w_874 v_34 w_872 ⟨⟨Nat.le_of_ble_eq_true rfl, Nat.le_of_ble_eq_true rfl⟩, Nat.le_of_ble_eq_true rfl, Nat.le_of_ble_eq_true rfl⟩ (zX8 h0) (oX8 h0) rfl hl dX8_countOf_96 [iI 5] rfl rfl (Nat.le_of_ble_eq_true rfl) (c_X8_sumBy C.2.2.2.2.2.2 h0 h)) (fun r96 M96 H locs hI hf => ?_)
                exact r_iret hQ hf hI dX8_countOf_99
              · refine r_if hf (fun hc6 hf => ?_) (fun hc6 hf => ?_)
                · refine r_tabIn C 6 hc6 (by decide) dX8_countOf_1 (by decide) (by decide) (off := 99) rfl (tgt := 100) (by decide) ?_
                  refine r_aload_n C hl 0 dX8_countOf_100 rfl rfl ?_
                  refine g_8_4 C hI h0 w_566 dX8_countOf_101 ?_
                  exact r_iret hQ hf hI dX8_countOf_104
                · refine r_if hf (fun hc7 hf => ?_) (fun hc7 hf => ?_)
                  · refine r_tabIn C 7 hc7 (by decide) dX8_countOf_1 (by decide) (by decide) (off := 104) rfl (tgt := 105) (by decide) ?_
                    refine r_aload_n C hl 0 dX8_countOf_105 rfl rfl ?_
                    refine g_8_5 C hI h0 w_567 dX8_countOf_106 ?_
                    exact r_iret hQ hf hI dX8_countOf_109
                  · refine r_if hf (fun hc8 hf => ?_) (fun hc8 hf => ?_)
                    · refine r_tabIn C 8 hc8 (by decide) dX8_countOf_1 (by decide) (by decide) (off := 109) rfl (tgt := 110) (by decide) ?_
                      refine r_aload_n C hl 0 dX8_countOf_110 rfl rfl ?_
                      refine g_8_6 C hI h0 w_568 dX8_countOf_111 ?_
                      exact r_iret hQ hf hI dX8_countOf_114
                    · refine r_if hf (fun hc9 hf => ?_) (fun hc9 hf => ?_)
                      · refine r_tabIn C 9 hc9 (by decide) dX8_countOf_1 (by decide) (by decide) (off := 114) rfl (tgt := 115) (by decide) ?_
                        refine r_aload_n C hl 0 dX8_countOf_115 rfl rfl ?_
                        refine g_8_16 C hI h0 w_578 dX8_countOf_116 ?_
                        exact r_iret hQ hf hI dX8_countOf_119
                      · refine r_if hf (fun hc10 hf => ?_) (fun hc10 hf => ?_)
                        · refine r_tabIn C 10 hc10 (by decide) dX8_countOf_1 (by decide) (by decide) (off := 119) rfl (tgt := 120) (by decide) ?_
                          refine r_aload_n C hl 0 dX8_countOf_120 rfl rfl ?_
                          refine g_8_1 C hI h0 w_563 dX8_countOf_121 ?_
                          exact r_iret hQ hf hI dX8_countOf_124
                        · refine r_if hf (fun hc11 hf => ?_) (fun hc11 hf => ?_)
                          · refine r_tabIn C 11 hc11 (by decide) dX8_countOf_1 (by decide) (by decide) (off := 124) rfl (tgt := 125) (by decide) ?_
                            refine r_aload_n C hl 0 dX8_countOf_125 rfl rfl ?_
                            refine g_8_7 C hI h0 w_569 dX8_countOf_126 ?_
                            exact r_iret hQ hf hI dX8_countOf_129
                          · refine r_tabIn C 12 (by omega) (by decide) dX8_countOf_1 (by decide) (by decide) (off := 129) rfl (tgt := 130) (by decide) ?_
                            refine r_aload_n C hl 0 dX8_countOf_130 rfl rfl ?_
                            refine g_8_14 C hI h0 w_576 dX8_countOf_131 ?_
                            exact r_iret hQ hf hI dX8_countOf_134
/-! X8_count -/
def f_X8_count (N : Nat) (o0 : Nat) (v1 : Int) (M : Mem) : Option (Int × Mem) := bnd (f_X8_countOf N o0 v1 M) (fun r2 M2 => some (r2, M2))
theorem F_X8_count : CalF yX8_count cX8_count 2 (some .int) 1 := ⟨w_867, w_9, by decide +kernel⟩
set_option maxRecDepth 100000 in
set_option maxHeartbeats 4000000 in
theorem c_X8_count {l : Launch} {g : GP} (hj : Inj g) {N : Nat} {M : Mem} {o0 : Nat} {v1 : Int} (h0 : kd o0 = 8) {r : Int × Mem} (hf : f_X8_count N o0 v1 M = some r) : Met l yX8_count (Cond.code yX8_count cX8_count 2 (some .int) :: TB) (rmK 5 115) (PreW g M [rI g o0, iI v1]) (PostI g r.1 r.2) 0 0 (Ad g) := by
  unfold f_X8_count at hf
  refine met_of (nL := 2) (cc := cX8_count) (M := M) (by decide +kernel) hj (Nat.le_of_ble_eq_true rfl) ?_
  intro p e s m below meth c ls C hr hlk hI hl
  have C : Cx g p s m _ c cX8_count 2 "LentGalleryModel" := C
  have hl : lv_has ls 2 [(0, rI g o0), (1, iI v1)] := hl
  have hQ := ret_i (l := l) (e := e) (R := (rmK 5 115)) (below := below) (r := r) C hr hlk (nar_i _)
  generalize s.heap = H, ([] : List Loc) = locs at hI ⊢
  refine r_aload_n C hl 0 dX8_count_0 rfl rfl ?_
  refine r_iload_n C hl 1 dX8_count_1 rfl rfl ?_
  refine r_calli (rest := []) hI hf (fun r M' h => run_V C hI F_X8_countOf w_870 v_33 w_868 ⟨⟨Nat.le_of_ble_eq_true rfl, Nat.le_of_ble_eq_true rfl⟩, Nat.le_of_ble_eq_true rfl, Nat.le_of_ble_eq_true rfl⟩ (zX8 h0) (oX8 h0) rfl hl dX8_count_2 [iI v1] rfl rfl (Nat.le_of_ble_eq_true rfl) (c_X8_countOf C.2.2.2.2.2.2 h0 h)) (fun r2 M2 H locs hI hf => ?_)
  exact r_iret hQ hf hI dX8_count_5
/-! X8_say -/
def f_X8_say (N : Nat) (o0 : Nat) (v1 : Int) (M : Mem) : Option (Mem) := some (st M o0 29 ((31 * (M o0 29)) + v1))
theorem F_X8_say : CalF yX8_say cX8_say 3 none 1 := ⟨w_884, w_9, by decide +kernel⟩
set_option maxRecDepth 100000 in
set_option maxHeartbeats 4000000 in
theorem c_X8_say {l : Launch} {g : GP} (hj : Inj g) {N : Nat} {M : Mem} {o0 : Nat} {v1 : Int} (h0 : kd o0 = 8) {r : Mem} (hf : f_X8_say N o0 v1 M = some r) : Met l yX8_say (Cond.code yX8_say cX8_say 3 none :: TB) (rmK 0 0) (PreW g M [rI g o0, lI v1]) (PostV g r) 0 0 (Ad g) := by
  unfold f_X8_say at hf
  refine met_of (nL := 3) (cc := cX8_say) (M := M) (by decide +kernel) hj (Nat.le_of_ble_eq_true rfl) ?_
  intro p e s m below meth c ls C hr hlk hI hl
  have C : Cx g p s m _ c cX8_say 3 "LentGalleryModel" := C
  have hl : lv_has ls 3 [(0, rI g o0), (1, lI v1)] := hl
  have hQ := ret_v (l := l) (e := e) (R := (rmK 0 0)) (below := below) (r := r) C hr hlk
  generalize s.heap = H, ([] : List Loc) = locs at hI ⊢
  refine r_aload_n C hl 0 dX8_say_0 rfl rfl ?_
  refine r_ldc2 C (n := 31) w_885 rfl dX8_say_1 ?_
  refine r_aload_n C hl 0 dX8_say_4 rfl rfl ?_
  refine g_8_29 C hI h0 w_591 dX8_say_5 ?_
  refine r_lmul C dX8_say_8 ?_
  refine r_lload_n C hl 1 dX8_say_9 rfl rfl ?_
  refine r_ladd C dX8_say_10 ?_
  refine p_8_29 C hI h0 w_591 dX8_say_11 (fun H locs hI => ?_)
  exact r_vret hQ hf hI dX8_say_14
/-! X8_sayGallery -/
def f_X8_sayGallery_32 (N : Nat) (o0 : Nat) : Nat → Int → Mem → Option (Mem)
  | 0, _, _ => none
  | n + 1, v1, M => gd (inR v1) (if 16 ≤ v1 then (some M) else (bnd (f_X8_propsOf N o0 5 v1 M) (fun r42 M42 => gd (inR r42) (bnv (f_X8_say N o0 r42 M42) (fun M46 => f_X8_sayGallery_32 N o0 n (v1 + 1) M46)))))
def f_X8_sayGallery (N : Nat) (o0 : Nat) (M : Mem) : Option (Mem) := bnd (f_X8_holdsOf N o0 M) (fun r2 M2 => gd (inR r2) (bnv (f_X8_say N o0 r2 M2) (fun M6 => bnd (f_X8_outOf N o0 M6) (fun r11 M11 => gd (inR r11) (bnv (f_X8_say N o0 r11 M11) (fun M15 => bnd (f_X8_propsOf N o0 5 0 M15) (fun r22 M22 => gd (inR r22) (bnv (f_X8_say N o0 r22 M22) (fun M26 => f_X8_sayGallery_32 N o0 N 10 M26)))))))))
theorem F_X8_sayGallery : CalF yX8_sayGallery cX8_sayGallery 2 none 0 := ⟨w_889, w_9, by decide +kernel⟩
set_option maxRecDepth 100000 in
set_option maxHeartbeats 4000000 in
theorem t_X8_sayGallery_32 {g : GP} {p : Program} {l : Launch} {e : Env} {s : State} {m : MethodId} {args : Array Value} {below : List Frame} {meth : Method} {c : Code} {Q : State → Prop} {N : Nat} {o0 : Nat} (h0 : kd o0 = 8) (C : Cx g p s m args c cX8_sayGallery 2 "LentGalleryModel") {r : Mem} (hQ : RetV g p l e (rmK 6 133) s m args below meth c cX8_sayGallery r Q) : ∀ (n : Nat) (v1 : Int) (M : Mem) (H : Heap) (locs : List Loc) (ls : Array Slot), f_X8_sayGallery_32 N o0 n v1 M = some r → Inv g s M H locs → lv_has ls 2 [(0, rI g o0), (1, iI v1)] → W p l e (rmK 6 133) s m args below meth c H locs 0 0 Q (F0 m 32 ls []) := by
  intro n
  induction n with
  | zero =>
    intro v1 M H locs ls hf hI hl
    cases hf
  | succ n ih =>
    intro v1 M H locs ls hf hI hl
    rw [f_X8_sayGallery_32] at hf
    refine r_iload_n C hl 1 dX8_sayGallery_32 rfl rfl ?_
    refine r_bipush C dX8_sayGallery_33 rfl ?_
    refine r_gd hf (fun q35_0 hf => ?_)
    refine r_ic_ge C q35_0 (by decide) (tgt := 55) dX8_sayGallery_35 (by decide) hf (fun hf => ?_) (fun hf => ?_)
    · exact r_vret hQ hf hI dX8_sayGallery_55
    · refine r_aload_n C hl 0 dX8_sayGallery_38 rfl rfl ?_
      refine r_aload_n C hl 0 dX8_sayGallery_39 rfl rfl ?_
      refine r_iconst C dX8_sayGallery_40 ?_
      refine r_iload_n C hl 1 dX8_sayGallery_41 rfl rfl ?_
      refine r_calli (rest := [rI g o0]) hI hf (fun r M' h => run_V C hI F_X8_propsOf w_820 v_29 w_818 ⟨⟨Nat.le_of_ble_eq_true rfl, Nat.le_of_ble_eq_true rfl⟩, Nat.le_of_ble_eq_true rfl, Nat.le_of_ble_eq_true rfl⟩ (zX8 h0) (oX8 h0) rfl hl dX8_sayGallery_42 [iI 5, iI v1] rfl rfl (Nat.le_of_ble_eq_true rfl) (c_X8_propsOf C.2.2.2.2.2.2 h0 h)) (fun r42 M42 H locs hI hf => ?_)
      refine r_gd hf (fun q45_1 hf => ?_)
      refine r_i2l C q45_1 dX8_sayGallery_45 ?_
      refine r_callv (rest := []) hI hf (fun M' h => run_V C hI F_X8_say w_883 v_35 w_881 ⟨⟨Nat.le_of_ble_eq_true rfl, Nat.le_of_ble_eq_true rfl⟩, Nat.le_of_ble_eq_true rfl, Nat.le_of_ble_eq_true rfl⟩ (zX8 h0) (oX8 h0) rfl hl dX8_sayGallery_46 [lI r42] rfl rfl (Nat.le_of_ble_eq_true rfl) (c_X8_say C.2.2.2.2.2.2 h0 h)) (fun M46 H locs hI hf => ?_)
      refine r_iinc C hl (lv' := [(1, iI (v1 + 1)), (0, rI g o0)]) 1 dX8_sayGallery_49 rfl (Nat.le_of_ble_eq_true rfl) rfl (fun ls hl => ?_)
      refine r_goto C (tgt := 32) dX8_sayGallery_52 (by decide) ?_
      exact ih _ _ _ _ _ hf hI (lv_sub hl [1, 0] rfl)
set_option maxRecDepth 100000 in
set_option maxHeartbeats 4000000 in
theorem c_X8_sayGallery {l : Launch} {g : GP} (hj : Inj g) {N : Nat} {M : Mem} {o0 : Nat} (h0 : kd o0 = 8) {r : Mem} (hf : f_X8_sayGallery N o0 M = some r) : Met l yX8_sayGallery (Cond.code yX8_sayGallery cX8_sayGallery 2 none :: TB) (rmK 6 133) (PreW g M [rI g o0]) (PostV g r) 0 0 (Ad g) := by
  unfold f_X8_sayGallery at hf
  refine met_of (nL := 2) (cc := cX8_sayGallery) (M := M) (by decide +kernel) hj (Nat.le_of_ble_eq_true rfl) ?_
  intro p e s m below meth c ls C hr hlk hI hl
  have C : Cx g p s m _ c cX8_sayGallery 2 "LentGalleryModel" := C
  have hl : lv_has ls 2 [(0, rI g o0)] := hl
  have hQ := ret_v (l := l) (e := e) (R := (rmK 6 133)) (below := below) (r := r) C hr hlk
  generalize s.heap = H, ([] : List Loc) = locs at hI ⊢
  refine r_aload_n C hl 0 dX8_sayGallery_0 rfl rfl ?_
  refine r_aload_n C hl 0 dX8_sayGallery_1 rfl rfl ?_
  refine r_calli (rest := [rI g o0]) hI hf (fun r M' h => run_V C hI F_X8_holdsOf w_793 v_26 w_791 ⟨⟨Nat.le_of_ble_eq_true rfl, Nat.le_of_ble_eq_true rfl⟩, Nat.le_of_ble_eq_true rfl, Nat.le_of_ble_eq_true rfl⟩ (zX8 h0) (oX8 h0) rfl hl dX8_sayGallery_2 [] rfl rfl (Nat.le_of_ble_eq_true rfl) (c_X8_holdsOf C.2.2.2.2.2.2 h0 h)) (fun r2 M2 H locs hI hf => ?_)
  refine r_gd hf (fun q5_0 hf => ?_)
  refine r_i2l C q5_0 dX8_sayGallery_5 ?_
  refine r_callv (rest := []) hI hf (fun M' h => run_V C hI F_X8_say w_883 v_35 w_881 ⟨⟨Nat.le_of_ble_eq_true rfl, Nat.le_of_ble_eq_true rfl⟩, Nat.le_of_ble_eq_true rfl, Nat.le_of_ble_eq_true rfl⟩ (zX8 h0) (oX8 h0) rfl hl dX8_sayGallery_6 [lI r2] rfl rfl (Nat.le_of_ble_eq_true rfl) (c_X8_say C.2.2.2.2.2.2 h0 h)) (fun M6 H locs hI hf => ?_)
  refine r_aload_n C hl 0 dX8_sayGallery_9 rfl rfl ?_
  refine r_aload_n C hl 0 dX8_sayGallery_10 rfl rfl ?_
  refine r_calli (rest := [rI g o0]) hI hf (fun r M' h => run_V C hI F_X8_outOf w_832 v_31 w_830 ⟨⟨Nat.le_of_ble_eq_true rfl, Nat.le_of_ble_eq_true rfl⟩, Nat.le_of_ble_eq_true rfl, Nat.le_of_ble_eq_true rfl⟩ (zX8 h0) (oX8 h0) rfl hl dX8_sayGallery_11 [] rfl rfl (Nat.le_of_ble_eq_true rfl) (c_X8_outOf C.2.2.2.2.2.2 h0 h)) (fun r11 M11 H locs hI hf => ?_)
  refine r_gd hf (fun q14_1 hf => ?_)
  refine r_i2l C q14_1 dX8_sayGallery_14 ?_
  refine r_callv (rest := []) hI hf (fun M' h => run_V C hI F_X8_say w_883 v_35 w_881 ⟨⟨Nat.le_of_ble_eq_true rfl, Nat.le_of_ble_eq_true rfl⟩, Nat.le_of_ble_eq_true rfl, Nat.le_of_ble_eq_true rfl⟩ (zX8 h0) (oX8 h0) rfl hl dX8_sayGallery_15 [lI r11] rfl rfl (Nat.le_of_ble_eq_true rfl) (c_X8_say C.2.2.2.2.2.2 h0 h)) (fun M15 H locs hI hf => ?_)
  refine r_aload_n C hl 0 dX8_sayGallery_18 rfl rfl ?_
  refine r_aload_n C hl 0 dX8_sayGallery_19 rfl rfl ?_
  refine r_iconst C dX8_sayGallery_20 ?_
  refine r_iconst C dX8_sayGallery_21 ?_
  refine r_calli (rest := [rI g o0]) hI hf (fun r M' h => run_V C hI F_X8_propsOf w_820 v_29 w_818 ⟨⟨Nat.le_of_ble_eq_true rfl, Nat.le_of_ble_eq_true rfl⟩, Nat.le_of_ble_eq_true rfl, Nat.le_of_ble_eq_true rfl⟩ (zX8 h0) (oX8 h0) rfl hl dX8_sayGallery_22 [iI 5, iI 0] rfl rfl (Nat.le_of_ble_eq_true rfl) (c_X8_propsOf C.2.2.2.2.2.2 h0 h)) (fun r22 M22 H locs hI hf => ?_)
  refine r_gd hf (fun q25_2 hf => ?_)
  refine r_i2l C q25_2 dX8_sayGallery_25 ?_
  refine r_callv (rest := []) hI hf (fun M' h => run_V C hI F_X8_say w_883 v_35 w_881 ⟨⟨Nat.le_of_ble_eq_true rfl, Nat.le_of_ble_eq_true rfl⟩, Nat.le_of_ble_eq_true rfl, Nat.le_of_ble_eq_true rfl⟩ (zX8 h0) (oX8 h0) rfl hl dX8_sayGallery_26 [lI r22] rfl rfl (Nat.le_of_ble_eq_true rfl) (c_X8_say C.2.2.2.2.2.2 h0 h)) (fun M26 H locs hI hf => ?_)
  refine r_bipush C dX8_sayGallery_29 rfl ?_
  refine r_istore_n C hl (lv' := [(1, iI 10), (0, rI g o0)]) dX8_sayGallery_31 rfl (Nat.le_of_ble_eq_true rfl) rfl (fun ls hl => ?_)
  exact t_X8_sayGallery_32 h0 C hQ _ _ _ _ _ _ hf hI (lv_sub hl [1, 0] rfl)
/-! X8_digest -/
def f_X8_digest_134 (N : Nat) (o0 : Nat) : Nat → Int → Mem → Option (Int × Mem)
  | 0, _, _ => none
  | n + 1, v1, M => gd (inR v1) (if 13 ≤ v1 then (some (M o0 29, M)) else (bnd (f_X8_countOf N o0 v1 M) (fun r143 M143 => gd (inR r143) (bnv (f_X8_say N o0 r143 M143) (fun M147 => f_X8_digest_134 N o0 n (v1 + 1) M147)))))
def f_X8_digest_107 (N : Nat) (o0 : Nat) : Nat → Int → Mem → Option (Int × Mem)
  | 0, _, _ => none
  | n + 1, v1, M => gd (inR v1) (gd (inR (M o0 1)) (if (M o0 1) ≤ v1 then (f_X8_digest_134 N o0 N 0 M) else (gd (0 ≤ v1 ∧ v1 < 12) (gd (inR (M (ch o0 0) v1.toNat)) (bnv (f_X8_say N o0 (M (ch o0 0) v1.toNat) M) (fun M123 => f_X8_digest_107 N o0 n (v1 + 1) M123))))))
def f_X8_digest_65 (N : Nat) (o0 : Nat) (k55 : Int → Mem → Option (Int × Mem)) : Nat → Int → Int → Mem → Option (Int × Mem)
  | 0, _, _, _ => none
  | n + 1, v1, v2, M => gd (inR v2) (if 6 ≤ v2 then (k55 (v1 + 1) M) else (bnd (f_X8_tell N o0 v1 v2 M) (fun r75 M75 => gd (inR r75) (bnv (f_X8_say N o0 r75 M75) (fun M79 => f_X8_digest_65 N o0 k55 n v1 (v2 + 1) M79)))))
def f_X8_digest_55 (N : Nat) (o0 : Nat) : Nat → Int → Mem → Option (Int × Mem)
  | 0, _, _ => none
  | n + 1, v1, M => gd (inR v1) (gd (inR (M o0 9)) (if (M o0 9) ≤ v1 then (bnd (f_X8_lacks N o0 M) (fun r95 M95 => gd (inR r95) (if r95 = 0 then (bnv (f_X8_sayGallery N o0 M95) (fun M102 => f_X8_digest_107 N o0 N 0 M102)) else (f_X8_digest_107 N o0 N 0 M95)))) else (f_X8_digest_65 N o0 (f_X8_digest_55 N o0 n) N v1 0 M)))
def f_X8_digest_24 (N : Nat) (o0 : Nat) (k9 : Int → Mem → Option (Int × Mem)) : Nat → Int → Int → Mem → Option (Int × Mem)
  | 0, _, _, _ => none
  | n + 1, v1, v2, M => gd (inR v2) (if 6 ≤ v2 then (k9 (v1 + 1) M) else (bnd (f_X8_tellPlace N o0 v1 v2 M) (fun r34 M34 => gd (inR r34) (bnv (f_X8_say N o0 r34 M34) (fun M38 => f_X8_digest_24 N o0 k9 n v1 (v2 + 1) M38)))))
def f_X8_digest_9 (N : Nat) (o0 : Nat) : Nat → Int → Mem → Option (Int × Mem)
  | 0, _, _ => none
  | n + 1, v1, M => gd (inR v1) (if 6 ≤ v1 then (f_X8_digest_55 N o0 N 0 M) else (bnd (f_X8_lacks N o0 M) (fun r16 M16 => gd (inR r16) (if r16 = 0 then (f_X8_digest_24 N o0 (f_X8_digest_9 N o0 n) N v1 0 M16) else (f_X8_digest_55 N o0 N 0 M16)))))
def f_X8_digest (N : Nat) (o0 : Nat) (M : Mem) : Option (Int × Mem) := f_X8_digest_9 N o0 N 0 (st M o0 29 919)
theorem F_X8_digest : CalF yX8_digest cX8_digest 3 (some .long) 0 := ⟨w_879, w_9, by decide +kernel⟩
set_option maxRecDepth 100000 in
set_option maxHeartbeats 4000000 in
theorem t_X8_digest_134 {g : GP} {p : Program} {l : Launch} {e : Env} {s : State} {m : MethodId} {args : Array Value} {below : List Frame} {meth : Method} {c : Code} {Q : State → Prop} {N : Nat} {o0 : Nat} (h0 : kd o0 = 8) (C : Cx g p s m args c cX8_digest 3 "LentGalleryModel") {r : Int × Mem} (hQ : RetL g p l e (rmK 8 189) s m args below meth c cX8_digest r Q) : ∀ (n : Nat) (v1 : Int) (M : Mem) (H : Heap) (locs : List Loc) (ls : Array Slot), f_X8_digest_134 N o0 n v1 M = some r → Inv g s M H locs → lv_has ls 3 [(0, rI g o0), (1, iI v1)] → W p l e (rmK 8 189) s m args below meth c H locs 0 0 Q (F0 m 134 ls []) := by
  intro n
  induction n with
  | zero =>
    intro v1 M H locs ls hf hI hl
    cases hf
  | succ n ih =>
    intro v1 M H locs ls hf hI hl
    rw [f_X8_digest_134] at hf
    refine r_iload_n C hl 1 dX8_digest_134 rfl rfl ?_
    refine r_bipush C dX8_digest_135 rfl ?_
    refine r_gd hf (fun q137_0 hf => ?_)
    refine r_ic_ge C q137_0 (by decide) (tgt := 156) dX8_digest_137 (by decide) hf (fun hf => ?_) (fun hf => ?_)
    · refine r_aload_n C hl 0 dX8_digest_156 rfl rfl ?_
      refine g_8_29 C hI h0 w_591 dX8_digest_157 ?_
      exact r_lret hQ hf hI dX8_digest_160
    · refine r_aload_n C hl 0 dX8_digest_140 rfl rfl ?_
      refine r_aload_n C hl 0 dX8_digest_141 rfl rfl ?_
      refine r_iload_n C hl 1 dX8_digest_142 rfl rfl ?_
      refine r_calli (rest := [rI g o0]) hI hf (fun r M' h => run_V C hI F_X8_countOf w_870 v_33 w_868 ⟨⟨Nat.le_of_ble_eq_true rfl, Nat.le_of_ble_eq_true rfl⟩, Nat.le_of_ble_eq_true rfl, Nat.le_of_ble_eq_true rfl⟩ (zX8 h0) (oX8 h0) rfl hl dX8_digest_143 [iI v1] rfl rfl (Nat.le_of_ble_eq_true rfl) (c_X8_countOf C.2.2.2.2.2.2 h0 h)) (fun r143 M143 H locs hI hf => ?_)
      refine r_gd hf (fun q146_1 hf => ?_)
      refine r_i2l C q146_1 dX8_digest_146 ?_
      refine r_callv (rest := []) hI hf (fun M' h => run_V C hI F_X8_say w_883 v_35 w_881 ⟨⟨Nat.le_of_ble_eq_true rfl, Nat.le_of_ble_eq_true rfl⟩, Nat.le_of_ble_eq_true rfl, Nat.le_of_ble_eq_true rfl⟩ (zX8 h0) (oX8 h0) rfl hl dX8_digest_147 [lI r143] rfl rfl (Nat.le_of_ble_eq_true rfl) (c_X8_say C.2.2.2.2.2.2 h0 h)) (fun M147 H locs hI hf => ?_)
      refine r_iinc C hl (lv' := [(1, iI (v1 + 1)), (0, rI g o0)]) 1 dX8_digest_150 rfl (Nat.le_of_ble_eq_true rfl) rfl (fun ls hl => ?_)
      refine r_goto C (tgt := 134) dX8_digest_153 (by decide) ?_
      exact ih _ _ _ _ _ hf hI (lv_sub hl [1, 0] rfl)
set_option maxRecDepth 100000 in
set_option maxHeartbeats 4000000 in
theorem t_X8_digest_107 {g : GP} {p : Program} {l : Launch} {e : Env} {s : State} {m : MethodId} {args : Array Value} {below : List Frame} {meth : Method} {c : Code} {Q : State → Prop} {N : Nat} {o0 : Nat} (h0 : kd o0 = 8) (C : Cx g p s m args c cX8_digest 3 "LentGalleryModel") {r : Int × Mem} (hQ : RetL g p l e (rmK 8 189) s m args below meth c cX8_digest r Q) : ∀ (n : Nat) (v1 : Int) (M : Mem) (H : Heap) (locs : List Loc) (ls : Array Slot), f_X8_digest_107 N o0 n v1 M = some r → Inv g s M H locs → lv_has ls 3 [(0, rI g o0), (1, iI v1)] → W p l e (rmK 8 189) s m args below meth c H locs 0 0 Q (F0 m 107 ls []) := by
  intro n
  induction n with
  | zero =>
    intro v1 M H locs ls hf hI hl
    cases hf
  | succ n ih =>
    intro v1 M H locs ls hf hI hl
    rw [f_X8_digest_107] at hf
    refine r_iload_n C hl 1 dX8_digest_107 rfl rfl ?_
    refine r_aload_n C hl 0 dX8_digest_108 rfl rfl ?_
    refine g_8_1 C hI h0 w_563 dX8_digest_109 ?_
    refine r_gd hf (fun q112_0 hf => ?_)
    refine r_gd hf (fun q112_1 hf => ?_)
    refine r_ic_ge C q112_0 q112_1 (tgt := 132) dX8_digest_112 (by decide) hf (fun hf => ?_) (fun hf => ?_)
    · refine r_iconst C dX8_digest_132 ?_
      refine r_istore_n C hl (lv' := [(1, iI 0), (0, rI g o0)]) dX8_digest_133 rfl (Nat.le_of_ble_eq_true rfl) rfl (fun ls hl => ?_)
      exact t_X8_digest_134 h0 C hQ _ _ _ _ _ _ hf hI (lv_sub hl [1, 0] rfl)
    · refine r_aload_n C hl 0 dX8_digest_115 rfl rfl ?_
      refine r_aload_n C hl 0 dX8_digest_116 rfl rfl ?_
      refine g_8_0 C hI h0 w_562 dX8_digest_117 ?_
      refine r_iload_n C hl 1 dX8_digest_120 rfl rfl ?_
      refine r_gd hf (fun q121_2 hf => ?_)
      refine r_iald C hI 12 (n := 12) (k_8_0 h0) (by decide) rfl q121_2 dX8_digest_121 ?_
      refine r_gd hf (fun q122_3 hf => ?_)
      refine r_i2l C q122_3 dX8_digest_122 ?_
      refine r_callv (rest := []) hI hf (fun M' h => run_V C hI F_X8_say w_883 v_35 w_881 ⟨⟨Nat.le_of_ble_eq_true rfl, Nat.le_of_ble_eq_true rfl⟩, Nat.le_of_ble_eq_true rfl, Nat.le_of_ble_eq_true rfl⟩ (zX8 h0) (oX8 h0) rfl hl dX8_digest_123 [lI (M (ch o0 0) v1.toNat)] rfl rfl (Nat.le_of_ble_eq_true rfl) (c_X8_say C.2.2.2.2.2.2 h0 h)) (fun M123 H locs hI hf => ?_)
      refine r_iinc C hl (lv' := [(1, iI (v1 + 1)), (0, rI g o0)]) 1 dX8_digest_126 rfl (Nat.le_of_ble_eq_true rfl) rfl (fun ls hl => ?_)
      refine r_goto C (tgt := 107) dX8_digest_129 (by decide) ?_
      exact ih _ _ _ _ _ hf hI (lv_sub hl [1, 0] rfl)
set_option maxRecDepth 100000 in
set_option maxHeartbeats 4000000 in
theorem t_X8_digest_65 {g : GP} {p : Program} {l : Launch} {e : Env} {s : State} {m : MethodId} {args : Array Value} {below : List Frame} {meth : Method} {c : Code} {Q : State → Prop} {N : Nat} {o0 : Nat} (h0 : kd o0 = 8) (C : Cx g p s m args c cX8_digest 3 "LentGalleryModel") {r : Int × Mem} (hQ : RetL g p l e (rmK 8 189) s m args below meth c cX8_digest r Q) {k55 : Int → Mem → Option (Int × Mem)} (hk55 : ∀ (v1 : Int) (M : Mem) (H : Heap) (locs : List Loc) (ls : Array Slot), k55 v1 M = some r → Inv g s M H locs → lv_has ls 3 [(0, rI g o0), (1, iI v1)] → W p l e (rmK 8 189) s m args below meth c H locs 0 0 Q (F0 m 55 ls [])) : ∀ (n : Nat) (v1 v2 : Int) (M : Mem) (H : Heap) (locs : List Loc) (ls : Array Slot), f_X8_digest_65 N o0 k55 n v1 v2 M = some r → Inv g s M H locs → lv_has ls 3 [(0, rI g o0), (1, iI v1), (2, iI v2)] → W p l e (rmK 8 189) s m args below meth c H locs 0 0 Q (F0 m 65 ls []) := by
  intro n
  induction n with
  | zero =>
    intro v1 v2 M H locs ls hf hI hl
    cases hf
  | succ n ih =>
    intro v1 v2 M H locs ls hf hI hl
    rw [f_X8_digest_65] at hf
    refine r_iload_n C hl 2 dX8_digest_65 rfl rfl ?_
    refine r_bipush C dX8_digest_66 rfl ?_
    refine r_gd hf (fun q68_0 hf => ?_)
    refine r_ic_ge C q68_0 (by decide) (tgt := 88) dX8_digest_68 (by decide) hf (fun hf => ?_) (fun hf => ?_)
    · refine r_iinc C hl (lv' := [(1, iI (v1 + 1)), (0, rI g o0), (2, iI v2)]) 1 dX8_digest_88 rfl (Nat.le_of_ble_eq_true rfl) rfl (fun ls hl => ?_)
      refine r_goto C (tgt := 55) dX8_digest_91 (by decide) ?_
      exact hk55 _ _ _ _ _ hf hI (lv_sub hl [1, 0] rfl)
    · refine r_aload_n C hl 0 dX8_digest_71 rfl rfl ?_
      refine r_aload_n C hl 0 dX8_digest_72 rfl rfl ?_
      refine r_iload_n C hl 1 dX8_digest_73 rfl rfl ?_
      refine r_iload_n C hl 2 dX8_digest_74 rfl rfl ?_
      refine r_calli (rest := [rI g o0]) hI hf (fun r M' h => run_V C hI F_X8_tell w_762 v_23 w_760 ⟨⟨Nat.le_of_ble_eq_true rfl, Nat.le_of_ble_eq_true rfl⟩, Nat.le_of_ble_eq_true rfl, Nat.le_of_ble_eq_true rfl⟩ (zX8 h0) (oX8 h0) rfl hl dX8_digest_75 [iI v1, iI v2] rfl rfl (Nat.le_of_ble_eq_true rfl) (c_X8_tell C.2.2.2.2.2.2 h0 h)) (fun r75 M75 H locs hI hf => ?_)
      refine r_gd hf (fun q78_1 hf => ?_)
      refine r_i2l C q78_1 dX8_digest_78 ?_
      refine r_callv (rest := []) hI hf (fun M' h => run_V C hI F_X8_say w_883 v_35 w_881 ⟨⟨Nat.le_of_ble_eq_true rfl, Nat.le_of_ble_eq_true rfl⟩, Nat.le_of_ble_eq_true rfl, Nat.le_of_ble_eq_true rfl⟩ (zX8 h0) (oX8 h0) rfl hl dX8_digest_79 [lI r75] rfl rfl (Nat.le_of_ble_eq_true rfl) (c_X8_say C.2.2.2.2.2.2 h0 h)) (fun M79 H locs hI hf => ?_)
      refine r_iinc C hl (lv' := [(2, iI (v2 + 1)), (0, rI g o0), (1, iI v1)]) 2 dX8_digest_82 rfl (Nat.le_of_ble_eq_true rfl) rfl (fun ls hl => ?_)
      refine r_goto C (tgt := 65) dX8_digest_85 (by decide) ?_
      exact ih _ _ _ _ _ _ hf hI (lv_sub hl [1, 2, 0] rfl)
set_option maxRecDepth 100000 in
set_option maxHeartbeats 4000000 in
theorem t_X8_digest_55 {g : GP} {p : Program} {l : Launch} {e : Env} {s : State} {m : MethodId} {args : Array Value} {below : List Frame} {meth : Method} {c : Code} {Q : State → Prop} {N : Nat} {o0 : Nat} (h0 : kd o0 = 8) (C : Cx g p s m args c cX8_digest 3 "LentGalleryModel") {r : Int × Mem} (hQ : RetL g p l e (rmK 8 189) s m args below meth c cX8_digest r Q) : ∀ (n : Nat) (v1 : Int) (M : Mem) (H : Heap) (locs : List Loc) (ls : Array Slot), f_X8_digest_55 N o0 n v1 M = some r → Inv g s M H locs → lv_has ls 3 [(0, rI g o0), (1, iI v1)] → W p l e (rmK 8 189) s m args below meth c H locs 0 0 Q (F0 m 55 ls []) := by
  intro n
  induction n with
  | zero =>
    intro v1 M H locs ls hf hI hl
    cases hf
  | succ n ih =>
    intro v1 M H locs ls hf hI hl
    rw [f_X8_digest_55] at hf
    refine r_iload_n C hl 1 dX8_digest_55 rfl rfl ?_
    refine r_aload_n C hl 0 dX8_digest_56 rfl rfl ?_
    refine g_8_9 C hI h0 w_571 dX8_digest_57 ?_
    refine r_gd hf (fun q60_0 hf => ?_)
    refine r_gd hf (fun q60_1 hf => ?_)
    refine r_ic_ge C q60_0 q60_1 (tgt := 94) dX8_digest_60 (by decide) hf (fun hf => ?_) (fun hf => ?_)
    · refine r_aload_n C hl 0 dX8_digest_94 rfl rfl ?_
      refine r_calli (rest := []) hI hf (fun r M' h => run_V C hI F_X8_lacks w_695 v_12 w_693 ⟨⟨Nat.le_of_ble_eq_true rfl, Nat.le_of_ble_eq_true rfl⟩, Nat.le_of_ble_eq_true rfl, Nat.le_of_ble_eq_true rfl⟩ (zX8 h0) (oX8 h0) rfl hl dX8_digest_95 [] rfl rfl (Nat.le_of_ble_eq_true rfl) (c_X8_lacks C.2.2.2.2.2.2 h0 h)) (fun r95 M95 H locs hI hf => ?_)
      refine r_gd hf (fun q98_2 hf => ?_)
      refine r_if_ne C q98_2 (tgt := 105) dX8_digest_98 (by decide) hf (fun hf => ?_) (fun hf => ?_)
      · refine r_iconst C dX8_digest_105 ?_
        refine r_istore_n C hl (lv' := [(1, iI 0), (0, rI g o0)]) dX8_digest_106 rfl (Nat.le_of_ble_eq_true rfl) rfl (fun ls hl => ?_)
        exact t_X8_digest_107 h0 C hQ _ _ _ _ _ _ hf hI (lv_sub hl [1, 0] rfl)
      · refine r_aload_n C hl 0 dX8_digest_101 rfl rfl ?_
        refine r_callv (rest := []) hI hf (fun M' h => run_V C hI F_X8_sayGallery w_888 v_36 w_886 ⟨⟨Nat.le_of_ble_eq_true rfl, Nat.le_of_ble_eq_true rfl⟩, Nat.le_of_ble_eq_true rfl, Nat.le_of_ble_eq_true rfl⟩ (zX8 h0) (oX8 h0) rfl hl dX8_digest_102 [] rfl rfl (Nat.le_of_ble_eq_true rfl) (c_X8_sayGallery C.2.2.2.2.2.2 h0 h)) (fun M102 H locs hI hf => ?_)
        refine r_iconst C dX8_digest_105 ?_
        refine r_istore_n C hl (lv' := [(1, iI 0), (0, rI g o0)]) dX8_digest_106 rfl (Nat.le_of_ble_eq_true rfl) rfl (fun ls hl => ?_)
        exact t_X8_digest_107 h0 C hQ _ _ _ _ _ _ hf hI (lv_sub hl [1, 0] rfl)
    · refine r_iconst C dX8_digest_63 ?_
      refine r_istore_n C hl (lv' := [(2, iI 0), (0, rI g o0), (1, iI v1)]) dX8_digest_64 rfl (Nat.le_of_ble_eq_true rfl) rfl (fun ls hl => ?_)
      exact t_X8_digest_65 h0 C hQ ih _ _ _ _ _ _ _ hf hI (lv_sub hl [1, 2, 0] rfl)
set_option maxRecDepth 100000 in
set_option maxHeartbeats 4000000 in
theorem t_X8_digest_24 {g : GP} {p : Program} {l : Launch} {e : Env} {s : State} {m : MethodId} {args : Array Value} {below : List Frame} {meth : Method} {c : Code} {Q : State → Prop} {N : Nat} {o0 : Nat} (h0 : kd o0 = 8) (C : Cx g p s m args c cX8_digest 3 "LentGalleryModel") {r : Int × Mem} (hQ : RetL g p l e (rmK 8 189) s m args below meth c cX8_digest r Q) {k9 : Int → Mem → Option (Int × Mem)} (hk9 : ∀ (v1 : Int) (M : Mem) (H : Heap) (locs : List Loc) (ls : Array Slot), k9 v1 M = some r → Inv g s M H locs → lv_has ls 3 [(0, rI g o0), (1, iI v1)] → W p l e (rmK 8 189) s m args below meth c H locs 0 0 Q (F0 m 9 ls [])) : ∀ (n : Nat) (v1 v2 : Int) (M : Mem) (H : Heap) (locs : List Loc) (ls : Array Slot), f_X8_digest_24 N o0 k9 n v1 v2 M = some r → Inv g s M H locs → lv_has ls 3 [(0, rI g o0), (1, iI v1), (2, iI v2)] → W p l e (rmK 8 189) s m args below meth c H locs 0 0 Q (F0 m 24 ls []) := by
  intro n
  induction n with
  | zero =>
    intro v1 v2 M H locs ls hf hI hl
    cases hf
  | succ n ih =>
    intro v1 v2 M H locs ls hf hI hl
    rw [f_X8_digest_24] at hf
    refine r_iload_n C hl 2 dX8_digest_24 rfl rfl ?_
    refine r_bipush C dX8_digest_25 rfl ?_
    refine r_gd hf (fun q27_0 hf => ?_)
    refine r_ic_ge C q27_0 (by decide) (tgt := 47) dX8_digest_27 (by decide) hf (fun hf => ?_) (fun hf => ?_)
    · refine r_iinc C hl (lv' := [(1, iI (v1 + 1)), (0, rI g o0), (2, iI v2)]) 1 dX8_digest_47 rfl (Nat.le_of_ble_eq_true rfl) rfl (fun ls hl => ?_)
      refine r_goto C (tgt := 9) dX8_digest_50 (by decide) ?_
      exact hk9 _ _ _ _ _ hf hI (lv_sub hl [1, 0] rfl)
    · refine r_aload_n C hl 0 dX8_digest_30 rfl rfl ?_
      refine r_aload_n C hl 0 dX8_digest_31 rfl rfl ?_
      refine r_iload_n C hl 1 dX8_digest_32 rfl rfl ?_
      refine r_iload_n C hl 2 dX8_digest_33 rfl rfl ?_
      refine r_calli (rest := [rI g o0]) hI hf (fun r M' h => run_V C hI F_X8_tellPlace w_700 v_13 w_698 ⟨⟨Nat.le_of_ble_eq_true rfl, Nat.le_of_ble_eq_true rfl⟩, Nat.le_of_ble_eq_true rfl, Nat.le_of_ble_eq_true rfl⟩ (zX8 h0) (oX8 h0) rfl hl dX8_digest_34 [iI v1, iI v2] rfl rfl (Nat.le_of_ble_eq_true rfl) (c_X8_tellPlace C.2.2.2.2.2.2 h0 h)) (fun r34 M34 H locs hI hf => ?_)
      refine r_gd hf (fun q37_1 hf => ?_)
      refine r_i2l C q37_1 dX8_digest_37 ?_
      refine r_callv (rest := []) hI hf (fun M' h => run_V C hI F_X8_say w_883 v_35 w_881 ⟨⟨Nat.le_of_ble_eq_true rfl, Nat.le_of_ble_eq_true rfl⟩, Nat.le_of_ble_eq_true rfl, Nat.le_of_ble_eq_true rfl⟩ (zX8 h0) (oX8 h0) rfl hl dX8_digest_38 [lI r34] rfl rfl (Nat.le_of_ble_eq_true rfl) (c_X8_say C.2.2.2.2.2.2 h0 h)) (fun M38 H locs hI hf => ?_)
      refine r_iinc C hl (lv' := [(2, iI (v2 + 1)), (0, rI g o0), (1, iI v1)]) 2 dX8_digest_41 rfl (Nat.le_of_ble_eq_true rfl) rfl (fun ls hl => ?_)
      refine r_goto C (tgt := 24) dX8_digest_44 (by decide) ?_
      exact ih _ _ _ _ _ _ hf hI (lv_sub hl [1, 2, 0] rfl)
set_option maxRecDepth 100000 in
set_option maxHeartbeats 4000000 in
theorem t_X8_digest_9 {g : GP} {p : Program} {l : Launch} {e : Env} {s : State} {m : MethodId} {args : Array Value} {below : List Frame} {meth : Method} {c : Code} {Q : State → Prop} {N : Nat} {o0 : Nat} (h0 : kd o0 = 8) (C : Cx g p s m args c cX8_digest 3 "LentGalleryModel") {r : Int × Mem} (hQ : RetL g p l e (rmK 8 189) s m args below meth c cX8_digest r Q) : ∀ (n : Nat) (v1 : Int) (M : Mem) (H : Heap) (locs : List Loc) (ls : Array Slot), f_X8_digest_9 N o0 n v1 M = some r → Inv g s M H locs → lv_has ls 3 [(0, rI g o0), (1, iI v1)] → W p l e (rmK 8 189) s m args below meth c H locs 0 0 Q (F0 m 9 ls []) := by
  intro n
  induction n with
  | zero =>
    intro v1 M H locs ls hf hI hl
    cases hf
  | succ n ih =>
    intro v1 M H locs ls hf hI hl
    rw [f_X8_digest_9] at hf
    refine r_iload_n C hl 1 dX8_digest_9 rfl rfl ?_
    refine r_bipush C dX8_digest_10 rfl ?_
    refine r_gd hf (fun q12_0 hf => ?_)
    refine r_ic_ge C q12_0 (by decide) (tgt := 53) dX8_digest_12 (by decide) hf (fun hf => ?_) (fun hf => ?_)
    · refine r_iconst C dX8_digest_53 ?_
      refine r_istore_n C hl (lv' := [(1, iI 0), (0, rI g o0)]) dX8_digest_54 rfl (Nat.le_of_ble_eq_true rfl) rfl (fun ls hl => ?_)
      exact t_X8_digest_55 h0 C hQ _ _ _ _ _ _ hf hI (lv_sub hl [1, 0] rfl)
    · refine r_aload_n C hl 0 dX8_digest_15 rfl rfl ?_
      refine r_calli (rest := []) hI hf (fun r M' h => run_V C hI F_X8_lacks w_695 v_12 w_693 ⟨⟨Nat.le_of_ble_eq_true rfl, Nat.le_of_ble_eq_true rfl⟩, Nat.le_of_ble_eq_true rfl, Nat.le_of_ble_eq_true rfl⟩ (zX8 h0) (oX8 h0) rfl hl dX8_digest_16 [] rfl rfl (Nat.le_of_ble_eq_true rfl) (c_X8_lacks C.2.2.2.2.2.2 h0 h)) (fun r16 M16 H locs hI hf => ?_)
      refine r_gd hf (fun q19_1 hf => ?_)
      refine r_if_ne C q19_1 (tgt := 53) dX8_digest_19 (by decide) hf (fun hf => ?_) (fun hf => ?_)
      · refine r_iconst C dX8_digest_53 ?_
        refine r_istore_n C hl (lv' := [(1, iI 0), (0, rI g o0)]) dX8_digest_54 rfl (Nat.le_of_ble_eq_true rfl) rfl (fun ls hl => ?_)
        exact t_X8_digest_55 h0 C hQ _ _ _ _ _ _ hf hI (lv_sub hl [1, 0] rfl)
      · refine r_iconst C dX8_digest_22 ?_
        refine r_istore_n C hl (lv' := [(2, iI 0), (0, rI g o0), (1, iI v1)]) dX8_digest_23 rfl (Nat.le_of_ble_eq_true rfl) rfl (fun ls hl => ?_)
        exact t_X8_digest_24 h0 C hQ ih _ _ _ _ _ _ _ hf hI (lv_sub hl [1, 2, 0] rfl)
set_option maxRecDepth 100000 in
set_option maxHeartbeats 4000000 in
theorem c_X8_digest {l : Launch} {g : GP} (hj : Inj g) {N : Nat} {M : Mem} {o0 : Nat} (h0 : kd o0 = 8) {r : Int × Mem} (hf : f_X8_digest N o0 M = some r) : Met l yX8_digest (Cond.code yX8_digest cX8_digest 3 (some .long) :: TB) (rmK 8 189) (PreW g M [rI g o0]) (PostL g r.1 r.2) 0 0 (Ad g) := by
  unfold f_X8_digest at hf
  refine met_of (nL := 3) (cc := cX8_digest) (M := M) (by decide +kernel) hj (Nat.le_of_ble_eq_true rfl) ?_
  intro p e s m below meth c ls C hr hlk hI hl
  have C : Cx g p s m _ c cX8_digest 3 "LentGalleryModel" := C
  have hl : lv_has ls 3 [(0, rI g o0)] := hl
  have hQ := ret_l (l := l) (e := e) (R := (rmK 8 189)) (below := below) (r := r) C hr hlk
  generalize s.heap = H, ([] : List Loc) = locs at hI ⊢
  refine r_aload_n C hl 0 dX8_digest_0 rfl rfl ?_
  refine r_ldc2 C (n := 919) w_880 rfl dX8_digest_1 ?_
  refine p_8_29 C hI h0 w_591 dX8_digest_4 (fun H locs hI => ?_)
  refine r_iconst C dX8_digest_7 ?_
  refine r_istore_n C hl (lv' := [(1, iI 0), (0, rI g o0)]) dX8_digest_8 rfl (Nat.le_of_ble_eq_true rfl) rfl (fun ls hl => ?_)
  exact t_X8_digest_9 h0 C hQ _ _ _ _ _ _ hf hI (lv_sub hl [1, 0] rfl)
