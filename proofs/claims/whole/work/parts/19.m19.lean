/-! X8_day -/
def f_X8_day (N : Nat) (o0 : Nat) (M : Mem) : Option (Int × Mem) := bnd (f_X8_lacks N o0 M) (fun r1 M1 => gd (inR r1) (if r1 = 0 then (bnv (f_X8_asItIs N o0 M1) (fun M11 => bnd (f_X8_goesBy N o0 M11) (fun r15 M15 => bnv (f_X8_copy N (ch o0 12) (ch o0 8) M15) (fun M27 => some (r15, st (st M27 o0 4 ((M27 o0 4) + 1)) o0 5 (((st M27 o0 4 ((M27 o0 4) + 1)) o0 5) + r15)))))) else (some (-103, M1))))
theorem F_X8_day : CalF yX8_day cX8_day 2 (some .int) 0 := ⟨w_786, w_9, by decide +kernel⟩
set_option maxRecDepth 100000 in
set_option maxHeartbeats 4000000 in
theorem c_X8_day {l : Launch} {g : GP} (hj : Inj g) {N : Nat} {M : Mem} {o0 : Nat} (h0 : kd o0 = 8) {r : Int × Mem} (hf : f_X8_day N o0 M = some r) : Met l yX8_day (Cond.code yX8_day cX8_day 2 (some .int) :: TB) (rmK 4 91) (PreW g M [rI g o0]) (PostI g r.1 r.2) 0 0 (Ad g) := by
  unfold f_X8_day at hf
  refine met_of (nL := 2) (cc := cX8_day) (M := M) (by decide +kernel) hj (Nat.le_of_ble_eq_true rfl) ?_
  intro p e s m below meth c ls C hr hlk hI hl
  have C : Cx g p s m _ c cX8_day 2 "LentGalleryModel" := C
  have hl : lv_has ls 2 [(0, rI g o0)] := hl
  have hQ := ret_i (l := l) (e := e) (R := (rmK 4 91)) (below := below) (r := r) C hr hlk (nar_i _)
  generalize s.heap = H, ([] : List Loc) = locs at hI ⊢
  refine r_aload_n C hl 0 dX8_day_0 rfl rfl ?_
  refine r_calli (rest := []) hI hf (fun r M' h => run_V C hI F_X8_lacks w_695 v_12 w_693 ⟨⟨Nat.le_of_ble_eq_true rfl, Nat.le_of_ble_eq_true rfl⟩, Nat.le_of_ble_eq_true rfl, Nat.le_of_ble_eq_true rfl⟩ (zX8 h0) (oX8 h0) rfl hl dX8_day_1 [] rfl rfl (Nat.le_of_ble_eq_true rfl) (c_X8_lacks C.2.2.2.2.2.2 h0 h)) (fun r1 M1 H locs hI hf => ?_)
  refine r_gd hf (fun q4_0 hf => ?_)
  refine r_if_eq C q4_0 (tgt := 10) dX8_day_4 (by decide) hf (fun hf => ?_) (fun hf => ?_)
  · refine r_aload_n C hl 0 dX8_day_10 rfl rfl ?_
    refine r_callv (rest := []) hI hf (fun M' h => run_V C hI F_X8_asItIs w_704 v_14 w_702 ⟨⟨Nat.le_of_ble_eq_true rfl, Nat.le_of_ble_eq_true rfl⟩, Nat.le_of_ble_eq_true rfl, Nat.le_of_ble_eq_true rfl⟩ (zX8 h0) (oX8 h0) rfl hl dX8_day_11 [] rfl rfl (Nat.le_of_ble_eq_true rfl) (c_X8_asItIs C.2.2.2.2.2.2 h0 h)) (fun M11 H locs hI hf => ?_)
    refine r_aload_n C hl 0 dX8_day_14 rfl rfl ?_
    refine r_calli (rest := []) hI hf (fun r M' h => run_V C hI F_X8_goesBy w_737 v_20 w_735 ⟨⟨Nat.le_of_ble_eq_true rfl, Nat.le_of_ble_eq_true rfl⟩, Nat.le_of_ble_eq_true rfl, Nat.le_of_ble_eq_true rfl⟩ (zX8 h0) (oX8 h0) rfl hl dX8_day_15 [] rfl rfl (Nat.le_of_ble_eq_true rfl) (c_X8_goesBy C.2.2.2.2.2.2 h0 h)) (fun r15 M15 H locs hI hf => ?_)
    refine r_istore_n C hl (lv' := [(1, iI r15), (0, rI g o0)]) dX8_day_18 rfl (Nat.le_of_ble_eq_true rfl) rfl (fun ls hl => ?_)
    refine r_aload_n C hl 1 dX8_day_19 rfl rfl ?_
    refine g_8_12 C hI h0 w_574 dX8_day_20 ?_
    refine r_aload_n C hl 1 dX8_day_23 rfl rfl ?_
    refine g_8_8 C hI h0 w_570 dX8_day_24 ?_
    refine r_callv (rest := []) hI hf (fun M' h => run_S C hI F_X8_copy w_707 w_706 ⟨⟨Nat.le_of_ble_eq_true rfl, Nat.le_of_ble_eq_true rfl⟩, Nat.le_of_ble_eq_true rfl, Nat.le_of_ble_eq_true rfl⟩ hl dX8_day_27 [rI g (ch o0 12), rI g (ch o0 8)] rfl rfl (Nat.le_of_ble_eq_true rfl) (c_X8_copy C.2.2.2.2.2.2 (isA_k (k_8_12 h0) (by decide) (by decide)) (isA_k (k_8_8 h0) (by decide) (by decide)) h)) (fun M27 H locs hI hf => ?_)
    refine r_aload_n C hl 1 dX8_day_30 rfl rfl ?_
    refine r_dup C dX8_day_31 rfl ?_
    refine g_8_4 C hI h0 w_566 dX8_day_32 ?_
    refine r_iconst C dX8_day_35 ?_
    refine r_iadd C dX8_day_36 ?_
    refine p_8_4 C hI h0 w_566 dX8_day_37 (fun H locs hI => ?_)
    refine r_aload_n C hl 1 dX8_day_40 rfl rfl ?_
    refine r_dup C dX8_day_41 rfl ?_
    refine g_8_5 C hI h0 w_567 dX8_day_42 ?_
    refine r_iload_n C hl 0 dX8_day_45 rfl rfl ?_
    refine r_iadd C dX8_day_46 ?_
    refine p_8_5 C hI h0 w_567 dX8_day_47 (fun H locs hI => ?_)
    refine r_iload_n C hl 0 dX8_day_50 rfl rfl ?_
    exact r_iret hQ hf hI dX8_day_51
  · refine r_bipush C dX8_day_7 rfl ?_
    exact r_iret hQ hf hI dX8_day_9
/-! X8_holdsThen -/
def f_X8_holdsThen_2 (N : Nat) (o0 : Nat) : Nat → Int → Mem → Option (Int × Mem)
  | 0, _, _ => none
  | n + 1, v1, M => gd (inR v1) (if 41 ≤ v1 then (some (v1, M)) else (bnd (f_X8_goesBy N o0 M) (fun r9 M9 => gd (inR r9) (if r9 = 0 then (f_X8_holdsThen_2 N o0 n (v1 + 1) M9) else (some (v1, M9))))))
def f_X8_holdsThen (N : Nat) (o0 : Nat) (M : Mem) : Option (Int × Mem) := f_X8_holdsThen_2 N o0 N 1 M
theorem F_X8_holdsThen : CalF yX8_holdsThen cX8_holdsThen 2 (some .int) 0 := ⟨w_798, w_9, by decide +kernel⟩
set_option maxRecDepth 100000 in
set_option maxHeartbeats 4000000 in
theorem t_X8_holdsThen_2 {g : GP} {p : Program} {l : Launch} {e : Env} {s : State} {m : MethodId} {args : Array Value} {below : List Frame} {meth : Method} {c : Code} {Q : State → Prop} {N : Nat} {o0 : Nat} (h0 : kd o0 = 8) (C : Cx g p s m args c cX8_holdsThen 2 "LentGalleryModel") {r : Int × Mem} (hQ : RetI g p l e (rmK 4 91) s m args below meth c cX8_holdsThen r Q) : ∀ (n : Nat) (v1 : Int) (M : Mem) (H : Heap) (locs : List Loc) (ls : Array Slot), f_X8_holdsThen_2 N o0 n v1 M = some r → Inv g s M H locs → lv_has ls 2 [(0, rI g o0), (1, iI v1)] → W p l e (rmK 4 91) s m args below meth c H locs 0 0 Q (F0 m 2 ls []) := by
  intro n
  induction n with
  | zero =>
    intro v1 M H locs ls hf hI hl
    cases hf
  | succ n ih =>
    intro v1 M H locs ls hf hI hl
    rw [f_X8_holdsThen_2] at hf
    refine r_iload_n C hl 1 dX8_holdsThen_2 rfl rfl ?_
    refine r_bipush C dX8_holdsThen_3 rfl ?_
    refine r_gd hf (fun q5_0 hf => ?_)
    refine r_ic_ge C q5_0 (by decide) (tgt := 21) dX8_holdsThen_5 (by decide) hf (fun hf => ?_) (fun hf => ?_)
    · refine r_iload_n C hl 1 dX8_holdsThen_21 rfl rfl ?_
      exact r_iret hQ hf hI dX8_holdsThen_22
    · refine r_aload_n C hl 0 dX8_holdsThen_8 rfl rfl ?_
      refine r_calli (rest := []) hI hf (fun r M' h => run_V C hI F_X8_goesBy w_737 v_20 w_735 ⟨⟨Nat.le_of_ble_eq_true rfl, Nat.le_of_ble_eq_true rfl⟩, Nat.le_of_ble_eq_true rfl, Nat.le_of_ble_eq_true rfl⟩ (zX8 h0) (oX8 h0) rfl hl dX8_holdsThen_9 [] rfl rfl (Nat.le_of_ble_eq_true rfl) (c_X8_goesBy C.2.2.2.2.2.2 h0 h)) (fun r9 M9 H locs hI hf => ?_)
      refine r_gd hf (fun q12_1 hf => ?_)
      refine r_if_ne C q12_1 (tgt := 21) dX8_holdsThen_12 (by decide) hf (fun hf => ?_) (fun hf => ?_)
      · refine r_iload_n C hl 1 dX8_holdsThen_21 rfl rfl ?_
        exact r_iret hQ hf hI dX8_holdsThen_22
      · refine r_iinc C hl (lv' := [(1, iI (v1 + 1)), (0, rI g o0)]) 1 dX8_holdsThen_15 rfl (Nat.le_of_ble_eq_true rfl) rfl (fun ls hl => ?_)
        refine r_goto C (tgt := 2) dX8_holdsThen_18 (by decide) ?_
        exact ih _ _ _ _ _ hf hI (lv_sub hl [1, 0] rfl)
set_option maxRecDepth 100000 in
set_option maxHeartbeats 4000000 in
theorem c_X8_holdsThen {l : Launch} {g : GP} (hj : Inj g) {N : Nat} {M : Mem} {o0 : Nat} (h0 : kd o0 = 8) {r : Int × Mem} (hf : f_X8_holdsThen N o0 M = some r) : Met l yX8_holdsThen (Cond.code yX8_holdsThen cX8_holdsThen 2 (some .int) :: TB) (rmK 4 91) (PreW g M [rI g o0]) (PostI g r.1 r.2) 0 0 (Ad g) := by
  unfold f_X8_holdsThen at hf
  refine met_of (nL := 2) (cc := cX8_holdsThen) (M := M) (by decide +kernel) hj (Nat.le_of_ble_eq_true rfl) ?_
  intro p e s m below meth c ls C hr hlk hI hl
  have C : Cx g p s m _ c cX8_holdsThen 2 "LentGalleryModel" := C
  have hl : lv_has ls 2 [(0, rI g o0)] := hl
  have hQ := ret_i (l := l) (e := e) (R := (rmK 4 91)) (below := below) (r := r) C hr hlk (nar_i _)
  generalize s.heap = H, ([] : List Loc) = locs at hI ⊢
  refine r_iconst C dX8_holdsThen_0 ?_
  refine r_istore_n C hl (lv' := [(1, iI 1), (0, rI g o0)]) dX8_holdsThen_1 rfl (Nat.le_of_ble_eq_true rfl) rfl (fun ls hl => ?_)
  exact t_X8_holdsThen_2 h0 C hQ _ _ _ _ _ _ hf hI (lv_sub hl [1, 0] rfl)
/-! X8_holdsOf -/
def f_X8_holdsOf (N : Nat) (o0 : Nat) (M : Mem) : Option (Int × Mem) := bnv (f_X8_asItIs N o0 M) (fun M1 => bnd (f_X8_holdsThen N o0 M1) (fun r5 M5 => gd (inR r5) (if r5 = 41 then (some (-1, M5)) else (some (r5, M5)))))
theorem F_X8_holdsOf : CalF yX8_holdsOf cX8_holdsOf 2 (some .int) 0 := ⟨w_794, w_9, by decide +kernel⟩
set_option maxRecDepth 100000 in
set_option maxHeartbeats 4000000 in
theorem c_X8_holdsOf {l : Launch} {g : GP} (hj : Inj g) {N : Nat} {M : Mem} {o0 : Nat} (h0 : kd o0 = 8) {r : Int × Mem} (hf : f_X8_holdsOf N o0 M = some r) : Met l yX8_holdsOf (Cond.code yX8_holdsOf cX8_holdsOf 2 (some .int) :: TB) (rmK 5 112) (PreW g M [rI g o0]) (PostI g r.1 r.2) 0 0 (Ad g) := by
  unfold f_X8_holdsOf at hf
  refine met_of (nL := 2) (cc := cX8_holdsOf) (M := M) (by decide +kernel) hj (Nat.le_of_ble_eq_true rfl) ?_
  intro p e s m below meth c ls C hr hlk hI hl
  have C : Cx g p s m _ c cX8_holdsOf 2 "LentGalleryModel" := C
  have hl : lv_has ls 2 [(0, rI g o0)] := hl
  have hQ := ret_i (l := l) (e := e) (R := (rmK 5 112)) (below := below) (r := r) C hr hlk (nar_i _)
  generalize s.heap = H, ([] : List Loc) = locs at hI ⊢
  refine r_aload_n C hl 0 dX8_holdsOf_0 rfl rfl ?_
  refine r_callv (rest := []) hI hf (fun M' h => run_V C hI F_X8_asItIs w_704 v_14 w_702 ⟨⟨Nat.le_of_ble_eq_true rfl, Nat.le_of_ble_eq_true rfl⟩, Nat.le_of_ble_eq_true rfl, Nat.le_of_ble_eq_true rfl⟩ (zX8 h0) (oX8 h0) rfl hl dX8_holdsOf_1 [] rfl rfl (Nat.le_of_ble_eq_true rfl) (c_X8_asItIs C.2.2.2.2.2.2 h0 h)) (fun M1 H locs hI hf => ?_)
  refine r_aload_n C hl 0 dX8_holdsOf_4 rfl rfl ?_
  refine r_calli (rest := []) hI hf (fun r M' h => run_V C hI F_X8_holdsThen w_797 v_27 w_795 ⟨⟨Nat.le_of_ble_eq_true rfl, Nat.le_of_ble_eq_true rfl⟩, Nat.le_of_ble_eq_true rfl, Nat.le_of_ble_eq_true rfl⟩ (zX8 h0) (oX8 h0) rfl hl dX8_holdsOf_5 [] rfl rfl (Nat.le_of_ble_eq_true rfl) (c_X8_holdsThen C.2.2.2.2.2.2 h0 h)) (fun r5 M5 H locs hI hf => ?_)
  refine r_istore_n C hl (lv' := [(1, iI r5), (0, rI g o0)]) dX8_holdsOf_8 rfl (Nat.le_of_ble_eq_true rfl) rfl (fun ls hl => ?_)
  refine r_iload_n C hl 0 dX8_holdsOf_9 rfl rfl ?_
  refine r_bipush C dX8_holdsOf_10 rfl ?_
  refine r_gd hf (fun q12_0 hf => ?_)
  refine r_ic_ne C q12_0 (by decide) (tgt := 19) dX8_holdsOf_12 (by decide) hf (fun hf => ?_) (fun hf => ?_)
  · refine r_iload_n C hl 0 dX8_holdsOf_19 rfl rfl ?_
    exact r_iret hQ hf hI dX8_holdsOf_20
  · refine r_iconst C dX8_holdsOf_15 ?_
    refine r_goto C (tgt := 20) dX8_holdsOf_16 (by decide) ?_
    exact r_iret hQ hf hI dX8_holdsOf_20
/-! X8_holds -/
def f_X8_holds (N : Nat) (o0 : Nat) (M : Mem) : Option (Int × Mem) := bnd (f_X8_lacks N o0 M) (fun r1 M1 => gd (inR r1) (if r1 = 0 then (bnd (f_X8_holdsOf N o0 M1) (fun r13 M13 => some (r13, M13))) else (some (-103, M1))))
theorem F_X8_holds : CalF yX8_holds cX8_holds 1 (some .int) 0 := ⟨w_790, w_9, by decide +kernel⟩
set_option maxRecDepth 100000 in
set_option maxHeartbeats 4000000 in
theorem c_X8_holds {l : Launch} {g : GP} (hj : Inj g) {N : Nat} {M : Mem} {o0 : Nat} (h0 : kd o0 = 8) {r : Int × Mem} (hf : f_X8_holds N o0 M = some r) : Met l yX8_holds (Cond.code yX8_holds cX8_holds 1 (some .int) :: TB) (rmK 6 133) (PreW g M [rI g o0]) (PostI g r.1 r.2) 0 0 (Ad g) := by
  unfold f_X8_holds at hf
  refine met_of (nL := 1) (cc := cX8_holds) (M := M) (by decide +kernel) hj (Nat.le_of_ble_eq_true rfl) ?_
  intro p e s m below meth c ls C hr hlk hI hl
  have C : Cx g p s m _ c cX8_holds 1 "LentGalleryModel" := C
  have hl : lv_has ls 1 [(0, rI g o0)] := hl
  have hQ := ret_i (l := l) (e := e) (R := (rmK 6 133)) (below := below) (r := r) C hr hlk (nar_i _)
  generalize s.heap = H, ([] : List Loc) = locs at hI ⊢
  refine r_aload_n C hl 0 dX8_holds_0 rfl rfl ?_
  refine r_calli (rest := []) hI hf (fun r M' h => run_V C hI F_X8_lacks w_695 v_12 w_693 ⟨⟨Nat.le_of_ble_eq_true rfl, Nat.le_of_ble_eq_true rfl⟩, Nat.le_of_ble_eq_true rfl, Nat.le_of_ble_eq_true rfl⟩ (zX8 h0) (oX8 h0) rfl hl dX8_holds_1 [] rfl rfl (Nat.le_of_ble_eq_true rfl) (c_X8_lacks C.2.2.2.2.2.2 h0 h)) (fun r1 M1 H locs hI hf => ?_)
  refine r_gd hf (fun q4_0 hf => ?_)
  refine r_if_eq C q4_0 (tgt := 12) dX8_holds_4 (by decide) hf (fun hf => ?_) (fun hf => ?_)
  · refine r_aload_n C hl 0 dX8_holds_12 rfl rfl ?_
    refine r_calli (rest := []) hI hf (fun r M' h => run_V C hI F_X8_holdsOf w_793 v_26 w_791 ⟨⟨Nat.le_of_ble_eq_true rfl, Nat.le_of_ble_eq_true rfl⟩, Nat.le_of_ble_eq_true rfl, Nat.le_of_ble_eq_true rfl⟩ (zX8 h0) (oX8 h0) rfl hl dX8_holds_13 [] rfl rfl (Nat.le_of_ble_eq_true rfl) (c_X8_holdsOf C.2.2.2.2.2.2 h0 h)) (fun r13 M13 H locs hI hf => ?_)
    exact r_iret hQ hf hI dX8_holds_16
  · refine r_bipush C dX8_holds_7 rfl ?_
    refine r_goto C (tgt := 16) dX8_holds_9 (by decide) ?_
    exact r_iret hQ hf hI dX8_holds_16
/-! X8_power -/
def f_X8_power_4 (N : Nat) (v0 : Int) : Nat → Int → Int → Mem → Option (Int × Mem)
  | 0, _, _, _ => none
  | n + 1, v1, v2, M => gd (inR v2) (gd (inR v0) (if v0 ≤ v2 then (some (v1, M)) else (f_X8_power_4 N v0 n (v1 * 6) (v2 + 1) M)))
def f_X8_power (N : Nat) (v0 : Int) (M : Mem) : Option (Int × Mem) := f_X8_power_4 N v0 N 1 0 M
theorem F_X8_power : CalF yX8_power cX8_power 3 (some .int) 1 := ⟨w_811, w_9, by decide +kernel⟩
set_option maxRecDepth 100000 in
set_option maxHeartbeats 4000000 in
theorem t_X8_power_4 {g : GP} {p : Program} {l : Launch} {e : Env} {s : State} {m : MethodId} {args : Array Value} {below : List Frame} {meth : Method} {c : Code} {Q : State → Prop} {N : Nat} {v0 : Int} (C : Cx g p s m args c cX8_power 3 "LentGalleryModel") {r : Int × Mem} (hQ : RetI g p l e (rmK 0 0) s m args below meth c cX8_power r Q) : ∀ (n : Nat) (v1 v2 : Int) (M : Mem) (H : Heap) (locs : List Loc) (ls : Array Slot), f_X8_power_4 N v0 n v1 v2 M = some r → Inv g s M H locs → lv_has ls 3 [(0, iI v0), (1, iI v1), (2, iI v2)] → W p l e (rmK 0 0) s m args below meth c H locs 0 0 Q (F0 m 4 ls []) := by
  intro n
  induction n with
  | zero =>
    intro v1 v2 M H locs ls hf hI hl
    cases hf
  | succ n ih =>
    intro v1 v2 M H locs ls hf hI hl
    rw [f_X8_power_4] at hf
    refine r_iload_n C hl 2 dX8_power_4 rfl rfl ?_
    refine r_iload_n C hl 0 dX8_power_5 rfl rfl ?_
    refine r_gd hf (fun q6_0 hf => ?_)
    refine r_gd hf (fun q6_1 hf => ?_)
    refine r_ic_ge C q6_0 q6_1 (tgt := 20) dX8_power_6 (by decide) hf (fun hf => ?_) (fun hf => ?_)
    · refine r_iload_n C hl 1 dX8_power_20 rfl rfl ?_
      exact r_iret hQ hf hI dX8_power_21
    · refine r_iload_n C hl 1 dX8_power_9 rfl rfl ?_
      refine r_bipush C dX8_power_10 rfl ?_
      refine r_imul C dX8_power_12 ?_
      refine r_istore_n C hl (lv' := [(1, iI (v1 * 6)), (0, iI v0), (2, iI v2)]) dX8_power_13 rfl (Nat.le_of_ble_eq_true rfl) rfl (fun ls hl => ?_)
      refine r_iinc C hl (lv' := [(2, iI (v2 + 1)), (1, iI (v1 * 6)), (0, iI v0)]) 2 dX8_power_14 rfl (Nat.le_of_ble_eq_true rfl) rfl (fun ls hl => ?_)
      refine r_goto C (tgt := 4) dX8_power_17 (by decide) ?_
      exact ih _ _ _ _ _ _ hf hI (lv_sub hl [2, 1, 0] rfl)
set_option maxRecDepth 100000 in
set_option maxHeartbeats 4000000 in
theorem c_X8_power {l : Launch} {g : GP} (hj : Inj g) {N : Nat} {M : Mem} {v0 : Int} {r : Int × Mem} (hf : f_X8_power N v0 M = some r) : Met l yX8_power (Cond.code yX8_power cX8_power 3 (some .int) :: TB) (rmK 0 0) (PreW g M [iI v0]) (PostI g r.1 r.2) 0 0 (Ad g) := by
  unfold f_X8_power at hf
  refine met_of (nL := 3) (cc := cX8_power) (M := M) (by decide +kernel) hj (Nat.le_of_ble_eq_true rfl) ?_
  intro p e s m below meth c ls C hr hlk hI hl
  have C : Cx g p s m _ c cX8_power 3 "LentGalleryModel" := C
  have hl : lv_has ls 3 [(0, iI v0)] := hl
  have hQ := ret_i (l := l) (e := e) (R := (rmK 0 0)) (below := below) (r := r) C hr hlk (nar_i _)
  generalize s.heap = H, ([] : List Loc) = locs at hI ⊢
  refine r_iconst C dX8_power_0 ?_
  refine r_istore_n C hl (lv' := [(1, iI 1), (0, iI v0)]) dX8_power_1 rfl (Nat.le_of_ble_eq_true rfl) rfl (fun ls hl => ?_)
  refine r_iconst C dX8_power_2 ?_
  refine r_istore_n C hl (lv' := [(2, iI 0), (1, iI 1), (0, iI v0)]) dX8_power_3 rfl (Nat.le_of_ble_eq_true rfl) rfl (fun ls hl => ?_)
  exact t_X8_power_4 C hQ _ _ _ _ _ _ _ hf hI (lv_sub hl [2, 1, 0] rfl)
/-! X8_layWhere -/
def f_X8_layWhere_134 (N : Nat) (o0 : Nat) (k27 : Int → Int → Int → Mem → Option (Int × Mem)) : Nat → Int → Int → Int → Int → Mem → Option (Int × Mem)
  | 0, _, _, _, _, _ => none
  | n + 1, v1, v2, v3, v7, M => gd (inR v7) (gd (inR (M o0 9)) (if (M o0 9) ≤ v7 then (k27 v1 v2 (v3 + 1) M) else (bnd (f_X8_power N (((M o0 9) - 1) - v7) M) (fun r159 M159 => gd (inR r159 ∧ r159 ≠ 0) (gd (0 ≤ v7 ∧ v7 < 5) (f_X8_layWhere_134 N o0 k27 n v1 v2 v3 (v7 + 1) (st M159 (ch o0 15) v7.toNat (i_rem (i_div v3 r159) 6))))))))
def f_X8_layWhere_120 (N : Nat) (o0 : Nat) (k27 : Int → Int → Int → Mem → Option (Int × Mem)) (v1 : Int) (v2 : Int) (v3 : Int) (s0 : Int) (M : Mem) : Option (Int × Mem) := gd (inR s0) (gd (inR v2) (if s0 ≤ v2 then (k27 v1 v2 (v3 + 1) M) else (f_X8_layWhere_134 N o0 k27 N v1 s0 v3 0 M)))
def f_X8_layWhere_50 (N : Nat) (o0 : Nat) (k27 : Int → Int → Int → Mem → Option (Int × Mem)) : Nat → Int → Int → Int → Int → Int → Int → Mem → Option (Int × Mem)
  | 0, _, _, _, _, _, _, _ => none
  | n + 1, v1, v2, v3, v4, v5, v6, M => gd (inR v6) (if v6 < 0 then (gd (inR v5) (if v5 = 0 then (f_X8_layWhere_120 N o0 k27 v1 v2 v3 (-1) M) else (bnd (f_X8_holdsThen N o0 M) (fun r113 M113 => f_X8_layWhere_120 N o0 k27 v1 v2 v3 r113 M113)))) else (gd (0 ≤ v6 ∧ v6 < 5) (gd (inR v5) (if v5 = 0 then (f_X8_layWhere_50 N o0 k27 n v1 v2 v3 (i_div v4 6) 0 (v6 + (-1)) (st M (ch o0 11) v6.toNat (i_rem v4 6))) else (gd (0 ≤ ((st M (ch o0 11) v6.toNat (i_rem v4 6)) (ch o0 11) v6.toNat) ∧ ((st M (ch o0 11) v6.toNat (i_rem v4 6)) (ch o0 11) v6.toNat) < 6) (gd (inR ((st M (ch o0 11) v6.toNat (i_rem v4 6)) (ch o0 8) ((st M (ch o0 11) v6.toNat (i_rem v4 6)) (ch o0 11) v6.toNat).toNat)) (if ((st M (ch o0 11) v6.toNat (i_rem v4 6)) (ch o0 8) ((st M (ch o0 11) v6.toNat (i_rem v4 6)) (ch o0 11) v6.toNat).toNat) ≤ 0 then (f_X8_layWhere_50 N o0 k27 n v1 v2 v3 (i_div v4 6) 0 (v6 + (-1)) (st M (ch o0 11) v6.toNat (i_rem v4 6))) else (f_X8_layWhere_50 N o0 k27 n v1 v2 v3 (i_div v4 6) 1 (v6 + (-1)) (st M (ch o0 11) v6.toNat (i_rem v4 6))))))))))
def f_X8_layWhere_27 (N : Nat) (o0 : Nat) : Nat → Int → Int → Int → Mem → Option (Int × Mem)
  | 0, _, _, _, _ => none
  | n + 1, v1, v2, v3, M => gd (inR v3) (gd (inR v1) (if v1 ≤ v3 then (some (v2, M)) else (bnv (f_X8_asItIs N o0 M) (fun M33 => f_X8_layWhere_50 N o0 (f_X8_layWhere_27 N o0 n) N v1 v2 v3 v3 1 ((M33 o0 9) - 1) M33))))
def f_X8_layWhere_4 (N : Nat) (o0 : Nat) : Nat → Int → Int → Mem → Option (Int × Mem)
  | 0, _, _, _ => none
  | n + 1, v1, v2, M => gd (inR v2) (gd (inR (M o0 9)) (if (M o0 9) ≤ v2 then (f_X8_layWhere_27 N o0 N v1 (-1) 0 M) else (f_X8_layWhere_4 N o0 n (v1 * 6) (v2 + 1) M)))
def f_X8_layWhere (N : Nat) (o0 : Nat) (M : Mem) : Option (Int × Mem) := f_X8_layWhere_4 N o0 N 1 0 M
theorem F_X8_layWhere : CalF yX8_layWhere cX8_layWhere 8 (some .int) 0 := ⟨w_808, w_9, by decide +kernel⟩
set_option maxRecDepth 100000 in
set_option maxHeartbeats 4000000 in
theorem t_X8_layWhere_134 {g : GP} {p : Program} {l : Launch} {e : Env} {s : State} {m : MethodId} {args : Array Value} {below : List Frame} {meth : Method} {c : Code} {Q : State → Prop} {N : Nat} {o0 : Nat} (h0 : kd o0 = 8) (C : Cx g p s m args c cX8_layWhere 8 "LentGalleryModel") {r : Int × Mem} (hQ : RetI g p l e (rmK 5 112) s m args below meth c cX8_layWhere r Q) {k27 : Int → Int → Int → Mem → Option (Int × Mem)} (hk27 : ∀ (v1 v2 v3 : Int) (M : Mem) (H : Heap) (locs : List Loc) (ls : Array Slot), k27 v1 v2 v3 M = some r → Inv g s M H locs → lv_has ls 8 [(0, rI g o0), (1, iI v1), (2, iI v2), (3, iI v3)] → W p l e (rmK 5 112) s m args below meth c H locs 0 0 Q (F0 m 27 ls [])) : ∀ (n : Nat) (v1 v2 v3 v7 : Int) (M : Mem) (H : Heap) (locs : List Loc) (ls : Array Slot), f_X8_layWhere_134 N o0 k27 n v1 v2 v3 v7 M = some r → Inv g s M H locs → lv_has ls 8 [(0, rI g o0), (1, iI v1), (2, iI v2), (3, iI v3), (7, iI v7)] → W p l e (rmK 5 112) s m args below meth c H locs 0 0 Q (F0 m 134 ls []) := by
  intro n
  induction n with
  | zero =>
    intro v1 v2 v3 v7 M H locs ls hf hI hl
    cases hf
  | succ n ih =>
    intro v1 v2 v3 v7 M H locs ls hf hI hl
    rw [f_X8_layWhere_134] at hf
    refine r_iload C hl 4 dX8_layWhere_134 rfl ?_
    refine r_aload_n C hl 0 dX8_layWhere_136 rfl rfl ?_
    refine g_8_9 C hI h0 w_571 dX8_layWhere_137 ?_
    refine r_gd hf (fun q140_0 hf => ?_)
    refine r_gd hf (fun q140_1 hf => ?_)
    refine r_ic_ge C q140_0 q140_1 (tgt := 173) dX8_layWhere_140 (by decide) hf (fun hf => ?_) (fun hf => ?_)
    · refine r_iinc C hl (lv' := [(3, iI (v3 + 1)), (0, rI g o0), (1, iI v1), (2, iI v2), (7, iI v7)]) 3 dX8_layWhere_173 rfl (Nat.le_of_ble_eq_true rfl) rfl (fun ls hl => ?_)
      refine r_goto C (tgt := 27) dX8_layWhere_176 (by decide) ?_
      exact hk27 _ _ _ _ _ _ _ hf hI (lv_sub hl [1, 2, 3, 0] rfl)
    · refine r_aload_n C hl 0 dX8_layWhere_143 rfl rfl ?_
      refine g_8_15 C hI h0 w_577 dX8_layWhere_144 ?_
      refine r_iload C hl 4 dX8_layWhere_147 rfl ?_
      refine r_iload_n C hl 3 dX8_layWhere_149 rfl rfl ?_
      refine r_aload_n C hl 0 dX8_layWhere_150 rfl rfl ?_
      refine g_8_9 C hI h0 w_571 dX8_layWhere_151 ?_
      refine r_iconst C dX8_layWhere_154 ?_
      refine r_isub C dX8_layWhere_155 ?_
      refine r_iload C hl 4 dX8_layWhere_156 rfl ?_
      refine r_isub C dX8_layWhere_158 ?_
      refine r_calli (rest := [iI v3, iI v7, rI g (ch o0 15)]) hI hf (fun r M' h => run_S C hI F_X8_power w_810 w_809 ⟨⟨Nat.le_of_ble_eq_true rfl, Nat.le_of_ble_eq_true rfl⟩, Nat.le_of_ble_eq_true rfl, Nat.le_of_ble_eq_true rfl⟩ hl dX8_layWhere_159 [iI (((M o0 9) - 1) - v7)] rfl rfl (Nat.le_of_ble_eq_true rfl) (c_X8_power C.2.2.2.2.2.2 h)) (fun r159 M159 H locs hI hf => ?_)
      refine r_gd hf (fun q162_2 hf => ?_)
      refine r_idiv C q162_2 dX8_layWhere_162 ?_
      refine r_bipush C dX8_layWhere_163 rfl ?_
      refine r_irem C (by decide) dX8_layWhere_165 ?_
      refine r_gd hf (fun q166_3 hf => ?_)
      refine r_iast C hI 5 (n := 5) (k_8_15 h0) (by decide) rfl q166_3 dX8_layWhere_166 (fun H locs hI => ?_)
      refine r_iinc C hl (lv' := [(7, iI (v7 + 1)), (0, rI g o0), (1, iI v1), (2, iI v2), (3, iI v3)]) 4 dX8_layWhere_167 rfl (Nat.le_of_ble_eq_true rfl) rfl (fun ls hl => ?_)
      refine r_goto C (tgt := 134) dX8_layWhere_170 (by decide) ?_
      exact ih _ _ _ _ _ _ _ _ hf hI (lv_sub hl [1, 2, 3, 4, 0] rfl)
set_option maxRecDepth 100000 in
set_option maxHeartbeats 4000000 in
theorem t_X8_layWhere_120 {g : GP} {p : Program} {l : Launch} {e : Env} {s : State} {m : MethodId} {args : Array Value} {below : List Frame} {meth : Method} {c : Code} {Q : State → Prop} {N : Nat} {o0 : Nat} (h0 : kd o0 = 8) (C : Cx g p s m args c cX8_layWhere 8 "LentGalleryModel") {r : Int × Mem} (hQ : RetI g p l e (rmK 5 112) s m args below meth c cX8_layWhere r Q) {k27 : Int → Int → Int → Mem → Option (Int × Mem)} (hk27 : ∀ (v1 v2 v3 : Int) (M : Mem) (H : Heap) (locs : List Loc) (ls : Array Slot), k27 v1 v2 v3 M = some r → Inv g s M H locs → lv_has ls 8 [(0, rI g o0), (1, iI v1), (2, iI v2), (3, iI v3)] → W p l e (rmK 5 112) s m args below meth c H locs 0 0 Q (F0 m 27 ls [])) : ∀ (v1 v2 v3 s0 : Int) (M : Mem) (H : Heap) (locs : List Loc) (ls : Array Slot), f_X8_layWhere_120 N o0 k27 v1 v2 v3 s0 M = some r → Inv g s M H locs → lv_has ls 8 [(0, rI g o0), (1, iI v1), (2, iI v2), (3, iI v3)] → W p l e (rmK 5 112) s m args below meth c H locs 0 0 Q (F0 m 120 ls [iI s0]) := by
  intro v1 v2 v3 s0 M H locs ls hf hI hl
  unfold f_X8_layWhere_120 at hf
  refine r_istore C hl (lv' := [(6, iI s0), (0, rI g o0), (1, iI v1), (2, iI v2), (3, iI v3)]) dX8_layWhere_120 (Nat.le_of_ble_eq_true rfl) rfl (fun ls hl => ?_)
  refine r_iload C hl 0 dX8_layWhere_122 rfl ?_
  refine r_iload_n C hl 3 dX8_layWhere_124 rfl rfl ?_
  refine r_gd hf (fun q125_0 hf => ?_)
  refine r_gd hf (fun q125_1 hf => ?_)
  refine r_ic_le C q125_0 q125_1 (tgt := 173) dX8_layWhere_125 (by decide) hf (fun hf => ?_) (fun hf => ?_)
  · refine r_iinc C hl (lv' := [(3, iI (v3 + 1)), (6, iI s0), (0, rI g o0), (1, iI v1), (2, iI v2)]) 4 dX8_layWhere_173 rfl (Nat.le_of_ble_eq_true rfl) rfl (fun ls hl => ?_)
    refine r_goto C (tgt := 27) dX8_layWhere_176 (by decide) ?_
    exact hk27 _ _ _ _ _ _ _ hf hI (lv_sub hl [2, 3, 4, 0] rfl)
  · refine r_iload C hl 0 dX8_layWhere_128 rfl ?_
    refine r_istore_n C hl (lv' := [(2, iI s0), (6, iI s0), (0, rI g o0), (1, iI v1), (3, iI v3)]) dX8_layWhere_130 rfl (Nat.le_of_ble_eq_true rfl) rfl (fun ls hl => ?_)
    refine r_iconst C dX8_layWhere_131 ?_
    refine r_istore C hl (lv' := [(7, iI 0), (2, iI s0), (6, iI s0), (0, rI g o0), (1, iI v1), (3, iI v3)]) dX8_layWhere_132 (Nat.le_of_ble_eq_true rfl) rfl (fun ls hl => ?_)
    exact t_X8_layWhere_134 h0 C hQ hk27 _ _ _ _ _ _ _ _ _ hf hI (lv_sub hl [3, 4, 1, 5, 0] rfl)
set_option maxRecDepth 100000 in
set_option maxHeartbeats 4000000 in
theorem t_X8_layWhere_50 {g : GP} {p : Program} {l : Launch} {e : Env} {s : State} {m : MethodId} {args : Array Value} {below : List Frame} {meth : Method} {c : Code} {Q : State → Prop} {N : Nat} {o0 : Nat} (h0 : kd o0 = 8) (C : Cx g p s m args c cX8_layWhere 8 "LentGalleryModel") {r : Int × Mem} (hQ : RetI g p l e (rmK 5 112) s m args below meth c cX8_layWhere r Q) {k27 : Int → Int → Int → Mem → Option (Int × Mem)} (hk27 : ∀ (v1 v2 v3 : Int) (M : Mem) (H : Heap) (locs : List Loc) (ls : Array Slot), k27 v1 v2 v3 M = some r → Inv g s M H locs → lv_has ls 8 [(0, rI g o0), (1, iI v1), (2, iI v2), (3, iI v3)] → W p l e (rmK 5 112) s m args below meth c H locs 0 0 Q (F0 m 27 ls [])) : ∀ (n : Nat) (v1 v2 v3 v4 v5 v6 : Int) (M : Mem) (H : Heap) (locs : List Loc) (ls : Array Slot), f_X8_layWhere_50 N o0 k27 n v1 v2 v3 v4 v5 v6 M = some r → Inv g s M H locs → lv_has ls 8 [(0, rI g o0), (1, iI v1), (2, iI v2), (3, iI v3), (4, iI v4), (5, iI v5), (6, iI v6)] → W p l e (rmK 5 112) s m args below meth c H locs 0 0 Q (F0 m 50 ls []) := by
  intro n
  induction n with
  | zero =>
    intro v1 v2 v3 v4 v5 v6 M H locs ls hf hI hl
    cases hf
  | succ n ih =>
    intro v1 v2 v3 v4 v5 v6 M H locs ls hf hI hl
    rw [f_X8_layWhere_50] at hf
    refine r_iload C hl 6 dX8_layWhere_50 rfl ?_
    refine r_gd hf (fun q52_0 hf => ?_)
    refine r_if_lt C q52_0 (tgt := 107) dX8_layWhere_52 (by decide) hf (fun hf => ?_) (fun hf => ?_)
    · refine r_iload C hl 5 dX8_layWhere_107 rfl ?_
      refine r_gd hf (fun q109_1 hf => ?_)
      refine r_if_eq C q109_1 (tgt := 119) dX8_layWhere_109 (by decide) hf (fun hf => ?_) (fun hf => ?_)
      · refine r_iconst C dX8_layWhere_119 ?_
        exact t_X8_layWhere_120 h0 C hQ hk27 _ _ _ _ _ _ _ _ hf hI (lv_sub hl [0, 1, 2, 3] rfl)
      · refine r_aload_n C hl 0 dX8_layWhere_112 rfl rfl ?_
        refine r_calli (rest := []) hI hf (fun r M' h => run_V C hI F_X8_holdsThen w_797 v_27 w_795 ⟨⟨Nat.le_of_ble_eq_true rfl, Nat.le_of_ble_eq_true rfl⟩, Nat.le_of_ble_eq_true rfl, Nat.le_of_ble_eq_true rfl⟩ (zX8 h0) (oX8 h0) rfl hl dX8_layWhere_113 [] rfl rfl (Nat.le_of_ble_eq_true rfl) (c_X8_holdsThen C.2.2.2.2.2.2 h0 h)) (fun r113 M113 H locs hI hf => ?_)
        refine r_goto C (tgt := 120) dX8_layWhere_116 (by decide) ?_
        exact t_X8_layWhere_120 h0 C hQ hk27 _ _ _ _ _ _ _ _ hf hI (lv_sub hl [0, 1, 2, 3] rfl)
    · refine r_aload_n C hl 0 dX8_layWhere_55 rfl rfl ?_
      refine g_8_11 C hI h0 w_573 dX8_layWhere_56 ?_
      refine r_iload C hl 6 dX8_layWhere_59 rfl ?_
      refine r_iload C hl 4 dX8_layWhere_61 rfl ?_
      refine r_bipush C dX8_layWhere_63 rfl ?_
      refine r_irem C (by decide) dX8_layWhere_65 ?_
      refine r_gd hf (fun q66_1 hf => ?_)
      refine r_iast C hI 5 (n := 5) (k_8_11 h0) (by decide) rfl q66_1 dX8_layWhere_66 (fun H locs hI => ?_)
      refine r_iload C hl 4 dX8_layWhere_67 rfl ?_
      refine r_bipush C dX8_layWhere_69 rfl ?_
      refine r_idiv C (by decide) dX8_layWhere_71 ?_
      refine r_istore C hl (lv' := [(4, iI (i_div v4 6)), (0, rI g o0), (1, iI v1), (2, iI v2), (3, iI v3), (5, iI v5), (6, iI v6)]) dX8_layWhere_72 (Nat.le_of_ble_eq_true rfl) rfl (fun ls hl => ?_)
      refine r_iload C hl 5 dX8_layWhere_74 rfl ?_
      refine r_gd hf (fun q76_2 hf => ?_)
      refine r_if_eq C q76_2 (tgt := 98) dX8_layWhere_76 (by decide) hf (fun hf => ?_) (fun hf => ?_)
      · refine r_iconst C dX8_layWhere_98 ?_
        refine r_istore C hl (lv' := [(5, iI 0), (4, iI (i_div v4 6)), (0, rI g o0), (1, iI v1), (2, iI v2), (3, iI v3), (6, iI v6)]) dX8_layWhere_99 (Nat.le_of_ble_eq_true rfl) rfl (fun ls hl => ?_)
        refine r_iinc C hl (lv' := [(6, iI (v6 + (-1))), (5, iI 0), (4, iI (i_div v4 6)), (0, rI g o0), (1, iI v1), (2, iI v2), (3, iI v3)]) 6 dX8_layWhere_101 rfl (Nat.le_of_ble_eq_true rfl) rfl (fun ls hl => ?_)
        refine r_goto C (tgt := 50) dX8_layWhere_104 (by decide) ?_
        exact ih _ _ _ _ _ _ _ _ _ _ hf hI (lv_sub hl [3, 4, 5, 6, 2, 1, 0] rfl)
      · refine r_aload_n C hl 1 dX8_layWhere_79 rfl rfl ?_
        refine g_8_8 C hI h0 w_570 dX8_layWhere_80 ?_
        refine r_aload_n C hl 1 dX8_layWhere_83 rfl rfl ?_
        refine g_8_11 C hI h0 w_573 dX8_layWhere_84 ?_
        refine r_iload C hl 6 dX8_layWhere_87 rfl ?_
        refine r_iald C hI 5 (n := 5) (k_8_11 h0) (by decide) rfl q66_1 dX8_layWhere_89 ?_
        refine r_gd hf (fun q90_3 hf => ?_)
        refine r_iald C hI 6 (n := 6) (k_8_8 h0) (by decide) rfl q90_3 dX8_layWhere_90 ?_
        refine r_gd hf (fun q91_4 hf => ?_)
        refine r_if_le C q91_4 (tgt := 98) dX8_layWhere_91 (by decide) hf (fun hf => ?_) (fun hf => ?_)
        · refine r_iconst C dX8_layWhere_98 ?_
          refine r_istore C hl (lv' := [(5, iI 0), (4, iI (i_div v4 6)), (0, rI g o0), (1, iI v1), (2, iI v2), (3, iI v3), (6, iI v6)]) dX8_layWhere_99 (Nat.le_of_ble_eq_true rfl) rfl (fun ls hl => ?_)
          refine r_iinc C hl (lv' := [(6, iI (v6 + (-1))), (5, iI 0), (4, iI (i_div v4 6)), (0, rI g o0), (1, iI v1), (2, iI v2), (3, iI v3)]) 6 dX8_layWhere_101 rfl (Nat.le_of_ble_eq_true rfl) rfl (fun ls hl => ?_)
          refine r_goto C (tgt := 50) dX8_layWhere_104 (by decide) ?_
          exact ih _ _ _ _ _ _ _ _ _ _ hf hI (lv_sub hl [3, 4, 5, 6, 2, 1, 0] rfl)
        · refine r_iconst C dX8_layWhere_94 ?_
          refine r_goto C (tgt := 99) dX8_layWhere_95 (by decide) ?_
          refine r_istore C hl (lv' := [(5, iI 1), (4, iI (i_div v4 6)), (0, rI g o0), (1, iI v1), (2, iI v2), (3, iI v3), (6, iI v6)]) dX8_layWhere_99 (Nat.le_of_ble_eq_true rfl) rfl (fun ls hl => ?_)
          refine r_iinc C hl (lv' := [(6, iI (v6 + (-1))), (5, iI 1), (4, iI (i_div v4 6)), (0, rI g o0), (1, iI v1), (2, iI v2), (3, iI v3)]) 6 dX8_layWhere_101 rfl (Nat.le_of_ble_eq_true rfl) rfl (fun ls hl => ?_)
          refine r_goto C (tgt := 50) dX8_layWhere_104 (by decide) ?_
          exact ih _ _ _ _ _ _ _ _ _ _ hf hI (lv_sub hl [3, 4, 5, 6, 2, 1, 0] rfl)
set_option maxRecDepth 100000 in
set_option maxHeartbeats 4000000 in
theorem t_X8_layWhere_27 {g : GP} {p : Program} {l : Launch} {e : Env} {s : State} {m : MethodId} {args : Array Value} {below : List Frame} {meth : Method} {c : Code} {Q : State → Prop} {N : Nat} {o0 : Nat} (h0 : kd o0 = 8) (C : Cx g p s m args c cX8_layWhere 8 "LentGalleryModel") {r : Int × Mem} (hQ : RetI g p l e (rmK 5 112) s m args below meth c cX8_layWhere r Q) : ∀ (n : Nat) (v1 v2 v3 : Int) (M : Mem) (H : Heap) (locs : List Loc) (ls : Array Slot), f_X8_layWhere_27 N o0 n v1 v2 v3 M = some r → Inv g s M H locs → lv_has ls 8 [(0, rI g o0), (1, iI v1), (2, iI v2), (3, iI v3)] → W p l e (rmK 5 112) s m args below meth c H locs 0 0 Q (F0 m 27 ls []) := by
  intro n
  induction n with
  | zero =>
    intro v1 v2 v3 M H locs ls hf hI hl
    cases hf
  | succ n ih =>
    intro v1 v2 v3 M H locs ls hf hI hl
    rw [f_X8_layWhere_27] at hf
    refine r_iload_n C hl 3 dX8_layWhere_27 rfl rfl ?_
    refine r_iload_n C hl 1 dX8_layWhere_28 rfl rfl ?_
    refine r_gd hf (fun q29_0 hf => ?_)
    refine r_gd hf (fun q29_1 hf => ?_)
    refine r_ic_ge C q29_0 q29_1 (tgt := 179) dX8_layWhere_29 (by decide) hf (fun hf => ?_) (fun hf => ?_)
    · refine r_iload_n C hl 2 dX8_layWhere_179 rfl rfl ?_
      exact r_iret hQ hf hI dX8_layWhere_180
    · refine r_aload_n C hl 0 dX8_layWhere_32 rfl rfl ?_
      refine r_callv (rest := []) hI hf (fun M' h => run_V C hI F_X8_asItIs w_704 v_14 w_702 ⟨⟨Nat.le_of_ble_eq_true rfl, Nat.le_of_ble_eq_true rfl⟩, Nat.le_of_ble_eq_true rfl, Nat.le_of_ble_eq_true rfl⟩ (zX8 h0) (oX8 h0) rfl hl dX8_layWhere_33 [] rfl rfl (Nat.le_of_ble_eq_true rfl) (c_X8_asItIs C.2.2.2.2.2.2 h0 h)) (fun M33 H locs hI hf => ?_)
      refine r_iload_n C hl 3 dX8_layWhere_36 rfl rfl ?_
      refine r_istore C hl (lv' := [(4, iI v3), (0, rI g o0), (1, iI v1), (2, iI v2), (3, iI v3)]) dX8_layWhere_37 (Nat.le_of_ble_eq_true rfl) rfl (fun ls hl => ?_)
      refine r_iconst C dX8_layWhere_39 ?_
      refine r_istore C hl (lv' := [(5, iI 1), (4, iI v3), (0, rI g o0), (1, iI v1), (2, iI v2), (3, iI v3)]) dX8_layWhere_40 (Nat.le_of_ble_eq_true rfl) rfl (fun ls hl => ?_)
      refine r_aload_n C hl 2 dX8_layWhere_42 rfl rfl ?_
      refine g_8_9 C hI h0 w_571 dX8_layWhere_43 ?_
      refine r_iconst C dX8_layWhere_46 ?_
      refine r_isub C dX8_layWhere_47 ?_
      refine r_istore C hl (lv' := [(6, iI ((M33 o0 9) - 1)), (5, iI 1), (4, iI v3), (0, rI g o0), (1, iI v1), (2, iI v2), (3, iI v3)]) dX8_layWhere_48 (Nat.le_of_ble_eq_true rfl) rfl (fun ls hl => ?_)
      exact t_X8_layWhere_50 h0 C hQ ih _ _ _ _ _ _ _ _ _ _ _ hf hI (lv_sub hl [3, 4, 5, 6, 2, 1, 0] rfl)
set_option maxRecDepth 100000 in
set_option maxHeartbeats 4000000 in
theorem t_X8_layWhere_4 {g : GP} {p : Program} {l : Launch} {e : Env} {s : State} {m : MethodId} {args : Array Value} {below : List Frame} {meth : Method} {c : Code} {Q : State → Prop} {N : Nat} {o0 : Nat} (h0 : kd o0 = 8) (C : Cx g p s m args c cX8_layWhere 8 "LentGalleryModel") {r : Int × Mem} (hQ : RetI g p l e (rmK 5 112) s m args below meth c cX8_layWhere r Q) : ∀ (n : Nat) (v1 v2 : Int) (M : Mem) (H : Heap) (locs : List Loc) (ls : Array Slot), f_X8_layWhere_4 N o0 n v1 v2 M = some r → Inv g s M H locs → lv_has ls 8 [(0, rI g o0), (1, iI v1), (2, iI v2)] → W p l e (rmK 5 112) s m args below meth c H locs 0 0 Q (F0 m 4 ls []) := by
  intro n
  induction n with
  | zero =>
    intro v1 v2 M H locs ls hf hI hl
    cases hf
  | succ n ih =>
    intro v1 v2 M H locs ls hf hI hl
    rw [f_X8_layWhere_4] at hf
    refine r_iload_n C hl 2 dX8_layWhere_4 rfl rfl ?_
    refine r_aload_n C hl 0 dX8_layWhere_5 rfl rfl ?_
    refine g_8_9 C hI h0 w_571 dX8_layWhere_6 ?_
    refine r_gd hf (fun q9_0 hf => ?_)
    refine r_gd hf (fun q9_1 hf => ?_)
    refine r_ic_ge C q9_0 q9_1 (tgt := 23) dX8_layWhere_9 (by decide) hf (fun hf => ?_) (fun hf => ?_)
    · refine r_iconst C dX8_layWhere_23 ?_
      refine r_istore_n C hl (lv' := [(2, iI (-1)), (0, rI g o0), (1, iI v1)]) dX8_layWhere_24 rfl (Nat.le_of_ble_eq_true rfl) rfl (fun ls hl => ?_)
      refine r_iconst C dX8_layWhere_25 ?_
      refine r_istore_n C hl (lv' := [(3, iI 0), (2, iI (-1)), (0, rI g o0), (1, iI v1)]) dX8_layWhere_26 rfl (Nat.le_of_ble_eq_true rfl) rfl (fun ls hl => ?_)
      exact t_X8_layWhere_27 h0 C hQ _ _ _ _ _ _ _ _ hf hI (lv_sub hl [2, 3, 1, 0] rfl)
    · refine r_iload_n C hl 1 dX8_layWhere_12 rfl rfl ?_
      refine r_bipush C dX8_layWhere_13 rfl ?_
      refine r_imul C dX8_layWhere_15 ?_
      refine r_istore_n C hl (lv' := [(1, iI (v1 * 6)), (0, rI g o0), (2, iI v2)]) dX8_layWhere_16 rfl (Nat.le_of_ble_eq_true rfl) rfl (fun ls hl => ?_)
      refine r_iinc C hl (lv' := [(2, iI (v2 + 1)), (1, iI (v1 * 6)), (0, rI g o0)]) 2 dX8_layWhere_17 rfl (Nat.le_of_ble_eq_true rfl) rfl (fun ls hl => ?_)
      refine r_goto C (tgt := 4) dX8_layWhere_20 (by decide) ?_
      exact ih _ _ _ _ _ _ hf hI (lv_sub hl [2, 1, 0] rfl)
set_option maxRecDepth 100000 in
set_option maxHeartbeats 4000000 in
theorem c_X8_layWhere {l : Launch} {g : GP} (hj : Inj g) {N : Nat} {M : Mem} {o0 : Nat} (h0 : kd o0 = 8) {r : Int × Mem} (hf : f_X8_layWhere N o0 M = some r) : Met l yX8_layWhere (Cond.code yX8_layWhere cX8_layWhere 8 (some .int) :: TB) (rmK 5 112) (PreW g M [rI g o0]) (PostI g r.1 r.2) 0 0 (Ad g) := by
  unfold f_X8_layWhere at hf
  refine met_of (nL := 8) (cc := cX8_layWhere) (M := M) (by decide +kernel) hj (Nat.le_of_ble_eq_true rfl) ?_
  intro p e s m below meth c ls C hr hlk hI hl
  have C : Cx g p s m _ c cX8_layWhere 8 "LentGalleryModel" := C
  have hl : lv_has ls 8 [(0, rI g o0)] := hl
  have hQ := ret_i (l := l) (e := e) (R := (rmK 5 112)) (below := below) (r := r) C hr hlk (nar_i _)
  generalize s.heap = H, ([] : List Loc) = locs at hI ⊢
  refine r_iconst C dX8_layWhere_0 ?_
  refine r_istore_n C hl (lv' := [(1, iI 1), (0, rI g o0)]) dX8_layWhere_1 rfl (Nat.le_of_ble_eq_true rfl) rfl (fun ls hl => ?_)
  refine r_iconst C dX8_layWhere_2 ?_
  refine r_istore_n C hl (lv' := [(2, iI 0), (1, iI 1), (0, rI g o0)]) dX8_layWhere_3 rfl (Nat.le_of_ble_eq_true rfl) rfl (fun ls hl => ?_)
  exact t_X8_layWhere_4 h0 C hQ _ _ _ _ _ _ _ hf hI (lv_sub hl [2, 1, 0] rfl)
/-! X8_where -/
def f_X8_where_21 (N : Nat) (o0 : Nat) (v1 : Int) (M : Mem) : Option (Int × Mem) := bnd (f_X8_lacks N o0 M) (fun r22 M22 => gd (inR r22) (if r22 = 0 then (gd (inR (M22 o0 14)) (if (M22 o0 14) = 12 then (some (-103, M22)) else (bnd (f_X8_layWhere N o0 (st M22 o0 14 ((M22 o0 14) + 1))) (fun r51 M51 => gd (inR v1) (if v1 = 0 then (gd (inR r51) (if r51 = 41 then (some (-1, M51)) else (some (r51, M51)))) else (gd (inR r51) (if r51 = (-1) then (some (-1, M51)) else (gd (inR (v1 - 10)) (gd (inR (M51 o0 9)) (if (v1 - 10) < (M51 o0 9) then (gd (0 ≤ (v1 - 10) ∧ (v1 - 10) < 5) (some (M51 (ch o0 15) (v1 - 10).toNat, M51))) else (some (-1, M51)))))))))))) else (some (-103, M22))))
def f_X8_where (N : Nat) (o0 : Nat) (v1 : Int) (M : Mem) : Option (Int × Mem) := gd (inR v1) (if v1 = 0 then (f_X8_where_21 N o0 v1 M) else (bnd (f_X8_in N v1 10 14 M) (fun r12 M12 => gd (inR r12) (if r12 = 0 then (some (-102, M12)) else (f_X8_where_21 N o0 v1 M12)))))
theorem F_X8_where : CalF yX8_where cX8_where 3 (some .int) 1 := ⟨w_802, w_9, by decide +kernel⟩
set_option maxRecDepth 100000 in
set_option maxHeartbeats 4000000 in
theorem t_X8_where_21 {g : GP} {p : Program} {l : Launch} {e : Env} {s : State} {m : MethodId} {args : Array Value} {below : List Frame} {meth : Method} {c : Code} {Q : State → Prop} {N : Nat} {o0 : Nat} {v1 : Int} (h0 : kd o0 = 8) (C : Cx g p s m args c cX8_where 3 "LentGalleryModel") {r : Int × Mem} (hQ : RetI g p l e (rmK 6 139) s m args below meth c cX8_where r Q) : ∀ (M : Mem) (H : Heap) (locs : List Loc) (ls : Array Slot), f_X8_where_21 N o0 v1 M = some r → Inv g s M H locs → lv_has ls 3 [(0, rI g o0), (1, iI v1)] → W p l e (rmK 6 139) s m args below meth c H locs 0 0 Q (F0 m 21 ls []) := by
  intro M H locs ls hf hI hl
  unfold f_X8_where_21 at hf
  refine r_aload_n C hl 0 dX8_where_21 rfl rfl ?_
  refine r_calli (rest := []) hI hf (fun r M' h => run_V C hI F_X8_lacks w_695 v_12 w_693 ⟨⟨Nat.le_of_ble_eq_true rfl, Nat.le_of_ble_eq_true rfl⟩, Nat.le_of_ble_eq_true rfl, Nat.le_of_ble_eq_true rfl⟩ (zX8 h0) (oX8 h0) rfl hl dX8_where_22 [] rfl rfl (Nat.le_of_ble_eq_true rfl) (c_X8_lacks C.2.2.2.2.2.2 h0 h)) (fun r22 M22 H locs hI hf => ?_)
  refine r_gd hf (fun q25_0 hf => ?_)
  refine r_if_ne C q25_0 (tgt := 37) dX8_where_25 (by decide) hf (fun hf => ?_) (fun hf => ?_)
  · refine r_bipush C dX8_where_37 rfl ?_
    exact r_iret hQ hf hI dX8_where_39
  · refine r_aload_n C hl 0 dX8_where_28 rfl rfl ?_
    refine g_8_14 C hI h0 w_576 dX8_where_29 ?_
    refine r_bipush C dX8_where_32 rfl ?_
    refine r_gd hf (fun q34_1 hf => ?_)
    refine r_ic_ne C q34_1 (by decide) (tgt := 40) dX8_where_34 (by decide) hf (fun hf => ?_) (fun hf => ?_)
    · refine r_aload_n C hl 0 dX8_where_40 rfl rfl ?_
      refine r_dup C dX8_where_41 rfl ?_
      refine g_8_14 C hI h0 w_576 dX8_where_42 ?_
      refine r_iconst C dX8_where_45 ?_
      refine r_iadd C dX8_where_46 ?_
      refine p_8_14 C hI h0 w_576 dX8_where_47 (fun H locs hI => ?_)
      refine r_aload_n C hl 0 dX8_where_50 rfl rfl ?_
      refine r_calli (rest := []) hI hf (fun r M' h => run_V C hI F_X8_layWhere w_807 v_28 w_805 ⟨⟨Nat.le_of_ble_eq_true rfl, Nat.le_of_ble_eq_true rfl⟩, Nat.le_of_ble_eq_true rfl, Nat.le_of_ble_eq_true rfl⟩ (zX8 h0) (oX8 h0) rfl hl dX8_where_51 [] rfl rfl (Nat.le_of_ble_eq_true rfl) (c_X8_layWhere C.2.2.2.2.2.2 h0 h)) (fun r51 M51 H locs hI hf => ?_)
      refine r_istore_n C hl (lv' := [(2, iI r51), (0, rI g o0), (1, iI v1)]) dX8_where_54 rfl (Nat.le_of_ble_eq_true rfl) rfl (fun ls hl => ?_)
      refine r_iload_n C hl 2 dX8_where_55 rfl rfl ?_
      refine r_gd hf (fun q56_2 hf => ?_)
      refine r_if_ne C q56_2 (tgt := 71) dX8_where_56 (by decide) hf (fun hf => ?_) (fun hf => ?_)
      · refine r_iload_n C hl 0 dX8_where_71 rfl rfl ?_
        refine r_iconst C dX8_where_72 ?_
        refine r_gd hf (fun q73_3 hf => ?_)
        refine r_ic_eq C q73_3 (by decide) (tgt := 87) dX8_where_73 (by decide) hf (fun hf => ?_) (fun hf => ?_)
        · refine r_iconst C dX8_where_87 ?_
          refine r_goto C (tgt := 100) dX8_where_88 (by decide) ?_
          exact r_iret hQ hf hI dX8_where_100
        · refine r_iload_n C hl 2 dX8_where_76 rfl rfl ?_
          refine r_bipush C dX8_where_77 rfl ?_
          refine r_isub C dX8_where_79 ?_
          refine r_aload_n C hl 1 dX8_where_80 rfl rfl ?_
          refine g_8_9 C hI h0 w_571 dX8_where_81 ?_
          refine r_gd hf (fun q84_4 hf => ?_)
          refine r_gd hf (fun q84_5 hf => ?_)
          refine r_ic_lt C q84_4 q84_5 (tgt := 91) dX8_where_84 (by decide) hf (fun hf => ?_) (fun hf => ?_)
          · refine r_aload_n C hl 1 dX8_where_91 rfl rfl ?_
            refine g_8_15 C hI h0 w_577 dX8_where_92 ?_
            refine r_iload_n C hl 2 dX8_where_95 rfl rfl ?_
            refine r_bipush C dX8_where_96 rfl ?_
            refine r_isub C dX8_where_98 ?_
            refine r_gd hf (fun q99_6 hf => ?_)
            refine r_iald C hI 5 (n := 5) (k_8_15 h0) (by decide) rfl q99_6 dX8_where_99 ?_
            exact r_iret hQ hf hI dX8_where_100
          · refine r_iconst C dX8_where_87 ?_
            refine r_goto C (tgt := 100) dX8_where_88 (by decide) ?_
            exact r_iret hQ hf hI dX8_where_100
      · refine r_iload_n C hl 0 dX8_where_59 rfl rfl ?_
        refine r_bipush C dX8_where_60 rfl ?_
        refine r_gd hf (fun q62_3 hf => ?_)
        refine r_ic_ne C q62_3 (by decide) (tgt := 69) dX8_where_62 (by decide) hf (fun hf => ?_) (fun hf => ?_)
        · refine r_iload_n C hl 0 dX8_where_69 rfl rfl ?_
          exact r_iret hQ hf hI dX8_where_70
        · refine r_iconst C dX8_where_65 ?_
          refine r_goto C (tgt := 70) dX8_where_66 (by decide) ?_
          exact r_iret hQ hf hI dX8_where_70
    · refine r_bipush C dX8_where_37 rfl ?_
      exact r_iret hQ hf hI dX8_where_39
set_option maxRecDepth 100000 in
set_option maxHeartbeats 4000000 in
theorem c_X8_where {l : Launch} {g : GP} (hj : Inj g) {N : Nat} {M : Mem} {o0 : Nat} {v1 : Int} (h0 : kd o0 = 8) {r : Int × Mem} (hf : f_X8_where N o0 v1 M = some r) : Met l yX8_where (Cond.code yX8_where cX8_where 3 (some .int) :: TB) (rmK 6 139) (PreW g M [rI g o0, iI v1]) (PostI g r.1 r.2) 0 0 (Ad g) := by
  unfold f_X8_where at hf
  refine met_of (nL := 3) (cc := cX8_where) (M := M) (by decide +kernel) hj (Nat.le_of_ble_eq_true rfl) ?_
  intro p e s m below meth c ls C hr hlk hI hl
  have C : Cx g p s m _ c cX8_where 3 "LentGalleryModel" := C
  have hl : lv_has ls 3 [(0, rI g o0), (1, iI v1)] := hl
  have hQ := ret_i (l := l) (e := e) (R := (rmK 6 139)) (below := below) (r := r) C hr hlk (nar_i _)
  generalize s.heap = H, ([] : List Loc) = locs at hI ⊢
  refine r_iload_n C hl 1 dX8_where_0 rfl rfl ?_
  refine r_gd hf (fun q1_0 hf => ?_)
  refine r_if_eq C q1_0 (tgt := 21) dX8_where_1 (by decide) hf (fun hf => ?_) (fun hf => ?_)
  · exact t_X8_where_21 h0 C hQ _ _ _ _ hf hI (lv_sub hl [0, 1] rfl)
  · refine r_iload_n C hl 1 dX8_where_4 rfl rfl ?_
    refine r_i2l C q1_0 dX8_where_5 ?_
    refine r_ldc2 C (n := 10) w_803 rfl dX8_where_6 ?_
    refine r_ldc2 C (n := 14) w_804 rfl dX8_where_9 ?_
    refine r_calli (rest := []) hI hf (fun r M' h => run_S C hI F_X8_in w_659 w_658 ⟨⟨Nat.le_of_ble_eq_true rfl, Nat.le_of_ble_eq_true rfl⟩, Nat.le_of_ble_eq_true rfl, Nat.le_of_ble_eq_true rfl⟩ hl dX8_where_12 [lI v1, lI 10, lI 14] rfl rfl (Nat.le_of_ble_eq_true rfl) (c_X8_in C.2.2.2.2.2.2 h)) (fun r12 M12 H locs hI hf => ?_)
    refine r_gd hf (fun q15_1 hf => ?_)
    refine r_if_ne C q15_1 (tgt := 21) dX8_where_15 (by decide) hf (fun hf => ?_) (fun hf => ?_)
    · exact t_X8_where_21 h0 C hQ _ _ _ _ hf hI (lv_sub hl [0, 1] rfl)
    · refine r_bipush C dX8_where_18 rfl ?_
      exact r_iret hQ hf hI dX8_where_20
/-! X8_propsIn -/
def f_X8_propsIn_45 (N : Nat) (o0 : Nat) (v1 : Int) (v2 : Int) (v3 : Int) (M : Mem) : Option (Int × Mem) := gd (0 ≤ v1 ∧ v1 < 6) (gd (inR ((M (ch o0 8) v1.toNat) + (3 * v3))) (if ((M (ch o0 8) v1.toNat) + (3 * v3)) ≤ 20 then (some (v3, M)) else (gd (inR v3) (if v3 ≤ 0 then (some (v3, M)) else (some (-1, M))))))
def f_X8_propsIn_6 (N : Nat) (o0 : Nat) (v1 : Int) (v2 : Int) : Nat → Int → Mem → Option (Int × Mem)
  | 0, _, _ => none
  | n + 1, v3, M => gd (0 ≤ v1 ∧ v1 < 6) (gd (inR (M (ch o0 8) v1.toNat)) (if (M (ch o0 8) v1.toNat) ≤ 0 then (f_X8_propsIn_45 N o0 v1 v2 v3 M) else (bnd (f_X8_lessOf N o0 v1 (ch o0 12) M) (fun r32 M32 => gd (inR ((M (ch o0 8) v1.toNat) + (3 * v3))) (gd (inR (v2 * r32)) (if (v2 * r32) < ((M (ch o0 8) v1.toNat) + (3 * v3)) then (f_X8_propsIn_45 N o0 v1 v2 v3 M32) else (f_X8_propsIn_6 N o0 v1 v2 n (v3 + 1) M32)))))))
def f_X8_propsIn (N : Nat) (o0 : Nat) (v1 : Int) (v2 : Int) (M : Mem) : Option (Int × Mem) := bnv (f_X8_asItIs N o0 M) (fun M1 => f_X8_propsIn_6 N o0 v1 v2 N 0 M1)
theorem F_X8_propsIn : CalF yX8_propsIn cX8_propsIn 4 (some .int) 2 := ⟨w_825, w_9, by decide +kernel⟩
set_option maxRecDepth 100000 in
set_option maxHeartbeats 4000000 in
theorem t_X8_propsIn_45 {g : GP} {p : Program} {l : Launch} {e : Env} {s : State} {m : MethodId} {args : Array Value} {below : List Frame} {meth : Method} {c : Code} {Q : State → Prop} {N : Nat} {o0 : Nat} {v1 : Int} {v2 : Int} (h0 : kd o0 = 8) (C : Cx g p s m args c cX8_propsIn 4 "LentGalleryModel") {r : Int × Mem} (hQ : RetI g p l e (rmK 3 68) s m args below meth c cX8_propsIn r Q) : ∀ (v3 : Int) (M : Mem) (H : Heap) (locs : List Loc) (ls : Array Slot), f_X8_propsIn_45 N o0 v1 v2 v3 M = some r → Inv g s M H locs → lv_has ls 4 [(0, rI g o0), (1, iI v1), (3, iI v3)] → W p l e (rmK 3 68) s m args below meth c H locs 0 0 Q (F0 m 45 ls []) := by
  intro v3 M H locs ls hf hI hl
  unfold f_X8_propsIn_45 at hf
  refine r_aload_n C hl 0 dX8_propsIn_45 rfl rfl ?_
  refine g_8_8 C hI h0 w_570 dX8_propsIn_46 ?_
  refine r_iload_n C hl 1 dX8_propsIn_49 rfl rfl ?_
  refine r_gd hf (fun q50_0 hf => ?_)
  refine r_iald C hI 6 (n := 6) (k_8_8 h0) (by decide) rfl q50_0 dX8_propsIn_50 ?_
  refine r_iconst C dX8_propsIn_51 ?_
  refine r_iload_n C hl 2 dX8_propsIn_52 rfl rfl ?_
  refine r_imul C dX8_propsIn_53 ?_
  refine r_iadd C dX8_propsIn_54 ?_
  refine r_bipush C dX8_propsIn_55 rfl ?_
  refine r_gd hf (fun q57_1 hf => ?_)
  refine r_ic_le C q57_1 (by decide) (tgt := 68) dX8_propsIn_57 (by decide) hf (fun hf => ?_) (fun hf => ?_)
  · refine r_iload_n C hl 2 dX8_propsIn_68 rfl rfl ?_
    exact r_iret hQ hf hI dX8_propsIn_69
  · refine r_iload_n C hl 2 dX8_propsIn_60 rfl rfl ?_
    refine r_gd hf (fun q61_2 hf => ?_)
    refine r_if_le C q61_2 (tgt := 68) dX8_propsIn_61 (by decide) hf (fun hf => ?_) (fun hf => ?_)
    · refine r_iload_n C hl 2 dX8_propsIn_68 rfl rfl ?_
      exact r_iret hQ hf hI dX8_propsIn_69
    · refine r_iconst C dX8_propsIn_64 ?_
      refine r_goto C (tgt := 69) dX8_propsIn_65 (by decide) ?_
      exact r_iret hQ hf hI dX8_propsIn_69
set_option maxRecDepth 100000 in
set_option maxHeartbeats 4000000 in
theorem t_X8_propsIn_6 {g : GP} {p : Program} {l : Launch} {e : Env} {s : State} {m : MethodId} {args : Array Value} {below : List Frame} {meth : Method} {c : Code} {Q : State → Prop} {N : Nat} {o0 : Nat} {v1 : Int} {v2 : Int} (h0 : kd o0 = 8) (C : Cx g p s m args c cX8_propsIn 4 "LentGalleryModel") {r : Int × Mem} (hQ : RetI g p l e (rmK 3 68) s m args below meth c cX8_propsIn r Q) : ∀ (n : Nat) (v3 : Int) (M : Mem) (H : Heap) (locs : List Loc) (ls : Array Slot), f_X8_propsIn_6 N o0 v1 v2 n v3 M = some r → Inv g s M H locs → lv_has ls 4 [(0, rI g o0), (1, iI v1), (2, iI v2), (3, iI v3)] → W p l e (rmK 3 68) s m args below meth c H locs 0 0 Q (F0 m 6 ls []) := by
  intro n
  induction n with
  | zero =>
    intro v3 M H locs ls hf hI hl
    cases hf
  | succ n ih =>
    intro v3 M H locs ls hf hI hl
    rw [f_X8_propsIn_6] at hf
    refine r_aload_n C hl 0 dX8_propsIn_6 rfl rfl ?_
    refine g_8_8 C hI h0 w_570 dX8_propsIn_7 ?_
    refine r_iload_n C hl 1 dX8_propsIn_10 rfl rfl ?_
    refine r_gd hf (fun q11_0 hf => ?_)
    refine r_iald C hI 6 (n := 6) (k_8_8 h0) (by decide) rfl q11_0 dX8_propsIn_11 ?_
    refine r_gd hf (fun q12_1 hf => ?_)
    refine r_if_le C q12_1 (tgt := 45) dX8_propsIn_12 (by decide) hf (fun hf => ?_) (fun hf => ?_)
    · exact t_X8_propsIn_45 h0 C hQ _ _ _ _ _ hf hI (lv_sub hl [0, 1, 3] rfl)
    · refine r_aload_n C hl 0 dX8_propsIn_15 rfl rfl ?_
      refine g_8_8 C hI h0 w_570 dX8_propsIn_16 ?_
      refine r_iload_n C hl 1 dX8_propsIn_19 rfl rfl ?_
      refine r_iald C hI 6 (n := 6) (k_8_8 h0) (by decide) rfl q11_0 dX8_propsIn_20 ?_
      refine r_iconst C dX8_propsIn_21 ?_
      refine r_iload_n C hl 3 dX8_propsIn_22 rfl rfl ?_
      refine r_imul C dX8_propsIn_23 ?_
      refine r_iadd C dX8_propsIn_24 ?_
      refine r_iload_n C hl 2 dX8_propsIn_25 rfl rfl ?_
      refine r_aload_n C hl 0 dX8_propsIn_26 rfl rfl ?_
      refine r_iload_n C hl 1 dX8_propsIn_27 rfl rfl ?_
      refine r_aload_n C hl 0 dX8_propsIn_28 rfl rfl ?_
      refine g_8_12 C hI h0 w_574 dX8_propsIn_29 ?_
      refine r_calli (rest := [iI v2, iI ((M (ch o0 8) v1.toNat) + (3 * v3))]) hI hf (fun r M' h => run_V C hI F_X8_lessOf w_722 v_17 w_720 ⟨⟨Nat.le_of_ble_eq_true rfl, Nat.le_of_ble_eq_true rfl⟩, Nat.le_of_ble_eq_true rfl, Nat.le_of_ble_eq_true rfl⟩ (zX8 h0) (oX8 h0) rfl hl dX8_propsIn_32 [iI v1, rI g (ch o0 12)] rfl rfl (Nat.le_of_ble_eq_true rfl) (c_X8_lessOf C.2.2.2.2.2.2 h0 (isA_k (k_8_12 h0) (by decide) (by decide)) h)) (fun r32 M32 H locs hI hf => ?_)
      refine r_imul C dX8_propsIn_35 ?_
      refine r_gd hf (fun q36_2 hf => ?_)
      refine r_gd hf (fun q36_3 hf => ?_)
      refine r_ic_gt C q36_2 q36_3 (tgt := 45) dX8_propsIn_36 (by decide) hf (fun hf => ?_) (fun hf => ?_)
      · exact t_X8_propsIn_45 h0 C hQ _ _ _ _ _ hf hI (lv_sub hl [0, 1, 3] rfl)
      · refine r_iinc C hl (lv' := [(3, iI (v3 + 1)), (0, rI g o0), (1, iI v1), (2, iI v2)]) 3 dX8_propsIn_39 rfl (Nat.le_of_ble_eq_true rfl) rfl (fun ls hl => ?_)
        refine r_goto C (tgt := 6) dX8_propsIn_42 (by decide) ?_
        exact ih _ _ _ _ _ hf hI (lv_sub hl [1, 2, 3, 0] rfl)
set_option maxRecDepth 100000 in
set_option maxHeartbeats 4000000 in
theorem c_X8_propsIn {l : Launch} {g : GP} (hj : Inj g) {N : Nat} {M : Mem} {o0 : Nat} {v1 : Int} {v2 : Int} (h0 : kd o0 = 8) {r : Int × Mem} (hf : f_X8_propsIn N o0 v1 v2 M = some r) : Met l yX8_propsIn (Cond.code yX8_propsIn cX8_propsIn 4 (some .int) :: TB) (rmK 3 68) (PreW g M [rI g o0, iI v1, iI v2]) (PostI g r.1 r.2) 0 0 (Ad g) := by
  unfold f_X8_propsIn at hf
  refine met_of (nL := 4) (cc := cX8_propsIn) (M := M) (by decide +kernel) hj (Nat.le_of_ble_eq_true rfl) ?_
  intro p e s m below meth c ls C hr hlk hI hl
  have C : Cx g p s m _ c cX8_propsIn 4 "LentGalleryModel" := C
  have hl : lv_has ls 4 [(0, rI g o0), (1, iI v1), (2, iI v2)] := hl
  have hQ := ret_i (l := l) (e := e) (R := (rmK 3 68)) (below := below) (r := r) C hr hlk (nar_i _)
  generalize s.heap = H, ([] : List Loc) = locs at hI ⊢
  refine r_aload_n C hl 0 dX8_propsIn_0 rfl rfl ?_
  refine r_callv (rest := []) hI hf (fun M' h => run_V C hI F_X8_asItIs w_704 v_14 w_702 ⟨⟨Nat.le_of_ble_eq_true rfl, Nat.le_of_ble_eq_true rfl⟩, Nat.le_of_ble_eq_true rfl, Nat.le_of_ble_eq_true rfl⟩ (zX8 h0) (oX8 h0) rfl hl dX8_propsIn_1 [] rfl rfl (Nat.le_of_ble_eq_true rfl) (c_X8_asItIs C.2.2.2.2.2.2 h0 h)) (fun M1 H locs hI hf => ?_)
  refine r_iconst C dX8_propsIn_4 ?_
  refine r_istore_n C hl (lv' := [(3, iI 0), (0, rI g o0), (1, iI v1), (2, iI v2)]) dX8_propsIn_5 rfl (Nat.le_of_ble_eq_true rfl) rfl (fun ls hl => ?_)
  exact t_X8_propsIn_6 h0 C hQ _ _ _ _ _ _ hf hI (lv_sub hl [1, 2, 3, 0] rfl)
/-! X8_propsOf -/
def f_X8_propsOf_8 (N : Nat) (o0 : Nat) (v1 : Int) (v2 : Int) : Nat → Int → Int → Int → Mem → Option (Int × Mem)
  | 0, _, _, _, _ => none
  | n + 1, v3, v4, v5, M => gd (inR v5) (if 6 ≤ v5 then (gd (inR v4) (if v4 = 0 then (some (-1, M)) else (gd (inR v2) (if v2 = 0 then (some (v3, M)) else (bnd (f_X8_propsIn N o0 (v2 - 10) v1 M) (fun r76 M76 => some (r76, M76))))))) else (bnd (f_X8_propsIn N o0 v5 v1 M) (fun r19 M19 => gd (inR v4) (if v4 = 0 then (f_X8_propsOf_8 N o0 v1 v2 n (v3 + r19) 0 (v5 + 1) M19) else (gd (inR r19) (if r19 = (-1) then (f_X8_propsOf_8 N o0 v1 v2 n (v3 + r19) 0 (v5 + 1) M19) else (f_X8_propsOf_8 N o0 v1 v2 n (v3 + r19) 1 (v5 + 1) M19)))))))
def f_X8_propsOf (N : Nat) (o0 : Nat) (v1 : Int) (v2 : Int) (M : Mem) : Option (Int × Mem) := f_X8_propsOf_8 N o0 v1 v2 N 0 1 0 M
theorem F_X8_propsOf : CalF yX8_propsOf cX8_propsOf 7 (some .int) 2 := ⟨w_821, w_9, by decide +kernel⟩
set_option maxRecDepth 100000 in
set_option maxHeartbeats 4000000 in
theorem t_X8_propsOf_8 {g : GP} {p : Program} {l : Launch} {e : Env} {s : State} {m : MethodId} {args : Array Value} {below : List Frame} {meth : Method} {c : Code} {Q : State → Prop} {N : Nat} {o0 : Nat} {v1 : Int} {v2 : Int} (h0 : kd o0 = 8) (C : Cx g p s m args c cX8_propsOf 7 "LentGalleryModel") {r : Int × Mem} (hQ : RetI g p l e (rmK 4 91) s m args below meth c cX8_propsOf r Q) : ∀ (n : Nat) (v3 v4 v5 : Int) (M : Mem) (H : Heap) (locs : List Loc) (ls : Array Slot), f_X8_propsOf_8 N o0 v1 v2 n v3 v4 v5 M = some r → Inv g s M H locs → lv_has ls 7 [(0, rI g o0), (1, iI v1), (2, iI v2), (3, iI v3), (4, iI v4), (5, iI v5)] → W p l e (rmK 4 91) s m args below meth c H locs 0 0 Q (F0 m 8 ls []) := by
  intro n
  induction n with
  | zero =>
    intro v3 v4 v5 M H locs ls hf hI hl
    cases hf
  | succ n ih =>
    intro v3 v4 v5 M H locs ls hf hI hl
    rw [f_X8_propsOf_8] at hf
    refine r_iload C hl 5 dX8_propsOf_8 rfl ?_
    refine r_bipush C dX8_propsOf_10 rfl ?_
    refine r_gd hf (fun q12_0 hf => ?_)
    refine r_ic_ge C q12_0 (by decide) (tgt := 53) dX8_propsOf_12 (by decide) hf (fun hf => ?_) (fun hf => ?_)
    · refine r_iload C hl 4 dX8_propsOf_53 rfl ?_
      refine r_gd hf (fun q55_1 hf => ?_)
      refine r_if_ne C q55_1 (tgt := 62) dX8_propsOf_55 (by decide) hf (fun hf => ?_) (fun hf => ?_)
      · refine r_iload_n C hl 2 dX8_propsOf_62 rfl rfl ?_
        refine r_gd hf (fun q63_2 hf => ?_)
        refine r_if_ne C q63_2 (tgt := 70) dX8_propsOf_63 (by decide) hf (fun hf => ?_) (fun hf => ?_)
        · refine r_aload_n C hl 0 dX8_propsOf_70 rfl rfl ?_
          refine r_iload_n C hl 2 dX8_propsOf_71 rfl rfl ?_
          refine r_bipush C dX8_propsOf_72 rfl ?_
          refine r_isub C dX8_propsOf_74 ?_
          refine r_iload_n C hl 1 dX8_propsOf_75 rfl rfl ?_
          refine r_calli (rest := []) hI hf (fun r M' h => run_V C hI F_X8_propsIn w_824 v_30 w_822 ⟨⟨Nat.le_of_ble_eq_true rfl, Nat.le_of_ble_eq_true rfl⟩, Nat.le_of_ble_eq_true rfl, Nat.le_of_ble_eq_true rfl⟩ (zX8 h0) (oX8 h0) rfl hl dX8_propsOf_76 [iI (v2 - 10), iI v1] rfl rfl (Nat.le_of_ble_eq_true rfl) (c_X8_propsIn C.2.2.2.2.2.2 h0 h)) (fun r76 M76 H locs hI hf => ?_)
          exact r_iret hQ hf hI dX8_propsOf_79
        · refine r_iload_n C hl 3 dX8_propsOf_66 rfl rfl ?_
          refine r_goto C (tgt := 79) dX8_propsOf_67 (by decide) ?_
          exact r_iret hQ hf hI dX8_propsOf_79
      · refine r_iconst C dX8_propsOf_58 ?_
        refine r_goto C (tgt := 79) dX8_propsOf_59 (by decide) ?_
        exact r_iret hQ hf hI dX8_propsOf_79
    · refine r_aload_n C hl 0 dX8_propsOf_15 rfl rfl ?_
      refine r_iload C hl 5 dX8_propsOf_16 rfl ?_
      refine r_iload_n C hl 1 dX8_propsOf_18 rfl rfl ?_
      refine r_calli (rest := []) hI hf (fun r M' h => run_V C hI F_X8_propsIn w_824 v_30 w_822 ⟨⟨Nat.le_of_ble_eq_true rfl, Nat.le_of_ble_eq_true rfl⟩, Nat.le_of_ble_eq_true rfl, Nat.le_of_ble_eq_true rfl⟩ (zX8 h0) (oX8 h0) rfl hl dX8_propsOf_19 [iI v5, iI v1] rfl rfl (Nat.le_of_ble_eq_true rfl) (c_X8_propsIn C.2.2.2.2.2.2 h0 h)) (fun r19 M19 H locs hI hf => ?_)
      refine r_istore C hl (lv' := [(6, iI r19), (0, rI g o0), (1, iI v1), (2, iI v2), (3, iI v3), (4, iI v4), (5, iI v5)]) dX8_propsOf_22 (Nat.le_of_ble_eq_true rfl) rfl (fun ls hl => ?_)
      refine r_iload C hl 5 dX8_propsOf_24 rfl ?_
      refine r_gd hf (fun q26_1 hf => ?_)
      refine r_if_eq C q26_1 (tgt := 39) dX8_propsOf_26 (by decide) hf (fun hf => ?_) (fun hf => ?_)
      · refine r_iconst C dX8_propsOf_39 ?_
        refine r_istore C hl (lv' := [(4, iI 0), (6, iI r19), (0, rI g o0), (1, iI v1), (2, iI v2), (3, iI v3), (5, iI v5)]) dX8_propsOf_40 (Nat.le_of_ble_eq_true rfl) rfl (fun ls hl => ?_)
        refine r_iload_n C hl 5 dX8_propsOf_42 rfl rfl ?_
        refine r_iload C hl 1 dX8_propsOf_43 rfl ?_
        refine r_iadd C dX8_propsOf_45 ?_
        refine r_istore_n C hl (lv' := [(3, iI (v3 + r19)), (4, iI 0), (6, iI r19), (0, rI g o0), (1, iI v1), (2, iI v2), (5, iI v5)]) dX8_propsOf_46 rfl (Nat.le_of_ble_eq_true rfl) rfl (fun ls hl => ?_)
        refine r_iinc C hl (lv' := [(5, iI (v5 + 1)), (3, iI (v3 + r19)), (4, iI 0), (6, iI r19), (0, rI g o0), (1, iI v1), (2, iI v2)]) 6 dX8_propsOf_47 rfl (Nat.le_of_ble_eq_true rfl) rfl (fun ls hl => ?_)
        refine r_goto C (tgt := 8) dX8_propsOf_50 (by decide) ?_
        exact ih _ _ _ _ _ _ _ hf hI (lv_sub hl [4, 5, 6, 1, 2, 0] rfl)
      · refine r_iload C hl 0 dX8_propsOf_29 rfl ?_
        refine r_iconst C dX8_propsOf_31 ?_
        refine r_gd hf (fun q32_2 hf => ?_)
        refine r_ic_eq C q32_2 (by decide) (tgt := 39) dX8_propsOf_32 (by decide) hf (fun hf => ?_) (fun hf => ?_)
        · refine r_iconst C dX8_propsOf_39 ?_
          refine r_istore C hl (lv' := [(4, iI 0), (6, iI r19), (0, rI g o0), (1, iI v1), (2, iI v2), (3, iI v3), (5, iI v5)]) dX8_propsOf_40 (Nat.le_of_ble_eq_true rfl) rfl (fun ls hl => ?_)
          refine r_iload_n C hl 5 dX8_propsOf_42 rfl rfl ?_
          refine r_iload C hl 1 dX8_propsOf_43 rfl ?_
          refine r_iadd C dX8_propsOf_45 ?_
          refine r_istore_n C hl (lv' := [(3, iI (v3 + r19)), (4, iI 0), (6, iI r19), (0, rI g o0), (1, iI v1), (2, iI v2), (5, iI v5)]) dX8_propsOf_46 rfl (Nat.le_of_ble_eq_true rfl) rfl (fun ls hl => ?_)
          refine r_iinc C hl (lv' := [(5, iI (v5 + 1)), (3, iI (v3 + r19)), (4, iI 0), (6, iI r19), (0, rI g o0), (1, iI v1), (2, iI v2)]) 6 dX8_propsOf_47 rfl (Nat.le_of_ble_eq_true rfl) rfl (fun ls hl => ?_)
          refine r_goto C (tgt := 8) dX8_propsOf_50 (by decide) ?_
          exact ih _ _ _ _ _ _ _ hf hI (lv_sub hl [4, 5, 6, 1, 2, 0] rfl)
        · refine r_iconst C dX8_propsOf_35 ?_
          refine r_goto C (tgt := 40) dX8_propsOf_36 (by decide) ?_
          refine r_istore C hl (lv' := [(4, iI 1), (6, iI r19), (0, rI g o0), (1, iI v1), (2, iI v2), (3, iI v3), (5, iI v5)]) dX8_propsOf_40 (Nat.le_of_ble_eq_true rfl) rfl (fun ls hl => ?_)
          refine r_iload_n C hl 5 dX8_propsOf_42 rfl rfl ?_
          refine r_iload C hl 1 dX8_propsOf_43 rfl ?_
          refine r_iadd C dX8_propsOf_45 ?_
          refine r_istore_n C hl (lv' := [(3, iI (v3 + r19)), (4, iI 1), (6, iI r19), (0, rI g o0), (1, iI v1), (2, iI v2), (5, iI v5)]) dX8_propsOf_46 rfl (Nat.le_of_ble_eq_true rfl) rfl (fun ls hl => ?_)
          refine r_iinc C hl (lv' := [(5, iI (v5 + 1)), (3, iI (v3 + r19)), (4, iI 1), (6, iI r19), (0, rI g o0), (1, iI v1), (2, iI v2)]) 6 dX8_propsOf_47 rfl (Nat.le_of_ble_eq_true rfl) rfl (fun ls hl => ?_)
          refine r_goto C (tgt := 8) dX8_propsOf_50 (by decide) ?_
          exact ih _ _ _ _ _ _ _ hf hI (lv_sub hl [4, 5, 6, 1, 2, 0] rfl)
set_option maxRecDepth 100000 in
set_option maxHeartbeats 4000000 in
theorem c_X8_propsOf {l : Launch} {g : GP} (hj : Inj g) {N : Nat} {M : Mem} {o0 : Nat} {v1 : Int} {v2 : Int} (h0 : kd o0 = 8) {r : Int × Mem} (hf : f_X8_propsOf N o0 v1 v2 M = some r) : Met l yX8_propsOf (Cond.code yX8_propsOf cX8_propsOf 7 (some .int) :: TB) (rmK 4 91) (PreW g M [rI g o0, iI v1, iI v2]) (PostI g r.1 r.2) 0 0 (Ad g) := by
  unfold f_X8_propsOf at hf
  refine met_of (nL := 7) (cc := cX8_propsOf) (M := M) (by decide +kernel) hj (Nat.le_of_ble_eq_true rfl) ?_
  intro p e s m below meth c ls C hr hlk hI hl
  have C : Cx g p s m _ c cX8_propsOf 7 "LentGalleryModel" := C
  have hl : lv_has ls 7 [(0, rI g o0), (1, iI v1), (2, iI v2)] := hl
  have hQ := ret_i (l := l) (e := e) (R := (rmK 4 91)) (below := below) (r := r) C hr hlk (nar_i _)
  generalize s.heap = H, ([] : List Loc) = locs at hI ⊢
  refine r_iconst C dX8_propsOf_0 ?_
  refine r_istore_n C hl (lv' := [(3, iI 0), (0, rI g o0), (1, iI v1), (2, iI v2)]) dX8_propsOf_1 rfl (Nat.le_of_ble_eq_true rfl) rfl (fun ls hl => ?_)
  refine r_iconst C dX8_propsOf_2 ?_
  refine r_istore C hl (lv' := [(4, iI 1), (3, iI 0), (0, rI g o0), (1, iI v1), (2, iI v2)]) dX8_propsOf_3 (Nat.le_of_ble_eq_true rfl) rfl (fun ls hl => ?_)
  refine r_iconst C dX8_propsOf_5 ?_
  refine r_istore C hl (lv' := [(5, iI 0), (4, iI 1), (3, iI 0), (0, rI g o0), (1, iI v1), (2, iI v2)]) dX8_propsOf_6 (Nat.le_of_ble_eq_true rfl) rfl (fun ls hl => ?_)
  exact t_X8_propsOf_8 h0 C hQ _ _ _ _ _ _ _ _ hf hI (lv_sub hl [3, 4, 5, 2, 1, 0] rfl)
