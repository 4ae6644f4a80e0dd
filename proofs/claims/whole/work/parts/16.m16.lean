/-! X8_in -/
def f_X8_in (N : Nat) (v0 : Int) (v2 : Int) (v4 : Int) (M : Mem) : Option (Int × Mem) := gd (v0 = v2 ∨ (inL v0 ∧ inL v2)) (if (l_cmp v0 v2) < 0 then (some (0, M)) else (gd (v0 = v4 ∨ (inL v0 ∧ inL v4)) (if 0 < (l_cmp v0 v4) then (some (0, M)) else (some (1, M)))))
theorem F_X8_in : CalF yX8_in cX8_in 6 (some .boolean) 3 := ⟨w_660, w_9, by decide +kernel⟩
set_option maxRecDepth 100000 in
set_option maxHeartbeats 4000000 in
theorem c_X8_in {l : Launch} {g : GP} (hj : Inj g) {N : Nat} {M : Mem} {v0 : Int} {v2 : Int} {v4 : Int} {r : Int × Mem} (hf : f_X8_in N v0 v2 v4 M = some r) : Met l yX8_in (Cond.code yX8_in cX8_in 6 (some .boolean) :: TB) (rmK 0 0) (PreW g M [lI v0, lI v2, lI v4]) (PostI g r.1 r.2) 0 0 (Ad g) := by
  unfold f_X8_in at hf
  refine met_of (nL := 6) (cc := cX8_in) (M := M) (by decide +kernel) hj (Nat.le_of_ble_eq_true rfl) ?_
  intro p e s m below meth c ls C hr hlk hI hl
  have C : Cx g p s m _ c cX8_in 6 "LentGalleryModel" := C
  have hl : lv_has ls 6 [(0, lI v0), (2, lI v2), (4, lI v4)] := hl
  have hQ := ret_z (l := l) (e := e) (R := (rmK 0 0)) (below := below) (r := r) C hr hlk
  generalize s.heap = H, ([] : List Loc) = locs at hI ⊢
  refine r_lload_n C hl 0 dX8_in_0 rfl rfl ?_
  refine r_lload_n C hl 1 dX8_in_1 rfl rfl ?_
  refine r_gd hf (fun q2_0 hf => ?_)
  refine r_lcmp C q2_0 dX8_in_2 ?_
  refine r_if_lt C (inR_cmp _ _) (tgt := 17) dX8_in_3 (by decide) hf (fun hf => ?_) (fun hf => ?_)
  · refine r_iconst C dX8_in_17 ?_
    exact r_zret hQ (by decide) hf hI dX8_in_18
  · refine r_lload_n C hl 0 dX8_in_6 rfl rfl ?_
    refine r_lload C hl 2 dX8_in_7 rfl ?_
    refine r_gd hf (fun q9_1 hf => ?_)
    refine r_lcmp C q9_1 dX8_in_9 ?_
    refine r_if_gt C (inR_cmp _ _) (tgt := 17) dX8_in_10 (by decide) hf (fun hf => ?_) (fun hf => ?_)
    · refine r_iconst C dX8_in_17 ?_
      exact r_zret hQ (by decide) hf hI dX8_in_18
    · refine r_iconst C dX8_in_13 ?_
      refine r_goto C (tgt := 18) dX8_in_14 (by decide) ?_
      exact r_zret hQ (by decide) hf hI dX8_in_18
/-! X8_copy -/
def f_X8_copy_2 (N : Nat) (o0 : Nat) (o1 : Nat) : Nat → Int → Mem → Option (Mem)
  | 0, _, _ => none
  | n + 1, v2, M => gd (inR v2) (if (al o0) ≤ v2 then (some M) else (gd (0 ≤ v2 ∧ v2 < al o0) (gd (0 ≤ v2 ∧ v2 < al o1) (f_X8_copy_2 N o0 o1 n (v2 + 1) (st M o1 v2.toNat (M o0 v2.toNat))))))
def f_X8_copy (N : Nat) (o0 : Nat) (o1 : Nat) (M : Mem) : Option (Mem) := f_X8_copy_2 N o0 o1 N 0 M
theorem F_X8_copy : CalF yX8_copy cX8_copy 3 none 2 := ⟨w_708, w_9, by decide +kernel⟩
set_option maxRecDepth 100000 in
set_option maxHeartbeats 4000000 in
theorem t_X8_copy_2 {g : GP} {p : Program} {l : Launch} {e : Env} {s : State} {m : MethodId} {args : Array Value} {below : List Frame} {meth : Method} {c : Code} {Q : State → Prop} {N : Nat} {o0 : Nat} {o1 : Nat} (h0 : isA o0) (h1 : isA o1) (C : Cx g p s m args c cX8_copy 3 "LentGalleryModel") {r : Mem} (hQ : RetV g p l e (rmK 0 0) s m args below meth c cX8_copy r Q) : ∀ (n : Nat) (v2 : Int) (M : Mem) (H : Heap) (locs : List Loc) (ls : Array Slot), f_X8_copy_2 N o0 o1 n v2 M = some r → Inv g s M H locs → lv_has ls 3 [(0, rI g o0), (1, rI g o1), (2, iI v2)] → W p l e (rmK 0 0) s m args below meth c H locs 0 0 Q (F0 m 2 ls []) := by
  intro n
  induction n with
  | zero =>
    intro v2 M H locs ls hf hI hl
    cases hf
  | succ n ih =>
    intro v2 M H locs ls hf hI hl
    rw [f_X8_copy_2] at hf
    refine r_iload_n C hl 2 dX8_copy_2 rfl rfl ?_
    refine r_aload_n C hl 0 dX8_copy_3 rfl rfl ?_
    refine r_alen C hI (al o0) (isA_eq h0) (by omega) rfl dX8_copy_4 ?_
    refine r_gd hf (fun q5_0 hf => ?_)
    refine r_ic_ge C q5_0 (inR_al h0) (tgt := 20) dX8_copy_5 (by decide) hf (fun hf => ?_) (fun hf => ?_)
    · exact r_vret hQ hf hI dX8_copy_20
    · refine r_aload_n C hl 1 dX8_copy_8 rfl rfl ?_
      refine r_iload_n C hl 2 dX8_copy_9 rfl rfl ?_
      refine r_aload_n C hl 0 dX8_copy_10 rfl rfl ?_
      refine r_iload_n C hl 2 dX8_copy_11 rfl rfl ?_
      refine r_gd hf (fun q12_1 hf => ?_)
      refine r_iald C hI (al o0) (isA_eq h0) (by omega) rfl q12_1 dX8_copy_12 ?_
      refine r_gd hf (fun q13_2 hf => ?_)
      refine r_iast C hI (al o1) (isA_eq h1) (by omega) rfl q13_2 dX8_copy_13 (fun H locs hI => ?_)
      refine r_iinc C hl (lv' := [(2, iI (v2 + 1)), (0, rI g o0), (1, rI g o1)]) 2 dX8_copy_14 rfl (Nat.le_of_ble_eq_true rfl) rfl (fun ls hl => ?_)
      refine r_goto C (tgt := 2) dX8_copy_17 (by decide) ?_
      exact ih _ _ _ _ _ hf hI (lv_sub hl [1, 2, 0] rfl)
set_option maxRecDepth 100000 in
set_option maxHeartbeats 4000000 in
theorem c_X8_copy {l : Launch} {g : GP} (hj : Inj g) {N : Nat} {M : Mem} {o0 : Nat} {o1 : Nat} (h0 : isA o0) (h1 : isA o1) {r : Mem} (hf : f_X8_copy N o0 o1 M = some r) : Met l yX8_copy (Cond.code yX8_copy cX8_copy 3 none :: TB) (rmK 0 0) (PreW g M [rI g o0, rI g o1]) (PostV g r) 0 0 (Ad g) := by
  unfold f_X8_copy at hf
  refine met_of (nL := 3) (cc := cX8_copy) (M := M) (by decide +kernel) hj (Nat.le_of_ble_eq_true rfl) ?_
  intro p e s m below meth c ls C hr hlk hI hl
  have C : Cx g p s m _ c cX8_copy 3 "LentGalleryModel" := C
  have hl : lv_has ls 3 [(0, rI g o0), (1, rI g o1)] := hl
  have hQ := ret_v (l := l) (e := e) (R := (rmK 0 0)) (below := below) (r := r) C hr hlk
  generalize s.heap = H, ([] : List Loc) = locs at hI ⊢
  refine r_iconst C dX8_copy_0 ?_
  refine r_istore_n C hl (lv' := [(2, iI 0), (0, rI g o0), (1, rI g o1)]) dX8_copy_1 rfl (Nat.le_of_ble_eq_true rfl) rfl (fun ls hl => ?_)
  exact t_X8_copy_2 h0 h1 C hQ _ _ _ _ _ _ hf hI (lv_sub hl [1, 2, 0] rfl)
/-! X8_letter -/
def f_X8_letter (N : Nat) (o0 : Nat) (v1 : Int) (M : Mem) : Option (Int × Mem) := gd (inR v1) (bnd (f_X8_in N v1 1 126 M) (fun r6 M6 => gd (inR r6) (if r6 = 0 then (some (-102, M6)) else (gd (inR (M6 o0 1)) (if (M6 o0 1) = 12 then (some (-104, M6)) else (gd (0 ≤ (M6 o0 1) ∧ (M6 o0 1) < 12) (some ((st (st M6 (ch o0 0) (M6 o0 1).toNat v1) o0 1 (((st M6 (ch o0 0) (M6 o0 1).toNat v1) o0 1) + 1)) o0 1, st (st M6 (ch o0 0) (M6 o0 1).toNat v1) o0 1 (((st M6 (ch o0 0) (M6 o0 1).toNat v1) o0 1) + 1)))))))))
theorem F_X8_letter : CalF yX8_letter cX8_letter 2 (some .int) 1 := ⟨w_656, w_9, by decide +kernel⟩
set_option maxRecDepth 100000 in
set_option maxHeartbeats 4000000 in
theorem c_X8_letter {l : Launch} {g : GP} (hj : Inj g) {N : Nat} {M : Mem} {o0 : Nat} {v1 : Int} (h0 : kd o0 = 8) {r : Int × Mem} (hf : f_X8_letter N o0 v1 M = some r) : Met l yX8_letter (Cond.code yX8_letter cX8_letter 2 (some .int) :: TB) (rmK 1 25) (PreW g M [rI g o0, iI v1]) (PostI g r.1 r.2) 0 0 (Ad g) := by
  unfold f_X8_letter at hf
  refine met_of (nL := 2) (cc := cX8_letter) (M := M) (by decide +kernel) hj (Nat.le_of_ble_eq_true rfl) ?_
  intro p e s m below meth c ls C hr hlk hI hl
  have C : Cx g p s m _ c cX8_letter 2 "LentGalleryModel" := C
  have hl : lv_has ls 2 [(0, rI g o0), (1, iI v1)] := hl
  have hQ := ret_i (l := l) (e := e) (R := (rmK 1 25)) (below := below) (r := r) C hr hlk (nar_i _)
  generalize s.heap = H, ([] : List Loc) = locs at hI ⊢
  refine r_iload_n C hl 1 dX8_letter_0 rfl rfl ?_
  refine r_gd hf (fun q1_0 hf => ?_)
  refine r_i2l C q1_0 dX8_letter_1 ?_
  refine r_lconst C (v := 1) dX8_letter_2 rfl ?_
  refine r_ldc2 C (n := 126) w_657 rfl dX8_letter_3 ?_
  refine r_calli (rest := []) hI hf (fun r M' h => run_S C hI F_X8_in w_659 w_658 ⟨⟨Nat.le_of_ble_eq_true rfl, Nat.le_of_ble_eq_true rfl⟩, Nat.le_of_ble_eq_true rfl, Nat.le_of_ble_eq_true rfl⟩ hl dX8_letter_6 [lI v1, lI 1, lI 126] rfl rfl (Nat.le_of_ble_eq_true rfl) (c_X8_in C.2.2.2.2.2.2 h)) (fun r6 M6 H locs hI hf => ?_)
  refine r_gd hf (fun q9_1 hf => ?_)
  refine r_if_ne C q9_1 (tgt := 15) dX8_letter_9 (by decide) hf (fun hf => ?_) (fun hf => ?_)
  · refine r_aload_n C hl 0 dX8_letter_15 rfl rfl ?_
    refine g_8_1 C hI h0 w_563 dX8_letter_16 ?_
    refine r_bipush C dX8_letter_19 rfl ?_
    refine r_gd hf (fun q21_2 hf => ?_)
    refine r_ic_ne C q21_2 (by decide) (tgt := 27) dX8_letter_21 (by decide) hf (fun hf => ?_) (fun hf => ?_)
    · refine r_aload_n C hl 0 dX8_letter_27 rfl rfl ?_
      refine g_8_0 C hI h0 w_562 dX8_letter_28 ?_
      refine r_aload_n C hl 0 dX8_letter_31 rfl rfl ?_
      refine g_8_1 C hI h0 w_563 dX8_letter_32 ?_
      refine r_iload_n C hl 1 dX8_letter_35 rfl rfl ?_
      refine r_gd hf (fun q36_3 hf => ?_)
      refine r_iast C hI 12 (n := 12) (k_8_0 h0) (by decide) rfl q36_3 dX8_letter_36 (fun H locs hI => ?_)
      refine r_aload_n C hl 0 dX8_letter_37 rfl rfl ?_
      refine r_dup C dX8_letter_38 rfl ?_
      refine g_8_1 C hI h0 w_563 dX8_letter_39 ?_
      refine r_iconst C dX8_letter_42 ?_
      refine r_iadd C dX8_letter_43 ?_
      refine p_8_1 C hI h0 w_563 dX8_letter_44 (fun H locs hI => ?_)
      refine r_aload_n C hl 0 dX8_letter_47 rfl rfl ?_
      refine g_8_1 C hI h0 w_563 dX8_letter_48 ?_
      exact r_iret hQ hf hI dX8_letter_51
    · refine r_bipush C dX8_letter_24 rfl ?_
      exact r_iret hQ hf hI dX8_letter_26
  · refine r_bipush C dX8_letter_12 rfl ?_
    exact r_iret hQ hf hI dX8_letter_14
/-! X8_blank -/
def f_X8_blank (N : Nat) (o0 : Nat) (M : Mem) : Option (Int × Mem) := some (M o0 1, st M o0 1 0)
theorem F_X8_blank : CalF yX8_blank cX8_blank 2 (some .int) 0 := ⟨w_664, w_9, by decide +kernel⟩
set_option maxRecDepth 100000 in
set_option maxHeartbeats 4000000 in
theorem c_X8_blank {l : Launch} {g : GP} (hj : Inj g) {N : Nat} {M : Mem} {o0 : Nat} (h0 : kd o0 = 8) {r : Int × Mem} (hf : f_X8_blank N o0 M = some r) : Met l yX8_blank (Cond.code yX8_blank cX8_blank 2 (some .int) :: TB) (rmK 0 0) (PreW g M [rI g o0]) (PostI g r.1 r.2) 0 0 (Ad g) := by
  unfold f_X8_blank at hf
  refine met_of (nL := 2) (cc := cX8_blank) (M := M) (by decide +kernel) hj (Nat.le_of_ble_eq_true rfl) ?_
  intro p e s m below meth c ls C hr hlk hI hl
  have C : Cx g p s m _ c cX8_blank 2 "LentGalleryModel" := C
  have hl : lv_has ls 2 [(0, rI g o0)] := hl
  have hQ := ret_i (l := l) (e := e) (R := (rmK 0 0)) (below := below) (r := r) C hr hlk (nar_i _)
  generalize s.heap = H, ([] : List Loc) = locs at hI ⊢
  refine r_aload_n C hl 0 dX8_blank_0 rfl rfl ?_
  refine g_8_1 C hI h0 w_563 dX8_blank_1 ?_
  refine r_istore_n C hl (lv' := [(1, iI (M o0 1)), (0, rI g o0)]) dX8_blank_4 rfl (Nat.le_of_ble_eq_true rfl) rfl (fun ls hl => ?_)
  refine r_aload_n C hl 1 dX8_blank_5 rfl rfl ?_
  refine r_iconst C dX8_blank_6 ?_
  refine p_8_1 C hI h0 w_563 dX8_blank_7 (fun H locs hI => ?_)
  refine r_iload_n C hl 0 dX8_blank_10 rfl rfl ?_
  exact r_iret hQ hf hI dX8_blank_11
/-! X8_isGood -/
def f_X8_isGood (N : Nat) (v0 : Int) (v1 : Int) (M : Mem) : Option (Int × Mem) := gd (inR v0) (if v0 = 6 then (gd (inR v1) (if v1 = 59 then (some (1, M)) else (some (0, M)))) else (if v0 = 8 then (gd (inR (v1 - 48)) (bnd (f_X8_in N (v1 - 48) 1 9 M) (fun r37 M37 => gd (r37 = 0 ∨ r37 = 1) (some (r37, M37))))) else (if 8 ≤ v0 then (some (0, M)) else (gd (inR (v1 - 48)) (bnd (f_X8_in N (v1 - 48) 0 9 M) (fun r55 M55 => gd (inR r55) (if r55 = 0 then (some (0, M55)) else (some (1, M55)))))))))
theorem F_X8_isGood : CalF yX8_isGood cX8_isGood 3 (some .boolean) 2 := ⟨w_675, w_9, by decide +kernel⟩
set_option maxRecDepth 100000 in
set_option maxHeartbeats 4000000 in
theorem c_X8_isGood {l : Launch} {g : GP} (hj : Inj g) {N : Nat} {M : Mem} {v0 : Int} {v1 : Int} {r : Int × Mem} (hf : f_X8_isGood N v0 v1 M = some r) : Met l yX8_isGood (Cond.code yX8_isGood cX8_isGood 3 (some .boolean) :: TB) (rmK 1 25) (PreW g M [iI v0, iI v1]) (PostI g r.1 r.2) 0 0 (Ad g) := by
  unfold f_X8_isGood at hf
  refine met_of (nL := 3) (cc := cX8_isGood) (M := M) (by decide +kernel) hj (Nat.le_of_ble_eq_true rfl) ?_
  intro p e s m below meth c ls C hr hlk hI hl
  have C : Cx g p s m _ c cX8_isGood 3 "LentGalleryModel" := C
  have hl : lv_has ls 3 [(0, iI v0), (1, iI v1)] := hl
  have hQ := ret_z (l := l) (e := e) (R := (rmK 1 25)) (below := below) (r := r) C hr hlk
  generalize s.heap = H, ([] : List Loc) = locs at hI ⊢
  refine r_iload_n C hl 1 dX8_isGood_0 rfl rfl ?_
  refine r_bipush C dX8_isGood_1 rfl ?_
  refine r_isub C dX8_isGood_3 ?_
  refine r_istore_n C hl (lv' := [(2, iI (v1 - 48)), (0, iI v0), (1, iI v1)]) dX8_isGood_4 rfl (Nat.le_of_ble_eq_true rfl) rfl (fun ls hl => ?_)
  refine r_iload_n C hl 1 dX8_isGood_5 rfl rfl ?_
  refine r_bipush C dX8_isGood_6 rfl ?_
  refine r_gd hf (fun q8_0 hf => ?_)
  refine r_ic_ne C q8_0 (by decide) (tgt := 25) dX8_isGood_8 (by decide) hf (fun hf => ?_) (fun hf => ?_)
  · refine r_iload_n C hl 1 dX8_isGood_25 rfl rfl ?_
    refine r_bipush C dX8_isGood_26 rfl ?_
    refine r_ic_ne C q8_0 (by decide) (tgt := 43) dX8_isGood_28 (by decide) hf (fun hf => ?_) (fun hf => ?_)
    · refine r_iload_n C hl 1 dX8_isGood_43 rfl rfl ?_
      refine r_bipush C dX8_isGood_44 rfl ?_
      refine r_ic_ge C q8_0 (by decide) (tgt := 65) dX8_isGood_46 (by decide) hf (fun hf => ?_) (fun hf => ?_)
      · refine r_iconst C dX8_isGood_65 ?_
        exact r_zret hQ (by decide) hf hI dX8_isGood_66
      · refine r_iload_n C hl 0 dX8_isGood_49 rfl rfl ?_
        refine r_gd hf (fun q50_1 hf => ?_)
        refine r_i2l C q50_1 dX8_isGood_50 ?_
        refine r_lconst C (v := 0) dX8_isGood_51 rfl ?_
        refine r_ldc2 C (n := 9) w_676 rfl dX8_isGood_52 ?_
        refine r_calli (rest := []) hI hf (fun r M' h => run_S C hI F_X8_in w_659 w_658 ⟨⟨Nat.le_of_ble_eq_true rfl, Nat.le_of_ble_eq_true rfl⟩, Nat.le_of_ble_eq_true rfl, Nat.le_of_ble_eq_true rfl⟩ hl dX8_isGood_55 [lI (v1 - 48), lI 0, lI 9] rfl rfl (Nat.le_of_ble_eq_true rfl) (c_X8_in C.2.2.2.2.2.2 h)) (fun r55 M55 H locs hI hf => ?_)
        refine r_gd hf (fun q58_2 hf => ?_)
        refine r_if_eq C q58_2 (tgt := 65) dX8_isGood_58 (by decide) hf (fun hf => ?_) (fun hf => ?_)
        · refine r_iconst C dX8_isGood_65 ?_
          exact r_zret hQ (by decide) hf hI dX8_isGood_66
        · refine r_iconst C dX8_isGood_61 ?_
          refine r_goto C (tgt := 66) dX8_isGood_62 (by decide) ?_
          exact r_zret hQ (by decide) hf hI dX8_isGood_66
    · refine r_iload_n C hl 0 dX8_isGood_31 rfl rfl ?_
      refine r_gd hf (fun q32_1 hf => ?_)
      refine r_i2l C q32_1 dX8_isGood_32 ?_
      refine r_lconst C (v := 1) dX8_isGood_33 rfl ?_
      refine r_ldc2 C (n := 9) w_676 rfl dX8_isGood_34 ?_
      refine r_calli (rest := []) hI hf (fun r M' h => run_S C hI F_X8_in w_659 w_658 ⟨⟨Nat.le_of_ble_eq_true rfl, Nat.le_of_ble_eq_true rfl⟩, Nat.le_of_ble_eq_true rfl, Nat.le_of_ble_eq_true rfl⟩ hl dX8_isGood_37 [lI (v1 - 48), lI 1, lI 9] rfl rfl (Nat.le_of_ble_eq_true rfl) (c_X8_in C.2.2.2.2.2.2 h)) (fun r37 M37 H locs hI hf => ?_)
      refine r_goto C (tgt := 66) dX8_isGood_40 (by decide) ?_
      refine r_gd hf (fun q66_2 hf => ?_)
      exact r_zret hQ q66_2 hf hI dX8_isGood_66
  · refine r_iload_n C hl 2 dX8_isGood_11 rfl rfl ?_
    refine r_bipush C dX8_isGood_12 rfl ?_
    refine r_gd hf (fun q14_1 hf => ?_)
    refine r_ic_ne C q14_1 (by decide) (tgt := 21) dX8_isGood_14 (by decide) hf (fun hf => ?_) (fun hf => ?_)
    · refine r_iconst C dX8_isGood_21 ?_
      refine r_goto C (tgt := 66) dX8_isGood_22 (by decide) ?_
      exact r_zret hQ (by decide) hf hI dX8_isGood_66
    · refine r_iconst C dX8_isGood_17 ?_
      refine r_goto C (tgt := 66) dX8_isGood_18 (by decide) ?_
      exact r_zret hQ (by decide) hf hI dX8_isGood_66
/-! X8_faultOf -/
def f_X8_faultOf_2 (N : Nat) (o0 : Nat) : Nat → Int → Mem → Option (Int × Mem)
  | 0, _, _ => none
  | n + 1, v1, M => gd (inR v1) (gd (inR (M o0 1)) (if (M o0 1) ≤ v1 then (some (v1, M)) else (gd (0 ≤ v1 ∧ v1 < 12) (bnd (f_X8_isGood N v1 (M (ch o0 0) v1.toNat) M) (fun r17 M17 => gd (inR r17) (if r17 = 0 then (some (v1, M17)) else (f_X8_faultOf_2 N o0 n (v1 + 1) M17)))))))
def f_X8_faultOf (N : Nat) (o0 : Nat) (M : Mem) : Option (Int × Mem) := f_X8_faultOf_2 N o0 N 0 M
theorem F_X8_faultOf : CalF yX8_faultOf cX8_faultOf 2 (some .int) 0 := ⟨w_672, w_9, by decide +kernel⟩
set_option maxRecDepth 100000 in
set_option maxHeartbeats 4000000 in
theorem t_X8_faultOf_2 {g : GP} {p : Program} {l : Launch} {e : Env} {s : State} {m : MethodId} {args : Array Value} {below : List Frame} {meth : Method} {c : Code} {Q : State → Prop} {N : Nat} {o0 : Nat} (h0 : kd o0 = 8) (C : Cx g p s m args c cX8_faultOf 2 "LentGalleryModel") {r : Int × Mem} (hQ : RetI g p l e (rmK 2 47) s m args below meth c cX8_faultOf r Q) : ∀ (n : Nat) (v1 : Int) (M : Mem) (H : Heap) (locs : List Loc) (ls : Array Slot), f_X8_faultOf_2 N o0 n v1 M = some r → Inv g s M H locs → lv_has ls 2 [(0, rI g o0), (1, iI v1)] → W p l e (rmK 2 47) s m args below meth c H locs 0 0 Q (F0 m 2 ls []) := by
  intro n
  induction n with
  | zero =>
    intro v1 M H locs ls hf hI hl
    cases hf
  | succ n ih =>
    intro v1 M H locs ls hf hI hl
    rw [f_X8_faultOf_2] at hf
    refine r_iload_n C hl 1 dX8_faultOf_2 rfl rfl ?_
    refine r_aload_n C hl 0 dX8_faultOf_3 rfl rfl ?_
    refine g_8_1 C hI h0 w_563 dX8_faultOf_4 ?_
    refine r_gd hf (fun q7_0 hf => ?_)
    refine r_gd hf (fun q7_1 hf => ?_)
    refine r_ic_ge C q7_0 q7_1 (tgt := 29) dX8_faultOf_7 (by decide) hf (fun hf => ?_) (fun hf => ?_)
    · refine r_iload_n C hl 1 dX8_faultOf_29 rfl rfl ?_
      exact r_iret hQ hf hI dX8_faultOf_30
    · refine r_iload_n C hl 1 dX8_faultOf_10 rfl rfl ?_
      refine r_aload_n C hl 0 dX8_faultOf_11 rfl rfl ?_
      refine g_8_0 C hI h0 w_562 dX8_faultOf_12 ?_
      refine r_iload_n C hl 1 dX8_faultOf_15 rfl rfl ?_
      refine r_gd hf (fun q16_2 hf => ?_)
      refine r_iald C hI 12 (n := 12) (k_8_0 h0) (by decide) rfl q16_2 dX8_faultOf_16 ?_
      refine r_calli (rest := []) hI hf (fun r M' h => run_S C hI F_X8_isGood w_674 w_673 ⟨⟨Nat.le_of_ble_eq_true rfl, Nat.le_of_ble_eq_true rfl⟩, Nat.le_of_ble_eq_true rfl, Nat.le_of_ble_eq_true rfl⟩ hl dX8_faultOf_17 [iI v1, iI (M (ch o0 0) v1.toNat)] rfl rfl (Nat.le_of_ble_eq_true rfl) (c_X8_isGood C.2.2.2.2.2.2 h)) (fun r17 M17 H locs hI hf => ?_)
      refine r_gd hf (fun q20_3 hf => ?_)
      refine r_if_eq C q20_3 (tgt := 29) dX8_faultOf_20 (by decide) hf (fun hf => ?_) (fun hf => ?_)
      · refine r_iload_n C hl 1 dX8_faultOf_29 rfl rfl ?_
        exact r_iret hQ hf hI dX8_faultOf_30
      · refine r_iinc C hl (lv' := [(1, iI (v1 + 1)), (0, rI g o0)]) 1 dX8_faultOf_23 rfl (Nat.le_of_ble_eq_true rfl) rfl (fun ls hl => ?_)
        refine r_goto C (tgt := 2) dX8_faultOf_26 (by decide) ?_
        exact ih _ _ _ _ _ hf hI (lv_sub hl [1, 0] rfl)
set_option maxRecDepth 100000 in
set_option maxHeartbeats 4000000 in
theorem c_X8_faultOf {l : Launch} {g : GP} (hj : Inj g) {N : Nat} {M : Mem} {o0 : Nat} (h0 : kd o0 = 8) {r : Int × Mem} (hf : f_X8_faultOf N o0 M = some r) : Met l yX8_faultOf (Cond.code yX8_faultOf cX8_faultOf 2 (some .int) :: TB) (rmK 2 47) (PreW g M [rI g o0]) (PostI g r.1 r.2) 0 0 (Ad g) := by
  unfold f_X8_faultOf at hf
  refine met_of (nL := 2) (cc := cX8_faultOf) (M := M) (by decide +kernel) hj (Nat.le_of_ble_eq_true rfl) ?_
  intro p e s m below meth c ls C hr hlk hI hl
  have C : Cx g p s m _ c cX8_faultOf 2 "LentGalleryModel" := C
  have hl : lv_has ls 2 [(0, rI g o0)] := hl
  have hQ := ret_i (l := l) (e := e) (R := (rmK 2 47)) (below := below) (r := r) C hr hlk (nar_i _)
  generalize s.heap = H, ([] : List Loc) = locs at hI ⊢
  refine r_iconst C dX8_faultOf_0 ?_
  refine r_istore_n C hl (lv' := [(1, iI 0), (0, rI g o0)]) dX8_faultOf_1 rfl (Nat.le_of_ble_eq_true rfl) rfl (fun ls hl => ?_)
  exact t_X8_faultOf_2 h0 C hQ _ _ _ _ _ _ hf hI (lv_sub hl [1, 0] rfl)
/-! X8_fault -/
def f_X8_fault (N : Nat) (o0 : Nat) (M : Mem) : Option (Int × Mem) := bnd (f_X8_faultOf N o0 M) (fun r1 M1 => some (r1, M1))
theorem F_X8_fault : CalF yX8_fault cX8_fault 1 (some .int) 0 := ⟨w_668, w_9, by decide +kernel⟩
set_option maxRecDepth 100000 in
set_option maxHeartbeats 4000000 in
theorem c_X8_fault {l : Launch} {g : GP} (hj : Inj g) {N : Nat} {M : Mem} {o0 : Nat} (h0 : kd o0 = 8) {r : Int × Mem} (hf : f_X8_fault N o0 M = some r) : Met l yX8_fault (Cond.code yX8_fault cX8_fault 1 (some .int) :: TB) (rmK 3 68) (PreW g M [rI g o0]) (PostI g r.1 r.2) 0 0 (Ad g) := by
  unfold f_X8_fault at hf
  refine met_of (nL := 1) (cc := cX8_fault) (M := M) (by decide +kernel) hj (Nat.le_of_ble_eq_true rfl) ?_
  intro p e s m below meth c ls C hr hlk hI hl
  have C : Cx g p s m _ c cX8_fault 1 "LentGalleryModel" := C
  have hl : lv_has ls 1 [(0, rI g o0)] := hl
  have hQ := ret_i (l := l) (e := e) (R := (rmK 3 68)) (below := below) (r := r) C hr hlk (nar_i _)
  generalize s.heap = H, ([] : List Loc) = locs at hI ⊢
  refine r_aload_n C hl 0 dX8_fault_0 rfl rfl ?_
  refine r_calli (rest := []) hI hf (fun r M' h => run_V C hI F_X8_faultOf w_671 v_9 w_669 ⟨⟨Nat.le_of_ble_eq_true rfl, Nat.le_of_ble_eq_true rfl⟩, Nat.le_of_ble_eq_true rfl, Nat.le_of_ble_eq_true rfl⟩ (zX8 h0) (oX8 h0) rfl hl dX8_fault_1 [] rfl rfl (Nat.le_of_ble_eq_true rfl) (c_X8_faultOf C.2.2.2.2.2.2 h0 h)) (fun r1 M1 H locs hI hf => ?_)
  exact r_iret hQ hf hI dX8_fault_4
/-! X8_standing -/
def f_X8_standing_4 (N : Nat) (o0 : Nat) : Nat → Int → Int → Mem → Option (Int × Mem)
  | 0, _, _, _ => none
  | n + 1, v1, v2, M => gd (inR v2) (if 6 ≤ v2 then (some (v1, M)) else (gd (0 ≤ v2 ∧ v2 < 6) (gd (inR (M (ch o0 8) v2.toNat)) (if (M (ch o0 8) v2.toNat) ≤ 0 then (f_X8_standing_4 N o0 n (v1 + 0) (v2 + 1) M) else (f_X8_standing_4 N o0 n (v1 + 1) (v2 + 1) M)))))
def f_X8_standing (N : Nat) (o0 : Nat) (M : Mem) : Option (Int × Mem) := f_X8_standing_4 N o0 N 0 0 M
theorem F_X8_standing : CalF yX8_standing cX8_standing 3 (some .int) 0 := ⟨w_684, w_9, by decide +kernel⟩
set_option maxRecDepth 100000 in
set_option maxHeartbeats 4000000 in
theorem t_X8_standing_4 {g : GP} {p : Program} {l : Launch} {e : Env} {s : State} {m : MethodId} {args : Array Value} {below : List Frame} {meth : Method} {c : Code} {Q : State → Prop} {N : Nat} {o0 : Nat} (h0 : kd o0 = 8) (C : Cx g p s m args c cX8_standing 3 "LentGalleryModel") {r : Int × Mem} (hQ : RetI g p l e (rmK 0 0) s m args below meth c cX8_standing r Q) : ∀ (n : Nat) (v1 v2 : Int) (M : Mem) (H : Heap) (locs : List Loc) (ls : Array Slot), f_X8_standing_4 N o0 n v1 v2 M = some r → Inv g s M H locs → lv_has ls 3 [(0, rI g o0), (1, iI v1), (2, iI v2)] → W p l e (rmK 0 0) s m args below meth c H locs 0 0 Q (F0 m 4 ls []) := by
  intro n
  induction n with
  | zero =>
    intro v1 v2 M H locs ls hf hI hl
    cases hf
  | succ n ih =>
    intro v1 v2 M H locs ls hf hI hl
    rw [f_X8_standing_4] at hf
    refine r_iload_n C hl 2 dX8_standing_4 rfl rfl ?_
    refine r_bipush C dX8_standing_5 rfl ?_
    refine r_gd hf (fun q7_0 hf => ?_)
    refine r_ic_ge C q7_0 (by decide) (tgt := 33) dX8_standing_7 (by decide) hf (fun hf => ?_) (fun hf => ?_)
    · refine r_iload_n C hl 1 dX8_standing_33 rfl rfl ?_
      exact r_iret hQ hf hI dX8_standing_34
    · refine r_iload_n C hl 1 dX8_standing_10 rfl rfl ?_
      refine r_aload_n C hl 0 dX8_standing_11 rfl rfl ?_
      refine g_8_8 C hI h0 w_570 dX8_standing_12 ?_
      refine r_iload_n C hl 2 dX8_standing_15 rfl rfl ?_
      refine r_gd hf (fun q16_1 hf => ?_)
      refine r_iald C hI 6 (n := 6) (k_8_8 h0) (by decide) rfl q16_1 dX8_standing_16 ?_
      refine r_gd hf (fun q17_2 hf => ?_)
      refine r_if_le C q17_2 (tgt := 24) dX8_standing_17 (by decide) hf (fun hf => ?_) (fun hf => ?_)
      · refine r_iconst C dX8_standing_24 ?_
        refine r_iadd C dX8_standing_25 ?_
        refine r_istore_n C hl (lv' := [(1, iI (v1 + 0)), (0, rI g o0), (2, iI v2)]) dX8_standing_26 rfl (Nat.le_of_ble_eq_true rfl) rfl (fun ls hl => ?_)
        refine r_iinc C hl (lv' := [(2, iI (v2 + 1)), (1, iI (v1 + 0)), (0, rI g o0)]) 2 dX8_standing_27 rfl (Nat.le_of_ble_eq_true rfl) rfl (fun ls hl => ?_)
        refine r_goto C (tgt := 4) dX8_standing_30 (by decide) ?_
        exact ih _ _ _ _ _ _ hf hI (lv_sub hl [2, 1, 0] rfl)
      · refine r_iconst C dX8_standing_20 ?_
        refine r_goto C (tgt := 25) dX8_standing_21 (by decide) ?_
        refine r_iadd C dX8_standing_25 ?_
        refine r_istore_n C hl (lv' := [(1, iI (v1 + 1)), (0, rI g o0), (2, iI v2)]) dX8_standing_26 rfl (Nat.le_of_ble_eq_true rfl) rfl (fun ls hl => ?_)
        refine r_iinc C hl (lv' := [(2, iI (v2 + 1)), (1, iI (v1 + 1)), (0, rI g o0)]) 2 dX8_standing_27 rfl (Nat.le_of_ble_eq_true rfl) rfl (fun ls hl => ?_)
        refine r_goto C (tgt := 4) dX8_standing_30 (by decide) ?_
        exact ih _ _ _ _ _ _ hf hI (lv_sub hl [2, 1, 0] rfl)
set_option maxRecDepth 100000 in
set_option maxHeartbeats 4000000 in
theorem c_X8_standing {l : Launch} {g : GP} (hj : Inj g) {N : Nat} {M : Mem} {o0 : Nat} (h0 : kd o0 = 8) {r : Int × Mem} (hf : f_X8_standing N o0 M = some r) : Met l yX8_standing (Cond.code yX8_standing cX8_standing 3 (some .int) :: TB) (rmK 0 0) (PreW g M [rI g o0]) (PostI g r.1 r.2) 0 0 (Ad g) := by
  unfold f_X8_standing at hf
  refine met_of (nL := 3) (cc := cX8_standing) (M := M) (by decide +kernel) hj (Nat.le_of_ble_eq_true rfl) ?_
  intro p e s m below meth c ls C hr hlk hI hl
  have C : Cx g p s m _ c cX8_standing 3 "LentGalleryModel" := C
  have hl : lv_has ls 3 [(0, rI g o0)] := hl
  have hQ := ret_i (l := l) (e := e) (R := (rmK 0 0)) (below := below) (r := r) C hr hlk (nar_i _)
  generalize s.heap = H, ([] : List Loc) = locs at hI ⊢
  refine r_iconst C dX8_standing_0 ?_
  refine r_istore_n C hl (lv' := [(1, iI 0), (0, rI g o0)]) dX8_standing_1 rfl (Nat.le_of_ble_eq_true rfl) rfl (fun ls hl => ?_)
  refine r_iconst C dX8_standing_2 ?_
  refine r_istore_n C hl (lv' := [(2, iI 0), (1, iI 0), (0, rI g o0)]) dX8_standing_3 rfl (Nat.le_of_ble_eq_true rfl) rfl (fun ls hl => ?_)
  exact t_X8_standing_4 h0 C hQ _ _ _ _ _ _ _ hf hI (lv_sub hl [2, 1, 0] rfl)
/-! X8_gallery -/
def f_X8_gallery_23 (N : Nat) (o0 : Nat) : Nat → Int → Mem → Option (Int × Mem)
  | 0, _, _ => none
  | n + 1, v1, M => gd (inR v1) (if 6 ≤ v1 then (bnd (f_X8_standing N o0 (st (st (st (st (st (st (st (st (st M o0 2 ((M (ch o0 0) 7) - 48)) o0 3 (((st M o0 2 ((M (ch o0 0) 7) - 48)) (ch o0 0) 8) - 48)) o0 4 0) o0 5 0) o0 6 0) o0 9 0) o0 16 0) o0 7 (((st (st (st (st (st (st (st M o0 2 ((M (ch o0 0) 7) - 48)) o0 3 (((st M o0 2 ((M (ch o0 0) 7) - 48)) (ch o0 0) 8) - 48)) o0 4 0) o0 5 0) o0 6 0) o0 9 0) o0 16 0) o0 7) + 1)) o0 1 0)) (fun r119 M119 => some (r119, M119))) else (gd (0 ≤ v1 ∧ v1 < 12) (gd (0 ≤ v1 ∧ v1 < 6) (f_X8_gallery_23 N o0 n (v1 + 1) (st M (ch o0 8) v1.toNat ((M (ch o0 0) v1.toNat) - 48))))))
def f_X8_gallery (N : Nat) (o0 : Nat) (M : Mem) : Option (Int × Mem) := gd (inR (M o0 1)) (if (M o0 1) = 9 then (bnd (f_X8_faultOf N o0 M) (fun r10 M10 => gd (inR r10) (if 9 ≤ r10 then (f_X8_gallery_23 N o0 N 0 M10) else (some (-103, M10))))) else (some (-103, M)))
theorem F_X8_gallery : CalF yX8_gallery cX8_gallery 2 (some .int) 0 := ⟨w_680, w_9, by decide +kernel⟩
set_option maxRecDepth 100000 in
set_option maxHeartbeats 4000000 in
theorem t_X8_gallery_23 {g : GP} {p : Program} {l : Launch} {e : Env} {s : State} {m : MethodId} {args : Array Value} {below : List Frame} {meth : Method} {c : Code} {Q : State → Prop} {N : Nat} {o0 : Nat} (h0 : kd o0 = 8) (C : Cx g p s m args c cX8_gallery 2 "LentGalleryModel") {r : Int × Mem} (hQ : RetI g p l e (rmK 3 68) s m args below meth c cX8_gallery r Q) : ∀ (n : Nat) (v1 : Int) (M : Mem) (H : Heap) (locs : List Loc) (ls : Array Slot), f_X8_gallery_23 N o0 n v1 M = some r → Inv g s M H locs → lv_has ls 2 [(0, rI g o0), (1, iI v1)] → W p l e (rmK 3 68) s m args below meth c H locs 0 0 Q (F0 m 23 ls []) := by
  intro n
  induction n with
  | zero =>
    intro v1 M H locs ls hf hI hl
    cases hf
  | succ n ih =>
    intro v1 M H locs ls hf hI hl
    rw [f_X8_gallery_23] at hf
    refine r_iload_n C hl 1 dX8_gallery_23 rfl rfl ?_
    refine r_bipush C dX8_gallery_24 rfl ?_
    refine r_gd hf (fun q26_0 hf => ?_)
    refine r_ic_ge C q26_0 (by decide) (tgt := 50) dX8_gallery_26 (by decide) hf (fun hf => ?_) (fun hf => ?_)
    · refine r_aload_n C hl 0 dX8_gallery_50 rfl rfl ?_
      refine r_aload_n C hl 0 dX8_gallery_51 rfl rfl ?_
      refine g_8_0 C hI h0 w_562 dX8_gallery_52 ?_
      refine r_bipush C dX8_gallery_55 rfl ?_
      refine r_iald C hI 12 (n := 12) (k_8_0 h0) (by decide) rfl (by decide) dX8_gallery_57 ?_
      refine r_bipush C dX8_gallery_58 rfl ?_
      refine r_isub C dX8_gallery_60 ?_
      refine p_8_2 C hI h0 w_564 dX8_gallery_61 (fun H locs hI => ?_)
      refine r_aload_n C hl 0 dX8_gallery_64 rfl rfl ?_
      refine r_aload_n C hl 0 dX8_gallery_65 rfl rfl ?_
      refine g_8_0 C hI h0 w_562 dX8_gallery_66 ?_
      refine r_bipush C dX8_gallery_69 rfl ?_
      refine r_iald C hI 12 (n := 12) (k_8_0 h0) (by decide) rfl (by decide) dX8_gallery_71 ?_
      refine r_bipush C dX8_gallery_72 rfl ?_
      refine r_isub C dX8_gallery_74 ?_
      refine p_8_3 C hI h0 w_565 dX8_gallery_75 (fun H locs hI => ?_)
      refine r_aload_n C hl 0 dX8_gallery_78 rfl rfl ?_
      refine r_iconst C dX8_gallery_79 ?_
      refine p_8_4 C hI h0 w_566 dX8_gallery_80 (fun H locs hI => ?_)
      refine r_aload_n C hl 0 dX8_gallery_83 rfl rfl ?_
      refine r_iconst C dX8_gallery_84 ?_
      refine p_8_5 C hI h0 w_567 dX8_gallery_85 (fun H locs hI => ?_)
      refine r_aload_n C hl 0 dX8_gallery_88 rfl rfl ?_
      refine r_iconst C dX8_gallery_89 ?_
      refine p_8_6 C hI h0 w_568 dX8_gallery_90 (fun H locs hI => ?_)
      refine r_aload_n C hl 0 dX8_gallery_93 rfl rfl ?_
      refine r_iconst C dX8_gallery_94 ?_
      refine p_8_9 C hI h0 w_571 dX8_gallery_95 (fun H locs hI => ?_)
      refine r_aload_n C hl 0 dX8_gallery_98 rfl rfl ?_
      refine r_iconst C dX8_gallery_99 ?_
      refine p_8_16 C hI h0 w_578 dX8_gallery_100 (fun H locs hI => ?_)
      refine r_aload_n C hl 0 dX8_gallery_103 rfl rfl ?_
      refine r_dup C dX8_gallery_104 rfl ?_
      refine g_8_7 C hI h0 w_569 dX8_gallery_105 ?_
      refine r_iconst C dX8_gallery_108 ?_
      refine r_iadd C dX8_gallery_109 ?_
      refine p_8_7 C hI h0 w_569 dX8_gallery_110 (fun H locs hI => ?_)
      refine r_aload_n C hl 0 dX8_gallery_113 rfl rfl ?_
      refine r_iconst C dX8_gallery_114 ?_
      refine p_8_1 C hI h0 w_563 dX8_gallery_115 (fun H locs hI => ?_)
      refine r_aload_n C hl 0 dX8_gallery_118 rfl rfl ?_
      refine r_calli (rest := []) hI hf (fun r M' h => run_V C hI F_X8_standing w_683 v_10 w_681 ⟨⟨Nat.le_of_ble_eq_true rfl, Nat.le_of_ble_eq_true rfl⟩, Nat.le_of_ble_eq_true rfl, Nat.le_of_ble_eq_true rfl⟩ (zX8 h0) (oX8 h0) rfl hl dX8_gallery_119 [] rfl rfl (Nat.le_of_ble_eq_true rfl) (c_X8_standing C.2.2.2.2.2.2 h0 h)) (fun r119 M119 H locs hI hf => ?_)
      exact r_iret hQ hf hI dX8_gallery_122
    · refine r_aload_n C hl 0 dX8_gallery_29 rfl rfl ?_
      refine g_8_8 C hI h0 w_570 dX8_gallery_30 ?_
      refine r_iload_n C hl 1 dX8_gallery_33 rfl rfl ?_
      refine r_aload_n C hl 0 dX8_gallery_34 rfl rfl ?_
      refine g_8_0 C hI h0 w_562 dX8_gallery_35 ?_
      refine r_iload_n C hl 1 dX8_gallery_38 rfl rfl ?_
      refine r_gd hf (fun q39_1 hf => ?_)
      refine r_iald C hI 12 (n := 12) (k_8_0 h0) (by decide) rfl q39_1 dX8_gallery_39 ?_
      refine r_bipush C dX8_gallery_40 rfl ?_
      refine r_isub C dX8_gallery_42 ?_
      refine r_gd hf (fun q43_2 hf => ?_)
      refine r_iast C hI 6 (n := 6) (k_8_8 h0) (by decide) rfl q43_2 dX8_gallery_43 (fun H locs hI => ?_)
      refine r_iinc C hl (lv' := [(1, iI (v1 + 1)), (0, rI g o0)]) 1 dX8_gallery_44 rfl (Nat.le_of_ble_eq_true rfl) rfl (fun ls hl => ?_)
      refine r_goto C (tgt := 23) dX8_gallery_47 (by decide) ?_
      exact ih _ _ _ _ _ hf hI (lv_sub hl [1, 0] rfl)
set_option maxRecDepth 100000 in
set_option maxHeartbeats 4000000 in
theorem c_X8_gallery {l : Launch} {g : GP} (hj : Inj g) {N : Nat} {M : Mem} {o0 : Nat} (h0 : kd o0 = 8) {r : Int × Mem} (hf : f_X8_gallery N o0 M = some r) : Met l yX8_gallery (Cond.code yX8_gallery cX8_gallery 2 (some .int) :: TB) (rmK 3 68) (PreW g M [rI g o0]) (PostI g r.1 r.2) 0 0 (Ad g) := by
  unfold f_X8_gallery at hf
  refine met_of (nL := 2) (cc := cX8_gallery) (M := M) (by decide +kernel) hj (Nat.le_of_ble_eq_true rfl) ?_
  intro p e s m below meth c ls C hr hlk hI hl
  have C : Cx g p s m _ c cX8_gallery 2 "LentGalleryModel" := C
  have hl : lv_has ls 2 [(0, rI g o0)] := hl
  have hQ := ret_i (l := l) (e := e) (R := (rmK 3 68)) (below := below) (r := r) C hr hlk (nar_i _)
  generalize s.heap = H, ([] : List Loc) = locs at hI ⊢
  refine r_aload_n C hl 0 dX8_gallery_0 rfl rfl ?_
  refine g_8_1 C hI h0 w_563 dX8_gallery_1 ?_
  refine r_bipush C dX8_gallery_4 rfl ?_
  refine r_gd hf (fun q6_0 hf => ?_)
  refine r_ic_ne C q6_0 (by decide) (tgt := 18) dX8_gallery_6 (by decide) hf (fun hf => ?_) (fun hf => ?_)
  · refine r_bipush C dX8_gallery_18 rfl ?_
    exact r_iret hQ hf hI dX8_gallery_20
  · refine r_aload_n C hl 0 dX8_gallery_9 rfl rfl ?_
    refine r_calli (rest := []) hI hf (fun r M' h => run_V C hI F_X8_faultOf w_671 v_9 w_669 ⟨⟨Nat.le_of_ble_eq_true rfl, Nat.le_of_ble_eq_true rfl⟩, Nat.le_of_ble_eq_true rfl, Nat.le_of_ble_eq_true rfl⟩ (zX8 h0) (oX8 h0) rfl hl dX8_gallery_10 [] rfl rfl (Nat.le_of_ble_eq_true rfl) (c_X8_faultOf C.2.2.2.2.2.2 h0 h)) (fun r10 M10 H locs hI hf => ?_)
    refine r_bipush C dX8_gallery_13 rfl ?_
    refine r_gd hf (fun q15_1 hf => ?_)
    refine r_ic_ge C q15_1 (by decide) (tgt := 21) dX8_gallery_15 (by decide) hf (fun hf => ?_) (fun hf => ?_)
    · refine r_iconst C dX8_gallery_21 ?_
      refine r_istore_n C hl (lv' := [(1, iI 0), (0, rI g o0)]) dX8_gallery_22 rfl (Nat.le_of_ble_eq_true rfl) rfl (fun ls hl => ?_)
      exact t_X8_gallery_23 h0 C hQ _ _ _ _ _ _ hf hI (lv_sub hl [1, 0] rfl)
    · refine r_bipush C dX8_gallery_18 rfl ?_
      exact r_iret hQ hf hI dX8_gallery_20
/-! X8_lacks -/
def f_X8_lacks (N : Nat) (o0 : Nat) (M : Mem) : Option (Int × Mem) := gd (inR (M o0 3)) (if (M o0 3) = 0 then (some (1, M)) else (some (0, M)))
theorem F_X8_lacks : CalF yX8_lacks cX8_lacks 1 (some .boolean) 0 := ⟨w_696, w_9, by decide +kernel⟩
set_option maxRecDepth 100000 in
set_option maxHeartbeats 4000000 in
theorem c_X8_lacks {l : Launch} {g : GP} (hj : Inj g) {N : Nat} {M : Mem} {o0 : Nat} (h0 : kd o0 = 8) {r : Int × Mem} (hf : f_X8_lacks N o0 M = some r) : Met l yX8_lacks (Cond.code yX8_lacks cX8_lacks 1 (some .boolean) :: TB) (rmK 0 0) (PreW g M [rI g o0]) (PostI g r.1 r.2) 0 0 (Ad g) := by
  unfold f_X8_lacks at hf
  refine met_of (nL := 1) (cc := cX8_lacks) (M := M) (by decide +kernel) hj (Nat.le_of_ble_eq_true rfl) ?_
  intro p e s m below meth c ls C hr hlk hI hl
  have C : Cx g p s m _ c cX8_lacks 1 "LentGalleryModel" := C
  have hl : lv_has ls 1 [(0, rI g o0)] := hl
  have hQ := ret_z (l := l) (e := e) (R := (rmK 0 0)) (below := below) (r := r) C hr hlk
  generalize s.heap = H, ([] : List Loc) = locs at hI ⊢
  refine r_aload_n C hl 0 dX8_lacks_0 rfl rfl ?_
  refine g_8_3 C hI h0 w_565 dX8_lacks_1 ?_
  refine r_gd hf (fun q4_0 hf => ?_)
  refine r_if_ne C q4_0 (tgt := 11) dX8_lacks_4 (by decide) hf (fun hf => ?_) (fun hf => ?_)
  · refine r_iconst C dX8_lacks_11 ?_
    exact r_zret hQ (by decide) hf hI dX8_lacks_12
  · refine r_iconst C dX8_lacks_7 ?_
    refine r_goto C (tgt := 12) dX8_lacks_8 (by decide) ?_
    exact r_zret hQ (by decide) hf hI dX8_lacks_12
/-! X8_isPlace -/
def f_X8_isPlace (N : Nat) (o0 : Nat) (v1 : Int) (M : Mem) : Option (Int × Mem) := bnd (f_X8_lacks N o0 M) (fun r1 M1 => gd (inR r1) (if r1 = 0 then (gd (inR v1) (bnd (f_X8_in N v1 0 5 M1) (fun r13 M13 => gd (inR r13) (if r13 = 0 then (some (0, M13)) else (some (1, M13)))))) else (some (0, M1))))
theorem F_X8_isPlace : CalF yX8_isPlace cX8_isPlace 2 (some .boolean) 1 := ⟨w_692, w_9, by decide +kernel⟩
set_option maxRecDepth 100000 in
set_option maxHeartbeats 4000000 in
theorem c_X8_isPlace {l : Launch} {g : GP} (hj : Inj g) {N : Nat} {M : Mem} {o0 : Nat} {v1 : Int} (h0 : kd o0 = 8) {r : Int × Mem} (hf : f_X8_isPlace N o0 v1 M = some r) : Met l yX8_isPlace (Cond.code yX8_isPlace cX8_isPlace 2 (some .boolean) :: TB) (rmK 1 25) (PreW g M [rI g o0, iI v1]) (PostI g r.1 r.2) 0 0 (Ad g) := by
  unfold f_X8_isPlace at hf
  refine met_of (nL := 2) (cc := cX8_isPlace) (M := M) (by decide +kernel) hj (Nat.le_of_ble_eq_true rfl) ?_
  intro p e s m below meth c ls C hr hlk hI hl
  have C : Cx g p s m _ c cX8_isPlace 2 "LentGalleryModel" := C
  have hl : lv_has ls 2 [(0, rI g o0), (1, iI v1)] := hl
  have hQ := ret_z (l := l) (e := e) (R := (rmK 1 25)) (below := below) (r := r) C hr hlk
  generalize s.heap = H, ([] : List Loc) = locs at hI ⊢
  refine r_aload_n C hl 0 dX8_isPlace_0 rfl rfl ?_
  refine r_calli (rest := []) hI hf (fun r M' h => run_V C hI F_X8_lacks w_695 v_12 w_693 ⟨⟨Nat.le_of_ble_eq_true rfl, Nat.le_of_ble_eq_true rfl⟩, Nat.le_of_ble_eq_true rfl, Nat.le_of_ble_eq_true rfl⟩ (zX8 h0) (oX8 h0) rfl hl dX8_isPlace_1 [] rfl rfl (Nat.le_of_ble_eq_true rfl) (c_X8_lacks C.2.2.2.2.2.2 h0 h)) (fun r1 M1 H locs hI hf => ?_)
  refine r_gd hf (fun q4_0 hf => ?_)
  refine r_if_ne C q4_0 (tgt := 23) dX8_isPlace_4 (by decide) hf (fun hf => ?_) (fun hf => ?_)
  · refine r_iconst C dX8_isPlace_23 ?_
    exact r_zret hQ (by decide) hf hI dX8_isPlace_24
  · refine r_iload_n C hl 1 dX8_isPlace_7 rfl rfl ?_
    refine r_gd hf (fun q8_1 hf => ?_)
    refine r_i2l C q8_1 dX8_isPlace_8 ?_
    refine r_lconst C (v := 0) dX8_isPlace_9 rfl ?_
    refine r_ldc2 C (n := 5) w_697 rfl dX8_isPlace_10 ?_
    refine r_calli (rest := []) hI hf (fun r M' h => run_S C hI F_X8_in w_659 w_658 ⟨⟨Nat.le_of_ble_eq_true rfl, Nat.le_of_ble_eq_true rfl⟩, Nat.le_of_ble_eq_true rfl, Nat.le_of_ble_eq_true rfl⟩ hl dX8_isPlace_13 [lI v1, lI 0, lI 5] rfl rfl (Nat.le_of_ble_eq_true rfl) (c_X8_in C.2.2.2.2.2.2 h)) (fun r13 M13 H locs hI hf => ?_)
    refine r_gd hf (fun q16_2 hf => ?_)
    refine r_if_eq C q16_2 (tgt := 23) dX8_isPlace_16 (by decide) hf (fun hf => ?_) (fun hf => ?_)
    · refine r_iconst C dX8_isPlace_23 ?_
      exact r_zret hQ (by decide) hf hI dX8_isPlace_24
    · refine r_iconst C dX8_isPlace_19 ?_
      refine r_goto C (tgt := 24) dX8_isPlace_20 (by decide) ?_
      exact r_zret hQ (by decide) hf hI dX8_isPlace_24
/-! X8_isTenant -/
def f_X8_isTenant (N : Nat) (o0 : Nat) (v1 : Int) (M : Mem) : Option (Int × Mem) := gd (inR v1) (gd (inR ((M o0 9) - 1)) (bnd (f_X8_in N v1 0 ((M o0 9) - 1) M) (fun r10 M10 => gd (r10 = 0 ∨ r10 = 1) (some (r10, M10)))))
theorem F_X8_isTenant : CalF yX8_isTenant cX8_isTenant 2 (some .boolean) 1 := ⟨w_759, w_9, by decide +kernel⟩
set_option maxRecDepth 100000 in
set_option maxHeartbeats 4000000 in
theorem c_X8_isTenant {l : Launch} {g : GP} (hj : Inj g) {N : Nat} {M : Mem} {o0 : Nat} {v1 : Int} (h0 : kd o0 = 8) {r : Int × Mem} (hf : f_X8_isTenant N o0 v1 M = some r) : Met l yX8_isTenant (Cond.code yX8_isTenant cX8_isTenant 2 (some .boolean) :: TB) (rmK 1 25) (PreW g M [rI g o0, iI v1]) (PostI g r.1 r.2) 0 0 (Ad g) := by
  unfold f_X8_isTenant at hf
  refine met_of (nL := 2) (cc := cX8_isTenant) (M := M) (by decide +kernel) hj (Nat.le_of_ble_eq_true rfl) ?_
  intro p e s m below meth c ls C hr hlk hI hl
  have C : Cx g p s m _ c cX8_isTenant 2 "LentGalleryModel" := C
  have hl : lv_has ls 2 [(0, rI g o0), (1, iI v1)] := hl
  have hQ := ret_z (l := l) (e := e) (R := (rmK 1 25)) (below := below) (r := r) C hr hlk
  generalize s.heap = H, ([] : List Loc) = locs at hI ⊢
  refine r_iload_n C hl 1 dX8_isTenant_0 rfl rfl ?_
  refine r_gd hf (fun q1_0 hf => ?_)
  refine r_i2l C q1_0 dX8_isTenant_1 ?_
  refine r_lconst C (v := 0) dX8_isTenant_2 rfl ?_
  refine r_aload_n C hl 0 dX8_isTenant_3 rfl rfl ?_
  refine g_8_9 C hI h0 w_571 dX8_isTenant_4 ?_
  refine r_iconst C dX8_isTenant_7 ?_
  refine r_isub C dX8_isTenant_8 ?_
  refine r_gd hf (fun q9_1 hf => ?_)
  refine r_i2l C q9_1 dX8_isTenant_9 ?_
  refine r_calli (rest := []) hI hf (fun r M' h => run_S C hI F_X8_in w_659 w_658 ⟨⟨Nat.le_of_ble_eq_true rfl, Nat.le_of_ble_eq_true rfl⟩, Nat.le_of_ble_eq_true rfl, Nat.le_of_ble_eq_true rfl⟩ hl dX8_isTenant_10 [lI v1, lI 0, lI ((M o0 9) - 1)] rfl rfl (Nat.le_of_ble_eq_true rfl) (c_X8_in C.2.2.2.2.2.2 h)) (fun r10 M10 H locs hI hf => ?_)
  refine r_gd hf (fun q13_2 hf => ?_)
  exact r_zret hQ q13_2 hf hI dX8_isTenant_13
/-! X8_weightBy -/
def f_X8_weightBy (N : Nat) (v0 : Int) (M : Mem) : Option (Int × Mem) := gd (inR v0) (if v0 = 1 then (some (2, M)) else (if v0 = 2 then (some (0, M)) else (if v0 = 4 then (some (4, M)) else (some (1, M)))))
theorem F_X8_weightBy : CalF yX8_weightBy cX8_weightBy 1 (some .int) 1 := ⟨w_715, w_9, by decide +kernel⟩
set_option maxRecDepth 100000 in
set_option maxHeartbeats 4000000 in
theorem c_X8_weightBy {l : Launch} {g : GP} (hj : Inj g) {N : Nat} {M : Mem} {v0 : Int} {r : Int × Mem} (hf : f_X8_weightBy N v0 M = some r) : Met l yX8_weightBy (Cond.code yX8_weightBy cX8_weightBy 1 (some .int) :: TB) (rmK 0 0) (PreW g M [iI v0]) (PostI g r.1 r.2) 0 0 (Ad g) := by
  unfold f_X8_weightBy at hf
  refine met_of (nL := 1) (cc := cX8_weightBy) (M := M) (by decide +kernel) hj (Nat.le_of_ble_eq_true rfl) ?_
  intro p e s m below meth c ls C hr hlk hI hl
  have C : Cx g p s m _ c cX8_weightBy 1 "LentGalleryModel" := C
  have hl : lv_has ls 1 [(0, iI v0)] := hl
  have hQ := ret_i (l := l) (e := e) (R := (rmK 0 0)) (below := below) (r := r) C hr hlk (nar_i _)
  generalize s.heap = H, ([] : List Loc) = locs at hI ⊢
  refine r_iload_n C hl 0 dX8_weightBy_0 rfl rfl ?_
  refine r_iconst C dX8_weightBy_1 ?_
  refine r_gd hf (fun q2_0 hf => ?_)
  refine r_ic_ne C q2_0 (by decide) (tgt := 9) dX8_weightBy_2 (by decide) hf (fun hf => ?_) (fun hf => ?_)
  · refine r_iload_n C hl 0 dX8_weightBy_9 rfl rfl ?_
    refine r_iconst C dX8_weightBy_10 ?_
    refine r_ic_ne C q2_0 (by decide) (tgt := 18) dX8_weightBy_11 (by decide) hf (fun hf => ?_) (fun hf => ?_)
    · refine r_iload_n C hl 0 dX8_weightBy_18 rfl rfl ?_
      refine r_iconst C dX8_weightBy_19 ?_
      refine r_ic_ne C q2_0 (by decide) (tgt := 27) dX8_weightBy_20 (by decide) hf (fun hf => ?_) (fun hf => ?_)
      · refine r_iconst C dX8_weightBy_27 ?_
        exact r_iret hQ hf hI dX8_weightBy_28
      · refine r_iconst C dX8_weightBy_23 ?_
        refine r_goto C (tgt := 28) dX8_weightBy_24 (by decide) ?_
        exact r_iret hQ hf hI dX8_weightBy_28
    · refine r_iconst C dX8_weightBy_14 ?_
      refine r_goto C (tgt := 28) dX8_weightBy_15 (by decide) ?_
      exact r_iret hQ hf hI dX8_weightBy_28
  · refine r_iconst C dX8_weightBy_5 ?_
    refine r_goto C (tgt := 28) dX8_weightBy_6 (by decide) ?_
    exact r_iret hQ hf hI dX8_weightBy_28
/-! X8_breathBy -/
def f_X8_breathBy (N : Nat) (v0 : Int) (M : Mem) : Option (Int × Mem) := gd (inR v0) (if v0 = 1 then (some (3, M)) else (if v0 = 4 then (some (3, M)) else (if v0 = 3 then (some (2, M)) else (some (1, M)))))
theorem F_X8_breathBy : CalF yX8_breathBy cX8_breathBy 1 (some .int) 1 := ⟨w_766, w_9, by decide +kernel⟩
set_option maxRecDepth 100000 in
set_option maxHeartbeats 4000000 in
theorem c_X8_breathBy {l : Launch} {g : GP} (hj : Inj g) {N : Nat} {M : Mem} {v0 : Int} {r : Int × Mem} (hf : f_X8_breathBy N v0 M = some r) : Met l yX8_breathBy (Cond.code yX8_breathBy cX8_breathBy 1 (some .int) :: TB) (rmK 0 0) (PreW g M [iI v0]) (PostI g r.1 r.2) 0 0 (Ad g) := by
  unfold f_X8_breathBy at hf
  refine met_of (nL := 1) (cc := cX8_breathBy) (M := M) (by decide +kernel) hj (Nat.le_of_ble_eq_true rfl) ?_
  intro p e s m below meth c ls C hr hlk hI hl
  have C : Cx g p s m _ c cX8_breathBy 1 "LentGalleryModel" := C
  have hl : lv_has ls 1 [(0, iI v0)] := hl
  have hQ := ret_i (l := l) (e := e) (R := (rmK 0 0)) (below := below) (r := r) C hr hlk (nar_i _)
  generalize s.heap = H, ([] : List Loc) = locs at hI ⊢
  refine r_iload_n C hl 0 dX8_breathBy_0 rfl rfl ?_
  refine r_iconst C dX8_breathBy_1 ?_
  refine r_gd hf (fun q2_0 hf => ?_)
  refine r_ic_eq C q2_0 (by decide) (tgt := 10) dX8_breathBy_2 (by decide) hf (fun hf => ?_) (fun hf => ?_)
  · refine r_iconst C dX8_breathBy_10 ?_
    refine r_goto C (tgt := 24) dX8_breathBy_11 (by decide) ?_
    exact r_iret hQ hf hI dX8_breathBy_24
  · refine r_iload_n C hl 0 dX8_breathBy_5 rfl rfl ?_
    refine r_iconst C dX8_breathBy_6 ?_
    refine r_ic_ne C q2_0 (by decide) (tgt := 14) dX8_breathBy_7 (by decide) hf (fun hf => ?_) (fun hf => ?_)
    · refine r_iload_n C hl 0 dX8_breathBy_14 rfl rfl ?_
      refine r_iconst C dX8_breathBy_15 ?_
      refine r_ic_ne C q2_0 (by decide) (tgt := 23) dX8_breathBy_16 (by decide) hf (fun hf => ?_) (fun hf => ?_)
      · refine r_iconst C dX8_breathBy_23 ?_
        exact r_iret hQ hf hI dX8_breathBy_24
      · refine r_iconst C dX8_breathBy_19 ?_
        refine r_goto C (tgt := 24) dX8_breathBy_20 (by decide) ?_
        exact r_iret hQ hf hI dX8_breathBy_24
    · refine r_iconst C dX8_breathBy_10 ?_
      refine r_goto C (tgt := 24) dX8_breathBy_11 (by decide) ?_
      exact r_iret hQ hf hI dX8_breathBy_24
/-! X8_asItIs -/
def f_X8_asItIs_13 (N : Nat) (o0 : Nat) : Nat → Int → Mem → Option (Mem)
  | 0, _, _ => none
  | n + 1, v1, M => gd (inR v1) (gd (inR (M o0 9)) (if (M o0 9) ≤ v1 then (some M) else (gd (0 ≤ ((2 * v1) + 1) ∧ ((2 * v1) + 1) < 10) (gd (0 ≤ v1 ∧ v1 < 5) (f_X8_asItIs_13 N o0 n (v1 + 1) (st M (ch o0 11) v1.toNat (M (ch o0 10) ((2 * v1) + 1).toNat)))))))
def f_X8_asItIs (N : Nat) (o0 : Nat) (M : Mem) : Option (Mem) := bnv (f_X8_copy N (ch o0 8) (ch o0 12) M) (fun M8 => f_X8_asItIs_13 N o0 N 0 M8)
theorem F_X8_asItIs : CalF yX8_asItIs cX8_asItIs 2 none 0 := ⟨w_705, w_9, by decide +kernel⟩
set_option maxRecDepth 100000 in
set_option maxHeartbeats 4000000 in
theorem t_X8_asItIs_13 {g : GP} {p : Program} {l : Launch} {e : Env} {s : State} {m : MethodId} {args : Array Value} {below : List Frame} {meth : Method} {c : Code} {Q : State → Prop} {N : Nat} {o0 : Nat} (h0 : kd o0 = 8) (C : Cx g p s m args c cX8_asItIs 2 "LentGalleryModel") {r : Mem} (hQ : RetV g p l e (rmK 1 22) s m args below meth c cX8_asItIs r Q) : ∀ (n : Nat) (v1 : Int) (M : Mem) (H : Heap) (locs : List Loc) (ls : Array Slot), f_X8_asItIs_13 N o0 n v1 M = some r → Inv g s M H locs → lv_has ls 2 [(0, rI g o0), (1, iI v1)] → W p l e (rmK 1 22) s m args below meth c H locs 0 0 Q (F0 m 13 ls []) := by
  intro n
  induction n with
  | zero =>
    intro v1 M H locs ls hf hI hl
    cases hf
  | succ n ih =>
    intro v1 M H locs ls hf hI hl
    rw [f_X8_asItIs_13] at hf
    refine r_iload_n C hl 1 dX8_asItIs_13 rfl rfl ?_
    refine r_aload_n C hl 0 dX8_asItIs_14 rfl rfl ?_
    refine g_8_9 C hI h0 w_571 dX8_asItIs_15 ?_
    refine r_gd hf (fun q18_0 hf => ?_)
    refine r_gd hf (fun q18_1 hf => ?_)
    refine r_ic_ge C q18_0 q18_1 (tgt := 43) dX8_asItIs_18 (by decide) hf (fun hf => ?_) (fun hf => ?_)
    · exact r_vret hQ hf hI dX8_asItIs_43
    · refine r_aload_n C hl 0 dX8_asItIs_21 rfl rfl ?_
      refine g_8_11 C hI h0 w_573 dX8_asItIs_22 ?_
      refine r_iload_n C hl 1 dX8_asItIs_25 rfl rfl ?_
      refine r_aload_n C hl 0 dX8_asItIs_26 rfl rfl ?_
      refine g_8_10 C hI h0 w_572 dX8_asItIs_27 ?_
      refine r_iconst C dX8_asItIs_30 ?_
      refine r_iload_n C hl 1 dX8_asItIs_31 rfl rfl ?_
      refine r_imul C dX8_asItIs_32 ?_
      refine r_iconst C dX8_asItIs_33 ?_
      refine r_iadd C dX8_asItIs_34 ?_
      refine r_gd hf (fun q35_2 hf => ?_)
      refine r_iald C hI 10 (n := 10) (k_8_10 h0) (by decide) rfl q35_2 dX8_asItIs_35 ?_
      refine r_gd hf (fun q36_3 hf => ?_)
      refine r_iast C hI 5 (n := 5) (k_8_11 h0) (by decide) rfl q36_3 dX8_asItIs_36 (fun H locs hI => ?_)
      refine r_iinc C hl (lv' := [(1, iI (v1 + 1)), (0, rI g o0)]) 1 dX8_asItIs_37 rfl (Nat.le_of_ble_eq_true rfl) rfl (fun ls hl => ?_)
      refine r_goto C (tgt := 13) dX8_asItIs_40 (by decide) ?_
      exact ih _ _ _ _ _ hf hI (lv_sub hl [1, 0] rfl)
set_option maxRecDepth 100000 in
set_option maxHeartbeats 4000000 in
theorem c_X8_asItIs {l : Launch} {g : GP} (hj : Inj g) {N : Nat} {M : Mem} {o0 : Nat} (h0 : kd o0 = 8) {r : Mem} (hf : f_X8_asItIs N o0 M = some r) : Met l yX8_asItIs (Cond.code yX8_asItIs cX8_asItIs 2 none :: TB) (rmK 1 22) (PreW g M [rI g o0]) (PostV g r) 0 0 (Ad g) := by
  unfold f_X8_asItIs at hf
  refine met_of (nL := 2) (cc := cX8_asItIs) (M := M) (by decide +kernel) hj (Nat.le_of_ble_eq_true rfl) ?_
  intro p e s m below meth c ls C hr hlk hI hl
  have C : Cx g p s m _ c cX8_asItIs 2 "LentGalleryModel" := C
  have hl : lv_has ls 2 [(0, rI g o0)] := hl
  have hQ := ret_v (l := l) (e := e) (R := (rmK 1 22)) (below := below) (r := r) C hr hlk
  generalize s.heap = H, ([] : List Loc) = locs at hI ⊢
  refine r_aload_n C hl 0 dX8_asItIs_0 rfl rfl ?_
  refine g_8_8 C hI h0 w_570 dX8_asItIs_1 ?_
  refine r_aload_n C hl 0 dX8_asItIs_4 rfl rfl ?_
  refine g_8_12 C hI h0 w_574 dX8_asItIs_5 ?_
  refine r_callv (rest := []) hI hf (fun M' h => run_S C hI F_X8_copy w_707 w_706 ⟨⟨Nat.le_of_ble_eq_true rfl, Nat.le_of_ble_eq_true rfl⟩, Nat.le_of_ble_eq_true rfl, Nat.le_of_ble_eq_true rfl⟩ hl dX8_asItIs_8 [rI g (ch o0 8), rI g (ch o0 12)] rfl rfl (Nat.le_of_ble_eq_true rfl) (c_X8_copy C.2.2.2.2.2.2 (isA_k (k_8_8 h0) (by decide) (by decide)) (isA_k (k_8_12 h0) (by decide) (by decide)) h)) (fun M8 H locs hI hf => ?_)
  refine r_iconst C dX8_asItIs_11 ?_
  refine r_istore_n C hl (lv' := [(1, iI 0), (0, rI g o0)]) dX8_asItIs_12 rfl (Nat.le_of_ble_eq_true rfl) rfl (fun ls hl => ?_)
  exact t_X8_asItIs_13 h0 C hQ _ _ _ _ _ _ hf hI (lv_sub hl [1, 0] rfl)
/-! X8_weightIn -/
def f_X8_weightIn_4 (N : Nat) (o0 : Nat) (v1 : Int) : Nat → Int → Int → Mem → Option (Int × Mem)
  | 0, _, _, _ => none
  | n + 1, v2, v3, M => gd (inR v3) (gd (inR (M o0 9)) (if (M o0 9) ≤ v3 then (some (v2, M)) else (gd (0 ≤ v3 ∧ v3 < 5) (gd (inR (M (ch o0 11) v3.toNat)) (gd (inR v1) (if (M (ch o0 11) v3.toNat) = v1 then (gd (0 ≤ (2 * v3) ∧ (2 * v3) < 10) (bnd (f_X8_weightBy N (M (ch o0 10) (2 * v3).toNat) M) (fun r31 M31 => f_X8_weightIn_4 N o0 v1 n (v2 + r31) (v3 + 1) M31))) else (f_X8_weightIn_4 N o0 v1 n (v2 + 0) (v3 + 1) M)))))))
def f_X8_weightIn (N : Nat) (o0 : Nat) (v1 : Int) (M : Mem) : Option (Int × Mem) := f_X8_weightIn_4 N o0 v1 N 0 0 M
theorem F_X8_weightIn : CalF yX8_weightIn cX8_weightIn 4 (some .int) 1 := ⟨w_712, w_9, by decide +kernel⟩
set_option maxRecDepth 100000 in
set_option maxHeartbeats 4000000 in
theorem t_X8_weightIn_4 {g : GP} {p : Program} {l : Launch} {e : Env} {s : State} {m : MethodId} {args : Array Value} {below : List Frame} {meth : Method} {c : Code} {Q : State → Prop} {N : Nat} {o0 : Nat} {v1 : Int} (h0 : kd o0 = 8) (C : Cx g p s m args c cX8_weightIn 4 "LentGalleryModel") {r : Int × Mem} (hQ : RetI g p l e (rmK 1 20) s m args below meth c cX8_weightIn r Q) : ∀ (n : Nat) (v2 v3 : Int) (M : Mem) (H : Heap) (locs : List Loc) (ls : Array Slot), f_X8_weightIn_4 N o0 v1 n v2 v3 M = some r → Inv g s M H locs → lv_has ls 4 [(0, rI g o0), (1, iI v1), (2, iI v2), (3, iI v3)] → W p l e (rmK 1 20) s m args below meth c H locs 0 0 Q (F0 m 4 ls []) := by
  intro n
  induction n with
  | zero =>
    intro v2 v3 M H locs ls hf hI hl
    cases hf
  | succ n ih =>
    intro v2 v3 M H locs ls hf hI hl
    rw [f_X8_weightIn_4] at hf
    refine r_iload_n C hl 3 dX8_weightIn_4 rfl rfl ?_
    refine r_aload_n C hl 0 dX8_weightIn_5 rfl rfl ?_
    refine g_8_9 C hI h0 w_571 dX8_weightIn_6 ?_
    refine r_gd hf (fun q9_0 hf => ?_)
    refine r_gd hf (fun q9_1 hf => ?_)
    refine r_ic_ge C q9_0 q9_1 (tgt := 46) dX8_weightIn_9 (by decide) hf (fun hf => ?_) (fun hf => ?_)
    · refine r_iload_n C hl 2 dX8_weightIn_46 rfl rfl ?_
      exact r_iret hQ hf hI dX8_weightIn_47
    · refine r_iload_n C hl 2 dX8_weightIn_12 rfl rfl ?_
      refine r_aload_n C hl 0 dX8_weightIn_13 rfl rfl ?_
      refine g_8_11 C hI h0 w_573 dX8_weightIn_14 ?_
      refine r_iload_n C hl 3 dX8_weightIn_17 rfl rfl ?_
      refine r_gd hf (fun q18_2 hf => ?_)
      refine r_iald C hI 5 (n := 5) (k_8_11 h0) (by decide) rfl q18_2 dX8_weightIn_18 ?_
      refine r_iload_n C hl 1 dX8_weightIn_19 rfl rfl ?_
      refine r_gd hf (fun q20_3 hf => ?_)
      refine r_gd hf (fun q20_4 hf => ?_)
      refine r_ic_ne C q20_3 q20_4 (tgt := 37) dX8_weightIn_20 (by decide) hf (fun hf => ?_) (fun hf => ?_)
      · refine r_iconst C dX8_weightIn_37 ?_
        refine r_iadd C dX8_weightIn_38 ?_
        refine r_istore_n C hl (lv' := [(2, iI (v2 + 0)), (0, rI g o0), (1, iI v1), (3, iI v3)]) dX8_weightIn_39 rfl (Nat.le_of_ble_eq_true rfl) rfl (fun ls hl => ?_)
        refine r_iinc C hl (lv' := [(3, iI (v3 + 1)), (2, iI (v2 + 0)), (0, rI g o0), (1, iI v1)]) 3 dX8_weightIn_40 rfl (Nat.le_of_ble_eq_true rfl) rfl (fun ls hl => ?_)
        refine r_goto C (tgt := 4) dX8_weightIn_43 (by decide) ?_
        exact ih _ _ _ _ _ _ hf hI (lv_sub hl [2, 3, 1, 0] rfl)
      · refine r_aload_n C hl 0 dX8_weightIn_23 rfl rfl ?_
        refine g_8_10 C hI h0 w_572 dX8_weightIn_24 ?_
        refine r_iconst C dX8_weightIn_27 ?_
        refine r_iload_n C hl 3 dX8_weightIn_28 rfl rfl ?_
        refine r_imul C dX8_weightIn_29 ?_
        refine r_gd hf (fun q30_5 hf => ?_)
        refine r_iald C hI 10 (n := 10) (k_8_10 h0) (by decide) rfl q30_5 dX8_weightIn_30 ?_
        refine r_calli (rest := [iI v2]) hI hf (fun r M' h => run_S C hI F_X8_weightBy w_714 w_713 ⟨⟨Nat.le_of_ble_eq_true rfl, Nat.le_of_ble_eq_true rfl⟩, Nat.le_of_ble_eq_true rfl, Nat.le_of_ble_eq_true rfl⟩ hl dX8_weightIn_31 [iI (M (ch o0 10) (2 * v3).toNat)] rfl rfl (Nat.le_of_ble_eq_true rfl) (c_X8_weightBy C.2.2.2.2.2.2 h)) (fun r31 M31 H locs hI hf => ?_)
        refine r_goto C (tgt := 38) dX8_weightIn_34 (by decide) ?_
        refine r_iadd C dX8_weightIn_38 ?_
        refine r_istore_n C hl (lv' := [(2, iI (v2 + r31)), (0, rI g o0), (1, iI v1), (3, iI v3)]) dX8_weightIn_39 rfl (Nat.le_of_ble_eq_true rfl) rfl (fun ls hl => ?_)
        refine r_iinc C hl (lv' := [(3, iI (v3 + 1)), (2, iI (v2 + r31)), (0, rI g o0), (1, iI v1)]) 3 dX8_weightIn_40 rfl (Nat.le_of_ble_eq_true rfl) rfl (fun ls hl => ?_)
        refine r_goto C (tgt := 4) dX8_weightIn_43 (by decide) ?_
        exact ih _ _ _ _ _ _ hf hI (lv_sub hl [2, 3, 1, 0] rfl)
set_option maxRecDepth 100000 in
set_option maxHeartbeats 4000000 in
theorem c_X8_weightIn {l : Launch} {g : GP} (hj : Inj g) {N : Nat} {M : Mem} {o0 : Nat} {v1 : Int} (h0 : kd o0 = 8) {r : Int × Mem} (hf : f_X8_weightIn N o0 v1 M = some r) : Met l yX8_weightIn (Cond.code yX8_weightIn cX8_weightIn 4 (some .int) :: TB) (rmK 1 20) (PreW g M [rI g o0, iI v1]) (PostI g r.1 r.2) 0 0 (Ad g) := by
  unfold f_X8_weightIn at hf
  refine met_of (nL := 4) (cc := cX8_weightIn) (M := M) (by decide +kernel) hj (Nat.le_of_ble_eq_true rfl) ?_
  intro p e s m below meth c ls C hr hlk hI hl
  have C : Cx g p s m _ c cX8_weightIn 4 "LentGalleryModel" := C
  have hl : lv_has ls 4 [(0, rI g o0), (1, iI v1)] := hl
  have hQ := ret_i (l := l) (e := e) (R := (rmK 1 20)) (below := below) (r := r) C hr hlk (nar_i _)
  generalize s.heap = H, ([] : List Loc) = locs at hI ⊢
  refine r_iconst C dX8_weightIn_0 ?_
  refine r_istore_n C hl (lv' := [(2, iI 0), (0, rI g o0), (1, iI v1)]) dX8_weightIn_1 rfl (Nat.le_of_ble_eq_true rfl) rfl (fun ls hl => ?_)
  refine r_iconst C dX8_weightIn_2 ?_
  refine r_istore_n C hl (lv' := [(3, iI 0), (2, iI 0), (0, rI g o0), (1, iI v1)]) dX8_weightIn_3 rfl (Nat.le_of_ble_eq_true rfl) rfl (fun ls hl => ?_)
  exact t_X8_weightIn_4 h0 C hQ _ _ _ _ _ _ _ hf hI (lv_sub hl [2, 3, 1, 0] rfl)
/-! X8_hasFallen -/
def f_X8_hasFallen (N : Nat) (o0 : Nat) (v1 : Int) (M : Mem) : Option (Int × Mem) := gd (inR v1) (bnd (f_X8_in N v1 0 5 M) (fun r6 M6 => gd (inR r6) (if r6 = 0 then (some (0, M6)) else (gd (0 ≤ v1 ∧ v1 < al o0) (gd (inR (M6 o0 v1.toNat)) (if (M6 o0 v1.toNat) = 0 then (some (1, M6)) else (some (0, M6))))))))
theorem F_X8_hasFallen : CalF yX8_hasFallen cX8_hasFallen 2 (some .boolean) 2 := ⟨w_726, w_9, by decide +kernel⟩
set_option maxRecDepth 100000 in
set_option maxHeartbeats 4000000 in
theorem c_X8_hasFallen {l : Launch} {g : GP} (hj : Inj g) {N : Nat} {M : Mem} {o0 : Nat} {v1 : Int} (h0 : isA o0) {r : Int × Mem} (hf : f_X8_hasFallen N o0 v1 M = some r) : Met l yX8_hasFallen (Cond.code yX8_hasFallen cX8_hasFallen 2 (some .boolean) :: TB) (rmK 1 25) (PreW g M [rI g o0, iI v1]) (PostI g r.1 r.2) 0 0 (Ad g) := by
  unfold f_X8_hasFallen at hf
  refine met_of (nL := 2) (cc := cX8_hasFallen) (M := M) (by decide +kernel) hj (Nat.le_of_ble_eq_true rfl) ?_
  intro p e s m below meth c ls C hr hlk hI hl
  have C : Cx g p s m _ c cX8_hasFallen 2 "LentGalleryModel" := C
  have hl : lv_has ls 2 [(0, rI g o0), (1, iI v1)] := hl
  have hQ := ret_z (l := l) (e := e) (R := (rmK 1 25)) (below := below) (r := r) C hr hlk
  generalize s.heap = H, ([] : List Loc) = locs at hI ⊢
  refine r_iload_n C hl 1 dX8_hasFallen_0 rfl rfl ?_
  refine r_gd hf (fun q1_0 hf => ?_)
  refine r_i2l C q1_0 dX8_hasFallen_1 ?_
  refine r_lconst C (v := 0) dX8_hasFallen_2 rfl ?_
  refine r_ldc2 C (n := 5) w_697 rfl dX8_hasFallen_3 ?_
  refine r_calli (rest := []) hI hf (fun r M' h => run_S C hI F_X8_in w_659 w_658 ⟨⟨Nat.le_of_ble_eq_true rfl, Nat.le_of_ble_eq_true rfl⟩, Nat.le_of_ble_eq_true rfl, Nat.le_of_ble_eq_true rfl⟩ hl dX8_hasFallen_6 [lI v1, lI 0, lI 5] rfl rfl (Nat.le_of_ble_eq_true rfl) (c_X8_in C.2.2.2.2.2.2 h)) (fun r6 M6 H locs hI hf => ?_)
  refine r_gd hf (fun q9_1 hf => ?_)
  refine r_if_eq C q9_1 (tgt := 22) dX8_hasFallen_9 (by decide) hf (fun hf => ?_) (fun hf => ?_)
  · refine r_iconst C dX8_hasFallen_22 ?_
    exact r_zret hQ (by decide) hf hI dX8_hasFallen_23
  · refine r_aload_n C hl 0 dX8_hasFallen_12 rfl rfl ?_
    refine r_iload_n C hl 1 dX8_hasFallen_13 rfl rfl ?_
    refine r_gd hf (fun q14_2 hf => ?_)
    refine r_iald C hI (al o0) (isA_eq h0) (by omega) rfl q14_2 dX8_hasFallen_14 ?_
    refine r_gd hf (fun q15_3 hf => ?_)
    refine r_if_ne C q15_3 (tgt := 22) dX8_hasFallen_15 (by decide) hf (fun hf => ?_) (fun hf => ?_)
    · refine r_iconst C dX8_hasFallen_22 ?_
      exact r_zret hQ (by decide) hf hI dX8_hasFallen_23
    · refine r_iconst C dX8_hasFallen_18 ?_
      refine r_goto C (tgt := 23) dX8_hasFallen_19 (by decide) ?_
      exact r_zret hQ (by decide) hf hI dX8_hasFallen_23
/-! X8_lessOf -/
def f_X8_lessOf (N : Nat) (o0 : Nat) (v1 : Int) (o2 : Nat) (M : Mem) : Option (Int × Mem) := bnd (f_X8_weightIn N o0 v1 M) (fun r2 M2 => bnd (f_X8_hasFallen N o2 (v1 - 1) M2) (fun r9 M9 => gd (inR r9) (if r9 = 0 then (bnd (f_X8_hasFallen N o2 (v1 + 1) M9) (fun r19 M19 => gd (inR r19) (if r19 = 0 then (some (r2 + 0, M19)) else (some (r2 + 1, M19))))) else (some (r2 + 1, M9)))))
theorem F_X8_lessOf : CalF yX8_lessOf cX8_lessOf 3 (some .int) 2 := ⟨w_723, w_9, by decide +kernel⟩
set_option maxRecDepth 100000 in
set_option maxHeartbeats 4000000 in
theorem c_X8_lessOf {l : Launch} {g : GP} (hj : Inj g) {N : Nat} {M : Mem} {o0 : Nat} {v1 : Int} {o2 : Nat} (h0 : kd o0 = 8) (h2 : isA o2) {r : Int × Mem} (hf : f_X8_lessOf N o0 v1 o2 M = some r) : Met l yX8_lessOf (Cond.code yX8_lessOf cX8_lessOf 3 (some .int) :: TB) (rmK 2 46) (PreW g M [rI g o0, iI v1, rI g o2]) (PostI g r.1 r.2) 0 0 (Ad g) := by
  unfold f_X8_lessOf at hf
  refine met_of (nL := 3) (cc := cX8_lessOf) (M := M) (by decide +kernel) hj (Nat.le_of_ble_eq_true rfl) ?_
  intro p e s m below meth c ls C hr hlk hI hl
  have C : Cx g p s m _ c cX8_lessOf 3 "LentGalleryModel" := C
  have hl : lv_has ls 3 [(0, rI g o0), (1, iI v1), (2, rI g o2)] := hl
  have hQ := ret_i (l := l) (e := e) (R := (rmK 2 46)) (below := below) (r := r) C hr hlk (nar_i _)
  generalize s.heap = H, ([] : List Loc) = locs at hI ⊢
  refine r_aload_n C hl 0 dX8_lessOf_0 rfl rfl ?_
  refine r_iload_n C hl 1 dX8_lessOf_1 rfl rfl ?_
  refine r_calli (rest := []) hI hf (fun r M' h => run_V C hI F_X8_weightIn w_711 v_15 w_709 ⟨⟨Nat.le_of_ble_eq_true rfl, Nat.le_of_ble_eq_true rfl⟩, Nat.le_of_ble_eq_true rfl, Nat.le_of_ble_eq_true rfl⟩ (zX8 h0) (oX8 h0) rfl hl dX8_lessOf_2 [iI v1] rfl rfl (Nat.le_of_ble_eq_true rfl) (c_X8_weightIn C.2.2.2.2.2.2 h0 h)) (fun r2 M2 H locs hI hf => ?_)
  refine r_aload_n C hl 2 dX8_lessOf_5 rfl rfl ?_
  refine r_iload_n C hl 1 dX8_lessOf_6 rfl rfl ?_
  refine r_iconst C dX8_lessOf_7 ?_
  refine r_isub C dX8_lessOf_8 ?_
  refine r_calli (rest := [iI r2]) hI hf (fun r M' h => run_S C hI F_X8_hasFallen w_725 w_724 ⟨⟨Nat.le_of_ble_eq_true rfl, Nat.le_of_ble_eq_true rfl⟩, Nat.le_of_ble_eq_true rfl, Nat.le_of_ble_eq_true rfl⟩ hl dX8_lessOf_9 [rI g o2, iI (v1 - 1)] rfl rfl (Nat.le_of_ble_eq_true rfl) (c_X8_hasFallen C.2.2.2.2.2.2 h2 h)) (fun r9 M9 H locs hI hf => ?_)
  refine r_gd hf (fun q12_0 hf => ?_)
  refine r_if_ne C q12_0 (tgt := 25) dX8_lessOf_12 (by decide) hf (fun hf => ?_) (fun hf => ?_)
  · refine r_iconst C dX8_lessOf_25 ?_
    refine r_goto C (tgt := 30) dX8_lessOf_26 (by decide) ?_
    refine r_iadd C dX8_lessOf_30 ?_
    exact r_iret hQ hf hI dX8_lessOf_31
  · refine r_aload_n C hl 2 dX8_lessOf_15 rfl rfl ?_
    refine r_iload_n C hl 1 dX8_lessOf_16 rfl rfl ?_
    refine r_iconst C dX8_lessOf_17 ?_
    refine r_iadd C dX8_lessOf_18 ?_
    refine r_calli (rest := [iI r2]) hI hf (fun r M' h => run_S C hI F_X8_hasFallen w_725 w_724 ⟨⟨Nat.le_of_ble_eq_true rfl, Nat.le_of_ble_eq_true rfl⟩, Nat.le_of_ble_eq_true rfl, Nat.le_of_ble_eq_true rfl⟩ hl dX8_lessOf_19 [rI g o2, iI (v1 + 1)] rfl rfl (Nat.le_of_ble_eq_true rfl) (c_X8_hasFallen C.2.2.2.2.2.2 h2 h)) (fun r19 M19 H locs hI hf => ?_)
    refine r_gd hf (fun q22_1 hf => ?_)
    refine r_if_eq C q22_1 (tgt := 29) dX8_lessOf_22 (by decide) hf (fun hf => ?_) (fun hf => ?_)
    · refine r_iconst C dX8_lessOf_29 ?_
      refine r_iadd C dX8_lessOf_30 ?_
      exact r_iret hQ hf hI dX8_lessOf_31
    · refine r_iconst C dX8_lessOf_25 ?_
      refine r_goto C (tgt := 30) dX8_lessOf_26 (by decide) ?_
      refine r_iadd C dX8_lessOf_30 ?_
      exact r_iret hQ hf hI dX8_lessOf_31
