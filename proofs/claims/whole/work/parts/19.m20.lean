/-! X8_props -/
def f_X8_props_33 (N : Nat) (o0 : Nat) (v1 : Int) (v2 : Int) (M : Mem) : Option (Int × Mem) := bnd (f_X8_lacks N o0 M) (fun r34 M34 => gd (inR r34) (if r34 = 0 then (bnd (f_X8_propsOf N o0 v1 v2 M34) (fun r48 M48 => some (r48, M48))) else (some (-103, M34))))
def f_X8_props (N : Nat) (o0 : Nat) (v1 : Int) (v2 : Int) (M : Mem) : Option (Int × Mem) := gd (inR v1) (bnd (f_X8_in N v1 1 20 M) (fun r6 M6 => gd (inR r6) (if r6 = 0 then (some (-102, M6)) else (gd (inR v2) (if v2 = 0 then (f_X8_props_33 N o0 v1 v2 M6) else (bnd (f_X8_in N v2 10 15 M6) (fun r24 M24 => gd (inR r24) (if r24 = 0 then (some (-102, M24)) else (f_X8_props_33 N o0 v1 v2 M24)))))))))
theorem F_X8_props : CalF yX8_props cX8_props 3 (some .int) 2 := ⟨w_815, w_9, by decide +kernel⟩
set_option maxRecDepth 100000 in
set_option maxHeartbeats 4000000 in
theorem t_X8_props_33 {g : GP} {p : Program} {l : Launch} {e : Env} {s : State} {m : MethodId} {args : Array Value} {below : List Frame} {meth : Method} {c : Code} {Q : State → Prop} {N : Nat} {o0 : Nat} {v1 : Int} {v2 : Int} (h0 : kd o0 = 8) (C : Cx g p s m args c cX8_props 3 "LentGalleryModel") {r : Int × Mem} (hQ : RetI g p l e (rmK 5 117) s m args below meth c cX8_props r Q) : ∀ (M : Mem) (H : Heap) (locs : List Loc) (ls : Array Slot), f_X8_props_33 N o0 v1 v2 M = some r → Inv g s M H locs → lv_has ls 3 [(0, rI g o0), (1, iI v1), (2, iI v2)] → W p l e (rmK 5 117) s m args below meth c H locs 0 0 Q (F0 m 33 ls []) := by
  intro M H locs ls hf hI hl
  unfold f_X8_props_33 at hf
  refine r_aload_n C hl 0 dX8_props_33 rfl rfl ?_
  refine r_calli (rest := []) hI hf (fun r M' h => run_V C hI F_X8_lacks w_695 v_12 w_693 ⟨⟨Nat.le_of_ble_eq_true rfl, Nat.le_of_ble_eq_true rfl⟩, Nat.le_of_ble_eq_true rfl, Nat.le_of_ble_eq_true rfl⟩ (zX8 h0) (oX8 h0) rfl hl dX8_props_34 [] rfl rfl (Nat.le_of_ble_eq_true rfl) (c_X8_lacks C.2.2.2.2.2.2 h0 h)) (fun r34 M34 H locs hI hf => ?_)
  refine r_gd hf (fun q37_0 hf => ?_)
  refine r_if_eq C q37_0 (tgt := 45) dX8_props_37 (by decide) hf (fun hf => ?_) (fun hf => ?_)
  · refine r_aload_n C hl 0 dX8_props_45 rfl rfl ?_
    refine r_iload_n C hl 1 dX8_props_46 rfl rfl ?_
    refine r_iload_n C hl 2 dX8_props_47 rfl rfl ?_
    refine r_calli (rest := []) hI hf (fun r M' h => run_V C hI F_X8_propsOf w_820 v_29 w_818 ⟨⟨Nat.le_of_ble_eq_true rfl, Nat.le_of_ble_eq_true rfl⟩, Nat.le_of_ble_eq_true rfl, Nat.le_of_ble_eq_true rfl⟩ (zX8 h0) (oX8 h0) rfl hl dX8_props_48 [iI v1, iI v2] rfl rfl (Nat.le_of_ble_eq_true rfl) (c_X8_propsOf C.2.2.2.2.2.2 h0 h)) (fun r48 M48 H locs hI hf => ?_)
    exact r_iret hQ hf hI dX8_props_51
  · refine r_bipush C dX8_props_40 rfl ?_
    refine r_goto C (tgt := 51) dX8_props_42 (by decide) ?_
    exact r_iret hQ hf hI dX8_props_51
set_option maxRecDepth 100000 in
set_option maxHeartbeats 4000000 in
theorem c_X8_props {l : Launch} {g : GP} (hj : Inj g) {N : Nat} {M : Mem} {o0 : Nat} {v1 : Int} {v2 : Int} (h0 : kd o0 = 8) {r : Int × Mem} (hf : f_X8_props N o0 v1 v2 M = some r) : Met l yX8_props (Cond.code yX8_props cX8_props 3 (some .int) :: TB) (rmK 5 117) (PreW g M [rI g o0, iI v1, iI v2]) (PostI g r.1 r.2) 0 0 (Ad g) := by
  unfold f_X8_props at hf
  refine met_of (nL := 3) (cc := cX8_props) (M := M) (by decide +kernel) hj (Nat.le_of_ble_eq_true rfl) ?_
  intro p e s m below meth c ls C hr hlk hI hl
  have C : Cx g p s m _ c cX8_props 3 "LentGalleryModel" := C
  have hl : lv_has ls 3 [(0, rI g o0), (1, iI v1), (2, iI v2)] := hl
  have hQ := ret_i (l := l) (e := e) (R := (rmK 5 117)) (below := below) (r := r) C hr hlk (nar_i _)
  generalize s.heap = H, ([] : List Loc) = locs at hI ⊢
  refine r_iload_n C hl 1 dX8_props_0 rfl rfl ?_
  refine r_gd hf (fun q1_0 hf => ?_)
  refine r_i2l C q1_0 dX8_props_1 ?_
  refine r_lconst C (v := 1) dX8_props_2 rfl ?_
  refine r_ldc2 C (n := 20) w_816 rfl dX8_props_3 ?_
  refine r_calli (rest := []) hI hf (fun r M' h => run_S C hI F_X8_in w_659 w_658 ⟨⟨Nat.le_of_ble_eq_true rfl, Nat.le_of_ble_eq_true rfl⟩, Nat.le_of_ble_eq_true rfl, Nat.le_of_ble_eq_true rfl⟩ hl dX8_props_6 [lI v1, lI 1, lI 20] rfl rfl (Nat.le_of_ble_eq_true rfl) (c_X8_in C.2.2.2.2.2.2 h)) (fun r6 M6 H locs hI hf => ?_)
  refine r_gd hf (fun q9_1 hf => ?_)
  refine r_if_eq C q9_1 (tgt := 30) dX8_props_9 (by decide) hf (fun hf => ?_) (fun hf => ?_)
  · refine r_bipush C dX8_props_30 rfl ?_
    exact r_iret hQ hf hI dX8_props_32
  · refine r_iload_n C hl 2 dX8_props_12 rfl rfl ?_
    refine r_gd hf (fun q13_2 hf => ?_)
    refine r_if_eq C q13_2 (tgt := 33) dX8_props_13 (by decide) hf (fun hf => ?_) (fun hf => ?_)
    · exact t_X8_props_33 h0 C hQ _ _ _ _ hf hI (lv_sub hl [0, 1, 2] rfl)
    · refine r_iload_n C hl 2 dX8_props_16 rfl rfl ?_
      refine r_i2l C q13_2 dX8_props_17 ?_
      refine r_ldc2 C (n := 10) w_803 rfl dX8_props_18 ?_
      refine r_ldc2 C (n := 15) w_817 rfl dX8_props_21 ?_
      refine r_calli (rest := []) hI hf (fun r M' h => run_S C hI F_X8_in w_659 w_658 ⟨⟨Nat.le_of_ble_eq_true rfl, Nat.le_of_ble_eq_true rfl⟩, Nat.le_of_ble_eq_true rfl, Nat.le_of_ble_eq_true rfl⟩ hl dX8_props_24 [lI v2, lI 10, lI 15] rfl rfl (Nat.le_of_ble_eq_true rfl) (c_X8_in C.2.2.2.2.2.2 h)) (fun r24 M24 H locs hI hf => ?_)
      refine r_gd hf (fun q27_3 hf => ?_)
      refine r_if_ne C q27_3 (tgt := 33) dX8_props_27 (by decide) hf (fun hf => ?_) (fun hf => ?_)
      · exact t_X8_props_33 h0 C hQ _ _ _ _ hf hI (lv_sub hl [0, 1, 2] rfl)
      · refine r_bipush C dX8_props_30 rfl ?_
        exact r_iret hQ hf hI dX8_props_32
/-! X8_outOf -/
def f_X8_outOf_80 (N : Nat) (o0 : Nat) (k42 : Int → Int → Int → Mem → Option (Int × Mem)) : Nat → Int → Int → Int → Int → Mem → Option (Int × Mem)
  | 0, _, _, _, _, _ => none
  | n + 1, v1, v2, v3, v5, M => gd (inR v5) (gd (inR (M o0 9)) (if (M o0 9) ≤ v5 then (k42 v1 v2 v3 M) else (bnd (f_X8_isCutOff N o0 v5 M) (fun r93 M93 => gd (inR r93) (if r93 = 0 then (gd (0 ≤ v5 ∧ v5 < 5) (gd (inR ((M93 (ch o0 11) v5.toNat) + 1)) (gd (inR v2) (if ((M93 (ch o0 11) v5.toNat) + 1) = v2 then (f_X8_outOf_80 N o0 k42 n v1 v2 (v3 + 1) (v5 + 1) M93) else (f_X8_outOf_80 N o0 k42 n v1 v2 (v3 + 0) (v5 + 1) M93))))) else (f_X8_outOf_80 N o0 k42 n v1 v2 (v3 + 0) (v5 + 1) M93))))))
def f_X8_outOf_42 (N : Nat) (o0 : Nat) : Nat → Int → Int → Int → Mem → Option (Int × Mem)
  | 0, _, _, _, _ => none
  | n + 1, v1, v2, v3, M => gd (inR v1) (if v1 ≤ 0 then (some (v2, M)) else (gd (inR v3) (gd (inR (M o0 3)) (if (M o0 3) ≤ v3 then (f_X8_outOf_80 N o0 (f_X8_outOf_42 N o0 n) N (v1 - (M o0 3)) (v2 + 1) (v3 - (M o0 3)) 0 M) else (f_X8_outOf_80 N o0 (f_X8_outOf_42 N o0 n) N (v1 - v3) (v2 + 1) (v3 - v3) 0 M)))))
def f_X8_outOf_8 (N : Nat) (o0 : Nat) : Nat → Int → Int → Mem → Option (Int × Mem)
  | 0, _, _, _ => none
  | n + 1, v1, v2, M => gd (inR v2) (gd (inR (M o0 9)) (if (M o0 9) ≤ v2 then (f_X8_outOf_42 N o0 N v1 0 0 M) else (bnd (f_X8_isCutOff N o0 v2 M) (fun r19 M19 => gd (inR r19) (if r19 = 0 then (f_X8_outOf_8 N o0 n (v1 + 1) (v2 + 1) M19) else (f_X8_outOf_8 N o0 n (v1 + 0) (v2 + 1) M19))))))
def f_X8_outOf (N : Nat) (o0 : Nat) (M : Mem) : Option (Int × Mem) := bnv (f_X8_asItIs N o0 M) (fun M1 => f_X8_outOf_8 N o0 N 0 0 M1)
theorem F_X8_outOf : CalF yX8_outOf cX8_outOf 6 (some .int) 0 := ⟨w_833, w_9, by decide +kernel⟩
set_option maxRecDepth 100000 in
set_option maxHeartbeats 4000000 in
theorem t_X8_outOf_80 {g : GP} {p : Program} {l : Launch} {e : Env} {s : State} {m : MethodId} {args : Array Value} {below : List Frame} {meth : Method} {c : Code} {Q : State → Prop} {N : Nat} {o0 : Nat} (h0 : kd o0 = 8) (C : Cx g p s m args c cX8_outOf 6 "LentGalleryModel") {r : Int × Mem} (hQ : RetI g p l e (rmK 2 43) s m args below meth c cX8_outOf r Q) {k42 : Int → Int → Int → Mem → Option (Int × Mem)} (hk42 : ∀ (v1 v2 v3 : Int) (M : Mem) (H : Heap) (locs : List Loc) (ls : Array Slot), k42 v1 v2 v3 M = some r → Inv g s M H locs → lv_has ls 6 [(0, rI g o0), (1, iI v1), (2, iI v2), (3, iI v3)] → W p l e (rmK 2 43) s m args below meth c H locs 0 0 Q (F0 m 42 ls [])) : ∀ (n : Nat) (v1 v2 v3 v5 : Int) (M : Mem) (H : Heap) (locs : List Loc) (ls : Array Slot), f_X8_outOf_80 N o0 k42 n v1 v2 v3 v5 M = some r → Inv g s M H locs → lv_has ls 6 [(0, rI g o0), (1, iI v1), (2, iI v2), (3, iI v3), (5, iI v5)] → W p l e (rmK 2 43) s m args below meth c H locs 0 0 Q (F0 m 80 ls []) := by
  intro n
  induction n with
  | zero =>
    intro v1 v2 v3 v5 M H locs ls hf hI hl
    cases hf
  | succ n ih =>
    intro v1 v2 v3 v5 M H locs ls hf hI hl
    rw [f_X8_outOf_80] at hf
    refine r_iload C hl 4 dX8_outOf_80 rfl ?_
    refine r_aload_n C hl 0 dX8_outOf_82 rfl rfl ?_
    refine g_8_9 C hI h0 w_571 dX8_outOf_83 ?_
    refine r_gd hf (fun q86_0 hf => ?_)
    refine r_gd hf (fun q86_1 hf => ?_)
    refine r_ic_ge C q86_0 q86_1 (tgt := 125) dX8_outOf_86 (by decide) hf (fun hf => ?_) (fun hf => ?_)
    · refine r_goto C (tgt := 42) dX8_outOf_125 (by decide) ?_
      exact hk42 _ _ _ _ _ _ _ hf hI (lv_sub hl [0, 1, 2, 3] rfl)
    · refine r_iload_n C hl 3 dX8_outOf_89 rfl rfl ?_
      refine r_aload_n C hl 0 dX8_outOf_90 rfl rfl ?_
      refine r_iload C hl 4 dX8_outOf_91 rfl ?_
      refine r_calli (rest := [iI v3]) hI hf (fun r M' h => run_V C hI F_X8_isCutOff w_769 v_24 w_767 ⟨⟨Nat.le_of_ble_eq_true rfl, Nat.le_of_ble_eq_true rfl⟩, Nat.le_of_ble_eq_true rfl, Nat.le_of_ble_eq_true rfl⟩ (zX8 h0) (oX8 h0) rfl hl dX8_outOf_93 [iI v5] rfl rfl (Nat.le_of_ble_eq_true rfl) (c_X8_isCutOff C.2.2.2.2.2.2 h0 h)) (fun r93 M93 H locs hI hf => ?_)
      refine r_gd hf (fun q96_2 hf => ?_)
      refine r_if_ne C q96_2 (tgt := 116) dX8_outOf_96 (by decide) hf (fun hf => ?_) (fun hf => ?_)
      · refine r_iconst C dX8_outOf_116 ?_
        refine r_iadd C dX8_outOf_117 ?_
        refine r_istore_n C hl (lv' := [(3, iI (v3 + 0)), (0, rI g o0), (1, iI v1), (2, iI v2), (5, iI v5)]) dX8_outOf_118 rfl (Nat.le_of_ble_eq_true rfl) rfl (fun ls hl => ?_)
        refine r_iinc C hl (lv' := [(5, iI (v5 + 1)), (3, iI (v3 + 0)), (0, rI g o0), (1, iI v1), (2, iI v2)]) 4 dX8_outOf_119 rfl (Nat.le_of_ble_eq_true rfl) rfl (fun ls hl => ?_)
        refine r_goto C (tgt := 80) dX8_outOf_122 (by decide) ?_
        exact ih _ _ _ _ _ _ _ _ hf hI (lv_sub hl [2, 3, 4, 1, 0] rfl)
      · refine r_aload_n C hl 0 dX8_outOf_99 rfl rfl ?_
        refine g_8_11 C hI h0 w_573 dX8_outOf_100 ?_
        refine r_iload C hl 4 dX8_outOf_103 rfl ?_
        refine r_gd hf (fun q105_3 hf => ?_)
        refine r_iald C hI 5 (n := 5) (k_8_11 h0) (by decide) rfl q105_3 dX8_outOf_105 ?_
        refine r_iconst C dX8_outOf_106 ?_
        refine r_iadd C dX8_outOf_107 ?_
        refine r_iload_n C hl 2 dX8_outOf_108 rfl rfl ?_
        refine r_gd hf (fun q109_4 hf => ?_)
        refine r_gd hf (fun q109_5 hf => ?_)
        refine r_ic_ne C q109_4 q109_5 (tgt := 116) dX8_outOf_109 (by decide) hf (fun hf => ?_) (fun hf => ?_)
        · refine r_iconst C dX8_outOf_116 ?_
          refine r_iadd C dX8_outOf_117 ?_
          refine r_istore_n C hl (lv' := [(3, iI (v3 + 0)), (0, rI g o0), (1, iI v1), (2, iI v2), (5, iI v5)]) dX8_outOf_118 rfl (Nat.le_of_ble_eq_true rfl) rfl (fun ls hl => ?_)
          refine r_iinc C hl (lv' := [(5, iI (v5 + 1)), (3, iI (v3 + 0)), (0, rI g o0), (1, iI v1), (2, iI v2)]) 4 dX8_outOf_119 rfl (Nat.le_of_ble_eq_true rfl) rfl (fun ls hl => ?_)
          refine r_goto C (tgt := 80) dX8_outOf_122 (by decide) ?_
          exact ih _ _ _ _ _ _ _ _ hf hI (lv_sub hl [2, 3, 4, 1, 0] rfl)
        · refine r_iconst C dX8_outOf_112 ?_
          refine r_goto C (tgt := 117) dX8_outOf_113 (by decide) ?_
          refine r_iadd C dX8_outOf_117 ?_
          refine r_istore_n C hl (lv' := [(3, iI (v3 + 1)), (0, rI g o0), (1, iI v1), (2, iI v2), (5, iI v5)]) dX8_outOf_118 rfl (Nat.le_of_ble_eq_true rfl) rfl (fun ls hl => ?_)
          refine r_iinc C hl (lv' := [(5, iI (v5 + 1)), (3, iI (v3 + 1)), (0, rI g o0), (1, iI v1), (2, iI v2)]) 4 dX8_outOf_119 rfl (Nat.le_of_ble_eq_true rfl) rfl (fun ls hl => ?_)
          refine r_goto C (tgt := 80) dX8_outOf_122 (by decide) ?_
          exact ih _ _ _ _ _ _ _ _ hf hI (lv_sub hl [2, 3, 4, 1, 0] rfl)
set_option maxRecDepth 100000 in
set_option maxHeartbeats 4000000 in
theorem t_X8_outOf_42 {g : GP} {p : Program} {l : Launch} {e : Env} {s : State} {m : MethodId} {args : Array Value} {below : List Frame} {meth : Method} {c : Code} {Q : State → Prop} {N : Nat} {o0 : Nat} (h0 : kd o0 = 8) (C : Cx g p s m args c cX8_outOf 6 "LentGalleryModel") {r : Int × Mem} (hQ : RetI g p l e (rmK 2 43) s m args below meth c cX8_outOf r Q) : ∀ (n : Nat) (v1 v2 v3 : Int) (M : Mem) (H : Heap) (locs : List Loc) (ls : Array Slot), f_X8_outOf_42 N o0 n v1 v2 v3 M = some r → Inv g s M H locs → lv_has ls 6 [(0, rI g o0), (1, iI v1), (2, iI v2), (3, iI v3)] → W p l e (rmK 2 43) s m args below meth c H locs 0 0 Q (F0 m 42 ls []) := by
  intro n
  induction n with
  | zero =>
    intro v1 v2 v3 M H locs ls hf hI hl
    cases hf
  | succ n ih =>
    intro v1 v2 v3 M H locs ls hf hI hl
    rw [f_X8_outOf_42] at hf
    refine r_iload_n C hl 1 dX8_outOf_42 rfl rfl ?_
    refine r_gd hf (fun q43_0 hf => ?_)
    refine r_if_le C q43_0 (tgt := 128) dX8_outOf_43 (by decide) hf (fun hf => ?_) (fun hf => ?_)
    · refine r_iload_n C hl 2 dX8_outOf_128 rfl rfl ?_
      exact r_iret hQ hf hI dX8_outOf_129
    · refine r_iinc C hl (lv' := [(2, iI (v2 + 1)), (0, rI g o0), (1, iI v1), (3, iI v3)]) 2 dX8_outOf_46 rfl (Nat.le_of_ble_eq_true rfl) rfl (fun ls hl => ?_)
      refine r_iload_n C hl 3 dX8_outOf_49 rfl rfl ?_
      refine r_aload_n C hl 1 dX8_outOf_50 rfl rfl ?_
      refine g_8_3 C hI h0 w_565 dX8_outOf_51 ?_
      refine r_gd hf (fun q54_1 hf => ?_)
      refine r_gd hf (fun q54_2 hf => ?_)
      refine r_ic_ge C q54_1 q54_2 (tgt := 61) dX8_outOf_54 (by decide) hf (fun hf => ?_) (fun hf => ?_)
      · refine r_aload_n C hl 1 dX8_outOf_61 rfl rfl ?_
        refine g_8_3 C hI h0 w_565 dX8_outOf_62 ?_
        refine r_istore C hl (lv' := [(4, iI (M o0 3)), (2, iI (v2 + 1)), (0, rI g o0), (1, iI v1), (3, iI v3)]) dX8_outOf_65 (Nat.le_of_ble_eq_true rfl) rfl (fun ls hl => ?_)
        refine r_iload_n C hl 4 dX8_outOf_67 rfl rfl ?_
        refine r_iload C hl 0 dX8_outOf_68 rfl ?_
        refine r_isub C dX8_outOf_70 ?_
        refine r_istore_n C hl (lv' := [(3, iI (v3 - (M o0 3))), (4, iI (M o0 3)), (2, iI (v2 + 1)), (0, rI g o0), (1, iI v1)]) dX8_outOf_71 rfl (Nat.le_of_ble_eq_true rfl) rfl (fun ls hl => ?_)
        refine r_iload_n C hl 4 dX8_outOf_72 rfl rfl ?_
        refine r_iload C hl 1 dX8_outOf_73 rfl ?_
        refine r_isub C dX8_outOf_75 ?_
        refine r_istore_n C hl (lv' := [(1, iI (v1 - (M o0 3))), (3, iI (v3 - (M o0 3))), (4, iI (M o0 3)), (2, iI (v2 + 1)), (0, rI g o0)]) dX8_outOf_76 rfl (Nat.le_of_ble_eq_true rfl) rfl (fun ls hl => ?_)
        refine r_iconst C dX8_outOf_77 ?_
        refine r_istore C hl (lv' := [(5, iI 0), (1, iI (v1 - (M o0 3))), (3, iI (v3 - (M o0 3))), (4, iI (M o0 3)), (2, iI (v2 + 1)), (0, rI g o0)]) dX8_outOf_78 (Nat.le_of_ble_eq_true rfl) rfl (fun ls hl => ?_)
        exact t_X8_outOf_80 h0 C hQ ih _ _ _ _ _ _ _ _ _ hf hI (lv_sub hl [5, 1, 4, 2, 0] rfl)
      · refine r_iload_n C hl 3 dX8_outOf_57 rfl rfl ?_
        refine r_goto C (tgt := 65) dX8_outOf_58 (by decide) ?_
        refine r_istore C hl (lv' := [(4, iI v3), (2, iI (v2 + 1)), (0, rI g o0), (1, iI v1), (3, iI v3)]) dX8_outOf_65 (Nat.le_of_ble_eq_true rfl) rfl (fun ls hl => ?_)
        refine r_iload_n C hl 4 dX8_outOf_67 rfl rfl ?_
        refine r_iload C hl 0 dX8_outOf_68 rfl ?_
        refine r_isub C dX8_outOf_70 ?_
        refine r_istore_n C hl (lv' := [(3, iI (v3 - v3)), (4, iI v3), (2, iI (v2 + 1)), (0, rI g o0), (1, iI v1)]) dX8_outOf_71 rfl (Nat.le_of_ble_eq_true rfl) rfl (fun ls hl => ?_)
        refine r_iload_n C hl 4 dX8_outOf_72 rfl rfl ?_
        refine r_iload C hl 1 dX8_outOf_73 rfl ?_
        refine r_isub C dX8_outOf_75 ?_
        refine r_istore_n C hl (lv' := [(1, iI (v1 - v3)), (3, iI (v3 - v3)), (4, iI v3), (2, iI (v2 + 1)), (0, rI g o0)]) dX8_outOf_76 rfl (Nat.le_of_ble_eq_true rfl) rfl (fun ls hl => ?_)
        refine r_iconst C dX8_outOf_77 ?_
        refine r_istore C hl (lv' := [(5, iI 0), (1, iI (v1 - v3)), (3, iI (v3 - v3)), (4, iI v3), (2, iI (v2 + 1)), (0, rI g o0)]) dX8_outOf_78 (Nat.le_of_ble_eq_true rfl) rfl (fun ls hl => ?_)
        exact t_X8_outOf_80 h0 C hQ ih _ _ _ _ _ _ _ _ _ hf hI (lv_sub hl [5, 1, 4, 2, 0] rfl)
set_option maxRecDepth 100000 in
set_option maxHeartbeats 4000000 in
theorem t_X8_outOf_8 {g : GP} {p : Program} {l : Launch} {e : Env} {s : State} {m : MethodId} {args : Array Value} {below : List Frame} {meth : Method} {c : Code} {Q : State → Prop} {N : Nat} {o0 : Nat} (h0 : kd o0 = 8) (C : Cx g p s m args c cX8_outOf 6 "LentGalleryModel") {r : Int × Mem} (hQ : RetI g p l e (rmK 2 43) s m args below meth c cX8_outOf r Q) : ∀ (n : Nat) (v1 v2 : Int) (M : Mem) (H : Heap) (locs : List Loc) (ls : Array Slot), f_X8_outOf_8 N o0 n v1 v2 M = some r → Inv g s M H locs → lv_has ls 6 [(0, rI g o0), (1, iI v1), (2, iI v2)] → W p l e (rmK 2 43) s m args below meth c H locs 0 0 Q (F0 m 8 ls []) := by
  intro n
  induction n with
  | zero =>
    intro v1 v2 M H locs ls hf hI hl
    cases hf
  | succ n ih =>
    intro v1 v2 M H locs ls hf hI hl
    rw [f_X8_outOf_8] at hf
    refine r_iload_n C hl 2 dX8_outOf_8 rfl rfl ?_
    refine r_aload_n C hl 0 dX8_outOf_9 rfl rfl ?_
    refine g_8_9 C hI h0 w_571 dX8_outOf_10 ?_
    refine r_gd hf (fun q13_0 hf => ?_)
    refine r_gd hf (fun q13_1 hf => ?_)
    refine r_ic_ge C q13_0 q13_1 (tgt := 38) dX8_outOf_13 (by decide) hf (fun hf => ?_) (fun hf => ?_)
    · refine r_iconst C dX8_outOf_38 ?_
      refine r_istore_n C hl (lv' := [(2, iI 0), (0, rI g o0), (1, iI v1)]) dX8_outOf_39 rfl (Nat.le_of_ble_eq_true rfl) rfl (fun ls hl => ?_)
      refine r_iconst C dX8_outOf_40 ?_
      refine r_istore_n C hl (lv' := [(3, iI 0), (2, iI 0), (0, rI g o0), (1, iI v1)]) dX8_outOf_41 rfl (Nat.le_of_ble_eq_true rfl) rfl (fun ls hl => ?_)
      exact t_X8_outOf_42 h0 C hQ _ _ _ _ _ _ _ _ hf hI (lv_sub hl [2, 3, 1, 0] rfl)
    · refine r_iload_n C hl 1 dX8_outOf_16 rfl rfl ?_
      refine r_aload_n C hl 0 dX8_outOf_17 rfl rfl ?_
      refine r_iload_n C hl 2 dX8_outOf_18 rfl rfl ?_
      refine r_calli (rest := [iI v1]) hI hf (fun r M' h => run_V C hI F_X8_isCutOff w_769 v_24 w_767 ⟨⟨Nat.le_of_ble_eq_true rfl, Nat.le_of_ble_eq_true rfl⟩, Nat.le_of_ble_eq_true rfl, Nat.le_of_ble_eq_true rfl⟩ (zX8 h0) (oX8 h0) rfl hl dX8_outOf_19 [iI v2] rfl rfl (Nat.le_of_ble_eq_true rfl) (c_X8_isCutOff C.2.2.2.2.2.2 h0 h)) (fun r19 M19 H locs hI hf => ?_)
      refine r_gd hf (fun q22_2 hf => ?_)
      refine r_if_eq C q22_2 (tgt := 29) dX8_outOf_22 (by decide) hf (fun hf => ?_) (fun hf => ?_)
      · refine r_iconst C dX8_outOf_29 ?_
        refine r_iadd C dX8_outOf_30 ?_
        refine r_istore_n C hl (lv' := [(1, iI (v1 + 1)), (0, rI g o0), (2, iI v2)]) dX8_outOf_31 rfl (Nat.le_of_ble_eq_true rfl) rfl (fun ls hl => ?_)
        refine r_iinc C hl (lv' := [(2, iI (v2 + 1)), (1, iI (v1 + 1)), (0, rI g o0)]) 2 dX8_outOf_32 rfl (Nat.le_of_ble_eq_true rfl) rfl (fun ls hl => ?_)
        refine r_goto C (tgt := 8) dX8_outOf_35 (by decide) ?_
        exact ih _ _ _ _ _ _ hf hI (lv_sub hl [2, 1, 0] rfl)
      · refine r_iconst C dX8_outOf_25 ?_
        refine r_goto C (tgt := 30) dX8_outOf_26 (by decide) ?_
        refine r_iadd C dX8_outOf_30 ?_
        refine r_istore_n C hl (lv' := [(1, iI (v1 + 0)), (0, rI g o0), (2, iI v2)]) dX8_outOf_31 rfl (Nat.le_of_ble_eq_true rfl) rfl (fun ls hl => ?_)
        refine r_iinc C hl (lv' := [(2, iI (v2 + 1)), (1, iI (v1 + 0)), (0, rI g o0)]) 2 dX8_outOf_32 rfl (Nat.le_of_ble_eq_true rfl) rfl (fun ls hl => ?_)
        refine r_goto C (tgt := 8) dX8_outOf_35 (by decide) ?_
        exact ih _ _ _ _ _ _ hf hI (lv_sub hl [2, 1, 0] rfl)
set_option maxRecDepth 100000 in
set_option maxHeartbeats 4000000 in
theorem c_X8_outOf {l : Launch} {g : GP} (hj : Inj g) {N : Nat} {M : Mem} {o0 : Nat} (h0 : kd o0 = 8) {r : Int × Mem} (hf : f_X8_outOf N o0 M = some r) : Met l yX8_outOf (Cond.code yX8_outOf cX8_outOf 6 (some .int) :: TB) (rmK 2 43) (PreW g M [rI g o0]) (PostI g r.1 r.2) 0 0 (Ad g) := by
  unfold f_X8_outOf at hf
  refine met_of (nL := 6) (cc := cX8_outOf) (M := M) (by decide +kernel) hj (Nat.le_of_ble_eq_true rfl) ?_
  intro p e s m below meth c ls C hr hlk hI hl
  have C : Cx g p s m _ c cX8_outOf 6 "LentGalleryModel" := C
  have hl : lv_has ls 6 [(0, rI g o0)] := hl
  have hQ := ret_i (l := l) (e := e) (R := (rmK 2 43)) (below := below) (r := r) C hr hlk (nar_i _)
  generalize s.heap = H, ([] : List Loc) = locs at hI ⊢
  refine r_aload_n C hl 0 dX8_outOf_0 rfl rfl ?_
  refine r_callv (rest := []) hI hf (fun M' h => run_V C hI F_X8_asItIs w_704 v_14 w_702 ⟨⟨Nat.le_of_ble_eq_true rfl, Nat.le_of_ble_eq_true rfl⟩, Nat.le_of_ble_eq_true rfl, Nat.le_of_ble_eq_true rfl⟩ (zX8 h0) (oX8 h0) rfl hl dX8_outOf_1 [] rfl rfl (Nat.le_of_ble_eq_true rfl) (c_X8_asItIs C.2.2.2.2.2.2 h0 h)) (fun M1 H locs hI hf => ?_)
  refine r_iconst C dX8_outOf_4 ?_
  refine r_istore_n C hl (lv' := [(1, iI 0), (0, rI g o0)]) dX8_outOf_5 rfl (Nat.le_of_ble_eq_true rfl) rfl (fun ls hl => ?_)
  refine r_iconst C dX8_outOf_6 ?_
  refine r_istore_n C hl (lv' := [(2, iI 0), (1, iI 0), (0, rI g o0)]) dX8_outOf_7 rfl (Nat.le_of_ble_eq_true rfl) rfl (fun ls hl => ?_)
  exact t_X8_outOf_8 h0 C hQ _ _ _ _ _ _ _ hf hI (lv_sub hl [2, 1, 0] rfl)
/-! X8_out -/
def f_X8_out (N : Nat) (o0 : Nat) (M : Mem) : Option (Int × Mem) := bnd (f_X8_lacks N o0 M) (fun r1 M1 => gd (inR r1) (if r1 = 0 then (bnd (f_X8_outOf N o0 M1) (fun r13 M13 => some (r13, M13))) else (some (-103, M1))))
theorem F_X8_out : CalF yX8_out cX8_out 1 (some .int) 0 := ⟨w_829, w_9, by decide +kernel⟩
set_option maxRecDepth 100000 in
set_option maxHeartbeats 4000000 in
theorem c_X8_out {l : Launch} {g : GP} (hj : Inj g) {N : Nat} {M : Mem} {o0 : Nat} (h0 : kd o0 = 8) {r : Int × Mem} (hf : f_X8_out N o0 M = some r) : Met l yX8_out (Cond.code yX8_out cX8_out 1 (some .int) :: TB) (rmK 3 68) (PreW g M [rI g o0]) (PostI g r.1 r.2) 0 0 (Ad g) := by
  unfold f_X8_out at hf
  refine met_of (nL := 1) (cc := cX8_out) (M := M) (by decide +kernel) hj (Nat.le_of_ble_eq_true rfl) ?_
  intro p e s m below meth c ls C hr hlk hI hl
  have C : Cx g p s m _ c cX8_out 1 "LentGalleryModel" := C
  have hl : lv_has ls 1 [(0, rI g o0)] := hl
  have hQ := ret_i (l := l) (e := e) (R := (rmK 3 68)) (below := below) (r := r) C hr hlk (nar_i _)
  generalize s.heap = H, ([] : List Loc) = locs at hI ⊢
  refine r_aload_n C hl 0 dX8_out_0 rfl rfl ?_
  refine r_calli (rest := []) hI hf (fun r M' h => run_V C hI F_X8_lacks w_695 v_12 w_693 ⟨⟨Nat.le_of_ble_eq_true rfl, Nat.le_of_ble_eq_true rfl⟩, Nat.le_of_ble_eq_true rfl, Nat.le_of_ble_eq_true rfl⟩ (zX8 h0) (oX8 h0) rfl hl dX8_out_1 [] rfl rfl (Nat.le_of_ble_eq_true rfl) (c_X8_lacks C.2.2.2.2.2.2 h0 h)) (fun r1 M1 H locs hI hf => ?_)
  refine r_gd hf (fun q4_0 hf => ?_)
  refine r_if_eq C q4_0 (tgt := 12) dX8_out_4 (by decide) hf (fun hf => ?_) (fun hf => ?_)
  · refine r_aload_n C hl 0 dX8_out_12 rfl rfl ?_
    refine r_calli (rest := []) hI hf (fun r M' h => run_V C hI F_X8_outOf w_832 v_31 w_830 ⟨⟨Nat.le_of_ble_eq_true rfl, Nat.le_of_ble_eq_true rfl⟩, Nat.le_of_ble_eq_true rfl, Nat.le_of_ble_eq_true rfl⟩ (zX8 h0) (oX8 h0) rfl hl dX8_out_13 [] rfl rfl (Nat.le_of_ble_eq_true rfl) (c_X8_outOf C.2.2.2.2.2.2 h0 h)) (fun r13 M13 H locs hI hf => ?_)
    exact r_iret hQ hf hI dX8_out_16
  · refine r_bipush C dX8_out_7 rfl ?_
    refine r_goto C (tgt := 16) dX8_out_9 (by decide) ?_
    exact r_iret hQ hf hI dX8_out_16
/-! X8_knock -/
def f_X8_knock (N : Nat) (o0 : Nat) (v1 : Int) (v2 : Int) (v3 : Int) (M : Mem) : Option (Int × Mem) := bnd (f_X8_isPlace N o0 v1 M) (fun r2 M2 => gd (inR r2) (if r2 = 0 then (some (-101, M2)) else (gd (inR v2) (bnd (f_X8_in N v2 0 20 M2) (fun r17 M17 => gd (inR r17) (if r17 = 0 then (some (-102, M17)) else (gd (inR (M17 o0 16)) (if (M17 o0 16) = 8 then (some (-104, M17)) else (gd (0 ≤ (3 * (M17 o0 16)) ∧ (3 * (M17 o0 16)) < 24) (gd (0 ≤ ((3 * ((st M17 (ch o0 17) (3 * (M17 o0 16)).toNat v1) o0 16)) + 1) ∧ ((3 * ((st M17 (ch o0 17) (3 * (M17 o0 16)).toNat v1) o0 16)) + 1) < 24) (gd (inR v3) (if v3 = 0 then (gd (0 ≤ ((3 * ((st (st M17 (ch o0 17) (3 * (M17 o0 16)).toNat v1) (ch o0 17) ((3 * ((st M17 (ch o0 17) (3 * (M17 o0 16)).toNat v1) o0 16)) + 1).toNat v2) o0 16)) + 2) ∧ ((3 * ((st (st M17 (ch o0 17) (3 * (M17 o0 16)).toNat v1) (ch o0 17) ((3 * ((st M17 (ch o0 17) (3 * (M17 o0 16)).toNat v1) o0 16)) + 1).toNat v2) o0 16)) + 2) < 24) (some ((st (st (st (st M17 (ch o0 17) (3 * (M17 o0 16)).toNat v1) (ch o0 17) ((3 * ((st M17 (ch o0 17) (3 * (M17 o0 16)).toNat v1) o0 16)) + 1).toNat v2) (ch o0 17) ((3 * ((st (st M17 (ch o0 17) (3 * (M17 o0 16)).toNat v1) (ch o0 17) ((3 * ((st M17 (ch o0 17) (3 * (M17 o0 16)).toNat v1) o0 16)) + 1).toNat v2) o0 16)) + 2).toNat 0) o0 16 (((st (st (st M17 (ch o0 17) (3 * (M17 o0 16)).toNat v1) (ch o0 17) ((3 * ((st M17 (ch o0 17) (3 * (M17 o0 16)).toNat v1) o0 16)) + 1).toNat v2) (ch o0 17) ((3 * ((st (st M17 (ch o0 17) (3 * (M17 o0 16)).toNat v1) (ch o0 17) ((3 * ((st M17 (ch o0 17) (3 * (M17 o0 16)).toNat v1) o0 16)) + 1).toNat v2) o0 16)) + 2).toNat 0) o0 16) + 1)) o0 16, st (st (st (st M17 (ch o0 17) (3 * (M17 o0 16)).toNat v1) (ch o0 17) ((3 * ((st M17 (ch o0 17) (3 * (M17 o0 16)).toNat v1) o0 16)) + 1).toNat v2) (ch o0 17) ((3 * ((st (st M17 (ch o0 17) (3 * (M17 o0 16)).toNat v1) (ch o0 17) ((3 * ((st M17 (ch o0 17) (3 * (M17 o0 16)).toNat v1) o0 16)) + 1).toNat v2) o0 16)) + 2).toNat 0) o0 16 (((st (st (st M17 (ch o0 17) (3 * (M17 o0 16)).toNat v1) (ch o0 17) ((3 * ((st M17 (ch o0 17) (3 * (M17 o0 16)).toNat v1) o0 16)) + 1).toNat v2) (ch o0 17) ((3 * ((st (st M17 (ch o0 17) (3 * (M17 o0 16)).toNat v1) (ch o0 17) ((3 * ((st M17 (ch o0 17) (3 * (M17 o0 16)).toNat v1) o0 16)) + 1).toNat v2) o0 16)) + 2).toNat 0) o0 16) + 1)))) else (gd (0 ≤ ((3 * ((st (st M17 (ch o0 17) (3 * (M17 o0 16)).toNat v1) (ch o0 17) ((3 * ((st M17 (ch o0 17) (3 * (M17 o0 16)).toNat v1) o0 16)) + 1).toNat v2) o0 16)) + 2) ∧ ((3 * ((st (st M17 (ch o0 17) (3 * (M17 o0 16)).toNat v1) (ch o0 17) ((3 * ((st M17 (ch o0 17) (3 * (M17 o0 16)).toNat v1) o0 16)) + 1).toNat v2) o0 16)) + 2) < 24) (some ((st (st (st (st M17 (ch o0 17) (3 * (M17 o0 16)).toNat v1) (ch o0 17) ((3 * ((st M17 (ch o0 17) (3 * (M17 o0 16)).toNat v1) o0 16)) + 1).toNat v2) (ch o0 17) ((3 * ((st (st M17 (ch o0 17) (3 * (M17 o0 16)).toNat v1) (ch o0 17) ((3 * ((st M17 (ch o0 17) (3 * (M17 o0 16)).toNat v1) o0 16)) + 1).toNat v2) o0 16)) + 2).toNat 1) o0 16 (((st (st (st M17 (ch o0 17) (3 * (M17 o0 16)).toNat v1) (ch o0 17) ((3 * ((st M17 (ch o0 17) (3 * (M17 o0 16)).toNat v1) o0 16)) + 1).toNat v2) (ch o0 17) ((3 * ((st (st M17 (ch o0 17) (3 * (M17 o0 16)).toNat v1) (ch o0 17) ((3 * ((st M17 (ch o0 17) (3 * (M17 o0 16)).toNat v1) o0 16)) + 1).toNat v2) o0 16)) + 2).toNat 1) o0 16) + 1)) o0 16, st (st (st (st M17 (ch o0 17) (3 * (M17 o0 16)).toNat v1) (ch o0 17) ((3 * ((st M17 (ch o0 17) (3 * (M17 o0 16)).toNat v1) o0 16)) + 1).toNat v2) (ch o0 17) ((3 * ((st (st M17 (ch o0 17) (3 * (M17 o0 16)).toNat v1) (ch o0 17) ((3 * ((st M17 (ch o0 17) (3 * (M17 o0 16)).toNat v1) o0 16)) + 1).toNat v2) o0 16)) + 2).toNat 1) o0 16 (((st (st (st M17 (ch o0 17) (3 * (M17 o0 16)).toNat v1) (ch o0 17) ((3 * ((st M17 (ch o0 17) (3 * (M17 o0 16)).toNat v1) o0 16)) + 1).toNat v2) (ch o0 17) ((3 * ((st (st M17 (ch o0 17) (3 * (M17 o0 16)).toNat v1) (ch o0 17) ((3 * ((st M17 (ch o0 17) (3 * (M17 o0 16)).toNat v1) o0 16)) + 1).toNat v2) o0 16)) + 2).toNat 1) o0 16) + 1))))))))))))))))
theorem F_X8_knock : CalF yX8_knock cX8_knock 4 (some .int) 3 := ⟨w_837, w_9, by decide +kernel⟩
set_option maxRecDepth 100000 in
set_option maxHeartbeats 4000000 in
theorem c_X8_knock {l : Launch} {g : GP} (hj : Inj g) {N : Nat} {M : Mem} {o0 : Nat} {v1 : Int} {v2 : Int} {v3 : Int} (h0 : kd o0 = 8) {r : Int × Mem} (hf : f_X8_knock N o0 v1 v2 v3 M = some r) : Met l yX8_knock (Cond.code yX8_knock cX8_knock 4 (some .int) :: TB) (rmK 2 46) (PreW g M [rI g o0, iI v1, iI v2, iI v3]) (PostI g r.1 r.2) 0 0 (Ad g) := by
  unfold f_X8_knock at hf
  refine met_of (nL := 4) (cc := cX8_knock) (M := M) (by decide +kernel) hj (Nat.le_of_ble_eq_true rfl) ?_
  intro p e s m below meth c ls C hr hlk hI hl
  have C : Cx g p s m _ c cX8_knock 4 "LentGalleryModel" := C
  have hl : lv_has ls 4 [(0, rI g o0), (1, iI v1), (2, iI v2), (3, iI v3)] := hl
  have hQ := ret_i (l := l) (e := e) (R := (rmK 2 46)) (below := below) (r := r) C hr hlk (nar_i _)
  generalize s.heap = H, ([] : List Loc) = locs at hI ⊢
  refine r_aload_n C hl 0 dX8_knock_0 rfl rfl ?_
  refine r_iload_n C hl 1 dX8_knock_1 rfl rfl ?_
  refine r_calli (rest := []) hI hf (fun r M' h => run_V C hI F_X8_isPlace w_691 v_11 w_689 ⟨⟨Nat.le_of_ble_eq_true rfl, Nat.le_of_ble_eq_true rfl⟩, Nat.le_of_ble_eq_true rfl, Nat.le_of_ble_eq_true rfl⟩ (zX8 h0) (oX8 h0) rfl hl dX8_knock_2 [iI v1] rfl rfl (Nat.le_of_ble_eq_true rfl) (c_X8_isPlace C.2.2.2.2.2.2 h0 h)) (fun r2 M2 H locs hI hf => ?_)
  refine r_gd hf (fun q5_0 hf => ?_)
  refine r_if_ne C q5_0 (tgt := 11) dX8_knock_5 (by decide) hf (fun hf => ?_) (fun hf => ?_)
  · refine r_iload_n C hl 2 dX8_knock_11 rfl rfl ?_
    refine r_gd hf (fun q12_1 hf => ?_)
    refine r_i2l C q12_1 dX8_knock_12 ?_
    refine r_lconst C (v := 0) dX8_knock_13 rfl ?_
    refine r_ldc2 C (n := 20) w_816 rfl dX8_knock_14 ?_
    refine r_calli (rest := []) hI hf (fun r M' h => run_S C hI F_X8_in w_659 w_658 ⟨⟨Nat.le_of_ble_eq_true rfl, Nat.le_of_ble_eq_true rfl⟩, Nat.le_of_ble_eq_true rfl, Nat.le_of_ble_eq_true rfl⟩ hl dX8_knock_17 [lI v2, lI 0, lI 20] rfl rfl (Nat.le_of_ble_eq_true rfl) (c_X8_in C.2.2.2.2.2.2 h)) (fun r17 M17 H locs hI hf => ?_)
    refine r_gd hf (fun q20_2 hf => ?_)
    refine r_if_ne C q20_2 (tgt := 26) dX8_knock_20 (by decide) hf (fun hf => ?_) (fun hf => ?_)
    · refine r_aload_n C hl 0 dX8_knock_26 rfl rfl ?_
      refine g_8_16 C hI h0 w_578 dX8_knock_27 ?_
      refine r_bipush C dX8_knock_30 rfl ?_
      refine r_gd hf (fun q32_3 hf => ?_)
      refine r_ic_ne C q32_3 (by decide) (tgt := 38) dX8_knock_32 (by decide) hf (fun hf => ?_) (fun hf => ?_)
      · refine r_aload_n C hl 0 dX8_knock_38 rfl rfl ?_
        refine g_8_17 C hI h0 w_579 dX8_knock_39 ?_
        refine r_iconst C dX8_knock_42 ?_
        refine r_aload_n C hl 0 dX8_knock_43 rfl rfl ?_
        refine g_8_16 C hI h0 w_578 dX8_knock_44 ?_
        refine r_imul C dX8_knock_47 ?_
        refine r_iload_n C hl 1 dX8_knock_48 rfl rfl ?_
        refine r_gd hf (fun q49_4 hf => ?_)
        refine r_iast C hI 24 (n := 24) (k_8_17 h0) (by decide) rfl q49_4 dX8_knock_49 (fun H locs hI => ?_)
        refine r_aload_n C hl 0 dX8_knock_50 rfl rfl ?_
        refine g_8_17 C hI h0 w_579 dX8_knock_51 ?_
        refine r_iconst C dX8_knock_54 ?_
        refine r_aload_n C hl 0 dX8_knock_55 rfl rfl ?_
        refine g_8_16 C hI h0 w_578 dX8_knock_56 ?_
        refine r_imul C dX8_knock_59 ?_
        refine r_iconst C dX8_knock_60 ?_
        refine r_iadd C dX8_knock_61 ?_
        refine r_iload_n C hl 2 dX8_knock_62 rfl rfl ?_
        refine r_gd hf (fun q63_5 hf => ?_)
        refine r_iast C hI 24 (n := 24) (k_8_17 h0) (by decide) rfl q63_5 dX8_knock_63 (fun H locs hI => ?_)
        refine r_aload_n C hl 0 dX8_knock_64 rfl rfl ?_
        refine g_8_17 C hI h0 w_579 dX8_knock_65 ?_
        refine r_iconst C dX8_knock_68 ?_
        refine r_aload_n C hl 0 dX8_knock_69 rfl rfl ?_
        refine g_8_16 C hI h0 w_578 dX8_knock_70 ?_
        refine r_imul C dX8_knock_73 ?_
        refine r_iconst C dX8_knock_74 ?_
        refine r_iadd C dX8_knock_75 ?_
        refine r_iload_n C hl 3 dX8_knock_76 rfl rfl ?_
        refine r_gd hf (fun q77_6 hf => ?_)
        refine r_if_eq C q77_6 (tgt := 84) dX8_knock_77 (by decide) hf (fun hf => ?_) (fun hf => ?_)
        · refine r_iconst C dX8_knock_84 ?_
          refine r_gd hf (fun q85_7 hf => ?_)
          refine r_iast C hI 24 (n := 24) (k_8_17 h0) (by decide) rfl q85_7 dX8_knock_85 (fun H locs hI => ?_)
          refine r_aload_n C hl 0 dX8_knock_86 rfl rfl ?_
          refine r_dup C dX8_knock_87 rfl ?_
          refine g_8_16 C hI h0 w_578 dX8_knock_88 ?_
          refine r_iconst C dX8_knock_91 ?_
          refine r_iadd C dX8_knock_92 ?_
          refine p_8_16 C hI h0 w_578 dX8_knock_93 (fun H locs hI => ?_)
          refine r_aload_n C hl 0 dX8_knock_96 rfl rfl ?_
          refine g_8_16 C hI h0 w_578 dX8_knock_97 ?_
          exact r_iret hQ hf hI dX8_knock_100
        · refine r_iconst C dX8_knock_80 ?_
          refine r_goto C (tgt := 85) dX8_knock_81 (by decide) ?_
          refine r_gd hf (fun q85_7 hf => ?_)
          refine r_iast C hI 24 (n := 24) (k_8_17 h0) (by decide) rfl q85_7 dX8_knock_85 (fun H locs hI => ?_)
          refine r_aload_n C hl 0 dX8_knock_86 rfl rfl ?_
          refine r_dup C dX8_knock_87 rfl ?_
          refine g_8_16 C hI h0 w_578 dX8_knock_88 ?_
          refine r_iconst C dX8_knock_91 ?_
          refine r_iadd C dX8_knock_92 ?_
          refine p_8_16 C hI h0 w_578 dX8_knock_93 (fun H locs hI => ?_)
          refine r_aload_n C hl 0 dX8_knock_96 rfl rfl ?_
          refine g_8_16 C hI h0 w_578 dX8_knock_97 ?_
          exact r_iret hQ hf hI dX8_knock_100
      · refine r_bipush C dX8_knock_35 rfl ?_
        exact r_iret hQ hf hI dX8_knock_37
    · refine r_bipush C dX8_knock_23 rfl ?_
      exact r_iret hQ hf hI dX8_knock_25
  · refine r_bipush C dX8_knock_8 rfl ?_
    exact r_iret hQ hf hI dX8_knock_10
/-! X8_forget -/
def f_X8_forget (N : Nat) (o0 : Nat) (M : Mem) : Option (Int × Mem) := some (M o0 16, st M o0 16 0)
theorem F_X8_forget : CalF yX8_forget cX8_forget 2 (some .int) 0 := ⟨w_841, w_9, by decide +kernel⟩
set_option maxRecDepth 100000 in
set_option maxHeartbeats 4000000 in
theorem c_X8_forget {l : Launch} {g : GP} (hj : Inj g) {N : Nat} {M : Mem} {o0 : Nat} (h0 : kd o0 = 8) {r : Int × Mem} (hf : f_X8_forget N o0 M = some r) : Met l yX8_forget (Cond.code yX8_forget cX8_forget 2 (some .int) :: TB) (rmK 0 0) (PreW g M [rI g o0]) (PostI g r.1 r.2) 0 0 (Ad g) := by
  unfold f_X8_forget at hf
  refine met_of (nL := 2) (cc := cX8_forget) (M := M) (by decide +kernel) hj (Nat.le_of_ble_eq_true rfl) ?_
  intro p e s m below meth c ls C hr hlk hI hl
  have C : Cx g p s m _ c cX8_forget 2 "LentGalleryModel" := C
  have hl : lv_has ls 2 [(0, rI g o0)] := hl
  have hQ := ret_i (l := l) (e := e) (R := (rmK 0 0)) (below := below) (r := r) C hr hlk (nar_i _)
  generalize s.heap = H, ([] : List Loc) = locs at hI ⊢
  refine r_aload_n C hl 0 dX8_forget_0 rfl rfl ?_
  refine g_8_16 C hI h0 w_578 dX8_forget_1 ?_
  refine r_istore_n C hl (lv' := [(1, iI (M o0 16)), (0, rI g o0)]) dX8_forget_4 rfl (Nat.le_of_ble_eq_true rfl) rfl (fun ls hl => ?_)
  refine r_aload_n C hl 1 dX8_forget_5 rfl rfl ?_
  refine r_iconst C dX8_forget_6 ?_
  refine p_8_16 C hI h0 w_578 dX8_forget_7 (fun H locs hI => ?_)
  refine r_iload_n C hl 0 dX8_forget_10 rfl rfl ?_
  exact r_iret hQ hf hI dX8_forget_11
/-! X8_draw -/
def f_X8_draw (N : Nat) (o0 : Nat) (v1 : Int) (M : Mem) : Option (Int × Mem) := gd (inR (M o0 19)) (gd (inR v1 ∧ v1 ≠ 0) (some (i_rem (i_div ((st M o0 19 (l_and ((1103515245 * (M o0 19)) + 12345) 2147483647)) o0 19) 65536) v1, st M o0 19 (l_and ((1103515245 * (M o0 19)) + 12345) 2147483647))))
theorem F_X8_draw : CalF yX8_draw cX8_draw 2 (some .int) 1 := ⟨w_851, w_9, by decide +kernel⟩
set_option maxRecDepth 100000 in
set_option maxHeartbeats 4000000 in
theorem c_X8_draw {l : Launch} {g : GP} (hj : Inj g) {N : Nat} {M : Mem} {o0 : Nat} {v1 : Int} (h0 : kd o0 = 8) {r : Int × Mem} (hf : f_X8_draw N o0 v1 M = some r) : Met l yX8_draw (Cond.code yX8_draw cX8_draw 2 (some .int) :: TB) (rmK 0 0) (PreW g M [rI g o0, iI v1]) (PostI g r.1 r.2) 0 0 (Ad g) := by
  unfold f_X8_draw at hf
  refine met_of (nL := 2) (cc := cX8_draw) (M := M) (by decide +kernel) hj (Nat.le_of_ble_eq_true rfl) ?_
  intro p e s m below meth c ls C hr hlk hI hl
  have C : Cx g p s m _ c cX8_draw 2 "LentGalleryModel" := C
  have hl : lv_has ls 2 [(0, rI g o0), (1, iI v1)] := hl
  have hQ := ret_i (l := l) (e := e) (R := (rmK 0 0)) (below := below) (r := r) C hr hlk (nar_i _)
  generalize s.heap = H, ([] : List Loc) = locs at hI ⊢
  refine r_aload_n C hl 0 dX8_draw_0 rfl rfl ?_
  refine r_ldc2 C (n := 1103515245) w_852 rfl dX8_draw_1 ?_
  refine r_aload_n C hl 0 dX8_draw_4 rfl rfl ?_
  refine g_8_19 C hI h0 w_581 dX8_draw_5 ?_
  refine r_gd hf (fun q8_0 hf => ?_)
  refine r_i2l C q8_0 dX8_draw_8 ?_
  refine r_lmul C dX8_draw_9 ?_
  refine r_ldc2 C (n := 12345) w_853 rfl dX8_draw_10 ?_
  refine r_ladd C dX8_draw_13 ?_
  refine r_ldc2 C (n := 2147483647) w_854 rfl dX8_draw_14 ?_
  refine r_land C dX8_draw_17 ?_
  refine r_l2i C dX8_draw_18 ?_
  refine p_8_19 C hI h0 w_581 dX8_draw_19 (fun H locs hI => ?_)
  refine r_aload_n C hl 0 dX8_draw_22 rfl rfl ?_
  refine g_8_19 C hI h0 w_581 dX8_draw_23 ?_
  refine r_ldc C (n := 65536) w_855 rfl dX8_draw_26 ?_
  refine r_idiv C (by decide) dX8_draw_28 ?_
  refine r_iload_n C hl 1 dX8_draw_29 rfl rfl ?_
  refine r_gd hf (fun q30_1 hf => ?_)
  refine r_irem C q30_1 dX8_draw_30 ?_
  exact r_iret hQ hf hI dX8_draw_31
/-! X8_years -/
def f_X8_years_145 (N : Nat) (o0 : Nat) (v1 : Int) (v2 : Int) (v3 : Int) : Nat → Int → Int → Int → Int → Mem → Option (Int × Mem)
  | 0, _, _, _, _, _ => none
  | n + 1, v4, v5, v6, v7, M => gd (inR v7) (gd (inR (M o0 9)) (if (M o0 9) ≤ v7 then (gd (inR v3) (if v3 = 0 then (some (v4, M)) else (if v3 = 1 then (some (v6, M)) else (some (M o0 19, M))))) else (f_X8_years_145 N o0 v1 v2 v3 n v4 v5 (v6 + (i_and (i_shr v5 v7) 1)) (v7 + 1) M)))
def f_X8_years_56 (N : Nat) (o0 : Nat) (v1 : Int) (v2 : Int) (v3 : Int) : Nat → Int → Int → Mem → Option (Int × Mem)
  | 0, _, _, _ => none
  | n + 1, v4, v5, M => gd (inR v5) (gd (inR v1) (if v1 ≤ v5 then (bnd (f_X8_gasping N o0 M) (fun r134 M134 => f_X8_years_145 N o0 v1 v2 v3 N v4 r134 0 0 M134)) else (bnd (f_X8_draw N o0 (M o0 9) M) (fun r67 M67 => bnd (f_X8_draw N o0 6 M67) (fun r75 M75 => gd (0 ≤ r75 ∧ r75 < 6) (gd (inR (M75 (ch o0 12) r75.toNat)) (if (M75 (ch o0 12) r75.toNat) ≤ 0 then (gd (0 ≤ r67 ∧ r67 < 5) (bnd (f_X8_goesBy N o0 (st M75 (ch o0 11) r67.toNat (M75 (ch o0 11) r67.toNat))) (fun r121 M121 => f_X8_years_56 N o0 v1 v2 v3 n (v4 + r121) (v5 + 1) M121))) else (bnd (f_X8_isCutOff N o0 r67 M75) (fun r99 M99 => gd (inR r99) (if r99 = 0 then (gd (0 ≤ r67 ∧ r67 < 5) (bnd (f_X8_goesBy N o0 (st M99 (ch o0 11) r67.toNat r75)) (fun r121 M121 => f_X8_years_56 N o0 v1 v2 v3 n (v4 + r121) (v5 + 1) M121))) else (gd (0 ≤ r67 ∧ r67 < 5) (bnd (f_X8_goesBy N o0 (st M99 (ch o0 11) r67.toNat (M99 (ch o0 11) r67.toNat))) (fun r121 M121 => f_X8_years_56 N o0 v1 v2 v3 n (v4 + r121) (v5 + 1) M121)))))))))))))
def f_X8_years (N : Nat) (o0 : Nat) (v1 : Int) (v2 : Int) (v3 : Int) (M : Mem) : Option (Int × Mem) := gd (inR v1) (bnd (f_X8_in N v1 1 60 M) (fun r6 M6 => gd (inR r6) (if r6 = 0 then (some (-102, M6)) else (gd (inR v2) (if v2 < 0 then (some (-102, M6)) else (gd (inR v3) (bnd (f_X8_in N v3 0 2 M6) (fun r22 M22 => gd (inR r22) (if r22 = 0 then (some (-102, M22)) else (gd (inR (M22 o0 9)) (if (M22 o0 9) = 0 then (some (-103, M22)) else (bnv (f_X8_asItIs N o0 M22) (fun M42 => f_X8_years_56 N o0 v1 v2 v3 N 0 0 (st M42 o0 19 v2))))))))))))))
theorem F_X8_years : CalF yX8_years cX8_years 8 (some .int) 3 := ⟨w_845, w_9, by decide +kernel⟩
set_option maxRecDepth 100000 in
set_option maxHeartbeats 4000000 in
theorem t_X8_years_145 {g : GP} {p : Program} {l : Launch} {e : Env} {s : State} {m : MethodId} {args : Array Value} {below : List Frame} {meth : Method} {c : Code} {Q : State → Prop} {N : Nat} {o0 : Nat} {v1 : Int} {v2 : Int} {v3 : Int} (h0 : kd o0 = 8) (C : Cx g p s m args c cX8_years 8 "LentGalleryModel") {r : Int × Mem} (hQ : RetI g p l e (rmK 4 91) s m args below meth c cX8_years r Q) : ∀ (n : Nat) (v4 v5 v6 v7 : Int) (M : Mem) (H : Heap) (locs : List Loc) (ls : Array Slot), f_X8_years_145 N o0 v1 v2 v3 n v4 v5 v6 v7 M = some r → Inv g s M H locs → lv_has ls 8 [(0, rI g o0), (3, iI v3), (4, iI v4), (5, iI v5), (6, iI v6), (7, iI v7)] → W p l e (rmK 4 91) s m args below meth c H locs 0 0 Q (F0 m 145 ls []) := by
  intro n
  induction n with
  | zero =>
    intro v4 v5 v6 v7 M H locs ls hf hI hl
    cases hf
  | succ n ih =>
    intro v4 v5 v6 v7 M H locs ls hf hI hl
    rw [f_X8_years_145] at hf
    refine r_iload C hl 5 dX8_years_145 rfl ?_
    refine r_aload_n C hl 0 dX8_years_147 rfl rfl ?_
    refine g_8_9 C hI h0 w_571 dX8_years_148 ?_
    refine r_gd hf (fun q151_0 hf => ?_)
    refine r_gd hf (fun q151_1 hf => ?_)
    refine r_ic_ge C q151_0 q151_1 (tgt := 172) dX8_years_151 (by decide) hf (fun hf => ?_) (fun hf => ?_)
    · refine r_iload_n C hl 1 dX8_years_172 rfl rfl ?_
      refine r_gd hf (fun q173_2 hf => ?_)
      refine r_if_ne C q173_2 (tgt := 181) dX8_years_173 (by decide) hf (fun hf => ?_) (fun hf => ?_)
      · refine r_iload_n C hl 1 dX8_years_181 rfl rfl ?_
        refine r_iconst C dX8_years_182 ?_
        refine r_ic_ne C q173_2 (by decide) (tgt := 191) dX8_years_183 (by decide) hf (fun hf => ?_) (fun hf => ?_)
        · refine r_aload_n C hl 0 dX8_years_191 rfl rfl ?_
          refine g_8_19 C hI h0 w_581 dX8_years_192 ?_
          exact r_iret hQ hf hI dX8_years_195
        · refine r_iload C hl 4 dX8_years_186 rfl ?_
          refine r_goto C (tgt := 195) dX8_years_188 (by decide) ?_
          exact r_iret hQ hf hI dX8_years_195
      · refine r_iload C hl 2 dX8_years_176 rfl ?_
        refine r_goto C (tgt := 195) dX8_years_178 (by decide) ?_
        exact r_iret hQ hf hI dX8_years_195
    · refine r_iload C hl 4 dX8_years_154 rfl ?_
      refine r_iload C hl 3 dX8_years_156 rfl ?_
      refine r_iload C hl 5 dX8_years_158 rfl ?_
      refine r_ishr C dX8_years_160 ?_
      refine r_iconst C dX8_years_161 ?_
      refine r_iand C dX8_years_162 ?_
      refine r_iadd C dX8_years_163 ?_
      refine r_istore C hl (lv' := [(6, iI (v6 + (i_and (i_shr v5 v7) 1))), (0, rI g o0), (3, iI v3), (4, iI v4), (5, iI v5), (7, iI v7)]) dX8_years_164 (Nat.le_of_ble_eq_true rfl) rfl (fun ls hl => ?_)
      refine r_iinc C hl (lv' := [(7, iI (v7 + 1)), (6, iI (v6 + (i_and (i_shr v5 v7) 1))), (0, rI g o0), (3, iI v3), (4, iI v4), (5, iI v5)]) 5 dX8_years_166 rfl (Nat.le_of_ble_eq_true rfl) rfl (fun ls hl => ?_)
      refine r_goto C (tgt := 145) dX8_years_169 (by decide) ?_
      exact ih _ _ _ _ _ _ _ _ hf hI (lv_sub hl [2, 3, 4, 5, 1, 0] rfl)
set_option maxRecDepth 100000 in
set_option maxHeartbeats 4000000 in
theorem t_X8_years_56 {g : GP} {p : Program} {l : Launch} {e : Env} {s : State} {m : MethodId} {args : Array Value} {below : List Frame} {meth : Method} {c : Code} {Q : State → Prop} {N : Nat} {o0 : Nat} {v1 : Int} {v2 : Int} {v3 : Int} (h0 : kd o0 = 8) (C : Cx g p s m args c cX8_years 8 "LentGalleryModel") {r : Int × Mem} (hQ : RetI g p l e (rmK 4 91) s m args below meth c cX8_years r Q) : ∀ (n : Nat) (v4 v5 : Int) (M : Mem) (H : Heap) (locs : List Loc) (ls : Array Slot), f_X8_years_56 N o0 v1 v2 v3 n v4 v5 M = some r → Inv g s M H locs → lv_has ls 8 [(0, rI g o0), (1, iI v1), (3, iI v3), (4, iI v4), (5, iI v5)] → W p l e (rmK 4 91) s m args below meth c H locs 0 0 Q (F0 m 56 ls []) := by
  intro n
  induction n with
  | zero =>
    intro v4 v5 M H locs ls hf hI hl
    cases hf
  | succ n ih =>
    intro v4 v5 M H locs ls hf hI hl
    rw [f_X8_years_56] at hf
    refine r_iload C hl 4 dX8_years_56 rfl ?_
    refine r_iload_n C hl 1 dX8_years_58 rfl rfl ?_
    refine r_gd hf (fun q59_0 hf => ?_)
    refine r_gd hf (fun q59_1 hf => ?_)
    refine r_ic_ge C q59_0 q59_1 (tgt := 133) dX8_years_59 (by decide) hf (fun hf => ?_) (fun hf => ?_)
    · refine r_aload_n C hl 0 dX8_years_133 rfl rfl ?_
      refine r_calli (rest := []) hI hf (fun r M' h => run_V C hI F_X8_gasping w_773 v_25 w_771 ⟨⟨Nat.le_of_ble_eq_true rfl, Nat.le_of_ble_eq_true rfl⟩, Nat.le_of_ble_eq_true rfl, Nat.le_of_ble_eq_true rfl⟩ (zX8 h0) (oX8 h0) rfl hl dX8_years_134 [] rfl rfl (Nat.le_of_ble_eq_true rfl) (c_X8_gasping C.2.2.2.2.2.2 h0 h)) (fun r134 M134 H locs hI hf => ?_)
      refine r_istore C hl (lv' := [(5, iI r134), (0, rI g o0), (1, iI v1), (3, iI v3), (4, iI v4)]) dX8_years_137 (Nat.le_of_ble_eq_true rfl) rfl (fun ls hl => ?_)
      refine r_iconst C dX8_years_139 ?_
      refine r_istore C hl (lv' := [(6, iI 0), (5, iI r134), (0, rI g o0), (1, iI v1), (3, iI v3), (4, iI v4)]) dX8_years_140 (Nat.le_of_ble_eq_true rfl) rfl (fun ls hl => ?_)
      refine r_iconst C dX8_years_142 ?_
      refine r_istore C hl (lv' := [(7, iI 0), (6, iI 0), (5, iI r134), (0, rI g o0), (1, iI v1), (3, iI v3), (4, iI v4)]) dX8_years_143 (Nat.le_of_ble_eq_true rfl) rfl (fun ls hl => ?_)
      exact t_X8_years_145 h0 C hQ _ _ _ _ _ _ _ _ _ hf hI (lv_sub hl [3, 5, 6, 2, 1, 0] rfl)
    · refine r_aload_n C hl 0 dX8_years_62 rfl rfl ?_
      refine r_aload_n C hl 0 dX8_years_63 rfl rfl ?_
      refine g_8_9 C hI h0 w_571 dX8_years_64 ?_
      refine r_calli (rest := []) hI hf (fun r M' h => run_V C hI F_X8_draw w_850 v_32 w_848 ⟨⟨Nat.le_of_ble_eq_true rfl, Nat.le_of_ble_eq_true rfl⟩, Nat.le_of_ble_eq_true rfl, Nat.le_of_ble_eq_true rfl⟩ (zX8 h0) (oX8 h0) rfl hl dX8_years_67 [iI (M o0 9)] rfl rfl (Nat.le_of_ble_eq_true rfl) (c_X8_draw C.2.2.2.2.2.2 h0 h)) (fun r67 M67 H locs hI hf => ?_)
      refine r_istore C hl (lv' := [(6, iI r67), (0, rI g o0), (1, iI v1), (3, iI v3), (4, iI v4), (5, iI v5)]) dX8_years_70 (Nat.le_of_ble_eq_true rfl) rfl (fun ls hl => ?_)
      refine r_aload_n C hl 1 dX8_years_72 rfl rfl ?_
      refine r_bipush C dX8_years_73 rfl ?_
      refine r_calli (rest := []) hI hf (fun r M' h => run_V C hI F_X8_draw w_850 v_32 w_848 ⟨⟨Nat.le_of_ble_eq_true rfl, Nat.le_of_ble_eq_true rfl⟩, Nat.le_of_ble_eq_true rfl, Nat.le_of_ble_eq_true rfl⟩ (zX8 h0) (oX8 h0) rfl hl dX8_years_75 [iI 6] rfl rfl (Nat.le_of_ble_eq_true rfl) (c_X8_draw C.2.2.2.2.2.2 h0 h)) (fun r75 M75 H locs hI hf => ?_)
      refine r_istore C hl (lv' := [(7, iI r75), (6, iI r67), (0, rI g o0), (1, iI v1), (3, iI v3), (4, iI v4), (5, iI v5)]) dX8_years_78 (Nat.le_of_ble_eq_true rfl) rfl (fun ls hl => ?_)
      refine r_aload_n C hl 2 dX8_years_80 rfl rfl ?_
      refine g_8_11 C hI h0 w_573 dX8_years_81 ?_
      refine r_iload C hl 1 dX8_years_84 rfl ?_
      refine r_aload_n C hl 2 dX8_years_86 rfl rfl ?_
      refine g_8_12 C hI h0 w_574 dX8_years_87 ?_
      refine r_iload C hl 0 dX8_years_90 rfl ?_
      refine r_gd hf (fun q92_2 hf => ?_)
      refine r_iald C hI 6 (n := 6) (k_8_12 h0) (by decide) rfl q92_2 dX8_years_92 ?_
      refine r_gd hf (fun q93_3 hf => ?_)
      refine r_if_le C q93_3 (tgt := 110) dX8_years_93 (by decide) hf (fun hf => ?_) (fun hf => ?_)
      · refine r_aload_n C hl 2 dX8_years_110 rfl rfl ?_
        refine g_8_11 C hI h0 w_573 dX8_years_111 ?_
        refine r_iload C hl 1 dX8_years_114 rfl ?_
        refine r_gd hf (fun q116_4 hf => ?_)
        refine r_iald C hI 5 (n := 5) (k_8_11 h0) (by decide) rfl q116_4 dX8_years_116 ?_
        refine r_iast C hI 5 (n := 5) (k_8_11 h0) (by decide) rfl q116_4 dX8_years_117 (fun H locs hI => ?_)
        refine r_iload C hl 5 dX8_years_118 rfl ?_
        refine r_aload_n C hl 2 dX8_years_120 rfl rfl ?_
        refine r_calli (rest := [iI v4]) hI hf (fun r M' h => run_V C hI F_X8_goesBy w_737 v_20 w_735 ⟨⟨Nat.le_of_ble_eq_true rfl, Nat.le_of_ble_eq_true rfl⟩, Nat.le_of_ble_eq_true rfl, Nat.le_of_ble_eq_true rfl⟩ (zX8 h0) (oX8 h0) rfl hl dX8_years_121 [] rfl rfl (Nat.le_of_ble_eq_true rfl) (c_X8_goesBy C.2.2.2.2.2.2 h0 h)) (fun r121 M121 H locs hI hf => ?_)
        refine r_iadd C dX8_years_124 ?_
        refine r_istore C hl (lv' := [(4, iI (v4 + r121)), (7, iI r75), (6, iI r67), (0, rI g o0), (1, iI v1), (3, iI v3), (5, iI v5)]) dX8_years_125 (Nat.le_of_ble_eq_true rfl) rfl (fun ls hl => ?_)
        refine r_iinc C hl (lv' := [(5, iI (v5 + 1)), (4, iI (v4 + r121)), (7, iI r75), (6, iI r67), (0, rI g o0), (1, iI v1), (3, iI v3)]) 6 dX8_years_127 rfl (Nat.le_of_ble_eq_true rfl) rfl (fun ls hl => ?_)
        refine r_goto C (tgt := 56) dX8_years_130 (by decide) ?_
        exact ih _ _ _ _ _ _ hf hI (lv_sub hl [4, 5, 6, 1, 0] rfl)
      · refine r_aload_n C hl 2 dX8_years_96 rfl rfl ?_
        refine r_iload C hl 1 dX8_years_97 rfl ?_
        refine r_calli (rest := [iI r67, rI g (ch o0 11)]) hI hf (fun r M' h => run_V C hI F_X8_isCutOff w_769 v_24 w_767 ⟨⟨Nat.le_of_ble_eq_true rfl, Nat.le_of_ble_eq_true rfl⟩, Nat.le_of_ble_eq_true rfl, Nat.le_of_ble_eq_true rfl⟩ (zX8 h0) (oX8 h0) rfl hl dX8_years_99 [iI r67] rfl rfl (Nat.le_of_ble_eq_true rfl) (c_X8_isCutOff C.2.2.2.2.2.2 h0 h)) (fun r99 M99 H locs hI hf => ?_)
        refine r_gd hf (fun q102_4 hf => ?_)
        refine r_if_ne C q102_4 (tgt := 110) dX8_years_102 (by decide) hf (fun hf => ?_) (fun hf => ?_)
        · refine r_aload_n C hl 2 dX8_years_110 rfl rfl ?_
          refine g_8_11 C hI h0 w_573 dX8_years_111 ?_
          refine r_iload C hl 1 dX8_years_114 rfl ?_
          refine r_gd hf (fun q116_5 hf => ?_)
          refine r_iald C hI 5 (n := 5) (k_8_11 h0) (by decide) rfl q116_5 dX8_years_116 ?_
          refine r_iast C hI 5 (n := 5) (k_8_11 h0) (by decide) rfl q116_5 dX8_years_117 (fun H locs hI => ?_)
          refine r_iload C hl 5 dX8_years_118 rfl ?_
          refine r_aload_n C hl 2 dX8_years_120 rfl rfl ?_
          refine r_calli (rest := [iI v4]) hI hf (fun r M' h => run_V C hI F_X8_goesBy w_737 v_20 w_735 ⟨⟨Nat.le_of_ble_eq_true rfl, Nat.le_of_ble_eq_true rfl⟩, Nat.le_of_ble_eq_true rfl, Nat.le_of_ble_eq_true rfl⟩ (zX8 h0) (oX8 h0) rfl hl dX8_years_121 [] rfl rfl (Nat.le_of_ble_eq_true rfl) (c_X8_goesBy C.2.2.2.2.2.2 h0 h)) (fun r121 M121 H locs hI hf => ?_)
          refine r_iadd C dX8_years_124 ?_
          refine r_istore C hl (lv' := [(4, iI (v4 + r121)), (7, iI r75), (6, iI r67), (0, rI g o0), (1, iI v1), (3, iI v3), (5, iI v5)]) dX8_years_125 (Nat.le_of_ble_eq_true rfl) rfl (fun ls hl => ?_)
          refine r_iinc C hl (lv' := [(5, iI (v5 + 1)), (4, iI (v4 + r121)), (7, iI r75), (6, iI r67), (0, rI g o0), (1, iI v1), (3, iI v3)]) 6 dX8_years_127 rfl (Nat.le_of_ble_eq_true rfl) rfl (fun ls hl => ?_)
          refine r_goto C (tgt := 56) dX8_years_130 (by decide) ?_
          exact ih _ _ _ _ _ _ hf hI (lv_sub hl [4, 5, 6, 1, 0] rfl)
        · refine r_iload C hl 0 dX8_years_105 rfl ?_
          refine r_goto C (tgt := 117) dX8_years_107 (by decide) ?_
          refine r_gd hf (fun q117_5 hf => ?_)
          refine r_iast C hI 5 (n := 5) (k_8_11 h0) (by decide) rfl q117_5 dX8_years_117 (fun H locs hI => ?_)
          refine r_iload C hl 5 dX8_years_118 rfl ?_
          refine r_aload_n C hl 2 dX8_years_120 rfl rfl ?_
          refine r_calli (rest := [iI v4]) hI hf (fun r M' h => run_V C hI F_X8_goesBy w_737 v_20 w_735 ⟨⟨Nat.le_of_ble_eq_true rfl, Nat.le_of_ble_eq_true rfl⟩, Nat.le_of_ble_eq_true rfl, Nat.le_of_ble_eq_true rfl⟩ (zX8 h0) (oX8 h0) rfl hl dX8_years_121 [] rfl rfl (Nat.le_of_ble_eq_true rfl) (c_X8_goesBy C.2.2.2.2.2.2 h0 h)) (fun r121 M121 H locs hI hf => ?_)
          refine r_iadd C dX8_years_124 ?_
          refine r_istore C hl (lv' := [(4, iI (v4 + r121)), (7, iI r75), (6, iI r67), (0, rI g o0), (1, iI v1), (3, iI v3), (5, iI v5)]) dX8_years_125 (Nat.le_of_ble_eq_true rfl) rfl (fun ls hl => ?_)
          refine r_iinc C hl (lv' := [(5, iI (v5 + 1)), (4, iI (v4 + r121)), (7, iI r75), (6, iI r67), (0, rI g o0), (1, iI v1), (3, iI v3)]) 6 dX8_years_127 rfl (Nat.le_of_ble_eq_true rfl) rfl (fun ls hl => ?_)
          refine r_goto C (tgt := 56) dX8_years_130 (by decide) ?_
          exact ih _ _ _ _ _ _ hf hI (lv_sub hl [4, 5, 6, 1, 0] rfl)
set_option maxRecDepth 100000 in
set_option maxHeartbeats 4000000 in
theorem c_X8_years {l : Launch} {g : GP} (hj : Inj g) {N : Nat} {M : Mem} {o0 : Nat} {v1 : Int} {v2 : Int} {v3 : Int} (h0 : kd o0 = 8) {r : Int × Mem} (hf : f_X8_years N o0 v1 v2 v3 M = some r) : Met l yX8_years (Cond.code yX8_years cX8_years 8 (some .int) :: TB) (rmK 4 91) (PreW g M [rI g o0, iI v1, iI v2, iI v3]) (PostI g r.1 r.2) 0 0 (Ad g) := by
  unfold f_X8_years at hf
  refine met_of (nL := 8) (cc := cX8_years) (M := M) (by decide +kernel) hj (Nat.le_of_ble_eq_true rfl) ?_
  intro p e s m below meth c ls C hr hlk hI hl
  have C : Cx g p s m _ c cX8_years 8 "LentGalleryModel" := C
  have hl : lv_has ls 8 [(0, rI g o0), (1, iI v1), (2, iI v2), (3, iI v3)] := hl
  have hQ := ret_i (l := l) (e := e) (R := (rmK 4 91)) (below := below) (r := r) C hr hlk (nar_i _)
  generalize s.heap = H, ([] : List Loc) = locs at hI ⊢
  refine r_iload_n C hl 1 dX8_years_0 rfl rfl ?_
  refine r_gd hf (fun q1_0 hf => ?_)
  refine r_i2l C q1_0 dX8_years_1 ?_
  refine r_lconst C (v := 1) dX8_years_2 rfl ?_
  refine r_ldc2 C (n := 60) w_846 rfl dX8_years_3 ?_
  refine r_calli (rest := []) hI hf (fun r M' h => run_S C hI F_X8_in w_659 w_658 ⟨⟨Nat.le_of_ble_eq_true rfl, Nat.le_of_ble_eq_true rfl⟩, Nat.le_of_ble_eq_true rfl, Nat.le_of_ble_eq_true rfl⟩ hl dX8_years_6 [lI v1, lI 1, lI 60] rfl rfl (Nat.le_of_ble_eq_true rfl) (c_X8_in C.2.2.2.2.2.2 h)) (fun r6 M6 H locs hI hf => ?_)
  refine r_gd hf (fun q9_1 hf => ?_)
  refine r_if_eq C q9_1 (tgt := 28) dX8_years_9 (by decide) hf (fun hf => ?_) (fun hf => ?_)
  · refine r_bipush C dX8_years_28 rfl ?_
    exact r_iret hQ hf hI dX8_years_30
  · refine r_iload_n C hl 2 dX8_years_12 rfl rfl ?_
    refine r_gd hf (fun q13_2 hf => ?_)
    refine r_if_lt C q13_2 (tgt := 28) dX8_years_13 (by decide) hf (fun hf => ?_) (fun hf => ?_)
    · refine r_bipush C dX8_years_28 rfl ?_
      exact r_iret hQ hf hI dX8_years_30
    · refine r_iload_n C hl 3 dX8_years_16 rfl rfl ?_
      refine r_gd hf (fun q17_3 hf => ?_)
      refine r_i2l C q17_3 dX8_years_17 ?_
      refine r_lconst C (v := 0) dX8_years_18 rfl ?_
      refine r_ldc2 C (n := 2) w_847 rfl dX8_years_19 ?_
      refine r_calli (rest := []) hI hf (fun r M' h => run_S C hI F_X8_in w_659 w_658 ⟨⟨Nat.le_of_ble_eq_true rfl, Nat.le_of_ble_eq_true rfl⟩, Nat.le_of_ble_eq_true rfl, Nat.le_of_ble_eq_true rfl⟩ hl dX8_years_22 [lI v3, lI 0, lI 2] rfl rfl (Nat.le_of_ble_eq_true rfl) (c_X8_in C.2.2.2.2.2.2 h)) (fun r22 M22 H locs hI hf => ?_)
      refine r_gd hf (fun q25_4 hf => ?_)
      refine r_if_ne C q25_4 (tgt := 31) dX8_years_25 (by decide) hf (fun hf => ?_) (fun hf => ?_)
      · refine r_aload_n C hl 0 dX8_years_31 rfl rfl ?_
        refine g_8_9 C hI h0 w_571 dX8_years_32 ?_
        refine r_gd hf (fun q35_5 hf => ?_)
        refine r_if_ne C q35_5 (tgt := 41) dX8_years_35 (by decide) hf (fun hf => ?_) (fun hf => ?_)
        · refine r_aload_n C hl 0 dX8_years_41 rfl rfl ?_
          refine r_callv (rest := []) hI hf (fun M' h => run_V C hI F_X8_asItIs w_704 v_14 w_702 ⟨⟨Nat.le_of_ble_eq_true rfl, Nat.le_of_ble_eq_true rfl⟩, Nat.le_of_ble_eq_true rfl, Nat.le_of_ble_eq_true rfl⟩ (zX8 h0) (oX8 h0) rfl hl dX8_years_42 [] rfl rfl (Nat.le_of_ble_eq_true rfl) (c_X8_asItIs C.2.2.2.2.2.2 h0 h)) (fun M42 H locs hI hf => ?_)
          refine r_aload_n C hl 0 dX8_years_45 rfl rfl ?_
          refine r_iload_n C hl 2 dX8_years_46 rfl rfl ?_
          refine p_8_19 C hI h0 w_581 dX8_years_47 (fun H locs hI => ?_)
          refine r_iconst C dX8_years_50 ?_
          refine r_istore C hl (lv' := [(4, iI 0), (0, rI g o0), (1, iI v1), (2, iI v2), (3, iI v3)]) dX8_years_51 (Nat.le_of_ble_eq_true rfl) rfl (fun ls hl => ?_)
          refine r_iconst C dX8_years_53 ?_
          refine r_istore C hl (lv' := [(5, iI 0), (4, iI 0), (0, rI g o0), (1, iI v1), (2, iI v2), (3, iI v3)]) dX8_years_54 (Nat.le_of_ble_eq_true rfl) rfl (fun ls hl => ?_)
          exact t_X8_years_56 h0 C hQ _ _ _ _ _ _ _ hf hI (lv_sub hl [2, 3, 5, 1, 0] rfl)
        · refine r_bipush C dX8_years_38 rfl ?_
          exact r_iret hQ hf hI dX8_years_40
      · refine r_bipush C dX8_years_28 rfl ?_
        exact r_iret hQ hf hI dX8_years_30
/-! X8_image -/
def f_X8_image (N : Nat) (o0 : Nat) (M : Mem) : Option (Int × Mem) := bnd (f_X8_lacks N o0 M) (fun r1 M1 => gd (inR r1) (if r1 = 0 then (bnv (f_X8_copy N (ch o0 8) (ch o0 26) M1) (fun M18 => bnv (f_X8_copy N (ch o0 10) (ch o0 27) M18) (fun M29 => bnv (f_X8_copy N (ch o0 17) (ch o0 28) M29) (fun M40 => some ((st (st (st (st (st (st M40 o0 21 (M40 o0 9)) o0 22 ((st M40 o0 21 (M40 o0 9)) o0 4)) o0 23 ((st (st M40 o0 21 (M40 o0 9)) o0 22 ((st M40 o0 21 (M40 o0 9)) o0 4)) o0 5)) o0 24 ((st (st (st M40 o0 21 (M40 o0 9)) o0 22 ((st M40 o0 21 (M40 o0 9)) o0 4)) o0 23 ((st (st M40 o0 21 (M40 o0 9)) o0 22 ((st M40 o0 21 (M40 o0 9)) o0 4)) o0 5)) o0 6)) o0 25 ((st (st (st (st M40 o0 21 (M40 o0 9)) o0 22 ((st M40 o0 21 (M40 o0 9)) o0 4)) o0 23 ((st (st M40 o0 21 (M40 o0 9)) o0 22 ((st M40 o0 21 (M40 o0 9)) o0 4)) o0 5)) o0 24 ((st (st (st M40 o0 21 (M40 o0 9)) o0 22 ((st M40 o0 21 (M40 o0 9)) o0 4)) o0 23 ((st (st M40 o0 21 (M40 o0 9)) o0 22 ((st M40 o0 21 (M40 o0 9)) o0 4)) o0 5)) o0 6)) o0 16)) o0 20 ((st (st (st (st (st M40 o0 21 (M40 o0 9)) o0 22 ((st M40 o0 21 (M40 o0 9)) o0 4)) o0 23 ((st (st M40 o0 21 (M40 o0 9)) o0 22 ((st M40 o0 21 (M40 o0 9)) o0 4)) o0 5)) o0 24 ((st (st (st M40 o0 21 (M40 o0 9)) o0 22 ((st M40 o0 21 (M40 o0 9)) o0 4)) o0 23 ((st (st M40 o0 21 (M40 o0 9)) o0 22 ((st M40 o0 21 (M40 o0 9)) o0 4)) o0 5)) o0 6)) o0 25 ((st (st (st (st M40 o0 21 (M40 o0 9)) o0 22 ((st M40 o0 21 (M40 o0 9)) o0 4)) o0 23 ((st (st M40 o0 21 (M40 o0 9)) o0 22 ((st M40 o0 21 (M40 o0 9)) o0 4)) o0 5)) o0 24 ((st (st (st M40 o0 21 (M40 o0 9)) o0 22 ((st M40 o0 21 (M40 o0 9)) o0 4)) o0 23 ((st (st M40 o0 21 (M40 o0 9)) o0 22 ((st M40 o0 21 (M40 o0 9)) o0 4)) o0 5)) o0 6)) o0 16)) o0 7)) o0 4, st (st (st (st (st (st M40 o0 21 (M40 o0 9)) o0 22 ((st M40 o0 21 (M40 o0 9)) o0 4)) o0 23 ((st (st M40 o0 21 (M40 o0 9)) o0 22 ((st M40 o0 21 (M40 o0 9)) o0 4)) o0 5)) o0 24 ((st (st (st M40 o0 21 (M40 o0 9)) o0 22 ((st M40 o0 21 (M40 o0 9)) o0 4)) o0 23 ((st (st M40 o0 21 (M40 o0 9)) o0 22 ((st M40 o0 21 (M40 o0 9)) o0 4)) o0 5)) o0 6)) o0 25 ((st (st (st (st M40 o0 21 (M40 o0 9)) o0 22 ((st M40 o0 21 (M40 o0 9)) o0 4)) o0 23 ((st (st M40 o0 21 (M40 o0 9)) o0 22 ((st M40 o0 21 (M40 o0 9)) o0 4)) o0 5)) o0 24 ((st (st (st M40 o0 21 (M40 o0 9)) o0 22 ((st M40 o0 21 (M40 o0 9)) o0 4)) o0 23 ((st (st M40 o0 21 (M40 o0 9)) o0 22 ((st M40 o0 21 (M40 o0 9)) o0 4)) o0 5)) o0 6)) o0 16)) o0 20 ((st (st (st (st (st M40 o0 21 (M40 o0 9)) o0 22 ((st M40 o0 21 (M40 o0 9)) o0 4)) o0 23 ((st (st M40 o0 21 (M40 o0 9)) o0 22 ((st M40 o0 21 (M40 o0 9)) o0 4)) o0 5)) o0 24 ((st (st (st M40 o0 21 (M40 o0 9)) o0 22 ((st M40 o0 21 (M40 o0 9)) o0 4)) o0 23 ((st (st M40 o0 21 (M40 o0 9)) o0 22 ((st M40 o0 21 (M40 o0 9)) o0 4)) o0 5)) o0 6)) o0 25 ((st (st (st (st M40 o0 21 (M40 o0 9)) o0 22 ((st M40 o0 21 (M40 o0 9)) o0 4)) o0 23 ((st (st M40 o0 21 (M40 o0 9)) o0 22 ((st M40 o0 21 (M40 o0 9)) o0 4)) o0 5)) o0 24 ((st (st (st M40 o0 21 (M40 o0 9)) o0 22 ((st M40 o0 21 (M40 o0 9)) o0 4)) o0 23 ((st (st M40 o0 21 (M40 o0 9)) o0 22 ((st M40 o0 21 (M40 o0 9)) o0 4)) o0 5)) o0 6)) o0 16)) o0 7)))))) else (some (-103, M1))))
theorem F_X8_image : CalF yX8_image cX8_image 1 (some .int) 0 := ⟨w_859, w_9, by decide +kernel⟩
set_option maxRecDepth 100000 in
set_option maxHeartbeats 4000000 in
theorem c_X8_image {l : Launch} {g : GP} (hj : Inj g) {N : Nat} {M : Mem} {o0 : Nat} (h0 : kd o0 = 8) {r : Int × Mem} (hf : f_X8_image N o0 M = some r) : Met l yX8_image (Cond.code yX8_image cX8_image 1 (some .int) :: TB) (rmK 1 22) (PreW g M [rI g o0]) (PostI g r.1 r.2) 0 0 (Ad g) := by
  unfold f_X8_image at hf
  refine met_of (nL := 1) (cc := cX8_image) (M := M) (by decide +kernel) hj (Nat.le_of_ble_eq_true rfl) ?_
  intro p e s m below meth c ls C hr hlk hI hl
  have C : Cx g p s m _ c cX8_image 1 "LentGalleryModel" := C
  have hl : lv_has ls 1 [(0, rI g o0)] := hl
  have hQ := ret_i (l := l) (e := e) (R := (rmK 1 22)) (below := below) (r := r) C hr hlk (nar_i _)
  generalize s.heap = H, ([] : List Loc) = locs at hI ⊢
  refine r_aload_n C hl 0 dX8_image_0 rfl rfl ?_
  refine r_calli (rest := []) hI hf (fun r M' h => run_V C hI F_X8_lacks w_695 v_12 w_693 ⟨⟨Nat.le_of_ble_eq_true rfl, Nat.le_of_ble_eq_true rfl⟩, Nat.le_of_ble_eq_true rfl, Nat.le_of_ble_eq_true rfl⟩ (zX8 h0) (oX8 h0) rfl hl dX8_image_1 [] rfl rfl (Nat.le_of_ble_eq_true rfl) (c_X8_lacks C.2.2.2.2.2.2 h0 h)) (fun r1 M1 H locs hI hf => ?_)
  refine r_gd hf (fun q4_0 hf => ?_)
  refine r_if_eq C q4_0 (tgt := 10) dX8_image_4 (by decide) hf (fun hf => ?_) (fun hf => ?_)
  · refine r_aload_n C hl 0 dX8_image_10 rfl rfl ?_
    refine g_8_8 C hI h0 w_570 dX8_image_11 ?_
    refine r_aload_n C hl 0 dX8_image_14 rfl rfl ?_
    refine g_8_26 C hI h0 w_588 dX8_image_15 ?_
    refine r_callv (rest := []) hI hf (fun M' h => run_S C hI F_X8_copy w_707 w_706 ⟨⟨Nat.le_of_ble_eq_true rfl, Nat.le_of_ble_eq_true rfl⟩, Nat.le_of_ble_eq_true rfl, Nat.le_of_ble_eq_true rfl⟩ hl dX8_image_18 [rI g (ch o0 8), rI g (ch o0 26)] rfl rfl (Nat.le_of_ble_eq_true rfl) (c_X8_copy C.2.2.2.2.2.2 (isA_k (k_8_8 h0) (by decide) (by decide)) (isA_k (k_8_26 h0) (by decide) (by decide)) h)) (fun M18 H locs hI hf => ?_)
    refine r_aload_n C hl 0 dX8_image_21 rfl rfl ?_
    refine g_8_10 C hI h0 w_572 dX8_image_22 ?_
    refine r_aload_n C hl 0 dX8_image_25 rfl rfl ?_
    refine g_8_27 C hI h0 w_589 dX8_image_26 ?_
    refine r_callv (rest := []) hI hf (fun M' h => run_S C hI F_X8_copy w_707 w_706 ⟨⟨Nat.le_of_ble_eq_true rfl, Nat.le_of_ble_eq_true rfl⟩, Nat.le_of_ble_eq_true rfl, Nat.le_of_ble_eq_true rfl⟩ hl dX8_image_29 [rI g (ch o0 10), rI g (ch o0 27)] rfl rfl (Nat.le_of_ble_eq_true rfl) (c_X8_copy C.2.2.2.2.2.2 (isA_k (k_8_10 h0) (by decide) (by decide)) (isA_k (k_8_27 h0) (by decide) (by decide)) h)) (fun M29 H locs hI hf => ?_)
    refine r_aload_n C hl 0 dX8_image_32 rfl rfl ?_
    refine g_8_17 C hI h0 w_579 dX8_image_33 ?_
    refine r_aload_n C hl 0 dX8_image_36 rfl rfl ?_
    refine g_8_28 C hI h0 w_590 dX8_image_37 ?_
    refine r_callv (rest := []) hI hf (fun M' h => run_S C hI F_X8_copy w_707 w_706 ⟨⟨Nat.le_of_ble_eq_true rfl, Nat.le_of_ble_eq_true rfl⟩, Nat.le_of_ble_eq_true rfl, Nat.le_of_ble_eq_true rfl⟩ hl dX8_image_40 [rI g (ch o0 17), rI g (ch o0 28)] rfl rfl (Nat.le_of_ble_eq_true rfl) (c_X8_copy C.2.2.2.2.2.2 (isA_k (k_8_17 h0) (by decide) (by decide)) (isA_k (k_8_28 h0) (by decide) (by decide)) h)) (fun M40 H locs hI hf => ?_)
    refine r_aload_n C hl 0 dX8_image_43 rfl rfl ?_
    refine r_aload_n C hl 0 dX8_image_44 rfl rfl ?_
    refine g_8_9 C hI h0 w_571 dX8_image_45 ?_
    refine p_8_21 C hI h0 w_583 dX8_image_48 (fun H locs hI => ?_)
    refine r_aload_n C hl 0 dX8_image_51 rfl rfl ?_
    refine r_aload_n C hl 0 dX8_image_52 rfl rfl ?_
    refine g_8_4 C hI h0 w_566 dX8_image_53 ?_
    refine p_8_22 C hI h0 w_584 dX8_image_56 (fun H locs hI => ?_)
    refine r_aload_n C hl 0 dX8_image_59 rfl rfl ?_
    refine r_aload_n C hl 0 dX8_image_60 rfl rfl ?_
    refine g_8_5 C hI h0 w_567 dX8_image_61 ?_
    refine p_8_23 C hI h0 w_585 dX8_image_64 (fun H locs hI => ?_)
    refine r_aload_n C hl 0 dX8_image_67 rfl rfl ?_
    refine r_aload_n C hl 0 dX8_image_68 rfl rfl ?_
    refine g_8_6 C hI h0 w_568 dX8_image_69 ?_
    refine p_8_24 C hI h0 w_586 dX8_image_72 (fun H locs hI => ?_)
    refine r_aload_n C hl 0 dX8_image_75 rfl rfl ?_
    refine r_aload_n C hl 0 dX8_image_76 rfl rfl ?_
    refine g_8_16 C hI h0 w_578 dX8_image_77 ?_
    refine p_8_25 C hI h0 w_587 dX8_image_80 (fun H locs hI => ?_)
    refine r_aload_n C hl 0 dX8_image_83 rfl rfl ?_
    refine r_aload_n C hl 0 dX8_image_84 rfl rfl ?_
    refine g_8_7 C hI h0 w_569 dX8_image_85 ?_
    refine p_8_20 C hI h0 w_582 dX8_image_88 (fun H locs hI => ?_)
    refine r_aload_n C hl 0 dX8_image_91 rfl rfl ?_
    refine g_8_4 C hI h0 w_566 dX8_image_92 ?_
    exact r_iret hQ hf hI dX8_image_95
  · refine r_bipush C dX8_image_7 rfl ?_
    exact r_iret hQ hf hI dX8_image_9
