/-! X7_forget -/
def f_X7_forget (N : Nat) (o0 : Nat) (M : Mem) : Option (Int × Mem) := some (M (ch o0 2) 3, st M (ch o0 2) 3 0)
theorem F_X7_forget : CalF yX7_forget cX7_forget 2 (some .int) 0 := ⟨w_495, w_1, by decide +kernel⟩
set_option maxRecDepth 100000 in
set_option maxHeartbeats 4000000 in
theorem c_X7_forget {l : Launch} {g : GP} (hj : Inj g) {N : Nat} {M : Mem} {o0 : Nat} (h0 : kd o0 = 7) {r : Int × Mem} (hf : f_X7_forget N o0 M = some r) : Met l yX7_forget (Cond.code yX7_forget cX7_forget 2 (some .int) :: TB) (rmK 0 0) (PreW g M [rI g o0]) (PostI g r.1 r.2) 0 0 (Ad g) := by
  unfold f_X7_forget at hf
  refine met_of (nL := 2) (cc := cX7_forget) (M := M) (by decide +kernel) hj (Nat.le_of_ble_eq_true rfl) ?_
  intro p e s m below meth c ls C hr hlk hI hl
  have C : Cx g p s m _ c cX7_forget 2 "LentGallery" := C
  have hl : lv_has ls 2 [(0, rI g o0)] := hl
  have hQ := ret_i (l := l) (e := e) (R := (rmK 0 0)) (below := below) (r := r) C hr hlk (nar_i _)
  generalize s.heap = H, ([] : List Loc) = locs at hI ⊢
  refine r_aload_n C hl 0 dX7_forget_0 rfl rfl ?_
  refine g_7_2 C hI h0 w_187 dX7_forget_1 ?_
  refine g_1_3 C hI (k_7_2 h0) w_115 dX7_forget_4 ?_
  refine r_istore_n C hl (lv' := [(1, iI (M (ch o0 2) 3)), (0, rI g o0)]) dX7_forget_7 rfl (Nat.le_of_ble_eq_true rfl) rfl (fun ls hl => ?_)
  refine r_aload_n C hl 1 dX7_forget_8 rfl rfl ?_
  refine g_7_2 C hI h0 w_187 dX7_forget_9 ?_
  refine r_iconst C dX7_forget_12 ?_
  refine p_1_3 C hI (k_7_2 h0) w_115 dX7_forget_13 (fun H locs hI => ?_)
  refine r_iload_n C hl 0 dX7_forget_16 rfl rfl ?_
  exact r_iret hQ hf hI dX7_forget_17
/-! X7_years -/
def f_X7_years_66 (N : Nat) (o0 : Nat) (v1 : Int) (v2 : Int) (v3 : Int) : Nat → Int → Int → Mem → Option (Int × Mem)
  | 0, _, _, _ => none
  | n + 1, v4, v5, M => gd (inR v5) (gd (inR v1) (if v1 ≤ v5 then (gd (inR v3) (if v3 = 2 then (some (M (ch o0 8) 0, M)) else (if v3 = 0 then (some (v4, M)) else (bnd (f_X6_gaspers N (ch o0 5) M) (fun r155 M155 => bnd (f_J6_bitCount_0f7a4 N r155 M155) (fun r158 M158 => some (r158, M158))))))) else (bnd (f_X0_below N (ch o0 8) (M (ch o0 5) 3) M) (fun r83 M83 => bnd (f_X0_below N (ch o0 8) 6 M83) (fun r94 M94 => bnd (f_X6_rehouse N (ch o0 5) r83 r94 M94) (fun r107 M107 => bnd (f_X6_liveDay N (ch o0 5) M107) (fun r117 M117 => f_X7_years_66 N o0 v1 v2 v3 n (v4 + r117) (v5 + 1) M117)))))))
def f_X7_years (N : Nat) (o0 : Nat) (v1 : Int) (v2 : Int) (v3 : Int) (M : Mem) : Option (Int × Mem) := gd (inR v1) (if v1 < 1 then (some (-102, M)) else (if 60 < v1 then (some (-102, M)) else (gd (inR v2) (if v2 < 0 then (some (-102, M)) else (gd (inR v3) (if v3 < 0 then (some (-102, M)) else (if v3 ≤ 2 then (gd (inR (M (ch o0 1) 3)) (if 1 ≤ (M (ch o0 1) 3) then (bnv (f_X6_copyFrom N (ch o0 5) (ch o0 1) (st M (ch o0 8) 0 v2)) (fun M57 => f_X7_years_66 N o0 v1 v2 v3 N 0 0 M57)) else (some (-103, M)))) else (some (-102, M)))))))))
theorem F_X7_years : CalF yX7_years cX7_years 8 (some .int) 3 := ⟨w_499, w_1, by decide +kernel⟩
set_option maxRecDepth 100000 in
set_option maxHeartbeats 4000000 in
theorem t_X7_years_66 {g : GP} {p : Program} {l : Launch} {e : Env} {s : State} {m : MethodId} {args : Array Value} {below : List Frame} {meth : Method} {c : Code} {Q : State → Prop} {N : Nat} {o0 : Nat} {v1 : Int} {v2 : Int} {v3 : Int} (h0 : kd o0 = 7) (C : Cx g p s m args c cX7_years 8 "LentGallery") {r : Int × Mem} (hQ : RetI g p l e (rmK 3 82) s m args below meth c cX7_years r Q) : ∀ (n : Nat) (v4 v5 : Int) (M : Mem) (H : Heap) (locs : List Loc) (ls : Array Slot), f_X7_years_66 N o0 v1 v2 v3 n v4 v5 M = some r → Inv g s M H locs → lv_has ls 8 [(0, rI g o0), (1, iI v1), (3, iI v3), (4, iI v4), (5, iI v5)] → W p l e (rmK 3 82) s m args below meth c H locs 0 0 Q (F0 m 66 ls []) := by
  intro n
  induction n with
  | zero =>
    intro v4 v5 M H locs ls hf hI hl
    cases hf
  | succ n ih =>
    intro v4 v5 M H locs ls hf hI hl
    rw [f_X7_years_66] at hf
    refine r_iload C hl 4 dX7_years_66 rfl ?_
    refine r_iload_n C hl 1 dX7_years_68 rfl rfl ?_
    refine r_gd hf (fun q69_0 hf => ?_)
    refine r_gd hf (fun q69_1 hf => ?_)
    refine r_ic_ge C q69_0 q69_1 (tgt := 129) dX7_years_69 (by decide) hf (fun hf => ?_) (fun hf => ?_)
    · refine r_iload_n C hl 2 dX7_years_129 rfl rfl ?_
      refine r_iconst C dX7_years_130 ?_
      refine r_gd hf (fun q131_2 hf => ?_)
      refine r_ic_ne C q131_2 (by decide) (tgt := 142) dX7_years_131 (by decide) hf (fun hf => ?_) (fun hf => ?_)
      · refine r_iload_n C hl 2 dX7_years_142 rfl rfl ?_
        refine r_if_ne C q131_2 (tgt := 151) dX7_years_143 (by decide) hf (fun hf => ?_) (fun hf => ?_)
        · refine r_aload_n C hl 0 dX7_years_151 rfl rfl ?_
          refine g_7_5 C hI h0 w_190 dX7_years_152 ?_
          refine r_calli (rest := []) hI hf (fun r M' h => run_V C hI F_X6_gaspers w_386 w_387 w_385 ⟨⟨Nat.le_of_ble_eq_true rfl, Nat.le_of_ble_eq_true rfl⟩, Nat.le_of_ble_eq_true rfl, Nat.le_of_ble_eq_true rfl⟩ (zX6 (k_7_5 h0)) (oX6 (k_7_5 h0)) rfl hl dX7_years_155 [] rfl rfl (Nat.le_of_ble_eq_true rfl) (c_X6_gaspers C.2.2.2.2.2.2 (k_7_5 h0) h)) (fun r155 M155 H locs hI hf => ?_)
          refine r_calli (rest := []) hI hf (fun r M' h => run_S C hI F_J6_bitCount_0f7a4 w_329 w_514 ⟨⟨Nat.le_of_ble_eq_true rfl, Nat.le_of_ble_eq_true rfl⟩, Nat.le_of_ble_eq_true rfl, Nat.le_of_ble_eq_true rfl⟩ hl dX7_years_158 [iI r155] rfl rfl (Nat.le_of_ble_eq_true rfl) (c_J6_bitCount_0f7a4 C.2.2.2.2.2.2 h)) (fun r158 M158 H locs hI hf => ?_)
          exact r_iret hQ hf hI dX7_years_161
        · refine r_iload C hl 3 dX7_years_146 rfl ?_
          refine r_goto C (tgt := 161) dX7_years_148 (by decide) ?_
          exact r_iret hQ hf hI dX7_years_161
      · refine r_aload_n C hl 0 dX7_years_134 rfl rfl ?_
        refine g_7_8 C hI h0 w_193 dX7_years_135 ?_
        refine g_0_0 C hI (k_7_8 h0) w_181 dX7_years_138 ?_
        exact r_iret hQ hf hI dX7_years_141
    · refine r_aload_n C hl 0 dX7_years_72 rfl rfl ?_
      refine g_7_8 C hI h0 w_193 dX7_years_73 ?_
      refine r_aload_n C hl 0 dX7_years_76 rfl rfl ?_
      refine g_7_5 C hI h0 w_190 dX7_years_77 ?_
      refine g_6_3 C hI (k_7_5 h0) w_75 dX7_years_80 ?_
      refine r_calli (rest := []) hI hf (fun r M' h => run_V C hI F_X0_below w_507 w_508 w_506 ⟨⟨Nat.le_of_ble_eq_true rfl, Nat.le_of_ble_eq_true rfl⟩, Nat.le_of_ble_eq_true rfl, Nat.le_of_ble_eq_true rfl⟩ (zX0 (k_7_8 h0)) (oX0 (k_7_8 h0)) rfl hl dX7_years_83 [iI (M (ch o0 5) 3)] rfl rfl (Nat.le_of_ble_eq_true rfl) (c_X0_below C.2.2.2.2.2.2 (k_7_8 h0) h)) (fun r83 M83 H locs hI hf => ?_)
      refine r_istore C hl (lv' := [(6, iI r83), (0, rI g o0), (1, iI v1), (3, iI v3), (4, iI v4), (5, iI v5)]) dX7_years_86 (Nat.le_of_ble_eq_true rfl) rfl (fun ls hl => ?_)
      refine r_aload_n C hl 1 dX7_years_88 rfl rfl ?_
      refine g_7_8 C hI h0 w_193 dX7_years_89 ?_
      refine r_bipush C dX7_years_92 rfl ?_
      refine r_calli (rest := []) hI hf (fun r M' h => run_V C hI F_X0_below w_507 w_508 w_506 ⟨⟨Nat.le_of_ble_eq_true rfl, Nat.le_of_ble_eq_true rfl⟩, Nat.le_of_ble_eq_true rfl, Nat.le_of_ble_eq_true rfl⟩ (zX0 (k_7_8 h0)) (oX0 (k_7_8 h0)) rfl hl dX7_years_94 [iI 6] rfl rfl (Nat.le_of_ble_eq_true rfl) (c_X0_below C.2.2.2.2.2.2 (k_7_8 h0) h)) (fun r94 M94 H locs hI hf => ?_)
      refine r_istore C hl (lv' := [(7, iI r94), (6, iI r83), (0, rI g o0), (1, iI v1), (3, iI v3), (4, iI v4), (5, iI v5)]) dX7_years_97 (Nat.le_of_ble_eq_true rfl) rfl (fun ls hl => ?_)
      refine r_aload_n C hl 2 dX7_years_99 rfl rfl ?_
      refine g_7_5 C hI h0 w_190 dX7_years_100 ?_
      refine r_iload C hl 1 dX7_years_103 rfl ?_
      refine r_iload C hl 0 dX7_years_105 rfl ?_
      refine r_calli (rest := []) hI hf (fun r M' h => run_V C hI F_X6_rehouse w_404 w_405 w_403 ⟨⟨Nat.le_of_ble_eq_true rfl, Nat.le_of_ble_eq_true rfl⟩, Nat.le_of_ble_eq_true rfl, Nat.le_of_ble_eq_true rfl⟩ (zX6 (k_7_5 h0)) (oX6 (k_7_5 h0)) rfl hl dX7_years_107 [iI r83, iI r94] rfl rfl (Nat.le_of_ble_eq_true rfl) (c_X6_rehouse C.2.2.2.2.2.2 (k_7_5 h0) h)) (fun r107 M107 H locs hI hf => ?_)
      refine r_pop C dX7_years_110 rfl ?_
      refine r_iload C hl 5 dX7_years_111 rfl ?_
      refine r_aload_n C hl 2 dX7_years_113 rfl rfl ?_
      refine g_7_5 C hI h0 w_190 dX7_years_114 ?_
      refine r_calli (rest := [iI v4]) hI hf (fun r M' h => run_V C hI F_X6_liveDay w_413 w_414 w_412 ⟨⟨Nat.le_of_ble_eq_true rfl, Nat.le_of_ble_eq_true rfl⟩, Nat.le_of_ble_eq_true rfl, Nat.le_of_ble_eq_true rfl⟩ (zX6 (k_7_5 h0)) (oX6 (k_7_5 h0)) rfl hl dX7_years_117 [] rfl rfl (Nat.le_of_ble_eq_true rfl) (c_X6_liveDay C.2.2.2.2.2.2 (k_7_5 h0) h)) (fun r117 M117 H locs hI hf => ?_)
      refine r_iadd C dX7_years_120 ?_
      refine r_istore C hl (lv' := [(4, iI (v4 + r117)), (7, iI r94), (6, iI r83), (0, rI g o0), (1, iI v1), (3, iI v3), (5, iI v5)]) dX7_years_121 (Nat.le_of_ble_eq_true rfl) rfl (fun ls hl => ?_)
      refine r_iinc C hl (lv' := [(5, iI (v5 + 1)), (4, iI (v4 + r117)), (7, iI r94), (6, iI r83), (0, rI g o0), (1, iI v1), (3, iI v3)]) 6 dX7_years_123 rfl (Nat.le_of_ble_eq_true rfl) rfl (fun ls hl => ?_)
      refine r_goto C (tgt := 66) dX7_years_126 (by decide) ?_
      exact ih _ _ _ _ _ _ hf hI (lv_sub hl [4, 5, 6, 1, 0] rfl)
set_option maxRecDepth 100000 in
set_option maxHeartbeats 4000000 in
theorem c_X7_years {l : Launch} {g : GP} (hj : Inj g) {N : Nat} {M : Mem} {o0 : Nat} {v1 : Int} {v2 : Int} {v3 : Int} (h0 : kd o0 = 7) {r : Int × Mem} (hf : f_X7_years N o0 v1 v2 v3 M = some r) : Met l yX7_years (Cond.code yX7_years cX7_years 8 (some .int) :: TB) (rmK 3 82) (PreW g M [rI g o0, iI v1, iI v2, iI v3]) (PostI g r.1 r.2) 0 0 (Ad g) := by
  unfold f_X7_years at hf
  refine met_of (nL := 8) (cc := cX7_years) (M := M) (by decide +kernel) hj (Nat.le_of_ble_eq_true rfl) ?_
  intro p e s m below meth c ls C hr hlk hI hl
  have C : Cx g p s m _ c cX7_years 8 "LentGallery" := C
  have hl : lv_has ls 8 [(0, rI g o0), (1, iI v1), (2, iI v2), (3, iI v3)] := hl
  have hQ := ret_i (l := l) (e := e) (R := (rmK 3 82)) (below := below) (r := r) C hr hlk (nar_i _)
  generalize s.heap = H, ([] : List Loc) = locs at hI ⊢
  refine r_iload_n C hl 1 dX7_years_0 rfl rfl ?_
  refine r_iconst C dX7_years_1 ?_
  refine r_gd hf (fun q2_0 hf => ?_)
  refine r_ic_lt C q2_0 (by decide) (tgt := 24) dX7_years_2 (by decide) hf (fun hf => ?_) (fun hf => ?_)
  · refine r_bipush C dX7_years_24 rfl ?_
    exact r_iret hQ hf hI dX7_years_26
  · refine r_iload_n C hl 1 dX7_years_5 rfl rfl ?_
    refine r_bipush C dX7_years_6 rfl ?_
    refine r_ic_gt C q2_0 (by decide) (tgt := 24) dX7_years_8 (by decide) hf (fun hf => ?_) (fun hf => ?_)
    · refine r_bipush C dX7_years_24 rfl ?_
      exact r_iret hQ hf hI dX7_years_26
    · refine r_iload_n C hl 2 dX7_years_11 rfl rfl ?_
      refine r_gd hf (fun q12_1 hf => ?_)
      refine r_if_lt C q12_1 (tgt := 24) dX7_years_12 (by decide) hf (fun hf => ?_) (fun hf => ?_)
      · refine r_bipush C dX7_years_24 rfl ?_
        exact r_iret hQ hf hI dX7_years_26
      · refine r_iload_n C hl 3 dX7_years_15 rfl rfl ?_
        refine r_gd hf (fun q16_2 hf => ?_)
        refine r_if_lt C q16_2 (tgt := 24) dX7_years_16 (by decide) hf (fun hf => ?_) (fun hf => ?_)
        · refine r_bipush C dX7_years_24 rfl ?_
          exact r_iret hQ hf hI dX7_years_26
        · refine r_iload_n C hl 3 dX7_years_19 rfl rfl ?_
          refine r_iconst C dX7_years_20 ?_
          refine r_ic_le C q16_2 (by decide) (tgt := 27) dX7_years_21 (by decide) hf (fun hf => ?_) (fun hf => ?_)
          · refine r_aload_n C hl 0 dX7_years_27 rfl rfl ?_
            refine g_7_1 C hI h0 w_186 dX7_years_28 ?_
            refine g_6_3 C hI (k_7_1 h0) w_75 dX7_years_31 ?_
            refine r_iconst C dX7_years_34 ?_
            refine r_gd hf (fun q35_3 hf => ?_)
            refine r_ic_ge C q35_3 (by decide) (tgt := 41) dX7_years_35 (by decide) hf (fun hf => ?_) (fun hf => ?_)
            · refine r_aload_n C hl 0 dX7_years_41 rfl rfl ?_
              refine g_7_8 C hI h0 w_193 dX7_years_42 ?_
              refine r_iload_n C hl 2 dX7_years_45 rfl rfl ?_
              refine p_0_0 C hI (k_7_8 h0) w_181 dX7_years_46 (fun H locs hI => ?_)
              refine r_aload_n C hl 0 dX7_years_49 rfl rfl ?_
              refine g_7_5 C hI h0 w_190 dX7_years_50 ?_
              refine r_aload_n C hl 0 dX7_years_53 rfl rfl ?_
              refine g_7_1 C hI h0 w_186 dX7_years_54 ?_
              refine r_callv (rest := []) hI hf (fun M' h => run_V C hI F_X6_copyFrom w_501 w_502 w_500 ⟨⟨Nat.le_of_ble_eq_true rfl, Nat.le_of_ble_eq_true rfl⟩, Nat.le_of_ble_eq_true rfl, Nat.le_of_ble_eq_true rfl⟩ (zX6 (k_7_5 h0)) (oX6 (k_7_5 h0)) rfl hl dX7_years_57 [rI g (ch o0 1)] rfl rfl (Nat.le_of_ble_eq_true rfl) (c_X6_copyFrom C.2.2.2.2.2.2 (k_7_5 h0) (k_7_1 h0) h)) (fun M57 H locs hI hf => ?_)
              refine r_iconst C dX7_years_60 ?_
              refine r_istore C hl (lv' := [(4, iI 0), (0, rI g o0), (1, iI v1), (2, iI v2), (3, iI v3)]) dX7_years_61 (Nat.le_of_ble_eq_true rfl) rfl (fun ls hl => ?_)
              refine r_iconst C dX7_years_63 ?_
              refine r_istore C hl (lv' := [(5, iI 0), (4, iI 0), (0, rI g o0), (1, iI v1), (2, iI v2), (3, iI v3)]) dX7_years_64 (Nat.le_of_ble_eq_true rfl) rfl (fun ls hl => ?_)
              exact t_X7_years_66 h0 C hQ _ _ _ _ _ _ _ hf hI (lv_sub hl [2, 3, 5, 1, 0] rfl)
            · refine r_bipush C dX7_years_38 rfl ?_
              exact r_iret hQ hf hI dX7_years_40
          · refine r_bipush C dX7_years_24 rfl ?_
            exact r_iret hQ hf hI dX7_years_26
/-! X7_image -/
def f_X7_image (N : Nat) (o0 : Nat) (M : Mem) : Option (Int × Mem) := gd (inR (M o0 9)) (if (M o0 9) = 0 then (some (-103, M)) else (bnv (f_X6_copyFrom N (ch o0 3) (ch o0 1) M) (fun M18 => bnv (f_X1_copyFrom N (ch o0 4) (ch o0 2) M18) (fun M29 => some ((st M29 o0 10 1) (ch o0 1) 6, st M29 o0 10 1)))))
theorem F_X7_image : CalF yX7_image cX7_image 1 (some .int) 0 := ⟨w_518, w_1, by decide +kernel⟩
set_option maxRecDepth 100000 in
set_option maxHeartbeats 4000000 in
theorem c_X7_image {l : Launch} {g : GP} (hj : Inj g) {N : Nat} {M : Mem} {o0 : Nat} (h0 : kd o0 = 7) {r : Int × Mem} (hf : f_X7_image N o0 M = some r) : Met l yX7_image (Cond.code yX7_image cX7_image 1 (some .int) :: TB) (rmK 3 82) (PreW g M [rI g o0]) (PostI g r.1 r.2) 0 0 (Ad g) := by
  unfold f_X7_image at hf
  refine met_of (nL := 1) (cc := cX7_image) (M := M) (by decide +kernel) hj (Nat.le_of_ble_eq_true rfl) ?_
  intro p e s m below meth c ls C hr hlk hI hl
  have C : Cx g p s m _ c cX7_image 1 "LentGallery" := C
  have hl : lv_has ls 1 [(0, rI g o0)] := hl
  have hQ := ret_i (l := l) (e := e) (R := (rmK 3 82)) (below := below) (r := r) C hr hlk (nar_i _)
  generalize s.heap = H, ([] : List Loc) = locs at hI ⊢
  refine r_aload_n C hl 0 dX7_image_0 rfl rfl ?_
  refine g_7_9 C hI h0 w_194 dX7_image_1 ?_
  refine r_gd hf (fun q4_0 hf => ?_)
  refine r_if_ne C q4_0 (tgt := 10) dX7_image_4 (by decide) hf (fun hf => ?_) (fun hf => ?_)
  · refine r_aload_n C hl 0 dX7_image_10 rfl rfl ?_
    refine g_7_3 C hI h0 w_188 dX7_image_11 ?_
    refine r_aload_n C hl 0 dX7_image_14 rfl rfl ?_
    refine g_7_1 C hI h0 w_186 dX7_image_15 ?_
    refine r_callv (rest := []) hI hf (fun M' h => run_V C hI F_X6_copyFrom w_501 w_502 w_500 ⟨⟨Nat.le_of_ble_eq_true rfl, Nat.le_of_ble_eq_true rfl⟩, Nat.le_of_ble_eq_true rfl, Nat.le_of_ble_eq_true rfl⟩ (zX6 (k_7_3 h0)) (oX6 (k_7_3 h0)) rfl hl dX7_image_18 [rI g (ch o0 1)] rfl rfl (Nat.le_of_ble_eq_true rfl) (c_X6_copyFrom C.2.2.2.2.2.2 (k_7_3 h0) (k_7_1 h0) h)) (fun M18 H locs hI hf => ?_)
    refine r_aload_n C hl 0 dX7_image_21 rfl rfl ?_
    refine g_7_4 C hI h0 w_189 dX7_image_22 ?_
    refine r_aload_n C hl 0 dX7_image_25 rfl rfl ?_
    refine g_7_2 C hI h0 w_187 dX7_image_26 ?_
    refine r_callv (rest := []) hI hf (fun M' h => run_V C hI F_X1_copyFrom w_520 w_521 w_519 ⟨⟨Nat.le_of_ble_eq_true rfl, Nat.le_of_ble_eq_true rfl⟩, Nat.le_of_ble_eq_true rfl, Nat.le_of_ble_eq_true rfl⟩ (zX1 (k_7_4 h0)) (oX1 (k_7_4 h0)) rfl hl dX7_image_29 [rI g (ch o0 2)] rfl rfl (Nat.le_of_ble_eq_true rfl) (c_X1_copyFrom C.2.2.2.2.2.2 (k_7_4 h0) (k_7_2 h0) h)) (fun M29 H locs hI hf => ?_)
    refine r_aload_n C hl 0 dX7_image_32 rfl rfl ?_
    refine r_iconst C dX7_image_33 ?_
    refine p_7_10 C hI h0 (by decide) w_195 dX7_image_34 (fun H locs hI => ?_)
    refine r_aload_n C hl 0 dX7_image_37 rfl rfl ?_
    refine g_7_1 C hI h0 w_186 dX7_image_38 ?_
    refine g_6_6 C hI (k_7_1 h0) w_81 dX7_image_41 ?_
    exact r_iret hQ hf hI dX7_image_44
  · refine r_bipush C dX7_image_7 rfl ?_
    exact r_iret hQ hf hI dX7_image_9
/-! X7_restore -/
def f_X7_restore (N : Nat) (o0 : Nat) (M : Mem) : Option (Int × Mem) := gd (inR (M o0 10)) (if (M o0 10) = 0 then (some (-103, M)) else (bnv (f_X6_copyFrom N (ch o0 1) (ch o0 3) M) (fun M18 => bnv (f_X1_copyFrom N (ch o0 2) (ch o0 4) M18) (fun M29 => some (M29 (ch o0 1) 6, M29)))))
theorem F_X7_restore : CalF yX7_restore cX7_restore 1 (some .int) 0 := ⟨w_527, w_1, by decide +kernel⟩
set_option maxRecDepth 100000 in
set_option maxHeartbeats 4000000 in
theorem c_X7_restore {l : Launch} {g : GP} (hj : Inj g) {N : Nat} {M : Mem} {o0 : Nat} (h0 : kd o0 = 7) {r : Int × Mem} (hf : f_X7_restore N o0 M = some r) : Met l yX7_restore (Cond.code yX7_restore cX7_restore 1 (some .int) :: TB) (rmK 3 82) (PreW g M [rI g o0]) (PostI g r.1 r.2) 0 0 (Ad g) := by
  unfold f_X7_restore at hf
  refine met_of (nL := 1) (cc := cX7_restore) (M := M) (by decide +kernel) hj (Nat.le_of_ble_eq_true rfl) ?_
  intro p e s m below meth c ls C hr hlk hI hl
  have C : Cx g p s m _ c cX7_restore 1 "LentGallery" := C
  have hl : lv_has ls 1 [(0, rI g o0)] := hl
  have hQ := ret_i (l := l) (e := e) (R := (rmK 3 82)) (below := below) (r := r) C hr hlk (nar_i _)
  generalize s.heap = H, ([] : List Loc) = locs at hI ⊢
  refine r_aload_n C hl 0 dX7_restore_0 rfl rfl ?_
  refine g_7_10 C hI h0 w_195 dX7_restore_1 ?_
  refine r_gd hf (fun q4_0 hf => ?_)
  refine r_if_ne C q4_0 (tgt := 10) dX7_restore_4 (by decide) hf (fun hf => ?_) (fun hf => ?_)
  · refine r_aload_n C hl 0 dX7_restore_10 rfl rfl ?_
    refine g_7_1 C hI h0 w_186 dX7_restore_11 ?_
    refine r_aload_n C hl 0 dX7_restore_14 rfl rfl ?_
    refine g_7_3 C hI h0 w_188 dX7_restore_15 ?_
    refine r_callv (rest := []) hI hf (fun M' h => run_V C hI F_X6_copyFrom w_501 w_502 w_500 ⟨⟨Nat.le_of_ble_eq_true rfl, Nat.le_of_ble_eq_true rfl⟩, Nat.le_of_ble_eq_true rfl, Nat.le_of_ble_eq_true rfl⟩ (zX6 (k_7_1 h0)) (oX6 (k_7_1 h0)) rfl hl dX7_restore_18 [rI g (ch o0 3)] rfl rfl (Nat.le_of_ble_eq_true rfl) (c_X6_copyFrom C.2.2.2.2.2.2 (k_7_1 h0) (k_7_3 h0) h)) (fun M18 H locs hI hf => ?_)
    refine r_aload_n C hl 0 dX7_restore_21 rfl rfl ?_
    refine g_7_2 C hI h0 w_187 dX7_restore_22 ?_
    refine r_aload_n C hl 0 dX7_restore_25 rfl rfl ?_
    refine g_7_4 C hI h0 w_189 dX7_restore_26 ?_
    refine r_callv (rest := []) hI hf (fun M' h => run_V C hI F_X1_copyFrom w_520 w_521 w_519 ⟨⟨Nat.le_of_ble_eq_true rfl, Nat.le_of_ble_eq_true rfl⟩, Nat.le_of_ble_eq_true rfl, Nat.le_of_ble_eq_true rfl⟩ (zX1 (k_7_2 h0)) (oX1 (k_7_2 h0)) rfl hl dX7_restore_29 [rI g (ch o0 4)] rfl rfl (Nat.le_of_ble_eq_true rfl) (c_X1_copyFrom C.2.2.2.2.2.2 (k_7_2 h0) (k_7_4 h0) h)) (fun M29 H locs hI hf => ?_)
    refine r_aload_n C hl 0 dX7_restore_32 rfl rfl ?_
    refine g_7_1 C hI h0 w_186 dX7_restore_33 ?_
    refine g_6_6 C hI (k_7_1 h0) w_81 dX7_restore_36 ?_
    exact r_iret hQ hf hI dX7_restore_39
  · refine r_bipush C dX7_restore_7 rfl ?_
    exact r_iret hQ hf hI dX7_restore_9
/-! X7_count -/
def f_X7_count (N : Nat) (o0 : Nat) (v1 : Int) (M : Mem) : Option (Int × Mem) := gd (inR v1) (if v1 < 0 ∨ 12 < v1 then (some (-102, M)) else (if v1 = 0 then (bnd (f_X3_standing N (ch (ch o0 1) 0) M) (fun r75 M75 => some (r75, M75))) else (if v1 = 1 then (some (M (ch o0 1) 4, M)) else (if v1 = 2 then (some (M (ch o0 1) 5, M)) else (if v1 = 3 then (some (M (ch o0 1) 3, M)) else (if v1 = 4 then (bnd (f_X6_cutOffs N (ch o0 1) M) (fun r107 M107 => some (r107, M107))) else (if v1 = 5 then (bnd (f_X6_gaspers N (ch o0 1) M) (fun r115 M115 => bnd (f_J6_bitCount_0f7a4 N r115 M115) (fun r118 M118 => some (r118, M118)))) else (if v1 = 6 then (some (M (ch o0 1) 6, M)) else (if v1 = 7 then (some (M (ch o0 1) 7, M)) else (if v1 = 8 then (some (M (ch o0 1) 8, M)) else (if v1 = 9 then (some (M (ch o0 2) 3, M)) else (if v1 = 10 then (some (M (ch o0 0) 1, M)) else (if v1 = 11 then (some (M o0 11, M)) else (some (M o0 12, M)))))))))))))))
theorem F_X7_count : CalF yX7_count cX7_count 2 (some .int) 1 := ⟨w_531, w_1, by decide +kernel⟩
set_option maxRecDepth 100000 in
set_option maxHeartbeats 4000000 in
theorem c_X7_count {l : Launch} {g : GP} (hj : Inj g) {N : Nat} {M : Mem} {o0 : Nat} {v1 : Int} (h0 : kd o0 = 7) {r : Int × Mem} (hf : f_X7_count N o0 v1 M = some r) : Met l yX7_count (Cond.code yX7_count cX7_count 2 (some .int) :: TB) (rmK 3 67) (PreW g M [rI g o0, iI v1]) (PostI g r.1 r.2) 0 0 (Ad g) := by
  unfold f_X7_count at hf
  refine met_of (nL := 2) (cc := cX7_count) (M := M) (by decide +kernel) hj (Nat.le_of_ble_eq_true rfl) ?_
  intro p e s m below meth c ls C hr hlk hI hl
  have C : Cx g p s m _ c cX7_count 2 "LentGallery" := C
  have hl : lv_has ls 2 [(0, rI g o0), (1, iI v1)] := hl
  have hQ := ret_i (l := l) (e := e) (R := (rmK 3 67)) (below := below) (r := r) C hr hlk (nar_i _)
  generalize s.heap = H, ([] : List Loc) = locs at hI ⊢
  refine r_iload_n C hl 1 dX7_count_0 rfl rfl ?_
  refine r_gd hf (fun q1_0 hf => ?_)
  refine r_if hf (fun hc hf => ?_) (fun hc hf => ?_)
  · refine r_tabOut C q1_0 dX7_count_1 hc (tgt := 172) (by decide) ?_
    refine r_bipush C dX7_count_172 rfl ?_
    exact r_iret hQ hf hI dX7_count_174
  · refine r_if hf (fun hc0 hf => ?_) (fun hc0 hf => ?_)
    · refine r_tabIn C 0 hc0 (by decide) dX7_count_1 (by decide) (by decide) (off := 67) rfl (tgt := 68) (by decide) ?_
      refine r_aload_n C hl 0 dX7_count_68 rfl rfl ?_
      refine g_7_1 C hI h0 w_186 dX7_count_69 ?_
      refine g_6_0 C hI (k_7_1 h0) w_68 dX7_count_72 ?_
      refine r_calli (rest := []) hI hf (fun r M' h => run_V C hI F_X3_standing w_261 w_262 w_260 ⟨⟨Nat.le_of_ble_eq_true rfl, Nat.le_of_ble_eq_true rfl⟩, Nat.le_of_ble_eq_true rfl, Nat.le_of_ble_eq_true rfl⟩ (zX3 (k_6_0 (k_7_1 h0))) (oX3 (k_6_0 (k_7_1 h0))) rfl hl dX7_count_75 [] rfl rfl (Nat.le_of_ble_eq_true rfl) (c_X3_standing C.2.2.2.2.2.2 (k_6_0 (k_7_1 h0)) h)) (fun r75 M75 H locs hI hf => ?_)
      exact r_iret hQ hf hI dX7_count_78
    · refine r_if hf (fun hc1 hf => ?_) (fun hc1 hf => ?_)
      · refine r_tabIn C 1 hc1 (by decide) dX7_count_1 (by decide) (by decide) (off := 78) rfl (tgt := 79) (by decide) ?_
        refine r_aload_n C hl 0 dX7_count_79 rfl rfl ?_
        refine g_7_1 C hI h0 w_186 dX7_count_80 ?_
        refine g_6_4 C hI (k_7_1 h0) w_77 dX7_count_83 ?_
        exact r_iret hQ hf hI dX7_count_86
      · refine r_if hf (fun hc2 hf => ?_) (fun hc2 hf => ?_)
        · refine r_tabIn C 2 hc2 (by decide) dX7_count_1 (by decide) (by decide) (off := 86) rfl (tgt := 87) (by decide) ?_
          refine r_aload_n C hl 0 dX7_count_87 rfl rfl ?_
          refine g_7_1 C hI h0 w_186 dX7_count_88 ?_
          refine g_6_5 C hI (k_7_1 h0) w_79 dX7_count_91 ?_
          exact r_iret hQ hf hI dX7_count_94
        · refine r_if hf (fun hc3 hf => ?_) (fun hc3 hf => ?_)
          · refine r_tabIn C 3 hc3 (by decide) dX7_count_1 (by decide) (by decide) (off := 94) rfl (tgt := 95) (by decide) ?_
            refine r_aload_n C hl 0 dX7_count_95 rfl rfl ?_
            refine g_7_1 C hI h0 w_186 dX7_count_96 ?_
            refine g_6_3 C hI (k_7_1 h0) w_75 dX7_count_99 ?_
            exact r_iret hQ hf hI dX7_count_102
          · refine r_if hf (fun hc4 hf => ?_) (fun hc4 hf => ?_)
            · refine r_tabIn C 4 hc4 (by decide) dX7_count_1 (by decide) (by decide) (off := 102) rfl (tgt := 103) (by decide) ?_
              refine r_aload_n C hl 0 dX7_count_103 rfl rfl ?_
              refine g_7_1 C hI h0 w_186 dX7_count_104 ?_
              refine r_calli (rest := []) hI hf (fun r M' h => run_V C hI F_X6_cutOffs w_475 w_476 w_532 ⟨⟨Nat.le_of_ble_eq_true rfl, Nat.le_of_ble_eq_true rfl⟩, Nat.le_of_ble_eq_true rfl, Nat.le_of_ble_eq_true rfl⟩ (zX6 (k_7_1 h0)) (oX6 (k_7_1 h0)) rfl hl dX7_count_107 [] rfl rfl (Nat.le_of_ble_eq_true rfl) (c_X6_cutOffs C.2.2.2.2.2.2 (k_7_1 h0) h)) (fun r107 M107 H locs hI hf => ?_)
              exact r_iret hQ hf hI dX7_count_110
            · refine r_if hf (fun hc5 hf => ?_) (fun hc5 hf => ?_)
              · refine r_tabIn C 5 hc5 (by decide) dX7_count_1 (by decide) (by decide) (off := 110) rfl (tgt := 111) (by decide) ?_
                refine r_aload_n C hl 0 dX7_count_111 rfl rfl ?_
                refine g_7_1 C hI h0 w_186 dX7_count_112 ?_
                refine r_calli (rest := []) hI hf (fun r M' h => run_V C hI F_X6_gaspers w_386 w_387 w_385 ⟨⟨Nat.le_of_ble_eq_true rfl, Nat.le_of_ble_eq_true rfl⟩, Nat.le_of_ble_eq_true rfl, Nat.le_of_ble_eq_true rfl⟩ (zX6 (k_7_1 h0)) (oX6 (k_7_1 h0)) rfl hl dX7_count_115 [] rfl rfl (Nat.le_of_ble_eq_true rfl) (c_X6_gaspers C.2.2.2.2.2.2 (k_7_1 h0) h)) (fun r115 M115 H locs hI hf => ?_)
                refine r_calli (rest := []) hI hf (fun r M' h => run_S C hI F_J6_bitCount_0f7a4 w_329 w_514 ⟨⟨Nat.le_of_ble_eq_true rfl, Nat.le_of_ble_eq_true rfl⟩, Nat.le_of_ble_eq_true rfl, Nat.le_of_ble_eq_true rfl⟩ hl dX7_count_118 [iI r115] rfl rfl (Nat.le_of_ble_eq_true rfl) (c_J6_bitCount_0f7a4 C.2.2.2.2.2.2 h)) (fun r118 M118 H locs hI hf => ?_)
                exact r_iret hQ hf hI dX7_count_121
              · refine r_if hf (fun hc6 hf => ?_) (fun hc6 hf => ?_)
                · refine r_tabIn C 6 hc6 (by decide) dX7_count_1 (by decide) (by decide) (off := 121) rfl (tgt := 122) (by decide) ?_
                  refine r_aload_n C hl 0 dX7_count_122 rfl rfl ?_
                  refine g_7_1 C hI h0 w_186 dX7_count_123 ?_
                  refine g_6_6 C hI (k_7_1 h0) w_81 dX7_count_126 ?_
                  exact r_iret hQ hf hI dX7_count_129
                · refine r_if hf (fun hc7 hf => ?_) (fun hc7 hf => ?_)
                  · refine r_tabIn C 7 hc7 (by decide) dX7_count_1 (by decide) (by decide) (off := 129) rfl (tgt := 130) (by decide) ?_
                    refine r_aload_n C hl 0 dX7_count_130 rfl rfl ?_
                    refine g_7_1 C hI h0 w_186 dX7_count_131 ?_
                    refine g_6_7 C hI (k_7_1 h0) w_83 dX7_count_134 ?_
                    exact r_iret hQ hf hI dX7_count_137
                  · refine r_if hf (fun hc8 hf => ?_) (fun hc8 hf => ?_)
                    · refine r_tabIn C 8 hc8 (by decide) dX7_count_1 (by decide) (by decide) (off := 137) rfl (tgt := 138) (by decide) ?_
                      refine r_aload_n C hl 0 dX7_count_138 rfl rfl ?_
                      refine g_7_1 C hI h0 w_186 dX7_count_139 ?_
                      refine g_6_8 C hI (k_7_1 h0) w_85 dX7_count_142 ?_
                      exact r_iret hQ hf hI dX7_count_145
                    · refine r_if hf (fun hc9 hf => ?_) (fun hc9 hf => ?_)
                      · refine r_tabIn C 9 hc9 (by decide) dX7_count_1 (by decide) (by decide) (off := 145) rfl (tgt := 146) (by decide) ?_
                        refine r_aload_n C hl 0 dX7_count_146 rfl rfl ?_
                        refine g_7_2 C hI h0 w_187 dX7_count_147 ?_
                        refine g_1_3 C hI (k_7_2 h0) w_115 dX7_count_150 ?_
                        exact r_iret hQ hf hI dX7_count_153
                      · refine r_if hf (fun hc10 hf => ?_) (fun hc10 hf => ?_)
                        · refine r_tabIn C 10 hc10 (by decide) dX7_count_1 (by decide) (by decide) (off := 153) rfl (tgt := 154) (by decide) ?_
                          refine r_aload_n C hl 0 dX7_count_154 rfl rfl ?_
                          refine g_7_0 C hI h0 w_185 dX7_count_155 ?_
                          refine g_2_1 C hI (k_7_0 h0) w_31 dX7_count_158 ?_
                          exact r_iret hQ hf hI dX7_count_161
                        · refine r_if hf (fun hc11 hf => ?_) (fun hc11 hf => ?_)
                          · refine r_tabIn C 11 hc11 (by decide) dX7_count_1 (by decide) (by decide) (off := 161) rfl (tgt := 162) (by decide) ?_
                            refine r_aload_n C hl 0 dX7_count_162 rfl rfl ?_
                            refine g_7_11 C hI h0 w_196 dX7_count_163 ?_
                            exact r_iret hQ hf hI dX7_count_166
                          · refine r_tabIn C 12 (by omega) (by decide) dX7_count_1 (by decide) (by decide) (off := 166) rfl (tgt := 167) (by decide) ?_
                            refine r_aload_n C hl 0 dX7_count_167 rfl rfl ?_
                            refine g_7_12 C hI h0 w_197 dX7_count_168 ?_
                            exact r_iret hQ hf hI dX7_count_171
/-! X7_mix -/
def f_X7_mix (N : Nat) (v0 : Int) (v2 : Int) (M : Mem) : Option (Int × Mem) := some ((31 * v0) + v2, M)
theorem F_X7_mix : CalF yX7_mix cX7_mix 4 (some .long) 2 := ⟨w_545, w_1, by decide +kernel⟩
set_option maxRecDepth 100000 in
set_option maxHeartbeats 4000000 in
theorem c_X7_mix {l : Launch} {g : GP} (hj : Inj g) {N : Nat} {M : Mem} {v0 : Int} {v2 : Int} {r : Int × Mem} (hf : f_X7_mix N v0 v2 M = some r) : Met l yX7_mix (Cond.code yX7_mix cX7_mix 4 (some .long) :: TB) (rmK 0 0) (PreW g M [lI v0, lI v2]) (PostL g r.1 r.2) 0 0 (Ad g) := by
  unfold f_X7_mix at hf
  refine met_of (nL := 4) (cc := cX7_mix) (M := M) (by decide +kernel) hj (Nat.le_of_ble_eq_true rfl) ?_
  intro p e s m below meth c ls C hr hlk hI hl
  have C : Cx g p s m _ c cX7_mix 4 "LentGallery" := C
  have hl : lv_has ls 4 [(0, lI v0), (2, lI v2)] := hl
  have hQ := ret_l (l := l) (e := e) (R := (rmK 0 0)) (below := below) (r := r) C hr hlk
  generalize s.heap = H, ([] : List Loc) = locs at hI ⊢
  refine r_ldc2 C (n := 31) w_546 rfl dX7_mix_0 ?_
  refine r_lload_n C hl 0 dX7_mix_3 rfl rfl ?_
  refine r_lmul C dX7_mix_4 ?_
  refine r_lload_n C hl 1 dX7_mix_5 rfl rfl ?_
  refine r_ladd C dX7_mix_6 ?_
  exact r_lret hQ hf hI dX7_mix_7
/-! X7_mixPlaces -/
def f_X7_mixPlaces_15 (N : Nat) (o0 : Nat) (v1 : Int) (k5 : Int → Int → Mem → Option (Int × Mem)) : Nat → Int → Int → Int → Mem → Option (Int × Mem)
  | 0, _, _, _, _ => none
  | n + 1, v3, v5, v6, M => gd (inR v6) (if 5 < v6 then (k5 v3 (v5 + 1) M) else (bnd (f_X7_place N o0 v5 v6 M) (fun r27 M27 => gd (inR r27) (bnd (f_X7_mix N v3 r27 M27) (fun r31 M31 => f_X7_mixPlaces_15 N o0 v1 k5 n r31 v5 (v6 + 1) M31)))))
def f_X7_mixPlaces_5 (N : Nat) (o0 : Nat) (v1 : Int) : Nat → Int → Int → Mem → Option (Int × Mem)
  | 0, _, _, _ => none
  | n + 1, v3, v5, M => gd (inR v5) (if 6 ≤ v5 then (some (v3, M)) else (f_X7_mixPlaces_15 N o0 v1 (f_X7_mixPlaces_5 N o0 v1 n) N v3 v5 0 M))
def f_X7_mixPlaces (N : Nat) (o0 : Nat) (v1 : Int) (M : Mem) : Option (Int × Mem) := f_X7_mixPlaces_5 N o0 v1 N v1 0 M
theorem F_X7_mixPlaces : CalF yX7_mixPlaces cX7_mixPlaces 7 (some .long) 1 := ⟨w_541, w_1, by decide +kernel⟩
set_option maxRecDepth 100000 in
set_option maxHeartbeats 4000000 in
theorem t_X7_mixPlaces_15 {g : GP} {p : Program} {l : Launch} {e : Env} {s : State} {m : MethodId} {args : Array Value} {below : List Frame} {meth : Method} {c : Code} {Q : State → Prop} {N : Nat} {o0 : Nat} {v1 : Int} (h0 : kd o0 = 7) (C : Cx g p s m args c cX7_mixPlaces 7 "LentGallery") {r : Int × Mem} (hQ : RetL g p l e (rmK 5 114) s m args below meth c cX7_mixPlaces r Q) {k5 : Int → Int → Mem → Option (Int × Mem)} (hk5 : ∀ (v3 v5 : Int) (M : Mem) (H : Heap) (locs : List Loc) (ls : Array Slot), k5 v3 v5 M = some r → Inv g s M H locs → lv_has ls 7 [(0, rI g o0), (3, lI v3), (5, iI v5)] → W p l e (rmK 5 114) s m args below meth c H locs 0 0 Q (F0 m 5 ls [])) : ∀ (n : Nat) (v3 v5 v6 : Int) (M : Mem) (H : Heap) (locs : List Loc) (ls : Array Slot), f_X7_mixPlaces_15 N o0 v1 k5 n v3 v5 v6 M = some r → Inv g s M H locs → lv_has ls 7 [(0, rI g o0), (3, lI v3), (5, iI v5), (6, iI v6)] → W p l e (rmK 5 114) s m args below meth c H locs 0 0 Q (F0 m 15 ls []) := by
  intro n
  induction n with
  | zero =>
    intro v3 v5 v6 M H locs ls hf hI hl
    cases hf
  | succ n ih =>
    intro v3 v5 v6 M H locs ls hf hI hl
    rw [f_X7_mixPlaces_15] at hf
    refine r_iload C hl 3 dX7_mixPlaces_15 rfl ?_
    refine r_iconst C dX7_mixPlaces_17 ?_
    refine r_gd hf (fun q18_0 hf => ?_)
    refine r_ic_gt C q18_0 (by decide) (tgt := 41) dX7_mixPlaces_18 (by decide) hf (fun hf => ?_) (fun hf => ?_)
    · refine r_iinc C hl (lv' := [(5, iI (v5 + 1)), (0, rI g o0), (3, lI v3), (6, iI v6)]) 2 dX7_mixPlaces_41 rfl (Nat.le_of_ble_eq_true rfl) rfl (fun ls hl => ?_)
      refine r_goto C (tgt := 5) dX7_mixPlaces_44 (by decide) ?_
      exact hk5 _ _ _ _ _ _ hf hI (lv_sub hl [1, 2, 0] rfl)
    · refine r_lload_n C hl 1 dX7_mixPlaces_21 rfl rfl ?_
      refine r_aload_n C hl 0 dX7_mixPlaces_22 rfl rfl ?_
      refine r_iload C hl 2 dX7_mixPlaces_23 rfl ?_
      refine r_iload C hl 3 dX7_mixPlaces_25 rfl ?_
      refine r_calli (rest := [lI v3]) hI hf (fun r M' h => run_V C hI F_X7_place w_265 w_266 w_542 ⟨⟨Nat.le_of_ble_eq_true rfl, Nat.le_of_ble_eq_true rfl⟩, Nat.le_of_ble_eq_true rfl, Nat.le_of_ble_eq_true rfl⟩ (zX7 h0) (oX7 h0) rfl hl dX7_mixPlaces_27 [iI v5, iI v6] rfl rfl (Nat.le_of_ble_eq_true rfl) (c_X7_place C.2.2.2.2.2.2 h0 h)) (fun r27 M27 H locs hI hf => ?_)
      refine r_gd hf (fun q30_1 hf => ?_)
      refine r_i2l C q30_1 dX7_mixPlaces_30 ?_
      refine r_calll (rest := []) hI hf (fun r M' h => run_S C hI F_X7_mix w_544 w_543 ⟨⟨Nat.le_of_ble_eq_true rfl, Nat.le_of_ble_eq_true rfl⟩, Nat.le_of_ble_eq_true rfl, Nat.le_of_ble_eq_true rfl⟩ hl dX7_mixPlaces_31 [lI v3, lI r27] rfl rfl (Nat.le_of_ble_eq_true rfl) (c_X7_mix C.2.2.2.2.2.2 h)) (fun r31 M31 H locs hI hf => ?_)
      refine r_lstore_n C hl (lv' := [(3, lI r31), (0, rI g o0), (5, iI v5), (6, iI v6)]) dX7_mixPlaces_34 rfl (Nat.le_of_ble_eq_true rfl) rfl (fun ls hl => ?_)
      refine r_iinc C hl (lv' := [(6, iI (v6 + 1)), (3, lI r31), (0, rI g o0), (5, iI v5)]) 3 dX7_mixPlaces_35 rfl (Nat.le_of_ble_eq_true rfl) rfl (fun ls hl => ?_)
      refine r_goto C (tgt := 15) dX7_mixPlaces_38 (by decide) ?_
      exact ih _ _ _ _ _ _ _ hf hI (lv_sub hl [2, 1, 3, 0] rfl)
set_option maxRecDepth 100000 in
set_option maxHeartbeats 4000000 in
theorem t_X7_mixPlaces_5 {g : GP} {p : Program} {l : Launch} {e : Env} {s : State} {m : MethodId} {args : Array Value} {below : List Frame} {meth : Method} {c : Code} {Q : State → Prop} {N : Nat} {o0 : Nat} {v1 : Int} (h0 : kd o0 = 7) (C : Cx g p s m args c cX7_mixPlaces 7 "LentGallery") {r : Int × Mem} (hQ : RetL g p l e (rmK 5 114) s m args below meth c cX7_mixPlaces r Q) : ∀ (n : Nat) (v3 v5 : Int) (M : Mem) (H : Heap) (locs : List Loc) (ls : Array Slot), f_X7_mixPlaces_5 N o0 v1 n v3 v5 M = some r → Inv g s M H locs → lv_has ls 7 [(0, rI g o0), (3, lI v3), (5, iI v5)] → W p l e (rmK 5 114) s m args below meth c H locs 0 0 Q (F0 m 5 ls []) := by
  intro n
  induction n with
  | zero =>
    intro v3 v5 M H locs ls hf hI hl
    cases hf
  | succ n ih =>
    intro v3 v5 M H locs ls hf hI hl
    rw [f_X7_mixPlaces_5] at hf
    refine r_iload C hl 2 dX7_mixPlaces_5 rfl ?_
    refine r_bipush C dX7_mixPlaces_7 rfl ?_
    refine r_gd hf (fun q9_0 hf => ?_)
    refine r_ic_ge C q9_0 (by decide) (tgt := 47) dX7_mixPlaces_9 (by decide) hf (fun hf => ?_) (fun hf => ?_)
    · refine r_lload_n C hl 1 dX7_mixPlaces_47 rfl rfl ?_
      exact r_lret hQ hf hI dX7_mixPlaces_48
    · refine r_iconst C dX7_mixPlaces_12 ?_
      refine r_istore C hl (lv' := [(6, iI 0), (0, rI g o0), (3, lI v3), (5, iI v5)]) dX7_mixPlaces_13 (Nat.le_of_ble_eq_true rfl) rfl (fun ls hl => ?_)
      exact t_X7_mixPlaces_15 h0 C hQ ih _ _ _ _ _ _ _ _ hf hI (lv_sub hl [1, 2, 3, 0] rfl)
set_option maxRecDepth 100000 in
set_option maxHeartbeats 4000000 in
theorem c_X7_mixPlaces {l : Launch} {g : GP} (hj : Inj g) {N : Nat} {M : Mem} {o0 : Nat} {v1 : Int} (h0 : kd o0 = 7) {r : Int × Mem} (hf : f_X7_mixPlaces N o0 v1 M = some r) : Met l yX7_mixPlaces (Cond.code yX7_mixPlaces cX7_mixPlaces 7 (some .long) :: TB) (rmK 5 114) (PreW g M [rI g o0, lI v1]) (PostL g r.1 r.2) 0 0 (Ad g) := by
  unfold f_X7_mixPlaces at hf
  refine met_of (nL := 7) (cc := cX7_mixPlaces) (M := M) (by decide +kernel) hj (Nat.le_of_ble_eq_true rfl) ?_
  intro p e s m below meth c ls C hr hlk hI hl
  have C : Cx g p s m _ c cX7_mixPlaces 7 "LentGallery" := C
  have hl : lv_has ls 7 [(0, rI g o0), (1, lI v1)] := hl
  have hQ := ret_l (l := l) (e := e) (R := (rmK 5 114)) (below := below) (r := r) C hr hlk
  generalize s.heap = H, ([] : List Loc) = locs at hI ⊢
  refine r_lload_n C hl 1 dX7_mixPlaces_0 rfl rfl ?_
  refine r_lstore_n C hl (lv' := [(3, lI v1), (0, rI g o0), (1, lI v1)]) dX7_mixPlaces_1 rfl (Nat.le_of_ble_eq_true rfl) rfl (fun ls hl => ?_)
  refine r_iconst C dX7_mixPlaces_2 ?_
  refine r_istore C hl (lv' := [(5, iI 0), (3, lI v1), (0, rI g o0), (1, lI v1)]) dX7_mixPlaces_3 (Nat.le_of_ble_eq_true rfl) rfl (fun ls hl => ?_)
  exact t_X7_mixPlaces_5 h0 C hQ _ _ _ _ _ _ _ hf hI (lv_sub hl [2, 1, 0] rfl)
/-! X7_mixWouldBe -/
def f_X7_mixWouldBe_34 (N : Nat) (o0 : Nat) (v1 : Int) : Nat → Int → Int → Mem → Option (Int × Mem)
  | 0, _, _, _ => none
  | n + 1, v3, v5, M => gd (inR v5) (if 15 < v5 then (some (v3, M)) else (bnd (f_X7_props N o0 5 v5 M) (fun r46 M46 => gd (inR r46) (bnd (f_X7_mix N v3 r46 M46) (fun r50 M50 => f_X7_mixWouldBe_34 N o0 v1 n r50 (v5 + 1) M50)))))
def f_X7_mixWouldBe (N : Nat) (o0 : Nat) (v1 : Int) (M : Mem) : Option (Int × Mem) := bnd (f_X7_holds N o0 M) (fun r2 M2 => gd (inR r2) (bnd (f_X7_mix N v1 r2 M2) (fun r6 M6 => bnd (f_X7_out N o0 M6) (fun r10 M10 => gd (inR r10) (bnd (f_X7_mix N r6 r10 M10) (fun r14 M14 => bnd (f_X7_props N o0 5 0 M14) (fun r22 M22 => gd (inR r22) (bnd (f_X7_mix N r14 r22 M22) (fun r26 M26 => f_X7_mixWouldBe_34 N o0 v1 N r26 10 M26)))))))))
theorem F_X7_mixWouldBe : CalF yX7_mixWouldBe cX7_mixWouldBe 6 (some .long) 1 := ⟨w_551, w_1, by decide +kernel⟩
set_option maxRecDepth 100000 in
set_option maxHeartbeats 4000000 in
theorem t_X7_mixWouldBe_34 {g : GP} {p : Program} {l : Launch} {e : Env} {s : State} {m : MethodId} {args : Array Value} {below : List Frame} {meth : Method} {c : Code} {Q : State → Prop} {N : Nat} {o0 : Nat} {v1 : Int} (h0 : kd o0 = 7) (C : Cx g p s m args c cX7_mixWouldBe 6 "LentGallery") {r : Int × Mem} (hQ : RetL g p l e (rmK 5 108) s m args below meth c cX7_mixWouldBe r Q) : ∀ (n : Nat) (v3 v5 : Int) (M : Mem) (H : Heap) (locs : List Loc) (ls : Array Slot), f_X7_mixWouldBe_34 N o0 v1 n v3 v5 M = some r → Inv g s M H locs → lv_has ls 6 [(0, rI g o0), (3, lI v3), (5, iI v5)] → W p l e (rmK 5 108) s m args below meth c H locs 0 0 Q (F0 m 34 ls []) := by
  intro n
  induction n with
  | zero =>
    intro v3 v5 M H locs ls hf hI hl
    cases hf
  | succ n ih =>
    intro v3 v5 M H locs ls hf hI hl
    rw [f_X7_mixWouldBe_34] at hf
    refine r_iload C hl 2 dX7_mixWouldBe_34 rfl ?_
    refine r_bipush C dX7_mixWouldBe_36 rfl ?_
    refine r_gd hf (fun q38_0 hf => ?_)
    refine r_ic_gt C q38_0 (by decide) (tgt := 60) dX7_mixWouldBe_38 (by decide) hf (fun hf => ?_) (fun hf => ?_)
    · refine r_lload_n C hl 1 dX7_mixWouldBe_60 rfl rfl ?_
      exact r_lret hQ hf hI dX7_mixWouldBe_61
    · refine r_lload_n C hl 1 dX7_mixWouldBe_41 rfl rfl ?_
      refine r_aload_n C hl 0 dX7_mixWouldBe_42 rfl rfl ?_
      refine r_iconst C dX7_mixWouldBe_43 ?_
      refine r_iload C hl 2 dX7_mixWouldBe_44 rfl ?_
      refine r_calli (rest := [lI v3]) hI hf (fun r M' h => run_V C hI F_X7_props w_453 w_454 w_554 ⟨⟨Nat.le_of_ble_eq_true rfl, Nat.le_of_ble_eq_true rfl⟩, Nat.le_of_ble_eq_true rfl, Nat.le_of_ble_eq_true rfl⟩ (zX7 h0) (oX7 h0) rfl hl dX7_mixWouldBe_46 [iI 5, iI v5] rfl rfl (Nat.le_of_ble_eq_true rfl) (c_X7_props C.2.2.2.2.2.2 h0 h)) (fun r46 M46 H locs hI hf => ?_)
      refine r_gd hf (fun q49_1 hf => ?_)
      refine r_i2l C q49_1 dX7_mixWouldBe_49 ?_
      refine r_calll (rest := []) hI hf (fun r M' h => run_S C hI F_X7_mix w_544 w_543 ⟨⟨Nat.le_of_ble_eq_true rfl, Nat.le_of_ble_eq_true rfl⟩, Nat.le_of_ble_eq_true rfl, Nat.le_of_ble_eq_true rfl⟩ hl dX7_mixWouldBe_50 [lI v3, lI r46] rfl rfl (Nat.le_of_ble_eq_true rfl) (c_X7_mix C.2.2.2.2.2.2 h)) (fun r50 M50 H locs hI hf => ?_)
      refine r_lstore_n C hl (lv' := [(3, lI r50), (0, rI g o0), (5, iI v5)]) dX7_mixWouldBe_53 rfl (Nat.le_of_ble_eq_true rfl) rfl (fun ls hl => ?_)
      refine r_iinc C hl (lv' := [(5, iI (v5 + 1)), (3, lI r50), (0, rI g o0)]) 2 dX7_mixWouldBe_54 rfl (Nat.le_of_ble_eq_true rfl) rfl (fun ls hl => ?_)
      refine r_goto C (tgt := 34) dX7_mixWouldBe_57 (by decide) ?_
      exact ih _ _ _ _ _ _ hf hI (lv_sub hl [2, 1, 0] rfl)
set_option maxRecDepth 100000 in
set_option maxHeartbeats 4000000 in
theorem c_X7_mixWouldBe {l : Launch} {g : GP} (hj : Inj g) {N : Nat} {M : Mem} {o0 : Nat} {v1 : Int} (h0 : kd o0 = 7) {r : Int × Mem} (hf : f_X7_mixWouldBe N o0 v1 M = some r) : Met l yX7_mixWouldBe (Cond.code yX7_mixWouldBe cX7_mixWouldBe 6 (some .long) :: TB) (rmK 5 108) (PreW g M [rI g o0, lI v1]) (PostL g r.1 r.2) 0 0 (Ad g) := by
  unfold f_X7_mixWouldBe at hf
  refine met_of (nL := 6) (cc := cX7_mixWouldBe) (M := M) (by decide +kernel) hj (Nat.le_of_ble_eq_true rfl) ?_
  intro p e s m below meth c ls C hr hlk hI hl
  have C : Cx g p s m _ c cX7_mixWouldBe 6 "LentGallery" := C
  have hl : lv_has ls 6 [(0, rI g o0), (1, lI v1)] := hl
  have hQ := ret_l (l := l) (e := e) (R := (rmK 5 108)) (below := below) (r := r) C hr hlk
  generalize s.heap = H, ([] : List Loc) = locs at hI ⊢
  refine r_lload_n C hl 1 dX7_mixWouldBe_0 rfl rfl ?_
  refine r_aload_n C hl 0 dX7_mixWouldBe_1 rfl rfl ?_
  refine r_calli (rest := [lI v1]) hI hf (fun r M' h => run_V C hI F_X7_holds w_418 w_419 w_552 ⟨⟨Nat.le_of_ble_eq_true rfl, Nat.le_of_ble_eq_true rfl⟩, Nat.le_of_ble_eq_true rfl, Nat.le_of_ble_eq_true rfl⟩ (zX7 h0) (oX7 h0) rfl hl dX7_mixWouldBe_2 [] rfl rfl (Nat.le_of_ble_eq_true rfl) (c_X7_holds C.2.2.2.2.2.2 h0 h)) (fun r2 M2 H locs hI hf => ?_)
  refine r_gd hf (fun q5_0 hf => ?_)
  refine r_i2l C q5_0 dX7_mixWouldBe_5 ?_
  refine r_calll (rest := []) hI hf (fun r M' h => run_S C hI F_X7_mix w_544 w_543 ⟨⟨Nat.le_of_ble_eq_true rfl, Nat.le_of_ble_eq_true rfl⟩, Nat.le_of_ble_eq_true rfl, Nat.le_of_ble_eq_true rfl⟩ hl dX7_mixWouldBe_6 [lI v1, lI r2] rfl rfl (Nat.le_of_ble_eq_true rfl) (c_X7_mix C.2.2.2.2.2.2 h)) (fun r6 M6 H locs hI hf => ?_)
  refine r_aload_n C hl 0 dX7_mixWouldBe_9 rfl rfl ?_
  refine r_calli (rest := [lI r6]) hI hf (fun r M' h => run_V C hI F_X7_out w_467 w_468 w_553 ⟨⟨Nat.le_of_ble_eq_true rfl, Nat.le_of_ble_eq_true rfl⟩, Nat.le_of_ble_eq_true rfl, Nat.le_of_ble_eq_true rfl⟩ (zX7 h0) (oX7 h0) rfl hl dX7_mixWouldBe_10 [] rfl rfl (Nat.le_of_ble_eq_true rfl) (c_X7_out C.2.2.2.2.2.2 h0 h)) (fun r10 M10 H locs hI hf => ?_)
  refine r_gd hf (fun q13_1 hf => ?_)
  refine r_i2l C q13_1 dX7_mixWouldBe_13 ?_
  refine r_calll (rest := []) hI hf (fun r M' h => run_S C hI F_X7_mix w_544 w_543 ⟨⟨Nat.le_of_ble_eq_true rfl, Nat.le_of_ble_eq_true rfl⟩, Nat.le_of_ble_eq_true rfl, Nat.le_of_ble_eq_true rfl⟩ hl dX7_mixWouldBe_14 [lI r6, lI r10] rfl rfl (Nat.le_of_ble_eq_true rfl) (c_X7_mix C.2.2.2.2.2.2 h)) (fun r14 M14 H locs hI hf => ?_)
  refine r_lstore_n C hl (lv' := [(3, lI r14), (0, rI g o0), (1, lI v1)]) dX7_mixWouldBe_17 rfl (Nat.le_of_ble_eq_true rfl) rfl (fun ls hl => ?_)
  refine r_lload_n C hl 0 dX7_mixWouldBe_18 rfl rfl ?_
  refine r_aload_n C hl 1 dX7_mixWouldBe_19 rfl rfl ?_
  refine r_iconst C dX7_mixWouldBe_20 ?_
  refine r_iconst C dX7_mixWouldBe_21 ?_
  refine r_calli (rest := [lI r14]) hI hf (fun r M' h => run_V C hI F_X7_props w_453 w_454 w_554 ⟨⟨Nat.le_of_ble_eq_true rfl, Nat.le_of_ble_eq_true rfl⟩, Nat.le_of_ble_eq_true rfl, Nat.le_of_ble_eq_true rfl⟩ (zX7 h0) (oX7 h0) rfl hl dX7_mixWouldBe_22 [iI 5, iI 0] rfl rfl (Nat.le_of_ble_eq_true rfl) (c_X7_props C.2.2.2.2.2.2 h0 h)) (fun r22 M22 H locs hI hf => ?_)
  refine r_gd hf (fun q25_2 hf => ?_)
  refine r_i2l C q25_2 dX7_mixWouldBe_25 ?_
  refine r_calll (rest := []) hI hf (fun r M' h => run_S C hI F_X7_mix w_544 w_543 ⟨⟨Nat.le_of_ble_eq_true rfl, Nat.le_of_ble_eq_true rfl⟩, Nat.le_of_ble_eq_true rfl, Nat.le_of_ble_eq_true rfl⟩ hl dX7_mixWouldBe_26 [lI r14, lI r22] rfl rfl (Nat.le_of_ble_eq_true rfl) (c_X7_mix C.2.2.2.2.2.2 h)) (fun r26 M26 H locs hI hf => ?_)
  refine r_lstore_n C hl (lv' := [(3, lI r26), (0, rI g o0), (1, lI v1)]) dX7_mixWouldBe_29 rfl (Nat.le_of_ble_eq_true rfl) rfl (fun ls hl => ?_)
  refine r_bipush C dX7_mixWouldBe_30 rfl ?_
  refine r_istore C hl (lv' := [(5, iI 10), (3, lI r26), (0, rI g o0), (1, lI v1)]) dX7_mixWouldBe_32 (Nat.le_of_ble_eq_true rfl) rfl (fun ls hl => ?_)
  exact t_X7_mixWouldBe_34 h0 C hQ _ _ _ _ _ _ _ hf hI (lv_sub hl [2, 1, 0] rfl)
/-! X7_digest -/
def f_X7_digest_119 (N : Nat) (o0 : Nat) : Nat → Int → Int → Mem → Option (Int × Mem)
  | 0, _, _, _ => none
  | n + 1, v1, v3, M => gd (inR v3) (if 12 < v3 then (some (v1, M)) else (bnd (f_X7_count N o0 v3 M) (fun r128 M128 => gd (inR r128) (bnd (f_X7_mix N v1 r128 M128) (fun r132 M132 => f_X7_digest_119 N o0 n r132 (v3 + 1) M132)))))
def f_X7_digest_79 (N : Nat) (o0 : Nat) : Nat → Int → Int → Mem → Option (Int × Mem)
  | 0, _, _, _ => none
  | n + 1, v1, v3, M => gd (inR v3) (gd (inR (M (ch o0 0) 1)) (if (M (ch o0 0) 1) ≤ v3 then (f_X7_digest_119 N o0 N v1 0 M) else (if 12 ≤ v3 then (f_X7_digest_119 N o0 N v1 0 M) else (gd (0 ≤ v3 ∧ v3 < 12) (gd (inR (M (ch (ch o0 0) 0) v3.toNat)) (bnd (f_X7_mix N v1 (M (ch (ch o0 0) 0) v3.toNat) M) (fun r107 M107 => f_X7_digest_79 N o0 n r107 (v3 + 1) M107)))))))
def f_X7_digest_33 (N : Nat) (o0 : Nat) (k19 : Int → Int → Mem → Option (Int × Mem)) : Nat → Int → Int → Int → Mem → Option (Int × Mem)
  | 0, _, _, _, _ => none
  | n + 1, v1, v3, v4, M => gd (inR v4) (if 5 < v4 then (k19 v1 (v3 + 1) M) else (bnd (f_X7_about N o0 v3 v4 M) (fun r44 M44 => gd (inR r44) (bnd (f_X7_mix N v1 r44 M44) (fun r48 M48 => f_X7_digest_33 N o0 k19 n r48 v3 (v4 + 1) M48)))))
def f_X7_digest_19 (N : Nat) (o0 : Nat) : Nat → Int → Int → Mem → Option (Int × Mem)
  | 0, _, _, _ => none
  | n + 1, v1, v3, M => gd (inR v3) (gd (inR (M (ch o0 1) 3)) (if (M (ch o0 1) 3) ≤ v3 then (gd (inR (M o0 9)) (if (M o0 9) = 0 then (f_X7_digest_79 N o0 N v1 0 M) else (bnd (f_X7_mixWouldBe N o0 v1 M) (fun r73 M73 => f_X7_digest_79 N o0 N r73 0 M73)))) else (f_X7_digest_33 N o0 (f_X7_digest_19 N o0 n) N v1 v3 0 M)))
def f_X7_digest (N : Nat) (o0 : Nat) (M : Mem) : Option (Int × Mem) := gd (inR (M o0 9)) (if (M o0 9) = 0 then (f_X7_digest_19 N o0 N 919 0 M) else (bnd (f_X7_mixPlaces N o0 919 M) (fun r13 M13 => f_X7_digest_19 N o0 N r13 0 M13)))
theorem F_X7_digest : CalF yX7_digest cX7_digest 5 (some .long) 0 := ⟨w_536, w_1, by decide +kernel⟩
set_option maxRecDepth 100000 in
set_option maxHeartbeats 4000000 in
theorem t_X7_digest_119 {g : GP} {p : Program} {l : Launch} {e : Env} {s : State} {m : MethodId} {args : Array Value} {below : List Frame} {meth : Method} {c : Code} {Q : State → Prop} {N : Nat} {o0 : Nat} (h0 : kd o0 = 7) (C : Cx g p s m args c cX7_digest 5 "LentGallery") {r : Int × Mem} (hQ : RetL g p l e (rmK 6 140) s m args below meth c cX7_digest r Q) : ∀ (n : Nat) (v1 v3 : Int) (M : Mem) (H : Heap) (locs : List Loc) (ls : Array Slot), f_X7_digest_119 N o0 n v1 v3 M = some r → Inv g s M H locs → lv_has ls 5 [(0, rI g o0), (1, lI v1), (3, iI v3)] → W p l e (rmK 6 140) s m args below meth c H locs 0 0 Q (F0 m 119 ls []) := by
  intro n
  induction n with
  | zero =>
    intro v1 v3 M H locs ls hf hI hl
    cases hf
  | succ n ih =>
    intro v1 v3 M H locs ls hf hI hl
    rw [f_X7_digest_119] at hf
    refine r_iload_n C hl 2 dX7_digest_119 rfl rfl ?_
    refine r_bipush C dX7_digest_120 rfl ?_
    refine r_gd hf (fun q122_0 hf => ?_)
    refine r_ic_gt C q122_0 (by decide) (tgt := 142) dX7_digest_122 (by decide) hf (fun hf => ?_) (fun hf => ?_)
    · refine r_lload_n C hl 1 dX7_digest_142 rfl rfl ?_
      exact r_lret hQ hf hI dX7_digest_143
    · refine r_lload_n C hl 1 dX7_digest_125 rfl rfl ?_
      refine r_aload_n C hl 0 dX7_digest_126 rfl rfl ?_
      refine r_iload_n C hl 2 dX7_digest_127 rfl rfl ?_
      refine r_calli (rest := [lI v1]) hI hf (fun r M' h => run_V C hI F_X7_count w_529 w_530 w_555 ⟨⟨Nat.le_of_ble_eq_true rfl, Nat.le_of_ble_eq_true rfl⟩, Nat.le_of_ble_eq_true rfl, Nat.le_of_ble_eq_true rfl⟩ (zX7 h0) (oX7 h0) rfl hl dX7_digest_128 [iI v3] rfl rfl (Nat.le_of_ble_eq_true rfl) (c_X7_count C.2.2.2.2.2.2 h0 h)) (fun r128 M128 H locs hI hf => ?_)
      refine r_gd hf (fun q131_1 hf => ?_)
      refine r_i2l C q131_1 dX7_digest_131 ?_
      refine r_calll (rest := []) hI hf (fun r M' h => run_S C hI F_X7_mix w_544 w_543 ⟨⟨Nat.le_of_ble_eq_true rfl, Nat.le_of_ble_eq_true rfl⟩, Nat.le_of_ble_eq_true rfl, Nat.le_of_ble_eq_true rfl⟩ hl dX7_digest_132 [lI v1, lI r128] rfl rfl (Nat.le_of_ble_eq_true rfl) (c_X7_mix C.2.2.2.2.2.2 h)) (fun r132 M132 H locs hI hf => ?_)
      refine r_lstore_n C hl (lv' := [(1, lI r132), (0, rI g o0), (3, iI v3)]) dX7_digest_135 rfl (Nat.le_of_ble_eq_true rfl) rfl (fun ls hl => ?_)
      refine r_iinc C hl (lv' := [(3, iI (v3 + 1)), (1, lI r132), (0, rI g o0)]) 2 dX7_digest_136 rfl (Nat.le_of_ble_eq_true rfl) rfl (fun ls hl => ?_)
      refine r_goto C (tgt := 119) dX7_digest_139 (by decide) ?_
      exact ih _ _ _ _ _ _ hf hI (lv_sub hl [2, 1, 0] rfl)
set_option maxRecDepth 100000 in
set_option maxHeartbeats 4000000 in
theorem t_X7_digest_79 {g : GP} {p : Program} {l : Launch} {e : Env} {s : State} {m : MethodId} {args : Array Value} {below : List Frame} {meth : Method} {c : Code} {Q : State → Prop} {N : Nat} {o0 : Nat} (h0 : kd o0 = 7) (C : Cx g p s m args c cX7_digest 5 "LentGallery") {r : Int × Mem} (hQ : RetL g p l e (rmK 6 140) s m args below meth c cX7_digest r Q) : ∀ (n : Nat) (v1 v3 : Int) (M : Mem) (H : Heap) (locs : List Loc) (ls : Array Slot), f_X7_digest_79 N o0 n v1 v3 M = some r → Inv g s M H locs → lv_has ls 5 [(0, rI g o0), (1, lI v1), (3, iI v3)] → W p l e (rmK 6 140) s m args below meth c H locs 0 0 Q (F0 m 79 ls []) := by
  intro n
  induction n with
  | zero =>
    intro v1 v3 M H locs ls hf hI hl
    cases hf
  | succ n ih =>
    intro v1 v3 M H locs ls hf hI hl
    rw [f_X7_digest_79] at hf
    refine r_iload_n C hl 2 dX7_digest_79 rfl rfl ?_
    refine r_aload_n C hl 0 dX7_digest_80 rfl rfl ?_
    refine g_7_0 C hI h0 w_185 dX7_digest_81 ?_
    refine g_2_1 C hI (k_7_0 h0) w_31 dX7_digest_84 ?_
    refine r_gd hf (fun q87_0 hf => ?_)
    refine r_gd hf (fun q87_1 hf => ?_)
    refine r_ic_ge C q87_0 q87_1 (tgt := 117) dX7_digest_87 (by decide) hf (fun hf => ?_) (fun hf => ?_)
    · refine r_iconst C dX7_digest_117 ?_
      refine r_istore_n C hl (lv' := [(3, iI 0), (0, rI g o0), (1, lI v1)]) dX7_digest_118 rfl (Nat.le_of_ble_eq_true rfl) rfl (fun ls hl => ?_)
      exact t_X7_digest_119 h0 C hQ _ _ _ _ _ _ _ hf hI (lv_sub hl [1, 2, 0] rfl)
    · refine r_iload_n C hl 2 dX7_digest_90 rfl rfl ?_
      refine r_bipush C dX7_digest_91 rfl ?_
      refine r_ic_ge C q87_0 (by decide) (tgt := 117) dX7_digest_93 (by decide) hf (fun hf => ?_) (fun hf => ?_)
      · refine r_iconst C dX7_digest_117 ?_
        refine r_istore_n C hl (lv' := [(3, iI 0), (0, rI g o0), (1, lI v1)]) dX7_digest_118 rfl (Nat.le_of_ble_eq_true rfl) rfl (fun ls hl => ?_)
        exact t_X7_digest_119 h0 C hQ _ _ _ _ _ _ _ hf hI (lv_sub hl [1, 2, 0] rfl)
      · refine r_lload_n C hl 1 dX7_digest_96 rfl rfl ?_
        refine r_aload_n C hl 0 dX7_digest_97 rfl rfl ?_
        refine g_7_0 C hI h0 w_185 dX7_digest_98 ?_
        refine g_2_0 C hI (k_7_0 h0) w_29 dX7_digest_101 ?_
        refine r_iload_n C hl 2 dX7_digest_104 rfl rfl ?_
        refine r_gd hf (fun q105_2 hf => ?_)
        refine r_iald C hI 12 (n := 12) (k_2_0 (k_7_0 h0)) (by decide) rfl q105_2 dX7_digest_105 ?_
        refine r_gd hf (fun q106_3 hf => ?_)
        refine r_i2l C q106_3 dX7_digest_106 ?_
        refine r_calll (rest := []) hI hf (fun r M' h => run_S C hI F_X7_mix w_544 w_543 ⟨⟨Nat.le_of_ble_eq_true rfl, Nat.le_of_ble_eq_true rfl⟩, Nat.le_of_ble_eq_true rfl, Nat.le_of_ble_eq_true rfl⟩ hl dX7_digest_107 [lI v1, lI (M (ch (ch o0 0) 0) v3.toNat)] rfl rfl (Nat.le_of_ble_eq_true rfl) (c_X7_mix C.2.2.2.2.2.2 h)) (fun r107 M107 H locs hI hf => ?_)
        refine r_lstore_n C hl (lv' := [(1, lI r107), (0, rI g o0), (3, iI v3)]) dX7_digest_110 rfl (Nat.le_of_ble_eq_true rfl) rfl (fun ls hl => ?_)
        refine r_iinc C hl (lv' := [(3, iI (v3 + 1)), (1, lI r107), (0, rI g o0)]) 2 dX7_digest_111 rfl (Nat.le_of_ble_eq_true rfl) rfl (fun ls hl => ?_)
        refine r_goto C (tgt := 79) dX7_digest_114 (by decide) ?_
        exact ih _ _ _ _ _ _ hf hI (lv_sub hl [2, 1, 0] rfl)
set_option maxRecDepth 100000 in
set_option maxHeartbeats 4000000 in
theorem t_X7_digest_33 {g : GP} {p : Program} {l : Launch} {e : Env} {s : State} {m : MethodId} {args : Array Value} {below : List Frame} {meth : Method} {c : Code} {Q : State → Prop} {N : Nat} {o0 : Nat} (h0 : kd o0 = 7) (C : Cx g p s m args c cX7_digest 5 "LentGallery") {r : Int × Mem} (hQ : RetL g p l e (rmK 6 140) s m args below meth c cX7_digest r Q) {k19 : Int → Int → Mem → Option (Int × Mem)} (hk19 : ∀ (v1 v3 : Int) (M : Mem) (H : Heap) (locs : List Loc) (ls : Array Slot), k19 v1 v3 M = some r → Inv g s M H locs → lv_has ls 5 [(0, rI g o0), (1, lI v1), (3, iI v3)] → W p l e (rmK 6 140) s m args below meth c H locs 0 0 Q (F0 m 19 ls [])) : ∀ (n : Nat) (v1 v3 v4 : Int) (M : Mem) (H : Heap) (locs : List Loc) (ls : Array Slot), f_X7_digest_33 N o0 k19 n v1 v3 v4 M = some r → Inv g s M H locs → lv_has ls 5 [(0, rI g o0), (1, lI v1), (3, iI v3), (4, iI v4)] → W p l e (rmK 6 140) s m args below meth c H locs 0 0 Q (F0 m 33 ls []) := by
  intro n
  induction n with
  | zero =>
    intro v1 v3 v4 M H locs ls hf hI hl
    cases hf
  | succ n ih =>
    intro v1 v3 v4 M H locs ls hf hI hl
    rw [f_X7_digest_33] at hf
    refine r_iload C hl 3 dX7_digest_33 rfl ?_
    refine r_iconst C dX7_digest_35 ?_
    refine r_gd hf (fun q36_0 hf => ?_)
    refine r_ic_gt C q36_0 (by decide) (tgt := 58) dX7_digest_36 (by decide) hf (fun hf => ?_) (fun hf => ?_)
    · refine r_iinc C hl (lv' := [(3, iI (v3 + 1)), (0, rI g o0), (1, lI v1), (4, iI v4)]) 2 dX7_digest_58 rfl (Nat.le_of_ble_eq_true rfl) rfl (fun ls hl => ?_)
      refine r_goto C (tgt := 19) dX7_digest_61 (by decide) ?_
      exact hk19 _ _ _ _ _ _ hf hI (lv_sub hl [1, 2, 0] rfl)
    · refine r_lload_n C hl 1 dX7_digest_39 rfl rfl ?_
      refine r_aload_n C hl 0 dX7_digest_40 rfl rfl ?_
      refine r_iload_n C hl 2 dX7_digest_41 rfl rfl ?_
      refine r_iload C hl 3 dX7_digest_42 rfl ?_
      refine r_calli (rest := [lI v1]) hI hf (fun r M' h => run_V C hI F_X7_about w_356 w_357 w_547 ⟨⟨Nat.le_of_ble_eq_true rfl, Nat.le_of_ble_eq_true rfl⟩, Nat.le_of_ble_eq_true rfl, Nat.le_of_ble_eq_true rfl⟩ (zX7 h0) (oX7 h0) rfl hl dX7_digest_44 [iI v3, iI v4] rfl rfl (Nat.le_of_ble_eq_true rfl) (c_X7_about C.2.2.2.2.2.2 h0 h)) (fun r44 M44 H locs hI hf => ?_)
      refine r_gd hf (fun q47_1 hf => ?_)
      refine r_i2l C q47_1 dX7_digest_47 ?_
      refine r_calll (rest := []) hI hf (fun r M' h => run_S C hI F_X7_mix w_544 w_543 ⟨⟨Nat.le_of_ble_eq_true rfl, Nat.le_of_ble_eq_true rfl⟩, Nat.le_of_ble_eq_true rfl, Nat.le_of_ble_eq_true rfl⟩ hl dX7_digest_48 [lI v1, lI r44] rfl rfl (Nat.le_of_ble_eq_true rfl) (c_X7_mix C.2.2.2.2.2.2 h)) (fun r48 M48 H locs hI hf => ?_)
      refine r_lstore_n C hl (lv' := [(1, lI r48), (0, rI g o0), (3, iI v3), (4, iI v4)]) dX7_digest_51 rfl (Nat.le_of_ble_eq_true rfl) rfl (fun ls hl => ?_)
      refine r_iinc C hl (lv' := [(4, iI (v4 + 1)), (1, lI r48), (0, rI g o0), (3, iI v3)]) 3 dX7_digest_52 rfl (Nat.le_of_ble_eq_true rfl) rfl (fun ls hl => ?_)
      refine r_goto C (tgt := 33) dX7_digest_55 (by decide) ?_
      exact ih _ _ _ _ _ _ _ hf hI (lv_sub hl [2, 1, 3, 0] rfl)
set_option maxRecDepth 100000 in
set_option maxHeartbeats 4000000 in
theorem t_X7_digest_19 {g : GP} {p : Program} {l : Launch} {e : Env} {s : State} {m : MethodId} {args : Array Value} {below : List Frame} {meth : Method} {c : Code} {Q : State → Prop} {N : Nat} {o0 : Nat} (h0 : kd o0 = 7) (C : Cx g p s m args c cX7_digest 5 "LentGallery") {r : Int × Mem} (hQ : RetL g p l e (rmK 6 140) s m args below meth c cX7_digest r Q) : ∀ (n : Nat) (v1 v3 : Int) (M : Mem) (H : Heap) (locs : List Loc) (ls : Array Slot), f_X7_digest_19 N o0 n v1 v3 M = some r → Inv g s M H locs → lv_has ls 5 [(0, rI g o0), (1, lI v1), (3, iI v3)] → W p l e (rmK 6 140) s m args below meth c H locs 0 0 Q (F0 m 19 ls []) := by
  intro n
  induction n with
  | zero =>
    intro v1 v3 M H locs ls hf hI hl
    cases hf
  | succ n ih =>
    intro v1 v3 M H locs ls hf hI hl
    rw [f_X7_digest_19] at hf
    refine r_iload_n C hl 2 dX7_digest_19 rfl rfl ?_
    refine r_aload_n C hl 0 dX7_digest_20 rfl rfl ?_
    refine g_7_1 C hI h0 w_186 dX7_digest_21 ?_
    refine g_6_3 C hI (k_7_1 h0) w_75 dX7_digest_24 ?_
    refine r_gd hf (fun q27_0 hf => ?_)
    refine r_gd hf (fun q27_1 hf => ?_)
    refine r_ic_ge C q27_0 q27_1 (tgt := 64) dX7_digest_27 (by decide) hf (fun hf => ?_) (fun hf => ?_)
    · refine r_aload_n C hl 0 dX7_digest_64 rfl rfl ?_
      refine g_7_9 C hI h0 w_194 dX7_digest_65 ?_
      refine r_gd hf (fun q68_2 hf => ?_)
      refine r_if_eq C q68_2 (tgt := 77) dX7_digest_68 (by decide) hf (fun hf => ?_) (fun hf => ?_)
      · refine r_iconst C dX7_digest_77 ?_
        refine r_istore_n C hl (lv' := [(3, iI 0), (0, rI g o0), (1, lI v1)]) dX7_digest_78 rfl (Nat.le_of_ble_eq_true rfl) rfl (fun ls hl => ?_)
        exact t_X7_digest_79 h0 C hQ _ _ _ _ _ _ _ hf hI (lv_sub hl [1, 2, 0] rfl)
      · refine r_aload_n C hl 0 dX7_digest_71 rfl rfl ?_
        refine r_lload_n C hl 1 dX7_digest_72 rfl rfl ?_
        refine r_calll (rest := []) hI hf (fun r M' h => run_V C hI F_X7_mixWouldBe w_550 v_8 w_548 ⟨⟨Nat.le_of_ble_eq_true rfl, Nat.le_of_ble_eq_true rfl⟩, Nat.le_of_ble_eq_true rfl, Nat.le_of_ble_eq_true rfl⟩ (zX7 h0) (oX7 h0) rfl hl dX7_digest_73 [lI v1] rfl rfl (Nat.le_of_ble_eq_true rfl) (c_X7_mixWouldBe C.2.2.2.2.2.2 h0 h)) (fun r73 M73 H locs hI hf => ?_)
        refine r_lstore_n C hl (lv' := [(1, lI r73), (0, rI g o0), (3, iI v3)]) dX7_digest_76 rfl (Nat.le_of_ble_eq_true rfl) rfl (fun ls hl => ?_)
        refine r_iconst C dX7_digest_77 ?_
        refine r_istore_n C hl (lv' := [(3, iI 0), (1, lI r73), (0, rI g o0)]) dX7_digest_78 rfl (Nat.le_of_ble_eq_true rfl) rfl (fun ls hl => ?_)
        exact t_X7_digest_79 h0 C hQ _ _ _ _ _ _ _ hf hI (lv_sub hl [2, 1, 0] rfl)
    · refine r_iconst C dX7_digest_30 ?_
      refine r_istore C hl (lv' := [(4, iI 0), (0, rI g o0), (1, lI v1), (3, iI v3)]) dX7_digest_31 (Nat.le_of_ble_eq_true rfl) rfl (fun ls hl => ?_)
      exact t_X7_digest_33 h0 C hQ ih _ _ _ _ _ _ _ _ hf hI (lv_sub hl [1, 2, 3, 0] rfl)
set_option maxRecDepth 100000 in
set_option maxHeartbeats 4000000 in
theorem c_X7_digest {l : Launch} {g : GP} (hj : Inj g) {N : Nat} {M : Mem} {o0 : Nat} (h0 : kd o0 = 7) {r : Int × Mem} (hf : f_X7_digest N o0 M = some r) : Met l yX7_digest (Cond.code yX7_digest cX7_digest 5 (some .long) :: TB) (rmK 6 140) (PreW g M [rI g o0]) (PostL g r.1 r.2) 0 0 (Ad g) := by
  unfold f_X7_digest at hf
  refine met_of (nL := 5) (cc := cX7_digest) (M := M) (by decide +kernel) hj (Nat.le_of_ble_eq_true rfl) ?_
  intro p e s m below meth c ls C hr hlk hI hl
  have C : Cx g p s m _ c cX7_digest 5 "LentGallery" := C
  have hl : lv_has ls 5 [(0, rI g o0)] := hl
  have hQ := ret_l (l := l) (e := e) (R := (rmK 6 140)) (below := below) (r := r) C hr hlk
  generalize s.heap = H, ([] : List Loc) = locs at hI ⊢
  refine r_ldc2 C (n := 919) w_537 rfl dX7_digest_0 ?_
  refine r_lstore_n C hl (lv' := [(1, lI 919), (0, rI g o0)]) dX7_digest_3 rfl (Nat.le_of_ble_eq_true rfl) rfl (fun ls hl => ?_)
  refine r_aload_n C hl 1 dX7_digest_4 rfl rfl ?_
  refine g_7_9 C hI h0 w_194 dX7_digest_5 ?_
  refine r_gd hf (fun q8_0 hf => ?_)
  refine r_if_eq C q8_0 (tgt := 17) dX7_digest_8 (by decide) hf (fun hf => ?_) (fun hf => ?_)
  · refine r_iconst C dX7_digest_17 ?_
    refine r_istore_n C hl (lv' := [(3, iI 0), (1, lI 919), (0, rI g o0)]) dX7_digest_18 rfl (Nat.le_of_ble_eq_true rfl) rfl (fun ls hl => ?_)
    exact t_X7_digest_19 h0 C hQ _ _ _ _ _ _ _ hf hI (lv_sub hl [2, 1, 0] rfl)
  · refine r_aload_n C hl 1 dX7_digest_11 rfl rfl ?_
    refine r_lload_n C hl 0 dX7_digest_12 rfl rfl ?_
    refine r_calll (rest := []) hI hf (fun r M' h => run_V C hI F_X7_mixPlaces w_540 v_7 w_538 ⟨⟨Nat.le_of_ble_eq_true rfl, Nat.le_of_ble_eq_true rfl⟩, Nat.le_of_ble_eq_true rfl, Nat.le_of_ble_eq_true rfl⟩ (zX7 h0) (oX7 h0) rfl hl dX7_digest_13 [lI 919] rfl rfl (Nat.le_of_ble_eq_true rfl) (c_X7_mixPlaces C.2.2.2.2.2.2 h0 h)) (fun r13 M13 H locs hI hf => ?_)
    refine r_lstore_n C hl (lv' := [(1, lI r13), (0, rI g o0)]) dX7_digest_16 rfl (Nat.le_of_ble_eq_true rfl) rfl (fun ls hl => ?_)
    refine r_iconst C dX7_digest_17 ?_
    refine r_istore_n C hl (lv' := [(3, iI 0), (1, lI r13), (0, rI g o0)]) dX7_digest_18 rfl (Nat.le_of_ble_eq_true rfl) rfl (fun ls hl => ?_)
    exact t_X7_digest_19 h0 C hQ _ _ _ _ _ _ _ hf hI (lv_sub hl [2, 1, 0] rfl)
