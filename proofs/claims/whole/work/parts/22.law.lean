def f_L_law_532 (N : Nat) (L : Nat) (xs : Nat → Int32) (k18 : Int → Mem → Option (Int)) (v3 : Int) (s0 : Int) (s2 : Int) (s3 : Int) (s4 : Int) (M : Mem) : Option (Int) := bnd (f_X8_knock N 2 s2 s3 s4 M) (fun r532 M532 => gd (inR s0) (gd (inR r532) (if s0 = r532 then (k18 (v3 + 4) M532) else (some 0))))
def f_L_law_505 (N : Nat) (L : Nat) (xs : Nat → Int32) (k18 : Int → Mem → Option (Int)) (v3 : Int) (s1 : Int) (s2 : Int) (s3 : Int) (M : Mem) : Option (Int) := bnd (f_X7_knock N 1 s1 s2 s3 M) (fun r505 M505 => gd (0 ≤ (v3 + 1) ∧ (v3 + 1) < (L : Int)) (gd (0 ≤ (v3 + 2) ∧ (v3 + 2) < (L : Int)) (gd (0 ≤ (v3 + 3) ∧ (v3 + 3) < (L : Int)) (if ((xs (v3 + 3).toNat).toInt) = 0 then (f_L_law_532 N L xs k18 v3 r505 ((xs (v3 + 1).toNat).toInt) ((xs (v3 + 2).toNat).toInt) 0 M505) else (f_L_law_532 N L xs k18 v3 r505 ((xs (v3 + 1).toNat).toInt) ((xs (v3 + 2).toNat).toInt) 1 M505)))))
def f_L_law_18 (N : Nat) (L : Nat) (xs : Nat → Int32) : Nat → Int → Mem → Option (Int)
  | 0, _, _ => none
  | n + 1, v3, M => gd (inR v3) (gd (inR (((L : Int)) - 4)) (if (((L : Int)) - 4) < v3 then (some 1) else (gd (0 ≤ v3 ∧ v3 < (L : Int)) (if (i_and ((xs v3.toNat).toInt) 31) < 0 ∨ 21 < (i_and ((xs v3.toNat).toInt) 31) then (f_L_law_18 N L xs n (v3 + 4) M) else (if (i_and ((xs v3.toNat).toInt) 31) = 0 then (gd (0 ≤ (v3 + 1) ∧ (v3 + 1) < (L : Int)) (bnd (f_X7_letter N 1 ((xs (v3 + 1).toNat).toInt) M) (fun r142 M142 => bnd (f_X8_letter N 2 ((xs (v3 + 1).toNat).toInt) M142) (fun r151 M151 => gd (inR r142) (gd (inR r151) (if r142 = r151 then (f_L_law_18 N L xs n (v3 + 4) M151) else (some 0))))))) else (if (i_and ((xs v3.toNat).toInt) 31) = 1 then (bnd (f_X7_blank N 1 M) (fun r160 M160 => bnd (f_X8_blank N 2 M160) (fun r164 M164 => gd (inR r160) (gd (inR r164) (if r160 = r164 then (f_L_law_18 N L xs n (v3 + 4) M164) else (some 0)))))) else (if (i_and ((xs v3.toNat).toInt) 31) = 2 then (bnd (f_X7_fault N 1 M) (fun r173 M173 => bnd (f_X8_fault N 2 M173) (fun r177 M177 => gd (inR r173) (gd (inR r177) (if r173 = r177 then (f_L_law_18 N L xs n (v3 + 4) M177) else (some 0)))))) else (if (i_and ((xs v3.toNat).toInt) 31) = 3 then (bnd (f_X7_gallery N 1 M) (fun r186 M186 => bnd (f_X8_gallery N 2 M186) (fun r190 M190 => gd (inR r186) (gd (inR r190) (if r186 = r190 then (f_L_law_18 N L xs n (v3 + 4) M190) else (some 0)))))) else (if (i_and ((xs v3.toNat).toInt) 31) = 4 then (gd (0 ≤ (v3 + 1) ∧ (v3 + 1) < (L : Int)) (gd (0 ≤ (v3 + 2) ∧ (v3 + 2) < (L : Int)) (bnd (f_X7_place N 1 ((xs (v3 + 1).toNat).toInt) ((xs (v3 + 2).toNat).toInt) M) (fun r209 M209 => bnd (f_X8_place N 2 ((xs (v3 + 1).toNat).toInt) ((xs (v3 + 2).toNat).toInt) M209) (fun r223 M223 => gd (inR r209) (gd (inR r223) (if r209 = r223 then (f_L_law_18 N L xs n (v3 + 4) M223) else (some 0)))))))) else (if (i_and ((xs v3.toNat).toInt) 31) = 5 then (gd (0 ≤ (v3 + 1) ∧ (v3 + 1) < (L : Int)) (bnd (f_X7_prop N 1 ((xs (v3 + 1).toNat).toInt) M) (fun r237 M237 => bnd (f_X8_prop N 2 ((xs (v3 + 1).toNat).toInt) M237) (fun r246 M246 => gd (inR r237) (gd (inR r246) (if r237 = r246 then (f_L_law_18 N L xs n (v3 + 4) M246) else (some 0))))))) else (if (i_and ((xs v3.toNat).toInt) 31) = 6 then (gd (0 ≤ (v3 + 1) ∧ (v3 + 1) < (L : Int)) (gd (0 ≤ (v3 + 2) ∧ (v3 + 2) < (L : Int)) (bnd (f_X7_tenant N 1 ((xs (v3 + 1).toNat).toInt) ((xs (v3 + 2).toNat).toInt) M) (fun r265 M265 => bnd (f_X8_tenant N 2 ((xs (v3 + 1).toNat).toInt) ((xs (v3 + 2).toNat).toInt) M265) (fun r279 M279 => gd (inR r265) (gd (inR r279) (if r265 = r279 then (f_L_law_18 N L xs n (v3 + 4) M279) else (some 0)))))))) else (if (i_and ((xs v3.toNat).toInt) 31) = 7 then (gd (0 ≤ (v3 + 1) ∧ (v3 + 1) < (L : Int)) (gd (0 ≤ (v3 + 2) ∧ (v3 + 2) < (L : Int)) (bnd (f_X7_about N 1 ((xs (v3 + 1).toNat).toInt) ((xs (v3 + 2).toNat).toInt) M) (fun r298 M298 => bnd (f_X8_about N 2 ((xs (v3 + 1).toNat).toInt) ((xs (v3 + 2).toNat).toInt) M298) (fun r312 M312 => gd (inR r298) (gd (inR r312) (if r298 = r312 then (f_L_law_18 N L xs n (v3 + 4) M312) else (some 0)))))))) else (if (i_and ((xs v3.toNat).toInt) 31) = 8 then (gd (0 ≤ (v3 + 1) ∧ (v3 + 1) < (L : Int)) (gd (0 ≤ (v3 + 2) ∧ (v3 + 2) < (L : Int)) (bnd (f_X7_as N 1 ((xs (v3 + 1).toNat).toInt) ((xs (v3 + 2).toNat).toInt) M) (fun r331 M331 => bnd (f_X8_as N 2 ((xs (v3 + 1).toNat).toInt) ((xs (v3 + 2).toNat).toInt) M331) (fun r345 M345 => gd (inR r331) (gd (inR r345) (if r331 = r345 then (f_L_law_18 N L xs n (v3 + 4) M345) else (some 0)))))))) else (if (i_and ((xs v3.toNat).toInt) 31) = 9 then (gd (0 ≤ (v3 + 1) ∧ (v3 + 1) < (L : Int)) (gd (0 ≤ (v3 + 2) ∧ (v3 + 2) < (L : Int)) (bnd (f_X7_move N 1 ((xs (v3 + 1).toNat).toInt) ((xs (v3 + 2).toNat).toInt) M) (fun r364 M364 => bnd (f_X8_move N 2 ((xs (v3 + 1).toNat).toInt) ((xs (v3 + 2).toNat).toInt) M364) (fun r378 M378 => gd (inR r364) (gd (inR r378) (if r364 = r378 then (f_L_law_18 N L xs n (v3 + 4) M378) else (some 0)))))))) else (if (i_and ((xs v3.toNat).toInt) 31) = 10 then (bnd (f_X7_day N 1 M) (fun r387 M387 => bnd (f_X8_day N 2 M387) (fun r391 M391 => gd (inR r387) (gd (inR r391) (if r387 = r391 then (f_L_law_18 N L xs n (v3 + 4) M391) else (some 0)))))) else (if (i_and ((xs v3.toNat).toInt) 31) = 11 then (bnd (f_X7_holds N 1 M) (fun r400 M400 => bnd (f_X8_holds N 2 M400) (fun r404 M404 => gd (inR r400) (gd (inR r404) (if r400 = r404 then (f_L_law_18 N L xs n (v3 + 4) M404) else (some 0)))))) else (if (i_and ((xs v3.toNat).toInt) 31) = 12 then (gd (0 ≤ (v3 + 1) ∧ (v3 + 1) < (L : Int)) (bnd (f_X7_where N 1 ((xs (v3 + 1).toNat).toInt) M) (fun r418 M418 => bnd (f_X8_where N 2 ((xs (v3 + 1).toNat).toInt) M418) (fun r427 M427 => gd (inR r418) (gd (inR r427) (if r418 = r427 then (f_L_law_18 N L xs n (v3 + 4) M427) else (some 0))))))) else (if (i_and ((xs v3.toNat).toInt) 31) = 13 then (gd (0 ≤ (v3 + 1) ∧ (v3 + 1) < (L : Int)) (gd (0 ≤ (v3 + 2) ∧ (v3 + 2) < (L : Int)) (bnd (f_X7_props N 1 ((xs (v3 + 1).toNat).toInt) ((xs (v3 + 2).toNat).toInt) M) (fun r446 M446 => bnd (f_X8_props N 2 ((xs (v3 + 1).toNat).toInt) ((xs (v3 + 2).toNat).toInt) M446) (fun r460 M460 => gd (inR r446) (gd (inR r460) (if r446 = r460 then (f_L_law_18 N L xs n (v3 + 4) M460) else (some 0)))))))) else (if (i_and ((xs v3.toNat).toInt) 31) = 14 then (bnd (f_X7_out N 1 M) (fun r469 M469 => bnd (f_X8_out N 2 M469) (fun r473 M473 => gd (inR r469) (gd (inR r473) (if r469 = r473 then (f_L_law_18 N L xs n (v3 + 4) M473) else (some 0)))))) else (if (i_and ((xs v3.toNat).toInt) 31) = 15 then (gd (0 ≤ (v3 + 1) ∧ (v3 + 1) < (L : Int)) (gd (0 ≤ (v3 + 2) ∧ (v3 + 2) < (L : Int)) (gd (0 ≤ (v3 + 3) ∧ (v3 + 3) < (L : Int)) (if ((xs (v3 + 3).toNat).toInt) = 0 then (f_L_law_505 N L xs (f_L_law_18 N L xs n) v3 ((xs (v3 + 1).toNat).toInt) ((xs (v3 + 2).toNat).toInt) 0 M) else (f_L_law_505 N L xs (f_L_law_18 N L xs n) v3 ((xs (v3 + 1).toNat).toInt) ((xs (v3 + 2).toNat).toInt) 1 M))))) else (if (i_and ((xs v3.toNat).toInt) 31) = 16 then (bnd (f_X7_forget N 1 M) (fun r541 M541 => bnd (f_X8_forget N 2 M541) (fun r545 M545 => gd (inR r541) (gd (inR r545) (if r541 = r545 then (f_L_law_18 N L xs n (v3 + 4) M545) else (some 0)))))) else (if (i_and ((xs v3.toNat).toInt) 31) = 17 then (gd (0 ≤ (v3 + 1) ∧ (v3 + 1) < (L : Int)) (gd (0 ≤ (v3 + 2) ∧ (v3 + 2) < (L : Int)) (gd (0 ≤ (v3 + 3) ∧ (v3 + 3) < (L : Int)) (bnd (f_X7_years N 1 ((xs (v3 + 1).toNat).toInt) ((xs (v3 + 2).toNat).toInt) ((xs (v3 + 3).toNat).toInt) M) (fun r569 M569 => bnd (f_X8_years N 2 ((xs (v3 + 1).toNat).toInt) ((xs (v3 + 2).toNat).toInt) ((xs (v3 + 3).toNat).toInt) M569) (fun r588 M588 => gd (inR r569) (gd (inR r588) (if r569 = r588 then (f_L_law_18 N L xs n (v3 + 4) M588) else (some 0))))))))) else (if (i_and ((xs v3.toNat).toInt) 31) = 18 then (bnd (f_X7_image N 1 M) (fun r597 M597 => bnd (f_X8_image N 2 M597) (fun r601 M601 => gd (inR r597) (gd (inR r601) (if r597 = r601 then (f_L_law_18 N L xs n (v3 + 4) M601) else (some 0)))))) else (if (i_and ((xs v3.toNat).toInt) 31) = 19 then (bnd (f_X7_restore N 1 M) (fun r610 M610 => bnd (f_X8_restore N 2 M610) (fun r614 M614 => gd (inR r610) (gd (inR r614) (if r610 = r614 then (f_L_law_18 N L xs n (v3 + 4) M614) else (some 0)))))) else (if (i_and ((xs v3.toNat).toInt) 31) = 20 then (gd (0 ≤ (v3 + 1) ∧ (v3 + 1) < (L : Int)) (bnd (f_X7_count N 1 ((xs (v3 + 1).toNat).toInt) M) (fun r628 M628 => bnd (f_X8_count N 2 ((xs (v3 + 1).toNat).toInt) M628) (fun r637 M637 => gd (inR r628) (gd (inR r637) (if r628 = r637 then (f_L_law_18 N L xs n (v3 + 4) M637) else (some 0))))))) else (bnd (f_X7_digest N 1 M) (fun r646 M646 => bnd (f_X8_digest N 2 M646) (fun r650 M650 => gd (r646 = r650 ∨ (inL r646 ∧ inL r650)) (if (l_cmp r646 r650) = 0 then (f_L_law_18 N L xs n (v3 + 4) M650) else (some 0))))))))))))))))))))))))))))))
set_option maxRecDepth 100000 in
set_option maxHeartbeats 4000000 in
theorem t_L_law_532 {g : GP} {p : Program} {l : Launch} {e : Env} {s : State} {m : MethodId} {below : List Frame} {meth : Method} {c : Code} {N : Nat} {b L : Nat} {xs : Nat → Int32} (hX : va_X b L xs s s.heap) (hbl : b < s.heap.size) (hbA : ¬ Ad g b) (hAd : ∀ q, Ad g q → s.heap.size ≤ q) (hL : L ≤ 256) (C : Cx g p s m #[Value.ref b] c code 4 "LentGalleryLaw") (hr : meth.sig.returnType = ret) (hlk : meth.locks = false) {k18 : Int → Mem → Option (Int)} (hk18 : ∀ (v3 : Int) (M : Mem) (H : Heap) (locs : List Loc) (ls : Array Slot), k18 v3 M = some 1 → Inv g s M H locs → lv_has ls 4 [(0, .ref b), (1, rI g 1), (2, rI g 2), (3, iI v3)] → W p l e room_1 s m #[Value.ref b] below meth c H locs 60 436 (lw_Z below #[Value.ref b] s) (F0 m 18 ls [])) : ∀ (v3 s0 s2 s3 s4 : Int) (M : Mem) (H : Heap) (locs : List Loc) (ls : Array Slot), f_L_law_532 N L xs k18 v3 s0 s2 s3 s4 M = some 1 → Inv g s M H locs → lv_has ls 4 [(0, .ref b), (1, rI g 1), (2, rI g 2), (3, iI v3)] → W p l e room_1 s m #[Value.ref b] below meth c H locs 60 436 (lw_Z below #[Value.ref b] s) (F0 m 532 ls [iI s4, iI s3, iI s2, rI g 2, iI s0]) := by
  intro v3 s0 s2 s3 s4 M H locs ls hf hI hl
  unfold f_L_law_532 at hf
  refine r_calli (rest := [iI s0]) hI hf (fun r M' h => run_V C hI F_X8_knock w_835 w_836 w_834 ⟨⟨Nat.le_of_ble_eq_true rfl, Nat.le_of_ble_eq_true rfl⟩, Nat.le_of_ble_eq_true rfl, Nat.le_of_ble_eq_true rfl⟩ (zX8 kd_m) (oX8 kd_m) rfl hl dL_law_532 [iI s2, iI s3, iI s4] rfl rfl (Nat.le_of_ble_eq_true rfl) (c_X8_knock C.2.2.2.2.2.2 kd_m h)) (fun r532 M532 H locs hI hf => ?_)
  refine r_gd hf (fun q535_0 hf => ?_)
  refine r_gd hf (fun q535_1 hf => ?_)
  refine r_ic_eq C q535_0 q535_1 (tgt := 659) dL_law_535 (by decide) hf (fun hf => ?_) (fun hf => ?_)
  · refine r_iinc C hl (lv' := [(3, iI (v3 + 4)), (0, .ref b), (1, rI g 1), (2, rI g 2)]) 3 dL_law_659 rfl (Nat.le_of_ble_eq_true rfl) rfl (fun ls hl => ?_)
    refine r_goto C (tgt := 18) dL_law_662 (by decide) ?_
    exact hk18 _ _ _ _ _ hf hI (lv_sub hl [1, 2, 3, 0] rfl)
  · refine r_iconst C dL_law_538 ?_
    exact absurd hf (by decide)
set_option maxRecDepth 100000 in
set_option maxHeartbeats 4000000 in
theorem t_L_law_505 {g : GP} {p : Program} {l : Launch} {e : Env} {s : State} {m : MethodId} {below : List Frame} {meth : Method} {c : Code} {N : Nat} {b L : Nat} {xs : Nat → Int32} (hX : va_X b L xs s s.heap) (hbl : b < s.heap.size) (hbA : ¬ Ad g b) (hAd : ∀ q, Ad g q → s.heap.size ≤ q) (hL : L ≤ 256) (C : Cx g p s m #[Value.ref b] c code 4 "LentGalleryLaw") (hr : meth.sig.returnType = ret) (hlk : meth.locks = false) {k18 : Int → Mem → Option (Int)} (hk18 : ∀ (v3 : Int) (M : Mem) (H : Heap) (locs : List Loc) (ls : Array Slot), k18 v3 M = some 1 → Inv g s M H locs → lv_has ls 4 [(0, .ref b), (1, rI g 1), (2, rI g 2), (3, iI v3)] → W p l e room_1 s m #[Value.ref b] below meth c H locs 60 436 (lw_Z below #[Value.ref b] s) (F0 m 18 ls [])) : ∀ (v3 s1 s2 s3 : Int) (M : Mem) (H : Heap) (locs : List Loc) (ls : Array Slot), f_L_law_505 N L xs k18 v3 s1 s2 s3 M = some 1 → Inv g s M H locs → lv_has ls 4 [(0, .ref b), (1, rI g 1), (2, rI g 2), (3, iI v3)] → W p l e room_1 s m #[Value.ref b] below meth c H locs 60 436 (lw_Z below #[Value.ref b] s) (F0 m 505 ls [iI s3, iI s2, iI s1, rI g 1]) := by
  intro v3 s1 s2 s3 M H locs ls hf hI hl
  unfold f_L_law_505 at hf
  refine r_calli (rest := []) hI hf (fun r M' h => run_V C hI F_X7_knock w_485 w_486 w_484 ⟨⟨Nat.le_of_ble_eq_true rfl, Nat.le_of_ble_eq_true rfl⟩, Nat.le_of_ble_eq_true rfl, Nat.le_of_ble_eq_true rfl⟩ (zX7 kd_x) (oX7 kd_x) rfl hl dL_law_505 [iI s1, iI s2, iI s3] rfl rfl (Nat.le_of_ble_eq_true rfl) (c_X7_knock C.2.2.2.2.2.2 kd_x h)) (fun r505 M505 H locs hI hf => ?_)
  refine r_aload_n C hl 2 dL_law_508 rfl rfl ?_
  refine r_sload_n C hl 0 dL_law_509 rfl rfl ?_
  refine r_iload_n C hl 3 dL_law_510 rfl rfl ?_
  refine r_iconst C dL_law_511 ?_
  refine r_iadd C dL_law_512 ?_
  refine r_gd hf (fun q513_0 hf => ?_)
  refine r_sld C hI hX hbl hbA hL q513_0 dL_law_513 ?_
  refine r_sload_n C hl 0 dL_law_514 rfl rfl ?_
  refine r_iload_n C hl 3 dL_law_515 rfl rfl ?_
  refine r_iconst C dL_law_516 ?_
  refine r_iadd C dL_law_517 ?_
  refine r_gd hf (fun q518_2 hf => ?_)
  refine r_sld C hI hX hbl hbA hL q518_2 dL_law_518 ?_
  refine r_sload_n C hl 0 dL_law_519 rfl rfl ?_
  refine r_iload_n C hl 3 dL_law_520 rfl rfl ?_
  refine r_iconst C dL_law_521 ?_
  refine r_iadd C dL_law_522 ?_
  refine r_gd hf (fun q523_4 hf => ?_)
  refine r_sld C hI hX hbl hbA hL q523_4 dL_law_523 ?_
  refine r_if_eq C (inR_t _) (tgt := 531) dL_law_524 (by decide) hf (fun hf => ?_) (fun hf => ?_)
  · refine r_iconst C dL_law_531 ?_
    exact t_L_law_532 hX hbl hbA hAd hL C hr hlk hk18 _ _ _ _ _ _ _ _ _ hf hI (lv_sub hl [0, 1, 2, 3] rfl)
  · refine r_iconst C dL_law_527 ?_
    refine r_goto C (tgt := 532) dL_law_528 (by decide) ?_
    exact t_L_law_532 hX hbl hbA hAd hL C hr hlk hk18 _ _ _ _ _ _ _ _ _ hf hI (lv_sub hl [0, 1, 2, 3] rfl)
set_option maxRecDepth 100000 in
set_option maxHeartbeats 4000000 in
theorem t_L_law_18 {g : GP} {p : Program} {l : Launch} {e : Env} {s : State} {m : MethodId} {below : List Frame} {meth : Method} {c : Code} {N : Nat} {b L : Nat} {xs : Nat → Int32} (hX : va_X b L xs s s.heap) (hbl : b < s.heap.size) (hbA : ¬ Ad g b) (hAd : ∀ q, Ad g q → s.heap.size ≤ q) (hL : L ≤ 256) (C : Cx g p s m #[Value.ref b] c code 4 "LentGalleryLaw") (hr : meth.sig.returnType = ret) (hlk : meth.locks = false) : ∀ (n : Nat) (v3 : Int) (M : Mem) (H : Heap) (locs : List Loc) (ls : Array Slot), f_L_law_18 N L xs n v3 M = some 1 → Inv g s M H locs → lv_has ls 4 [(0, .ref b), (1, rI g 1), (2, rI g 2), (3, iI v3)] → W p l e room_1 s m #[Value.ref b] below meth c H locs 60 436 (lw_Z below #[Value.ref b] s) (F0 m 18 ls []) := by
  intro n
  induction n with
  | zero =>
    intro v3 M H locs ls hf hI hl
    cases hf
  | succ n ih =>
    intro v3 M H locs ls hf hI hl
    rw [f_L_law_18] at hf
    refine r_iload_n C hl 3 dL_law_18 rfl rfl ?_
    refine r_sload_n C hl 0 dL_law_19 rfl rfl ?_
    refine r_slen C hI hX hbl hbA dL_law_20 ?_
    refine r_iconst C dL_law_21 ?_
    refine r_isub C dL_law_22 ?_
    refine r_gd hf (fun q23_1 hf => ?_)
    refine r_gd hf (fun q23_2 hf => ?_)
    refine r_ic_gt C q23_1 q23_2 (tgt := 665) dL_law_23 (by decide) hf (fun hf => ?_) (fun hf => ?_)
    · refine r_iconst C dL_law_665 ?_
      exact r_lawret C hI hAd hr hlk (Nat.le_of_ble_eq_true rfl) (Nat.le_of_ble_eq_true rfl) dL_law_666
    · refine r_sload_n C hl 0 dL_law_26 rfl rfl ?_
      refine r_iload_n C hl 3 dL_law_27 rfl rfl ?_
      refine r_gd hf (fun q28_3 hf => ?_)
      refine r_sld C hI hX hbl hbA hL q28_3 dL_law_28 ?_
      refine r_bipush C dL_law_29 rfl ?_
      refine r_iand C dL_law_31 ?_
      refine r_if hf (fun hc hf => ?_) (fun hc hf => ?_)
      · refine r_tabOut C (inR_t _) dL_law_32 hc (tgt := 659) (by decide) ?_
        refine r_iinc C hl (lv' := [(3, iI (v3 + 4)), (0, .ref b), (1, rI g 1), (2, rI g 2)]) 3 dL_law_659 rfl (Nat.le_of_ble_eq_true rfl) rfl (fun ls hl => ?_)
        refine r_goto C (tgt := 18) dL_law_662 (by decide) ?_
        exact ih _ _ _ _ _ hf hI (lv_sub hl [1, 2, 3, 0] rfl)
      · refine r_if hf (fun hc0 hf => ?_) (fun hc0 hf => ?_)
        · refine r_tabIn C 0 hc0 (by decide) dL_law_32 (by decide) (by decide) (off := 104) rfl (tgt := 136) (by decide) ?_
          refine r_aload_n C hl 1 dL_law_136 rfl rfl ?_
          refine r_sload_n C hl 0 dL_law_137 rfl rfl ?_
          refine r_iload_n C hl 3 dL_law_138 rfl rfl ?_
          refine r_iconst C dL_law_139 ?_
          refine r_iadd C dL_law_140 ?_
          refine r_gd hf (fun q141_5 hf => ?_)
          refine r_sld C hI hX hbl hbA hL q141_5 dL_law_141 ?_
          refine r_calli (rest := []) hI hf (fun r M' h => run_V C hI F_X7_letter w_226 w_227 w_225 ⟨⟨Nat.le_of_ble_eq_true rfl, Nat.le_of_ble_eq_true rfl⟩, Nat.le_of_ble_eq_true rfl, Nat.le_of_ble_eq_true rfl⟩ (zX7 kd_x) (oX7 kd_x) rfl hl dL_law_142 [iI ((xs (v3 + 1).toNat).toInt)] rfl rfl (Nat.le_of_ble_eq_true rfl) (c_X7_letter C.2.2.2.2.2.2 kd_x h)) (fun r142 M142 H locs hI hf => ?_)
          refine r_aload_n C hl 2 dL_law_145 rfl rfl ?_
          refine r_sload_n C hl 0 dL_law_146 rfl rfl ?_
          refine r_iload_n C hl 3 dL_law_147 rfl rfl ?_
          refine r_iconst C dL_law_148 ?_
          refine r_iadd C dL_law_149 ?_
          refine r_sld C hI hX hbl hbA hL q141_5 dL_law_150 ?_
          refine r_calli (rest := [iI r142]) hI hf (fun r M' h => run_V C hI F_X8_letter w_654 w_655 w_653 ⟨⟨Nat.le_of_ble_eq_true rfl, Nat.le_of_ble_eq_true rfl⟩, Nat.le_of_ble_eq_true rfl, Nat.le_of_ble_eq_true rfl⟩ (zX8 kd_m) (oX8 kd_m) rfl hl dL_law_151 [iI ((xs (v3 + 1).toNat).toInt)] rfl rfl (Nat.le_of_ble_eq_true rfl) (c_X8_letter C.2.2.2.2.2.2 kd_m h)) (fun r151 M151 H locs hI hf => ?_)
          refine r_gd hf (fun q154_7 hf => ?_)
          refine r_gd hf (fun q154_8 hf => ?_)
          refine r_ic_eq C q154_7 q154_8 (tgt := 659) dL_law_154 (by decide) hf (fun hf => ?_) (fun hf => ?_)
          · refine r_iinc C hl (lv' := [(3, iI (v3 + 4)), (0, .ref b), (1, rI g 1), (2, rI g 2)]) 3 dL_law_659 rfl (Nat.le_of_ble_eq_true rfl) rfl (fun ls hl => ?_)
            refine r_goto C (tgt := 18) dL_law_662 (by decide) ?_
            exact ih _ _ _ _ _ hf hI (lv_sub hl [1, 2, 3, 0] rfl)
          · refine r_iconst C dL_law_157 ?_
            exact absurd hf (by decide)
        · refine r_if hf (fun hc1 hf => ?_) (fun hc1 hf => ?_)
          · refine r_tabIn C 1 hc1 (by decide) dL_law_32 (by decide) (by decide) (off := 127) rfl (tgt := 159) (by decide) ?_
            refine r_aload_n C hl 1 dL_law_159 rfl rfl ?_
            refine r_calli (rest := []) hI hf (fun r M' h => run_V C hI F_X7_blank w_234 w_235 w_233 ⟨⟨Nat.le_of_ble_eq_true rfl, Nat.le_of_ble_eq_true rfl⟩, Nat.le_of_ble_eq_true rfl, Nat.le_of_ble_eq_true rfl⟩ (zX7 kd_x) (oX7 kd_x) rfl hl dL_law_160 [] rfl rfl (Nat.le_of_ble_eq_true rfl) (c_X7_blank C.2.2.2.2.2.2 kd_x h)) (fun r160 M160 H locs hI hf => ?_)
            refine r_aload_n C hl 2 dL_law_163 rfl rfl ?_
            refine r_calli (rest := [iI r160]) hI hf (fun r M' h => run_V C hI F_X8_blank w_662 w_663 w_661 ⟨⟨Nat.le_of_ble_eq_true rfl, Nat.le_of_ble_eq_true rfl⟩, Nat.le_of_ble_eq_true rfl, Nat.le_of_ble_eq_true rfl⟩ (zX8 kd_m) (oX8 kd_m) rfl hl dL_law_164 [] rfl rfl (Nat.le_of_ble_eq_true rfl) (c_X8_blank C.2.2.2.2.2.2 kd_m h)) (fun r164 M164 H locs hI hf => ?_)
            refine r_gd hf (fun q167_5 hf => ?_)
            refine r_gd hf (fun q167_6 hf => ?_)
            refine r_ic_eq C q167_5 q167_6 (tgt := 659) dL_law_167 (by decide) hf (fun hf => ?_) (fun hf => ?_)
            · refine r_iinc C hl (lv' := [(3, iI (v3 + 4)), (0, .ref b), (1, rI g 1), (2, rI g 2)]) 3 dL_law_659 rfl (Nat.le_of_ble_eq_true rfl) rfl (fun ls hl => ?_)
              refine r_goto C (tgt := 18) dL_law_662 (by decide) ?_
              exact ih _ _ _ _ _ hf hI (lv_sub hl [1, 2, 3, 0] rfl)
            · refine r_iconst C dL_law_170 ?_
              exact absurd hf (by decide)
          · refine r_if hf (fun hc2 hf => ?_) (fun hc2 hf => ?_)
            · refine r_tabIn C 2 hc2 (by decide) dL_law_32 (by decide) (by decide) (off := 140) rfl (tgt := 172) (by decide) ?_
              refine r_aload_n C hl 1 dL_law_172 rfl rfl ?_
              refine r_calli (rest := []) hI hf (fun r M' h => run_V C hI F_X7_fault w_238 w_239 w_237 ⟨⟨Nat.le_of_ble_eq_true rfl, Nat.le_of_ble_eq_true rfl⟩, Nat.le_of_ble_eq_true rfl, Nat.le_of_ble_eq_true rfl⟩ (zX7 kd_x) (oX7 kd_x) rfl hl dL_law_173 [] rfl rfl (Nat.le_of_ble_eq_true rfl) (c_X7_fault C.2.2.2.2.2.2 kd_x h)) (fun r173 M173 H locs hI hf => ?_)
              refine r_aload_n C hl 2 dL_law_176 rfl rfl ?_
              refine r_calli (rest := [iI r173]) hI hf (fun r M' h => run_V C hI F_X8_fault w_666 w_667 w_665 ⟨⟨Nat.le_of_ble_eq_true rfl, Nat.le_of_ble_eq_true rfl⟩, Nat.le_of_ble_eq_true rfl, Nat.le_of_ble_eq_true rfl⟩ (zX8 kd_m) (oX8 kd_m) rfl hl dL_law_177 [] rfl rfl (Nat.le_of_ble_eq_true rfl) (c_X8_fault C.2.2.2.2.2.2 kd_m h)) (fun r177 M177 H locs hI hf => ?_)
              refine r_gd hf (fun q180_5 hf => ?_)
              refine r_gd hf (fun q180_6 hf => ?_)
              refine r_ic_eq C q180_5 q180_6 (tgt := 659) dL_law_180 (by decide) hf (fun hf => ?_) (fun hf => ?_)
              · refine r_iinc C hl (lv' := [(3, iI (v3 + 4)), (0, .ref b), (1, rI g 1), (2, rI g 2)]) 3 dL_law_659 rfl (Nat.le_of_ble_eq_true rfl) rfl (fun ls hl => ?_)
                refine r_goto C (tgt := 18) dL_law_662 (by decide) ?_
                exact ih _ _ _ _ _ hf hI (lv_sub hl [1, 2, 3, 0] rfl)
              · refine r_iconst C dL_law_183 ?_
                exact absurd hf (by decide)
            · refine r_if hf (fun hc3 hf => ?_) (fun hc3 hf => ?_)
              · refine r_tabIn C 3 hc3 (by decide) dL_law_32 (by decide) (by decide) (off := 153) rfl (tgt := 185) (by decide) ?_
                refine r_aload_n C hl 1 dL_law_185 rfl rfl ?_
                refine r_calli (rest := []) hI hf (fun r M' h => run_V C hI F_X7_gallery w_249 w_250 w_248 ⟨⟨Nat.le_of_ble_eq_true rfl, Nat.le_of_ble_eq_true rfl⟩, Nat.le_of_ble_eq_true rfl, Nat.le_of_ble_eq_true rfl⟩ (zX7 kd_x) (oX7 kd_x) rfl hl dL_law_186 [] rfl rfl (Nat.le_of_ble_eq_true rfl) (c_X7_gallery C.2.2.2.2.2.2 kd_x h)) (fun r186 M186 H locs hI hf => ?_)
                refine r_aload_n C hl 2 dL_law_189 rfl rfl ?_
                refine r_calli (rest := [iI r186]) hI hf (fun r M' h => run_V C hI F_X8_gallery w_678 w_679 w_677 ⟨⟨Nat.le_of_ble_eq_true rfl, Nat.le_of_ble_eq_true rfl⟩, Nat.le_of_ble_eq_true rfl, Nat.le_of_ble_eq_true rfl⟩ (zX8 kd_m) (oX8 kd_m) rfl hl dL_law_190 [] rfl rfl (Nat.le_of_ble_eq_true rfl) (c_X8_gallery C.2.2.2.2.2.2 kd_m h)) (fun r190 M190 H locs hI hf => ?_)
                refine r_gd hf (fun q193_5 hf => ?_)
                refine r_gd hf (fun q193_6 hf => ?_)
                refine r_ic_eq C q193_5 q193_6 (tgt := 659) dL_law_193 (by decide) hf (fun hf => ?_) (fun hf => ?_)
                · refine r_iinc C hl (lv' := [(3, iI (v3 + 4)), (0, .ref b), (1, rI g 1), (2, rI g 2)]) 3 dL_law_659 rfl (Nat.le_of_ble_eq_true rfl) rfl (fun ls hl => ?_)
                  refine r_goto C (tgt := 18) dL_law_662 (by decide) ?_
                  exact ih _ _ _ _ _ hf hI (lv_sub hl [1, 2, 3, 0] rfl)
                · refine r_iconst C dL_law_196 ?_
                  exact absurd hf (by decide)
              · refine r_if hf (fun hc4 hf => ?_) (fun hc4 hf => ?_)
                · refine r_tabIn C 4 hc4 (by decide) dL_law_32 (by decide) (by decide) (off := 166) rfl (tgt := 198) (by decide) ?_
                  refine r_aload_n C hl 1 dL_law_198 rfl rfl ?_
                  refine r_sload_n C hl 0 dL_law_199 rfl rfl ?_
                  refine r_iload_n C hl 3 dL_law_200 rfl rfl ?_
                  refine r_iconst C dL_law_201 ?_
                  refine r_iadd C dL_law_202 ?_
                  refine r_gd hf (fun q203_5 hf => ?_)
                  refine r_sld C hI hX hbl hbA hL q203_5 dL_law_203 ?_
                  refine r_sload_n C hl 0 dL_law_204 rfl rfl ?_
                  refine r_iload_n C hl 3 dL_law_205 rfl rfl ?_
                  refine r_iconst C dL_law_206 ?_
                  refine r_iadd C dL_law_207 ?_
                  refine r_gd hf (fun q208_7 hf => ?_)
                  refine r_sld C hI hX hbl hbA hL q208_7 dL_law_208 ?_
                  refine r_calli (rest := []) hI hf (fun r M' h => run_V C hI F_X7_place w_265 w_266 w_264 ⟨⟨Nat.le_of_ble_eq_true rfl, Nat.le_of_ble_eq_true rfl⟩, Nat.le_of_ble_eq_true rfl, Nat.le_of_ble_eq_true rfl⟩ (zX7 kd_x) (oX7 kd_x) rfl hl dL_law_209 [iI ((xs (v3 + 1).toNat).toInt), iI ((xs (v3 + 2).toNat).toInt)] rfl rfl (Nat.le_of_ble_eq_true rfl) (c_X7_place C.2.2.2.2.2.2 kd_x h)) (fun r209 M209 H locs hI hf => ?_)
                  refine r_aload_n C hl 2 dL_law_212 rfl rfl ?_
                  refine r_sload_n C hl 0 dL_law_213 rfl rfl ?_
                  refine r_iload_n C hl 3 dL_law_214 rfl rfl ?_
                  refine r_iconst C dL_law_215 ?_
                  refine r_iadd C dL_law_216 ?_
                  refine r_sld C hI hX hbl hbA hL q203_5 dL_law_217 ?_
                  refine r_sload_n C hl 0 dL_law_218 rfl rfl ?_
                  refine r_iload_n C hl 3 dL_law_219 rfl rfl ?_
                  refine r_iconst C dL_law_220 ?_
                  refine r_iadd C dL_law_221 ?_
                  refine r_sld C hI hX hbl hbA hL q208_7 dL_law_222 ?_
                  refine r_calli (rest := [iI r209]) hI hf (fun r M' h => run_V C hI F_X8_place w_686 w_687 w_685 ⟨⟨Nat.le_of_ble_eq_true rfl, Nat.le_of_ble_eq_true rfl⟩, Nat.le_of_ble_eq_true rfl, Nat.le_of_ble_eq_true rfl⟩ (zX8 kd_m) (oX8 kd_m) rfl hl dL_law_223 [iI ((xs (v3 + 1).toNat).toInt), iI ((xs (v3 + 2).toNat).toInt)] rfl rfl (Nat.le_of_ble_eq_true rfl) (c_X8_place C.2.2.2.2.2.2 kd_m h)) (fun r223 M223 H locs hI hf => ?_)
                  refine r_gd hf (fun q226_9 hf => ?_)
                  refine r_gd hf (fun q226_10 hf => ?_)
                  refine r_ic_eq C q226_9 q226_10 (tgt := 659) dL_law_226 (by decide) hf (fun hf => ?_) (fun hf => ?_)
                  · refine r_iinc C hl (lv' := [(3, iI (v3 + 4)), (0, .ref b), (1, rI g 1), (2, rI g 2)]) 3 dL_law_659 rfl (Nat.le_of_ble_eq_true rfl) rfl (fun ls hl => ?_)
                    refine r_goto C (tgt := 18) dL_law_662 (by decide) ?_
                    exact ih _ _ _ _ _ hf hI (lv_sub hl [1, 2, 3, 0] rfl)
                  · refine r_iconst C dL_law_229 ?_
                    exact absurd hf (by decide)
                · refine r_if hf (fun hc5 hf => ?_) (fun hc5 hf => ?_)
                  · refine r_tabIn C 5 hc5 (by decide) dL_law_32 (by decide) (by decide) (off := 199) rfl (tgt := 231) (by decide) ?_
                    refine r_aload_n C hl 1 dL_law_231 rfl rfl ?_
                    refine r_sload_n C hl 0 dL_law_232 rfl rfl ?_
                    refine r_iload_n C hl 3 dL_law_233 rfl rfl ?_
                    refine r_iconst C dL_law_234 ?_
                    refine r_iadd C dL_law_235 ?_
                    refine r_gd hf (fun q236_5 hf => ?_)
                    refine r_sld C hI hX hbl hbA hL q236_5 dL_law_236 ?_
                    refine r_calli (rest := []) hI hf (fun r M' h => run_V C hI F_X7_prop w_335 w_336 w_334 ⟨⟨Nat.le_of_ble_eq_true rfl, Nat.le_of_ble_eq_true rfl⟩, Nat.le_of_ble_eq_true rfl, Nat.le_of_ble_eq_true rfl⟩ (zX7 kd_x) (oX7 kd_x) rfl hl dL_law_237 [iI ((xs (v3 + 1).toNat).toInt)] rfl rfl (Nat.le_of_ble_eq_true rfl) (c_X7_prop C.2.2.2.2.2.2 kd_x h)) (fun r237 M237 H locs hI hf => ?_)
                    refine r_aload_n C hl 2 dL_law_240 rfl rfl ?_
                    refine r_sload_n C hl 0 dL_law_241 rfl rfl ?_
                    refine r_iload_n C hl 3 dL_law_242 rfl rfl ?_
                    refine r_iconst C dL_law_243 ?_
                    refine r_iadd C dL_law_244 ?_
                    refine r_sld C hI hX hbl hbA hL q236_5 dL_law_245 ?_
                    refine r_calli (rest := [iI r237]) hI hf (fun r M' h => run_V C hI F_X8_prop w_744 w_745 w_743 ⟨⟨Nat.le_of_ble_eq_true rfl, Nat.le_of_ble_eq_true rfl⟩, Nat.le_of_ble_eq_true rfl, Nat.le_of_ble_eq_true rfl⟩ (zX8 kd_m) (oX8 kd_m) rfl hl dL_law_246 [iI ((xs (v3 + 1).toNat).toInt)] rfl rfl (Nat.le_of_ble_eq_true rfl) (c_X8_prop C.2.2.2.2.2.2 kd_m h)) (fun r246 M246 H locs hI hf => ?_)
                    refine r_gd hf (fun q249_7 hf => ?_)
                    refine r_gd hf (fun q249_8 hf => ?_)
                    refine r_ic_eq C q249_7 q249_8 (tgt := 659) dL_law_249 (by decide) hf (fun hf => ?_) (fun hf => ?_)
                    · refine r_iinc C hl (lv' := [(3, iI (v3 + 4)), (0, .ref b), (1, rI g 1), (2, rI g 2)]) 3 dL_law_659 rfl (Nat.le_of_ble_eq_true rfl) rfl (fun ls hl => ?_)
                      refine r_goto C (tgt := 18) dL_law_662 (by decide) ?_
                      exact ih _ _ _ _ _ hf hI (lv_sub hl [1, 2, 3, 0] rfl)
                    · refine r_iconst C dL_law_252 ?_
                      exact absurd hf (by decide)
                  · refine r_if hf (fun hc6 hf => ?_) (fun hc6 hf => ?_)
                    · refine r_tabIn C 6 hc6 (by decide) dL_law_32 (by decide) (by decide) (off := 222) rfl (tgt := 254) (by decide) ?_
                      refine r_aload_n C hl 1 dL_law_254 rfl rfl ?_
                      refine r_sload_n C hl 0 dL_law_255 rfl rfl ?_
                      refine r_iload_n C hl 3 dL_law_256 rfl rfl ?_
                      refine r_iconst C dL_law_257 ?_
                      refine r_iadd C dL_law_258 ?_
                      refine r_gd hf (fun q259_5 hf => ?_)
                      refine r_sld C hI hX hbl hbA hL q259_5 dL_law_259 ?_
                      refine r_sload_n C hl 0 dL_law_260 rfl rfl ?_
                      refine r_iload_n C hl 3 dL_law_261 rfl rfl ?_
                      refine r_iconst C dL_law_262 ?_
                      refine r_iadd C dL_law_263 ?_
                      refine r_gd hf (fun q264_7 hf => ?_)
                      refine r_sld C hI hX hbl hbA hL q264_7 dL_law_264 ?_
                      refine r_calli (rest := []) hI hf (fun r M' h => run_V C hI F_X7_tenant w_340 w_341 w_339 ⟨⟨Nat.le_of_ble_eq_true rfl, Nat.le_of_ble_eq_true rfl⟩, Nat.le_of_ble_eq_true rfl, Nat.le_of_ble_eq_true rfl⟩ (zX7 kd_x) (oX7 kd_x) rfl hl dL_law_265 [iI ((xs (v3 + 1).toNat).toInt), iI ((xs (v3 + 2).toNat).toInt)] rfl rfl (Nat.le_of_ble_eq_true rfl) (c_X7_tenant C.2.2.2.2.2.2 kd_x h)) (fun r265 M265 H locs hI hf => ?_)
                      refine r_aload_n C hl 2 dL_law_268 rfl rfl ?_
                      refine r_sload_n C hl 0 dL_law_269 rfl rfl ?_
                      refine r_iload_n C hl 3 dL_law_270 rfl rfl ?_
                      refine r_iconst C dL_law_271 ?_
                      refine r_iadd C dL_law_272 ?_
                      refine r_sld C hI hX hbl hbA hL q259_5 dL_law_273 ?_
                      refine r_sload_n C hl 0 dL_law_274 rfl rfl ?_
                      refine r_iload_n C hl 3 dL_law_275 rfl rfl ?_
                      refine r_iconst C dL_law_276 ?_
                      refine r_iadd C dL_law_277 ?_
                      refine r_sld C hI hX hbl hbA hL q264_7 dL_law_278 ?_
                      refine r_calli (rest := [iI r265]) hI hf (fun r M' h => run_V C hI F_X8_tenant w_748 w_749 w_747 ⟨⟨Nat.le_of_ble_eq_true rfl, Nat.le_of_ble_eq_true rfl⟩, Nat.le_of_ble_eq_true rfl, Nat.le_of_ble_eq_true rfl⟩ (zX8 kd_m) (oX8 kd_m) rfl hl dL_law_279 [iI ((xs (v3 + 1).toNat).toInt), iI ((xs (v3 + 2).toNat).toInt)] rfl rfl (Nat.le_of_ble_eq_true rfl) (c_X8_tenant C.2.2.2.2.2.2 kd_m h)) (fun r279 M279 H locs hI hf => ?_)
                      refine r_gd hf (fun q282_9 hf => ?_)
                      refine r_gd hf (fun q282_10 hf => ?_)
                      refine r_ic_eq C q282_9 q282_10 (tgt := 659) dL_law_282 (by decide) hf (fun hf => ?_) (fun hf => ?_)
                      · refine r_iinc C hl (lv' := [(3, iI (v3 + 4)), (0, .ref b), (1, rI g 1), (2, rI g 2)]) 3 dL_law_659 rfl (Nat.le_of_ble_eq_true rfl) rfl (fun ls hl => ?_)
                        refine r_goto C (tgt := 18) dL_law_662 (by decide) ?_
                        exact ih _ _ _ _ _ hf hI (lv_sub hl [1, 2, 3, 0] rfl)
                      · refine r_iconst C dL_law_285 ?_
                        exact absurd hf (by decide)
                    · refine r_if hf (fun hc7 hf => ?_) (fun hc7 hf => ?_)
                      · refine r_tabIn C 7 hc7 (by decide) dL_law_32 (by decide) (by decide) (off := 255) rfl (tgt := 287) (by decide) ?_
                        refine r_aload_n C hl 1 dL_law_287 rfl rfl ?_
                        refine r_sload_n C hl 0 dL_law_288 rfl rfl ?_
                        refine r_iload_n C hl 3 dL_law_289 rfl rfl ?_
                        refine r_iconst C dL_law_290 ?_
                        refine r_iadd C dL_law_291 ?_
                        refine r_gd hf (fun q292_5 hf => ?_)
                        refine r_sld C hI hX hbl hbA hL q292_5 dL_law_292 ?_
                        refine r_sload_n C hl 0 dL_law_293 rfl rfl ?_
                        refine r_iload_n C hl 3 dL_law_294 rfl rfl ?_
                        refine r_iconst C dL_law_295 ?_
                        refine r_iadd C dL_law_296 ?_
                        refine r_gd hf (fun q297_7 hf => ?_)
                        refine r_sld C hI hX hbl hbA hL q297_7 dL_law_297 ?_
                        refine r_calli (rest := []) hI hf (fun r M' h => run_V C hI F_X7_about w_356 w_357 w_355 ⟨⟨Nat.le_of_ble_eq_true rfl, Nat.le_of_ble_eq_true rfl⟩, Nat.le_of_ble_eq_true rfl, Nat.le_of_ble_eq_true rfl⟩ (zX7 kd_x) (oX7 kd_x) rfl hl dL_law_298 [iI ((xs (v3 + 1).toNat).toInt), iI ((xs (v3 + 2).toNat).toInt)] rfl rfl (Nat.le_of_ble_eq_true rfl) (c_X7_about C.2.2.2.2.2.2 kd_x h)) (fun r298 M298 H locs hI hf => ?_)
                        refine r_aload_n C hl 2 dL_law_301 rfl rfl ?_
                        refine r_sload_n C hl 0 dL_law_302 rfl rfl ?_
                        refine r_iload_n C hl 3 dL_law_303 rfl rfl ?_
                        refine r_iconst C dL_law_304 ?_
                        refine r_iadd C dL_law_305 ?_
                        refine r_sld C hI hX hbl hbA hL q292_5 dL_law_306 ?_
                        refine r_sload_n C hl 0 dL_law_307 rfl rfl ?_
                        refine r_iload_n C hl 3 dL_law_308 rfl rfl ?_
                        refine r_iconst C dL_law_309 ?_
                        refine r_iadd C dL_law_310 ?_
                        refine r_sld C hI hX hbl hbA hL q297_7 dL_law_311 ?_
                        refine r_calli (rest := [iI r298]) hI hf (fun r M' h => run_V C hI F_X8_about w_753 w_754 w_752 ⟨⟨Nat.le_of_ble_eq_true rfl, Nat.le_of_ble_eq_true rfl⟩, Nat.le_of_ble_eq_true rfl, Nat.le_of_ble_eq_true rfl⟩ (zX8 kd_m) (oX8 kd_m) rfl hl dL_law_312 [iI ((xs (v3 + 1).toNat).toInt), iI ((xs (v3 + 2).toNat).toInt)] rfl rfl (Nat.le_of_ble_eq_true rfl) (c_X8_about C.2.2.2.2.2.2 kd_m h)) (fun r312 M312 H locs hI hf => ?_)
                        refine r_gd hf (fun q315_9 hf => ?_)
                        refine r_gd hf (fun q315_10 hf => ?_)
                        refine r_ic_eq C q315_9 q315_10 (tgt := 659) dL_law_315 (by decide) hf (fun hf => ?_) (fun hf => ?_)
                        · refine r_iinc C hl (lv' := [(3, iI (v3 + 4)), (0, .ref b), (1, rI g 1), (2, rI g 2)]) 3 dL_law_659 rfl (Nat.le_of_ble_eq_true rfl) rfl (fun ls hl => ?_)
                          refine r_goto C (tgt := 18) dL_law_662 (by decide) ?_
                          exact ih _ _ _ _ _ hf hI (lv_sub hl [1, 2, 3, 0] rfl)
                        · refine r_iconst C dL_law_318 ?_
                          exact absurd hf (by decide)
                      · refine r_if hf (fun hc8 hf => ?_) (fun hc8 hf => ?_)
                        · refine r_tabIn C 8 hc8 (by decide) dL_law_32 (by decide) (by decide) (off := 288) rfl (tgt := 320) (by decide) ?_
                          refine r_aload_n C hl 1 dL_law_320 rfl rfl ?_
                          refine r_sload_n C hl 0 dL_law_321 rfl rfl ?_
                          refine r_iload_n C hl 3 dL_law_322 rfl rfl ?_
                          refine r_iconst C dL_law_323 ?_
                          refine r_iadd C dL_law_324 ?_
                          refine r_gd hf (fun q325_5 hf => ?_)
                          refine r_sld C hI hX hbl hbA hL q325_5 dL_law_325 ?_
                          refine r_sload_n C hl 0 dL_law_326 rfl rfl ?_
                          refine r_iload_n C hl 3 dL_law_327 rfl rfl ?_
                          refine r_iconst C dL_law_328 ?_
                          refine r_iadd C dL_law_329 ?_
                          refine r_gd hf (fun q330_7 hf => ?_)
                          refine r_sld C hI hX hbl hbA hL q330_7 dL_law_330 ?_
                          refine r_calli (rest := []) hI hf (fun r M' h => run_V C hI F_X7_as w_393 w_394 w_392 ⟨⟨Nat.le_of_ble_eq_true rfl, Nat.le_of_ble_eq_true rfl⟩, Nat.le_of_ble_eq_true rfl, Nat.le_of_ble_eq_true rfl⟩ (zX7 kd_x) (oX7 kd_x) rfl hl dL_law_331 [iI ((xs (v3 + 1).toNat).toInt), iI ((xs (v3 + 2).toNat).toInt)] rfl rfl (Nat.le_of_ble_eq_true rfl) (c_X7_as C.2.2.2.2.2.2 kd_x h)) (fun r331 M331 H locs hI hf => ?_)
                          refine r_aload_n C hl 2 dL_law_334 rfl rfl ?_
                          refine r_sload_n C hl 0 dL_law_335 rfl rfl ?_
                          refine r_iload_n C hl 3 dL_law_336 rfl rfl ?_
                          refine r_iconst C dL_law_337 ?_
                          refine r_iadd C dL_law_338 ?_
                          refine r_sld C hI hX hbl hbA hL q325_5 dL_law_339 ?_
                          refine r_sload_n C hl 0 dL_law_340 rfl rfl ?_
                          refine r_iload_n C hl 3 dL_law_341 rfl rfl ?_
                          refine r_iconst C dL_law_342 ?_
                          refine r_iadd C dL_law_343 ?_
                          refine r_sld C hI hX hbl hbA hL q330_7 dL_law_344 ?_
                          refine r_calli (rest := [iI r331]) hI hf (fun r M' h => run_V C hI F_X8_as w_776 w_777 w_775 ⟨⟨Nat.le_of_ble_eq_true rfl, Nat.le_of_ble_eq_true rfl⟩, Nat.le_of_ble_eq_true rfl, Nat.le_of_ble_eq_true rfl⟩ (zX8 kd_m) (oX8 kd_m) rfl hl dL_law_345 [iI ((xs (v3 + 1).toNat).toInt), iI ((xs (v3 + 2).toNat).toInt)] rfl rfl (Nat.le_of_ble_eq_true rfl) (c_X8_as C.2.2.2.2.2.2 kd_m h)) (fun r345 M345 H locs hI hf => ?_)
                          refine r_gd hf (fun q348_9 hf => ?_)
                          refine r_gd hf (fun q348_10 hf => ?_)
                          refine r_ic_eq C q348_9 q348_10 (tgt := 659) dL_law_348 (by decide) hf (fun hf => ?_) (fun hf => ?_)
                          · refine r_iinc C hl (lv' := [(3, iI (v3 + 4)), (0, .ref b), (1, rI g 1), (2, rI g 2)]) 3 dL_law_659 rfl (Nat.le_of_ble_eq_true rfl) rfl (fun ls hl => ?_)
                            refine r_goto C (tgt := 18) dL_law_662 (by decide) ?_
                            exact ih _ _ _ _ _ hf hI (lv_sub hl [1, 2, 3, 0] rfl)
                          · refine r_iconst C dL_law_351 ?_
                            exact absurd hf (by decide)
                        · refine r_if hf (fun hc9 hf => ?_) (fun hc9 hf => ?_)
                          · refine r_tabIn C 9 hc9 (by decide) dL_law_32 (by decide) (by decide) (off := 321) rfl (tgt := 353) (by decide) ?_
                            refine r_aload_n C hl 1 dL_law_353 rfl rfl ?_
                            refine r_sload_n C hl 0 dL_law_354 rfl rfl ?_
                            refine r_iload_n C hl 3 dL_law_355 rfl rfl ?_
                            refine r_iconst C dL_law_356 ?_
                            refine r_iadd C dL_law_357 ?_
                            refine r_gd hf (fun q358_5 hf => ?_)
                            refine r_sld C hI hX hbl hbA hL q358_5 dL_law_358 ?_
                            refine r_sload_n C hl 0 dL_law_359 rfl rfl ?_
                            refine r_iload_n C hl 3 dL_law_360 rfl rfl ?_
                            refine r_iconst C dL_law_361 ?_
                            refine r_iadd C dL_law_362 ?_
                            refine r_gd hf (fun q363_7 hf => ?_)
                            refine r_sld C hI hX hbl hbA hL q363_7 dL_law_363 ?_
                            refine r_calli (rest := []) hI hf (fun r M' h => run_V C hI F_X7_move w_400 w_401 w_399 ⟨⟨Nat.le_of_ble_eq_true rfl, Nat.le_of_ble_eq_true rfl⟩, Nat.le_of_ble_eq_true rfl, Nat.le_of_ble_eq_true rfl⟩ (zX7 kd_x) (oX7 kd_x) rfl hl dL_law_364 [iI ((xs (v3 + 1).toNat).toInt), iI ((xs (v3 + 2).toNat).toInt)] rfl rfl (Nat.le_of_ble_eq_true rfl) (c_X7_move C.2.2.2.2.2.2 kd_x h)) (fun r364 M364 H locs hI hf => ?_)
                            refine r_aload_n C hl 2 dL_law_367 rfl rfl ?_
                            refine r_sload_n C hl 0 dL_law_368 rfl rfl ?_
                            refine r_iload_n C hl 3 dL_law_369 rfl rfl ?_
                            refine r_iconst C dL_law_370 ?_
                            refine r_iadd C dL_law_371 ?_
                            refine r_sld C hI hX hbl hbA hL q358_5 dL_law_372 ?_
                            refine r_sload_n C hl 0 dL_law_373 rfl rfl ?_
                            refine r_iload_n C hl 3 dL_law_374 rfl rfl ?_
                            refine r_iconst C dL_law_375 ?_
                            refine r_iadd C dL_law_376 ?_
                            refine r_sld C hI hX hbl hbA hL q363_7 dL_law_377 ?_
                            refine r_calli (rest := [iI r364]) hI hf (fun r M' h => run_V C hI F_X8_move w_780 w_781 w_779 ⟨⟨Nat.le_of_ble_eq_true rfl, Nat.le_of_ble_eq_true rfl⟩, Nat.le_of_ble_eq_true rfl, Nat.le_of_ble_eq_true rfl⟩ (zX8 kd_m) (oX8 kd_m) rfl hl dL_law_378 [iI ((xs (v3 + 1).toNat).toInt), iI ((xs (v3 + 2).toNat).toInt)] rfl rfl (Nat.le_of_ble_eq_true rfl) (c_X8_move C.2.2.2.2.2.2 kd_m h)) (fun r378 M378 H locs hI hf => ?_)
                            refine r_gd hf (fun q381_9 hf => ?_)
                            refine r_gd hf (fun q381_10 hf => ?_)
                            refine r_ic_eq C q381_9 q381_10 (tgt := 659) dL_law_381 (by decide) hf (fun hf => ?_) (fun hf => ?_)
                            · refine r_iinc C hl (lv' := [(3, iI (v3 + 4)), (0, .ref b), (1, rI g 1), (2, rI g 2)]) 3 dL_law_659 rfl (Nat.le_of_ble_eq_true rfl) rfl (fun ls hl => ?_)
                              refine r_goto C (tgt := 18) dL_law_662 (by decide) ?_
                              exact ih _ _ _ _ _ hf hI (lv_sub hl [1, 2, 3, 0] rfl)
                            · refine r_iconst C dL_law_384 ?_
                              exact absurd hf (by decide)
                          · refine r_if hf (fun hc10 hf => ?_) (fun hc10 hf => ?_)
                            · refine r_tabIn C 10 hc10 (by decide) dL_law_32 (by decide) (by decide) (off := 354) rfl (tgt := 386) (by decide) ?_
                              refine r_aload_n C hl 1 dL_law_386 rfl rfl ?_
                              refine r_calli (rest := []) hI hf (fun r M' h => run_V C hI F_X7_day w_409 w_410 w_408 ⟨⟨Nat.le_of_ble_eq_true rfl, Nat.le_of_ble_eq_true rfl⟩, Nat.le_of_ble_eq_true rfl, Nat.le_of_ble_eq_true rfl⟩ (zX7 kd_x) (oX7 kd_x) rfl hl dL_law_387 [] rfl rfl (Nat.le_of_ble_eq_true rfl) (c_X7_day C.2.2.2.2.2.2 kd_x h)) (fun r387 M387 H locs hI hf => ?_)
                              refine r_aload_n C hl 2 dL_law_390 rfl rfl ?_
                              refine r_calli (rest := [iI r387]) hI hf (fun r M' h => run_V C hI F_X8_day w_784 w_785 w_783 ⟨⟨Nat.le_of_ble_eq_true rfl, Nat.le_of_ble_eq_true rfl⟩, Nat.le_of_ble_eq_true rfl, Nat.le_of_ble_eq_true rfl⟩ (zX8 kd_m) (oX8 kd_m) rfl hl dL_law_391 [] rfl rfl (Nat.le_of_ble_eq_true rfl) (c_X8_day C.2.2.2.2.2.2 kd_m h)) (fun r391 M391 H locs hI hf => ?_)
                              refine r_gd hf (fun q394_5 hf => ?_)
                              refine r_gd hf (fun q394_6 hf => ?_)
                              refine r_ic_eq C q394_5 q394_6 (tgt := 659) dL_law_394 (by decide) hf (fun hf => ?_) (fun hf => ?_)
                              · refine r_iinc C hl (lv' := [(3, iI (v3 + 4)), (0, .ref b), (1, rI g 1), (2, rI g 2)]) 3 dL_law_659 rfl (Nat.le_of_ble_eq_true rfl) rfl (fun ls hl => ?_)
                                refine r_goto C (tgt := 18) dL_law_662 (by decide) ?_
                                exact ih _ _ _ _ _ hf hI (lv_sub hl [1, 2, 3, 0] rfl)
                              · refine r_iconst C dL_law_397 ?_
                                exact absurd hf (by decide)
                            · refine r_if hf (fun hc11 hf => ?_) (fun hc11 hf => ?_)
                              · refine r_tabIn C 11 hc11 (by decide) dL_law_32 (by decide) (by decide) (off := 367) rfl (tgt := 399) (by decide) ?_
                                refine r_aload_n C hl 1 dL_law_399 rfl rfl ?_
                                refine r_calli (rest := []) hI hf (fun r M' h => run_V C hI F_X7_holds w_418 w_419 w_417 ⟨⟨Nat.le_of_ble_eq_true rfl, Nat.le_of_ble_eq_true rfl⟩, Nat.le_of_ble_eq_true rfl, Nat.le_of_ble_eq_true rfl⟩ (zX7 kd_x) (oX7 kd_x) rfl hl dL_law_400 [] rfl rfl (Nat.le_of_ble_eq_true rfl) (c_X7_holds C.2.2.2.2.2.2 kd_x h)) (fun r400 M400 H locs hI hf => ?_)
                                refine r_aload_n C hl 2 dL_law_403 rfl rfl ?_
                                refine r_calli (rest := [iI r400]) hI hf (fun r M' h => run_V C hI F_X8_holds w_788 w_789 w_787 ⟨⟨Nat.le_of_ble_eq_true rfl, Nat.le_of_ble_eq_true rfl⟩, Nat.le_of_ble_eq_true rfl, Nat.le_of_ble_eq_true rfl⟩ (zX8 kd_m) (oX8 kd_m) rfl hl dL_law_404 [] rfl rfl (Nat.le_of_ble_eq_true rfl) (c_X8_holds C.2.2.2.2.2.2 kd_m h)) (fun r404 M404 H locs hI hf => ?_)
                                refine r_gd hf (fun q407_5 hf => ?_)
                                refine r_gd hf (fun q407_6 hf => ?_)
                                refine r_ic_eq C q407_5 q407_6 (tgt := 659) dL_law_407 (by decide) hf (fun hf => ?_) (fun hf => ?_)
                                · refine r_iinc C hl (lv' := [(3, iI (v3 + 4)), (0, .ref b), (1, rI g 1), (2, rI g 2)]) 3 dL_law_659 rfl (Nat.le_of_ble_eq_true rfl) rfl (fun ls hl => ?_)
                                  refine r_goto C (tgt := 18) dL_law_662 (by decide) ?_
                                  exact ih _ _ _ _ _ hf hI (lv_sub hl [1, 2, 3, 0] rfl)
                                · refine r_iconst C dL_law_410 ?_
                                  exact absurd hf (by decide)
                              · refine r_if hf (fun hc12 hf => ?_) (fun hc12 hf => ?_)
                                · refine r_tabIn C 12 hc12 (by decide) dL_law_32 (by decide) (by decide) (off := 380) rfl (tgt := 412) (by decide) ?_
                                  refine r_aload_n C hl 1 dL_law_412 rfl rfl ?_
                                  refine r_sload_n C hl 0 dL_law_413 rfl rfl ?_
                                  refine r_iload_n C hl 3 dL_law_414 rfl rfl ?_
                                  refine r_iconst C dL_law_415 ?_
                                  refine r_iadd C dL_law_416 ?_
                                  refine r_gd hf (fun q417_5 hf => ?_)
                                  refine r_sld C hI hX hbl hbA hL q417_5 dL_law_417 ?_
                                  refine r_calli (rest := []) hI hf (fun r M' h => run_V C hI F_X7_where w_430 w_431 w_429 ⟨⟨Nat.le_of_ble_eq_true rfl, Nat.le_of_ble_eq_true rfl⟩, Nat.le_of_ble_eq_true rfl, Nat.le_of_ble_eq_true rfl⟩ (zX7 kd_x) (oX7 kd_x) rfl hl dL_law_418 [iI ((xs (v3 + 1).toNat).toInt)] rfl rfl (Nat.le_of_ble_eq_true rfl) (c_X7_where C.2.2.2.2.2.2 kd_x h)) (fun r418 M418 H locs hI hf => ?_)
                                  refine r_aload_n C hl 2 dL_law_421 rfl rfl ?_
                                  refine r_sload_n C hl 0 dL_law_422 rfl rfl ?_
                                  refine r_iload_n C hl 3 dL_law_423 rfl rfl ?_
                                  refine r_iconst C dL_law_424 ?_
                                  refine r_iadd C dL_law_425 ?_
                                  refine r_sld C hI hX hbl hbA hL q417_5 dL_law_426 ?_
                                  refine r_calli (rest := [iI r418]) hI hf (fun r M' h => run_V C hI F_X8_where w_800 w_801 w_799 ⟨⟨Nat.le_of_ble_eq_true rfl, Nat.le_of_ble_eq_true rfl⟩, Nat.le_of_ble_eq_true rfl, Nat.le_of_ble_eq_true rfl⟩ (zX8 kd_m) (oX8 kd_m) rfl hl dL_law_427 [iI ((xs (v3 + 1).toNat).toInt)] rfl rfl (Nat.le_of_ble_eq_true rfl) (c_X8_where C.2.2.2.2.2.2 kd_m h)) (fun r427 M427 H locs hI hf => ?_)
                                  refine r_gd hf (fun q430_7 hf => ?_)
                                  refine r_gd hf (fun q430_8 hf => ?_)
                                  refine r_ic_eq C q430_7 q430_8 (tgt := 659) dL_law_430 (by decide) hf (fun hf => ?_) (fun hf => ?_)
                                  · refine r_iinc C hl (lv' := [(3, iI (v3 + 4)), (0, .ref b), (1, rI g 1), (2, rI g 2)]) 3 dL_law_659 rfl (Nat.le_of_ble_eq_true rfl) rfl (fun ls hl => ?_)
                                    refine r_goto C (tgt := 18) dL_law_662 (by decide) ?_
                                    exact ih _ _ _ _ _ hf hI (lv_sub hl [1, 2, 3, 0] rfl)
                                  · refine r_iconst C dL_law_433 ?_
                                    exact absurd hf (by decide)
                                · refine r_if hf (fun hc13 hf => ?_) (fun hc13 hf => ?_)
                                  · refine r_tabIn C 13 hc13 (by decide) dL_law_32 (by decide) (by decide) (off := 403) rfl (tgt := 435) (by decide) ?_
                                    refine r_aload_n C hl 1 dL_law_435 rfl rfl ?_
                                    refine r_sload_n C hl 0 dL_law_436 rfl rfl ?_
                                    refine r_iload_n C hl 3 dL_law_437 rfl rfl ?_
                                    refine r_iconst C dL_law_438 ?_
                                    refine r_iadd C dL_law_439 ?_
                                    refine r_gd hf (fun q440_5 hf => ?_)
                                    refine r_sld C hI hX hbl hbA hL q440_5 dL_law_440 ?_
                                    refine r_sload_n C hl 0 dL_law_441 rfl rfl ?_
                                    refine r_iload_n C hl 3 dL_law_442 rfl rfl ?_
                                    refine r_iconst C dL_law_443 ?_
                                    refine r_iadd C dL_law_444 ?_
                                    refine r_gd hf (fun q445_7 hf => ?_)
                                    refine r_sld C hI hX hbl hbA hL q445_7 dL_law_445 ?_
                                    refine r_calli (rest := []) hI hf (fun r M' h => run_V C hI F_X7_props w_453 w_454 w_452 ⟨⟨Nat.le_of_ble_eq_true rfl, Nat.le_of_ble_eq_true rfl⟩, Nat.le_of_ble_eq_true rfl, Nat.le_of_ble_eq_true rfl⟩ (zX7 kd_x) (oX7 kd_x) rfl hl dL_law_446 [iI ((xs (v3 + 1).toNat).toInt), iI ((xs (v3 + 2).toNat).toInt)] rfl rfl (Nat.le_of_ble_eq_true rfl) (c_X7_props C.2.2.2.2.2.2 kd_x h)) (fun r446 M446 H locs hI hf => ?_)
                                    refine r_aload_n C hl 2 dL_law_449 rfl rfl ?_
                                    refine r_sload_n C hl 0 dL_law_450 rfl rfl ?_
                                    refine r_iload_n C hl 3 dL_law_451 rfl rfl ?_
                                    refine r_iconst C dL_law_452 ?_
                                    refine r_iadd C dL_law_453 ?_
                                    refine r_sld C hI hX hbl hbA hL q440_5 dL_law_454 ?_
                                    refine r_sload_n C hl 0 dL_law_455 rfl rfl ?_
                                    refine r_iload_n C hl 3 dL_law_456 rfl rfl ?_
                                    refine r_iconst C dL_law_457 ?_
                                    refine r_iadd C dL_law_458 ?_
                                    refine r_sld C hI hX hbl hbA hL q445_7 dL_law_459 ?_
                                    refine r_calli (rest := [iI r446]) hI hf (fun r M' h => run_V C hI F_X8_props w_813 w_814 w_812 ⟨⟨Nat.le_of_ble_eq_true rfl, Nat.le_of_ble_eq_true rfl⟩, Nat.le_of_ble_eq_true rfl, Nat.le_of_ble_eq_true rfl⟩ (zX8 kd_m) (oX8 kd_m) rfl hl dL_law_460 [iI ((xs (v3 + 1).toNat).toInt), iI ((xs (v3 + 2).toNat).toInt)] rfl rfl (Nat.le_of_ble_eq_true rfl) (c_X8_props C.2.2.2.2.2.2 kd_m h)) (fun r460 M460 H locs hI hf => ?_)
                                    refine r_gd hf (fun q463_9 hf => ?_)
                                    refine r_gd hf (fun q463_10 hf => ?_)
                                    refine r_ic_eq C q463_9 q463_10 (tgt := 659) dL_law_463 (by decide) hf (fun hf => ?_) (fun hf => ?_)
                                    · refine r_iinc C hl (lv' := [(3, iI (v3 + 4)), (0, .ref b), (1, rI g 1), (2, rI g 2)]) 3 dL_law_659 rfl (Nat.le_of_ble_eq_true rfl) rfl (fun ls hl => ?_)
                                      refine r_goto C (tgt := 18) dL_law_662 (by decide) ?_
                                      exact ih _ _ _ _ _ hf hI (lv_sub hl [1, 2, 3, 0] rfl)
                                    · refine r_iconst C dL_law_466 ?_
                                      exact absurd hf (by decide)
                                  · refine r_if hf (fun hc14 hf => ?_) (fun hc14 hf => ?_)
                                    · refine r_tabIn C 14 hc14 (by decide) dL_law_32 (by decide) (by decide) (off := 436) rfl (tgt := 468) (by decide) ?_
                                      refine r_aload_n C hl 1 dL_law_468 rfl rfl ?_
                                      refine r_calli (rest := []) hI hf (fun r M' h => run_V C hI F_X7_out w_467 w_468 w_466 ⟨⟨Nat.le_of_ble_eq_true rfl, Nat.le_of_ble_eq_true rfl⟩, Nat.le_of_ble_eq_true rfl, Nat.le_of_ble_eq_true rfl⟩ (zX7 kd_x) (oX7 kd_x) rfl hl dL_law_469 [] rfl rfl (Nat.le_of_ble_eq_true rfl) (c_X7_out C.2.2.2.2.2.2 kd_x h)) (fun r469 M469 H locs hI hf => ?_)
                                      refine r_aload_n C hl 2 dL_law_472 rfl rfl ?_
                                      refine r_calli (rest := [iI r469]) hI hf (fun r M' h => run_V C hI F_X8_out w_827 w_828 w_826 ⟨⟨Nat.le_of_ble_eq_true rfl, Nat.le_of_ble_eq_true rfl⟩, Nat.le_of_ble_eq_true rfl, Nat.le_of_ble_eq_true rfl⟩ (zX8 kd_m) (oX8 kd_m) rfl hl dL_law_473 [] rfl rfl (Nat.le_of_ble_eq_true rfl) (c_X8_out C.2.2.2.2.2.2 kd_m h)) (fun r473 M473 H locs hI hf => ?_)
                                      refine r_gd hf (fun q476_5 hf => ?_)
                                      refine r_gd hf (fun q476_6 hf => ?_)
                                      refine r_ic_eq C q476_5 q476_6 (tgt := 659) dL_law_476 (by decide) hf (fun hf => ?_) (fun hf => ?_)
                                      · refine r_iinc C hl (lv' := [(3, iI (v3 + 4)), (0, .ref b), (1, rI g 1), (2, rI g 2)]) 3 dL_law_659 rfl (Nat.le_of_ble_eq_true rfl) rfl (fun ls hl => ?_)
                                        refine r_goto C (tgt := 18) dL_law_662 (by decide) ?_
                                        exact ih _ _ _ _ _ hf hI (lv_sub hl [1, 2, 3, 0] rfl)
                                      · refine r_iconst C dL_law_479 ?_
                                        exact absurd hf (by decide)
                                    · refine r_if hf (fun hc15 hf => ?_) (fun hc15 hf => ?_)
                                      · refine r_tabIn C 15 hc15 (by decide) dL_law_32 (by decide) (by decide) (off := 449) rfl (tgt := 481) (by decide) ?_
                                        refine r_aload_n C hl 1 dL_law_481 rfl rfl ?_
                                        refine r_sload_n C hl 0 dL_law_482 rfl rfl ?_
                                        refine r_iload_n C hl 3 dL_law_483 rfl rfl ?_
                                        refine r_iconst C dL_law_484 ?_
                                        refine r_iadd C dL_law_485 ?_
                                        refine r_gd hf (fun q486_5 hf => ?_)
                                        refine r_sld C hI hX hbl hbA hL q486_5 dL_law_486 ?_
                                        refine r_sload_n C hl 0 dL_law_487 rfl rfl ?_
                                        refine r_iload_n C hl 3 dL_law_488 rfl rfl ?_
                                        refine r_iconst C dL_law_489 ?_
                                        refine r_iadd C dL_law_490 ?_
                                        refine r_gd hf (fun q491_7 hf => ?_)
                                        refine r_sld C hI hX hbl hbA hL q491_7 dL_law_491 ?_
                                        refine r_sload_n C hl 0 dL_law_492 rfl rfl ?_
                                        refine r_iload_n C hl 3 dL_law_493 rfl rfl ?_
                                        refine r_iconst C dL_law_494 ?_
                                        refine r_iadd C dL_law_495 ?_
                                        refine r_gd hf (fun q496_9 hf => ?_)
                                        refine r_sld C hI hX hbl hbA hL q496_9 dL_law_496 ?_
                                        refine r_if_eq C (inR_t _) (tgt := 504) dL_law_497 (by decide) hf (fun hf => ?_) (fun hf => ?_)
                                        · refine r_iconst C dL_law_504 ?_
                                          exact t_L_law_505 hX hbl hbA hAd hL C hr hlk ih _ _ _ _ _ _ _ _ hf hI (lv_sub hl [0, 1, 2, 3] rfl)
                                        · refine r_iconst C dL_law_500 ?_
                                          refine r_goto C (tgt := 505) dL_law_501 (by decide) ?_
                                          exact t_L_law_505 hX hbl hbA hAd hL C hr hlk ih _ _ _ _ _ _ _ _ hf hI (lv_sub hl [0, 1, 2, 3] rfl)
                                      · refine r_if hf (fun hc16 hf => ?_) (fun hc16 hf => ?_)
                                        · refine r_tabIn C 16 hc16 (by decide) dL_law_32 (by decide) (by decide) (off := 508) rfl (tgt := 540) (by decide) ?_
                                          refine r_aload_n C hl 1 dL_law_540 rfl rfl ?_
                                          refine r_calli (rest := []) hI hf (fun r M' h => run_V C hI F_X7_forget w_493 w_494 w_492 ⟨⟨Nat.le_of_ble_eq_true rfl, Nat.le_of_ble_eq_true rfl⟩, Nat.le_of_ble_eq_true rfl, Nat.le_of_ble_eq_true rfl⟩ (zX7 kd_x) (oX7 kd_x) rfl hl dL_law_541 [] rfl rfl (Nat.le_of_ble_eq_true rfl) (c_X7_forget C.2.2.2.2.2.2 kd_x h)) (fun r541 M541 H locs hI hf => ?_)
                                          refine r_aload_n C hl 2 dL_law_544 rfl rfl ?_
                                          refine r_calli (rest := [iI r541]) hI hf (fun r M' h => run_V C hI F_X8_forget w_839 w_840 w_838 ⟨⟨Nat.le_of_ble_eq_true rfl, Nat.le_of_ble_eq_true rfl⟩, Nat.le_of_ble_eq_true rfl, Nat.le_of_ble_eq_true rfl⟩ (zX8 kd_m) (oX8 kd_m) rfl hl dL_law_545 [] rfl rfl (Nat.le_of_ble_eq_true rfl) (c_X8_forget C.2.2.2.2.2.2 kd_m h)) (fun r545 M545 H locs hI hf => ?_)
                                          refine r_gd hf (fun q548_5 hf => ?_)
                                          refine r_gd hf (fun q548_6 hf => ?_)
                                          refine r_ic_eq C q548_5 q548_6 (tgt := 659) dL_law_548 (by decide) hf (fun hf => ?_) (fun hf => ?_)
                                          · refine r_iinc C hl (lv' := [(3, iI (v3 + 4)), (0, .ref b), (1, rI g 1), (2, rI g 2)]) 3 dL_law_659 rfl (Nat.le_of_ble_eq_true rfl) rfl (fun ls hl => ?_)
                                            refine r_goto C (tgt := 18) dL_law_662 (by decide) ?_
                                            exact ih _ _ _ _ _ hf hI (lv_sub hl [1, 2, 3, 0] rfl)
                                          · refine r_iconst C dL_law_551 ?_
                                            exact absurd hf (by decide)
                                        · refine r_if hf (fun hc17 hf => ?_) (fun hc17 hf => ?_)
                                          · refine r_tabIn C 17 hc17 (by decide) dL_law_32 (by decide) (by decide) (off := 521) rfl (tgt := 553) (by decide) ?_
                                            refine r_aload_n C hl 1 dL_law_553 rfl rfl ?_
                                            refine r_sload_n C hl 0 dL_law_554 rfl rfl ?_
                                            refine r_iload_n C hl 3 dL_law_555 rfl rfl ?_
                                            refine r_iconst C dL_law_556 ?_
                                            refine r_iadd C dL_law_557 ?_
                                            refine r_gd hf (fun q558_5 hf => ?_)
                                            refine r_sld C hI hX hbl hbA hL q558_5 dL_law_558 ?_
                                            refine r_sload_n C hl 0 dL_law_559 rfl rfl ?_
                                            refine r_iload_n C hl 3 dL_law_560 rfl rfl ?_
                                            refine r_iconst C dL_law_561 ?_
                                            refine r_iadd C dL_law_562 ?_
                                            refine r_gd hf (fun q563_7 hf => ?_)
                                            refine r_sld C hI hX hbl hbA hL q563_7 dL_law_563 ?_
                                            refine r_sload_n C hl 0 dL_law_564 rfl rfl ?_
                                            refine r_iload_n C hl 3 dL_law_565 rfl rfl ?_
                                            refine r_iconst C dL_law_566 ?_
                                            refine r_iadd C dL_law_567 ?_
                                            refine r_gd hf (fun q568_9 hf => ?_)
                                            refine r_sld C hI hX hbl hbA hL q568_9 dL_law_568 ?_
                                            refine r_calli (rest := []) hI hf (fun r M' h => run_V C hI F_X7_years w_497 w_498 w_496 ⟨⟨Nat.le_of_ble_eq_true rfl, Nat.le_of_ble_eq_true rfl⟩, Nat.le_of_ble_eq_true rfl, Nat.le_of_ble_eq_true rfl⟩ (zX7 kd_x) (oX7 kd_x) rfl hl dL_law_569 [iI ((xs (v3 + 1).toNat).toInt), iI ((xs (v3 + 2).toNat).toInt), iI ((xs (v3 + 3).toNat).toInt)] rfl rfl (Nat.le_of_ble_eq_true rfl) (c_X7_years C.2.2.2.2.2.2 kd_x h)) (fun r569 M569 H locs hI hf => ?_)
                                            refine r_aload_n C hl 2 dL_law_572 rfl rfl ?_
                                            refine r_sload_n C hl 0 dL_law_573 rfl rfl ?_
                                            refine r_iload_n C hl 3 dL_law_574 rfl rfl ?_
                                            refine r_iconst C dL_law_575 ?_
                                            refine r_iadd C dL_law_576 ?_
                                            refine r_sld C hI hX hbl hbA hL q558_5 dL_law_577 ?_
                                            refine r_sload_n C hl 0 dL_law_578 rfl rfl ?_
                                            refine r_iload_n C hl 3 dL_law_579 rfl rfl ?_
                                            refine r_iconst C dL_law_580 ?_
                                            refine r_iadd C dL_law_581 ?_
                                            refine r_sld C hI hX hbl hbA hL q563_7 dL_law_582 ?_
                                            refine r_sload_n C hl 0 dL_law_583 rfl rfl ?_
                                            refine r_iload_n C hl 3 dL_law_584 rfl rfl ?_
                                            refine r_iconst C dL_law_585 ?_
                                            refine r_iadd C dL_law_586 ?_
                                            refine r_sld C hI hX hbl hbA hL q568_9 dL_law_587 ?_
                                            refine r_calli (rest := [iI r569]) hI hf (fun r M' h => run_V C hI F_X8_years w_843 w_844 w_842 ⟨⟨Nat.le_of_ble_eq_true rfl, Nat.le_of_ble_eq_true rfl⟩, Nat.le_of_ble_eq_true rfl, Nat.le_of_ble_eq_true rfl⟩ (zX8 kd_m) (oX8 kd_m) rfl hl dL_law_588 [iI ((xs (v3 + 1).toNat).toInt), iI ((xs (v3 + 2).toNat).toInt), iI ((xs (v3 + 3).toNat).toInt)] rfl rfl (Nat.le_of_ble_eq_true rfl) (c_X8_years C.2.2.2.2.2.2 kd_m h)) (fun r588 M588 H locs hI hf => ?_)
                                            refine r_gd hf (fun q591_11 hf => ?_)
                                            refine r_gd hf (fun q591_12 hf => ?_)
                                            refine r_ic_eq C q591_11 q591_12 (tgt := 659) dL_law_591 (by decide) hf (fun hf => ?_) (fun hf => ?_)
                                            · refine r_iinc C hl (lv' := [(3, iI (v3 + 4)), (0, .ref b), (1, rI g 1), (2, rI g 2)]) 3 dL_law_659 rfl (Nat.le_of_ble_eq_true rfl) rfl (fun ls hl => ?_)
                                              refine r_goto C (tgt := 18) dL_law_662 (by decide) ?_
                                              exact ih _ _ _ _ _ hf hI (lv_sub hl [1, 2, 3, 0] rfl)
                                            · refine r_iconst C dL_law_594 ?_
                                              exact absurd hf (by decide)
                                          · refine r_if hf (fun hc18 hf => ?_) (fun hc18 hf => ?_)
                                            · refine r_tabIn C 18 hc18 (by decide) dL_law_32 (by decide) (by decide) (off := 564) rfl (tgt := 596) (by decide) ?_
                                              refine r_aload_n C hl 1 dL_law_596 rfl rfl ?_
                                              refine r_calli (rest := []) hI hf (fun r M' h => run_V C hI F_X7_image w_516 w_517 w_515 ⟨⟨Nat.le_of_ble_eq_true rfl, Nat.le_of_ble_eq_true rfl⟩, Nat.le_of_ble_eq_true rfl, Nat.le_of_ble_eq_true rfl⟩ (zX7 kd_x) (oX7 kd_x) rfl hl dL_law_597 [] rfl rfl (Nat.le_of_ble_eq_true rfl) (c_X7_image C.2.2.2.2.2.2 kd_x h)) (fun r597 M597 H locs hI hf => ?_)
                                              refine r_aload_n C hl 2 dL_law_600 rfl rfl ?_
                                              refine r_calli (rest := [iI r597]) hI hf (fun r M' h => run_V C hI F_X8_image w_857 w_858 w_856 ⟨⟨Nat.le_of_ble_eq_true rfl, Nat.le_of_ble_eq_true rfl⟩, Nat.le_of_ble_eq_true rfl, Nat.le_of_ble_eq_true rfl⟩ (zX8 kd_m) (oX8 kd_m) rfl hl dL_law_601 [] rfl rfl (Nat.le_of_ble_eq_true rfl) (c_X8_image C.2.2.2.2.2.2 kd_m h)) (fun r601 M601 H locs hI hf => ?_)
                                              refine r_gd hf (fun q604_5 hf => ?_)
                                              refine r_gd hf (fun q604_6 hf => ?_)
                                              refine r_ic_eq C q604_5 q604_6 (tgt := 659) dL_law_604 (by decide) hf (fun hf => ?_) (fun hf => ?_)
                                              · refine r_iinc C hl (lv' := [(3, iI (v3 + 4)), (0, .ref b), (1, rI g 1), (2, rI g 2)]) 3 dL_law_659 rfl (Nat.le_of_ble_eq_true rfl) rfl (fun ls hl => ?_)
                                                refine r_goto C (tgt := 18) dL_law_662 (by decide) ?_
                                                exact ih _ _ _ _ _ hf hI (lv_sub hl [1, 2, 3, 0] rfl)
                                              · refine r_iconst C dL_law_607 ?_
                                                exact absurd hf (by decide)
                                            · refine r_if hf (fun hc19 hf => ?_) (fun hc19 hf => ?_)
                                              · refine r_tabIn C 19 hc19 (by decide) dL_law_32 (by decide) (by decide) (off := 577) rfl (tgt := 609) (by decide) ?_
                                                refine r_aload_n C hl 1 dL_law_609 rfl rfl ?_
                                                refine r_calli (rest := []) hI hf (fun r M' h => run_V C hI F_X7_restore w_525 w_526 w_524 ⟨⟨Nat.le_of_ble_eq_true rfl, Nat.le_of_ble_eq_true rfl⟩, Nat.le_of_ble_eq_true rfl, Nat.le_of_ble_eq_true rfl⟩ (zX7 kd_x) (oX7 kd_x) rfl hl dL_law_610 [] rfl rfl (Nat.le_of_ble_eq_true rfl) (c_X7_restore C.2.2.2.2.2.2 kd_x h)) (fun r610 M610 H locs hI hf => ?_)
                                                refine r_aload_n C hl 2 dL_law_613 rfl rfl ?_
                                                refine r_calli (rest := [iI r610]) hI hf (fun r M' h => run_V C hI F_X8_restore w_861 w_862 w_860 ⟨⟨Nat.le_of_ble_eq_true rfl, Nat.le_of_ble_eq_true rfl⟩, Nat.le_of_ble_eq_true rfl, Nat.le_of_ble_eq_true rfl⟩ (zX8 kd_m) (oX8 kd_m) rfl hl dL_law_614 [] rfl rfl (Nat.le_of_ble_eq_true rfl) (c_X8_restore C.2.2.2.2.2.2 kd_m h)) (fun r614 M614 H locs hI hf => ?_)
                                                refine r_gd hf (fun q617_5 hf => ?_)
                                                refine r_gd hf (fun q617_6 hf => ?_)
                                                refine r_ic_eq C q617_5 q617_6 (tgt := 659) dL_law_617 (by decide) hf (fun hf => ?_) (fun hf => ?_)
                                                · refine r_iinc C hl (lv' := [(3, iI (v3 + 4)), (0, .ref b), (1, rI g 1), (2, rI g 2)]) 3 dL_law_659 rfl (Nat.le_of_ble_eq_true rfl) rfl (fun ls hl => ?_)
                                                  refine r_goto C (tgt := 18) dL_law_662 (by decide) ?_
                                                  exact ih _ _ _ _ _ hf hI (lv_sub hl [1, 2, 3, 0] rfl)
                                                · refine r_iconst C dL_law_620 ?_
                                                  exact absurd hf (by decide)
                                              · refine r_if hf (fun hc20 hf => ?_) (fun hc20 hf => ?_)
                                                · refine r_tabIn C 20 hc20 (by decide) dL_law_32 (by decide) (by decide) (off := 590) rfl (tgt := 622) (by decide) ?_
                                                  refine r_aload_n C hl 1 dL_law_622 rfl rfl ?_
                                                  refine r_sload_n C hl 0 dL_law_623 rfl rfl ?_
                                                  refine r_iload_n C hl 3 dL_law_624 rfl rfl ?_
                                                  refine r_iconst C dL_law_625 ?_
                                                  refine r_iadd C dL_law_626 ?_
                                                  refine r_gd hf (fun q627_5 hf => ?_)
                                                  refine r_sld C hI hX hbl hbA hL q627_5 dL_law_627 ?_
                                                  refine r_calli (rest := []) hI hf (fun r M' h => run_V C hI F_X7_count w_529 w_530 w_528 ⟨⟨Nat.le_of_ble_eq_true rfl, Nat.le_of_ble_eq_true rfl⟩, Nat.le_of_ble_eq_true rfl, Nat.le_of_ble_eq_true rfl⟩ (zX7 kd_x) (oX7 kd_x) rfl hl dL_law_628 [iI ((xs (v3 + 1).toNat).toInt)] rfl rfl (Nat.le_of_ble_eq_true rfl) (c_X7_count C.2.2.2.2.2.2 kd_x h)) (fun r628 M628 H locs hI hf => ?_)
                                                  refine r_aload_n C hl 2 dL_law_631 rfl rfl ?_
                                                  refine r_sload_n C hl 0 dL_law_632 rfl rfl ?_
                                                  refine r_iload_n C hl 3 dL_law_633 rfl rfl ?_
                                                  refine r_iconst C dL_law_634 ?_
                                                  refine r_iadd C dL_law_635 ?_
                                                  refine r_sld C hI hX hbl hbA hL q627_5 dL_law_636 ?_
                                                  refine r_calli (rest := [iI r628]) hI hf (fun r M' h => run_V C hI F_X8_count w_865 w_866 w_864 ⟨⟨Nat.le_of_ble_eq_true rfl, Nat.le_of_ble_eq_true rfl⟩, Nat.le_of_ble_eq_true rfl, Nat.le_of_ble_eq_true rfl⟩ (zX8 kd_m) (oX8 kd_m) rfl hl dL_law_637 [iI ((xs (v3 + 1).toNat).toInt)] rfl rfl (Nat.le_of_ble_eq_true rfl) (c_X8_count C.2.2.2.2.2.2 kd_m h)) (fun r637 M637 H locs hI hf => ?_)
                                                  refine r_gd hf (fun q640_7 hf => ?_)
                                                  refine r_gd hf (fun q640_8 hf => ?_)
                                                  refine r_ic_eq C q640_7 q640_8 (tgt := 659) dL_law_640 (by decide) hf (fun hf => ?_) (fun hf => ?_)
                                                  · refine r_iinc C hl (lv' := [(3, iI (v3 + 4)), (0, .ref b), (1, rI g 1), (2, rI g 2)]) 3 dL_law_659 rfl (Nat.le_of_ble_eq_true rfl) rfl (fun ls hl => ?_)
                                                    refine r_goto C (tgt := 18) dL_law_662 (by decide) ?_
                                                    exact ih _ _ _ _ _ hf hI (lv_sub hl [1, 2, 3, 0] rfl)
                                                  · refine r_iconst C dL_law_643 ?_
                                                    exact absurd hf (by decide)
                                                · refine r_tabIn C 21 (by omega) (by decide) dL_law_32 (by decide) (by decide) (off := 613) rfl (tgt := 645) (by decide) ?_
                                                  refine r_aload_n C hl 1 dL_law_645 rfl rfl ?_
                                                  refine r_calll (rest := []) hI hf (fun r M' h => run_V C hI F_X7_digest w_534 w_535 w_533 ⟨⟨Nat.le_of_ble_eq_true rfl, Nat.le_of_ble_eq_true rfl⟩, Nat.le_of_ble_eq_true rfl, Nat.le_of_ble_eq_true rfl⟩ (zX7 kd_x) (oX7 kd_x) rfl hl dL_law_646 [] rfl rfl (Nat.le_of_ble_eq_true rfl) (c_X7_digest C.2.2.2.2.2.2 kd_x h)) (fun r646 M646 H locs hI hf => ?_)
                                                  refine r_aload_n C hl 2 dL_law_649 rfl rfl ?_
                                                  refine r_calll (rest := [lI r646]) hI hf (fun r M' h => run_V C hI F_X8_digest w_877 w_878 w_876 ⟨⟨Nat.le_of_ble_eq_true rfl, Nat.le_of_ble_eq_true rfl⟩, Nat.le_of_ble_eq_true rfl, Nat.le_of_ble_eq_true rfl⟩ (zX8 kd_m) (oX8 kd_m) rfl hl dL_law_650 [] rfl rfl (Nat.le_of_ble_eq_true rfl) (c_X8_digest C.2.2.2.2.2.2 kd_m h)) (fun r650 M650 H locs hI hf => ?_)
                                                  refine r_gd hf (fun q653_5 hf => ?_)
                                                  refine r_lcmp C q653_5 dL_law_653 ?_
                                                  refine r_if_eq C (inR_cmp _ _) (tgt := 659) dL_law_654 (by decide) hf (fun hf => ?_) (fun hf => ?_)
                                                  · refine r_iinc C hl (lv' := [(3, iI (v3 + 4)), (0, .ref b), (1, rI g 1), (2, rI g 2)]) 3 dL_law_659 rfl (Nat.le_of_ble_eq_true rfl) rfl (fun ls hl => ?_)
                                                    refine r_goto C (tgt := 18) dL_law_662 (by decide) ?_
                                                    exact ih _ _ _ _ _ hf hI (lv_sub hl [1, 2, 3, 0] rfl)
                                                  · refine r_iconst C dL_law_657 ?_
                                                    exact absurd hf (by decide)
