theorem bm64 {x : Int} (h0 : -9223372036854775808 ≤ x) (h1 : x ≤ 9223372036854775807) : x.bmod (2 ^ 64) = x := by
  rw [Int.bmod_def]
  split <;> omega
theorem l_rem_s {x : Int} (h0 : 0 ≤ x) (h1 : x ≤ 9223372036854775807) : l_rem x 2147483648 = x % 2147483648 := by
  have e1 : (Int64.ofInt x).toInt = x := ol_t ⟨by omega, h1⟩
  have e2 : (Int64.ofInt 2147483648).toInt = 2147483648 := by decide +kernel
  have e3 : (Int64.ofInt x / Int64.ofInt 2147483648).toInt = x / 2147483648 := by
    rw [Int64.toInt_div, e1, e2, Int.tdiv_eq_ediv_of_nonneg h0, bm64 (by omega) (by omega)]
  unfold l_rem
  rw [Int64.toInt_sub, Int64.toInt_mul, e1, e2, e3, bm64 (x := x / 2147483648 * 2147483648) (by omega) (by omega), bm64 (by omega) (by omega)]
  omega
theorem l_and_s {x : Int} (h0 : 0 ≤ x) (h1 : x ≤ 9223372036854775807) : l_and x 2147483647 = x % 2147483648 := by
  obtain ⟨n, rfl⟩ : ∃ n : Nat, x = (n : Int) := ⟨x.toNat, by omega⟩
  unfold l_and
  rw [Int64.toInt, Int64.toBitVec_and, BitVec.toInt_eq_toNat_of_lt, BitVec.toNat_and]
  · rw [Int64.toBitVec_ofInt, Int64.toBitVec_ofInt, BitVec.toNat_ofInt, BitVec.toNat_ofInt]
    have e1 : ((n : Int) % ((2 ^ 64 : Nat) : Int)).toNat = n := by omega
    have e2 : ((2147483647 : Int) % ((2 ^ 64 : Nat) : Int)).toNat = 2 ^ 31 - 1 := by decide
    rw [e1, e2, Nat.and_two_pow_sub_one_eq_mod]
    omega
  · rw [BitVec.toNat_and, Int64.toBitVec_ofInt, Int64.toBitVec_ofInt, BitVec.toNat_ofInt, BitVec.toNat_ofInt]
    have e2 : ((2147483647 : Int) % ((2 ^ 64 : Nat) : Int)).toNat = 2 ^ 31 - 1 := by decide
    rw [e2]
    have := Nat.and_le_right (n := ((n : Int) % ((2 ^ 64 : Nat) : Int)).toNat) (m := 2 ^ 31 - 1)
    omega
def nx (s : Int) : Int := (1103515245 * s + 12345) % 2147483648
theorem nx_in (s : Int) : 0 ≤ nx s ∧ nx s ≤ 2147483647 := by unfold nx; omega
theorem below_s {N : Nat} {M : Mem} {s v : Int} (h : M 51 0 = s) (hs : 0 ≤ s ∧ s ≤ 2147483647) (hv : 1 ≤ v ∧ v ≤ 6) : f_X0_below N 51 v M = some ((nx s / 65536) % v, st M 51 0 (nx s)) := by
  have e1 : l_rem (1103515245 * s + 12345) 2147483648 = nx s := l_rem_s (by omega) (by omega)
  have hn := nx_in s
  have e2 : (st M 51 0 (nx s)) 51 0 = nx s := by rw [st_same]; simp
  have e3 : i_div (nx s) 65536 = nx s / 65536 := i_div_s hn.1 hn.2 (by omega) (by omega)
  have e4 : i_rem (nx s / 65536) v = (nx s / 65536) % v := i_rem_s (by omega) (by omega) (by omega) (by omega)
  simp (disch := omega) only [f_X0_below, h, gd_t, if_neg, e1, e2, e3, e4]
theorem draw_s {N : Nat} {W : Mem} {s v : Int} (h : W 2 19 = s) (hs : 0 ≤ s ∧ s ≤ 2147483647) (hv : 1 ≤ v ∧ v ≤ 6) : f_X8_draw N 2 v W = some ((nx s / 65536) % v, st W 2 19 (nx s)) := by
  have e1 : l_and (1103515245 * s + 12345) 2147483647 = nx s := l_and_s (by omega) (by omega)
  have hn := nx_in s
  have e2 : (st W 2 19 (nx s)) 2 19 = nx s := by rw [st_same]; simp
  have e3 : i_div (nx s) 65536 = nx s / 65536 := i_div_s hn.1 hn.2 (by omega) (by omega)
  have e4 : i_rem (nx s / 65536) v = (nx s / 65536) % v := i_rem_s (by omega) (by omega) (by omega) (by omega)
  simp (disch := omega) only [f_X8_draw, h, gd_t, if_neg, e1, e2, e3, e4]
theorem NwOK.kept {W W' : Mem} {T : Nat} {K S H : Row} (h : NwOK W T K S H) (h0 : W' 2 9 = W 2 9) (h1 : W' (ch 2 10) = W (ch 2 10)) (h2 : W' (ch 2 11) = W (ch 2 11)) (h3 : W' (ch 2 12) = W (ch 2 12)) : NwOK W' T K S H := by
  unfold NwOK
  rw [h0, h1, h2, h3]
  exact h
theorem NwOK.home {W : Mem} {T : Nat} {K S H : Row} (h : NwOK W T K S H) {t : Nat} (ht : t < T) {x : Int} (hx : 0 ≤ x ∧ x ≤ 5) : NwOK (st W (ch 2 11) t x) T K S (updR H t x) := by
  obtain ⟨h1, h2, h3, h4⟩ := h
  refine ⟨by rw [st_ne _ _ _ _ (by decide)]; exact h1, h2, fun p hp => by rw [st_ne _ _ _ _ (by decide)]; exact h3 p hp, fun i hi => ?_⟩
  rw [st_ne _ _ _ _ (by decide), st_same]
  unfold updR
  by_cases c : i = t
  · simp only [if_pos c, true_and]; exact ⟨(h4 i hi).1, hx⟩
  · simp only [if_neg c]; exact h4 i hi
theorem NwOK.home0 {W : Mem} {T : Nat} {K S H : Row} (h : NwOK W T K S H) {t : Nat} : NwOK (st W (ch 2 11) t (W (ch 2 11) t)) T K S H := by
  refine h.kept (by rw [st_ne _ _ _ _ (by decide)]) (st_ne _ _ _ _ (by decide)) ?_ (st_ne _ _ _ _ (by decide))
  rw [st_same]
  funext j
  by_cases c : j = t
  · simp [c]
  · simp only [if_neg c]
theorem y145_s {N : Nat} {W : Mem} {T : Nat} {Y sd q tot : Int} {g : Nat} (hN : 200 ≤ N) (h9 : W 2 9 = (T : Int)) (hT : T ≤ 5) (hg : g < 1024) (hq : 0 ≤ q ∧ q ≤ 2) : f_X8_years_145 N 2 Y sd q N tot (g : Int) 0 0 W = some (if q = 0 then tot else if q = 1 then bsum g T else W 2 19, W) := by
  obtain ⟨v, i1, he⟩ := lp_eq (fun n k (v : Int) => f_X8_years_145 N 2 Y sd q n tot (g : Int) v k W) (fun v => some (if q = 0 then tot else if q = 1 then v else W 2 19, W)) (fun k v => v = bsum g k) T
    (fun n k v hk hv => by
      refine ⟨v + ((g / 2 ^ k % 2 : Nat) : Int), by rw [hv]; rfl, ?_⟩
      simp (disch := omega) only [f_X8_years_145, gd_t, h9, if_neg, bit_of])
    (fun n v hv => by
      rcases (show q = 0 ∨ q = 1 ∨ q = 2 by omega) with rfl | rfl | rfl
      · simp (disch := omega) only [f_X8_years_145, gd_t, h9, if_pos, reduceIte]
      · simp (disch := omega) only [f_X8_years_145, gd_t, h9, if_pos, if_neg, reduceIte]
      · simp (disch := omega) only [f_X8_years_145, gd_t, h9, if_pos, if_neg, reduceIte]) T 0 N 0 (by omega) (by omega) rfl
  rw [← i1]
  exact he
theorem years_lp {N T : Nat} {K : Row} {air q sd : Int} {Y : Nat} {M0 W0 : Mem} (hN : 200 ≤ N) (hT : 1 ≤ T) (hY : Y ≤ 60) (hq : 0 ≤ q ∧ q ≤ 2) (ha : 0 ≤ air ∧ air ≤ 9) :
    ∀ (j k n7 n8 : Nat) (v s : Int) (M W : Mem) (S H : Row), k + j = Y → j < n7 → j < n8 → 0 ≤ v → v ≤ 6 * (k : Int) → 0 ≤ s → s ≤ 2147483647 →
      StOK M 48 S T K H → M 51 0 = s → M 48 4 = air → FC M0 M → NwOK W T K S H → W 2 19 = s → W 2 2 = air → FM W0 W →
      ∃ (r : Int) (M' W' : Mem), f_X7_years_66 N 1 (Y : Int) sd q n7 v (k : Int) M = some (r, M') ∧ f_X8_years_56 N 2 (Y : Int) sd q n8 v (k : Int) W = some (r, W') ∧ inR r ∧ FC M0 M' ∧ FM W0 W' := by
  intro j
  induction j with
  | zero =>
    intro k n7 n8 v s M W S H hk h7 h8 hv1 hv2 hs1 hs2 hS hM51 hM4 hFC hNw hW19 hW2 hFM
    obtain ⟨n7, rfl⟩ : ∃ n', n7 = n' + 1 := ⟨n7 - 1, by omega⟩
    obtain ⟨n8, rfl⟩ : ∃ n', n8 = n' + 1 := ⟨n8 - 1, by omega⟩
    have hT5 := hS.2.1
    have hl := gsp_lt (S := S) (T := T) (K := K) (H := H) ha
    have hl2 := p2_5 hT5
    have e1 := gaspers_s (N := N) (by omega) hS hM4 ha
    have e2 := bitCount_s (N := N) (M := M) (show gsp S T K H air < 1024 by omega)
    have e3 := gasping_s (N := N) (by omega) hNw hW2 ha
    have e4 := y145_s (N := N) (W := W) (T := T) (Y := (Y : Int)) (sd := sd) (q := q) (tot := v) (g := gsp S T K H air) hN hNw.1 hT5 (by omega) hq
    have e5 := bsum_T hT5 hl
    have hpp := popc_in (gsp S T K H air)
    refine ⟨if q = 0 then v else if q = 1 then bsum (gsp S T K H air) T else s, M, W, ?_, ?_, ?_, hFC, hFM⟩
    · rw [e5]
      rcases (show q = 0 ∨ q = 1 ∨ q = 2 by omega) with rfl | rfl | rfl
      · simp (disch := omega) only [f_X7_years_66, gd_t, if_pos, if_neg, reduceIte]
      · simp (disch := omega) only [f_X7_years_66, gd_t, if_pos, if_neg, reduceIte, c15, e1, e2, bnd_s]
      · simp (disch := omega) only [f_X7_years_66, gd_t, if_pos, if_neg, reduceIte, c18, hM51]
    · simp (disch := omega) only [f_X8_years_56, gd_t, if_pos, e3, bnd_s, e4, hW19]
    · rw [e5]
      split
      · omega
      · split <;> omega
  | succ j ih =>
    intro k n7 n8 v s M W S H hk h7 h8 hv1 hv2 hs1 hs2 hS hM51 hM4 hFC hNw hW19 hW2 hFM
    obtain ⟨n7, rfl⟩ : ∃ n', n7 = n' + 1 := ⟨n7 - 1, by omega⟩
    obtain ⟨n8, rfl⟩ : ∃ n', n8 = n' + 1 := ⟨n8 - 1, by omega⟩
    have hT5 := hS.2.1
    have hn1 := nx_in s
    have hn2 := nx_in (nx s)
    obtain ⟨t, ht⟩ : ∃ t : Nat, (t : Int) = (nx s / 65536) % (T : Int) := ⟨((nx s / 65536) % (T : Int)).toNat, by have := Int.emod_nonneg (nx s / 65536) (show (T : Int) ≠ 0 by omega); omega⟩
    have htT : t < T := by have := Int.emod_lt_of_pos (nx s / 65536) (show (0 : Int) < (T : Int) by omega); omega
    obtain ⟨p, hp⟩ : ∃ p : Nat, (p : Int) = (nx (nx s) / 65536) % 6 := ⟨((nx (nx s) / 65536) % 6).toNat, by omega⟩
    have hp6 : p < 6 := by omega
    have b1 := below_s (N := N) (v := (T : Int)) hM51 ⟨hs1, hs2⟩ (by omega)
    have m48 : M 48 3 = (T : Int) := hS.1
    have b2 := below_s (N := N) (M := st M 51 0 (nx s)) (s := nx s) (v := 6) (by rw [st_same]; simp) hn1 (by omega)
    have d1 := draw_s (N := N) (v := (T : Int)) hW19 ⟨hs1, hs2⟩ (by omega)
    have d2 := draw_s (N := N) (W := st W 2 19 (nx s)) (s := nx s) (v := 6) (by rw [st_same]; simp) hn1 (by omega)
    rw [← ht] at b1 d1
    rw [← hp] at b2 d2
    have w9 := hNw.1
    -- the class
    have hSa : StOK (st (st M 51 0 (nx s)) 51 0 (nx (nx s))) 48 S T K H := hS.kept (by rw [st_ne _ _ _ _ (by decide), st_ne _ _ _ _ (by decide)]) (by rw [st_ne _ _ _ _ (by decide), st_ne _ _ _ _ (by decide)]) (by rw [st_ne _ _ _ _ (by decide), st_ne _ _ _ _ (by decide)]) (by rw [st_ne _ _ _ _ (by decide), st_ne _ _ _ _ (by decide)]) (by rw [st_ne _ _ _ _ (by decide), st_ne _ _ _ _ (by decide)])
    have hNa : NwOK (st (st W 2 19 (nx s)) 2 19 (nx (nx s))) T K S H := hNw.kept (by simp [st_same]) (by rw [st_ne _ _ _ _ (by decide), st_ne _ _ _ _ (by decide)]) (by rw [st_ne _ _ _ _ (by decide), st_ne _ _ _ _ (by decide)]) (by rw [st_ne _ _ _ _ (by decide), st_ne _ _ _ _ (by decide)])
    have x51 : (st (st M 51 0 (nx s)) 51 0 (nx (nx s))) 51 0 = nx (nx s) := by rw [st_same]; simp
    have x48 : (st (st M 51 0 (nx s)) 51 0 (nx (nx s))) 48 = M 48 := by rw [st_ne _ _ _ _ (by decide), st_ne _ _ _ _ (by decide)]
    have xF : FC M0 (st (st M 51 0 (nx s)) 51 0 (nx (nx s))) := fun a ha => by rw [st_ne _ _ _ _ (nsc ha (by decide)), st_ne _ _ _ _ (nsc ha (by decide))]; exact hFC a ha
    have y19 : (st (st W 2 19 (nx s)) 2 19 (nx (nx s))) 2 19 = nx (nx s) := by rw [st_same]; simp
    have y2 : (st (st W 2 19 (nx s)) 2 19 (nx (nx s))) 2 2 = air := by simp [st_same, hW2]
    have yF : FM W0 (st (st W 2 19 (nx s)) 2 19 (nx (nx s))) := ⟨fun a h1 h2 => by rw [st_ne _ _ _ _ h1, st_ne _ _ _ _ h1]; exact hFM.1 a h1 h2, fun i h1 h2 => by rw [st_same]; simp only [if_neg h1]; rw [st_same]; simp only [if_neg h1]; exact hFM.2 i h1 h2⟩
    generalize st (st M 51 0 (nx s)) 51 0 (nx (nx s)) = Ma at b2 hSa x51 x48 xF
    generalize st (st W 2 19 (nx s)) 2 19 (nx (nx s)) = Wa at d2 hNa y19 y2 yF
    have x4 : Ma 48 4 = air := by rw [x48]; exact hM4
    obtain ⟨r1, r2⟩ := rehouse_s (N := N) (by omega) hSa htT hp6
    have hcut := isCutOff8_s (N := N) (by omega) hNa htT
    obtain ⟨z1, z2, z3⟩ := hNa.2.2.1 p hp6
    by_cases hc : S p = 0 ∨ cutN S (H t) = 1
    · obtain ⟨M1, g1, g2, g3, g4, g5, g6⟩ := liveDay_s (N := N) (by omega) hSa
      obtain ⟨W1, k1, k2, k3⟩ := goesBy_s (N := N) (by omega) (hNa.home0 (t := t))
      have hd := dayF_in S (wsT T K H)
      obtain ⟨r, M', W', i1, i2, i3⟩ := ih (k + 1) n7 n8 (v + dayF S (wsT T K H)) (nx (nx s)) M1 W1 (dayR S (wsT T K H)) H (by omega) (by omega) (by omega) (by omega) (by omega) hn2.1 hn2.2 g2 (by rw [g6 51 (by decide) (by decide) (by decide)]; exact x51) (by rw [g5 4 (by decide) (by decide)]; exact x4) (xF.tr (fun a ha => g6 a (nsc ha (by decide)) (nsc ha (by decide)) (nsc ha (by decide)))) k2 (by rw [k3 2 (by decide) (by decide), st_ne _ _ _ _ (by decide)]; exact y19) (by rw [k3 2 (by decide) (by decide), st_ne _ _ _ _ (by decide)]; exact y2) (yF.tr (mf.fm (fun a h1 h2 h3 => by rw [k3 a h2 h3, st_ne _ _ _ _ h1])))
      refine ⟨r, M', W', ?_, ?_, i3⟩
      · simp (disch := omega) only [f_X7_years_66, gd_t, if_neg, c15, c18, m48, b1, b2, bnd_s, r1 hc, g1]
        exact i1
      · by_cases z : S p = 0
        · simp (disch := omega) only [f_X8_years_56, gd_t, if_neg, if_pos, w9, d1, d2, bnd_s, tn_c, z1, k1]
          exact i2
        · have hc1 := hc.resolve_left z
          simp (disch := omega) only [f_X8_years_56, gd_t, if_neg, if_pos, w9, d1, d2, bnd_s, tn_c, z1, hcut, hc1, k1]
          exact i2
    · have z : ¬ S p = 0 := fun q => hc (Or.inl q)
      have c0 : cutN S (H t) = 0 := (cutN_01 _ _).resolve_right (fun q => hc (Or.inr q))
      obtain ⟨Mb, u1, u2, u3⟩ := r2 hc
      obtain ⟨M1, g1, g2, g3, g4, g5, g6⟩ := liveDay_s (N := N) (by omega) u2
      obtain ⟨W1, k1, k2, k3⟩ := goesBy_s (N := N) (by omega) (hNa.home htT (x := (p : Int)) (by omega))
      have hd := dayF_in S (wsT T K (updR H t (p : Int)))
      obtain ⟨r, M', W', i1, i2, i3⟩ := ih (k + 1) n7 n8 (v + dayF S (wsT T K (updR H t (p : Int)))) (nx (nx s)) M1 W1 (dayR S (wsT T K (updR H t (p : Int)))) (updR H t (p : Int)) (by omega) (by omega) (by omega) (by omega) (by omega) hn2.1 hn2.2 g2 (by rw [g6 51 (by decide) (by decide) (by decide), u3 51 (by decide) (by decide)]; exact x51) (by rw [g5 4 (by decide) (by decide), u3 48 (by decide) (by decide)]; exact x4) ((xF.tr (fun a ha => u3 a (nsc ha (by decide)) (nsc ha (by decide)))).tr (fun a ha => g6 a (nsc ha (by decide)) (nsc ha (by decide)) (nsc ha (by decide)))) k2 (by rw [k3 2 (by decide) (by decide), st_ne _ _ _ _ (by decide)]; exact y19) (by rw [k3 2 (by decide) (by decide), st_ne _ _ _ _ (by decide)]; exact y2) (yF.tr (mf.fm (fun a h1 h2 h3 => by rw [k3 a h2 h3, st_ne _ _ _ _ h1])))
      refine ⟨r, M', W', ?_, ?_, i3⟩
      · simp (disch := omega) only [f_X7_years_66, gd_t, if_neg, c15, c18, m48, b1, b2, bnd_s, u1, g1]
        exact i1
      · simp (disch := omega) only [f_X8_years_56, gd_t, if_neg, if_pos, w9, d1, d2, bnd_s, tn_c, z1, hcut, c0, k1]
        exact i2
theorem op_years {N : Nat} {a c q : Int} (hN : 200 ≤ N) (ha : inR a) (hc : inR c) (hq : inR q) : Both (f_X7_years N 1 a c q) (f_X8_years N 2 a c q) := by
  refine Ask.both (fun b u R hb hG M W hC hM => ?_)
  have t3 : M 44 3 = (u 1 : Int) := hC.st.1
  have w9 := hM.2.1.1
  have h5 := hC.st.2.1
  by_cases h1 : 1 ≤ a ∧ a ≤ 60
  · by_cases h2 : 0 ≤ c
    · by_cases h3 : 0 ≤ q ∧ q ≤ 2
      · by_cases h4 : u 1 = 0
        · refine ⟨-103, M, W, ?_, ?_, by omega, FC.rf M, FM.rf W⟩
          · simp (disch := omega) only [f_X7_years, gd_t, if_neg, if_pos, c11, t3]
          · simp (disch := omega) only [f_X8_years, in_s, bnd_s, gd_t, if_neg, if_pos, reduceIte, w9]
        · obtain ⟨Y, rfl⟩ : ∃ Y : Nat, a = (Y : Int) := ⟨a.toNat, by omega⟩
          have hS0 : StOK (st M 51 0 c) 44 (R 1) (u 1) (R 2) (R 3) := hC.st.kept (st_ne _ _ _ _ (by decide)) (st_ne _ _ _ _ (by decide)) (st_ne _ _ _ _ (by decide)) (st_ne _ _ _ _ (by decide)) (st_ne _ _ _ _ (by decide))
          obtain ⟨M1, a1, a2, a3, a4⟩ := copyFrom_s (N := N) (M := st M 51 0 c) (show pairOK 48 44 from Or.inl ⟨rfl, rfl⟩)
          obtain ⟨W1, b1, b2, b3⟩ := asItIs_s (N := N) (by omega) hM.2.1
          have e1 : f_X7_years N 1 (Y : Int) c q M = f_X7_years_66 N 1 (Y : Int) c q N 0 0 M1 := by
            simp (disch := omega) only [f_X7_years, gd_t, if_neg, if_pos, c11, c15, c18, t3, a1, bnv_s]
          have e2 : f_X8_years N 2 (Y : Int) c q W = f_X8_years_56 N 2 (Y : Int) c q N 0 0 (st W1 2 19 c) := by
            simp (disch := omega) only [f_X8_years, in_s, bnd_s, gd_t, if_neg, if_pos, reduceIte, w9, b1, bnv_s]
          rw [e1, e2]
          refine years_lp (M0 := M) (W0 := W) (T := u 1) (K := R 2) (air := R 4 4) (q := q) (sd := c) (Y := Y) hN (by omega) (by omega) h3 hG.air Y 0 N N 0 c M1 (st W1 2 19 c) (R 1) (R 3) (by omega) (by omega) (by omega) (by omega) (by omega) h2 hc.2 (a2 _ _ _ _ hS0) ?_ ?_ ?_ ?_ ?_ ?_ ?_
          · rw [a4 51 (by decide) (by decide) (by decide) (by decide) (by decide), st_same]; simp
          · rw [a3 4 (by omega) (by omega), st_ne _ _ _ _ (by decide)]; exact hC.2.1.2 4 (by omega) (by omega)
          · exact fun x hx => by rw [a4 x (nsc hx (by decide)) (nsc hx (by decide)) (nsc hx (by decide)) (nsc hx (by decide)) (nsc hx (by decide)), st_ne _ _ _ _ (nsc hx (by decide))]
          · exact b2.kept (by simp [st_same]) (st_ne _ _ _ _ (by decide)) (st_ne _ _ _ _ (by decide)) (st_ne _ _ _ _ (by decide))
          · rw [st_same]; simp
          · rw [st_same]; simp; rw [b3 2 (by decide) (by decide)]; exact hM.2.2.1.1
          · exact (mf_2 b3).tr ⟨fun x h1 _ => st_ne _ _ _ _ h1, fun k h1 _ => by rw [st_same]; simp only [if_neg h1]⟩
      · refine ⟨-102, M, W, ?_, ?_, by omega, FC.rf M, FM.rf W⟩
        · by_cases h : q < 0
          · simp (disch := omega) only [f_X7_years, gd_t, if_neg, if_pos]
          · simp (disch := omega) only [f_X7_years, gd_t, if_neg, if_pos]
        · simp (disch := omega) only [f_X8_years, in_s, bnd_s, gd_t, if_neg, if_pos, reduceIte]
    · refine ⟨-102, M, W, ?_, ?_, by omega, FC.rf M, FM.rf W⟩
      · simp (disch := omega) only [f_X7_years, gd_t, if_neg, if_pos]
      · simp (disch := omega) only [f_X8_years, in_s, bnd_s, gd_t, if_neg, if_pos, reduceIte]
  · refine ⟨-102, M, W, ?_, ?_, by omega, FC.rf M, FM.rf W⟩
    · by_cases h : a < 1
      · simp (disch := omega) only [f_X7_years, gd_t, if_neg, if_pos]
      · simp (disch := omega) only [f_X7_years, gd_t, if_neg, if_pos]
    · simp (disch := omega) only [f_X8_years, in_s, bnd_s, gd_t, if_neg, if_pos, reduceIte]
