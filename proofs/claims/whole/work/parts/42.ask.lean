/-! the questions -/
theorem IC.st {u : Nat → Nat} {R : Nat → Row} {M : Mem} (h : IC u R M) : StOK M 44 (R 1) (u 1) (R 2) (R 3) := h.2.1.1
theorem IC.rf {u : Nat → Nat} {R : Nat → Row} {M : Mem} (h : IC u R M) : RoofOK M (ch 44 0) (R 1) (wsT (u 1) (R 2) (R 3)) := h.2.1.1.2.2.1
theorem knV_in {S L KP KD KS : Row} {n p : Nat} : inR (knV S L KP KD KS n p) := by
  have := bst_in (S := S) (L := L) (p := p) (b := psN S L KP KD KS n p 10) 10 (by omega)
  unfold knV
  split <;> omega
theorem tn_20 (t : Nat) : (2 * (t : Int) + 0).toNat = 2 * t := by omega
theorem ask_pl {N b p : Nat} {u : Nat → Nat} {R : Nat → Row} {q : Int} (hN : 200 ≤ N) (hG : GG b u R) (h7 : u 7 = 1) (hp : p < 6) (hq : 0 ≤ q ∧ q ≤ 5) : Ask u R (f_X7_place N 1 (p : Int) q) (f_X8_tellPlace N 2 (p : Int) q) := by
  intro M W hC hM
  have e7 := isPl7_y (N := N) (b := b) (v := (p : Int)) hC h7 (by omega)
  have hS := hC.st
  have hR := hC.rf
  obtain ⟨s1, s2, s3⟩ := hR.1 p hp
  obtain ⟨l1, l2, l3⟩ := hR.2 p hp
  have hD := hM.2.1
  obtain ⟨d1, -, -⟩ := hD.2.2.1 p hp
  rcases (show q = 0 ∨ q = 1 ∨ q = 2 ∨ q = 3 ∨ q = 4 ∨ q = 5 by omega) with rfl | rfl | rfl | rfl | rfl | rfl
  · refine ⟨R 1 p, M, W, ?_, ?_, by omega, FC.rf M, FM.rf W⟩
    · simp (disch := omega) only [f_X7_place, e7, bnd_s, gd_t, if_neg, if_pos, reduceIte, c11, tn_c, s1]
    · simp (disch := omega) only [f_X8_tellPlace, bnd_s, gd_t, if_neg, if_pos, reduceIte, tn_c, d1]
  · obtain ⟨W1, a1, a2, a3⟩ := asItIs_s (N := N) (by omega) hD
    refine ⟨wsT (u 1) (R 2) (R 3) p, M, W1, ?_, ?_, by omega, FC.rf M, mf_2 a3⟩
    · simp (disch := omega) only [f_X7_place, e7, bnd_s, gd_t, if_neg, if_pos, reduceIte, c11, tn_c, l1]
    · simp (disch := omega) only [f_X8_tellPlace, bnd_s, bnv_s, gd_t, if_neg, if_pos, reduceIte, a1, weightIn_s _ a2 hp]
  · have hl := dwN_lt (R 3) (p : Int) (u 1)
    have hl2 := p2_5 hS.2.1
    refine ⟨(dwN (R 3) (p : Int) (u 1) : Int), M, W, ?_, ?_, by omega, FC.rf M, FM.rf W⟩
    · simp (disch := omega) only [f_X7_place, e7, bnd_s, gd_t, if_neg, if_pos, reduceIte, c11, dwellers_s _ hS]
    · simp (disch := omega) only [f_X8_tellPlace, bnd_s, bnv_s, gd_t, if_neg, if_pos, reduceIte, whoIn_s _ hD]
  · obtain ⟨W1, a1, a2, a3⟩ := asItIs_s (N := N) (by omega) hD
    have dd : W1 (ch 2 8) p = R 1 p := by rw [a3 _ (by decide) (by decide)]; exact d1
    have hll := lossR_in (S := R 1) (L := wsT (u 1) (R 2) (R 3)) (p := p) ⟨l2, l3⟩
    have hb := bes_01 (R 1) p
    have hle := lessOf_s (N := N) (by omega) a2 al_12 a2.2.2.1 hp
    refine ⟨if R 1 p < lossR (R 1) (wsT (u 1) (R 2) (R 3)) p then R 1 p else lossR (R 1) (wsT (u 1) (R 2) (R 3)) p, M, W1, ?_, ?_, by split <;> omega, FC.rf M, mf_2 a3⟩
    · simp (disch := omega) only [f_X7_place, e7, bnd_s, gd_t, if_neg, if_pos, reduceIte, c11, tn_c, lossAt_s hR hp, s1, min_s]
    · by_cases c : wsT (u 1) (R 2) (R 3) p + bes (R 1) p ≤ R 1 p
      · simp (disch := omega) only [f_X8_tellPlace, bnd_s, bnv_s, gd_t, if_neg, if_pos, reduceIte, a1, hle, tn_c, dd]
        congr 2
        by_cases z : R 1 p = 0
        · have : lossR (R 1) (wsT (u 1) (R 2) (R 3)) p = 0 := by unfold lossR; rw [if_pos z]
          rw [this, if_neg (by omega)]; omega
        · have : lossR (R 1) (wsT (u 1) (R 2) (R 3)) p = wsT (u 1) (R 2) (R 3) p + bes (R 1) p := by unfold lossR; rw [if_neg z]
          rw [this, if_neg (by omega)]
      · simp (disch := omega) only [f_X8_tellPlace, bnd_s, bnv_s, gd_t, if_neg, if_pos, reduceIte, a1, hle, tn_c, dd]
        congr 2
        by_cases z : R 1 p = 0
        · have : lossR (R 1) (wsT (u 1) (R 2) (R 3)) p = 0 := by unfold lossR; rw [if_pos z]
          rw [this, if_neg (by omega)]; omega
        · have : lossR (R 1) (wsT (u 1) (R 2) (R 3)) p = wsT (u 1) (R 2) (R 3) p + bes (R 1) p := by unfold lossR; rw [if_neg z]
          rw [this, if_pos (by omega)]
  · obtain ⟨M1, G, g1, g2, g3, g4, g5⟩ := sound_s (N := N) (by omega) hR hC.2.2.1 hp
    obtain ⟨W1, a1, a2⟩ := strongOf_s (N := N) (by omega) hD hM.2.2.2.1 hp
    have hl := psN_lt (R 1) (wsT (u 1) (R 2) (R 3)) (R 5) (R 6) (R 7) (u 2) p 10
    refine ⟨(psN (R 1) (wsT (u 1) (R 2) (R 3)) (R 5) (R 6) (R 7) (u 2) p 10 : Int), M1, W1, ?_, ?_, by omega, g2.fc, a2.fm⟩
    · simp (disch := omega) only [f_X7_place, e7, bnd_s, bnv_s, gd_t, if_neg, if_pos, reduceIte, c11, c12, c17, g1, g3]
    · simp (disch := omega) only [f_X8_tellPlace, bnd_s, bnv_s, gd_t, if_neg, if_pos, reduceIte, a1]
  · obtain ⟨M1, G, g1, g2, g3, g4, g5⟩ := sound_s (N := N) (by omega) hR hC.2.2.1 hp
    obtain ⟨W1, a1, a2⟩ := knockOf_s (N := N) (by omega) hD hM.2.2.2.1 hp
    have hl := psN_lt (R 1) (wsT (u 1) (R 2) (R 3)) (R 5) (R 6) (R 7) (u 2) p 10
    refine ⟨knV (R 1) (wsT (u 1) (R 2) (R 3)) (R 5) (R 6) (R 7) (u 2) p, M1, W1, ?_, ?_, knV_in, g2.fc, a2.fm⟩
    · have hbd := bestDay_s (N := N) (by omega) (show _ < 1024 from hl) g3 g4 g5
      simp (disch := omega) only [f_X7_place, e7, bnd_s, bnv_s, gd_t, if_neg, if_pos, reduceIte, c11, c12, c17, g1, hbd]
      rfl
    · simp (disch := omega) only [f_X8_tellPlace, bnd_s, bnv_s, gd_t, if_neg, if_pos, reduceIte, a1]
theorem op_place {N : Nat} {a c : Int} (hN : 200 ≤ N) (ha : inR a) (hc : inR c) : Both (f_X7_place N 1 a c) (f_X8_place N 2 a c) := by
  refine Ask.both (fun b u R hb hG M W hC hM => ?_)
  by_cases hp : u 7 = 1 ∧ 0 ≤ a ∧ a ≤ 5
  · obtain ⟨p, rfl⟩ : ∃ p : Nat, a = (p : Int) := ⟨a.toNat, by omega⟩
    have e7 := isPl7_y (N := N) (b := b) (v := (p : Int)) hC hp.1 (by omega)
    have e8 := isPl8_y (N := N) (v := (p : Int)) hG hM hp.1 (by omega)
    by_cases hq : 0 ≤ c ∧ c ≤ 5
    · obtain ⟨r, M', W', h1, h2, h3⟩ := ask_pl (N := N) (p := p) (q := c) hN hG hp.1 (by omega) hq M W hC hM
      exact ⟨r, M', W', h1, by simp (disch := omega) only [f_X8_place, e8, bnd_s, gd_t, if_neg, reduceIte, h2], h3⟩
    · refine ⟨-102, M, W, ?_, ?_, by omega, FC.rf M, FM.rf W⟩
      · simp (disch := omega) only [f_X7_place, e7, bnd_s, gd_t, if_neg, if_pos, reduceIte]
      · simp (disch := omega) only [f_X8_place, f_X8_tellPlace, e8, bnd_s, gd_t, if_neg, if_pos, reduceIte]
  · refine ⟨-101, M, W, ?_, ?_, by omega, FC.rf M, FM.rf W⟩
    · simp (disch := omega) only [f_X7_place, isPl7_n hG hC ha hp, bnd_s, gd_t, if_pos, reduceIte]
    · simp (disch := omega) only [f_X8_place, isPl8_n hG hM ha hp, bnd_s, gd_t, if_pos, reduceIte]
/-! about -/
theorem GG.air {b : Nat} {u : Nat → Nat} {R : Nat → Row} (h : GG b u R) : 0 ≤ R 4 4 ∧ R 4 4 ≤ 9 := h.2.2.2.2.1.1
theorem gsp_lt {S : Row} {T : Nat} {K H : Row} {air : Int} (ha : 0 ≤ air ∧ air ≤ 9) : gsp S T K H air < 2 ^ T := (gsA_ok (S := S) (K := K) (H := H) (T := T) (s := (air, 0)) ⟨ha.1, ha.2, Nat.pos_of_ne_zero (by simp)⟩ 6).2.2
theorem tell4_s {N t : Nat} {u : Nat → Nat} {R : Nat → Row} {W : Mem} (hN : 200 ≤ N) (hM : IM u R W) (ht : t < u 1) : ∃ W', f_X8_tell N 2 (t : Int) 4 W = some (cutN (R 1) (R 3 t), W') ∧ FM W W' := by
  obtain ⟨W1, a1, a2, a3⟩ := asItIs_s (N := N) (by omega) hM.2.1
  refine ⟨W1, ?_, mf_2 a3⟩
  rcases cutN_01 (R 1) (R 3 t) with h0 | h0
  · simp (disch := omega) only [f_X8_tell, bnd_s, bnv_s, gd_t, if_neg, if_pos, reduceIte, a1, isCutOff8_s _ a2 ht, h0]
  · simp (disch := omega) only [f_X8_tell, bnd_s, bnv_s, gd_t, if_neg, if_pos, reduceIte, a1, isCutOff8_s _ a2 ht, h0]
theorem tell5_s {N t b : Nat} {u : Nat → Nat} {R : Nat → Row} {W : Mem} (hN : 200 ≤ N) (hG : GG b u R) (hM : IM u R W) (ht : t < u 1) : ∃ W', f_X8_tell N 2 (t : Int) 5 W = some (((gsp (R 1) (u 1) (R 2) (R 3) (R 4 4) / 2 ^ t % 2 : Nat) : Int), W') ∧ FM W W' := by
  obtain ⟨W1, a1, a2, a3⟩ := asItIs_s (N := N) (by omega) hM.2.1
  have h5 := hM.2.1.2.1
  have e2 : W1 2 2 = R 4 4 := by rw [a3 2 (by decide) (by decide)]; exact hM.2.2.1.1
  have hl := gsp_lt (S := R 1) (T := u 1) (K := R 2) (H := R 3) hG.air
  have hl2 := p2_5 h5
  refine ⟨W1, ?_, mf_2 a3⟩
  simp (disch := omega) only [f_X8_tell, bnd_s, bnv_s, gd_t, if_neg, if_pos, reduceIte, a1, gasping_s _ a2 e2 hG.air, bit_of]
theorem ask_ab {N b t : Nat} {u : Nat → Nat} {R : Nat → Row} {q : Int} (hN : 200 ≤ N) (hG : GG b u R) (ht : t < u 1) (hq : 0 ≤ q ∧ q ≤ 5) : Ask u R (f_X7_about N 1 (t : Int) q) (f_X8_tell N 2 (t : Int) q) := by
  intro M W hC hM
  have e7 := isTe7_y (N := N) (v := (t : Int)) hC (by omega)
  have hS := hC.st
  have h5 := hS.2.1
  obtain ⟨⟨k1, k2, k3⟩, k4, k5, k6⟩ := hS.2.2.2 t ht
  have hD := hM.2.1
  obtain ⟨W1, a1, a2, a3⟩ := asItIs_s (N := N) (by omega) hD
  obtain ⟨⟨d1, -, -⟩, d2, -⟩ := hD.2.2.2 t ht
  have d1 : W1 (ch 2 10) (2 * t) = R 2 t := by rw [a3 _ (by decide) (by decide)]; exact d1
  have d2 : W1 (ch 2 10) (2 * t + 1) = R 3 t := by rw [a3 _ (by decide) (by decide)]; exact d2
  have hw := wts_in (R 2 t)
  have hbr := brs_in (R 2 t)
  rcases (show q = 0 ∨ q = 1 ∨ q = 2 ∨ q = 3 ∨ q = 4 ∨ q = 5 by omega) with rfl | rfl | rfl | rfl | rfl | rfl
  · refine ⟨R 2 t, M, W1, ?_, ?_, by omega, FC.rf M, mf_2 a3⟩
    · simp (disch := omega) only [f_X7_about, e7, bnd_s, gd_t, if_neg, if_pos, reduceIte, c11, tn_c, k1]
    · simp (disch := omega) only [f_X8_tell, a1, bnv_s, bnd_s, gd_t, if_neg, if_pos, reduceIte, tn_20, d1]
  · refine ⟨R 3 t, M, W1, ?_, ?_, by omega, FC.rf M, mf_2 a3⟩
    · simp (disch := omega) only [f_X7_about, e7, bnd_s, gd_t, if_neg, if_pos, reduceIte, c11, tn_c, k4]
    · simp (disch := omega) only [f_X8_tell, a1, bnv_s, bnd_s, gd_t, if_neg, if_pos, reduceIte, tn_21, d2]
  · refine ⟨wts (R 2 t), M, W1, ?_, ?_, by omega, FC.rf M, mf_2 a3⟩
    · simp (disch := omega) only [f_X7_about, e7, bnd_s, gd_t, if_neg, if_pos, reduceIte, c11, weightOf_s hS ht]
    · simp (disch := omega) only [f_X8_tell, a1, bnv_s, bnd_s, gd_t, if_neg, if_pos, reduceIte, tn_2, d1, weightBy_s ⟨k2, k3⟩]
  · refine ⟨brs (R 2 t), M, W1, ?_, ?_, by omega, FC.rf M, mf_2 a3⟩
    · simp (disch := omega) only [f_X7_about, e7, bnd_s, gd_t, if_neg, if_pos, reduceIte, c11, breathOf_s hS ht]
    · simp (disch := omega) only [f_X8_tell, a1, bnv_s, bnd_s, gd_t, if_neg, if_pos, reduceIte, tn_2, d1, breathBy_s ⟨k2, k3⟩]
  · obtain ⟨W2, g1, g2⟩ := tell4_s hN hM ht
    have h01 := cutN_01 (R 1) (R 3 t)
    refine ⟨cutN (R 1) (R 3 t), M, W2, ?_, g1, by omega, FC.rf M, g2⟩
    rcases h01 with h0 | h0
    · simp (disch := omega) only [f_X7_about, e7, bnd_s, gd_t, if_neg, if_pos, reduceIte, c11, isCutOff_s _ hS ht, h0]
    · simp (disch := omega) only [f_X7_about, e7, bnd_s, gd_t, if_neg, if_pos, reduceIte, c11, isCutOff_s _ hS ht, h0]
  · obtain ⟨W2, g1, g2⟩ := tell5_s hN hG hM ht
    have hl := gsp_lt (S := R 1) (T := u 1) (K := R 2) (H := R 3) hG.air
    have hl2 := p2_5 h5
    have hm : gsp (R 1) (u 1) (R 2) (R 3) (R 4 4) / 2 ^ t % 2 < 2 := Nat.mod_lt _ (by decide)
    refine ⟨((gsp (R 1) (u 1) (R 2) (R 3) (R 4 4) / 2 ^ t % 2 : Nat) : Int), M, W2, ?_, g1, by omega, FC.rf M, g2⟩
    simp (disch := omega) only [f_X7_about, e7, bnd_s, gd_t, if_neg, if_pos, reduceIte, c11, gaspers_s _ hS (hC.2.1.2 4 (by omega) (by omega)) hG.air, bit_of]
theorem op_about {N : Nat} {a c : Int} (hN : 200 ≤ N) (ha : inR a) (hc : inR c) : Both (f_X7_about N 1 a c) (f_X8_about N 2 a c) := by
  refine Ask.both (fun b u R hb hG M W hC hM => ?_)
  by_cases hp : 0 ≤ a ∧ a < (u 1 : Int)
  · obtain ⟨t, rfl⟩ : ∃ p : Nat, a = (p : Int) := ⟨a.toNat, by omega⟩
    have e7 := isTe7_y (N := N) hC hp
    have e8 := isTe8_y (N := N) hM hp
    by_cases hq : 0 ≤ c ∧ c ≤ 5
    · obtain ⟨r, M', W', h1, h2, h3⟩ := ask_ab (N := N) (t := t) (q := c) hN hG (by omega) hq M W hC hM
      exact ⟨r, M', W', h1, by simp (disch := omega) only [f_X8_about, e8, bnd_s, gd_t, if_neg, reduceIte, h2], h3⟩
    · obtain ⟨W1, a1, a2, a3⟩ := asItIs_s (N := N) (by omega) hM.2.1
      refine ⟨-102, M, W1, ?_, ?_, by omega, FC.rf M, mf_2 a3⟩
      · simp (disch := omega) only [f_X7_about, e7, bnd_s, gd_t, if_neg, if_pos, reduceIte]
      · simp (disch := omega) only [f_X8_about, f_X8_tell, e8, a1, bnv_s, bnd_s, gd_t, if_neg, if_pos, reduceIte]
  · refine ⟨-101, M, W, ?_, ?_, by omega, FC.rf M, FM.rf W⟩
    · simp (disch := omega) only [f_X7_about, isTe7_n hC ha hp, bnd_s, gd_t, if_pos, reduceIte]
    · simp (disch := omega) only [f_X8_about, isTe8_n hM ha hp, bnd_s, gd_t, if_pos, reduceIte]
theorem isKind_n {N : Nat} {M : Mem} {k : Int} (hi : inR k) (h : ¬ (0 ≤ k ∧ k ≤ 4)) : f_X7_isKind N k M = some (0, M) := by
  by_cases c : k < 0
  · simp (disch := omega) only [f_X7_isKind, gd_t, if_pos, reduceIte]
  · simp (disch := omega) only [f_X7_isKind, gd_t, if_neg, if_pos, reduceIte]
theorem op_as {N : Nat} {a c : Int} (ha : inR a) (hc : inR c) : Both (f_X7_as N 1 a c) (f_X8_as N 2 a c) := by
  refine Ask.both (fun b u R hb hG M W hC hM => ?_)
  by_cases hp : 0 ≤ a ∧ a < (u 1 : Int)
  · obtain ⟨t, rfl⟩ : ∃ p : Nat, a = (p : Int) := ⟨a.toNat, by omega⟩
    have ht : t < u 1 := by omega
    have e7 := isTe7_y (N := N) hC hp
    have e8 := isTe8_y (N := N) hM hp
    have h5 := hC.st.2.1
    obtain ⟨⟨k1, k2, k3⟩, k4, k5, k6⟩ := hC.st.2.2.2 t ht
    obtain ⟨⟨d1, -, -⟩, d2, -⟩ := hM.2.1.2.2.2 t ht
    by_cases hq : 0 ≤ c ∧ c ≤ 4
    · have ek := isKind_s (N := N) (M := M) hq
      by_cases c1 : c = 0
      · refine ⟨(t : Int), M, W, ?_, ?_, by omega, FC.rf M, FM.rf W⟩
        · simp (disch := omega) only [f_X7_as, f_X7_isSuch, e7, ek, bnd_s, gd_t, if_neg, if_pos, reduceIte, c11, tn_c, k1]
        · simp (disch := omega) only [f_X8_as, f_X8_as_59, e8, in_s, bnd_s, gd_t, if_neg, if_pos, reduceIte]
      · by_cases c2 : R 2 t = c
        · refine ⟨(t : Int), M, W, ?_, ?_, by omega, FC.rf M, FM.rf W⟩
          · simp (disch := omega) only [f_X7_as, f_X7_isSuch, e7, ek, bnd_s, gd_t, if_neg, if_pos, reduceIte, c11, tn_c, k1]
          · simp (disch := omega) only [f_X8_as, f_X8_as_59, e8, in_s, bnd_s, gd_t, if_neg, if_pos, reduceIte, tn_2, d1]
        · by_cases c3 : c = 1
          · by_cases c4 : R 2 t = 4
            · refine ⟨(t : Int), M, W, ?_, ?_, by omega, FC.rf M, FM.rf W⟩
              · simp (disch := omega) only [f_X7_as, f_X7_isSuch, e7, ek, bnd_s, gd_t, if_neg, if_pos, reduceIte, c11, tn_c, k1]
              · simp (disch := omega) only [f_X8_as, f_X8_as_59, e8, in_s, bnd_s, gd_t, if_neg, if_pos, reduceIte, tn_2, d1]
            · refine ⟨-1, M, W, ?_, ?_, by omega, FC.rf M, FM.rf W⟩
              · simp (disch := omega) only [f_X7_as, f_X7_isSuch, e7, ek, bnd_s, gd_t, if_neg, if_pos, reduceIte, c11, tn_c, k1]
              · simp (disch := omega) only [f_X8_as, f_X8_as_58, f_X8_as_59, e8, in_s, bnd_s, gd_t, if_neg, if_pos, reduceIte, tn_2, d1]
          · by_cases c4 : R 2 t = 4
            · refine ⟨-1, M, W, ?_, ?_, by omega, FC.rf M, FM.rf W⟩
              · simp (disch := omega) only [f_X7_as, f_X7_isSuch, e7, ek, bnd_s, gd_t, if_neg, if_pos, reduceIte, c11, tn_c, k1]
              · simp (disch := omega) only [f_X8_as, f_X8_as_58, f_X8_as_59, e8, in_s, bnd_s, gd_t, if_neg, if_pos, reduceIte, tn_2, d1]
            · refine ⟨-1, M, W, ?_, ?_, by omega, FC.rf M, FM.rf W⟩
              · simp (disch := omega) only [f_X7_as, f_X7_isSuch, e7, ek, bnd_s, gd_t, if_neg, if_pos, reduceIte, c11, tn_c, k1]
              · simp (disch := omega) only [f_X8_as, f_X8_as_58, f_X8_as_59, e8, in_s, bnd_s, gd_t, if_neg, if_pos, reduceIte, tn_2, d1]
    · refine ⟨-102, M, W, ?_, ?_, by omega, FC.rf M, FM.rf W⟩
      · simp (disch := omega) only [f_X7_as, e7, isKind_n hc hq, bnd_s, gd_t, if_neg, if_pos, reduceIte]
      · simp (disch := omega) only [f_X8_as, e8, in_s, bnd_s, gd_t, if_neg, if_pos, reduceIte]
  · refine ⟨-101, M, W, ?_, ?_, by omega, FC.rf M, FM.rf W⟩
    · simp (disch := omega) only [f_X7_as, isTe7_n hC ha hp, bnd_s, gd_t, if_pos, reduceIte]
    · simp (disch := omega) only [f_X8_as, isTe8_n hM ha hp, bnd_s, gd_t, if_pos, reduceIte]
