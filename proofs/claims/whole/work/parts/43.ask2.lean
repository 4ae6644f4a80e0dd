/-! holds, props, out, count -/
theorem has7 {u : Nat → Nat} {R : Nat → Row} {M : Mem} (hC : IC u R M) : M 1 9 = (u 7 : Int) := hC.2.2.2.2.1
theorem ff_in {b : Nat} {u : Nat → Nat} {R : Nat → Row} {M : Mem} (hC : IC u R M) : 1 ≤ ffS (R 1) (wsT (u 1) (R 2) (R 3)) ∧ ffS (R 1) (wsT (u 1) (R 2) (R 3)) ≤ 41 :=
  ffTo_in (fun p hp => (hC.rf.1 p hp).2.1) (fun p hp => (hC.rf.2 p hp).2) 6 (Nat.le_refl 6)
theorem ask_ho {N b : Nat} {u : Nat → Nat} {R : Nat → Row} (hN : 200 ≤ N) (hG : GG b u R) (h7 : u 7 = 1) : Ask u R (f_X7_holds N 1) (f_X8_holdsOf N 2) := by
  intro M W hC hM
  have e := has7 hC
  rw [h7] at e
  have hf := ff_in (b := b) hC
  obtain ⟨W1, a1, a2, a3⟩ := asItIs_s (N := N) (by omega) hM.2.1
  obtain ⟨W2, g1, g2⟩ := holdsThen_s (N := N) (by omega) a2
  have e1 := firstFall_s (N := N) (by omega) hC.rf
  refine ⟨if ffS (R 1) (wsT (u 1) (R 2) (R 3)) = 41 then -1 else ffS (R 1) (wsT (u 1) (R 2) (R 3)), M, W2, ?_, ?_, by split <;> omega, FC.rf M, (mf_2 a3).tr (mf_3 g2)⟩
  · by_cases c : ffS (R 1) (wsT (u 1) (R 2) (R 3)) = 41
    · simp (disch := omega) only [f_X7_holds, f_X7_orNone, e, bnd_s, gd_t, if_neg, if_pos, reduceIte, c11, e1]
    · simp (disch := omega) only [f_X7_holds, f_X7_orNone, e, bnd_s, gd_t, if_neg, if_pos, reduceIte, c11, e1]
  · by_cases c : ffS (R 1) (wsT (u 1) (R 2) (R 3)) = 41
    · simp (disch := omega) only [f_X8_holdsOf, a1, g1, bnv_s, bnd_s, gd_t, if_neg, if_pos, reduceIte]
    · simp (disch := omega) only [f_X8_holdsOf, a1, g1, bnv_s, bnd_s, gd_t, if_neg, if_pos, reduceIte]
theorem op_holds {N : Nat} (hN : 200 ≤ N) : Both (f_X7_holds N 1) (f_X8_holds N 2) := by
  refine Ask.both (fun b u R hb hG M W hC hM => ?_)
  by_cases h7 : u 7 = 1
  · obtain ⟨r, M', W', h1, h2, h3⟩ := ask_ho hN hG h7 M W hC hM
    exact ⟨r, M', W', h1, by simp (disch := omega) only [f_X8_holds, lacks_y hG hM h7, bnd_s, gd_t, if_pos, reduceIte, h2], h3⟩
  · have e := has7 hC
    have := hG.1
    refine ⟨-103, M, W, ?_, ?_, by omega, FC.rf M, FM.rf W⟩
    · simp (disch := omega) only [f_X7_holds, gd_t, e, if_pos]
    · simp (disch := omega) only [f_X8_holds, lacks_n hG hM h7, bnd_s, gd_t, if_neg]
theorem noNone_t {S L : Row} {d : Int} : ∀ n, noNone S L d n = true → ∀ k, k < n → propAt S L d k ≠ -1
  | 0, _, k, hk => by omega
  | n + 1, h, k, hk => by
    have h' : (noNone S L d n && decide (propAt S L d n ≠ -1)) = true := h
    rw [Bool.and_eq_true] at h'
    rcases (show k < n ∨ k = n by omega) with q | rfl
    · exact noNone_t n h'.1 k q
    · exact of_decide_eq_true h'.2
theorem ask_pr {N b : Nat} {u : Nat → Nat} {R : Nat → Row} {d w : Int} (hN : 200 ≤ N) (hG : GG b u R) (h7 : u 7 = 1) (hd : 1 ≤ d ∧ d ≤ 20) (hw : w = 0 ∨ (10 ≤ w ∧ w ≤ 15)) : Ask u R (f_X7_props N 1 d w) (f_X8_propsOf N 2 d w) := by
  intro M W hC hM
  have e := has7 hC
  rw [h7] at e
  have hR := hC.rf
  obtain ⟨W1, a1, a2⟩ := propsOf_s (N := N) hN hM.2.1 hd hw
  have hin : ∀ p, p < 6 → -1 ≤ propAt (R 1) (wsT (u 1) (R 2) (R 3)) d p ∧ propAt (R 1) (wsT (u 1) (R 2) (R 3)) d p ≤ 200 := fun p hp => propAt_in (hR.1 p hp).2 (hR.2 p hp).2 hd
  have hsum := sumTo_in (f := propAt (R 1) (wsT (u 1) (R 2) (R 3)) d) 6 hin
  have e1 := propsNeeded_s (N := N) (by omega) hR hd
  have hwv : inR (propW (R 1) (wsT (u 1) (R 2) (R 3)) d w) := by
    unfold propW
    split
    · split
      · omega
      · have := hin (w - 10).toNat (by omega)
        omega
    · omega
  refine ⟨propW (R 1) (wsT (u 1) (R 2) (R 3)) d w, M, W1, ?_, a1, hwv, FC.rf M, mf_2 a2⟩
  unfold propAll at e1
  unfold propW
  by_cases c : noNone (R 1) (wsT (u 1) (R 2) (R 3)) d 6 = true
  · rw [if_pos c] at e1
    rw [if_pos c]
    have hge := (sumTo_in (f := propAt (R 1) (wsT (u 1) (R 2) (R 3)) d) (a := 0) (b := 200) 6 (fun i hi => by have := hin i hi; have := noNone_t 6 c i hi; omega))
    rcases hw with rfl | hw
    · simp (disch := omega) only [f_X7_props, f_X7_props_21, f_X7_props_22, f_X7_props_47, e, bnd_s, gd_t, if_neg, if_pos, reduceIte, c11, e1]
    · obtain ⟨p, hp⟩ : ∃ p : Nat, (p : Int) = w - 10 := ⟨(w - 10).toNat, by omega⟩
      have e2 := propsNeededAt_s (N := N) hR hd (show p < 6 by omega)
      rw [hp] at e2
      have e3 : (w - 10).toNat = p := by omega
      rw [if_neg (show ¬ w = 0 by omega), e3]
      simp (disch := omega) only [f_X7_props, f_X7_props_21, f_X7_props_22, f_X7_props_47, e, bnd_s, gd_t, if_neg, if_pos, reduceIte, c11, e1, e2]
  · rw [if_neg c] at e1
    rw [if_neg c]
    rcases hw with rfl | hw
    · simp (disch := omega) only [f_X7_props, f_X7_props_21, f_X7_props_22, f_X7_props_47, e, bnd_s, gd_t, if_neg, if_pos, reduceIte, c11, e1]
    · simp (disch := omega) only [f_X7_props, f_X7_props_21, f_X7_props_22, f_X7_props_47, e, bnd_s, gd_t, if_neg, if_pos, reduceIte, c11, e1]
theorem op_props {N : Nat} {d w : Int} (hN : 200 ≤ N) (ha : inR d) (hc : inR w) : Both (f_X7_props N 1 d w) (f_X8_props N 2 d w) := by
  refine Ask.both (fun b u R hb hG M W hC hM => ?_)
  have e := has7 hC
  have h1 := hG.1
  by_cases hd : 1 ≤ d ∧ d ≤ 20
  · by_cases hw : w = 0 ∨ (10 ≤ w ∧ w ≤ 15)
    · by_cases h7 : u 7 = 1
      · obtain ⟨r, M', W', h1, h2, h3⟩ := ask_pr hN hG h7 hd hw M W hC hM
        refine ⟨r, M', W', h1, ?_, h3⟩
        by_cases w0 : w = 0
        · simp (disch := omega) only [f_X8_props, f_X8_props_33, in_s, lacks_y hG hM h7, bnd_s, gd_t, if_neg, if_pos, reduceIte, h2]
        · simp (disch := omega) only [f_X8_props, f_X8_props_33, in_s, lacks_y hG hM h7, bnd_s, gd_t, if_neg, if_pos, reduceIte, h2]
      · have e : M 1 9 = 0 := by omega
        refine ⟨-103, M, W, ?_, ?_, by omega, FC.rf M, FM.rf W⟩
        · by_cases w0 : w = 0
          · simp (disch := omega) only [f_X7_props, f_X7_props_21, f_X7_props_22, f_X7_props_47, e, bnd_s, gd_t, if_neg, if_pos, reduceIte]
          · simp (disch := omega) only [f_X7_props, f_X7_props_21, f_X7_props_22, f_X7_props_47, e, bnd_s, gd_t, if_neg, if_pos, reduceIte]
        · by_cases w0 : w = 0
          · simp (disch := omega) only [f_X8_props, f_X8_props_33, in_s, lacks_n hG hM h7, bnd_s, gd_t, if_neg, if_pos, reduceIte]
          · simp (disch := omega) only [f_X8_props, f_X8_props_33, in_s, lacks_n hG hM h7, bnd_s, gd_t, if_neg, if_pos, reduceIte]
    · refine ⟨-102, M, W, ?_, ?_, by omega, FC.rf M, FM.rf W⟩
      · by_cases w0 : w < 10
        · simp (disch := omega) only [f_X7_props, f_X7_props_21, f_X7_props_22, gd_t, if_neg, if_pos, reduceIte]
        · simp (disch := omega) only [f_X7_props, f_X7_props_21, f_X7_props_22, gd_t, if_neg, if_pos, reduceIte]
      · simp (disch := omega) only [f_X8_props, in_s, bnd_s, gd_t, if_neg, if_pos, reduceIte]
  · refine ⟨-102, M, W, ?_, ?_, by omega, FC.rf M, FM.rf W⟩
    · have e22 : ∀ s0, f_X7_props_22 N 1 d w (w - 10) s0 M = some (-102, M) := fun s0 => by
        by_cases c : d < 1
        · simp (disch := omega) only [f_X7_props_22, gd_t, if_neg, if_pos, reduceIte]
        · simp (disch := omega) only [f_X7_props_22, gd_t, if_neg, if_pos, reduceIte]
      by_cases w0 : w < 10
      · simp (disch := omega) only [f_X7_props, f_X7_props_21, e22, gd_t, if_neg, if_pos, reduceIte]
      · by_cases w1 : w - 10 < 6
        · simp (disch := omega) only [f_X7_props, f_X7_props_21, e22, gd_t, if_neg, if_pos, reduceIte]
        · simp (disch := omega) only [f_X7_props, f_X7_props_21, e22, gd_t, if_neg, if_pos, reduceIte]
    · simp (disch := omega) only [f_X8_props, in_s, bnd_s, gd_t, if_neg, if_pos, reduceIte]
theorem outS_in {cm : Int → Int} {cg : Int} : ∀ (j : Nat) (b w m : Int), m ≤ outS cm cg j b w m ∧ outS cm cg j b w m ≤ m + (j : Int)
  | 0, b, w, m => by unfold outS; omega
  | j + 1, b, w, m => by
    unfold outS
    have ih := outS_in (cm := cm) (cg := cg) j (b - (if cg < w then cg else w)) (w - (if cg < w then cg else w) + cm (m + 1)) (m + 1)
    by_cases c : b ≤ 0
    · rw [if_pos c]; omega
    · rw [if_neg c]; omega
theorem ask_ou {N b : Nat} {u : Nat → Nat} {R : Nat → Row} (hN : 200 ≤ N) (hG : GG b u R) (h7 : u 7 = 1) : Ask u R (f_X7_out N 1) (f_X8_outOf N 2) := by
  intro M W hC hM
  have e := has7 hC
  rw [h7] at e
  have hc1 := hG.2.2.2.2.1.2.1
  have hc2 : R 4 5 ≠ 0 := fun q => by have := hG.2.2.2.2.2.1.mp q; omega
  obtain ⟨W1, a1, a2⟩ := outOf_s (N := N) (by omega) hM.2.1 hM.2.2.1.2.1 ⟨by omega, hc1.2⟩
  have e1 := minutesOut_s (N := N) (by omega) hC.st (hC.2.1.2 5 (by omega) (by omega)) hc1
  have ho := outS_in (cm := cmr (R 1) (u 1) (R 3)) (cg := R 4 5) 11 (((u 1 : Nat) : Int) - cutC (R 1) (u 1) (R 3)) 0 0
  refine ⟨outV (R 1) (u 1) (R 3) (R 4 5), M, W1, ?_, a1, by unfold outV; omega, FC.rf M, mf_2 a2⟩
  simp (disch := omega) only [f_X7_out, e, bnd_s, gd_t, if_neg, if_pos, reduceIte, c11, e1]
theorem op_out {N : Nat} (hN : 200 ≤ N) : Both (f_X7_out N 1) (f_X8_out N 2) := by
  refine Ask.both (fun b u R hb hG M W hC hM => ?_)
  by_cases h7 : u 7 = 1
  · obtain ⟨r, M', W', h1, h2, h3⟩ := ask_ou hN hG h7 M W hC hM
    exact ⟨r, M', W', h1, by simp (disch := omega) only [f_X8_out, lacks_y hG hM h7, bnd_s, gd_t, if_pos, reduceIte, h2], h3⟩
  · have e := has7 hC
    have := hG.1
    refine ⟨-103, M, W, ?_, ?_, by omega, FC.rf M, FM.rf W⟩
    · simp (disch := omega) only [f_X7_out, gd_t, e, if_pos]
    · simp (disch := omega) only [f_X8_out, lacks_n hG hM h7, bnd_s, gd_t, if_neg]
theorem bsum_stop {b T : Nat} (h : b < 2 ^ T) : ∀ j, bsum b (T + j) = bsum b T
  | 0 => rfl
  | j + 1 => by
    show bsum b (T + j) + ((b / 2 ^ (T + j) % 2 : Nat) : Int) = _
    have : 2 ^ T ≤ 2 ^ (T + j) := Nat.pow_le_pow_right (by decide) (by omega)
    rw [bsum_stop h j, Nat.div_eq_of_lt (by omega)]
    simp
theorem bsum_T {b T : Nat} (hT : T ≤ 5) (h : b < 2 ^ T) : bsum b T = ((popc b : Nat) : Int) := by
  rw [← bsum_10, show (10 : Nat) = T + (10 - T) by omega, bsum_stop h]
theorem sumBy4_s {N : Nat} {u : Nat → Nat} {R : Nat → Row} {W : Mem} (hN : 200 ≤ N) (hM : IM u R W) : ∃ W', f_X8_sumBy N 2 4 W = some (cutC (R 1) (u 1) (R 3), W') ∧ FM W W' := by
  have h5 := hM.2.1.2.1
  obtain ⟨⟨v, W1⟩, ⟨i1, i2⟩, he⟩ := lp_eq (fun n k (s : Int × Mem) => f_X8_sumBy_4 N 2 4 n s.1 k s.2) (fun s => some s) (fun k s => s.1 = sumTo (fun t => cutN (R 1) (R 3 t)) k ∧ FM W s.2) (u 1)
    (fun n k s hk hs => by
      obtain ⟨v, m⟩ := s
      obtain ⟨s1, s2⟩ := hs
      dsimp only at s1 s2
      have hm := hM.fm s2
      obtain ⟨m1, g1, g2⟩ := tell4_s (N := N) hN hm hk
      have e9 := hm.2.1.1
      refine ⟨(v + cutN (R 1) (R 3 k), m1), ⟨by dsimp only; rw [s1]; rfl, s2.tr g2⟩, ?_⟩
      simp (disch := omega) only [f_X8_sumBy_4, gd_t, e9, if_neg, g1, bnd_s])
    (fun n s hs => by
      have e9 := (hM.fm hs.2).2.1.1
      simp (disch := omega) only [f_X8_sumBy_4, gd_t, e9, if_pos]) (u 1) 0 N (0, W) (by omega) (by omega) ⟨rfl, FM.rf W⟩
  refine ⟨W1, ?_, i2⟩
  unfold f_X8_sumBy cutC
  dsimp only at i1
  rw [← i1]
  exact he
theorem sumBy5_s {N b : Nat} {u : Nat → Nat} {R : Nat → Row} {W : Mem} (hN : 200 ≤ N) (hG : GG b u R) (hM : IM u R W) : ∃ W', f_X8_sumBy N 2 5 W = some (((popc (gsp (R 1) (u 1) (R 2) (R 3) (R 4 4)) : Nat) : Int), W') ∧ FM W W' := by
  have h5 := hM.2.1.2.1
  obtain ⟨⟨v, W1⟩, ⟨i1, i2⟩, he⟩ := lp_eq (fun n k (s : Int × Mem) => f_X8_sumBy_4 N 2 5 n s.1 k s.2) (fun s => some s) (fun k s => s.1 = bsum (gsp (R 1) (u 1) (R 2) (R 3) (R 4 4)) k ∧ FM W s.2) (u 1)
    (fun n k s hk hs => by
      obtain ⟨v, m⟩ := s
      obtain ⟨s1, s2⟩ := hs
      dsimp only at s1 s2
      have hm := hM.fm s2
      obtain ⟨m1, g1, g2⟩ := tell5_s (N := N) hN hG hm hk
      have e9 := hm.2.1.1
      refine ⟨(v + ((gsp (R 1) (u 1) (R 2) (R 3) (R 4 4) / 2 ^ k % 2 : Nat) : Int), m1), ⟨by dsimp only; rw [s1]; rfl, s2.tr g2⟩, ?_⟩
      simp (disch := omega) only [f_X8_sumBy_4, gd_t, e9, if_neg, g1, bnd_s])
    (fun n s hs => by
      have e9 := (hM.fm hs.2).2.1.1
      simp (disch := omega) only [f_X8_sumBy_4, gd_t, e9, if_pos]) (u 1) 0 N (0, W) (by omega) (by omega) ⟨rfl, FM.rf W⟩
  refine ⟨W1, ?_, i2⟩
  unfold f_X8_sumBy
  dsimp only at i1
  rw [← bsum_T h5 (gsp_lt hG.air), ← i1]
  exact he
theorem ask_ct {N b : Nat} {u : Nat → Nat} {R : Nat → Row} {c : Int} (hN : 200 ≤ N) (hb : b ≤ 1000) (hG : GG b u R) (hc : inR c) : Ask u R (f_X7_count N 1 c) (f_X8_countOf N 2 c) := by
  intro M W hC hM
  have hS := hC.st
  have h5 := hS.2.1
  have hC4 := hC.2.1.2
  have hG0 := hG
  obtain ⟨g1, g2, g3, g4, ⟨g5, g6, g7⟩, -⟩ := hG
  have q6 := g7 6 (by omega) (by omega)
  have q7 := g7 7 (by omega) (by omega)
  have q8 := g7 8 (by omega) (by omega)
  have hm := hM.2.2.1
  by_cases hq : 0 ≤ c ∧ c ≤ 12
  · rcases (show c = 0 ∨ c = 1 ∨ c = 2 ∨ c = 3 ∨ c = 4 ∨ c = 5 ∨ c = 6 ∨ c = 7 ∨ c = 8 ∨ c = 9 ∨ c = 10 ∨ c = 11 ∨ c = 12 by omega) with rfl | rfl | rfl | rfl | rfl | rfl | rfl | rfl | rfl | rfl | rfl | rfl | rfl
    · have hs := sumTo_in (f := fun p => if R 1 p = 0 then 0 else 1) (a := 0) (b := 1) 6 (fun i _ => by split <;> omega)
      refine ⟨cntS (R 1), M, W, ?_, ?_, by unfold cntS; omega, FC.rf M, FM.rf W⟩
      · simp (disch := omega) only [f_X7_count, gd_t, if_neg, if_pos, reduceIte, c11, standing_s _ hC.rf, bnd_s]
      · simp (disch := omega) only [f_X8_countOf, gd_t, if_neg, if_pos, reduceIte, standing8_s _ hM.2.1.2.2.1, bnd_s]
    · refine ⟨R 4 4, M, W, ?_, ?_, by omega, FC.rf M, FM.rf W⟩
      · simp (disch := omega) only [f_X7_count, gd_t, if_neg, if_pos, reduceIte, c11, hC4]
      · simp (disch := omega) only [f_X8_countOf, gd_t, if_neg, if_pos, reduceIte, hm.1]
    · refine ⟨R 4 5, M, W, ?_, ?_, by omega, FC.rf M, FM.rf W⟩
      · simp (disch := omega) only [f_X7_count, gd_t, if_neg, if_pos, reduceIte, c11, hC4]
      · simp (disch := omega) only [f_X8_countOf, gd_t, if_neg, if_pos, reduceIte, hm.2.1]
    · refine ⟨(u 1 : Int), M, W, ?_, ?_, by omega, FC.rf M, FM.rf W⟩
      · simp (disch := omega) only [f_X7_count, gd_t, if_neg, if_pos, reduceIte, c11, hS.1]
      · simp (disch := omega) only [f_X8_countOf, gd_t, if_neg, if_pos, reduceIte, hM.2.1.1]
    · obtain ⟨W1, a1, a2⟩ := sumBy4_s hN hM
      have hcc := cutC_in (S := R 1) (T := u 1) (R 3)
      refine ⟨cutC (R 1) (u 1) (R 3), M, W1, ?_, ?_, by omega, FC.rf M, a2⟩
      · simp (disch := omega) only [f_X7_count, gd_t, if_neg, if_pos, reduceIte, c11, cutOffs_s _ hS, bnd_s]
      · simp (disch := omega) only [f_X8_countOf, gd_t, if_neg, if_pos, reduceIte, a1, bnd_s]
    · have hG : GG b u R := hG0
      obtain ⟨W1, a1, a2⟩ := sumBy5_s hN hG hM
      have hpp := popc_in (gsp (R 1) (u 1) (R 2) (R 3) (R 4 4))
      have hl := gsp_lt (S := R 1) (T := u 1) (K := R 2) (H := R 3) hG.air
      have hl2 := p2_5 h5
      have e1 := gaspers_s (N := N) (by omega) hS (hC4 4 (by omega) (by omega)) hG.air
      have e2 := bitCount_s (N := N) (M := M) (show gsp (R 1) (u 1) (R 2) (R 3) (R 4 4) < 1024 by omega)
      refine ⟨((popc (gsp (R 1) (u 1) (R 2) (R 3) (R 4 4)) : Nat) : Int), M, W1, ?_, ?_, ?_, FC.rf M, a2⟩
      · simp (disch := omega) only [f_X7_count, gd_t, if_neg, if_pos, reduceIte, c11, e1, e2, bnd_s]
      · simp (disch := omega) only [f_X8_countOf, gd_t, if_neg, if_pos, reduceIte, a1, bnd_s]
      · omega
    · refine ⟨R 4 6, M, W, ?_, ?_, by omega, FC.rf M, FM.rf W⟩
      · simp (disch := omega) only [f_X7_count, gd_t, if_neg, if_pos, reduceIte, c11, hC4]
      · simp (disch := omega) only [f_X8_countOf, gd_t, if_neg, if_pos, reduceIte, hm.2.2.1]
    · refine ⟨R 4 7, M, W, ?_, ?_, by omega, FC.rf M, FM.rf W⟩
      · simp (disch := omega) only [f_X7_count, gd_t, if_neg, if_pos, reduceIte, c11, hC4]
      · simp (disch := omega) only [f_X8_countOf, gd_t, if_neg, if_pos, reduceIte, hm.2.2.2.1]
    · refine ⟨R 4 8, M, W, ?_, ?_, by omega, FC.rf M, FM.rf W⟩
      · simp (disch := omega) only [f_X7_count, gd_t, if_neg, if_pos, reduceIte, c11, hC4]
      · simp (disch := omega) only [f_X8_countOf, gd_t, if_neg, if_pos, reduceIte, hm.2.2.2.2]
    · have h8 := hC.2.2.1.2.1
      refine ⟨(u 2 : Int), M, W, ?_, ?_, by omega, FC.rf M, FM.rf W⟩
      · simp (disch := omega) only [f_X7_count, gd_t, if_neg, if_pos, reduceIte, c12, hC.2.2.1.1]
      · simp (disch := omega) only [f_X8_countOf, gd_t, if_neg, if_pos, reduceIte, hM.2.2.2.1.1]
    · have h8 := hC.1.2.1
      refine ⟨(u 0 : Int), M, W, ?_, ?_, by omega, FC.rf M, FM.rf W⟩
      · simp (disch := omega) only [f_X7_count, gd_t, if_neg, if_pos, reduceIte, c10, hC.1.1]
      · simp (disch := omega) only [f_X8_countOf, gd_t, if_neg, if_pos, reduceIte, hM.1.1]
    · refine ⟨(u 5 : Int), M, W, ?_, ?_, by omega, FC.rf M, FM.rf W⟩
      · simp (disch := omega) only [f_X7_count, gd_t, if_neg, if_pos, reduceIte, hC.2.2.2.2.2.2.1]
      · simp (disch := omega) only [f_X8_countOf, gd_t, if_neg, if_pos, reduceIte, hM.2.2.2.2.1.1]
    · refine ⟨(u 6 : Int), M, W, ?_, ?_, by omega, FC.rf M, FM.rf W⟩
      · simp (disch := omega) only [f_X7_count, gd_t, if_neg, if_pos, reduceIte, hC.2.2.2.2.2.2.2]
      · simp (disch := omega) only [f_X8_countOf, gd_t, if_neg, if_pos, reduceIte, hM.2.2.2.2.1.2.1]
  · refine ⟨-102, M, W, ?_, ?_, by omega, FC.rf M, FM.rf W⟩
    · simp (disch := omega) only [f_X7_count, gd_t, if_pos]
    · simp (disch := omega) only [f_X8_countOf, gd_t, if_pos]
theorem op_count {N : Nat} {c : Int} (hN : 200 ≤ N) (hc : inR c) : Both (f_X7_count N 1 c) (f_X8_count N 2 c) := by
  refine Ask.both (fun b u R hb hG M W hC hM => ?_)
  obtain ⟨r, M', W', h1, h2, h3⟩ := ask_ct hN hb hG hc M W hC hM
  exact ⟨r, M', W', h1, by simp only [f_X8_count, h2, bnd_s], h3⟩
