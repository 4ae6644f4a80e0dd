theorem dayF_in (S L : Row) : 0 ≤ dayF S L ∧ dayF S L ≤ 6 := by
  have := sumTo_in (f := fun p => if S p = 0 then 0 else if dayR S L p = 0 then 1 else 0) (a := 0) (b := 1) 6 (fun i _ => by split <;> (try split) <;> omega)
  unfold dayF
  omega
theorem op_move {N : Nat} {a c : Int} (hN : 200 ≤ N) (ha : inR a) (hc : inR c) : Both (f_X7_move N 1 a c) (f_X8_move N 2 a c) := by
  rintro b M W hb ⟨u, R, hG, hC, hM⟩
  by_cases ht : 0 ≤ a ∧ a < (u 1 : Int)
  · obtain ⟨t, rfl⟩ : ∃ p : Nat, a = (p : Int) := ⟨a.toNat, by omega⟩
    have htu : t < u 1 := by omega
    have e7 := isTe7_y (N := N) hC ht
    have e8 := isTe8_y (N := N) hM ht
    have h5 := hC.st.2.1
    obtain ⟨⟨k1, k2, k3⟩, k4, k5, k6⟩ := hC.st.2.2.2 t htu
    by_cases hp : u 7 = 1 ∧ 0 ≤ c ∧ c ≤ 5
    · obtain ⟨p, rfl⟩ : ∃ p : Nat, c = (p : Int) := ⟨c.toNat, by omega⟩
      have hp6 : p < 6 := by omega
      have i7 := isPl7_y (N := N) (b := b) (v := (p : Int)) hC hp.1 (by omega)
      have i8 := isPl8_y (N := N) (v := (p : Int)) hG hM hp.1 (by omega)
      obtain ⟨W1, a1, a2, a3⟩ := asItIs_s (N := N) (by omega) hM.2.1
      obtain ⟨s1, s2, s3⟩ := hC.rf.1 p hp6
      have d1 : W1 (ch 2 8) p = R 1 p := by rw [a3 _ (by decide) (by decide)]; exact (hM.2.1.2.2.1 p hp6).1
      obtain ⟨r1, r2⟩ := rehouse_s (N := N) (by omega) hC.st htu hp6
      have hcut := isCutOff8_s (N := N) (by omega) a2 htu
      by_cases hc : R 1 p = 0 ∨ cutN (R 1) (R 3 t) = 1
      · refine ⟨-103, M, W1, ?_, ?_, by omega, Rel.same hG hC hM (FC.rf M) (mf_2 a3)⟩
        · simp (disch := omega) only [f_X7_move, e7, i7, bnd_s, gd_t, if_neg, if_pos, reduceIte, c11, r1 hc]
        · by_cases z : R 1 p = 0
          · simp (disch := omega) only [f_X8_move, e8, i8, bnd_s, bnv_s, gd_t, if_neg, if_pos, reduceIte, a1, tn_c, d1, z]
          · have hc1 := hc.resolve_left z
            simp (disch := omega) only [f_X8_move, e8, i8, bnd_s, bnv_s, gd_t, if_neg, if_pos, reduceIte, a1, tn_c, d1, z, hcut, hc1]
      · have z : ¬ R 1 p = 0 := fun q => hc (Or.inl q)
        have c0 : cutN (R 1) (R 3 t) = 0 := (cutN_01 _ _).resolve_right (fun q => hc (Or.inr q))
        obtain ⟨M1, b1, b2, b3⟩ := r2 hc
        have e1 : f_X7_move N 1 (t : Int) (p : Int) M = some (R 3 t, M1) := by
          simp (disch := omega) only [f_X7_move, e7, i7, bnd_s, gd_t, if_neg, if_pos, reduceIte, c11, b1, tn_c, k4]
        have e2 : f_X8_move N 2 (t : Int) (p : Int) W = some (R 3 t, st W1 (ch 2 10) (2 * t + 1) (p : Int)) := by
          have t1 : (st W1 (ch 2 10) (2 * t + 1) (p : Int)) (ch 2 11) t = R 3 t := by rw [st_ne _ _ _ _ (by decide)]; exact (a2.2.2.2 t htu).2.1
          simp (disch := omega) only [f_X8_move, e8, i8, bnd_s, bnv_s, gd_t, if_neg, if_pos, reduceIte, a1, tn_c, tn_21, d1, z, hcut, c0, t1]
        have f2 : ∀ o, o ≠ ch 2 10 → o ≠ ch 2 11 → o ≠ ch 2 12 → (st W1 (ch 2 10) (2 * t + 1) (p : Int)) o = W o := fun o h1 h2 h3 => by rw [st_ne _ _ _ _ h1]; exact a3 o h2 h3
        have f3 : (st W1 (ch 2 10) (2 * t + 1) (p : Int)) 2 = W 2 := f2 2 (by decide) (by decide) (by decide)
        refine ⟨_, _, _, e1, e2, by omega, act_st (T := u 1) (S := R 1) (K := R 2) (H := updR (R 3) t (p : Int)) (C := R 4) hG hC hM ⟨b2, fun j h4 h8 => ?_⟩ (fun o ho => b3 o (nsc ho (by decide)) (nsc ho (by decide))) ⟨?_, h5, fun q hq => ?_, fun i hi => ?_⟩ ⟨?_, ?_, ?_⟩ (fun o h1 h2 => f2 o (nsc h2 (by decide)) (nsc h2 (by decide)) (nsc h2 (by decide))) (fun k hk => by rw [f3]) rfl rfl (cnt_up (x := 0) (y := 0) (z := 0) hG.2.2.2.2.1 (by omega) (by omega) (by omega) (by omega) (by omega) (by omega))⟩
        · rw [b3 44 (by decide) (by decide)]; exact hC.2.1.2 j h4 h8
        · rw [f3]; exact hM.2.1.1
        · rw [f2 _ (by decide) (by decide) (by decide)]; exact hM.2.1.2.2.1 q hq
        · have hi' := hM.2.1.2.2.2 i hi
          rw [st_same, a3 (ch 2 10) (by decide) (by decide)]
          unfold updR
          by_cases c : i = t
          · subst c
            simp (disch := omega) only [if_neg, reduceIte, true_and]
            exact ⟨hi'.1, by omega, by omega⟩
          · simp (disch := omega) only [if_neg]
            exact hi'
        · rw [f3]; exact hM.2.2.1.2.2.1
        · rw [f3]; exact hM.2.2.1.2.2.2.1
        · rw [f3]; exact hM.2.2.1.2.2.2.2
    · refine ⟨-101, M, W, ?_, ?_, by omega, Rel.same hG hC hM (FC.rf M) (FM.rf W)⟩
      · simp (disch := omega) only [f_X7_move, e7, isPl7_n hG hC hc hp, bnd_s, gd_t, if_pos, if_neg, reduceIte]
      · simp (disch := omega) only [f_X8_move, e8, isPl8_n hG hM hc hp, bnd_s, gd_t, if_pos, if_neg, reduceIte]
  · refine ⟨-101, M, W, ?_, ?_, by omega, Rel.same hG hC hM (FC.rf M) (FM.rf W)⟩
    · simp (disch := omega) only [f_X7_move, isTe7_n hC ha ht, bnd_s, gd_t, if_pos, if_neg, reduceIte]
    · simp (disch := omega) only [f_X8_move, isTe8_n hM ha ht, bnd_s, gd_t, if_pos, if_neg, reduceIte]
theorem op_day {N : Nat} (hN : 200 ≤ N) : Both (f_X7_day N 1) (f_X8_day N 2) := by
  rintro b M W hb ⟨u, R, hG, hC, hM⟩
  have e := has7 hC
  have h1 := hG.1
  by_cases h7 : u 7 = 1
  · obtain ⟨M1, a1, a2, a3, a4, a5, a6⟩ := liveDay_s (N := N) (by omega) hC.st
    obtain ⟨W1, b1, b2, b3⟩ := asItIs_s (N := N) (by omega) hM.2.1
    obtain ⟨W2, d1, d2, d3⟩ := goesBy_s (N := N) (by omega) b2
    obtain ⟨W3, k1, k2, k3⟩ := copy_s (N := N) (a := ch 2 12) (b := ch 2 8) (n := 6) (M := W2) (by omega) al_12 al_8 (by omega) (by decide)
    have hd := dayF_in (R 1) (wsT (u 1) (R 2) (R 3))
    have w2 : W3 2 = W 2 := by rw [k3 2 (by decide), d3 2 (by decide) (by decide), b3 2 (by decide) (by decide)]
    have w10 : W3 (ch 2 10) = W (ch 2 10) := by rw [k3 _ (by decide), d3 _ (by decide) (by decide), b3 _ (by decide) (by decide)]
    have e1 : f_X7_day N 1 M = some (dayF (R 1) (wsT (u 1) (R 2) (R 3)), M1) := by
      simp (disch := omega) only [f_X7_day, e, gd_t, if_neg, c11, a1, bnd_s]
    have e2 : f_X8_day N 2 W = some (dayF (R 1) (wsT (u 1) (R 2) (R 3)), st (st W3 2 4 (R 4 6 + 1)) 2 5 (R 4 7 + dayF (R 1) (wsT (u 1) (R 2) (R 3)))) := by
      have t1 : W3 2 4 = R 4 6 := by rw [w2]; exact hM.2.2.1.2.2.1
      have t2 : (st W3 2 4 (R 4 6 + 1)) 2 5 = R 4 7 := by rw [st_same]; simp; rw [w2]; exact hM.2.2.1.2.2.2.1
      simp (disch := omega) only [f_X8_day, lacks_y hG hM h7, gd_t, if_neg, if_pos, reduceIte, b1, d1, k1, bnd_s, bnv_s, t1, t2]
    have f2 : ∀ o, o ≠ 2 → (st (st W3 2 4 (R 4 6 + 1)) 2 5 (R 4 7 + dayF (R 1) (wsT (u 1) (R 2) (R 3)))) o = W3 o := fun o h => by rw [st_ne _ _ _ _ h, st_ne _ _ _ _ h]
    have f3 : ∀ k, k ≠ 4 → k ≠ 5 → (st (st W3 2 4 (R 4 6 + 1)) 2 5 (R 4 7 + dayF (R 1) (wsT (u 1) (R 2) (R 3)))) 2 k = W 2 k := fun k h4 h5 => by rw [st_same]; simp only [if_neg h5]; rw [st_same]; simp only [if_neg h4]; rw [w2]
    refine ⟨_, _, _, e1, e2, by omega, act_st (T := u 1) (S := dayR (R 1) (wsT (u 1) (R 2) (R 3))) (K := R 2) (H := R 3) (C := updR (updR (R 4) 6 (R 4 6 + 1)) 7 (R 4 7 + dayF (R 1) (wsT (u 1) (R 2) (R 3)))) hG hC hM ⟨a2, fun j h4 h8 => ?_⟩ (fun o ho => a6 o (nsc ho (by decide)) (nsc ho (by decide)) (nsc ho (by decide))) ⟨?_, hC.st.2.1, fun q hq => ?_, fun i hi => ?_⟩ ⟨?_, ?_, ?_⟩ (fun o h1 h2 => ?_) (fun k hk => f3 k (nsc hk (by decide)) (nsc hk (by decide))) rfl rfl (cnt_up (x := 1) (y := dayF (R 1) (wsT (u 1) (R 2) (R 3))) (z := 0) hG.2.2.2.2.1 (by omega) hd (by omega) (by simp [updR]) (by simp [updR]) (by simp [updR]))⟩
    · have hcj := hC.2.1.2 j h4 h8
      unfold updR
      by_cases c7 : j = 7
      · rw [if_pos c7, c7, a4, hC.2.1.2 7 (by omega) (by omega)]
      · by_cases c6 : j = 6
        · rw [if_neg c7, if_pos c6, c6, a3, hC.2.1.2 6 (by omega) (by omega)]
        · rw [if_neg c7, if_neg c6, a5 j c6 c7]; exact hcj
    · rw [f3 9 (by decide) (by decide)]; exact hM.2.1.1
    · rw [f2 _ (by decide), k2 q hq]; exact d2.2.2.1 q hq
    · rw [f2 _ (by decide), w10]; exact hM.2.1.2.2.2 i hi
    · rw [st_same]; simp; rw [st_same]; simp [updR]
    · rw [st_same]; simp [updR]
    · rw [f3 6 (by decide) (by decide)]; exact hM.2.2.1.2.2.2.2
    · rw [f2 o h1, k3 o (nsc h2 (by decide)), d3 o (nsc h2 (by decide)) (nsc h2 (by decide)), b3 o (nsc h2 (by decide)) (nsc h2 (by decide))]
  · refine ⟨-103, M, W, ?_, ?_, by omega, Rel.same hG hC hM (FC.rf M) (FM.rf W)⟩
    · simp (disch := omega) only [f_X7_day, gd_t, e, if_pos]
    · simp (disch := omega) only [f_X8_day, lacks_n hG hM h7, bnd_s, gd_t, if_neg]
/-- an act on the knocks -/
theorem act_kn {b : Nat} {u : Nat → Nat} {R : Nat → Row} {M W M' W' : Mem} (hG : GG b u R) (hC : IC u R M) (hM : IM u R W) {m : Nat} {P D B : Row}
    (h1 : KnOK M' 45 m P D B) (h2 : ∀ o, o ∉ [45, ch 45 0, ch 45 1, ch 45 2] → M' o = M o) (h3 : Kn8 W' m P D B) (h5 : ∀ o, o ≠ 2 → o ∉ [ch 2 17] → W' o = W o) (h6 : ∀ k, k ≠ 16 → W' 2 k = W 2 k) : Rel (b + 1) M' W' ∧ FA M M' ∧ FB W W' := by
  obtain ⟨p1, p2, p3, p4, p5⟩ := hC
  obtain ⟨q1, q2, q3, q4, q5, q6⟩ := hM
  refine ⟨⟨fun i => if i = 2 then m else u i, fun i => if i = 5 then P else if i = 6 then D else if i = 7 then B else R i, hG.up (by omega), ⟨p1.kept (h2 _ (by decide)) (h2 _ (by decide)), p2.kept (h2 _ (by decide)) (h2 _ (by decide)) (h2 _ (by decide)) (h2 _ (by decide)) (h2 _ (by decide)), h1, fun q => ⟨(p4 q).1.kept (h2 _ (by decide)) (h2 _ (by decide)) (h2 _ (by decide)) (h2 _ (by decide)) (h2 _ (by decide)), (p4 q).2.kept (h2 _ (by decide)) (h2 _ (by decide)) (h2 _ (by decide)) (h2 _ (by decide))⟩, by rw [h2 1 (by decide)]; exact p5⟩, ⟨?_, q2.kept (h6 _ (by decide)) (h5 _ (by decide) (by decide)) (h5 _ (by decide) (by decide)), ?_, h3, ?_, fun q => ⟨?_, (q6 q).2.1.kept (h6 _ (by decide)) (h6 _ (by decide)) (h6 _ (by decide)) (h6 _ (by decide)) (h5 _ (by decide) (by decide)) (h5 _ (by decide) (by decide)), (q6 q).2.2.kept (h6 _ (by decide)) (h5 _ (by decide) (by decide))⟩⟩⟩, fa_of (by decide) h2, fb_of (by decide) h5⟩
  · rw [h6 1 (by decide), h5 (ch 2 0) (by decide) (by decide)]; exact q1
  · rw [h6 2 (by decide), h6 3 (by decide), h6 4 (by decide), h6 5 (by decide), h6 6 (by decide)]; exact q3
  · rw [h6 7 (by decide), h6 14 (by decide), h6 20 (by decide)]; exact q5
  · rw [h6 20 (by decide)]; exact (q6 q).1
theorem op_forget {N : Nat} : Both (f_X7_forget N 1) (f_X8_forget N 2) := by
  rintro b M W hb ⟨u, R, hG, hC, hM⟩
  have h8 := hC.2.2.1.2.1
  have e1 : f_X7_forget N 1 M = some ((u 2 : Int), st M 45 3 0) := by simp only [f_X7_forget, c12, hC.2.2.1.1]
  have e2 : f_X8_forget N 2 W = some ((u 2 : Int), st W 2 16 0) := by simp only [f_X8_forget, hM.2.2.2.1.1]
  refine ⟨_, _, _, e1, e2, by omega, act_kn (m := 0) (P := R 5) (D := R 6) (B := R 7) hG hC hM ⟨by rw [st_same]; simp, by omega, fun i hi => by omega⟩ (fun o ho => st_ne _ _ _ _ (nsc ho (by decide))) ⟨by rw [st_same]; simp, by omega, fun i hi => by omega⟩ (fun o h1 _ => st_ne _ _ _ _ h1) (fun k hk => by rw [st_same]; simp only [if_neg hk])⟩
