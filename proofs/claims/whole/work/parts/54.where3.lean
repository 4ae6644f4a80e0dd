theorem op_where {N : Nat} {a : Int} (hN : 8000 ≤ N) (ha : inR a) : Both (f_X7_where N 1 a) (f_X8_where N 2 a) := by
  rintro b M W hb ⟨u, R, hG, hC, hM⟩
  have t9 := has7 hC
  have h1 := hG.1
  have t12 : M 1 12 = (u 6 : Int) := hC.2.2.2.2.2.2.2
  have w14 := hM.2.2.2.2.1.2.1
  have h12 := hG.2.2.1
  by_cases hq : a = 0 ∨ (10 ≤ a ∧ a ≤ 14)
  · -- to the searching half
    have r7 : f_X7_where N 1 a M = f_X7_where_33 N 1 a (a - 10) (if a = 0 then 0 else 1) M := by
      rcases hq with rfl | hq
      · simp (disch := omega) only [f_X7_where, f_X7_where_20, f_X7_where_21, gd_t, if_pos, if_neg, reduceIte]
      · rw [if_neg (show ¬ a = 0 by omega)]
        simp (disch := omega) only [f_X7_where, f_X7_where_20, f_X7_where_21, gd_t, if_pos, if_neg]
    have r8 : f_X8_where N 2 a W = f_X8_where_21 N 2 a W := by
      by_cases c : a = 0
      · simp (disch := omega) only [f_X8_where, gd_t, if_pos]
      · simp (disch := omega) only [f_X8_where, in_s, bnd_s, gd_t, if_pos, if_neg, reduceIte]
    rw [r7, r8]
    by_cases h7 : u 7 = 1
    · have t9' : M 1 9 = 1 := by rw [t9, h7]; rfl
      have lk := lacks_y (N := N) hG hM h7
      by_cases hw : u 6 = 12
      · refine ⟨-103, M, W, ?_, ?_, by omega, Rel.same hG hC hM (FC.rf M) (FM.rf W)⟩
        · simp (disch := omega) only [f_X7_where_33, gd_t, t9', t12, if_neg]
        · simp (disch := omega) only [f_X8_where_21, lk, bnd_s, gd_t, w14, if_pos, reduceIte]
      · -- both search
        have f1 : ∀ o, o ≠ 1 → (st M 1 12 ((u 6 : Int) + 1)) o = M o := fun o ho => st_ne _ _ _ _ ho
        have g1 : ∀ k, k ≠ 12 → (st M 1 12 ((u 6 : Int) + 1)) 1 k = M 1 k := fun k hk => by rw [st_same]; simp only [if_neg hk]
        have f2 : ∀ o, o ≠ 2 → (st W 2 14 ((u 6 : Int) + 1)) o = W o := fun o ho => st_ne _ _ _ _ ho
        have g2 : ∀ k, k ≠ 14 → (st W 2 14 ((u 6 : Int) + 1)) 2 k = W 2 k := fun k hk => by rw [st_same]; simp only [if_neg hk]
        have hC' : IC (fun i => if i = 6 then u 6 + 1 else u i) R (st M 1 12 ((u 6 : Int) + 1)) := by
          obtain ⟨p1, p2, p3, p4, p5, p6, p7, p8⟩ := hC
          refine ⟨p1.kept (f1 _ (by decide)) (f1 _ (by decide)), p2.kept (f1 _ (by decide)) (f1 _ (by decide)) (f1 _ (by decide)) (f1 _ (by decide)) (f1 _ (by decide)), p3.kept (f1 _ (by decide)) (f1 _ (by decide)) (f1 _ (by decide)) (f1 _ (by decide)), fun q => ⟨(p4 q).1.kept (f1 _ (by decide)) (f1 _ (by decide)) (f1 _ (by decide)) (f1 _ (by decide)) (f1 _ (by decide)), (p4 q).2.kept (f1 _ (by decide)) (f1 _ (by decide)) (f1 _ (by decide)) (f1 _ (by decide))⟩, ?_, ?_, ?_, ?_⟩
          · rw [g1 9 (by decide)]; exact p5
          · rw [g1 10 (by decide)]; exact p6
          · rw [g1 11 (by decide)]; exact p7
          · rw [st_same]; rfl
        have hM' : IM (fun i => if i = 6 then u 6 + 1 else u i) R (st W 2 14 ((u 6 : Int) + 1)) := by
          obtain ⟨q1, q2, q3, q4, ⟨y1, y2, y3⟩, q6⟩ := hM
          refine ⟨?_, q2.kept (g2 _ (by decide)) (f2 _ (by decide)) (f2 _ (by decide)), ?_, q4.kept (g2 _ (by decide)) (f2 _ (by decide)), ⟨?_, ?_, ?_⟩, fun q => ⟨?_, (q6 q).2.1.kept (g2 _ (by decide)) (g2 _ (by decide)) (g2 _ (by decide)) (g2 _ (by decide)) (f2 _ (by decide)) (f2 _ (by decide)), (q6 q).2.2.kept (g2 _ (by decide)) (f2 _ (by decide))⟩⟩
          · rw [g2 1 (by decide), f2 (ch 2 0) (by decide)]; exact q1
          · rw [g2 2 (by decide), g2 3 (by decide), g2 4 (by decide), g2 5 (by decide), g2 6 (by decide)]; exact q3
          · rw [g2 7 (by decide)]; exact y1
          · rw [st_same]; rfl
          · rw [g2 20 (by decide)]; exact y3
          · rw [g2 20 (by decide)]; exact (q6 q).1
        have hG' : GG b (fun i => if i = 6 then u 6 + 1 else u i) R := by
          obtain ⟨k1, k2, k3, k4, k5⟩ := hG
          exact ⟨k1, k2, by show u 6 + 1 ≤ 12; omega, k4, k5⟩
        obtain ⟨M1, a1, a2, a3⟩ := seek_s (N := N) (by omega) hC'.st
        obtain ⟨W1, b1, b2, b3⟩ := lay_s (N := N) hN hM'.2.1
        have hacc := two_acc (V := VV (R 1) (u 1) (R 2)) (fun c => VV_in (S := R 1) (K := R 2) (c := c) hC.st.2.1 (fun p hp => (hC.rf.1 p hp).2.1)) (6 ^ u 1)
        have a2' : WI M1 (R 1) (u 1) 0 (R 2) 0 (foC (VV (R 1) (u 1) (R 2)) 0 (6 ^ u 1) (0, 0)) := a2
        have b1' : f_X8_layWhere N 2 (st W 2 14 ((u 6 : Int) + 1)) = some ((foC (VV (R 1) (u 1) (R 2)) 0 (6 ^ u 1) (-1, 0)).1, W1) := b1
        have b2' : (foC (VV (R 1) (u 1) (R 2)) 0 (6 ^ u 1) (-1, 0)).1 ≠ -1 → ∀ i, i < u 1 → W1 (ch 2 15) i = dgR (u 1) (foC (VV (R 1) (u 1) (R 2)) 0 (6 ^ u 1) (-1, 0)).2 i := b2
        obtain ⟨-, -, ⟨x3, x4, x5, x6⟩, x7⟩ := a2'
        have hC1 := hC'.fc a3
        have hM1 := hM'.fm b3
        have w9 : W1 2 9 = (u 1 : Int) := hM1.2.1.1
        have h5 := hC.st.2.1
        have hrel : Rel (b + 1) M1 W1 ∧ FA M M1 ∧ FB W W1 := ⟨⟨_, R, hG'.up (by omega), hC1, hM1⟩, ((FA.rf M).st (by decide)).tr a3.fa, ((FB.rf W).st (by decide)).tr b3.fb⟩
        generalize hA : foC (VV (R 1) (u 1) (R 2)) 0 (6 ^ u 1) (0, 0) = A at hacc x3 x4 x5 x6 x7
        generalize hB : foC (VV (R 1) (u 1) (R 2)) 0 (6 ^ u 1) (-1, 0) = B at hacc b1' b2'
        rcases hacc with ⟨e, e1, e2⟩ | ⟨e1, e2⟩
        · subst e
          rw [if_neg (show ¬ A.1 = 0 by omega)] at x4
          by_cases z : a = 0
          · by_cases y : A.1 = 41
            · refine ⟨-1, M1, W1, ?_, ?_, by omega, hrel⟩
              · simp (disch := omega) only [f_X7_where_33, gd_t, t9', t12, if_neg, if_pos, c11, c16, a1, bnv_s, bnd_s, x3, x4, reduceIte, f_X7_orNone]
              · simp (disch := omega) only [f_X8_where_21, lk, bnd_s, gd_t, w14, if_pos, if_neg, reduceIte, b1']
            · refine ⟨A.1, M1, W1, ?_, ?_, by omega, hrel⟩
              · simp (disch := omega) only [f_X7_where_33, gd_t, t9', t12, if_neg, if_pos, c11, c16, a1, bnv_s, bnd_s, x3, x4, reduceIte, f_X7_orNone]
              · simp (disch := omega) only [f_X8_where_21, lk, bnd_s, gd_t, w14, if_pos, if_neg, reduceIte, b1']
          · obtain ⟨t, ht⟩ : ∃ t : Nat, a - 10 = (t : Int) := ⟨(a - 10).toNat, by omega⟩
            by_cases y : t < u 1
            · have hd := dgR_in (u 1) A.2 t
              have i7 := isTe7_y (N := N) (v := (t : Int)) hC1 ⟨by omega, by show (t : Int) < ((u 1 : Nat) : Int); omega⟩
              have v7 := x7 (by omega) t y
              have v8 := b2' (by omega) t y
              refine ⟨dgR (u 1) A.2 t, M1, W1, ?_, ?_, by omega, hrel⟩
              · rw [ht]
                simp (disch := omega) only [f_X7_where_33, gd_t, t9', t12, if_neg, if_pos, c11, c16, a1, bnv_s, bnd_s, x3, x4, reduceIte, z, i7, tn_c, v7]
              · simp (disch := omega) only [f_X8_where_21, lk, bnd_s, gd_t, w14, if_pos, if_neg, reduceIte, b1', ht, w9, tn_c, v8]
            · have i7 := isTe7_n (N := N) (v := (t : Int)) hC1 (by omega) (fun q => y (by have : (t : Int) < ((u 1 : Nat) : Int) := q.2; omega))
              refine ⟨-1, M1, W1, ?_, ?_, by omega, hrel⟩
              · rw [ht]
                simp (disch := omega) only [f_X7_where_33, gd_t, t9', t12, if_neg, if_pos, c11, c16, a1, bnv_s, bnd_s, x3, x4, reduceIte, z, i7]
              · simp (disch := omega) only [f_X8_where_21, lk, bnd_s, gd_t, w14, if_pos, if_neg, reduceIte, b1', ht, w9]
        · rw [if_pos e1] at x4
          refine ⟨-1, M1, W1, ?_, ?_, by omega, hrel⟩
          · simp (disch := omega) only [f_X7_where_33, gd_t, t9', t12, if_neg, if_pos, c11, c16, a1, bnv_s, bnd_s, x4, reduceIte]
          · by_cases z : a = 0
            · simp (disch := omega) only [f_X8_where_21, lk, bnd_s, gd_t, w14, if_pos, if_neg, reduceIte, b1', e2]
            · simp (disch := omega) only [f_X8_where_21, lk, bnd_s, gd_t, w14, if_pos, if_neg, reduceIte, b1', e2]
    · have t9' : M 1 9 = 0 := by omega
      refine ⟨-103, M, W, ?_, ?_, by omega, Rel.same hG hC hM (FC.rf M) (FM.rf W)⟩
      · simp (disch := omega) only [f_X7_where_33, gd_t, t9', if_pos, reduceIte]
      · simp (disch := omega) only [f_X8_where_21, lacks_n hG hM h7, bnd_s, gd_t, if_neg]
  · refine ⟨-102, M, W, ?_, ?_, by omega, Rel.same hG hC hM (FC.rf M) (FM.rf W)⟩
    · by_cases c : a < 10
      · simp (disch := omega) only [f_X7_where, f_X7_where_20, f_X7_where_21, gd_t, if_pos, if_neg, reduceIte]
      · simp (disch := omega) only [f_X7_where, f_X7_where_20, f_X7_where_21, gd_t, if_pos, if_neg, reduceIte]
    · simp (disch := omega) only [f_X8_where, in_s, bnd_s, gd_t, if_pos, if_neg, reduceIte]
