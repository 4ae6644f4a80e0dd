/-! the image -/
def cq (A : Mem) (d s : Nat) : Mem := st A 2 d (A 2 s)
theorem cq_v (A : Mem) (d s k : Nat) : cq A d s 2 k = if k = d then A 2 s else A 2 k := by unfold cq; rw [st_same]
theorem cq_o (A : Mem) (d s : Nat) {o : Nat} (h : o ≠ 2) : cq A d s o = A o := st_ne _ _ _ _ h
def kcp (M : Mem) (d s : Nat) : Mem := st (cpy (cpy (cpy M (ch s 0) (ch d 0) 8) (ch s 1) (ch d 1) 8) (ch s 2) (ch d 2) 8) d 3 ((cpy (cpy (cpy M (ch s 0) (ch d 0) 8) (ch s 1) (ch d 1) 8) (ch s 2) (ch d 2) 8) s 3)
theorem kcp_f {M : Mem} {d s o : Nat} (h0 : o ≠ d) (h1 : o ≠ ch d 0) (h2 : o ≠ ch d 1) (h3 : o ≠ ch d 2) : kcp M d s o = M o := by
  unfold kcp
  rw [st_ne _ _ _ _ h0, cpy_ne _ _ _ _ h3, cpy_ne _ _ _ _ h2, cpy_ne _ _ _ _ h1]
theorem kcp_s {M : Mem} {d s m : Nat} {P D B : Row} (hp : (d = 47 ∧ s = 45) ∨ (d = 45 ∧ s = 47)) (h : KnOK M s m P D B) : KnOK (kcp M d s) d m P D B := by
  have n1 : ch d 0 ≠ d := by unfold ch; omega
  have n2 : ch d 1 ≠ d := by unfold ch; omega
  have n3 : ch d 2 ≠ d := by unfold ch; omega
  have n4 : ch d 0 ≠ ch d 1 := ch_ne (by decide)
  have n5 : ch d 0 ≠ ch d 2 := ch_ne (by decide)
  have n6 : ch d 1 ≠ ch d 2 := ch_ne (by decide)
  have m1 : s ≠ ch d 0 := by unfold ch; omega
  have m2 : s ≠ ch d 1 := by unfold ch; omega
  have m3 : s ≠ ch d 2 := by unfold ch; omega
  have m4 : ch s 1 ≠ ch d 0 := by unfold ch; omega
  have m5 : ch s 2 ≠ ch d 0 := by unfold ch; omega
  have m6 : ch s 2 ≠ ch d 1 := by unfold ch; omega
  obtain ⟨h1, h2, h3⟩ := h
  refine ⟨?_, h2, fun i hi => ?_⟩
  · unfold kcp
    rw [st_same]
    simp only [reduceIte]
    rw [cpy_ne _ _ _ _ m3, cpy_ne _ _ _ _ m2, cpy_ne _ _ _ _ m1]
    exact h1
  · have e0 : kcp M d s (ch d 0) i = M (ch s 0) i := by
      unfold kcp
      rw [st_ne _ _ _ _ n1, cpy_ne _ _ _ _ n5, cpy_ne _ _ _ _ n4, cpy_same]
      simp only [if_pos (show i < 8 by omega)]
    have e1 : kcp M d s (ch d 1) i = M (ch s 1) i := by
      unfold kcp
      rw [st_ne _ _ _ _ n2, cpy_ne _ _ _ _ n6, cpy_same]
      simp only [if_pos (show i < 8 by omega)]
      rw [cpy_ne _ _ _ _ m4]
    have e2 : kcp M d s (ch d 2) i = M (ch s 2) i := by
      unfold kcp
      rw [st_ne _ _ _ _ n3, cpy_same]
      simp only [if_pos (show i < 8 by omega)]
      rw [cpy_ne _ _ _ _ m6, cpy_ne _ _ _ _ m5]
    rw [e0, e1, e2]
    exact h3 i hi
theorem kcp_e {N d s : Nat} {M : Mem} : f_X1_copyFrom N d s M = some (kcp M d s) := rfl
theorem op_image {N : Nat} (hN : 200 ≤ N) : Both (f_X7_image N 1) (f_X8_image N 2) := by
  rintro b M W hb ⟨u, R, hG, hC, hM⟩
  have e := has7 hC
  have h1 := hG.1
  by_cases h7 : u 7 = 1
  · obtain ⟨M1, a1, a2, a3, a4⟩ := copyFrom_s (N := N) (M := M) (show pairOK 46 44 from Or.inr (Or.inl ⟨rfl, rfl⟩))
    obtain ⟨W1, b1, b2, b3⟩ := copy_s (N := N) (a := ch 2 8) (b := ch 2 26) (n := 6) (M := W) (by omega) al_8 al_26 (by omega) (by decide)
    obtain ⟨W2, c1, c2, c3⟩ := copy_s (N := N) (a := ch 2 10) (b := ch 2 27) (n := 10) (M := W1) (by omega) al_10 al_27 (by omega) (by decide)
    obtain ⟨W3, d1, d2, d3⟩ := copy_s (N := N) (a := ch 2 17) (b := ch 2 28) (n := 24) (M := W2) (by omega) al_17 al_28 (by omega) (by decide)
    have hx : ∀ o, o ∉ [1, 46, ch 46 1, ch 46 2, ch (ch 46 0) 0, ch (ch 46 0) 1, 47, ch 47 0, ch 47 1, ch 47 2] → (st (kcp M1 47 45) 1 10 1) o = M o := fun o ho => by
      rw [st_ne _ _ _ _ (nsc ho (by decide)), kcp_f (nsc ho (by decide)) (nsc ho (by decide)) (nsc ho (by decide)) (nsc ho (by decide))]
      exact a4 o (nsc ho (by decide)) (nsc ho (by decide)) (nsc ho (by decide)) (nsc ho (by decide)) (nsc ho (by decide))
    have h446 : (st (kcp M1 47 45) 1 10 1) 44 6 = R 4 6 := by rw [hx 44 (by decide)]; exact hC.2.1.2 6 (by omega) (by omega)
    have q6 := hG.2.2.2.2.1.2.2 6 (by omega) (by omega)
    have w32 : W3 2 = W 2 := by rw [d3 2 (by decide), c3 2 (by decide), b3 2 (by decide)]
    have e1 : f_X7_image N 1 M = some (R 4 6, st (kcp M1 47 45) 1 10 1) := by
      rw [← h446]
      simp (disch := omega) only [f_X7_image, e, gd_t, if_neg, c11, c12, c13, c14, a1, kcp_e, bnv_s]
    have e2 : f_X8_image N 2 W = some (R 4 6, cq (cq (cq (cq (cq (cq W3 21 9) 22 4) 23 5) 24 6) 25 16) 20 7) := by
      have t : (cq (cq (cq (cq (cq (cq W3 21 9) 22 4) 23 5) 24 6) 25 16) 20 7) 2 4 = R 4 6 := by simp [cq_v, w32]; exact hM.2.2.1.2.2.1
      rw [← t]
      simp (disch := omega) only [f_X8_image, lacks_y hG hM h7, gd_t, if_pos, reduceIte, b1, c1, d1, bnv_s, bnd_s]
      rfl
    have hy : ∀ o, o ≠ 2 → o ∉ [ch 2 26, ch 2 27, ch 2 28] → (cq (cq (cq (cq (cq (cq W3 21 9) 22 4) 23 5) 24 6) 25 16) 20 7) o = W o := fun o ho hn => by
      rw [cq_o _ _ _ ho, cq_o _ _ _ ho, cq_o _ _ _ ho, cq_o _ _ _ ho, cq_o _ _ _ ho, cq_o _ _ _ ho, d3 o (nsc hn (by decide)), c3 o (nsc hn (by decide)), b3 o (nsc hn (by decide))]
    have hz : ∀ k, k ∉ [20, 21, 22, 23, 24, 25] → (cq (cq (cq (cq (cq (cq W3 21 9) 22 4) 23 5) 24 6) 25 16) 20 7) 2 k = W 2 k := fun k hk => by
      rw [cq_v, if_neg (nsc hk (by decide)), cq_v, if_neg (nsc hk (by decide)), cq_v, if_neg (nsc hk (by decide)), cq_v, if_neg (nsc hk (by decide)), cq_v, if_neg (nsc hk (by decide)), cq_v, if_neg (nsc hk (by decide)), w32]
    have v : (cq (cq (cq (cq (cq (cq W3 21 9) 22 4) 23 5) 24 6) 25 16) 20 7) 2 21 = W 2 9 ∧ (cq (cq (cq (cq (cq (cq W3 21 9) 22 4) 23 5) 24 6) 25 16) 20 7) 2 22 = W 2 4 ∧ (cq (cq (cq (cq (cq (cq W3 21 9) 22 4) 23 5) 24 6) 25 16) 20 7) 2 23 = W 2 5 ∧ (cq (cq (cq (cq (cq (cq W3 21 9) 22 4) 23 5) 24 6) 25 16) 20 7) 2 24 = W 2 6 ∧ (cq (cq (cq (cq (cq (cq W3 21 9) 22 4) 23 5) 24 6) 25 16) 20 7) 2 25 = W 2 16 ∧ (cq (cq (cq (cq (cq (cq W3 21 9) 22 4) 23 5) 24 6) 25 16) 20 7) 2 20 = W 2 7 := by
      simp [cq_v, w32]
    have kk : ∀ o, o ∈ [ch 2 26, ch 2 27, ch 2 28] → (cq (cq (cq (cq (cq (cq W3 21 9) 22 4) 23 5) 24 6) 25 16) 20 7) o = W3 o := fun o ho => by
      have : o ≠ 2 := by rintro rfl; revert ho; decide
      rw [cq_o _ _ _ this, cq_o _ _ _ this, cq_o _ _ _ this, cq_o _ _ _ this, cq_o _ _ _ this, cq_o _ _ _ this]
    obtain ⟨v1, v2, v3, v4, v5, v6⟩ := v
    generalize (cq (cq (cq (cq (cq (cq W3 21 9) 22 4) 23 5) 24 6) 25 16) 20 7) = V at e2 hy hz v1 v2 v3 v4 v5 v6 kk
    obtain ⟨g1, g2, g3, g4, g5, g6, g7⟩ := hG.up (show b ≤ b + 1 by omega)
    obtain ⟨p1, p2, p3, p4, p5, p6, p7, p8⟩ := hC
    obtain ⟨q1, q2, q3, q4, q5, -⟩ := hM
    have st46 : StC (st (kcp M1 47 45) 1 10 1) 46 (u 1) (R 1) (R 2) (R 3) (R 4) := by
      have f : ∀ o, o ∉ [1, 47, ch 47 0, ch 47 1, ch 47 2] → (st (kcp M1 47 45) 1 10 1) o = M1 o := fun o ho => by
        rw [st_ne _ _ _ _ (nsc ho (by decide)), kcp_f (nsc ho (by decide)) (nsc ho (by decide)) (nsc ho (by decide)) (nsc ho (by decide))]
      refine StC.kept (M := M1) ⟨a2 _ _ _ _ p2.1, fun j h4 h8 => ?_⟩ (f _ (by decide)) (f _ (by decide)) (f _ (by decide)) (f _ (by decide)) (f _ (by decide))
      rw [a3 j (by omega) h8]; exact p2.2 j h4 h8
    have kn47 : KnOK (st (kcp M1 47 45) 1 10 1) 47 (u 2) (R 5) (R 6) (R 7) := by
      have f : ∀ o, o ∉ [46, ch 46 1, ch 46 2, ch (ch 46 0) 0, ch (ch 46 0) 1] → M1 o = M o := fun o ho => a4 o (nsc ho (by decide)) (nsc ho (by decide)) (nsc ho (by decide)) (nsc ho (by decide)) (nsc ho (by decide))
      exact (kcp_s (Or.inl ⟨rfl, rfl⟩) (p3.kept (f _ (by decide)) (f _ (by decide)) (f _ (by decide)) (f _ (by decide)))).kept (st_ne _ _ _ _ (by decide)) (st_ne _ _ _ _ (by decide)) (st_ne _ _ _ _ (by decide)) (st_ne _ _ _ _ (by decide))
    have k1 : ∀ k, k ≠ 10 → (st (kcp M1 47 45) 1 10 1) 1 k = M 1 k := fun k hk => by
      rw [st_same]; simp only [if_neg hk]
      rw [kcp_f (by decide) (by decide) (by decide) (by decide), a4 1 (by decide) (by decide) (by decide) (by decide) (by decide)]
    refine ⟨_, _, _, e1, e2, by omega, ⟨fun i => if i = 3 then u 1 else if i = 4 then u 2 else if i = 8 then 1 else u i, fun i => if i = 11 then R 1 else if i = 12 then R 2 else if i = 13 then R 3 else if i = 14 then R 4 else if i = 15 then R 5 else if i = 16 then R 6 else if i = 17 then R 7 else R i, ⟨g1, Nat.le_refl 1, g3, g4, g5, g6, fun _ => ⟨g5, rfl, rfl⟩⟩, ⟨p1.kept (hx _ (by decide)) (hx _ (by decide)), p2.kept (hx _ (by decide)) (hx _ (by decide)) (hx _ (by decide)) (hx _ (by decide)) (hx _ (by decide)), p3.kept (hx _ (by decide)) (hx _ (by decide)) (hx _ (by decide)) (hx _ (by decide)), fun _ => ⟨st46, kn47⟩, ?_, ?_, ?_, ?_⟩, ⟨?_, q2.kept (hz _ (by decide)) (hy _ (by decide) (by decide)) (hy _ (by decide) (by decide)), ?_, q4.kept (hz _ (by decide)) (hy _ (by decide) (by decide)), ?_, fun _ => ⟨?_, ⟨?_, fun p hp => ?_, fun t ht => ?_, ?_, ?_, ?_⟩, ⟨?_, fun i hi => ?_⟩⟩⟩⟩, fa_of (by decide) hx, fb_of (by decide) hy⟩
    · rw [k1 9 (by decide)]; exact p5
    · rw [st_same]; rfl
    · rw [k1 11 (by decide)]; exact p7
    · rw [k1 12 (by decide)]; exact p8
    · rw [hz 1 (by decide), hy (ch 2 0) (by decide) (by decide)]; exact q1
    · rw [hz 2 (by decide), hz 3 (by decide), hz 4 (by decide), hz 5 (by decide), hz 6 (by decide)]; exact q3
    · rw [hz 7 (by decide), hz 14 (by decide), v6]
      obtain ⟨y1, y2, -, -, -⟩ := q5
      rw [y1, y2]
      refine ⟨rfl, rfl, ?_, Int.le_refl _, fun q => absurd (show (1 : Nat) = 0 from q) (by decide)⟩
      show -1 ≤ ((u 5 : Nat) : Int)
      omega
    · rw [v6]; exact q5.1
    · rw [v1]; exact q2.1
    · rw [kk _ (by decide), d3 _ (by decide), c3 _ (by decide), b2 p hp]; exact (q2.2.2.1 p hp).1
    · have ht' : t < u 1 := ht
      have h5 := q2.2.1
      rw [kk _ (by decide), d3 _ (by decide), c2 _ (by omega), c2 _ (by omega), b3 _ (by decide)]
      exact ⟨(q2.2.2.2 t ht').1.1, (q2.2.2.2 t ht').2.1⟩
    · rw [v2]; exact q3.2.2.1
    · rw [v3]; exact q3.2.2.2.1
    · rw [v4]; exact q3.2.2.2.2
    · rw [v5]; exact q4.1
    · have hi' : i < u 2 := hi
      have h5 := q4.2.1
      rw [kk _ (by decide), d2 _ (by omega), d2 _ (by omega), d2 _ (by omega), c3 _ (by decide), b3 _ (by decide)]
      exact ⟨(q4.2.2 i hi').1.1, (q4.2.2 i hi').2.1.1, (q4.2.2 i hi').2.2.1⟩
  · refine ⟨-103, M, W, ?_, ?_, by omega, Rel.same hG hC hM (FC.rf M) (FM.rf W)⟩
    · simp (disch := omega) only [f_X7_image, gd_t, e, if_pos]
    · simp (disch := omega) only [f_X8_image, lacks_n hG hM h7, bnd_s, gd_t, if_neg]
theorem op_restore {N : Nat} (hN : 200 ≤ N) : Both (f_X7_restore N 1) (f_X8_restore N 2) := by
  rintro b M W hb ⟨u, R, hG, hC, hM⟩
  have e : M 1 10 = (u 8 : Int) := hC.2.2.2.2.2.1
  have h1 := hG.2.1
  have h4 := hG.2.2.2.1
  obtain ⟨y1, y2, y3, y4, y5⟩ := hM.2.2.2.2.1
  by_cases h8 : u 8 = 1
  · obtain ⟨c46, k47⟩ := hC.2.2.2.1 h8
    obtain ⟨z1, ⟨s1, s2, s3, s4, s5, s6⟩, ⟨s7, s8⟩⟩ := hM.2.2.2.2.2 h8
    obtain ⟨M1, a1, a2, a3, a4⟩ := copyFrom_s (N := N) (M := M) (show pairOK 44 46 from Or.inr (Or.inr ⟨rfl, rfl⟩))
    obtain ⟨W1, b1, b2, b3⟩ := copy_s (N := N) (a := ch 2 26) (b := ch 2 8) (n := 6) (M := W) (by omega) al_26 al_8 (by omega) (by decide)
    obtain ⟨W2, c1, c2, c3⟩ := copy_s (N := N) (a := ch 2 27) (b := ch 2 10) (n := 10) (M := W1) (by omega) al_27 al_10 (by omega) (by decide)
    obtain ⟨W3, d1, d2, d3⟩ := copy_s (N := N) (a := ch 2 28) (b := ch 2 17) (n := 24) (M := W2) (by omega) al_28 al_17 (by omega) (by decide)
    have hx : ∀ o, o ∉ [44, ch 44 1, ch 44 2, ch (ch 44 0) 0, ch (ch 44 0) 1, 45, ch 45 0, ch 45 1, ch 45 2] → (kcp M1 45 47) o = M o := fun o ho => by
      rw [kcp_f (nsc ho (by decide)) (nsc ho (by decide)) (nsc ho (by decide)) (nsc ho (by decide))]
      exact a4 o (nsc ho (by decide)) (nsc ho (by decide)) (nsc ho (by decide)) (nsc ho (by decide)) (nsc ho (by decide))
    have f0 : ∀ o, o ∉ [45, ch 45 0, ch 45 1, ch 45 2] → (kcp M1 45 47) o = M1 o := fun o ho => kcp_f (nsc ho (by decide)) (nsc ho (by decide)) (nsc ho (by decide)) (nsc ho (by decide))
    have h446 : (kcp M1 45 47) 44 6 = R 14 6 := by rw [f0 44 (by decide), a3 6 (by omega) (by omega)]; exact c46.2 6 (by omega) (by omega)
    obtain ⟨g1, g2, g3, g4, g5, g6, g7⟩ := hG.up (show b ≤ b + 1 by omega)
    obtain ⟨g8, g9, g10⟩ := g7 h8
    have q6 := g8.2.2 6 (by omega) (by omega)
    have w32 : W3 2 = W 2 := by rw [d3 2 (by decide), c3 2 (by decide), b3 2 (by decide)]
    have e1 : f_X7_restore N 1 M = some (R 14 6, kcp M1 45 47) := by
      rw [← h446]
      simp (disch := omega) only [f_X7_restore, e, gd_t, if_neg, c11, c12, c13, c14, a1, kcp_e, bnv_s]
    have e2 : f_X8_restore N 2 W = some (R 14 6, cq (cq (cq (cq (cq W3 9 21) 4 22) 5 23) 6 24) 16 25) := by
      have t : (cq (cq (cq (cq (cq W3 9 21) 4 22) 5 23) 6 24) 16 25) 2 4 = R 14 6 := by simp [cq_v, w32]; exact s4
      rw [← t]
      simp (disch := omega) only [f_X8_restore, z1, y1, gd_t, if_pos, reduceIte, b1, c1, d1, bnv_s, bnd_s]
      rfl
    have hy : ∀ o, o ≠ 2 → o ∉ [ch 2 8, ch 2 10, ch 2 17] → (cq (cq (cq (cq (cq W3 9 21) 4 22) 5 23) 6 24) 16 25) o = W o := fun o ho hn => by
      rw [cq_o _ _ _ ho, cq_o _ _ _ ho, cq_o _ _ _ ho, cq_o _ _ _ ho, cq_o _ _ _ ho, d3 o (nsc hn (by decide)), c3 o (nsc hn (by decide)), b3 o (nsc hn (by decide))]
    have hz : ∀ k, k ∉ [9, 4, 5, 6, 16] → (cq (cq (cq (cq (cq W3 9 21) 4 22) 5 23) 6 24) 16 25) 2 k = W 2 k := fun k hk => by
      rw [cq_v, if_neg (nsc hk (by decide)), cq_v, if_neg (nsc hk (by decide)), cq_v, if_neg (nsc hk (by decide)), cq_v, if_neg (nsc hk (by decide)), cq_v, if_neg (nsc hk (by decide)), w32]
    have v : (cq (cq (cq (cq (cq W3 9 21) 4 22) 5 23) 6 24) 16 25) 2 9 = W 2 21 ∧ (cq (cq (cq (cq (cq W3 9 21) 4 22) 5 23) 6 24) 16 25) 2 4 = W 2 22 ∧ (cq (cq (cq (cq (cq W3 9 21) 4 22) 5 23) 6 24) 16 25) 2 5 = W 2 23 ∧ (cq (cq (cq (cq (cq W3 9 21) 4 22) 5 23) 6 24) 16 25) 2 6 = W 2 24 ∧ (cq (cq (cq (cq (cq W3 9 21) 4 22) 5 23) 6 24) 16 25) 2 16 = W 2 25 := by
      simp [cq_v, w32]
    have kk : ∀ o, o ∈ [ch 2 8, ch 2 10, ch 2 17] → (cq (cq (cq (cq (cq W3 9 21) 4 22) 5 23) 6 24) 16 25) o = W3 o := fun o ho => by
      have : o ≠ 2 := by rintro rfl; revert ho; decide
      rw [cq_o _ _ _ this, cq_o _ _ _ this, cq_o _ _ _ this, cq_o _ _ _ this, cq_o _ _ _ this]
    obtain ⟨v1, v2, v3, v4, v5⟩ := v
    generalize (cq (cq (cq (cq (cq W3 9 21) 4 22) 5 23) 6 24) 16 25) = V at e2 hy hz v1 v2 v3 v4 v5 kk
    obtain ⟨p1, p2, p3, p4, p5⟩ := hC
    obtain ⟨q1, q2, q3, q4, q5, q6'⟩ := hM
    have st44 : StC (kcp M1 45 47) 44 (u 3) (R 11) (R 12) (R 13) (R 14) := by
      refine StC.kept (M := M1) ⟨a2 _ _ _ _ c46.1, fun j h4 h8 => ?_⟩ (f0 _ (by decide)) (f0 _ (by decide)) (f0 _ (by decide)) (f0 _ (by decide)) (f0 _ (by decide))
      rw [a3 j (by omega) h8]; exact c46.2 j h4 h8
    have kn45 : KnOK (kcp M1 45 47) 45 (u 4) (R 15) (R 16) (R 17) := by
      have f : ∀ o, o ∉ [44, ch 44 1, ch 44 2, ch (ch 44 0) 0, ch (ch 44 0) 1] → M1 o = M o := fun o ho => a4 o (nsc ho (by decide)) (nsc ho (by decide)) (nsc ho (by decide)) (nsc ho (by decide)) (nsc ho (by decide))
      exact kcp_s (Or.inr ⟨rfl, rfl⟩) (k47.kept (f _ (by decide)) (f _ (by decide)) (f _ (by decide)) (f _ (by decide)))
    refine ⟨_, _, _, e1, e2, by omega, ⟨fun i => if i = 1 then u 3 else if i = 2 then u 4 else u i, fun i => if i = 1 then R 11 else if i = 2 then R 12 else if i = 3 then R 13 else if i = 4 then R 14 else if i = 5 then R 15 else if i = 6 then R 16 else if i = 7 then R 17 else R i, ⟨g1, g2, g3, g4, g8, by show R 14 5 = 0 ↔ u 7 = 0; rw [g10]; exact g6, fun _ => ⟨g8, rfl, rfl⟩⟩, ⟨p1.kept (hx _ (by decide)) (hx _ (by decide)), st44, kn45, fun q => ⟨(p4 q).1.kept (hx _ (by decide)) (hx _ (by decide)) (hx _ (by decide)) (hx _ (by decide)) (hx _ (by decide)), (p4 q).2.kept (hx _ (by decide)) (hx _ (by decide)) (hx _ (by decide)) (hx _ (by decide))⟩, by rw [hx 1 (by decide)]; exact p5⟩, ⟨?_, ⟨?_, c46.1.2.1, fun p hp => ?_, fun t ht => ?_⟩, ⟨?_, ?_, ?_, ?_, ?_⟩, ⟨?_, k47.2.1, fun i hi => ?_⟩, ?_, fun q => ⟨?_, (q6' q).2.1.kept (hz _ (by decide)) (hz _ (by decide)) (hz _ (by decide)) (hz _ (by decide)) (hy _ (by decide) (by decide)) (hy _ (by decide) (by decide)), (q6' q).2.2.kept (hz _ (by decide)) (hy _ (by decide) (by decide))⟩⟩⟩, fa_of (by decide) hx, fb_of (by decide) hy⟩
    · rw [hz 1 (by decide), hy (ch 2 0) (by decide) (by decide)]; exact q1
    · rw [v1]; exact s1
    · rw [kk _ (by decide), d3 _ (by decide), c3 _ (by decide), b2 p hp]
      exact ⟨s2 p hp, (c46.1.2.2.1.1 p hp).2⟩
    · have ht' : t < u 3 := ht
      have h5 := c46.1.2.1
      obtain ⟨⟨-, r2⟩, -, r3⟩ := c46.1.2.2.2 t ht'
      rw [kk _ (by decide), d3 _ (by decide), c2 _ (by omega), c2 _ (by omega), b3 _ (by decide)]
      exact ⟨⟨(s3 t ht').1, r2⟩, (s3 t ht').2, r3⟩
    · rw [hz 2 (by decide)]; show _ = R 14 4; rw [g9]; exact q3.1
    · rw [hz 3 (by decide)]; show _ = R 14 5; rw [g10]; exact q3.2.1
    · rw [v2]; exact s4
    · rw [v3]; exact s5
    · rw [v4]; exact s6
    · rw [v5]; exact s7
    · have hi' : i < u 4 := hi
      have h5 := k47.2.1
      obtain ⟨⟨-, r1⟩, ⟨-, r2⟩, -, r3⟩ := k47.2.2 i hi'
      rw [kk _ (by decide), d2 _ (by omega), d2 _ (by omega), d2 _ (by omega), c3 _ (by decide), b3 _ (by decide)]
      exact ⟨⟨(s8 i hi').1, r1⟩, ⟨(s8 i hi').2.1, r2⟩, (s8 i hi').2.2, r3⟩
    · rw [hz 7 (by decide), hz 14 (by decide), hz 20 (by decide)]; exact q5
    · rw [hz 20 (by decide)]; exact (q6' q).1
  · have h80 : u 8 = 0 := by omega
    have hne := y5 h80
    refine ⟨-103, M, W, ?_, ?_, by omega, Rel.same hG hC hM (FC.rf M) (FM.rf W)⟩
    · simp (disch := omega) only [f_X7_restore, gd_t, e, if_pos]
    · simp (disch := omega) only [f_X8_restore, y1, gd_t, if_neg]
