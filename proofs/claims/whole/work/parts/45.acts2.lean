theorem PgC.kept {M M' : Mem} {n : Nat} {P : Row} (h : PgC M n P) (h0 : M' 43 = M 43) (h1 : M' (ch 43 0) = M (ch 43 0)) : PgC M' n P := by
  unfold PgC; rw [h0, h1]; exact h
theorem StC.kept {M M' : Mem} {o T : Nat} {S K H C : Row} (h : StC M o T S K H C) (h0 : M' o = M o) (h1 : M' (ch o 1) = M (ch o 1)) (h2 : M' (ch o 2) = M (ch o 2)) (h3 : M' (ch (ch o 0) 0) = M (ch (ch o 0) 0)) (h4 : M' (ch (ch o 0) 1) = M (ch (ch o 0) 1)) : StC M' o T S K H C :=
  ⟨h.1.kept h0 h1 h2 h3 h4, by rw [h0]; exact h.2⟩
theorem KsM.kept {M M' : Mem} {T : Nat} {S K H C : Row} (h : KsM M T S K H C) (h0 : M' 2 21 = M 2 21) (h1 : M' 2 22 = M 2 22) (h2 : M' 2 23 = M 2 23) (h3 : M' 2 24 = M 2 24) (h4 : M' (ch 2 26) = M (ch 2 26)) (h5 : M' (ch 2 27) = M (ch 2 27)) : KsM M' T S K H C := by
  unfold KsM; rw [h0, h1, h2, h3, h4, h5]; exact h
theorem KkM.kept {M M' : Mem} {m : Nat} {P D B : Row} (h : KkM M m P D B) (h0 : M' 2 25 = M 2 25) (h1 : M' (ch 2 28) = M (ch 2 28)) : KkM M' m P D B := by
  unfold KkM; rw [h0, h1]; exact h
def stl : List Nat := [44, ch 44 1, ch 44 2, ch (ch 44 0) 0, ch (ch 44 0) 1, ch (ch 44 0) 2]
def mdl : List Nat := [ch 2 8, ch 2 10, ch 2 11, ch 2 12, ch 2 13]
theorem stl_md : ∀ x, x ∈ stl → md x = false := by decide
theorem mdl_md : ∀ x, x ∈ mdl → md x = true := by decide
theorem fa_of {M M' : Mem} {l : List Nat} (hl : ∀ x, x ∈ l → md x = false) (hf : ∀ o, o ∉ l → M' o = M o) : FA M M' := fun a ha => hf a (fun q => by have := hl a q; rw [ha] at this; cases this)
theorem fb_of {W W' : Mem} {l : List Nat} (hl : ∀ x, x ∈ l → md x = true) (hf : ∀ o, o ≠ 2 → o ∉ l → W' o = W o) : FB W W' := fun a ha => hf a (fun q => by subst q; cases ha) (fun q => by have := hl a q; rw [ha] at this; cases this)
/-- an act on the street -/
theorem act_st {b : Nat} {u : Nat → Nat} {R : Nat → Row} {M W M' W' : Mem} (hG : GG b u R) (hC : IC u R M) (hM : IM u R W) {T : Nat} {S K H C : Row}
    (h1 : StC M' 44 T S K H C) (h2 : ∀ o, o ∉ stl → M' o = M o) (h3 : MdOK W' S T K H) (h4 : W' 2 4 = C 6 ∧ W' 2 5 = C 7 ∧ W' 2 6 = C 8) (h5 : ∀ o, o ≠ 2 → o ∉ mdl → W' o = W o) (h6 : ∀ k, k ∉ [4, 5, 6, 9] → W' 2 k = W 2 k)
    (h7 : C 4 = R 4 4) (h8 : C 5 = R 4 5) (h9 : ∀ j, 6 ≤ j → j ≤ 8 → 0 ≤ C j ∧ C j ≤ 6 * ((b + 1 : Nat) : Int)) : Rel (b + 1) M' W' ∧ FA M M' ∧ FB W W' := by
  obtain ⟨p1, p2, p3, p4, p5⟩ := hC
  obtain ⟨q1, q2, q3, q4, q5, q6⟩ := hM
  obtain ⟨g1, g2, g3, g4, ⟨g5, g6, g7⟩, g8, g9⟩ := hG.up (show b ≤ b + 1 by omega)
  refine ⟨⟨fun i => if i = 1 then T else u i, fun i => if i = 1 then S else if i = 2 then K else if i = 3 then H else if i = 4 then C else R i, ⟨g1, g2, g3, g4, ⟨by show 0 ≤ C 4 ∧ C 4 ≤ 9; rw [h7]; exact g5, by show 0 ≤ C 5 ∧ C 5 ≤ 9; rw [h8]; exact g6, h9⟩, by show C 5 = 0 ↔ u 7 = 0; rw [h8]; exact g8, fun q => by show _ ∧ R 14 4 = C 4 ∧ R 14 5 = C 5; rw [h7, h8]; exact g9 q⟩, ⟨p1.kept (h2 _ (by decide)) (h2 _ (by decide)), h1, p3.kept (h2 _ (by decide)) (h2 _ (by decide)) (h2 _ (by decide)) (h2 _ (by decide)), fun q => ⟨(p4 q).1.kept (h2 _ (by decide)) (h2 _ (by decide)) (h2 _ (by decide)) (h2 _ (by decide)) (h2 _ (by decide)), (p4 q).2.kept (h2 _ (by decide)) (h2 _ (by decide)) (h2 _ (by decide)) (h2 _ (by decide))⟩, by rw [h2 1 (by decide)]; exact p5⟩, ⟨?_, h3, ?_, q4.kept (h6 _ (by decide)) (h5 _ (by decide) (by decide)), ?_, fun q => ⟨?_, (q6 q).2.1.kept (h6 _ (by decide)) (h6 _ (by decide)) (h6 _ (by decide)) (h6 _ (by decide)) (h5 _ (by decide) (by decide)) (h5 _ (by decide) (by decide)), (q6 q).2.2.kept (h6 _ (by decide)) (h5 _ (by decide) (by decide))⟩⟩⟩, fa_of stl_md h2, fb_of mdl_md h5⟩
  · rw [h6 1 (by decide), h5 (ch 2 0) (by decide) (by decide)]; exact q1
  · refine ⟨?_, ?_, h4⟩
    · rw [h6 2 (by decide)]; show _ = C 4; rw [h7]; exact q3.1
    · rw [h6 3 (by decide)]; show _ = C 5; rw [h8]; exact q3.2.1
  · rw [h6 7 (by decide), h6 14 (by decide), h6 20 (by decide)]; exact q5
  · rw [h6 20 (by decide)]; exact (q6 q).1
theorem Rel.same {b : Nat} {u : Nat → Nat} {R : Nat → Row} {M W M' W' : Mem} (hG : GG b u R) (hC : IC u R M) (hM : IM u R W) (h1 : FC M M') (h2 : FM W W') : Rel (b + 1) M' W' ∧ FA M M' ∧ FB W W' := ⟨⟨u, R, hG.up (by omega), hC.fc h1, hM.fm h2⟩, h1.fa, h2.fb⟩
theorem cnt_up {b : Nat} {C : Row} (h : cOK b C) {x y z : Int} (hx : 0 ≤ x ∧ x ≤ 6) (hy : 0 ≤ y ∧ y ≤ 6) (hz : 0 ≤ z ∧ z ≤ 6) {D : Row} (h6 : D 6 = C 6 + x) (h7 : D 7 = C 7 + y) (h8 : D 8 = C 8 + z) : ∀ j, 6 ≤ j → j ≤ 8 → 0 ≤ D j ∧ D j ≤ 6 * ((b + 1 : Nat) : Int) := by
  intro j ha hb
  have q6 := h.2.2 6 (by omega) (by omega)
  have q7 := h.2.2 7 (by omega) (by omega)
  have q8 := h.2.2 8 (by omega) (by omega)
  rcases (show j = 6 ∨ j = 7 ∨ j = 8 by omega) with rfl | rfl | rfl <;> omega
theorem op_prop {N : Nat} {a : Int} (ha : inR a) : Both (f_X7_prop N 1 a) (f_X8_prop N 2 a) := by
  rintro b M W hb ⟨u, R, hG, hC, hM⟩
  by_cases hp : u 7 = 1 ∧ 0 ≤ a ∧ a ≤ 5
  · obtain ⟨p, rfl⟩ : ∃ p : Nat, a = (p : Int) := ⟨a.toNat, by omega⟩
    have hp6 : p < 6 := by omega
    have e7 := isPl7_y (N := N) (b := b) (v := (p : Int)) hC hp.1 (by omega)
    have e8 := isPl8_y (N := N) (v := (p : Int)) hG hM hp.1 (by omega)
    obtain ⟨s1, s2, s3⟩ := hC.rf.1 p hp6
    obtain ⟨d1, -, -⟩ := hM.2.1.2.2.1 p hp6
    by_cases z : R 1 p = 0
    · refine ⟨-103, M, W, ?_, ?_, by omega, Rel.same hG hC hM (FC.rf M) (FM.rf W)⟩
      · simp (disch := omega) only [f_X7_prop, e7, bnd_s, gd_t, if_neg, if_pos, reduceIte, c11, stands_s hC.rf hp6, z]
      · simp (disch := omega) only [f_X8_prop, e8, bnd_s, gd_t, if_neg, if_pos, reduceIte, tn_c, d1, z]
    · by_cases y : R 1 p + 3 ≤ 20
      · have q8 := hG.2.2.2.2.1.2.2 8 (by omega) (by omega)
        have e1 : f_X7_prop N 1 (p : Int) M = some (R 1 p + 3, st (st M (ch (ch 44 0) 0) p (R 1 p + 3)) 44 8 (R 4 8 + 1)) := by
          have t1 : (st M (ch (ch 44 0) 0) p (R 1 p + 3)) 44 8 = R 4 8 := by rw [st_ne _ _ _ _ (by decide)]; exact hC.2.1.2 8 (by omega) (by omega)
          simp (disch := omega) only [f_X7_prop, e7, bnd_s, gd_t, if_neg, if_pos, reduceIte, c11, stands_s hC.rf hp6, tn_c, s1, t1]
          rw [st_ne _ _ _ _ (show ch (ch 44 0) 0 ≠ 44 by decide), st_same]
          simp
        have e2 : f_X8_prop N 2 (p : Int) W = some (R 1 p + 3, st (st W (ch 2 8) p (R 1 p + 3)) 2 6 (R 4 8 + 1)) := by
          have t1 : (st W (ch 2 8) p (R 1 p + 3)) 2 6 = R 4 8 := by rw [st_ne _ _ _ _ (by decide)]; exact hM.2.2.1.2.2.2.2
          simp (disch := omega) only [f_X8_prop, e8, bnd_s, gd_t, if_neg, if_pos, reduceIte, tn_c, d1, t1]
          rw [st_ne _ _ _ _ (show ch 2 8 ≠ 2 by decide), st_same]
          simp
        have f1 : ∀ o, o ≠ 44 → o ≠ ch (ch 44 0) 0 → (st (st M (ch (ch 44 0) 0) p (R 1 p + 3)) 44 8 (R 4 8 + 1)) o = M o := fun o h1 h2 => by rw [st_ne _ _ _ _ h1, st_ne _ _ _ _ h2]
        have f2 : ∀ o, o ≠ 2 → o ≠ ch 2 8 → (st (st W (ch 2 8) p (R 1 p + 3)) 2 6 (R 4 8 + 1)) o = W o := fun o h1 h2 => by rw [st_ne _ _ _ _ h1, st_ne _ _ _ _ h2]
        have f3 : ∀ k, k ≠ 6 → (st (st W (ch 2 8) p (R 1 p + 3)) 2 6 (R 4 8 + 1)) 2 k = W 2 k := fun k hk => by rw [st_same]; simp only [if_neg hk]; rw [st_ne _ _ _ _ (by decide)]
        have f4 : ∀ k, k ≠ 8 → (st (st M (ch (ch 44 0) 0) p (R 1 p + 3)) 44 8 (R 4 8 + 1)) 44 k = M 44 k := fun k hk => by rw [st_same]; simp only [if_neg hk]; rw [st_ne _ _ _ _ (by decide)]
        have hr := hC.rf
        have hst := hC.st
        refine ⟨_, _, _, e1, e2, by omega, act_st (T := u 1) (S := updR (R 1) p (R 1 p + 3)) (K := R 2) (H := R 3) (C := updR (R 4) 8 (R 4 8 + 1)) hG hC hM ⟨⟨?_, hst.2.1, ⟨fun q hq => ?_, fun q hq => ?_⟩, fun t ht => ?_⟩, fun j h4 h8 => ?_⟩ (fun o ho => f1 o (nsc ho (by decide)) (nsc ho (by decide))) ⟨?_, hst.2.1, fun q hq => ?_, fun t ht => ?_⟩ ⟨?_, ?_, ?_⟩ (fun o h1 h2 => f2 o h1 (nsc h2 (by decide))) (fun k hk => f3 k (nsc hk (by decide))) rfl rfl (cnt_up (x := 0) (y := 0) (z := 1) hG.2.2.2.2.1 (by omega) (by omega) (by omega) (by simp [updR]) (by simp [updR]) (by simp [updR]))⟩
        · rw [f4 3 (by decide)]; exact hst.1
        · rw [st_ne _ _ _ _ (by decide), st_same]
          unfold updR
          by_cases c : q = p
          · simp only [if_pos c]; exact ⟨trivial, by omega, by omega⟩
          · simp only [if_neg c]; exact hr.1 q hq
        · rw [f1 _ (by decide) (by decide)]; exact hr.2 q hq
        · rw [f1 (ch 44 1) (by decide) (by decide), f1 (ch 44 2) (by decide) (by decide)]; exact hst.2.2.2 t ht
        · rw [st_same]
          unfold updR
          by_cases c : j = 8
          · simp only [if_pos c]
          · simp only [if_neg c]; rw [st_ne _ _ _ _ (by decide)]; exact hC.2.1.2 j h4 h8
        · rw [f3 9 (by decide)]; exact hM.2.1.1
        · rw [st_ne _ _ _ _ (by decide), st_same]
          unfold updR
          by_cases c : q = p
          · simp only [if_pos c]; exact ⟨trivial, by omega, by omega⟩
          · simp only [if_neg c]; exact hM.2.1.2.2.1 q hq
        · rw [f2 (ch 2 10) (by decide) (by decide)]; exact hM.2.1.2.2.2 t ht
        · rw [f3 4 (by decide)]; exact hM.2.2.1.2.2.1
        · rw [f3 5 (by decide)]; exact hM.2.2.1.2.2.2.1
        · rw [st_same]; simp [updR]
      · refine ⟨-103, M, W, ?_, ?_, by omega, Rel.same hG hC hM (FC.rf M) (FM.rf W)⟩
        · simp (disch := omega) only [f_X7_prop, e7, bnd_s, gd_t, if_neg, if_pos, reduceIte, c11, stands_s hC.rf hp6, z, tn_c, s1]
        · simp (disch := omega) only [f_X8_prop, e8, bnd_s, gd_t, if_neg, if_pos, reduceIte, tn_c, d1, z]
  · refine ⟨-101, M, W, ?_, ?_, by omega, Rel.same hG hC hM (FC.rf M) (FM.rf W)⟩
    · simp (disch := omega) only [f_X7_prop, isPl7_n hG hC ha hp, bnd_s, gd_t, if_pos, reduceIte]
    · simp (disch := omega) only [f_X8_prop, isPl8_n hG hM ha hp, bnd_s, gd_t, if_pos, reduceIte]
theorem op_tenant {N : Nat} {a c : Int} (ha : inR a) (hc : inR c) : Both (f_X7_tenant N 1 a c) (f_X8_tenant N 2 a c) := by
  rintro b M W hb ⟨u, R, hG, hC, hM⟩
  by_cases hk : 0 ≤ a ∧ a ≤ 4
  · have ek := isKind_s (N := N) (M := M) hk
    by_cases hp : u 7 = 1 ∧ 0 ≤ c ∧ c ≤ 5
    · obtain ⟨p, rfl⟩ : ∃ p : Nat, c = (p : Int) := ⟨c.toNat, by omega⟩
      have hp6 : p < 6 := by omega
      have e7 := isPl7_y (N := N) (b := b) (v := (p : Int)) hC hp.1 (by omega)
      have e8 := isPl8_y (N := N) (v := (p : Int)) hG hM hp.1 (by omega)
      obtain ⟨s1, s2, s3⟩ := hC.rf.1 p hp6
      obtain ⟨d1, -, -⟩ := hM.2.1.2.2.1 p hp6
      have h5 := hC.st.2.1
      have t3 : M 44 3 = (u 1 : Int) := hC.st.1
      have w9 := hM.2.1.1
      by_cases z : R 1 p = 0
      · refine ⟨-103, M, W, ?_, ?_, by omega, Rel.same hG hC hM (FC.rf M) (FM.rf W)⟩
        · simp (disch := omega) only [f_X7_tenant, ek, e7, bnd_s, gd_t, if_neg, if_pos, reduceIte, c11, stands_s hC.rf hp6, z]
        · simp (disch := omega) only [f_X8_tenant, in_s, e8, bnd_s, gd_t, if_neg, if_pos, reduceIte, tn_c, d1, z]
      · by_cases y : u 1 = 5
        · refine ⟨-104, M, W, ?_, ?_, by omega, Rel.same hG hC hM (FC.rf M) (FM.rf W)⟩
          · simp (disch := omega) only [f_X7_tenant, ek, e7, bnd_s, gd_t, if_neg, if_pos, reduceIte, c11, stands_s hC.rf hp6, z, t3]
          · simp (disch := omega) only [f_X8_tenant, in_s, e8, bnd_s, gd_t, if_neg, if_pos, reduceIte, tn_c, d1, z, w9]
        · obtain ⟨M1, a1, a2, a3, a4⟩ := welcome_s (N := N) hC.st (show u 1 < 5 by omega) hk hp6 z
          have e1 : f_X7_tenant N 1 a (p : Int) M = some ((u 1 : Int), M1) := by
            have t4 : M1 44 3 = ((u 1 + 1 : Nat) : Int) := a2.1
            simp (disch := omega) only [f_X7_tenant, ek, e7, bnd_s, bnv_s, gd_t, if_neg, if_pos, reduceIte, c11, stands_s hC.rf hp6, z, t3, a1, t4]
            congr 2
            omega
          have e2 : f_X8_tenant N 2 a (p : Int) W = some ((u 1 : Int), st (st (st W (ch 2 10) (2 * u 1) a) (ch 2 10) (2 * u 1 + 1) (p : Int)) 2 9 ((u 1 : Int) + 1)) := by
            have t1 : (st W (ch 2 10) (2 * u 1) a) 2 9 = (u 1 : Int) := by rw [st_ne _ _ _ _ (by decide)]; exact w9
            have t2 : (st (st W (ch 2 10) (2 * u 1) a) (ch 2 10) (2 * u 1 + 1) (p : Int)) 2 9 = (u 1 : Int) := by rw [st_ne _ _ _ _ (by decide)]; exact t1
            simp (disch := omega) only [f_X8_tenant, in_s, e8, bnd_s, gd_t, if_neg, if_pos, reduceIte, tn_c, tn_2, tn_21, d1, z, w9, t1, t2]
            rw [st_same]
            simp
          have f2 : ∀ o, o ≠ 2 → o ≠ ch 2 10 → (st (st (st W (ch 2 10) (2 * u 1) a) (ch 2 10) (2 * u 1 + 1) (p : Int)) 2 9 ((u 1 : Int) + 1)) o = W o := fun o h1 h2 => by rw [st_ne _ _ _ _ h1, st_ne _ _ _ _ h2, st_ne _ _ _ _ h2]
          have f3 : ∀ k, k ≠ 9 → (st (st (st W (ch 2 10) (2 * u 1) a) (ch 2 10) (2 * u 1 + 1) (p : Int)) 2 9 ((u 1 : Int) + 1)) 2 k = W 2 k := fun k hk => by rw [st_same]; simp only [if_neg hk]; rw [st_ne _ _ _ _ (by decide), st_ne _ _ _ _ (by decide)]
          refine ⟨_, _, _, e1, e2, by omega, act_st (T := u 1 + 1) (S := R 1) (K := updR (R 2) (u 1) a) (H := updR (R 3) (u 1) (p : Int)) (C := R 4) hG hC hM ⟨a2, fun j h4 h8 => ?_⟩ (fun o ho => a4 o (nsc ho (by decide)) (nsc ho (by decide)) (nsc ho (by decide)) (nsc ho (by decide))) ⟨?_, by omega, fun q hq => ?_, fun t ht => ?_⟩ ⟨?_, ?_, ?_⟩ (fun o h1 h2 => f2 o h1 (nsc h2 (by decide))) (fun k hk => f3 k (nsc hk (by decide))) rfl rfl (cnt_up (x := 0) (y := 0) (z := 0) hG.2.2.2.2.1 (by omega) (by omega) (by omega) (by omega) (by omega) (by omega))⟩
          · rw [a3 j (by omega)]; exact hC.2.1.2 j h4 h8
          · rw [st_same]; simp
          · rw [f2 _ (by decide) (by decide)]; exact hM.2.1.2.2.1 q hq
          · rw [st_ne _ _ _ _ (by decide), st_same, st_same]
            unfold updR
            by_cases c : t = u 1
            · subst c
              simp only [reduceIte]
              simp (disch := omega) only [if_neg, true_and]
              omega
            · simp (disch := omega) only [if_neg]
              exact hM.2.1.2.2.2 t (by omega)
          · rw [f3 4 (by decide)]; exact hM.2.2.1.2.2.1
          · rw [f3 5 (by decide)]; exact hM.2.2.1.2.2.2.1
          · rw [f3 6 (by decide)]; exact hM.2.2.1.2.2.2.2
    · refine ⟨-101, M, W, ?_, ?_, by omega, Rel.same hG hC hM (FC.rf M) (FM.rf W)⟩
      · simp (disch := omega) only [f_X7_tenant, ek, isPl7_n hG hC hc hp, bnd_s, gd_t, if_pos, if_neg, reduceIte]
      · simp (disch := omega) only [f_X8_tenant, in_s, isPl8_n hG hM hc hp, bnd_s, gd_t, if_pos, if_neg, reduceIte]
  · refine ⟨-102, M, W, ?_, ?_, by omega, Rel.same hG hC hM (FC.rf M) (FM.rf W)⟩
    · simp (disch := omega) only [f_X7_tenant, isKind_n ha hk, bnd_s, gd_t, if_pos, if_neg, reduceIte]
    · simp (disch := omega) only [f_X8_tenant, in_s, bnd_s, gd_t, if_pos, if_neg, reduceIte]
