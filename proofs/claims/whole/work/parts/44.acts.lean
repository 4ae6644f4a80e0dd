/-! the acts -/
theorem nIC {M M' : Mem} (hf : ∀ a, a ∈ icl → M' a = M a) : ∀ a, a ∈ icl → M' a = M a := hf
theorem up_s {α : Type} (f : Nat → α) (i : Nat) (v : α) : up f i v i = v := by simp [up]
theorem up_n {α : Type} (f : Nat → α) {i j : Nat} (v : α) (h : j ≠ i) : up f i v j = f j := by simp [up, h]
theorem op_letter {N : Nat} {a : Int} (ha : inR a) : Both (f_X7_letter N 1 a) (f_X8_letter N 2 a) := by
  rintro b M W hb ⟨u, R, hG, hC, hM⟩
  have hRl : Rel (b + 1) M W := ⟨u, R, hG.up (by omega), hC, hM⟩
  obtain ⟨⟨p1, p2, p3⟩, hCr⟩ := hC
  obtain ⟨⟨m1, m3⟩, hMr⟩ := hM
  by_cases hq : 1 ≤ a ∧ a ≤ 126
  · by_cases hn : u 0 = 12
    · refine ⟨-104, M, W, ?_, ?_, by omega, hRl, FA.rf M, FB.rf W⟩
      · simp (disch := omega) only [f_X7_letter, f_X2_write, gd_t, if_neg, if_pos, reduceIte, c10, p1, bnd_s]
      · simp (disch := omega) only [f_X8_letter, in_s, gd_t, if_neg, if_pos, reduceIte, m1, bnd_s]
    · have e1 : f_X7_letter N 1 a M = some ((u 0 : Int) + 1, st (st M (ch 43 0) (u 0) a) 43 1 ((u 0 : Int) + 1)) := by
        have t1 : (st M (ch 43 0) (u 0) a) 43 1 = (u 0 : Int) := by rw [st_ne _ _ _ _ (by decide)]; exact p1
        simp (disch := omega) only [f_X7_letter, f_X2_write, gd_t, if_neg, if_pos, reduceIte, c10, p1, bnd_s, tn_c, t1]
        simp [st_same]
      have e2 : f_X8_letter N 2 a W = some ((u 0 : Int) + 1, st (st W (ch 2 0) (u 0) a) 2 1 ((u 0 : Int) + 1)) := by
        have t1 : (st W (ch 2 0) (u 0) a) 2 1 = (u 0 : Int) := by rw [st_ne _ _ _ _ (by decide)]; exact m1
        simp (disch := omega) only [f_X8_letter, in_s, gd_t, if_neg, if_pos, reduceIte, m1, bnd_s, tn_c, t1]
        simp [st_same]
      refine ⟨_, _, _, e1, e2, by omega, ⟨up u 0 (u 0 + 1), up R 0 (updR (R 0) (u 0) a), hG.up (by omega), ⟨⟨?_, ?_, ?_⟩, ?_⟩, ⟨⟨?_, ?_⟩, ?_⟩⟩, ((FA.rf M).st (by decide)).st (by decide), ((FB.rf W).st (by decide)).st (by decide)⟩
      · rw [up_s, st_same]; simp
      · rw [up_s]; omega
      · intro i hi
        rw [up_s] at hi
        rw [up_s, st_ne _ _ _ _ (by decide), st_same]
        unfold updR
        by_cases c : i = u 0
        · simp only [if_pos c]; exact ⟨trivial, hq⟩
        · simp only [if_neg c]; exact p3 i (by omega)
      · have hC' : IC u R (st (st M (ch 43 0) (u 0) a) 43 1 ((u 0 : Int) + 1)) → _ := fun h => h.2
        have hx : ∀ o, o ≠ 43 → o ≠ ch 43 0 → (st (st M (ch 43 0) (u 0) a) 43 1 ((u 0 : Int) + 1)) o = M o := fun o h1 h2 => by rw [st_ne _ _ _ _ h1, st_ne _ _ _ _ h2]
        obtain ⟨⟨h2, h2'⟩, h3, h4, h5⟩ := hCr
        refine ⟨⟨h2.kept (hx _ (by decide) (by decide)) (hx _ (by decide) (by decide)) (hx _ (by decide) (by decide)) (hx _ (by decide) (by decide)) (hx _ (by decide) (by decide)), ?_⟩, h3.kept (hx _ (by decide) (by decide)) (hx _ (by decide) (by decide)) (hx _ (by decide) (by decide)) (hx _ (by decide) (by decide)), fun q => ⟨⟨(h4 q).1.1.kept (hx _ (by decide) (by decide)) (hx _ (by decide) (by decide)) (hx _ (by decide) (by decide)) (hx _ (by decide) (by decide)) (hx _ (by decide) (by decide)), ?_⟩, (h4 q).2.kept (hx _ (by decide) (by decide)) (hx _ (by decide) (by decide)) (hx _ (by decide) (by decide)) (hx _ (by decide) (by decide))⟩, ?_⟩
        · rw [hx 44 (by decide) (by decide)]; exact h2'
        · rw [hx 46 (by decide) (by decide)]; exact (h4 q).1.2
        · rw [hx 1 (by decide) (by decide)]; exact h5
      · rw [up_s, st_same]; simp
      · intro i hi
        rw [up_s] at hi
        rw [up_s, st_ne _ _ _ _ (by decide), st_same]
        unfold updR
        by_cases c : i = u 0
        · simp only [if_pos c]
        · simp only [if_neg c]; exact m3 i (by omega)
      · have hx : ∀ o, o ≠ 2 → o ≠ ch 2 0 → (st (st W (ch 2 0) (u 0) a) 2 1 ((u 0 : Int) + 1)) o = W o := fun o h1 h2 => by rw [st_ne _ _ _ _ h1, st_ne _ _ _ _ h2]
        have hy : ∀ k, k ≠ 1 → (st (st W (ch 2 0) (u 0) a) 2 1 ((u 0 : Int) + 1)) 2 k = W 2 k := fun k hk => by rw [st_same]; simp only [if_neg hk]; rw [st_ne _ _ _ _ (by decide)]
        unfold MdOK Kn8 KsM KkM at *
        rw [hx (ch 2 8) (by decide) (by decide), hx (ch 2 10) (by decide) (by decide), hx (ch 2 17) (by decide) (by decide), hx (ch 2 26) (by decide) (by decide), hx (ch 2 27) (by decide) (by decide), hx (ch 2 28) (by decide) (by decide),
          hy 2 (by decide), hy 3 (by decide), hy 4 (by decide), hy 5 (by decide), hy 6 (by decide), hy 7 (by decide), hy 9 (by decide), hy 14 (by decide), hy 16 (by decide), hy 20 (by decide), hy 21 (by decide), hy 22 (by decide), hy 23 (by decide), hy 24 (by decide), hy 25 (by decide)]
        exact hMr
  · refine ⟨-102, M, W, ?_, ?_, by omega, hRl, FA.rf M, FB.rf W⟩
    · by_cases c : a < 1
      · simp (disch := omega) only [f_X7_letter, gd_t, if_neg, if_pos, reduceIte]
      · simp (disch := omega) only [f_X7_letter, gd_t, if_neg, if_pos, reduceIte]
    · simp (disch := omega) only [f_X8_letter, in_s, gd_t, if_neg, if_pos, reduceIte, bnd_s]
