/-! a gallery is read -/
theorem open_s {N : Nat} {M : Mem} {P : Row} (hN : 20 ≤ N) (hp : ∀ i, i < 9 → M (ch 43 0) i = P i) : ∃ M', f_X6_open N 44 43 M = some M' ∧ (∀ p, p < 6 → M' (ch (ch 44 0) 0) p = P p - 48 ∧ M' (ch (ch 44 0) 1) p = 0) ∧ (M' 44 3 = 0 ∧ M' 44 4 = P 7 - 48 ∧ M' 44 5 = P 8 - 48 ∧ M' 44 6 = 0 ∧ M' 44 7 = 0 ∧ M' 44 8 = 0) ∧ ∀ o, o ≠ 44 → o ≠ ch (ch 44 0) 0 → o ≠ ch (ch 44 0) 1 → M' o = M o := by
  have hd : ∀ (m : Mem), m (ch 43 0) = M (ch 43 0) → ∀ i : Nat, i < 9 → f_X2_digit N 43 (i : Int) m = some (P i - 48, m) := fun m hm i hi => by
    have := hp i hi
    simp (disch := omega) only [f_X2_digit, gd_t, if_neg, tn_c, hm, this]
  obtain ⟨M1, ⟨i1, i2⟩, he⟩ := lp_eq (fun n k (m : Mem) => f_X6_open_2 N 44 43 n k m) (fun m => f_X6_open_2 N 44 43 1 6 m) (fun k m => (∀ o, o ≠ ch (ch 44 0) 0 → o ≠ ch (ch 44 0) 1 → m o = M o) ∧ ∀ p, p < k → m (ch (ch 44 0) 0) p = P p - 48 ∧ m (ch (ch 44 0) 1) p = 0) 6
    (fun n k m hk hm => by
      obtain ⟨m1, m2⟩ := hm
      have e := hd m (m1 _ (by decide) (by decide)) k (by omega)
      refine ⟨st (st m (ch (ch 44 0) 0) k (P k - 48)) (ch (ch 44 0) 1) k 0, ⟨fun o h1 h2 => by rw [st_ne _ _ _ _ h2, st_ne _ _ _ _ h1]; exact m1 o h1 h2, fun p hp => ?_⟩, ?_⟩
      · rw [st_same, st_ne _ _ _ _ (show ch (ch 44 0) 0 ≠ ch (ch 44 0) 1 by decide), st_same, st_ne _ _ _ _ (show ch (ch 44 0) 1 ≠ ch (ch 44 0) 0 by decide)]
        by_cases c : p = k
        · subst c; simp
        · simp only [if_neg c]; exact m2 p (by omega)
      · simp (disch := omega) only [f_X6_open_2, gd_t, if_neg, e, bnd_s, tn_c])
    (fun n m hm => rfl) 6 0 N M rfl (by omega) ⟨fun _ _ _ => rfl, fun p hp => by omega⟩
  have h7 := hd M1 (i1 _ (by decide) (by decide)) 7 (by omega)
  have h8 := hd (st M1 44 4 (P 7 - 48)) (by rw [st_ne _ _ _ _ (by decide)]; exact i1 _ (by decide) (by decide)) 8 (by omega)
  have e2 : f_X6_open_2 N 44 43 1 6 M1 = some (st (st (st (st (st (st M1 44 4 (P 7 - 48)) 44 5 (P 8 - 48)) 44 3 0) 44 6 0) 44 7 0) 44 8 0) := by
    have h7' : f_X2_digit N 43 7 M1 = _ := h7
    have h8' : f_X2_digit N 43 8 _ = _ := h8
    simp (disch := omega) only [f_X6_open_2, gd_t, if_pos, h7', h8', bnd_s, reduceIte]
  refine ⟨_, he.trans e2, fun p hp => ?_, ?_, fun o h1 h2 h3 => ?_⟩
  · rw [st_ne _ _ _ _ (by decide), st_ne _ _ _ _ (by decide), st_ne _ _ _ _ (by decide), st_ne _ _ _ _ (by decide), st_ne _ _ _ _ (by decide), st_ne _ _ _ _ (by decide), st_ne _ _ _ _ (by decide), st_ne _ _ _ _ (by decide), st_ne _ _ _ _ (by decide), st_ne _ _ _ _ (by decide), st_ne _ _ _ _ (by decide), st_ne _ _ _ _ (by decide)]
    exact i2 p hp
  · simp [st_same]
  · rw [st_ne _ _ _ _ h1, st_ne _ _ _ _ h1, st_ne _ _ _ _ h1, st_ne _ _ _ _ h1, st_ne _ _ _ _ h1, st_ne _ _ _ _ h1]
    exact i1 o h2 h3
def glM (A : Mem) (x y g : Int) : Mem := st (st (st (st (st (st (st (st (st A 2 2 x) 2 3 y) 2 4 0) 2 5 0) 2 6 0) 2 9 0) 2 16 0) 2 7 g) 2 1 0
theorem gal8_s {N : Nat} {W : Mem} {P : Row} {g : Int} (hN : 20 ≤ N) (hg : W 2 7 = g) (hp : ∀ i, i < 9 → W (ch 2 0) i = P i) (hpd : ∀ i, i < 6 → 0 ≤ P i - 48 ∧ P i - 48 ≤ 20) : ∃ A, f_X8_gallery_23 N 2 N 0 W = some (cntS (fun p => P p - 48), glM A (P 7 - 48) (P 8 - 48) (g + 1)) ∧ (∀ p, p < 6 → A (ch 2 8) p = P p - 48) ∧ ∀ o, o ≠ ch 2 8 → A o = W o := by
  obtain ⟨W1, ⟨i1, i2⟩, he⟩ := lp_eq (fun n k (m : Mem) => f_X8_gallery_23 N 2 n k m) (fun m => f_X8_gallery_23 N 2 1 6 m) (fun k m => (∀ o, o ≠ ch 2 8 → m o = W o) ∧ ∀ p, p < k → m (ch 2 8) p = P p - 48) 6
    (fun n k m hk hm => by
      obtain ⟨m1, m2⟩ := hm
      have e : m (ch 2 0) k = P k := by rw [m1 _ (by decide)]; exact hp k (by omega)
      refine ⟨st m (ch 2 8) k (P k - 48), ⟨fun o h1 => by rw [st_ne _ _ _ _ h1]; exact m1 o h1, fun p hp => ?_⟩, ?_⟩
      · rw [st_same]
        by_cases c : p = k
        · subst c; simp
        · simp only [if_neg c]; exact m2 p (by omega)
      · simp (disch := omega) only [f_X8_gallery_23, gd_t, if_neg, e, bnd_s, tn_c])
    (fun n m hm => rfl) 6 0 N W rfl (by omega) ⟨fun _ _ => rfl, fun p hp => by omega⟩
  have x7 : W1 (ch 2 0) 7 = P 7 := by rw [i1 _ (by decide)]; exact hp 7 (by omega)
  have x8 : W1 (ch 2 0) 8 = P 8 := by rw [i1 _ (by decide)]; exact hp 8 (by omega)
  have x9 : W1 2 7 = g := by rw [i1 _ (by decide)]; exact hg
  have e2 : f_X8_gallery_23 N 2 1 6 W1 = bnd (f_X8_standing N 2 (glM W1 (P 7 - 48) (P 8 - 48) (g + 1))) (fun r M => some (r, M)) := by
    have y8 : (st W1 2 2 (P 7 - 48)) (ch 2 0) 8 = P 8 := by rw [st_ne _ _ _ _ (by decide)]; exact x8
    have y9 : (st (st (st (st (st (st (st W1 2 2 (P 7 - 48)) 2 3 (P 8 - 48)) 2 4 0) 2 5 0) 2 6 0) 2 9 0) 2 16 0) 2 7 = g := by simp [st_same, x9]
    simp (disch := omega) only [f_X8_gallery_23, gd_t, if_pos, x7, y8, y9, reduceIte, glM]
  have e3 : f_X8_standing N 2 (glM W1 (P 7 - 48) (P 8 - 48) (g + 1)) = some (cntS (fun p => P p - 48), glM W1 (P 7 - 48) (P 8 - 48) (g + 1)) := standing8_s (by omega) (fun p hp => by
    have := i2 p hp
    have := hpd p hp
    unfold glM
    rw [st_ne _ _ _ _ (by decide), st_ne _ _ _ _ (by decide), st_ne _ _ _ _ (by decide), st_ne _ _ _ _ (by decide), st_ne _ _ _ _ (by decide), st_ne _ _ _ _ (by decide), st_ne _ _ _ _ (by decide), st_ne _ _ _ _ (by decide), st_ne _ _ _ _ (by decide)]
    exact ⟨by assumption, by assumption⟩)
  refine ⟨W1, ?_, i2, i1⟩
  rw [show f_X8_gallery_23 N 2 N 0 W = f_X8_gallery_23 N 2 N ((0 : Nat) : Int) W from rfl]
  refine he.trans ?_
  rw [e2, e3]
  rfl
theorem glM_o {A : Mem} {x y g : Int} {o : Nat} (h : o ≠ 2) : glM A x y g o = A o := by
  unfold glM
  rw [st_ne _ _ _ _ h, st_ne _ _ _ _ h, st_ne _ _ _ _ h, st_ne _ _ _ _ h, st_ne _ _ _ _ h, st_ne _ _ _ _ h, st_ne _ _ _ _ h, st_ne _ _ _ _ h, st_ne _ _ _ _ h]
theorem cntS_in (S : Row) : 0 ≤ cntS S ∧ cntS S ≤ 6 := by
  have := sumTo_in (f := fun p => if S p = 0 then 0 else 1) (a := 0) (b := 1) 6 (fun i _ => by split <;> omega)
  unfold cntS
  omega
theorem op_gallery {N : Nat} (hN : 200 ≤ N) : Both (f_X7_gallery N 1) (f_X8_gallery N 2) := by
  rintro b M W hb ⟨u, R, hG, hC, hM⟩
  obtain ⟨p1, p2, p3⟩ := hC.1
  obtain ⟨w1, w2⟩ := hM.1
  by_cases hn : u 0 = 9
  · obtain ⟨r, r1, r2, r3, r4, r5⟩ := fault_s (N := N) (by omega) hC hM
    by_cases hr : r = 9
    · subst hr
      have hgd := r5 rfl
      have hpv : ∀ i, i < 9 → M (ch 43 0) i = R 0 i := fun i hi => (p3 i (by omega)).1
      have hwv : ∀ i, i < 9 → W (ch 2 0) i = R 0 i := fun i hi => w2 i (by omega)
      have hdg : ∀ i, i < 9 → i ≠ 6 → 0 ≤ R 0 i - 48 ∧ R 0 i - 48 ≤ 9 := fun i hi h6 => by
        have := hgd i hi
        unfold gdL at this
        rw [if_neg h6] at this
        by_cases c : i = 8
        · rw [if_pos c] at this
          by_cases q : 49 ≤ R 0 i ∧ R 0 i ≤ 57
          · omega
          · rw [if_neg q] at this; omega
        · rw [if_neg c] at this
          by_cases q : 48 ≤ R 0 i ∧ R 0 i ≤ 57
          · omega
          · rw [if_neg q] at this; omega
      have h8 : 1 ≤ R 0 8 - 48 := by
        have := hgd 8 (by omega)
        unfold gdL at this
        rw [if_neg (by decide), if_pos rfl] at this
        by_cases q : 49 ≤ R 0 8 ∧ R 0 8 ≤ 57
        · omega
        · rw [if_neg q] at this; omega
      obtain ⟨M1, a1, a2, ⟨a3, a4, a5, a6, a7, a8⟩, a9⟩ := open_s (N := N) (by omega) hpv
      obtain ⟨A, b1, b2, b3⟩ := gal8_s (N := N) (g := (u 5 : Int)) (by omega) hM.2.2.2.2.1.1 hwv (fun i hi => by have := hdg i (by omega) (by omega); omega)
      have z11 : M1 1 11 = (u 5 : Int) := by rw [a9 1 (by decide) (by decide) (by decide)]; exact hC.2.2.2.2.2.2.1
      have y11 : (st (st (st (st M1 45 3 0) 43 1 0) 1 9 1) 1 10 0) 1 11 = (u 5 : Int) := by simp [st_same, st_ne, z11]
      have f1 : ∀ o, o ≠ 1 → o ≠ 43 → o ≠ 45 → (st (st (st (st (st M1 45 3 0) 43 1 0) 1 9 1) 1 10 0) 1 11 ((u 5 : Int) + 1)) o = M1 o := fun o h1 h2 h3 => by rw [st_ne _ _ _ _ h1, st_ne _ _ _ _ h1, st_ne _ _ _ _ h1, st_ne _ _ _ _ h2, st_ne _ _ _ _ h3]
      have hroof : RoofOK (st (st (st (st (st M1 45 3 0) 43 1 0) 1 9 1) 1 10 0) 1 11 ((u 5 : Int) + 1)) (ch 44 0) (fun p => R 0 p - 48) (fun _ => 0) := ⟨fun p hp => by
          rw [f1 _ (by decide) (by decide) (by decide), (a2 p hp).1]
          have := hdg p (by omega) (by omega)
          show R 0 p - 48 = R 0 p - 48 ∧ 0 ≤ R 0 p - 48 ∧ R 0 p - 48 ≤ 20
          omega, fun p hp => by
          rw [f1 _ (by decide) (by decide) (by decide), (a2 p hp).2]
          show (0 : Int) = 0 ∧ (0 : Int) ≤ 0 ∧ (0 : Int) ≤ 20
          omega⟩
      have hst := standing_s (N := N) (by omega) hroof
      have e1 : f_X7_gallery N 1 M = some (cntS (fun p => R 0 p - 48), st (st (st (st (st M1 45 3 0) 43 1 0) 1 9 1) 1 10 0) 1 11 ((u 5 : Int) + 1)) := by
        simp (disch := omega) only [f_X7_gallery, c10, c11, c12, p1, hn, gd_t, if_pos, r1, bnd_s, bnv_s, reduceIte, a1, y11, hst]
      have e2 : f_X8_gallery N 2 W = some (cntS (fun p => R 0 p - 48), glM A (R 0 7 - 48) (R 0 8 - 48) ((u 5 : Int) + 1)) := by
        simp (disch := omega) only [f_X8_gallery, w1, hn, gd_t, if_pos, r2, bnd_s, bnv_s, reduceIte, b1]
      have hs := cntS_in (fun p => R 0 p - 48)
      have hx7 := hdg 7 (by omega) (by omega)
      have hx8 := hdg 8 (by omega) (by omega)
      have A2 : A 2 = W 2 := b3 2 (by decide)
      obtain ⟨g1, g2, g3, g4, -, -, -⟩ := hG
      have hw20 := hM.2.2.2.2.1
      refine ⟨_, _, _, e1, e2, by omega, ⟨fun i => if i = 0 then 0 else if i = 1 then 0 else if i = 2 then 0 else if i = 5 then u 5 + 1 else if i = 7 then 1 else if i = 8 then 0 else u i, fun i => if i = 1 then (fun p => R 0 p - 48) else if i = 4 then (fun j => if j = 4 then R 0 7 - 48 else if j = 5 then R 0 8 - 48 else 0) else R i, ⟨?_, ?_, ?_, ?_, ⟨?_, ?_, ?_⟩, ?_, ?_⟩, ⟨⟨?_, ?_, ?_⟩, ⟨⟨?_, ?_, ?_, ?_⟩, ?_⟩, ⟨?_, ?_, ?_⟩, ?_, ?_, ?_, ?_, ?_⟩, ⟨⟨?_, ?_⟩, ⟨?_, ?_, ?_, ?_⟩, ?_, ⟨?_, ?_, ?_⟩, ?_, ?_⟩⟩, ?_, ?_⟩
      · simp
      · simp
      · simpa using g3
      · simp; omega
      · simpa using hx7
      · simpa using hx8
      · intro j h6 h8
        have : j ≠ 4 := by omega
        have : j ≠ 5 := by omega
        simp [*]
        omega
      · simp; omega
      · intro q; simp at q
      · rw [st_ne _ _ _ _ (by decide), st_ne _ _ _ _ (by decide), st_ne _ _ _ _ (by decide), st_same]; simp
      · simp
      · intro i hi; simp at hi
      · rw [f1 44 (by decide) (by decide) (by decide)]; simpa using a3
      · simp
      · exact ⟨fun p hp => by simpa using hroof.1 p hp, fun p hp => by have := hroof.2 p hp; simpa [wsT, sumTo] using this.1⟩
      · intro t ht; simp at ht
      · intro j h4 h8
        rw [f1 44 (by decide) (by decide) (by decide)]
        rcases (show j = 4 ∨ j = 5 ∨ j = 6 ∨ j = 7 ∨ j = 8 by omega) with rfl | rfl | rfl | rfl | rfl <;> simp [*]
      · rw [st_ne _ _ _ _ (by decide), st_ne _ _ _ _ (by decide), st_ne _ _ _ _ (by decide), st_ne _ _ _ _ (by decide), st_same]; simp
      · simp
      · intro i hi; simp at hi
      · intro q; simp at q
      · simp [st_same]
      · simp [st_same]
      · simp [st_same]
      · have : M1 1 12 = (u 6 : Int) := by rw [a9 1 (by decide) (by decide) (by decide)]; exact hC.2.2.2.2.2.2.2
        simp [st_same, st_ne, this]
      · unfold glM; simp [st_same]
      · intro i hi; simp at hi
      · unfold glM; simp [st_same]
      · simp
      · intro p hp
        rw [glM_o (by decide), b2 p hp]
        have := hdg p (by omega) (by omega)
        show R 0 p - 48 = R 0 p - 48 ∧ 0 ≤ R 0 p - 48 ∧ R 0 p - 48 ≤ 20
        omega
      · intro t ht; simp at ht
      · unfold glM; simp [st_same]
      · unfold glM; simp [st_same]
      · simp
      · intro i hi; simp at hi
      · unfold glM; simp [st_same, A2]; omega
      · intro q; simp at q
      · exact fun a ha => by
          rw [f1 a (by rintro rfl; cases ha) (by rintro rfl; cases ha) (by rintro rfl; cases ha)]
          exact a9 a (by rintro rfl; cases ha) (by rintro rfl; revert ha; decide) (by rintro rfl; revert ha; decide)
      · exact fun a ha => by
          rw [glM_o (by rintro rfl; cases ha)]
          exact b3 a (by rintro rfl; revert ha; decide)
    · refine ⟨-103, M, W, ?_, ?_, by omega, Rel.same hG hC hM (FC.rf M) (FM.rf W)⟩
      · simp (disch := omega) only [f_X7_gallery, c10, p1, hn, gd_t, if_pos, r1, bnd_s, if_neg, reduceIte]
      · simp (disch := omega) only [f_X8_gallery, w1, hn, gd_t, if_pos, r2, bnd_s, if_neg, reduceIte]
  · refine ⟨-103, M, W, ?_, ?_, by omega, Rel.same hG hC hM (FC.rf M) (FM.rf W)⟩
    · simp (disch := omega) only [f_X7_gallery, c10, p1, gd_t, if_neg]
    · simp (disch := omega) only [f_X8_gallery, w1, gd_t, if_neg]
