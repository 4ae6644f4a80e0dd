theorem op_knock {N : Nat} {a d s : Int} (ha : inR a) (hd : inR d) (hs : s = 0 ∨ s = 1) : Both (f_X7_knock N 1 a d s) (f_X8_knock N 2 a d s) := by
  rintro b M W hb ⟨u, R, hG, hC, hM⟩
  by_cases hp : u 7 = 1 ∧ 0 ≤ a ∧ a ≤ 5
  · have e7 := isPl7_y (N := N) (b := b) (v := a) hC hp.1 hp.2
    have e8 := isPl8_y (N := N) (v := a) hG hM hp.1 hp.2
    by_cases hq : 0 ≤ d ∧ d ≤ 20
    · obtain ⟨m3, m8, mk⟩ := hC.2.2.1
      obtain ⟨w3, -, wk⟩ := hM.2.2.2.1
      by_cases hm : u 2 = 8
      · refine ⟨-104, M, W, ?_, ?_, by omega, Rel.same hG hC hM (FC.rf M) (FM.rf W)⟩
        · simp (disch := omega) only [f_X7_knock, f_X1_hear, e7, bnd_s, gd_t, if_neg, if_pos, reduceIte, c12, m3]
        · simp (disch := omega) only [f_X8_knock, in_s, e8, bnd_s, gd_t, if_neg, if_pos, reduceIte, w3]
      · have t1 : (st M (ch 45 0) (u 2) a) 45 3 = (u 2 : Int) := by rw [st_ne _ _ _ _ (by decide)]; exact m3
        have t2 : (st (st M (ch 45 0) (u 2) a) (ch 45 1) (u 2) d) 45 3 = (u 2 : Int) := by rw [st_ne _ _ _ _ (by decide)]; exact t1
        have t3 : ∀ x, (st (st (st M (ch 45 0) (u 2) a) (ch 45 1) (u 2) d) (ch 45 2) (u 2) x) 45 3 = (u 2 : Int) := fun x => by rw [st_ne _ _ _ _ (by decide)]; exact t2
        have e1 : f_X7_knock N 1 a d s M = some ((u 2 : Int) + 1, st (st (st (st M (ch 45 0) (u 2) a) (ch 45 1) (u 2) d) (ch 45 2) (u 2) s) 45 3 ((u 2 : Int) + 1)) := by
          rcases hs with rfl | rfl
          · simp (disch := omega) only [f_X7_knock, f_X1_hear, e7, bnd_s, gd_t, if_neg, if_pos, reduceIte, c12, m3, tn_c, t1, t2, t3]
            rw [st_same]; simp
          · simp (disch := omega) only [f_X7_knock, f_X1_hear, e7, bnd_s, gd_t, if_neg, if_pos, reduceIte, c12, m3, tn_c, t1, t2, t3]
            rw [st_same]; simp
        have v1 : (st W (ch 2 17) (3 * u 2) a) 2 16 = (u 2 : Int) := by rw [st_ne _ _ _ _ (by decide)]; exact w3
        have v2 : (st (st W (ch 2 17) (3 * u 2) a) (ch 2 17) (3 * u 2 + 1) d) 2 16 = (u 2 : Int) := by rw [st_ne _ _ _ _ (by decide)]; exact v1
        have v3 : ∀ x, (st (st (st W (ch 2 17) (3 * u 2) a) (ch 2 17) (3 * u 2 + 1) d) (ch 2 17) (3 * u 2 + 2) x) 2 16 = (u 2 : Int) := fun x => by rw [st_ne _ _ _ _ (by decide)]; exact v2
        have e2 : f_X8_knock N 2 a d s W = some ((u 2 : Int) + 1, st (st (st (st W (ch 2 17) (3 * u 2) a) (ch 2 17) (3 * u 2 + 1) d) (ch 2 17) (3 * u 2 + 2) s) 2 16 ((u 2 : Int) + 1)) := by
          rcases hs with rfl | rfl
          · simp (disch := omega) only [f_X8_knock, in_s, e8, bnd_s, gd_t, if_neg, if_pos, reduceIte, w3, tn_3, tn_31, tn_32, v1, v2, v3]
            rw [st_same]; simp
          · simp (disch := omega) only [f_X8_knock, in_s, e8, bnd_s, gd_t, if_neg, if_pos, reduceIte, w3, tn_3, tn_31, tn_32, v1, v2, v3]
            rw [st_same]; simp
        refine ⟨_, _, _, e1, e2, by omega, act_kn (m := u 2 + 1) (P := updR (R 5) (u 2) a) (D := updR (R 6) (u 2) d) (B := updR (R 7) (u 2) s) hG hC hM ⟨?_, by omega, fun i hi => ?_⟩ (fun o ho => ?_) ⟨?_, by omega, fun i hi => ?_⟩ (fun o h1 h2 => ?_) (fun k hk => ?_)⟩
        · rw [st_same]; simp
        · have q0 : (st (st (st (st M (ch 45 0) (u 2) a) (ch 45 1) (u 2) d) (ch 45 2) (u 2) s) 45 3 ((u 2 : Int) + 1)) (ch 45 0) i = if i = u 2 then a else M (ch 45 0) i := by
            rw [st_ne _ _ _ _ (by decide), st_ne _ _ _ _ (by decide), st_ne _ _ _ _ (by decide), st_same]
          have q1 : (st (st (st (st M (ch 45 0) (u 2) a) (ch 45 1) (u 2) d) (ch 45 2) (u 2) s) 45 3 ((u 2 : Int) + 1)) (ch 45 1) i = if i = u 2 then d else M (ch 45 1) i := by
            rw [st_ne _ _ _ _ (by decide), st_ne _ _ _ _ (by decide), st_same, st_ne _ _ _ _ (by decide)]
          have q2 : (st (st (st (st M (ch 45 0) (u 2) a) (ch 45 1) (u 2) d) (ch 45 2) (u 2) s) 45 3 ((u 2 : Int) + 1)) (ch 45 2) i = if i = u 2 then s else M (ch 45 2) i := by
            rw [st_ne _ _ _ _ (by decide), st_same, st_ne _ _ _ _ (by decide), st_ne _ _ _ _ (by decide)]
          rw [q0, q1, q2]
          unfold updR
          by_cases c : i = u 2
          · simp only [if_pos c, true_and]; omega
          · simp only [if_neg c]; exact mk i (by omega)
        · rw [st_ne _ _ _ _ (nsc ho (by decide)), st_ne _ _ _ _ (nsc ho (by decide)), st_ne _ _ _ _ (nsc ho (by decide)), st_ne _ _ _ _ (nsc ho (by decide))]
        · rw [st_same]; simp
        · rw [st_ne _ _ _ _ (by decide), st_same, st_same, st_same]
          unfold updR
          by_cases c : i = u 2
          · subst c
            simp (disch := omega) only [if_neg, reduceIte, true_and]
            omega
          · simp (disch := omega) only [if_neg]
            exact wk i (by omega)
        · rw [st_ne _ _ _ _ h1, st_ne _ _ _ _ (nsc h2 (by decide)), st_ne _ _ _ _ (nsc h2 (by decide)), st_ne _ _ _ _ (nsc h2 (by decide))]
        · rw [st_same]; simp only [if_neg hk]; rw [st_ne _ _ _ _ (by decide), st_ne _ _ _ _ (by decide), st_ne _ _ _ _ (by decide)]
    · refine ⟨-102, M, W, ?_, ?_, by omega, Rel.same hG hC hM (FC.rf M) (FM.rf W)⟩
      · by_cases c : d < 0
        · simp (disch := omega) only [f_X7_knock, e7, bnd_s, gd_t, if_neg, if_pos, reduceIte]
        · simp (disch := omega) only [f_X7_knock, e7, bnd_s, gd_t, if_neg, if_pos, reduceIte]
      · simp (disch := omega) only [f_X8_knock, in_s, e8, bnd_s, gd_t, if_neg, if_pos, reduceIte]
  · refine ⟨-101, M, W, ?_, ?_, by omega, Rel.same hG hC hM (FC.rf M) (FM.rf W)⟩
    · simp (disch := omega) only [f_X7_knock, isPl7_n hG hC ha hp, bnd_s, gd_t, if_pos, reduceIte]
    · simp (disch := omega) only [f_X8_knock, isPl8_n hG hM ha hp, bnd_s, gd_t, if_pos, reduceIte]
theorem op_blank {N : Nat} : Both (f_X7_blank N 1) (f_X8_blank N 2) := by
  rintro b M W hb ⟨u, R, hG, hC, hM⟩
  have h12 := hC.1.2.1
  have e1 : f_X7_blank N 1 M = some ((u 0 : Int), st M 43 1 0) := by simp only [f_X7_blank, c10, hC.1.1]
  have e2 : f_X8_blank N 2 W = some ((u 0 : Int), st W 2 1 0) := by simp only [f_X8_blank, hM.1.1]
  have h2 : ∀ o, o ∉ [43] → (st M 43 1 0) o = M o := fun o ho => st_ne _ _ _ _ (nsc ho (by decide))
  have h5 : ∀ o, o ≠ 2 → o ∉ ([] : List Nat) → (st W 2 1 0) o = W o := fun o ho _ => st_ne _ _ _ _ ho
  have h6 : ∀ k, k ≠ 1 → (st W 2 1 0) 2 k = W 2 k := fun k hk => by rw [st_same]; simp only [if_neg hk]
  obtain ⟨p1, p2, p3, p4, p5⟩ := hC
  obtain ⟨q1, q2, q3, q4, q5, q6⟩ := hM
  refine ⟨_, _, _, e1, e2, by omega, ⟨fun i => if i = 0 then 0 else u i, R, hG.up (by omega), ⟨⟨by rw [st_same]; simp, by simp, fun i hi => by simp at hi⟩, p2.kept (h2 _ (by decide)) (h2 _ (by decide)) (h2 _ (by decide)) (h2 _ (by decide)) (h2 _ (by decide)), p3.kept (h2 _ (by decide)) (h2 _ (by decide)) (h2 _ (by decide)) (h2 _ (by decide)), fun q => ⟨(p4 q).1.kept (h2 _ (by decide)) (h2 _ (by decide)) (h2 _ (by decide)) (h2 _ (by decide)) (h2 _ (by decide)), (p4 q).2.kept (h2 _ (by decide)) (h2 _ (by decide)) (h2 _ (by decide)) (h2 _ (by decide))⟩, by rw [h2 1 (by decide)]; exact p5⟩, ⟨⟨by rw [st_same]; simp, fun i hi => by simp at hi⟩, q2.kept (h6 _ (by decide)) (h5 _ (by decide) (by decide)) (h5 _ (by decide) (by decide)), ?_, q4.kept (h6 _ (by decide)) (h5 _ (by decide) (by decide)), ?_, fun q => ⟨?_, (q6 q).2.1.kept (h6 _ (by decide)) (h6 _ (by decide)) (h6 _ (by decide)) (h6 _ (by decide)) (h5 _ (by decide) (by decide)) (h5 _ (by decide) (by decide)), (q6 q).2.2.kept (h6 _ (by decide)) (h5 _ (by decide) (by decide))⟩⟩⟩, fa_of (by decide) h2, fb_of (by decide) h5⟩
  · rw [h6 2 (by decide), h6 3 (by decide), h6 4 (by decide), h6 5 (by decide), h6 6 (by decide)]; exact q3
  · rw [h6 7 (by decide), h6 14 (by decide), h6 20 (by decide)]; exact q5
  · rw [h6 20 (by decide)]; exact (q6 q).1
/-! the page's faults -/
def gdL (k : Nat) (x : Int) : Int := if k = 6 then (if x = 59 then 1 else 0) else if k = 8 then (if 49 ≤ x ∧ x ≤ 57 then 1 else 0) else if 48 ≤ x ∧ x ≤ 57 then 1 else 0
theorem gdL_01 (k : Nat) (x : Int) : gdL k x = 0 ∨ gdL k x = 1 := by
  unfold gdL
  repeat' split
  all_goals simp
theorem fits_s {N k : Nat} {x : Int} {M : Mem} (hk : k < 9) (hx : 1 ≤ x ∧ x ≤ 126) : f_X2_fits N (k : Int) x M = some (gdL k x, M) := by
  unfold gdL
  by_cases h6 : k = 6
  · subst h6
    by_cases c : x = 59
    · simp (disch := omega) only [f_X2_fits, gd_t, if_pos, reduceIte]
    · simp (disch := omega) only [f_X2_fits, gd_t, if_pos, if_neg, reduceIte]
  · by_cases h8 : k = 8
    · subst h8
      by_cases c : x < 49
      · simp (disch := omega) only [f_X2_fits, f_X2_fits_31, gd_t, if_pos, if_neg, reduceIte]
      · by_cases c2 : 57 < x
        · simp (disch := omega) only [f_X2_fits, f_X2_fits_31, gd_t, if_pos, if_neg, reduceIte]
        · simp (disch := omega) only [f_X2_fits, f_X2_fits_31, gd_t, if_pos, if_neg, reduceIte]
    · by_cases c : x < 48
      · simp (disch := omega) only [f_X2_fits, f_X2_fits_31, gd_t, if_pos, if_neg, reduceIte]
      · by_cases c2 : 57 < x
        · simp (disch := omega) only [f_X2_fits, f_X2_fits_31, gd_t, if_pos, if_neg, reduceIte]
        · simp (disch := omega) only [f_X2_fits, f_X2_fits_31, gd_t, if_pos, if_neg, reduceIte]
theorem isGood_s {N k : Nat} {x : Int} {M : Mem} (hk : k < 9) (hx : 1 ≤ x ∧ x ≤ 126) : f_X8_isGood N (k : Int) x M = some (gdL k x, M) := by
  unfold gdL
  by_cases h6 : k = 6
  · subst h6
    by_cases c : x = 59
    · simp (disch := omega) only [f_X8_isGood, gd_t, if_pos, reduceIte]
    · simp (disch := omega) only [f_X8_isGood, gd_t, if_pos, if_neg, reduceIte]
  · by_cases h8 : k = 8
    · subst h8
      by_cases c : 49 ≤ x ∧ x ≤ 57
      · simp (disch := omega) only [f_X8_isGood, in_s, bnd_s, gd_t, if_pos, if_neg, reduceIte]
        exact gd_t (Or.inr trivial)
      · simp (disch := omega) only [f_X8_isGood, in_s, bnd_s, gd_t, if_pos, if_neg, reduceIte]
        exact gd_t (Or.inl trivial)
    · by_cases c : 48 ≤ x ∧ x ≤ 57
      · simp (disch := omega) only [f_X8_isGood, in_s, bnd_s, gd_t, if_pos, if_neg, reduceIte]
      · simp (disch := omega) only [f_X8_isGood, in_s, bnd_s, gd_t, if_pos, if_neg, reduceIte]
theorem fault_lp {N n : Nat} {P : Row} {M W : Mem} (hp : PgC M n P) (hw : W 2 1 = (n : Int) ∧ ∀ i, i < n → W (ch 2 0) i = P i) : ∀ (j k n7 n8 : Nat), k + j = 9 → j < n7 → j < n8 → k ≤ n → (∀ i, i < k → gdL i (P i) = 1) → ∃ r : Int, f_X2_goodLetters_2 N 43 n7 (k : Int) M = some (r, M) ∧ f_X8_faultOf_2 N 2 n8 (k : Int) W = some (r, W) ∧ 0 ≤ r ∧ r ≤ 9 ∧ (r = 9 → ∀ i, i < 9 → gdL i (P i) = 1) := by
  obtain ⟨p1, p2, p3⟩ := hp
  obtain ⟨w1, w2⟩ := hw
  intro j
  induction j with
  | zero =>
    intro k n7 n8 hk h7 h8 hn hg
    obtain ⟨n7, rfl⟩ : ∃ n', n7 = n' + 1 := ⟨n7 - 1, by omega⟩
    obtain ⟨n8, rfl⟩ : ∃ n', n8 = n' + 1 := ⟨n8 - 1, by omega⟩
    have hk9 : k = 9 := by omega
    subst hk9
    refine ⟨9, ?_, ?_, by omega, by omega, fun _ => hg⟩
    · by_cases c : n = 9
      · simp (disch := omega) only [f_X2_goodLetters_2, gd_t, p1, if_pos]; rfl
      · simp (disch := omega) only [f_X2_goodLetters_2, gd_t, p1, if_pos, if_neg]; rfl
    · by_cases c : n = 9
      · simp (disch := omega) only [f_X8_faultOf_2, gd_t, w1, if_pos]; rfl
      · have hx := p3 9 (by omega)
        simp (disch := omega) only [f_X8_faultOf_2, f_X8_isGood, bnd_s, gd_t, w1, if_pos, if_neg, reduceIte]; rfl
  | succ j ih =>
    intro k n7 n8 hk h7 h8 hn hg
    obtain ⟨n7, rfl⟩ : ∃ n', n7 = n' + 1 := ⟨n7 - 1, by omega⟩
    obtain ⟨n8, rfl⟩ : ∃ n', n8 = n' + 1 := ⟨n8 - 1, by omega⟩
    by_cases c : n = k
    · refine ⟨(k : Int), ?_, ?_, by omega, by omega, fun q => by omega⟩
      · simp (disch := omega) only [f_X2_goodLetters_2, gd_t, p1, if_pos]
      · simp (disch := omega) only [f_X8_faultOf_2, gd_t, w1, if_pos]
    · obtain ⟨x1, x2⟩ := p3 k (by omega)
      have y1 := w2 k (by omega)
      have f1 := fits_s (N := N) (M := M) (show k < 9 by omega) x2
      have f2 := isGood_s (N := N) (M := W) (show k < 9 by omega) x2
      rcases gdL_01 k (P k) with g | g
      · refine ⟨(k : Int), ?_, ?_, by omega, by omega, fun q => by omega⟩
        · simp (disch := omega) only [f_X2_goodLetters_2, gd_t, p1, tn_c, x1, f1, g, bnd_s, if_pos, if_neg, reduceIte]
        · simp (disch := omega) only [f_X8_faultOf_2, gd_t, w1, tn_c, y1, f2, g, bnd_s, if_pos, if_neg, reduceIte]
      · obtain ⟨r, i1, i2, i3⟩ := ih (k + 1) n7 n8 (by omega) (by omega) (by omega) (by omega) (fun i hi => by
          rcases (show i < k ∨ i = k by omega) with q | rfl
          · exact hg i q
          · exact g)
        refine ⟨r, ?_, ?_, i3⟩
        · simp (disch := omega) only [f_X2_goodLetters_2, gd_t, p1, tn_c, x1, f1, g, bnd_s, if_pos, if_neg, reduceIte]
          exact i1
        · simp (disch := omega) only [f_X8_faultOf_2, gd_t, w1, tn_c, y1, f2, g, bnd_s, if_pos, if_neg, reduceIte]
          exact i2
theorem fault_s {N : Nat} {u : Nat → Nat} {R : Nat → Row} {M W : Mem} (hN : 20 ≤ N) (hC : IC u R M) (hM : IM u R W) : ∃ r : Int, f_X2_goodLetters N 43 M = some (r, M) ∧ f_X8_faultOf N 2 W = some (r, W) ∧ 0 ≤ r ∧ r ≤ 9 ∧ (r = 9 → ∀ i, i < 9 → gdL i (R 0 i) = 1) :=
  fault_lp hC.1 hM.1 9 0 N N rfl (by omega) (by omega) (by omega) (fun i hi => by omega)
theorem op_fault {N : Nat} (hN : 200 ≤ N) : Both (f_X7_fault N 1) (f_X8_fault N 2) := by
  refine Ask.both (fun b u R hb hG M W hC hM => ?_)
  obtain ⟨r, h1, h2, h3, h4, -⟩ := fault_s (N := N) (by omega) hC hM
  exact ⟨r, M, W, by simp only [f_X7_fault, c10, h1, bnd_s], by simp only [f_X8_fault, h2, bnd_s], by omega, FC.rf M, FM.rf W⟩
