theorem max_s {N : Nat} {M : Mem} {x y : Int} (hx : inR x) (hy : inR y) : f_J9_max_7cf53 N x y M = some (if x < y then y else x, M) := by
  unfold f_J9_max_7cf53
  rw [gd_t hx, gd_t hy]
  split <;> rfl
theorem min_s {N : Nat} {M : Mem} {x y : Int} (hx : inR x) (hy : inR y) : f_J9_min_7cf53 N x y M = some (if y < x then y else x, M) := by
  unfold f_J9_min_7cf53
  rw [gd_t hx, gd_t hy]
  split <;> rfl
theorem stands_s {N r : Nat} {M : Mem} {S L : Row} (h : RoofOK M r S L) {p : Nat} (hp : p < 6) : f_X3_stands N r (p : Int) M = some (if S p = 0 then 0 else 1, M) := by
  obtain ⟨a1, a2, a3⟩ := h.1 p hp
  by_cases h0 : S p = 0
  · simp (disch := omega) only [f_X3_stands, gd_t, tn_c, a1, if_neg, if_pos, reduceIte, h0]
  · simp (disch := omega) only [f_X3_stands, gd_t, tn_c, a1, if_neg, if_pos, reduceIte]
def cntS (S : Row) : Int := sumTo (fun p => if S p = 0 then 0 else 1) 6
theorem standing_s {N r : Nat} {M : Mem} {S L : Row} (hN : 10 ≤ N) (h : RoofOK M r S L) : f_X3_standing N r M = some (cntS S, M) := by
  obtain ⟨s', hI, he⟩ := lp_eq (fun n k (v : Int) => f_X3_standing_4 N r n v k M) (fun v => some (v, M)) (fun k v => v = sumTo (fun p => if S p = 0 then 0 else 1) k) 6
    (fun n k v hk hv => by
      obtain ⟨a1, a2, a3⟩ := h.1 k hk
      refine ⟨_, rfl, ?_⟩
      subst hv
      by_cases h0 : S k = 0
      · simp (disch := omega) only [f_X3_standing_4, gd_t, tn_c, a1, if_neg, if_pos, reduceIte, h0, sumTo, Int.add_zero]
      · simp (disch := omega) only [f_X3_standing_4, gd_t, tn_c, a1, if_neg, if_pos, reduceIte, sumTo])
    (fun n v hv => by simp (disch := omega) only [f_X3_standing_4, gd_t, if_pos]) 6 0 N 0 rfl (by omega) rfl
  unfold f_X3_standing cntS
  rw [← hI]
  exact he
def ffal (S : Row) : Nat := if S 0 = 0 then 0 else if S 1 = 0 then 1 else if S 2 = 0 then 2 else if S 3 = 0 then 3 else if S 4 = 0 then 4 else if S 5 = 0 then 5 else 6
theorem ffal_is {S : Row} {k : Nat} (hk : k < 6) (h : ∀ i, i < k → S i ≠ 0) (h0 : S k = 0) : ffal S = k := by
  unfold ffal
  rcases (show k = 0 ∨ k = 1 ∨ k = 2 ∨ k = 3 ∨ k = 4 ∨ k = 5 by omega) with rfl | rfl | rfl | rfl | rfl | rfl
  · simp [h0]
  · simp [h0, h 0]
  · simp [h0, h 0, h 1]
  · simp [h0, h 0, h 1, h 2]
  · simp [h0, h 0, h 1, h 2, h 3]
  · simp [h0, h 0, h 1, h 2, h 3, h 4]
theorem ffal_no {S : Row} (h : ∀ i, i < 6 → S i ≠ 0) : ffal S = 6 := by
  unfold ffal
  simp [h 0, h 1, h 2, h 3, h 4, h 5]
theorem ffal_le6 (S : Row) : ffal S ≤ 6 := by
  unfold ffal
  repeat' split
  all_goals omega
theorem ffal_ne {S : Row} {i : Nat} (h : i < ffal S) : S i ≠ 0 := by
  unfold ffal at h
  intro hz
  repeat' split at h
  all_goals first | omega | (rcases (show i = 0 ∨ i = 1 ∨ i = 2 ∨ i = 3 ∨ i = 4 ∨ i = 5 by omega) with rfl | rfl | rfl | rfl | rfl | rfl <;> first | omega | contradiction)
theorem ffal_eq {S : Row} (h : ffal S < 6) : S (ffal S) = 0 := by
  rcases Nat.lt_or_ge (ffal S) 6 with _ | h'
  · rcases Classical.em (S (ffal S) = 0) with hz | hz
    · exact hz
    · exfalso
      have : ∀ i, i < 6 → S i ≠ 0 ∨ i > ffal S := fun i hi => by
        rcases Nat.lt_trichotomy i (ffal S) with q | q | q
        · exact Or.inl (ffal_ne q)
        · exact Or.inl (by rw [q]; exact hz)
        · exact Or.inr q
      unfold ffal at h hz
      repeat' split at h
      all_goals first | omega | (simp_all; done)
  · omega
theorem firstFallen_s {N r : Nat} {M : Mem} {S L : Row} (hN : 10 ≤ N) (h : RoofOK M r S L) : f_X3_firstFallen N r M = some ((ffal S : Int), M) := by
  obtain ⟨q, h1, h2⟩ := lp_ex (fun n k (_ : Unit) => f_X3_firstFallen_2 N r n k M) (fun q => q = ((ffal S : Int), M)) (fun k _ => ∀ i, i < k → S i ≠ 0) 6
    (fun n k v hk hv => by
      obtain ⟨a1, a2, a3⟩ := h.1 k hk
      by_cases h0 : S k = 0
      · left
        exact ⟨_, by simp (disch := omega) only [f_X3_firstFallen_2, gd_t, tn_c, a1, if_neg, if_pos, reduceIte, h0]; rfl, by rw [ffal_is hk hv h0]⟩
      · right
        exact ⟨(), fun i hi => by
          rcases (show i < k ∨ i = k by omega) with q | rfl
          · exact hv i q
          · exact h0, by simp (disch := omega) only [f_X3_firstFallen_2, gd_t, tn_c, a1, if_neg, if_pos, reduceIte]⟩)
    (fun n v hv => ⟨_, by simp (disch := omega) only [f_X3_firstFallen_2, gd_t, if_pos]; rfl, by rw [ffal_no hv]⟩) 6 0 N () rfl (by omega) (fun i hi => by omega)
  unfold f_X3_firstFallen
  rw [← h2]
  exact h1
def dayR (S L : Row) : Row := fun p => if S p = 0 then 0 else if 0 < S p - lossR S L p then S p - lossR S L p else 0
def dayF (S L : Row) : Int := sumTo (fun p => if S p = 0 then 0 else if dayR S L p = 0 then 1 else 0) 6
theorem lossR_in {S L : Row} {p : Nat} (h : 0 ≤ L p ∧ L p ≤ 20) : 0 ≤ lossR S L p ∧ lossR S L p ≤ 21 := by
  unfold lossR
  rcases bes_01 S p with h1 | h1 <;> split <;> omega
theorem dayR_in {S L : Row} {p : Nat} (h : 0 ≤ S p ∧ S p ≤ 20) (hL : 0 ≤ L p ∧ L p ≤ 20) : 0 ≤ dayR S L p ∧ dayR S L p ≤ S p := by
  have := lossR_in (S := S) hL
  unfold dayR
  repeat' split
  all_goals omega
theorem ch_ne {r a b : Nat} (h : a ≠ b) : ch r a ≠ ch r b := by unfold ch; omega
theorem passDay_s {N r : Nat} {M : Mem} {S L : Row} (hN : 10 ≤ N) (h : RoofOK M r S L) : ∃ M', f_X3_passDay N r M = some (dayF S L, M') ∧ (∀ a, a ≠ ch r 0 → a ≠ ch r 2 → M' a = M a) ∧ ∀ p, p < 6 → M' (ch r 0) p = dayR S L p := by
  have n02 : ch r 0 ≠ ch r 2 := ch_ne (by decide)
  have n12 : ch r 1 ≠ ch r 2 := ch_ne (by decide)
  have n10 : ch r 1 ≠ ch r 0 := ch_ne (by decide)
  obtain ⟨M1, ⟨hf1, hl1⟩, he1⟩ := lp_eq (fun n k (m : Mem) => f_X3_passDay_2 N r n k m) (fun m => f_X3_passDay_29 N r N 0 0 m) (fun k m => (∀ a, a ≠ ch r 2 → m a = M a) ∧ ∀ i, i < k → m (ch r 2) i = lossR S L i) 6
    (fun n k m hk hm => by
      have hok : RoofOK m r S L := ⟨fun p hp => by rw [hm.1 _ n02]; exact h.1 p hp, fun p hp => by rw [hm.1 _ n12]; exact h.2 p hp⟩
      refine ⟨st m (ch r 2) k (lossR S L k), ⟨fun a ha => by rw [st_ne _ _ _ _ ha]; exact hm.1 a ha, fun i hi => ?_⟩, ?_⟩
      · rw [st_same]
        by_cases hik : i = k
        · simp [hik]
        · simp only [if_neg hik]; exact hm.2 i (by omega)
      · simp (disch := omega) only [f_X3_passDay_2, gd_t, if_neg, lossAt_s hok hk, bnd_s, tn_c])
    (fun n m hm => by simp (disch := omega) only [f_X3_passDay_2, gd_t, if_pos]) 6 0 N M rfl (by omega) ⟨fun _ _ => rfl, fun i hi => by omega⟩
  obtain ⟨⟨v, M2⟩, ⟨hv, hf2, hl2, hd2, hu2⟩, he2⟩ := lp_eq (fun n k (q : Int × Mem) => f_X3_passDay_29 N r n q.1 k q.2) (fun q => some q) (fun k q => q.1 = sumTo (fun p => if S p = 0 then 0 else if dayR S L p = 0 then 1 else 0) k ∧ (∀ a, a ≠ ch r 0 → a ≠ ch r 2 → q.2 a = M a) ∧ (∀ i, i < 6 → q.2 (ch r 2) i = lossR S L i) ∧ (∀ i, i < k → q.2 (ch r 0) i = dayR S L i) ∧ ∀ i, k ≤ i → i < 6 → q.2 (ch r 0) i = S i) 6
    (fun n k q hk hq => by
      obtain ⟨v, m⟩ := q
      obtain ⟨h1, h2, h3, h4, h5⟩ := hq
      dsimp only at h1 h2 h3 h4 h5
      obtain ⟨a1, a2, a3⟩ := h.1 k hk
      have hl := lossR_in (S := S) (p := k) (h.2 k hk).2
      have e1 := h5 k (Nat.le_refl k) hk
      have e2 := h3 k hk
      by_cases h0 : S k = 0
      · refine ⟨(v, m), ⟨?_, h2, h3, fun i hi => ?_, fun i h6 h7 => h5 i (by omega) h7⟩, ?_⟩
        · simp only [sumTo, h0, if_true, Int.add_zero]; exact h1
        · rcases (show i < k ∨ i = k by omega) with q | rfl
          · exact h4 i q
          · dsimp only; rw [e1, h0]; unfold dayR; simp [h0]
        · simp (disch := omega) only [f_X3_passDay_29, gd_t, if_neg, if_pos, tn_c, e1, h0, reduceIte]
      · have hd : dayR S L k = if 0 < S k - lossR S L k then S k - lossR S L k else 0 := by unfold dayR; rw [if_neg h0]
        have hda := dayR_in (S := S) (L := L) (p := k) ⟨a2, a3⟩ (h.2 k hk).2
        refine ⟨(v + (if dayR S L k = 0 then 1 else 0), st m (ch r 0) k (dayR S L k)), ⟨?_, fun a ha hb => ?_, fun i hi => ?_, fun i hi => ?_, fun i h6 h7 => ?_⟩, ?_⟩
        · simp only [sumTo, if_neg h0, h1]
        · dsimp only; rw [st_ne _ _ _ _ ha]; exact h2 a ha hb
        · dsimp only; rw [st_ne _ _ _ _ (Ne.symm n02)]; exact h3 i hi
        · dsimp only; rw [st_same]
          by_cases hik : i = k
          · simp [hik]
          · simp only [if_neg hik]; exact h4 i (by omega)
        · dsimp only; rw [st_same]; simp only [if_neg (show i ≠ k by omega)]; exact h5 i (by omega) h7
        · have hmx : f_J9_max_7cf53 N 0 (S k - lossR S L k) m = some (dayR S L k, m) := by rw [max_s (by decide) (by omega), hd]
          by_cases hz : dayR S L k = 0
          · simp (disch := omega) only [f_X3_passDay_29, gd_t, if_neg, if_pos, tn_c, e1, e2, hmx, bnd_s, st_same, reduceIte, hz]
          · simp (disch := omega) only [f_X3_passDay_29, gd_t, if_neg, if_pos, tn_c, e1, e2, hmx, bnd_s, st_same, reduceIte])
    (fun n q hq => by simp (disch := omega) only [f_X3_passDay_29, gd_t, if_pos]) 6 0 N (0, M1) rfl (by omega) ⟨rfl, fun a ha hb => hf1 a hb, hl1, fun i hi => by omega, fun i _ hi => by dsimp only; rw [hf1 _ n02]; exact (h.1 i hi).1⟩
  dsimp only at hv hf2 hd2
  refine ⟨M2, ?_, hf2, hd2⟩
  unfold f_X3_passDay dayF
  rw [← hv]
  exact he1.trans he2
