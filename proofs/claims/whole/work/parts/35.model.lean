/-! the reference: its small methods -/
theorem tn_2 (t : Nat) : (2 * (t : Int)).toNat = 2 * t := by omega
theorem tn_21 (t : Nat) : (2 * (t : Int) + 1).toNat = 2 * t + 1 := by omega
theorem al_0 : al (ch 2 0) = 12 := by decide +kernel
theorem al_8 : al (ch 2 8) = 6 := by decide +kernel
theorem al_10 : al (ch 2 10) = 10 := by decide +kernel
theorem al_12 : al (ch 2 12) = 6 := by decide +kernel
theorem al_13 : al (ch 2 13) = 6 := by decide +kernel
theorem al_17 : al (ch 2 17) = 24 := by decide +kernel
theorem al_26 : al (ch 2 26) = 6 := by decide +kernel
theorem al_27 : al (ch 2 27) = 10 := by decide +kernel
theorem al_28 : al (ch 2 28) = 24 := by decide +kernel
theorem in_s {N : Nat} {M : Mem} {v lo hi : Int} (hv : inR v) (hl : inR lo) (hh : inR hi) : f_X8_in N v lo hi M = some (if lo ≤ v ∧ v ≤ hi then 1 else 0, M) := by
  have g1 : v = lo ∨ (inL v ∧ inL lo) := Or.inr ⟨by omega, by omega⟩
  have g2 : v = hi ∨ (inL v ∧ inL hi) := Or.inr ⟨by omega, by omega⟩
  have e1 : l_cmp v lo < 0 ↔ v < lo := by unfold l_cmp; split <;> (try split) <;> omega
  have e2 : 0 < l_cmp v hi ↔ hi < v := by unfold l_cmp; split <;> (try split) <;> omega
  unfold f_X8_in
  rw [gd_t g1, gd_t g2]
  simp only [e1, e2]
  by_cases c1 : v < lo
  · rw [if_pos c1, if_neg (by omega)]
  · by_cases c2 : hi < v
    · rw [if_neg c1, if_pos c2, if_neg (by omega)]
    · rw [if_neg c1, if_neg c2, if_pos (by omega)]
theorem copy_s {N a b n : Nat} {M : Mem} (hN : n < N) (ha : al a = (n : Int)) (hb : al b = (n : Int)) (hn : n ≤ 100) (hab : a ≠ b) : ∃ M', f_X8_copy N a b M = some M' ∧ (∀ i, i < n → M' b i = M a i) ∧ ∀ x, x ≠ b → M' x = M x := by
  obtain ⟨M1, ⟨h1, h2⟩, he⟩ := lp_eq (fun n k (m : Mem) => f_X8_copy_2 N a b n k m) (fun m => some m) (fun k m => (∀ i, i < k → m b i = M a i) ∧ ∀ x, x ≠ b → m x = M x) n
    (fun n' k m hk hm => by
      refine ⟨st m b k (m a k), ⟨fun i hi => ?_, fun x hx => by rw [st_ne _ _ _ _ hx]; exact hm.2 x hx⟩, ?_⟩
      · rw [st_same]
        by_cases c : i = k
        · subst c; simp [hm.2 a hab]
        · simp only [if_neg c]; exact hm.1 i (by omega)
      · simp (disch := omega) only [f_X8_copy_2, gd_t, if_neg, ha, hb, tn_c])
    (fun n' m hm => by simp (disch := omega) only [f_X8_copy_2, gd_t, if_pos, ha]) n 0 N M (by omega) (by omega) ⟨fun i hi => by omega, fun _ _ => rfl⟩
  exact ⟨M1, he, h1, h2⟩
theorem weightBy_s {N : Nat} {M : Mem} {k : Int} (h : 0 ≤ k ∧ k ≤ 4) : f_X8_weightBy N k M = some (wts k, M) := by
  unfold f_X8_weightBy wts
  rw [gd_t (by omega)]
  rcases (show k = 0 ∨ k = 1 ∨ k = 2 ∨ k = 3 ∨ k = 4 by omega) with rfl | rfl | rfl | rfl | rfl <;> rfl
theorem breathBy_s {N : Nat} {M : Mem} {k : Int} (h : 0 ≤ k ∧ k ≤ 4) : f_X8_breathBy N k M = some (brs k, M) := by
  unfold f_X8_breathBy brs
  rw [gd_t (by omega)]
  rcases (show k = 0 ∨ k = 1 ∨ k = 2 ∨ k = 3 ∨ k = 4 by omega) with rfl | rfl | rfl | rfl | rfl <;> rfl
def MdOK (M : Mem) (S : Row) (T : Nat) (K H : Row) : Prop :=
  M 2 9 = (T : Int) ∧ T ≤ 5 ∧ (∀ p, p < 6 → M (ch 2 8) p = S p ∧ 0 ≤ S p ∧ S p ≤ 20) ∧ ∀ t, t < T → (M (ch 2 10) (2 * t) = K t ∧ 0 ≤ K t ∧ K t ≤ 4) ∧ M (ch 2 10) (2 * t + 1) = H t ∧ 0 ≤ H t ∧ H t ≤ 5
/-- the reference's worksheet: `now` holds S, `homes` holds H -/
def NwOK (M : Mem) (T : Nat) (K S H : Row) : Prop :=
  M 2 9 = (T : Int) ∧ T ≤ 5 ∧ (∀ p, p < 6 → M (ch 2 12) p = S p ∧ 0 ≤ S p ∧ S p ≤ 20) ∧ ∀ t, t < T → (M (ch 2 10) (2 * t) = K t ∧ 0 ≤ K t ∧ K t ≤ 4) ∧ M (ch 2 11) t = H t ∧ 0 ≤ H t ∧ H t ≤ 5
theorem MdOK.kept {M M' : Mem} {S : Row} {T : Nat} {K H : Row} (h : MdOK M S T K H) (h1 : M' 2 9 = M 2 9) (h2 : M' (ch 2 8) = M (ch 2 8)) (h3 : M' (ch 2 10) = M (ch 2 10)) : MdOK M' S T K H := by
  unfold MdOK
  rw [h1, h2, h3]
  exact h
theorem asItIs_s {N : Nat} {M : Mem} {S : Row} {T : Nat} {K H : Row} (hN : 10 ≤ N) (h : MdOK M S T K H) : ∃ M', f_X8_asItIs N 2 M = some M' ∧ NwOK M' T K S H ∧ ∀ a, a ≠ ch 2 11 → a ≠ ch 2 12 → M' a = M a := by
  obtain ⟨h1, h2, h3, h4⟩ := h
  obtain ⟨M1, e1, c1, f1⟩ := copy_s (N := N) (a := ch 2 8) (b := ch 2 12) (n := 6) (M := M) (by omega) al_8 al_12 (by omega) (by decide)
  obtain ⟨M2, ⟨i1, i2⟩, he⟩ := lp_eq (fun n k (m : Mem) => f_X8_asItIs_13 N 2 n k m) (fun m => some m) (fun k m => (∀ i, i < k → m (ch 2 11) i = H i) ∧ ∀ x, x ≠ ch 2 11 → m x = M1 x) T
    (fun n k m hk hm => by
      obtain ⟨hm1, hm2⟩ := hm
      have q9 : m 2 9 = (T : Int) := by rw [hm2 2 (by decide), f1 2 (by decide), h1]
      have q10 : m (ch 2 10) (2 * k + 1) = H k := by rw [hm2 _ (by decide), f1 _ (by decide)]; exact (h4 k hk).2.1
      refine ⟨st m (ch 2 11) k (H k), ⟨fun i hi => ?_, fun x hx => by rw [st_ne _ _ _ _ hx]; exact hm2 x hx⟩, ?_⟩
      · rw [st_same]
        by_cases c : i = k
        · subst c; simp
        · simp only [if_neg c]; exact hm1 i (by omega)
      · simp (disch := omega) only [f_X8_asItIs_13, gd_t, if_neg, q9, tn_c, tn_21, q10])
    (fun n m hm => by
      have q9 : m 2 9 = (T : Int) := by rw [hm.2 2 (by decide), f1 2 (by decide), h1]
      simp (disch := omega) only [f_X8_asItIs_13, gd_t, if_pos, q9]) T 0 N M1 (by omega) (by omega) ⟨fun i hi => by omega, fun _ _ => rfl⟩
  refine ⟨M2, by simp only [f_X8_asItIs, e1, bnv_s]; exact he, ⟨by rw [i2 2 (by decide), f1 2 (by decide), h1], h2, fun p hp => ?_, fun t ht => ⟨?_, i1 t ht, (h4 t ht).2.2⟩⟩, fun a ha hb => by rw [i2 a ha, f1 a hb]⟩
  · rw [i2 _ (by decide), c1 p hp]; exact h3 p hp
  · rw [i2 _ (by decide), f1 _ (by decide)]; exact (h4 t ht).1
theorem weightIn_s {N : Nat} {M : Mem} {T : Nat} {K S H : Row} (hN : 10 ≤ N) (h : NwOK M T K S H) {p : Nat} (hp : p < 6) : f_X8_weightIn N 2 (p : Int) M = some (wsT T K H p, M) := by
  obtain ⟨h1, h2, h3, h4⟩ := h
  obtain ⟨s', hI, he⟩ := lp_eq (fun n k (v : Int) => f_X8_weightIn_4 N 2 (p : Int) n v k M) (fun v => some (v, M)) (fun k v => v = sumTo (fun t => if H t = (p : Int) then wts (K t) else 0) k) T
    (fun n k v hk hv => by
      subst hv
      obtain ⟨⟨k1, k2, k3⟩, k4, k5, k6⟩ := h4 k hk
      refine ⟨_, rfl, ?_⟩
      by_cases c : H k = (p : Int)
      · simp (disch := omega) only [f_X8_weightIn_4, gd_t, if_neg, if_pos, h1, tn_c, tn_2, k4, k1, weightBy_s ⟨k2, k3⟩, bnd_s, sumTo]
      · simp (disch := omega) only [f_X8_weightIn_4, gd_t, if_neg, if_pos, h1, tn_c, k4, sumTo])
    (fun n v hv => by simp (disch := omega) only [f_X8_weightIn_4, gd_t, if_pos, h1]) T 0 N 0 (by omega) (by omega) rfl
  unfold f_X8_weightIn wsT
  rw [← hI]
  exact he
theorem hasFallen_s {N a : Nat} {M : Mem} {S : Row} (ha : al a = 6) (h : ∀ p, p < 6 → M a p = S p ∧ 0 ≤ S p ∧ S p ≤ 20) {p : Int} (hp : -1 ≤ p ∧ p ≤ 6) : f_X8_hasFallen N a p M = some (if (0 ≤ p ∧ p ≤ 5) ∧ S p.toNat = 0 then 1 else 0, M) := by
  unfold f_X8_hasFallen
  rw [gd_t (by omega), in_s (by omega) (by omega) (by omega), bnd_s]
  by_cases c : 0 ≤ p ∧ p ≤ 5
  · obtain ⟨a1, a2, a3⟩ := h p.toNat (by omega)
    simp only [if_pos c]
    rw [gd_t (by decide), if_neg (by decide), gd_t (by omega), a1, gd_t (by omega)]
    by_cases z : S p.toNat = 0
    · rw [if_pos z, if_pos ⟨c, z⟩]
    · rw [if_neg z, if_neg (fun q => z q.2)]
  · simp only [if_neg c]
    rw [gd_t (by decide), if_pos trivial, if_neg (fun q => c q.1)]
theorem lessOf_s {N a : Nat} {M : Mem} {T : Nat} {K S0 H S : Row} (hN : 10 ≤ N) (h : NwOK M T K S0 H) (ha : al a = 6) (hs : ∀ p, p < 6 → M a p = S p ∧ 0 ≤ S p ∧ S p ≤ 20) {p : Nat} (hp : p < 6) : f_X8_lessOf N 2 (p : Int) a M = some (wsT T K H p + bes S p, M) := by
  unfold f_X8_lessOf bes
  rw [weightIn_s hN h hp, bnd_s, hasFallen_s ha hs (by omega), bnd_s, tn_m]
  by_cases c1 : (0 < p ∧ S (p - 1) = 0)
  · rw [if_pos (show (0 ≤ (p : Int) - 1 ∧ (p : Int) - 1 ≤ 5) ∧ S (p - 1) = 0 from ⟨by omega, c1.2⟩), if_pos (Or.inl c1)]
    rfl
  · rw [if_neg (show ¬ ((0 ≤ (p : Int) - 1 ∧ (p : Int) - 1 ≤ 5) ∧ S (p - 1) = 0) from fun q => c1 ⟨by omega, q.2⟩), gd_t (by decide), if_pos rfl, hasFallen_s ha hs (by omega), bnd_s, tn_p]
    by_cases c2 : (p < 5 ∧ S (p + 1) = 0)
    · rw [if_pos (show (0 ≤ (p : Int) + 1 ∧ (p : Int) + 1 ≤ 5) ∧ S (p + 1) = 0 from ⟨by omega, c2.2⟩), if_pos (Or.inr c2)]
      rfl
    · rw [if_neg (show ¬ ((0 ≤ (p : Int) + 1 ∧ (p : Int) + 1 ≤ 5) ∧ S (p + 1) = 0) from fun q => c2 ⟨by omega, q.2⟩), if_neg (show ¬ ((0 < p ∧ S (p - 1) = 0) ∨ (p < 5 ∧ S (p + 1) = 0)) from fun q => q.elim c1 c2)]
      rfl
theorem goesBy_s {N : Nat} {M : Mem} {T : Nat} {K S H : Row} (hN : 10 ≤ N) (h : NwOK M T K S H) : ∃ M', f_X8_goesBy N 2 M = some (dayF S (wsT T K H), M') ∧ NwOK M' T K (dayR S (wsT T K H)) H ∧ ∀ a, a ≠ ch 2 12 → a ≠ ch 2 13 → M' a = M a := by
  obtain ⟨M1, e1, c1, f1⟩ := copy_s (N := N) (a := ch 2 12) (b := ch 2 13) (n := 6) (M := M) (by omega) al_12 al_13 (by omega) (by decide)
  obtain ⟨h1, h2, h3, h4⟩ := h
  have hW := fun p => wsT_in h2 K H p
  obtain ⟨⟨v, M2⟩, ⟨i1, i2, i3, i4, i5⟩, he⟩ := lp_eq (fun n k (q : Int × Mem) => f_X8_goesBy_15 N 2 n q.1 k q.2) (fun q => some q) (fun k q => q.1 = sumTo (fun p => if S p = 0 then 0 else if dayR S (wsT T K H) p = 0 then 1 else 0) k ∧ (∀ a, a ≠ ch 2 12 → a ≠ ch 2 13 → q.2 a = M a) ∧ (∀ i, i < 6 → q.2 (ch 2 13) i = S i) ∧ (∀ i, i < k → q.2 (ch 2 12) i = dayR S (wsT T K H) i) ∧ ∀ i, k ≤ i → i < 6 → q.2 (ch 2 12) i = S i) 6
    (fun n k q hk hq => by
      obtain ⟨v, m⟩ := q
      obtain ⟨q1, q2, q3, q4, q5⟩ := hq
      dsimp only at q1 q2 q3 q4 q5
      obtain ⟨a1, a2, a3⟩ := h3 k hk
      have e3 := q3 k hk
      have wk := hW k
      have b01 := bes_01 S k
      by_cases h0 : S k = 0
      · refine ⟨(v, m), ⟨?_, q2, q3, fun i hi => ?_, fun i h6 h7 => q5 i (by omega) h7⟩, ?_⟩
        · simp only [sumTo, h0, if_true, Int.add_zero]; exact q1
        · rcases (show i < k ∨ i = k by omega) with q | rfl
          · exact q4 i q
          · dsimp only; rw [q5 i (Nat.le_refl i) hk, h0]; unfold dayR; simp [h0]
        · simp (disch := omega) only [f_X8_goesBy_15, gd_t, if_neg, if_pos, tn_c, e3, h0, reduceIte]
      · have hl : lossR S (wsT T K H) k = wsT T K H k + bes S k := by unfold lossR; rw [if_neg h0]
        have hd : dayR S (wsT T K H) k = if 0 < S k - lossR S (wsT T K H) k then S k - lossR S (wsT T K H) k else 0 := by unfold dayR; rw [if_neg h0]
        -- the worksheet's own row is of no weight here
        have hnw : NwOK m T K (fun i => if i < k then dayR S (wsT T K H) i else S i) H := by
          refine ⟨by rw [q2 2 (by decide) (by decide)]; exact h1, h2, fun p hp => ?_, fun t ht => ?_⟩
          · by_cases c : p < k
            · rw [q4 p c]; simp only [if_pos c]
              have := dayR_in (S := S) (L := wsT T K H) (p := p) (h3 p hp).2 (hW p)
              have h5 := (h3 p hp).2
              exact ⟨trivial, by omega, by omega⟩
            · rw [q5 p (by omega) hp]; simp only [if_neg c]
              exact ⟨trivial, (h3 p hp).2⟩
          · rw [q2 _ (by decide) (by decide), q2 _ (by decide) (by decide)]; exact h4 t ht
        have hle : f_X8_lessOf N 2 (k : Int) (ch 2 13) m = some (lossR S (wsT T K H) k, m) := by
          rw [hl]
          exact lessOf_s hN hnw al_13 (fun p hp => ⟨q3 p hp, (h3 p hp).2⟩) hk
        have hll := lossR_in (S := S) (p := k) (hW k)
        by_cases c : S k - lossR S (wsT T K H) k ≤ 0
        · have hd0 : dayR S (wsT T K H) k = 0 := by rw [hd, if_neg (by omega)]
          refine ⟨(v + 1, st m (ch 2 12) k 0), ⟨?_, fun a ha hb => ?_, fun i hi => ?_, fun i hi => ?_, fun i h6 h7 => ?_⟩, ?_⟩
          · simp only [sumTo, if_neg h0, hd0, if_true, q1]
          · dsimp only; rw [st_ne _ _ _ _ ha]; exact q2 a ha hb
          · dsimp only; rw [st_ne _ _ _ _ (by decide)]; exact q3 i hi
          · dsimp only; rw [st_same]
            by_cases hik : i = k
            · subst hik; simp [hd0]
            · simp only [if_neg hik]; exact q4 i (by omega)
          · dsimp only; rw [st_same]; simp only [if_neg (show i ≠ k by omega)]; exact q5 i (by omega) h7
          · simp (disch := omega) only [f_X8_goesBy_15, f_X8_goesBy_61, gd_t, if_neg, if_pos, tn_c, e3, hle, bnd_s]
        · have hd0 : dayR S (wsT T K H) k = S k - lossR S (wsT T K H) k := by rw [hd, if_pos (by omega)]
          refine ⟨(v, st m (ch 2 12) k (S k - lossR S (wsT T K H) k)), ⟨?_, fun a ha hb => ?_, fun i hi => ?_, fun i hi => ?_, fun i h6 h7 => ?_⟩, ?_⟩
          · simp only [sumTo, if_neg h0, hd0, q1, if_neg (show ¬ (S k - lossR S (wsT T K H) k = 0) by omega), Int.add_zero]
          · dsimp only; rw [st_ne _ _ _ _ ha]; exact q2 a ha hb
          · dsimp only; rw [st_ne _ _ _ _ (by decide)]; exact q3 i hi
          · dsimp only; rw [st_same]
            by_cases hik : i = k
            · subst hik; simp [hd0]
            · simp only [if_neg hik]; exact q4 i (by omega)
          · dsimp only; rw [st_same]; simp only [if_neg (show i ≠ k by omega)]; exact q5 i (by omega) h7
          · simp (disch := omega) only [f_X8_goesBy_15, f_X8_goesBy_61, gd_t, if_neg, if_pos, tn_c, e3, hle, bnd_s, Int.add_zero])
    (fun n q hq => by simp (disch := omega) only [f_X8_goesBy_15, gd_t, if_pos]) 6 0 N (0, M1) rfl (by omega) ⟨rfl, fun a ha hb => f1 a hb, fun i hi => by dsimp only; rw [c1 i hi]; exact (h3 i hi).1, fun i hi => by omega, fun i _ hi => by dsimp only; rw [f1 _ (by decide)]; exact (h3 i hi).1⟩
  dsimp only at i1 i2 i4
  refine ⟨M2, ?_, ⟨by rw [i2 2 (by decide) (by decide)]; exact h1, h2, fun p hp => ?_, fun t ht => ?_⟩, i2⟩
  · simp only [f_X8_goesBy, e1, bnv_s]
    unfold dayF
    rw [← i1]
    exact he
  · have := dayR_in (S := S) (L := wsT T K H) (p := p) (h3 p hp).2 (hW p)
    have h5 := (h3 p hp).2
    exact ⟨i4 p hp, by omega, by omega⟩
  · rw [i2 _ (by decide) (by decide), i2 _ (by decide) (by decide)]; exact h4 t ht
