theorem cut_iff {S : Row} {h : Int} (hh : 0 ≤ h ∧ h ≤ 5) : cutN S h = 1 ↔ ∃ p : Nat, (p : Int) ≤ h ∧ S p = 0 := by
  have h6 := ffal_le6 S
  unfold cutN
  constructor
  · intro q
    split at q
    · rename_i c
      exact ⟨ffal S, c, ffal_eq (by omega)⟩
    · omega
  · rintro ⟨p, h1, h2⟩
    rw [if_pos]
    rcases Nat.lt_or_ge p (ffal S) with q | q
    · exact absurd h2 (ffal_ne q)
    · omega
theorem isCutOff8_s {N : Nat} {M : Mem} {T : Nat} {K S H : Row} (hN : 10 ≤ N) (h : NwOK M T K S H) {t : Nat} (ht : t < T) : f_X8_isCutOff N 2 (t : Int) M = some (cutN S (H t), M) := by
  obtain ⟨h1, h2, h3, h4⟩ := h
  obtain ⟨-, k4, k5, k6⟩ := h4 t ht
  obtain ⟨e, he⟩ : ∃ e : Nat, (e : Int) = H t + 1 := ⟨(H t + 1).toNat, by omega⟩
  obtain ⟨v, ⟨i1, i2⟩, he⟩ := lp_eq (fun n k (v : Int) => f_X8_isCutOff_4 N 2 (t : Int) n v k M) (fun v => some (v, M)) (fun k v => (v = 0 ∨ v = 1) ∧ (v = 1 ↔ ∃ p : Nat, p < k ∧ S p = 0)) e
    (fun n k v hk hv => by
      obtain ⟨v1, v2⟩ := hv
      obtain ⟨a1, a2, a3⟩ := h3 k (by omega)
      rcases v1 with v0 | v0
      · subst v0
        by_cases c : S k = 0
        · exact ⟨1, ⟨Or.inr rfl, fun _ => ⟨k, by omega, c⟩, fun _ => rfl⟩, by simp (disch := omega) only [f_X8_isCutOff_4, gd_t, if_neg, if_pos, tn_c, k4, a1, c, reduceIte]⟩
        · refine ⟨0, ⟨Or.inl rfl, fun q => by omega, fun ⟨p, hp, hz⟩ => ?_⟩, by simp (disch := omega) only [f_X8_isCutOff_4, gd_t, if_neg, if_pos, tn_c, k4, a1, reduceIte]⟩
          rcases (show p < k ∨ p = k by omega) with q | rfl
          · exact v2.mpr ⟨p, q, hz⟩
          · exact absurd hz c
      · subst v0
        obtain ⟨p, hp, hz⟩ := v2.mp rfl
        exact ⟨1, ⟨Or.inr rfl, fun _ => ⟨p, by omega, hz⟩, fun _ => rfl⟩, by simp (disch := omega) only [f_X8_isCutOff_4, gd_t, if_neg, if_pos, tn_c, k4]⟩)
    (fun n v hv => by
      have hv1 := hv.1
      simp (disch := omega) only [f_X8_isCutOff_4, gd_t, if_pos, tn_c, k4]) e 0 N 0 (by omega) (by omega) ⟨Or.inl rfl, fun q => by omega, fun ⟨p, hp, _⟩ => by omega⟩
  have hv : v = cutN S (H t) := by
    have hc := cut_iff (S := S) (h := H t) ⟨k5, k6⟩
    rcases i1 with v0 | v0
    · rcases cutN_01 S (H t) with q | q
      · rw [v0, q]
      · obtain ⟨p, p1, p2⟩ := hc.mp q
        have := i2.mpr ⟨p, by omega, p2⟩
        omega
    · obtain ⟨p, p1, p2⟩ := i2.mp v0
      rw [v0, hc.mpr ⟨p, by omega, p2⟩]
  unfold f_X8_isCutOff
  rw [← hv]
  exact he
theorem gasping_s {N : Nat} {M : Mem} {T : Nat} {K S H : Row} {air : Int} (hN : 10 ≤ N) (h : NwOK M T K S H) (ha : M 2 2 = air) (ha2 : 0 ≤ air ∧ air ≤ 9) : f_X8_gasping N 2 M = some ((gsp S T K H air : Int), M) := by
  have h1 := h.1
  have h2 := h.2.1
  have h4 := h.2.2.2
  have h32 := p2_5 h2
  have hok0 : gsOK T (air, 0) := ⟨ha2.1, ha2.2, Nat.pos_of_ne_zero (by simp)⟩
  obtain ⟨s', hI, he⟩ := lp_eq (fun n k (s : Int × Nat) => f_X8_gasping_9 N 2 n s.1 (s.2 : Int) k M) (fun s => some ((s.2 : Int), M)) (fun k s => s = gsA S T K H k (air, 0)) 6
    (fun n p s0 hp hs0 => by
      have hok : gsOK T s0 := by rw [hs0]; exact gsA_ok (S := S) (K := K) (H := H) hok0 p
      obtain ⟨s1, hI1, he1⟩ := lp_eq (fun n2 k (s : Int × Nat) => f_X8_gasping_18 N 2 (f_X8_gasping_9 N 2 n) n2 s.1 (s.2 : Int) (p : Int) k M) (fun s => f_X8_gasping_9 N 2 n s.1 (s.2 : Int) ((p : Int) + 1) M) (fun k s => s = gsT S K H (p : Int) k s0) T
        (fun n2 t s ht hs => by
          subst hs
          have hk := gsT_ok (S := S) (K := K) (H := H) (p := (p : Int)) hok t (by omega)
          obtain ⟨g1, g2, g3⟩ := hk
          have hb := brs_in (K t)
          obtain ⟨⟨k1, k2, k3⟩, k4, k5, k6⟩ := h4 t ht
          refine ⟨_, rfl, ?_⟩
          rw [gsT_step]
          generalize gsT S K H (p : Int) t s0 = s3 at g1 g2 g3
          obtain ⟨lf, bt⟩ := s3
          dsimp only at g1 g2 g3 ⊢
          have e0 : i_or (bt : Int) 0 = (bt : Int) := i_or0 (by omega)
          by_cases hh : H t = (p : Int)
          · rw [if_pos hh]
            have e1 : i_or (bt : Int) (i_shl 1 (t : Int)) = ((bt ||| 2 ^ t : Nat) : Int) := or_lor t (by omega) bt (by omega)
            rcases cutN_01 S (H t) with hc | hc
            · by_cases hlt : lf < brs (K t)
              · rw [if_pos (Or.inr hlt)]
                simp (disch := omega) only [f_X8_gasping_18, f_X8_gasping_67, f_X8_gasping_72, f_X8_gasping_86, gd_t, if_neg, if_pos, h1, reduceIte, tn_c, tn_2, k4, k1, breathBy_s ⟨k2, k3⟩, isCutOff8_s hN h ht, hc, bnd_s, e1, Int.sub_zero]
              · rw [if_neg (by omega)]
                simp (disch := omega) only [f_X8_gasping_18, f_X8_gasping_67, f_X8_gasping_72, f_X8_gasping_86, gd_t, if_neg, if_pos, h1, reduceIte, tn_c, tn_2, k4, k1, breathBy_s ⟨k2, k3⟩, isCutOff8_s hN h ht, hc, bnd_s, e0]
            · rw [if_pos (Or.inl hc)]
              simp (disch := omega) only [f_X8_gasping_18, f_X8_gasping_67, f_X8_gasping_72, f_X8_gasping_86, gd_t, if_neg, if_pos, h1, reduceIte, tn_c, tn_2, k4, k1, breathBy_s ⟨k2, k3⟩, isCutOff8_s hN h ht, hc, bnd_s, e1, Int.sub_zero]
          · rw [if_neg hh]
            simp (disch := omega) only [f_X8_gasping_18, gd_t, if_neg, if_pos, h1, reduceIte, tn_c, k4])
        (fun n2 s hs => by simp (disch := omega) only [f_X8_gasping_18, gd_t, if_pos, h1]) T 0 N s0 (by omega) (by omega) rfl
      refine ⟨s1, by rw [hI1, hs0]; rfl, ?_⟩
      simp (disch := omega) only [f_X8_gasping_9, gd_t, if_neg]
      exact he1)
    (fun n s hs => by simp (disch := omega) only [f_X8_gasping_9, gd_t, if_pos]) 6 0 N (air, 0) rfl (by omega) rfl
  unfold f_X8_gasping gsp
  rw [ha, ← hI]
  exact he
theorem whoIn_s {N : Nat} {M : Mem} {S : Row} {T : Nat} {K H : Row} (hN : 10 ≤ N) (h : MdOK M S T K H) {p : Int} (hp : inR p) : f_X8_whoIn N 2 p M = some ((dwN H p T : Int), M) := by
  obtain ⟨h1, h2, h3, h4⟩ := h
  obtain ⟨s', hI, he⟩ := lp_eq (fun n k (v : Int) => f_X8_whoIn_4 N 2 p n v k M) (fun v => some (v, M)) (fun k v => v = (dwN H p k : Int)) T
    (fun n k v hk hv => by
      subst hv
      obtain ⟨-, k4, k5, k6⟩ := h4 k hk
      have hl := dwN_lt H p k
      have hl2 := p2_5 (show k ≤ 5 by omega)
      refine ⟨_, rfl, ?_⟩
      by_cases h0 : H k = p
      · have e : ((dwN H p (k + 1) : Nat) : Int) = i_or (dwN H p k : Int) (i_shl 1 (k : Int)) := by rw [or_bit k (by omega) _ hl]; simp [dwN, h0]
        rw [e]
        simp (disch := omega) only [f_X8_whoIn_4, gd_t, if_neg, if_pos, h1, tn_21, k4]
      · have e : ((dwN H p (k + 1) : Nat) : Int) = i_or (dwN H p k : Int) 0 := by rw [i_or0 (by omega)]; simp [dwN, h0]
        rw [e]
        simp (disch := omega) only [f_X8_whoIn_4, gd_t, if_neg, if_pos, h1, tn_21, k4])
    (fun n v hv => by simp (disch := omega) only [f_X8_whoIn_4, gd_t, if_pos, h1]) T 0 N 0 (by omega) (by omega) rfl
  unfold f_X8_whoIn
  rw [← hI]
  exact he
theorem standing8_s {N : Nat} {M : Mem} {S : Row} (hN : 10 ≤ N) (h : ∀ p, p < 6 → M (ch 2 8) p = S p ∧ 0 ≤ S p ∧ S p ≤ 20) : f_X8_standing N 2 M = some (cntS S, M) := by
  obtain ⟨s', hI, he⟩ := lp_eq (fun n k (v : Int) => f_X8_standing_4 N 2 n v k M) (fun v => some (v, M)) (fun k v => v = sumTo (fun p => if S p = 0 then 0 else 1) k) 6
    (fun n k v hk hv => by
      obtain ⟨a1, a2, a3⟩ := h k hk
      refine ⟨_, rfl, ?_⟩
      subst hv
      by_cases h0 : S k = 0
      · simp (disch := omega) only [f_X8_standing_4, gd_t, tn_c, a1, if_neg, if_pos, reduceIte, h0, sumTo, Int.add_zero]
      · simp (disch := omega) only [f_X8_standing_4, gd_t, tn_c, a1, if_neg, if_pos, reduceIte, sumTo])
    (fun n v hv => by simp (disch := omega) only [f_X8_standing_4, gd_t, if_pos]) 6 0 N 0 rfl (by omega) rfl
  unfold f_X8_standing cntS
  rw [← hI]
  exact he
/-! holds -/
def okD (S L : Row) (d : Int) : Prop := ∀ p, p < 6 → S p ≠ 0 → d * lossR S L p < S p
def aft (S L : Row) (d : Int) : Row := fun p => if S p = 0 then 0 else S p - d * lossR S L p
theorem aft_0 {S L : Row} {d : Int} (h : okD S L d) {p : Nat} (hp : p < 6) : aft S L d p = 0 ↔ S p = 0 := by
  unfold aft
  by_cases c : S p = 0
  · simp [c]
  · have := h p hp c
    rw [if_neg c]
    constructor
    · intro q; omega
    · intro q; exact absurd q c
theorem aft_bes {S L : Row} {d : Int} (h : okD S L d) {p : Nat} (hp : p < 6) : bes (aft S L d) p = bes S p := by
  unfold bes
  have e1 : (0 < p ∧ aft S L d (p - 1) = 0) ↔ (0 < p ∧ S (p - 1) = 0) := by
    constructor <;> rintro ⟨q1, q2⟩
    · exact ⟨q1, (aft_0 h (by omega)).mp q2⟩
    · exact ⟨q1, (aft_0 h (by omega)).mpr q2⟩
  have e2 : (p < 5 ∧ aft S L d (p + 1) = 0) ↔ (p < 5 ∧ S (p + 1) = 0) := by
    constructor <;> rintro ⟨q1, q2⟩
    · exact ⟨q1, (aft_0 h (by omega)).mp q2⟩
    · exact ⟨q1, (aft_0 h (by omega)).mpr q2⟩
  simp only [e1, e2]
theorem aft_loss {S L : Row} {d : Int} (h : okD S L d) {p : Nat} (hp : p < 6) : lossR (aft S L d) L p = lossR S L p := by
  unfold lossR
  rw [aft_bes h hp]
  by_cases c : S p = 0
  · rw [if_pos ((aft_0 h hp).mpr c), if_pos c]
  · rw [if_neg (fun q => c ((aft_0 h hp).mp q)), if_neg c]
theorem sum0_iff {f : Nat → Int} : ∀ n, (∀ i, i < n → 0 ≤ f i) → (sumTo f n = 0 ↔ ∀ i, i < n → f i = 0)
  | 0, _ => ⟨fun _ i hi => by omega, fun _ => rfl⟩
  | n + 1, h => by
    have ih := sum0_iff n (fun i hi => h i (by omega))
    have hp := sumTo_nn n (fun i hi => h i (by omega))
    have hn := h n (by omega)
    show sumTo f n + f n = 0 ↔ _
    constructor
    · intro q i hi
      rcases (show i < n ∨ i = n by omega) with c | rfl
      · exact ih.mp (by omega) i c
      · omega
    · intro q
      rw [ih.mpr (fun i hi => q i (by omega)), q n (by omega)]
      rfl
where sumTo_nn {f : Nat → Int} : ∀ n, (∀ i, i < n → 0 ≤ f i) → 0 ≤ sumTo f n
  | 0, _ => Int.le_refl 0
  | n + 1, h => by
    have := sumTo_nn n (fun i hi => h i (by omega))
    have h2 := h n (by omega)
    show 0 ≤ sumTo f n + f n
    omega
theorem dayF_0 {S L : Row} {d : Int} (h : okD S L d) : dayF (aft S L d) L = 0 ↔ okD S L (d + 1) := by
  unfold dayF
  rw [sum0_iff 6 (fun i hi => by split <;> (try split) <;> omega)]
  have e : ∀ p, (d + 1) * lossR S L p = d * lossR S L p + lossR S L p := fun p => by rw [Int.add_mul, Int.one_mul]
  constructor
  · intro q p hp hz
    have q1 := q p hp
    have ha : ¬ aft S L d p = 0 := fun z => hz ((aft_0 h hp).mp z)
    rw [if_neg ha] at q1
    unfold dayR at q1
    rw [if_neg ha, aft_loss h hp] at q1
    have hv : aft S L d p = S p - d * lossR S L p := by unfold aft; rw [if_neg hz]
    rw [hv] at q1
    rw [e]
    split at q1
    · omega
    · simp at q1
  · intro q p hp
    by_cases hz : S p = 0
    · rw [if_pos ((aft_0 h hp).mpr hz)]
    · have ha : ¬ aft S L d p = 0 := fun z => hz ((aft_0 h hp).mp z)
      rw [if_neg ha]
      unfold dayR
      rw [if_neg ha, aft_loss h hp]
      have hv : aft S L d p = S p - d * lossR S L p := by unfold aft; rw [if_neg hz]
      rw [hv]
      have := q p hp hz
      rw [e] at this
      rw [if_pos (show 0 < S p - d * lossR S L p - lossR S L p by omega), if_neg (by omega)]
theorem dayR_aft {S L : Row} {d : Int} (h : okD S L d) (h2 : okD S L (d + 1)) {p : Nat} (hp : p < 6) : dayR (aft S L d) L p = aft S L (d + 1) p := by
  have e : (d + 1) * lossR S L p = d * lossR S L p + lossR S L p := by rw [Int.add_mul, Int.one_mul]
  unfold dayR
  rw [aft_loss h hp]
  by_cases hz : S p = 0
  · rw [if_pos ((aft_0 h hp).mpr hz)]; unfold aft; rw [if_pos hz]
  · rw [if_neg (fun z => hz ((aft_0 h hp).mp z))]
    have := h2 p hp hz
    unfold aft
    rw [if_neg hz, if_neg hz, if_pos (by omega)]
    omega
theorem NwOK.row {M : Mem} {T : Nat} {K S S' H : Row} (h : NwOK M T K S H) (he : ∀ p, p < 6 → S p = S' p) : NwOK M T K S' H :=
  ⟨h.1, h.2.1, fun p hp => by rw [← he p hp]; exact h.2.2.1 p hp, h.2.2.2⟩
theorem holdsThen_s {N : Nat} {M : Mem} {T : Nat} {K S H : Row} (hN : 50 ≤ N) (h : NwOK M T K S H) : ∃ M', f_X8_holdsThen N 2 M = some (ffS S (wsT T K H), M') ∧ ∀ a, a ≠ ch 2 12 → a ≠ ch 2 13 → M' a = M a := by
  have hS : ∀ p, p < 6 → 0 ≤ S p := fun p hp => (h.2.2.1 p hp).2.1
  have hL : ∀ p, p < 6 → 0 ≤ wsT T K H p ∧ wsT T K H p ≤ 20 := fun p _ => wsT_in h.2.1 K H p
  have hff := ffTo_in hS hL 6 (Nat.le_refl 6)
  have hlt : ∀ d : Int, 0 ≤ d → d ≤ 40 → (d < ffS S (wsT T K H) ↔ okD S (wsT T K H) d) := fun d h1 h2 => ffTo_lt hS hL h1 h2 6 (Nat.le_refl 6)
  have hff2 : 1 ≤ ffS S (wsT T K H) ∧ ffS S (wsT T K H) ≤ 41 := hff
  have key : ∀ (j k n : Nat) (m : Mem), k + j = 40 → j < n → okD S (wsT T K H) (k : Int) → NwOK m T K (aft S (wsT T K H) (k : Int)) H → (∀ a, a ≠ ch 2 12 → a ≠ ch 2 13 → m a = M a) → ∃ M', f_X8_holdsThen_2 N 2 n ((k : Int) + 1) m = some (ffS S (wsT T K H), M') ∧ ∀ a, a ≠ ch 2 12 → a ≠ ch 2 13 → M' a = M a := by
    intro j
    induction j with
    | zero =>
      intro k n m hk hn ho hm hf
      obtain ⟨n, rfl⟩ : ∃ n', n = n' + 1 := ⟨n - 1, by omega⟩
      have h40 := (hlt (k : Int) (by omega) (by omega)).mpr ho
      have e : ffS S (wsT T K H) = (k : Int) + 1 := by omega
      exact ⟨m, by rw [e]; simp (disch := omega) only [f_X8_holdsThen_2, gd_t, if_pos], hf⟩
    | succ j ih =>
      intro k n m hk hn ho hm hf
      obtain ⟨n, rfl⟩ : ∃ n', n = n' + 1 := ⟨n - 1, by omega⟩
      obtain ⟨m1, g1, g2, g3⟩ := goesBy_s (N := N) (by omega) hm
      have hd0 := dayF_0 ho
      have hk1 := (hlt (k : Int) (by omega) (by omega)).mpr ho
      have f3 : ∀ a, a ≠ ch 2 12 → a ≠ ch 2 13 → m1 a = M a := fun a ha hb => by rw [g3 a ha hb, hf a ha hb]
      have hdr : 0 ≤ dayF (aft S (wsT T K H) (k : Int)) (wsT T K H) ∧ dayF (aft S (wsT T K H) (k : Int)) (wsT T K H) ≤ 6 := by
        have := sumTo_in (f := fun p => if aft S (wsT T K H) (k : Int) p = 0 then 0 else if dayR (aft S (wsT T K H) (k : Int)) (wsT T K H) p = 0 then 1 else 0) (a := 0) (b := 1) 6 (fun i _ => by split <;> (try split) <;> omega)
        unfold dayF
        omega
      by_cases c : dayF (aft S (wsT T K H) (k : Int)) (wsT T K H) = 0
      · have ho2 := hd0.mp c
        have e2 : ((k + 1 : Nat) : Int) = (k : Int) + 1 := by omega
        have ih := ih (k + 1) n m1 (by omega) (by omega) (by rw [e2]; exact ho2) (by rw [e2]; exact g2.row (fun p hp => dayR_aft ho ho2 hp)) f3
        rw [e2] at ih
        obtain ⟨M', i1, i2⟩ := ih
        refine ⟨M', ?_, i2⟩
        simp (disch := omega) only [f_X8_holdsThen_2, gd_t, if_neg, g1, bnd_s, if_pos]
        exact i1
      · have hno : ¬ okD S (wsT T K H) ((k : Int) + 1) := fun q => c (hd0.mpr q)
        have hge : ¬ ((k : Int) + 1 < ffS S (wsT T K H)) := fun q => hno ((hlt ((k : Int) + 1) (by omega) (by omega)).mp q)
        have e : ffS S (wsT T K H) = (k : Int) + 1 := by omega
        exact ⟨m1, by rw [e]; simp (disch := omega) only [f_X8_holdsThen_2, gd_t, if_neg, g1, bnd_s], f3⟩
  have h0 : okD S (wsT T K H) ((0 : Nat) : Int) := fun p hp hz => by have := hS p hp; simp; omega
  exact key 40 0 N M rfl (by omega) h0 (h.row (fun p hp => by unfold aft; by_cases c : S p = 0 <;> simp [c])) (fun _ _ _ => rfl)
