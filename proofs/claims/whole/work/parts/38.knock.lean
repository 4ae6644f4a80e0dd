/-! knocks: the words -/
def dayN (S L : Row) : Nat → Row
  | 0 => S
  | n + 1 => dayR (dayN S L n) L
def stn (S L : Row) (d p : Nat) : Int := if dayN S L d p = 0 then 0 else 1
def agB (S L KP KD KS : Row) : Nat → Bool
  | 0 => true
  | i + 1 => agB S L KP KD KS i && decide (stn S L (KD i).toNat (KP i).toNat = KS i)
theorem agB_t {S L KP KD KS : Row} : ∀ n, agB S L KP KD KS n = true ↔ ∀ i, i < n → stn S L (KD i).toNat (KP i).toNat = KS i
  | 0 => ⟨fun _ i hi => by omega, fun _ => rfl⟩
  | n + 1 => by
    have ih := agB_t (S := S) (L := L) (KP := KP) (KD := KD) (KS := KS) n
    unfold agB
    rw [Bool.and_eq_true, ih, decide_eq_true_eq]
    constructor
    · rintro ⟨h1, h2⟩ i hi
      rcases (show i < n ∨ i = n by omega) with q | rfl
      · exact h1 i q
      · exact h2
    · intro h
      exact ⟨fun i hi => h i (by omega), h n (by omega)⟩
def RowIn (S : Row) : Prop := ∀ p, p < 6 → 0 ≤ S p ∧ S p ≤ 20
theorem dayN_in {S L : Row} (h : RowIn S) (hL : RowIn L) : ∀ n, RowIn (dayN S L n)
  | 0 => h
  | n + 1 => fun p hp => by
    have ih := dayN_in h hL n p hp
    have := dayR_in (S := dayN S L n) (L := L) (p := p) ih (hL p hp)
    show 0 ≤ dayR (dayN S L n) L p ∧ dayR (dayN S L n) L p ≤ 20
    omega
theorem dayN_dead {S L : Row} {n p : Nat} (h : dayN S L n p = 0) : dayN S L (n + 1) p = 0 := by
  show dayR (dayN S L n) L p = 0
  unfold dayR
  rw [if_pos h]
theorem RoofOK.row {M : Mem} {r : Nat} {S S' L : Row} (h : RoofOK M r S L) (he : ∀ p, p < 6 → S p = S' p) : RoofOK M r S' L :=
  ⟨fun p hp => by rw [← he p hp]; exact h.1 p hp, h.2⟩
def KnOK (M : Mem) (o : Nat) (n : Nat) (KP KD KS : Row) : Prop :=
  M o 3 = (n : Int) ∧ n ≤ 8 ∧ ∀ i, i < n → (M (ch o 0) i = KP i ∧ 0 ≤ KP i ∧ KP i ≤ 5) ∧ (M (ch o 1) i = KD i ∧ 0 ≤ KD i ∧ KD i ≤ 20) ∧ M (ch o 2) i = KS i ∧ 0 ≤ KS i ∧ KS i ≤ 1
theorem KnOK.kept {M M' : Mem} {o n : Nat} {KP KD KS : Row} (h : KnOK M o n KP KD KS) (h0 : M' o = M o) (h1 : M' (ch o 0) = M (ch o 0)) (h2 : M' (ch o 1) = M (ch o 1)) (h3 : M' (ch o 2) = M (ch o 2)) : KnOK M' o n KP KD KS := by
  unfold KnOK
  rw [h0, h1, h2, h3]
  exact h
/-! the class -/
theorem lastDay_s {N o : Nat} {M : Mem} {n : Nat} {KP KD KS : Row} (hN : 10 ≤ N) (h : KnOK M o n KP KD KS) : ∃ d : Int, f_X1_lastDay N o M = some (d, M) ∧ 0 ≤ d ∧ d ≤ 20 ∧ ∀ i, i < n → KD i ≤ d := by
  obtain ⟨h1, h2, h3⟩ := h
  obtain ⟨v, ⟨i1, i2, i3⟩, he⟩ := lp_eq (fun n' k (v : Int) => f_X1_lastDay_4 N o n' v k M) (fun v => some (v, M)) (fun k v => 0 ≤ v ∧ v ≤ 20 ∧ ∀ i, i < k → KD i ≤ v) n
    (fun n' k v hk hv => by
      obtain ⟨v1, v2, v3⟩ := hv
      obtain ⟨-, ⟨k1, k2, k3⟩, -⟩ := h3 k hk
      refine ⟨if v < KD k then KD k else v, ⟨by split <;> omega, by split <;> omega, fun i hi => ?_⟩, ?_⟩
      · rcases (show i < k ∨ i = k by omega) with q | rfl
        · have := v3 i q; split <;> omega
        · split <;> omega
      · simp (disch := omega) only [f_X1_lastDay_4, gd_t, if_neg, h1, tn_c, k1, max_s (x := v) (y := KD k) (by omega) (by omega), bnd_s])
    (fun n' v hv => by simp (disch := omega) only [f_X1_lastDay_4, gd_t, if_pos, h1]) n 0 N 0 (by omega) (by omega) ⟨by omega, by omega, fun i hi => by omega⟩
  exact ⟨v, he, i1, i2, i3⟩
theorem al_fb : al (ch 50 1) = 6 := by decide +kernel
theorem agree_s {N : Nat} {M : Mem} {n : Nat} {KP KD KS S L F : Row} {D : Nat} (hN : 10 ≤ N) (h : KnOK M 45 n KP KD KS) (hF : ∀ q, q < 6 → M (ch 50 1) q = F q ∧ 0 ≤ F q ∧ F q ≤ 41) (hD : ∀ i, i < n → KD i ≤ (D : Int)) (hfb : ∀ q, q < 6 → ∀ d : Nat, d ≤ D → ((d : Int) < F q ↔ dayN S L d q ≠ 0)) : f_X1_agreeWith N 45 (ch 50 1) M = some (if agB S L KP KD KS n then 1 else 0, M) := by
  obtain ⟨h1, h2, h3⟩ := h
  obtain ⟨q, e1, e2⟩ := lp_ex (fun n' k (_ : Unit) => f_X1_agreeWith_2 N 45 (ch 50 1) n' k M) (fun q => q = ((if agB S L KP KD KS n then 1 else 0 : Int), M)) (fun k _ => ∀ i, i < k → stn S L (KD i).toNat (KP i).toNat = KS i) n
    (fun n' k _ hk hv => by
      obtain ⟨⟨a1, a2, a3⟩, ⟨b1, b2, b3⟩, c1, c2, c3⟩ := h3 k hk
      obtain ⟨d1, d2, d3⟩ := hF (KP k).toNat (by omega)
      have hf := hfb (KP k).toNat (by omega) (KD k).toNat (by have := hD k hk; omega)
      have ed : ((KD k).toNat : Int) = KD k := by omega
      rw [ed] at hf
      by_cases c : F (KP k).toNat ≤ KD k
      · have hs : stn S L (KD k).toNat (KP k).toNat = 0 := by
          unfold stn
          rw [if_pos]
          exact Classical.byContradiction (fun q => by have := hf.mpr q; omega)
        by_cases z : KS k = 0
        · right
          refine ⟨(), fun i hi => ?_, by simp (disch := omega) only [f_X1_agreeWith_2, f_X1_agreeWith_52, gd_t, if_neg, if_pos, h1, tn_c, a1, b1, c1, d1, al_fb, z, reduceIte]⟩
          rcases (show i < k ∨ i = k by omega) with q | rfl
          · exact hv i q
          · rw [hs, z]
        · left
          refine ⟨_, by simp (disch := omega) only [f_X1_agreeWith_2, f_X1_agreeWith_52, gd_t, if_neg, if_pos, h1, tn_c, a1, b1, c1, d1, al_fb]; rfl, ?_⟩
          rw [if_neg]
          intro q
          have := (agB_t n).mp q k hk
          omega
      · have hs : stn S L (KD k).toNat (KP k).toNat = 1 := by
          unfold stn
          rw [if_neg]
          exact hf.mp (by omega)
        by_cases z : KS k = 1
        · right
          refine ⟨(), fun i hi => ?_, by simp (disch := omega) only [f_X1_agreeWith_2, f_X1_agreeWith_52, gd_t, if_neg, if_pos, h1, tn_c, a1, b1, c1, d1, al_fb, z, reduceIte]⟩
          rcases (show i < k ∨ i = k by omega) with q | rfl
          · exact hv i q
          · rw [hs, z]
        · left
          refine ⟨_, by simp (disch := omega) only [f_X1_agreeWith_2, f_X1_agreeWith_52, gd_t, if_neg, if_pos, h1, tn_c, a1, b1, c1, d1, al_fb]; rfl, ?_⟩
          rw [if_neg]
          intro q
          have := (agB_t n).mp q k hk
          omega)
    (fun n' _ hv => ⟨_, by simp (disch := omega) only [f_X1_agreeWith_2, gd_t, if_pos, h1]; rfl, by rw [if_pos ((agB_t n).mpr hv)]⟩) n 0 N () (by omega) (by omega) (fun i hi => by omega)
  unfold f_X1_agreeWith
  rw [← e2]
  exact e1
/-- liveDays: the worksheet is the sounding's roof and its row of falls -/
def sndF (M M' : Mem) : Prop := ∀ a, a ≠ ch 50 1 → a ≠ ch (ch 50 0) 0 → a ≠ ch (ch 50 0) 2 → M' a = M a
theorem liveDays_s {N : Nat} {M : Mem} {S L : Row} {D : Nat} (hN : 30 ≤ N) (h : RoofOK M (ch 50 0) S L) (hD : 10 ≤ D ∧ D ≤ 20) : ∃ (M' : Mem) (F : Row), f_X5_liveDays N 50 (D : Int) M = some M' ∧ sndF M M' ∧ (∀ q, q < 6 → M' (ch 50 1) q = F q ∧ 0 ≤ F q ∧ F q ≤ 41) ∧ ∀ q, q < 6 → ∀ d : Nat, d ≤ D → ((d : Int) < F q ↔ dayN S L d q ≠ 0) := by
  have hSin : RowIn S := fun p hp => (h.1 p hp).2
  have hLin : RowIn L := fun p hp => (h.2 p hp).2
  -- the first loop
  obtain ⟨M1, ⟨a1, a2⟩, ea⟩ := lp_eq (fun n k (m : Mem) => f_X5_liveDays_2 N 50 (D : Int) n k m) (fun m => f_X5_liveDays_39 N 50 (D : Int) N 1 m) (fun k m => (∀ x, x ≠ ch 50 1 → m x = M x) ∧ ∀ q, q < k → m (ch 50 1) q = if S q = 0 then 0 else 41) 6
    (fun n k m hk hm => by
      obtain ⟨m1, m2⟩ := hm
      have hok : RoofOK m (ch 50 0) S L := ⟨fun p hp => by rw [m1 _ (by decide)]; exact h.1 p hp, fun p hp => by rw [m1 _ (by decide)]; exact h.2 p hp⟩
      refine ⟨st m (ch 50 1) k (if S k = 0 then 0 else 41), ⟨fun x hx => by rw [st_ne _ _ _ _ hx]; exact m1 x hx, fun q hq => ?_⟩, ?_⟩
      · rw [st_same]
        by_cases c : q = k
        · subst c; simp
        · simp only [if_neg c]; exact m2 q (by omega)
      · by_cases c : S k = 0
        · simp (disch := omega) only [f_X5_liveDays_2, gd_t, if_neg, stands_s hok hk, bnd_s, c, reduceIte, tn_c]
        · simp (disch := omega) only [f_X5_liveDays_2, gd_t, if_neg, stands_s hok hk, bnd_s, reduceIte, tn_c])
    (fun n m hm => by simp (disch := omega) only [f_X5_liveDays_2, gd_t, if_pos]) 6 0 N M rfl (by omega) ⟨fun _ _ => rfl, fun q hq => by omega⟩
  -- the days
  have key : ∀ (j k n : Nat) (m : Mem) (F : Row), k + j = D → j < n → sndF M m → RoofOK m (ch 50 0) (dayN S L k) L → (∀ q, q < 6 → m (ch 50 1) q = F q ∧ 0 ≤ F q ∧ F q ≤ 41 ∧ (F q = 41 ∨ F q ≤ (k : Int))) → (∀ q, q < 6 → ∀ d : Nat, d ≤ k → ((d : Int) < F q ↔ dayN S L d q ≠ 0)) → ∃ (M' : Mem) (F' : Row), f_X5_liveDays_39 N 50 (D : Int) n ((k : Int) + 1) m = some M' ∧ sndF M M' ∧ (∀ q, q < 6 → M' (ch 50 1) q = F' q ∧ 0 ≤ F' q ∧ F' q ≤ 41) ∧ ∀ q, q < 6 → ∀ d : Nat, d ≤ D → ((d : Int) < F' q ↔ dayN S L d q ≠ 0) := by
    intro j
    induction j with
    | zero =>
      intro k n m F hk hn hf hr hF hb
      obtain ⟨n, rfl⟩ : ∃ n', n = n' + 1 := ⟨n - 1, by omega⟩
      have hkD : k = D := by omega
      subst hkD
      exact ⟨m, F, by simp (disch := omega) only [f_X5_liveDays_39, gd_t, if_pos], hf, fun q hq => ⟨(hF q hq).1, (hF q hq).2.1, (hF q hq).2.2.1⟩, hb⟩
    | succ j ih =>
      intro k n m F hk hn hf hr hF hb
      obtain ⟨n, rfl⟩ : ∃ n', n = n' + 1 := ⟨n - 1, by omega⟩
      obtain ⟨m1, g1, g2, g3⟩ := passDay_s (N := N) (by omega) hr
      have hr1 : RoofOK m1 (ch 50 0) (dayN S L (k + 1)) L := ⟨fun p hp => by rw [g3 p hp]; exact ⟨rfl, dayN_in hSin hLin (k + 1) p hp⟩, fun p hp => by rw [g2 _ (by decide) (by decide)]; exact hr.2 p hp⟩
      obtain ⟨m2, ⟨b1, b2, b3⟩, eb⟩ := lp_eq (fun n2 q (m : Mem) => f_X5_liveDays_60 N 50 (D : Int) (f_X5_liveDays_39 N 50 (D : Int) n) n2 ((k : Int) + 1) q m) (fun m => f_X5_liveDays_39 N 50 (D : Int) n (((k : Int) + 1) + 1) m) (fun i m => (∀ x, x ≠ ch 50 1 → m x = m1 x) ∧ (∀ q, q < i → m (ch 50 1) q = if F q = 41 ∧ dayN S L (k + 1) q = 0 then (k : Int) + 1 else F q) ∧ ∀ q, i ≤ q → q < 6 → m (ch 50 1) q = F q) 6
        (fun n2 i m' hi hm => by
          obtain ⟨c1, c2, c3⟩ := hm
          have hok : RoofOK m' (ch 50 0) (dayN S L (k + 1)) L := ⟨fun p hp => by rw [c1 _ (by decide)]; exact hr1.1 p hp, fun p hp => by rw [c1 _ (by decide)]; exact hr1.2 p hp⟩
          have c4 := c3 i (Nat.le_refl i) hi
          obtain ⟨f1, f2, f3, f4⟩ := hF i hi
          by_cases z : F i = 41
          · by_cases z2 : dayN S L (k + 1) i = 0
            · refine ⟨st m' (ch 50 1) i ((k : Int) + 1), ⟨fun x hx => by rw [st_ne _ _ _ _ hx]; exact c1 x hx, fun q hq => ?_, fun q h6 h7 => ?_⟩, ?_⟩
              · rw [st_same]
                by_cases c : q = i
                · subst c; simp [z, z2]
                · simp only [if_neg c]; exact c2 q (by omega)
              · rw [st_same]; simp only [if_neg (show q ≠ i by omega)]; exact c3 q (by omega) h7
              · simp (disch := omega) only [f_X5_liveDays_60, gd_t, if_neg, tn_c, c4, z, reduceIte, stands_s hok hi, z2, bnd_s]
            · refine ⟨m', ⟨c1, fun q hq => ?_, fun q h6 h7 => c3 q (by omega) h7⟩, ?_⟩
              · rcases (show q < i ∨ q = i by omega) with c | rfl
                · exact c2 q c
                · rw [c4, if_neg (fun w => z2 w.2)]
              · simp (disch := omega) only [f_X5_liveDays_60, gd_t, if_neg, tn_c, c4, z, reduceIte, stands_s hok hi, bnd_s]
          · refine ⟨m', ⟨c1, fun q hq => ?_, fun q h6 h7 => c3 q (by omega) h7⟩, ?_⟩
            · rcases (show q < i ∨ q = i by omega) with c | rfl
              · exact c2 q c
              · rw [c4, if_neg (fun w => z w.1)]
            · simp (disch := omega) only [f_X5_liveDays_60, gd_t, if_neg, tn_c, c4])
        (fun n2 m' hm => by simp (disch := omega) only [f_X5_liveDays_60, gd_t, if_pos]) 6 0 N m1 rfl (by omega) ⟨fun _ _ => rfl, fun q hq => by omega, fun q _ hq => by rw [g2 _ (by decide) (by decide)]; exact (hF q hq).1⟩
      have e2 : ((k + 1 : Nat) : Int) = (k : Int) + 1 := by omega
      have ih := ih (k + 1) n m2 (fun q => if F q = 41 ∧ dayN S L (k + 1) q = 0 then (k : Int) + 1 else F q) (by omega) (by omega)
        (fun x h1 h2 h3 => by rw [b1 x h1, g2 x h2 h3]; exact hf x h1 h2 h3)
        ⟨fun p hp => by rw [b1 _ (by decide)]; exact hr1.1 p hp, fun p hp => by rw [b1 _ (by decide)]; exact hr1.2 p hp⟩
        (fun q hq => by
          obtain ⟨f1, f2, f3, f4⟩ := hF q hq
          refine ⟨b2 q hq, ?_, ?_, ?_⟩ <;> split <;> omega)
        (fun q hq d hd => by
          obtain ⟨f1, f2, f3, f4⟩ := hF q hq
          rcases (show d ≤ k ∨ d = k + 1 by omega) with c | rfl
          · have := hb q hq d c
            by_cases z : F q = 41 ∧ dayN S L (k + 1) q = 0
            · rw [if_pos z]
              constructor
              · intro _; exact this.mp (by omega)
              · intro _; omega
            · rw [if_neg z]; exact this
          · have hk' := hb q hq k (Nat.le_refl k)
            by_cases z : F q = 41 ∧ dayN S L (k + 1) q = 0
            · rw [if_pos z]
              constructor
              · intro w; omega
              · intro w; exact absurd z.2 w
            · rw [if_neg z]
              constructor
              · intro w w2
                exact z ⟨by omega, w2⟩
              · intro w
                rcases f4 with f4 | f4
                · omega
                · exfalso
                  apply w
                  apply dayN_dead
                  exact Classical.byContradiction (fun w3 => by have := hk'.mpr w3; omega))
      rw [e2] at ih
      obtain ⟨M', F', i1, i2⟩ := ih
      refine ⟨M', F', ?_, i2⟩
      simp (disch := omega) only [f_X5_liveDays_39, gd_t, if_neg, g1, bnd_s]
      exact eb.trans i1
  obtain ⟨M', F', k1, k2⟩ := key D 0 N M1 (fun q => if S q = 0 then 0 else 41) (by omega) (by omega) (fun x h1 _ _ => a1 x h1)
    ⟨fun p hp => by rw [a1 _ (by decide)]; exact h.1 p hp, fun p hp => by rw [a1 _ (by decide)]; exact h.2 p hp⟩
    (fun q hq => by refine ⟨a2 q hq, ?_, ?_, ?_⟩ <;> split <;> omega)
    (fun q hq d hd => by
      have : d = 0 := by omega
      subst this
      show ((0 : Nat) : Int) < _ ↔ S q ≠ 0
      by_cases c : S q = 0
      · simp [c]
      · simp [c])
  exact ⟨M', F', ea.trans k1, k2⟩
