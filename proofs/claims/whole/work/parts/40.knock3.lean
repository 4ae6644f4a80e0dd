/-! knocks: the reference -/
theorem tn_3 (t : Nat) : (3 * (t : Int)).toNat = 3 * t := by omega
theorem tn_31 (t : Nat) : (3 * (t : Int) + 1).toNat = 3 * t + 1 := by omega
theorem tn_32 (t : Nat) : (3 * (t : Int) + 2).toNat = 3 * t + 2 := by omega
def Kn8 (M : Mem) (n : Nat) (KP KD KS : Row) : Prop :=
  M 2 16 = (n : Int) ∧ n ≤ 8 ∧ ∀ i, i < n → (M (ch 2 17) (3 * i) = KP i ∧ 0 ≤ KP i ∧ KP i ≤ 5) ∧ (M (ch 2 17) (3 * i + 1) = KD i ∧ 0 ≤ KD i ∧ KD i ≤ 20) ∧ M (ch 2 17) (3 * i + 2) = KS i ∧ 0 ≤ KS i ∧ KS i ≤ 1
theorem Kn8.kept {M M' : Mem} {n : Nat} {KP KD KS : Row} (h : Kn8 M n KP KD KS) (h1 : M' 2 16 = M 2 16) (h2 : M' (ch 2 17) = M (ch 2 17)) : Kn8 M' n KP KD KS := by
  unfold Kn8
  rw [h1, h2]
  exact h
/-- all but the reference's worksheet is as it was -/
def mf (M M' : Mem) : Prop := ∀ a, a ≠ ch 2 11 → a ≠ ch 2 12 → a ≠ ch 2 13 → M' a = M a
theorem mf.rf (M : Mem) : mf M M := fun _ _ _ _ => rfl
theorem mf.tr {A B C : Mem} (h : mf A B) (h2 : mf B C) : mf A C := fun a x y z => by rw [h2 a x y z, h a x y z]
theorem MdOK.mf {M M' : Mem} {S : Row} {T : Nat} {K H : Row} (h : MdOK M S T K H) (hf : mf M M') : MdOK M' S T K H :=
  h.kept (by rw [hf 2 (by decide) (by decide) (by decide)]) (hf _ (by decide) (by decide) (by decide)) (hf _ (by decide) (by decide) (by decide))
theorem Kn8.mf {M M' : Mem} {n : Nat} {KP KD KS : Row} (h : Kn8 M n KP KD KS) (hf : mf M M') : Kn8 M' n KP KD KS :=
  h.kept (by rw [hf 2 (by decide) (by decide) (by decide)]) (hf _ (by decide) (by decide) (by decide))
theorem NwOK.put {M : Mem} {T : Nat} {K S H : Row} (h : NwOK M T K S H) {p : Nat} {v : Int} (hv : 0 ≤ v ∧ v ≤ 20) : NwOK (st M (ch 2 12) p v) T K (updR S p v) H := by
  refine ⟨by rw [st_ne _ _ _ _ (by decide)]; exact h.1, h.2.1, fun q hq => ?_, fun t ht => ?_⟩
  · rw [st_same]
    unfold updR
    by_cases c : q = p
    · simp only [if_pos c, true_and]; exact hv
    · simp only [if_neg c]; exact h.2.2.1 q hq
  · rw [st_ne _ _ _ _ (by decide), st_ne _ _ _ _ (by decide)]; exact h.2.2.2 t ht
theorem isKnocked_s {N : Nat} {M : Mem} {S : Row} {T : Nat} {K H : Row} {n : Nat} {KP KD KS : Row} (hN : 30 ≤ N) (h : MdOK M S T K H) (hk : Kn8 M n KP KD KS) {p : Nat} (hp : p < 6) {v : Int} (hv : 0 ≤ v ∧ v ≤ 20) :
    ∃ M', f_X8_isKnocked N 2 (p : Int) v M = some (if agB (updR S p v) (wsT T K H) KP KD KS n then 1 else 0, M') ∧ mf M M' := by
  obtain ⟨M1, e1, h1, f1⟩ := asItIs_s (N := N) (by omega) h
  have h0 := h1.put (p := p) hv
  have f0 : mf M (st M1 (ch 2 12) p v) := fun a x y _ => by rw [st_ne _ _ _ _ y, f1 a x y]
  obtain ⟨m0, hm0⟩ : ∃ m0, m0 = st M1 (ch 2 12) p v := ⟨_, rfl⟩
  rw [← hm0] at h0 f0
  obtain ⟨⟨w, M2⟩, ⟨i1, i2, -, i4⟩, he⟩ := lp_eq (fun n' k (s : Int × Mem) => f_X8_isKnocked_16 N 2 (p : Int) v n' s.1 k s.2) (fun s => some s) (fun k s => (s.1 = 0 ∨ s.1 = 1) ∧ (s.1 = 1 ↔ ∀ i, i < n → KD i < (k : Int) → stn (updR S p v) (wsT T K H) (KD i).toNat (KP i).toNat = KS i) ∧ NwOK s.2 T K (dayN (updR S p v) (wsT T K H) k) H ∧ mf M s.2) 21
    (fun n' k s hkk hs => by
      obtain ⟨w, m⟩ := s
      obtain ⟨s1, s2, s3, s4⟩ := hs
      dsimp only at s1 s2 s3 s4
      obtain ⟨k1, k2, k3⟩ := hk.mf s4
      obtain ⟨m1, g1, g2, g3⟩ := goesBy_s (N := N) (by omega) s3
      obtain ⟨w2, ⟨j1, j2⟩, je⟩ := lp_eq (fun n2 i (w : Int) => f_X8_isKnocked_26 N 2 (p : Int) v (f_X8_isKnocked_16 N 2 (p : Int) v n') n2 w (k : Int) i m) (fun w => bnd (f_X8_goesBy N 2 m) (fun _ M' => f_X8_isKnocked_16 N 2 (p : Int) v n' w ((k : Int) + 1) M')) (fun i w => (w = 0 ∨ w = 1) ∧ (w = 1 ↔ (∀ i, i < n → KD i < (k : Int) → stn (updR S p v) (wsT T K H) (KD i).toNat (KP i).toNat = KS i) ∧ ∀ i', i' < i → KD i' = (k : Int) → stn (updR S p v) (wsT T K H) (KD i').toNat (KP i').toNat = KS i')) n
        (fun n2 i w hi hw => by
          obtain ⟨w1, w2⟩ := hw
          obtain ⟨⟨a1, a2, a3⟩, ⟨b1, b2, b3⟩, c1, c2, c3⟩ := k3 i hi
          obtain ⟨d1, d2, d3⟩ := s3.2.2.1 (KP i).toNat (by omega)
          rcases w1 with w1 | w1
          · subst w1
            refine ⟨0, ⟨Or.inl rfl, fun q => by omega, fun q => w2.mpr ⟨q.1, fun i' hi' => q.2 i' (by omega)⟩⟩, ?_⟩
            by_cases z : dayN (updR S p v) (wsT T K H) k (KP i).toNat ≤ 0
            · simp (disch := omega) only [f_X8_isKnocked_26, f_X8_isKnocked_57, gd_t, if_neg, if_pos, k1, tn_3, a1, d1, reduceIte]
            · simp (disch := omega) only [f_X8_isKnocked_26, f_X8_isKnocked_57, gd_t, if_neg, if_pos, k1, tn_3, a1, d1, reduceIte]
          · subst w1
            have hw := w2.mp rfl
            by_cases ck : KD i = (k : Int)
            · have ek : (KD i).toNat = k := by omega
              by_cases z : dayN (updR S p v) (wsT T K H) k (KP i).toNat ≤ 0
              · have hs : stn (updR S p v) (wsT T K H) (KD i).toNat (KP i).toNat = 0 := by unfold stn; rw [ek, if_pos (by omega)]
                by_cases z2 : KS i = 0
                · refine ⟨1, ⟨Or.inr rfl, fun _ => ⟨hw.1, fun i' hi' => ?_⟩, fun _ => rfl⟩, ?_⟩
                  · rcases (show i' < i ∨ i' = i by omega) with q | rfl
                    · exact hw.2 i' q
                    · intro _; rw [hs, z2]
                  · simp (disch := omega) only [f_X8_isKnocked_26, f_X8_isKnocked_57, gd_t, if_neg, if_pos, k1, tn_3, tn_31, tn_32, a1, b1, c1, d1, z2, reduceIte]
                · refine ⟨0, ⟨Or.inl rfl, fun q => by omega, fun q => ?_⟩, ?_⟩
                  · have := q.2 i (by omega) ck; omega
                  · simp (disch := omega) only [f_X8_isKnocked_26, f_X8_isKnocked_57, gd_t, if_neg, if_pos, k1, tn_3, tn_31, tn_32, a1, b1, c1, d1]
              · have hs : stn (updR S p v) (wsT T K H) (KD i).toNat (KP i).toNat = 1 := by unfold stn; rw [ek, if_neg (by omega)]
                by_cases z2 : KS i = 1
                · refine ⟨1, ⟨Or.inr rfl, fun _ => ⟨hw.1, fun i' hi' => ?_⟩, fun _ => rfl⟩, ?_⟩
                  · rcases (show i' < i ∨ i' = i by omega) with q | rfl
                    · exact hw.2 i' q
                    · intro _; rw [hs, z2]
                  · simp (disch := omega) only [f_X8_isKnocked_26, f_X8_isKnocked_57, gd_t, if_neg, if_pos, k1, tn_3, tn_31, tn_32, a1, b1, c1, d1, z2, reduceIte]
                · refine ⟨0, ⟨Or.inl rfl, fun q => by omega, fun q => ?_⟩, ?_⟩
                  · have := q.2 i (by omega) ck; omega
                  · simp (disch := omega) only [f_X8_isKnocked_26, f_X8_isKnocked_57, gd_t, if_neg, if_pos, k1, tn_3, tn_31, tn_32, a1, b1, c1, d1]
            · refine ⟨1, ⟨Or.inr rfl, fun _ => ⟨hw.1, fun i' hi' hh => ?_⟩, fun _ => rfl⟩, ?_⟩
              · rcases (show i' < i ∨ i' = i by omega) with q | rfl
                · exact hw.2 i' q hh
                · exact absurd hh ck
              · by_cases z : dayN (updR S p v) (wsT T K H) k (KP i).toNat ≤ 0
                · simp (disch := omega) only [f_X8_isKnocked_26, f_X8_isKnocked_57, gd_t, if_neg, if_pos, k1, tn_3, tn_31, a1, b1, d1]
                · simp (disch := omega) only [f_X8_isKnocked_26, f_X8_isKnocked_57, gd_t, if_neg, if_pos, k1, tn_3, tn_31, a1, b1, d1])
        (fun n2 w hw => by simp (disch := omega) only [f_X8_isKnocked_26, gd_t, if_pos, k1]) n 0 N w (by omega) (by omega) ⟨s1, by rw [s2]; exact ⟨fun q => ⟨q, fun i' hi' => by omega⟩, fun q => q.1⟩⟩
      refine ⟨(w2, m1), ⟨j1, ?_, g2, s4.tr (fun a _ y z => g3 a y z)⟩, ?_⟩
      · dsimp only
        rw [j2]
        constructor
        · rintro ⟨q1, q2⟩ i hi hlt
          rcases (show KD i < (k : Int) ∨ KD i = (k : Int) by omega) with q | q
          · exact q1 i hi q
          · exact q2 i hi q
        · intro q
          exact ⟨fun i hi hlt => q i hi (by omega), fun i hi he => q i hi (by omega)⟩
      · simp (disch := omega) only [f_X8_isKnocked_16, gd_t, if_neg]
        refine je.trans ?_
        simp only [g1, bnd_s])
    (fun n' s hs => by
      have := hs.1
      simp (disch := omega) only [f_X8_isKnocked_16, gd_t, if_pos]) 21 0 N (1, m0) rfl (by omega) ⟨Or.inr rfl, ⟨fun _ i _ hlt => by have := (hk.2.2 i ‹_›).2.1; omega, fun _ => rfl⟩, h0, f0⟩
  dsimp only at i1 i2 i4
  refine ⟨M2, ?_, i4⟩
  have hw : w = if agB (updR S p v) (wsT T K H) KP KD KS n then 1 else 0 := by
    have hall : (∀ i, i < n → KD i < ((21 : Nat) : Int) → stn (updR S p v) (wsT T K H) (KD i).toNat (KP i).toNat = KS i) ↔ agB (updR S p v) (wsT T K H) KP KD KS n = true := by
      rw [agB_t]
      exact ⟨fun q i hi => q i hi (by have := (hk.2.2 i hi).2.1; omega), fun q i hi _ => q i hi⟩
    rw [hall] at i2
    by_cases c : agB (updR S p v) (wsT T K H) KP KD KS n = true
    · rw [if_pos c]; exact i2.mpr c
    · rw [if_neg c]
      rcases i1 with q | q
      · exact q
      · exact absurd (i2.mp q) c
  rw [← hw]
  have hmx : f_X8_isKnocked N 2 (p : Int) v M = f_X8_isKnocked_16 N 2 (p : Int) v N 1 0 m0 := by
    simp only [f_X8_isKnocked, e1, bnv_s]
    rw [gd_t (by omega), tn_c, ← hm0]
  rw [hmx]
  exact he
theorem strongOf_s {N : Nat} {M : Mem} {S : Row} {T : Nat} {K H : Row} {n : Nat} {KP KD KS : Row} (hN : 30 ≤ N) (h : MdOK M S T K H) (hk : Kn8 M n KP KD KS) {p : Nat} (hp : p < 6) :
    ∃ M', f_X8_strongOf N 2 (p : Int) M = some ((psN S (wsT T K H) KP KD KS n p 10 : Int), M') ∧ mf M M' := by
  obtain ⟨⟨w, M2⟩, ⟨i1, i2⟩, he⟩ := lp_eq (fun n' k (s : Int × Mem) => f_X8_strongOf_4 N 2 (p : Int) n' s.1 k s.2) (fun s => some s) (fun k s => s.1 = (psN S (wsT T K H) KP KD KS n p k : Int) ∧ mf M s.2) 10
    (fun n' k s hkk hs => by
      obtain ⟨w, m⟩ := s
      obtain ⟨s1, s2⟩ := hs
      dsimp only at s1 s2
      obtain ⟨m1, g1, g2⟩ := isKnocked_s (N := N) hN (h.mf s2) (hk.mf s2) hp (v := (k : Int)) (by omega)
      have hl := psN_lt S (wsT T K H) KP KD KS n p k
      have hl2 := p2_10 (show k ≤ 10 by omega)
      refine ⟨((psN S (wsT T K H) KP KD KS n p (k + 1) : Int), m1), ⟨rfl, s2.tr g2⟩, ?_⟩
      dsimp only
      subst s1
      by_cases c : agB (updR S p (k : Int)) (wsT T K H) KP KD KS n = true
      · have e : ((psN S (wsT T K H) KP KD KS n p (k + 1) : Nat) : Int) = i_or (psN S (wsT T K H) KP KD KS n p k : Int) (i_shl 1 (k : Int)) := by rw [or_bit k hkk _ hl]; simp [psN, c]
        rw [e]
        rw [if_pos c] at g1
        simp (disch := omega) only [f_X8_strongOf_4, gd_t, if_neg, g1, bnd_s]
      · have e : ((psN S (wsT T K H) KP KD KS n p (k + 1) : Nat) : Int) = i_or (psN S (wsT T K H) KP KD KS n p k : Int) 0 := by rw [i_or0 (by omega)]; simp [psN, c]
        rw [e]
        rw [if_neg c] at g1
        simp (disch := omega) only [f_X8_strongOf_4, gd_t, if_neg, g1, bnd_s, reduceIte])
    (fun n' s hs => by simp (disch := omega) only [f_X8_strongOf_4, gd_t, if_pos]) 10 0 N (0, M) rfl (by omega) ⟨rfl, mf.rf M⟩
  dsimp only at i1 i2
  refine ⟨M2, ?_, i2⟩
  unfold f_X8_strongOf
  rw [← i1]
  exact he
theorem popc_0 : ∀ b : Nat, b < 1024 → popc b = 0 → b = 0 := by decide +kernel
def bsum (b : Nat) : Nat → Int
  | 0 => 0
  | v + 1 => bsum b v + ((b / 2 ^ v % 2 : Nat) : Int)
theorem bsum_10 (b : Nat) : bsum b 10 = ((popc b : Nat) : Int) := by
  rw [show popc b = b / 2 ^ 0 % 2 + b / 2 ^ 1 % 2 + b / 2 ^ 2 % 2 + b / 2 ^ 3 % 2 + b / 2 ^ 4 % 2 + b / 2 ^ 5 % 2 + b / 2 ^ 6 % 2 + b / 2 ^ 7 % 2 + b / 2 ^ 8 % 2 + b / 2 ^ 9 % 2 from by simp [popc]]
  simp only [bsum]
  generalize b / 2 ^ 0 % 2 = y0
  generalize b / 2 ^ 1 % 2 = y1
  generalize b / 2 ^ 2 % 2 = y2
  generalize b / 2 ^ 3 % 2 = y3
  generalize b / 2 ^ 4 % 2 = y4
  generalize b / 2 ^ 5 % 2 = y5
  generalize b / 2 ^ 6 % 2 = y6
  generalize b / 2 ^ 7 % 2 = y7
  generalize b / 2 ^ 8 % 2 = y8
  generalize b / 2 ^ 9 % 2 = y9
  omega
theorem bsum_in (b : Nat) : ∀ v : Nat, 0 ≤ bsum b v ∧ bsum b v ≤ (v : Int)
  | 0 => by simp [bsum]
  | v + 1 => by
    have ih := bsum_in b v
    have hb : b / 2 ^ v % 2 < 2 := Nat.mod_lt _ (by decide)
    show 0 ≤ bsum b v + _ ∧ bsum b v + _ ≤ ((v + 1 : Nat) : Int)
    omega
def mf8 (M M' : Mem) : Prop := ∀ a, a ≠ ch 2 11 → a ≠ ch 2 12 → a ≠ ch 2 13 → a ≠ ch 2 18 → M' a = M a
theorem mf8.rf (M : Mem) : mf8 M M := fun _ _ _ _ _ => rfl
theorem mf8.tr {A B C : Mem} (h : mf8 A B) (h2 : mf8 B C) : mf8 A C := fun a x y z u => by rw [h2 a x y z u, h a x y z u]
theorem mf.to8 {A B : Mem} (h : mf A B) : mf8 A B := fun a x y z _ => h a x y z
theorem MdOK.mf8 {M M' : Mem} {S : Row} {T : Nat} {K H : Row} (h : MdOK M S T K H) (hf : mf8 M M') : MdOK M' S T K H :=
  h.kept (by rw [hf 2 (by decide) (by decide) (by decide) (by decide)]) (hf _ (by decide) (by decide) (by decide) (by decide)) (hf _ (by decide) (by decide) (by decide) (by decide))
theorem Kn8.mf8 {M M' : Mem} {n : Nat} {KP KD KS : Row} (h : Kn8 M n KP KD KS) (hf : mf8 M M') : Kn8 M' n KP KD KS :=
  h.kept (by rw [hf 2 (by decide) (by decide) (by decide) (by decide)]) (hf _ (by decide) (by decide) (by decide) (by decide))
theorem knock129_s {N : Nat} {M : Mem} {S L : Row} {p b : Nat} (hN : 30 ≤ N) (hb : b < 1024) (hs : ∀ d, 1 ≤ d → d ≤ 10 → M (ch 2 18) d = sdN S L p b d 10) (pp : Int) : f_X8_knockOf_129 N 2 pp N ((popc b : Nat) : Int) (-1) 11 1 M = some (if b = 0 then -1 else (bst S L p b 10).1, M) := by
  have hp := popc_in b
  by_cases c : b = 0
  · subst c
    obtain ⟨N, rfl⟩ : ∃ N', N = N' + 1 := ⟨N - 1, by omega⟩
    have h0 : popc 0 = 0 := rfl
    rw [h0]
    simp (disch := omega) only [f_X8_knockOf_129, gd_t, if_neg, if_pos, reduceIte]
  · rw [if_neg c]
    have hpos : 0 < popc b := Nat.pos_of_ne_zero (fun q => c (popc_0 b hb q))
    have key : ∀ (j k n : Nat), k + j = 10 → j < n → f_X8_knockOf_129 N 2 pp n ((popc b : Nat) : Int) (bst S L p b k).1 (bst S L p b k).2 ((k : Int) + 1) M = some ((bst S L p b 10).1, M) := by
      intro j
      induction j with
      | zero =>
        intro k n hk hn
        obtain ⟨n, rfl⟩ : ∃ n', n = n' + 1 := ⟨n - 1, by omega⟩
        have : k = 10 := by omega
        subst this
        simp (disch := omega) only [f_X8_knockOf_129, gd_t, if_pos]
      | succ j ih =>
        intro k n hk hn
        obtain ⟨n, rfl⟩ : ∃ n', n = n' + 1 := ⟨n - 1, by omega⟩
        have e2 : ((k + 1 : Nat) : Int) = (k : Int) + 1 := by omega
        have hs' := hs (k + 1) (by omega) (by omega)
        have h1 := sdN_in (S := S) (L := L) (p := p) (b := b) (d := k + 1) 10 (Nat.le_refl 10)
        have hw := wst_in (S := S) (L := L) (p := p) (b := b) (d := k + 1)
        have hbi := bst_in (S := S) (L := L) (p := p) (b := b) k (by omega)
        have ih := ih (k + 1) n (by omega) (by omega)
        have hbs : bst S L p b (k + 1) = if wst S L p b (k + 1) < (bst S L p b k).2 then (((k + 1 : Nat) : Int), wst S L p b (k + 1)) else bst S L p b k := rfl
        have hwv : f_X8_knockOf_129 N 2 pp (n + 1) ((popc b : Nat) : Int) (bst S L p b k).1 (bst S L p b k).2 ((k : Int) + 1) M = f_X8_knockOf_178 N 2 pp (f_X8_knockOf_129 N 2 pp n) ((popc b : Nat) : Int) (bst S L p b k).1 (bst S L p b k).2 ((k : Int) + 1) (wst S L p b (k + 1)) M := by
          unfold wst
          by_cases c1 : sdN S L p b (k + 1) 10 ≤ ((popc b : Nat) : Int) - sdN S L p b (k + 1) 10
          · simp (disch := omega) only [f_X8_knockOf_129, gd_t, if_neg, if_pos, tn_p, hs']
          · simp (disch := omega) only [f_X8_knockOf_129, gd_t, if_neg, tn_p, hs']
        rw [hwv]
        by_cases c2 : (bst S L p b k).2 ≤ wst S L p b (k + 1)
        · rw [hbs, if_neg (by omega), e2] at ih
          simp (disch := omega) only [f_X8_knockOf_178, f_X8_knockOf_194, gd_t, if_pos]
          exact ih
        · rw [hbs, if_pos (by omega), e2] at ih
          simp (disch := omega) only [f_X8_knockOf_178, f_X8_knockOf_194, gd_t, if_neg]
          exact ih
    exact key 10 0 N rfl (by omega)
theorem knockOf_s {N : Nat} {M : Mem} {S : Row} {T : Nat} {K H : Row} {n : Nat} {KP KD KS : Row} (hN : 30 ≤ N) (h : MdOK M S T K H) (hk : Kn8 M n KP KD KS) {p : Nat} (hp : p < 6) :
    ∃ M', f_X8_knockOf N 2 (p : Int) M = some (knV S (wsT T K H) KP KD KS n p, M') ∧ mf8 M M' := by
  obtain ⟨M1, e1, f1⟩ := strongOf_s (N := N) hN h hk hp
  obtain ⟨b, hbe⟩ : ∃ b, b = psN S (wsT T K H) KP KD KS n p 10 := ⟨_, rfl⟩
  have hb : b < 1024 := by rw [hbe]; exact Nat.lt_of_lt_of_le (psN_lt S (wsT T K H) KP KD KS n p 10) (p2_10 (Nat.le_refl 10))
  rw [← hbe] at e1
  obtain ⟨M2, ⟨a1, a2⟩, ea⟩ := lp_eq (fun n' k (m : Mem) => f_X8_knockOf_11 N 2 (p : Int) n' (b : Int) 0 k m) (fun m => f_X8_knockOf_35 N 2 (p : Int) N (b : Int) 0 0 m) (fun k m => mf8 M m ∧ ∀ d, d < k → m (ch 2 18) d = 0) 11
    (fun n' k m hkk hm => by
      refine ⟨st m (ch 2 18) k 0, ⟨hm.1.tr (fun a _ _ _ u => st_ne _ _ _ _ u), fun d hd => ?_⟩, ?_⟩
      · rw [st_same]
        by_cases c : d = k
        · simp [c]
        · simp only [if_neg c]; exact hm.2 d (by omega)
      · simp (disch := omega) only [f_X8_knockOf_11, gd_t, if_neg, tn_c])
    (fun n' m hm => by simp (disch := omega) only [f_X8_knockOf_11, gd_t, if_pos]) 11 0 N M1 rfl (by omega) ⟨f1.to8, fun d hd => by omega⟩
  obtain ⟨⟨w, M3⟩, ⟨b1, b2, b3⟩, eb⟩ := lp_eq (fun n' v (s : Int × Mem) => f_X8_knockOf_35 N 2 (p : Int) n' (b : Int) s.1 v s.2) (fun s => f_X8_knockOf_129 N 2 (p : Int) N s.1 (-1) 11 1 s.2) (fun v s => s.1 = bsum b v ∧ mf8 M s.2 ∧ ∀ d, 1 ≤ d → d ≤ 10 → s.2 (ch 2 18) d = sdN S (wsT T K H) p b d v) 10
    (fun n' v s hv hs => by
      obtain ⟨w, m⟩ := s
      obtain ⟨s1, s2, s3⟩ := hs
      dsimp only at s1 s2 s3
      have hbit := bit_of v hv b hb
      have hb2 : b / 2 ^ v % 2 < 2 := Nat.mod_lt _ (by decide)
      by_cases c : b / 2 ^ v % 2 = 1
      · rw [c] at hbit
        obtain ⟨m1, g1, g2, g3⟩ := asItIs_s (N := N) (by omega) (h.mf8 s2)
        have g4 := g2.put (p := p) (v := (v : Int)) (by omega)
        have g5 : mf8 M (st m1 (ch 2 12) p (v : Int)) := s2.tr (fun a x y _ _ => by rw [st_ne _ _ _ _ y, g3 a x y])
        have g6 : st m1 (ch 2 12) p (v : Int) (ch 2 18) = m (ch 2 18) := by rw [st_ne _ _ _ _ (by decide), g3 _ (by decide) (by decide)]
        obtain ⟨m0, hm0⟩ : ∃ m0, m0 = st m1 (ch 2 12) p (v : Int) := ⟨_, rfl⟩
        rw [← hm0] at g4 g5 g6
        have key : ∀ (j k n2 : Nat) (m' : Mem), k + j = 10 → j < n2 → NwOK m' T K (dayN (updR S p (v : Int)) (wsT T K H) k) H → mf8 M m' → (∀ d, 1 ≤ d → d ≤ 10 → m' (ch 2 18) d = sdN S (wsT T K H) p b d v + (if d ≤ k ∧ stn (updR S p (v : Int)) (wsT T K H) d p = 1 then 1 else 0)) →
            ∃ M', f_X8_knockOf_70 N 2 (p : Int) (f_X8_knockOf_35 N 2 (p : Int) n') n2 (b : Int) (w + 1) (v : Int) ((k : Int) + 1) m' = f_X8_knockOf_35 N 2 (p : Int) n' (b : Int) (w + 1) ((v : Int) + 1) M' ∧ mf8 M M' ∧ ∀ d, 1 ≤ d → d ≤ 10 → M' (ch 2 18) d = sdN S (wsT T K H) p b d (v + 1) := by
          intro j
          induction j with
          | zero =>
            intro k n2 m' hk2 hn2 q1 q2 q3
            obtain ⟨n2, rfl⟩ : ∃ n0, n2 = n0 + 1 := ⟨n2 - 1, by omega⟩
            refine ⟨m', by simp (disch := omega) only [f_X8_knockOf_70, gd_t, if_pos], q2, fun d h1 h2 => ?_⟩
            rw [q3 d h1 h2]
            show _ = sdN S (wsT T K H) p b d v + _
            by_cases z : stn (updR S p (v : Int)) (wsT T K H) d p = 1
            · rw [if_pos ⟨by omega, z⟩, if_pos z, c]; rfl
            · rw [if_neg (fun q => z q.2), if_neg z]
          | succ j ih =>
            intro k n2 m' hk2 hn2 q1 q2 q3
            obtain ⟨n2, rfl⟩ : ∃ n0, n2 = n0 + 1 := ⟨n2 - 1, by omega⟩
            obtain ⟨m2, r1, r2, r3⟩ := goesBy_s (N := N) (by omega) q1
            have r18 : m2 (ch 2 18) = m' (ch 2 18) := r3 _ (by decide) (by decide)
            obtain ⟨d1, d2, d3⟩ := r2.2.2.1 p hp
            have hr2 : NwOK m2 T K (dayN (updR S p (v : Int)) (wsT T K H) (k + 1)) H := r2
            have e2 : ((k + 1 : Nat) : Int) = (k : Int) + 1 := by omega
            have hsd := sdN_in (S := S) (L := wsT T K H) (p := p) (b := b) (d := k + 1) v (by omega)
            have q3k := q3 (k + 1) (by omega) (by omega)
            rw [if_neg (show ¬ (k + 1 ≤ k ∧ _) from fun q => by omega), Int.add_zero] at q3k
            have step : ∀ x : Int, x = (if stn (updR S p (v : Int)) (wsT T K H) (k + 1) p = 1 then 1 else 0) → ∃ M', f_X8_knockOf_70 N 2 (p : Int) (f_X8_knockOf_35 N 2 (p : Int) n') n2 (b : Int) (w + 1) (v : Int) (((k : Int) + 1) + 1) (st m2 (ch 2 18) (k + 1) (sdN S (wsT T K H) p b (k + 1) v + x)) = f_X8_knockOf_35 N 2 (p : Int) n' (b : Int) (w + 1) ((v : Int) + 1) M' ∧ mf8 M M' ∧ ∀ d, 1 ≤ d → d ≤ 10 → M' (ch 2 18) d = sdN S (wsT T K H) p b d (v + 1) := by
              intro x hx
              have := ih (k + 1) n2 (st m2 (ch 2 18) (k + 1) (sdN S (wsT T K H) p b (k + 1) v + x)) (by omega) (by omega)
                ⟨by rw [st_ne _ _ _ _ (by decide)]; exact hr2.1, hr2.2.1, fun q hq => by rw [st_ne _ _ _ _ (by decide)]; exact hr2.2.2.1 q hq, fun t ht => by rw [st_ne _ _ _ _ (by decide), st_ne _ _ _ _ (by decide)]; exact hr2.2.2.2 t ht⟩
                (q2.tr (fun a _ y z u => by rw [st_ne _ _ _ _ u, r3 a y z]))
                (fun d h1 h2 => by
                  rw [st_same]
                  by_cases z : d = k + 1
                  · subst z; simp only [if_true, hx, Nat.le_refl, true_and]
                  · simp only [if_neg z]
                    rw [r18, q3 d h1 h2]
                    congr 1
                    by_cases y : d ≤ k
                    · simp [y, show d ≤ k + 1 by omega]
                    · simp [y, show ¬ d ≤ k + 1 by omega])
              rw [e2] at this
              exact this
            by_cases z : dayN (updR S p (v : Int)) (wsT T K H) (k + 1) p ≤ 0
            · have hst : ¬ stn (updR S p (v : Int)) (wsT T K H) (k + 1) p = 1 := by
                unfold stn
                have := (dayN_in (updR_in (p := p) (v := (v : Int)) (fun q hq => (h.2.2.1 q hq).2) (by omega)) (fun q _ => wsT_in h.2.1 K H q) (k + 1)) p hp
                rw [if_pos (by omega)]
                decide
              obtain ⟨M', t1, t2⟩ := step 0 (by rw [if_neg hst])
              refine ⟨M', ?_, t2⟩
              have d1' : m2 (ch 2 12) p = dayN (updR S p (v : Int)) (wsT T K H) (k + 1) p := d1
              simp (disch := omega) only [f_X8_knockOf_70, gd_t, if_neg, r1, bnd_s, tn_c, tn_p, d1', if_pos, r18, q3k]
              exact t1
            · have hst : stn (updR S p (v : Int)) (wsT T K H) (k + 1) p = 1 := by
                unfold stn
                rw [if_neg (by omega)]
              obtain ⟨M', t1, t2⟩ := step 1 (by rw [if_pos hst])
              refine ⟨M', ?_, t2⟩
              have d1' : m2 (ch 2 12) p = dayN (updR S p (v : Int)) (wsT T K H) (k + 1) p := d1
              have d2' : 0 ≤ dayN (updR S p (v : Int)) (wsT T K H) (k + 1) p := d2
              have d3' : dayN (updR S p (v : Int)) (wsT T K H) (k + 1) p ≤ 20 := d3
              simp (disch := omega) only [f_X8_knockOf_70, gd_t, if_neg, r1, bnd_s, tn_c, tn_p, d1', r18, q3k]
              exact t1
        obtain ⟨M', t1, t2, t3⟩ := key 10 0 N m0 rfl (by omega) g4 g5 (fun d h1 h2 => by
          rw [g6, s3 d h1 h2, if_neg (fun q => by omega), Int.add_zero])
        refine ⟨(w + 1, M'), ⟨?_, t2, t3⟩, ?_⟩
        · show w + 1 = bsum b v + _
          rw [s1, c]; rfl
        · simp (disch := omega) only [f_X8_knockOf_35, gd_t, if_neg, hbit, g1, bnv_s, tn_c, reduceIte, ← hm0, Int.natCast_one]
          exact t1
      · have c0 : b / 2 ^ v % 2 = 0 := by omega
        rw [c0] at hbit
        refine ⟨(w, m), ⟨?_, s2, fun d h1 h2 => ?_⟩, ?_⟩
        · show w = bsum b v + _
          rw [s1, c0]; simp
        · dsimp only
          rw [s3 d h1 h2]
          show _ = sdN S (wsT T K H) p b d v + _
          rw [c0]
          split <;> simp
        · simp (disch := omega) only [f_X8_knockOf_35, gd_t, if_neg, hbit])
    (fun n' s hs => by simp (disch := omega) only [f_X8_knockOf_35, gd_t, if_pos]) 10 0 N (0, M2) rfl (by omega) ⟨rfl, a1, fun d h1 h2 => by dsimp only; rw [a2 d (by omega)]; rfl⟩
  dsimp only at b1 b2 b3
  refine ⟨M3, ?_, b2⟩
  simp only [f_X8_knockOf, e1, bnd_s]
  refine ea.trans (eb.trans ?_)
  rw [b1, bsum_10, knock129_s hN hb b3]
  unfold knV
  rw [← hbe]
