/-- STRONG as bits -/
def psN (S L KP KD KS : Row) (n p : Nat) : Nat → Nat
  | 0 => 0
  | v + 1 => psN S L KP KD KS n p v + (if agB (updR S p (v : Int)) L KP KD KS n then 1 else 0) * 2 ^ v
theorem psN_lt (S L KP KD KS : Row) (n p : Nat) : ∀ v, psN S L KP KD KS n p v < 2 ^ v
  | 0 => by simp [psN]
  | v + 1 => by
    have h := psN_lt S L KP KD KS n p v
    show psN S L KP KD KS n p v + (if agB (updR S p (v : Int)) L KP KD KS n then 1 else 0) * 2 ^ v < 2 ^ (v + 1)
    rw [Nat.pow_succ]
    split <;> omega
theorem p2_10 {v : Nat} (h : v ≤ 10) : 2 ^ v ≤ 1024 := Nat.pow_le_pow_right (by decide) h
theorem updR_in {S : Row} {p : Nat} {v : Int} (h : RowIn S) (hv : 0 ≤ v ∧ v ≤ 20) : RowIn (updR S p v) := fun q hq => by
  unfold updR
  split
  · exact hv
  · exact h q hq
/-- what the sounding leaves as it was -/
def sndG (M M' : Mem) : Prop := ∀ a, a ≠ 50 → a ≠ ch 50 1 → a ≠ ch 50 2 → a ≠ ch (ch 50 0) 0 → a ≠ ch (ch 50 0) 1 → a ≠ ch (ch 50 0) 2 → M' a = M a
theorem sound_s {N : Nat} {M : Mem} {S L : Row} {n : Nat} {KP KD KS : Row} (hN : 30 ≤ N) (h : RoofOK M (ch 44 0) S L) (hk : KnOK M 45 n KP KD KS) {p : Nat} (hp : p < 6) :
    ∃ (M' : Mem) (G : Row), f_X5_sound N 50 (ch 44 0) 45 (p : Int) M = some M' ∧ sndG M M' ∧ M' 50 3 = (psN S L KP KD KS n p 10 : Int) ∧ (∀ v, v < 10 → M' (ch 50 2) v = G v ∧ 0 ≤ G v ∧ G v ≤ 41) ∧ ∀ v, v < 10 → ∀ d : Nat, d ≤ 10 → ((d : Int) < G v ↔ dayN (updR S p (v : Int)) L d p ≠ 0) := by
  have hSin : RowIn S := fun p hp => (h.1 p hp).2
  have hk0 : KnOK (st M 50 3 0) 45 n KP KD KS := hk.kept (st_ne _ _ _ _ (by decide)) (st_ne _ _ _ _ (by decide)) (st_ne _ _ _ _ (by decide)) (st_ne _ _ _ _ (by decide))
  obtain ⟨d0, e0, d1, d2, d3⟩ := lastDay_s (N := N) (by omega) hk0
  obtain ⟨D, hD⟩ : ∃ D : Nat, (D : Int) = if 10 < d0 then d0 else 10 := ⟨(if 10 < d0 then d0 else 10).toNat, by split <;> omega⟩
  have hD2 : 10 ≤ D ∧ D ≤ 20 := by split at hD <;> omega
  have hDk : ∀ i, i < n → KD i ≤ (D : Int) := fun i hi => by have := d3 i hi; split at hD <;> omega
  have key : ∀ (j v n' : Nat) (m : Mem) (G : Row), v + j = 10 → j < n' → sndG M m → m 50 3 = (psN S L KP KD KS n p v : Int) → (∀ w, w < v → m (ch 50 2) w = G w ∧ 0 ≤ G w ∧ G w ≤ 41) → (∀ w, w < v → ∀ d : Nat, d ≤ 10 → ((d : Int) < G w ↔ dayN (updR S p (w : Int)) L d p ≠ 0)) →
      ∃ (M' : Mem) (G' : Row), f_X5_sound_30 N 50 (ch 44 0) 45 (p : Int) n' (D : Int) (v : Int) m = some M' ∧ sndG M M' ∧ M' 50 3 = (psN S L KP KD KS n p 10 : Int) ∧ (∀ w, w < 10 → M' (ch 50 2) w = G' w ∧ 0 ≤ G' w ∧ G' w ≤ 41) ∧ ∀ w, w < 10 → ∀ d : Nat, d ≤ 10 → ((d : Int) < G' w ↔ dayN (updR S p (w : Int)) L d p ≠ 0) := by
    intro j
    induction j with
    | zero =>
      intro v n' m G hv hn hs hps hG hd
      obtain ⟨n', rfl⟩ : ∃ n0, n' = n0 + 1 := ⟨n' - 1, by omega⟩
      have : v = 10 := by omega
      subst this
      exact ⟨m, G, by simp (disch := omega) only [f_X5_sound_30, gd_t, if_pos], hs, hps, hG, hd⟩
    | succ j ih =>
      intro v n' m G hv hn hs hps hG hd
      obtain ⟨n', rfl⟩ : ∃ n0, n' = n0 + 1 := ⟨n' - 1, by omega⟩
      -- the trial roof
      have hroof : RoofOK (st (cpy (cpy m (ch (ch 44 0) 0) (ch (ch 50 0) 0) 6) (ch (ch 44 0) 1) (ch (ch 50 0) 1) 6) (ch (ch 50 0) 0) p (v : Int)) (ch 50 0) (updR S p (v : Int)) L := by
        have s1 : m (ch (ch 44 0) 0) = M (ch (ch 44 0) 0) := hs _ (by decide) (by decide) (by decide) (by decide) (by decide) (by decide)
        have s2 : m (ch (ch 44 0) 1) = M (ch (ch 44 0) 1) := hs _ (by decide) (by decide) (by decide) (by decide) (by decide) (by decide)
        refine ⟨fun q hq => ⟨?_, updR_in hSin (by omega) q hq⟩, fun q hq => ?_⟩
        · rw [st_same, cpy_ne _ _ _ _ (by decide), cpy_same]
          unfold updR
          by_cases c : q = p
          · simp only [if_pos c]
          · simp only [if_neg c, if_pos hq, s1]; exact (h.1 q hq).1
        · rw [st_ne _ _ _ _ (by decide), cpy_same]
          simp only [if_pos hq]
          rw [cpy_ne _ _ _ _ (by decide), s2]
          exact h.2 q hq
      obtain ⟨m1, F, g1, g2, g3, g4⟩ := liveDays_s (N := N) hN hroof hD2
      have g2' : sndG m m1 := fun a b1 b2 b3 b4 b5 b6 => by rw [g2 a b2 b4 b6, st_ne _ _ _ _ b4, cpy_ne _ _ _ _ b5, cpy_ne _ _ _ _ b4]
      -- the row of falls, and the knocks
      have hkn : KnOK (st m1 (ch 50 2) v (m1 (ch 50 1) p)) 45 n KP KD KS := by
        have f : ∀ a, a ≠ 50 → a ≠ ch 50 1 → a ≠ ch 50 2 → a ≠ ch (ch 50 0) 0 → a ≠ ch (ch 50 0) 1 → a ≠ ch (ch 50 0) 2 → st m1 (ch 50 2) v (m1 (ch 50 1) p) a = M a := fun a b1 b2 b3 b4 b5 b6 => by rw [st_ne _ _ _ _ b3, g2' a b1 b2 b3 b4 b5 b6, hs a b1 b2 b3 b4 b5 b6]
        exact hk.kept (f _ (by decide) (by decide) (by decide) (by decide) (by decide) (by decide)) (f _ (by decide) (by decide) (by decide) (by decide) (by decide) (by decide)) (f _ (by decide) (by decide) (by decide) (by decide) (by decide) (by decide)) (f _ (by decide) (by decide) (by decide) (by decide) (by decide) (by decide))
      have hag := agree_s (N := N) (by omega) hkn (F := F) (S := updR S p (v : Int)) (L := L) (D := D) (fun q hq => by rw [st_ne _ _ _ _ (by decide)]; exact g3 q hq) hDk g4
      have m150 : m1 50 = m 50 := by rw [g2 50 (by decide) (by decide) (by decide), st_ne _ _ _ _ (by decide), cpy_ne _ _ _ _ (by decide), cpy_ne _ _ _ _ (by decide)]
      have m1g : m1 (ch 50 2) = m (ch 50 2) := by rw [g2 _ (by decide) (by decide) (by decide), st_ne _ _ _ _ (by decide), cpy_ne _ _ _ _ (by decide), cpy_ne _ _ _ _ (by decide)]
      have hl := psN_lt S L KP KD KS n p v
      have hl2 := p2_10 (show v ≤ 10 by omega)
      have e2 : ((v + 1 : Nat) : Int) = (v : Int) + 1 := by omega
      -- the new bits
      have hbits : (psN S L KP KD KS n p (v + 1) : Int) = if agB (updR S p (v : Int)) L KP KD KS n then i_or (psN S L KP KD KS n p v : Int) (i_shl 1 (v : Int)) else i_or (psN S L KP KD KS n p v : Int) 0 := by
        by_cases c : agB (updR S p (v : Int)) L KP KD KS n = true
        · rw [if_pos c, or_bit v (by omega) _ hl]; simp [psN, c]
        · rw [if_neg c, i_or0 (by omega)]; simp [psN, c]
      have ih := ih (v + 1) n' (st (st m1 (ch 50 2) v (m1 (ch 50 1) p)) 50 3 (psN S L KP KD KS n p (v + 1) : Int)) (updR G v (F p)) (by omega) (by omega)
        (fun a b1 b2 b3 b4 b5 b6 => by rw [st_ne _ _ _ _ b1, st_ne _ _ _ _ b3, g2' a b1 b2 b3 b4 b5 b6, hs a b1 b2 b3 b4 b5 b6])
        (by rw [st_same]; simp)
        (fun w hw => by
          rw [st_ne _ _ _ _ (by decide), st_same, m1g]
          unfold updR
          by_cases c : w = v
          · simp only [if_pos c]; exact g3 p hp
          · simp only [if_neg c]; exact hG w (by omega))
        (fun w hw d hd' => by
          unfold updR
          by_cases c : w = v
          · subst c; simp only [if_true]; exact g4 p hp d (by omega)
          · simp only [if_neg c]; exact hd w (by omega) d hd')
      rw [e2] at ih
      obtain ⟨M', G', i1, i2⟩ := ih
      refine ⟨M', G', ?_, i2⟩
      have hx : (st m1 (ch 50 2) v (m1 (ch 50 1) p)) 50 3 = (psN S L KP KD KS n p v : Int) := by rw [st_ne _ _ _ _ (by decide), m150]; exact hps
      rw [hbits] at i1
      by_cases c : agB (updR S p (v : Int)) L KP KD KS n = true
      · rw [if_pos c] at i1 hag
        simp (disch := omega) only [f_X5_sound_30, f_X3_copyFrom, gd_t, if_neg, bnv_s, tn_c, g1, hag, bnd_s, hx]
        exact i1
      · rw [if_neg c] at i1 hag
        simp (disch := omega) only [f_X5_sound_30, f_X3_copyFrom, gd_t, if_neg, bnv_s, tn_c, g1, hag, bnd_s, hx, reduceIte]
        exact i1
  obtain ⟨M', G', k1, k2⟩ := key 10 0 N (st M 50 3 0) (fun _ => 0) rfl (by omega) (fun a b1 _ _ _ _ _ => st_ne _ _ _ _ b1) (by rw [st_same]; rfl) (fun w hw => by omega) (fun w hw => by omega)
  refine ⟨M', G', ?_, k2⟩
  have hmx := max_s (N := N) (M := st M 50 3 0) (x := 10) (y := d0) (by decide) (by omega)
  rw [← hD] at hmx
  simp (disch := omega) only [f_X5_sound, gd_t, if_neg, if_pos, e0, bnd_s, hmx]
  exact k1
/-! where to knock next -/
def sdN (S L : Row) (p b : Nat) (d : Nat) : Nat → Int
  | 0 => 0
  | v + 1 => sdN S L p b d v + (if stn (updR S p (v : Int)) L d p = 1 then ((b / 2 ^ v % 2 : Nat) : Int) else 0)
def wst (S L : Row) (p b d : Nat) : Int := if sdN S L p b d 10 ≤ ((popc b : Nat) : Int) - sdN S L p b d 10 then ((popc b : Nat) : Int) - sdN S L p b d 10 else sdN S L p b d 10
def bst (S L : Row) (p b : Nat) : Nat → Int × Int
  | 0 => (-1, 11)
  | d + 1 => if wst S L p b (d + 1) < (bst S L p b d).2 then (((d + 1 : Nat) : Int), wst S L p b (d + 1)) else bst S L p b d
def knV (S L KP KD KS : Row) (n p : Nat) : Int := if psN S L KP KD KS n p 10 = 0 then -1 else (bst S L p (psN S L KP KD KS n p 10) 10).1
theorem sdN_in {S L : Row} {p b d : Nat} : ∀ v : Nat, v ≤ 10 → 0 ≤ sdN S L p b d v ∧ sdN S L p b d v ≤ (v : Int)
  | 0, _ => by simp [sdN]
  | v + 1, h => by
    have ih := sdN_in (S := S) (L := L) (p := p) (b := b) (d := d) v (by omega)
    have hb : b / 2 ^ v % 2 < 2 := Nat.mod_lt _ (by decide)
    show 0 ≤ sdN S L p b d v + _ ∧ sdN S L p b d v + _ ≤ ((v + 1 : Nat) : Int)
    split <;> omega
theorem popc_in (b : Nat) : popc b ≤ 10 := by unfold popc; omega
theorem sdN_pop {S L : Row} {p b d : Nat} : sdN S L p b d 10 ≤ ((popc b : Nat) : Int) := by
  have key : ∀ v : Nat, v ≤ 10 → sdN S L p b d v ≤ sumTo (fun i => ((b / 2 ^ i % 2 : Nat) : Int)) v := by
    intro v
    induction v with
    | zero => intro _; exact Int.le_refl 0
    | succ v ih =>
      intro hv
      have := ih (by omega)
      show sdN S L p b d v + _ ≤ sumTo _ v + ((b / 2 ^ v % 2 : Nat) : Int)
      split <;> omega
  have h := key 10 (Nat.le_refl 10)
  have e : sumTo (fun i => ((b / 2 ^ i % 2 : Nat) : Int)) 10 = ((popc b : Nat) : Int) := by
    rw [show popc b = b / 2 ^ 0 % 2 + b / 2 ^ 1 % 2 + b / 2 ^ 2 % 2 + b / 2 ^ 3 % 2 + b / 2 ^ 4 % 2 + b / 2 ^ 5 % 2 + b / 2 ^ 6 % 2 + b / 2 ^ 7 % 2 + b / 2 ^ 8 % 2 + b / 2 ^ 9 % 2 from by simp [popc]]
    simp only [sumTo]
    generalize b / 2 ^ 0 % 2 = y0
    generalize b / 2 ^ 1 % 2 = y1
    generalize b / 2 ^ 2 % 2 = y2
    generalize b / 2 ^ 3 % 2 = y3
    generalize b / 2 ^ 4 % 2 = y4
    generalize b / 2 ^ 5 % 2 = y5
    generalize b / 2 ^ 6 % 2 = y6
    generalize b / 2 ^ 7 % 2 = y7
    generalize b / 2 ^ 8 % 2 = y8
    generalize b / 2 ^ 9 % 2 = y9
    omega
  omega
theorem wst_in {S L : Row} {p b d : Nat} : 0 ≤ wst S L p b d ∧ wst S L p b d ≤ 10 := by
  have h1 := sdN_in (S := S) (L := L) (p := p) (b := b) (d := d) 10 (Nat.le_refl 10)
  have h2 := sdN_pop (S := S) (L := L) (p := p) (b := b) (d := d)
  have h3 := popc_in b
  unfold wst
  split <;> omega
theorem leftAtWorst_s {N : Nat} {M : Mem} {S L G : Row} {p b : Nat} (hN : 30 ≤ N) (hb : b < 1024) (h3 : M 50 3 = (b : Int)) (hG : ∀ v, v < 10 → M (ch 50 2) v = G v ∧ 0 ≤ G v ∧ G v ≤ 41) (hd : ∀ v, v < 10 → ∀ d : Nat, d ≤ 10 → ((d : Int) < G v ↔ dayN (updR S p (v : Int)) L d p ≠ 0)) {d : Nat} (hdd : d ≤ 10) : f_X5_leftAtWorst N 50 (d : Int) M = some (wst S L p b d, M) := by
  have hp3 := popc_in b
  obtain ⟨s', hI, he⟩ := lp_eq (fun n k (v : Int) => f_X5_leftAtWorst_4 N 50 (d : Int) n v k M) (fun v => bnd (f_J6_bitCount_0f7a4 N (b : Int) M) (fun r46 M46 => bnd (f_J9_max_7cf53 N v (r46 - v) M46) (fun r51 M51 => some (r51, M51)))) (fun k v => v = sdN S L p b d k) 10
    (fun n k v hk hv => by
      subst hv
      obtain ⟨g1, g2, g3⟩ := hG k hk
      have hh := hd k hk d hdd
      refine ⟨_, rfl, ?_⟩
      have hbit := bit_of k hk b hb
      by_cases c : G k ≤ (d : Int)
      · have hs : ¬ stn (updR S p (k : Int)) L d p = 1 := by
          unfold stn
          rw [if_pos (Classical.byContradiction (fun q => by have := hh.mpr q; omega))]
          decide
        simp (disch := omega) only [f_X5_leftAtWorst_4, gd_t, if_neg, if_pos, tn_c, g1, sdN, hs, reduceIte]
      · have hs : stn (updR S p (k : Int)) L d p = 1 := by
          unfold stn
          rw [if_neg (hh.mp (by omega))]
        simp (disch := omega) only [f_X5_leftAtWorst_4, gd_t, if_neg, if_pos, tn_c, g1, sdN, hs, h3, hbit, reduceIte])
    (fun n v hv => by simp (disch := omega) only [f_X5_leftAtWorst_4, gd_t, if_pos, h3]) 10 0 N 0 rfl (by omega) rfl
  have h1 := sdN_in (S := S) (L := L) (p := p) (b := b) (d := d) 10 (Nat.le_refl 10)
  unfold f_X5_leftAtWorst
  refine he.trans ?_
  rw [hI, bitCount_s hb, bnd_s, max_s (by omega) (by omega), bnd_s]
  unfold wst
  by_cases c : sdN S L p b d 10 < ((popc b : Nat) : Int) - sdN S L p b d 10
  · rw [if_pos c, if_pos (by omega)]
  · rw [if_neg c]
    by_cases c2 : sdN S L p b d 10 ≤ ((popc b : Nat) : Int) - sdN S L p b d 10
    · rw [if_pos c2]
      congr 2
      omega
    · rw [if_neg c2]
theorem bst_in {S L : Row} {p b : Nat} : ∀ d : Nat, d ≤ 10 → (0 ≤ (bst S L p b d).2 ∧ (bst S L p b d).2 ≤ 11) ∧ -1 ≤ (bst S L p b d).1 ∧ (bst S L p b d).1 ≤ 10
  | 0, _ => by simp [bst]
  | d + 1, h => by
    have ih := bst_in (S := S) (L := L) (p := p) (b := b) d (by omega)
    have := wst_in (S := S) (L := L) (p := p) (b := b) (d := d + 1)
    unfold bst
    split
    · dsimp only; omega
    · exact ih
theorem bestDay_s {N : Nat} {M : Mem} {S L G : Row} {p b : Nat} (hN : 30 ≤ N) (hb : b < 1024) (h3 : M 50 3 = (b : Int)) (hG : ∀ v, v < 10 → M (ch 50 2) v = G v ∧ 0 ≤ G v ∧ G v ≤ 41) (hd : ∀ v, v < 10 → ∀ d : Nat, d ≤ 10 → ((d : Int) < G v ↔ dayN (updR S p (v : Int)) L d p ≠ 0)) : f_X5_bestDay N 50 M = some (if b = 0 then -1 else (bst S L p b 10).1, M) := by
  by_cases c : b = 0
  · subst c
    simp (disch := omega) only [f_X5_bestDay, gd_t, if_pos, h3, reduceIte]
  · rw [if_neg c]
    have key : ∀ (j k n : Nat) (v1 v2 : Int), k + j = 10 → j < n → (k = 0 ∧ v2 = 11 ∧ v1 = 1 ∨ 1 ≤ k ∧ (v1, v2) = bst S L p b k) → f_X5_bestDay_16 N 50 n v1 v2 ((k : Int) + 1) M = some ((bst S L p b 10).1, M) := by
      intro j
      induction j with
      | zero =>
        intro k n v1 v2 hk hn hv
        obtain ⟨n, rfl⟩ : ∃ n', n = n' + 1 := ⟨n - 1, by omega⟩
        rcases hv with hv | ⟨-, hv⟩
        · omega
        · have : k = 10 := by omega
          subst this
          rw [← hv]
          simp (disch := omega) only [f_X5_bestDay_16, gd_t, if_pos]
      | succ j ih =>
        intro k n v1 v2 hk hn hv
        obtain ⟨n, rfl⟩ : ∃ n', n = n' + 1 := ⟨n - 1, by omega⟩
        have e2 : ((k + 1 : Nat) : Int) = (k : Int) + 1 := by omega
        have hla := leftAtWorst_s hN hb h3 hG hd (d := k + 1) (by omega)
        rw [e2] at hla
        have hw := wst_in (S := S) (L := L) (p := p) (b := b) (d := k + 1)
        have hbi := bst_in (S := S) (L := L) (p := p) (b := b) k (by omega)
        have hv2 : v2 = (bst S L p b k).2 := by
          rcases hv with ⟨rfl, hv, -⟩ | ⟨-, hv⟩
          · exact hv
          · rw [← hv]
        have hbs : bst S L p b (k + 1) = if wst S L p b (k + 1) < (bst S L p b k).2 then (((k + 1 : Nat) : Int), wst S L p b (k + 1)) else bst S L p b k := rfl
        by_cases c2 : v2 ≤ wst S L p b (k + 1)
        · have hk1 : 1 ≤ k := by
            rcases hv with ⟨rfl, hv, -⟩ | ⟨q, -⟩
            · omega
            · exact q
          have hv' : (v1, v2) = bst S L p b (k + 1) := by
            rw [hbs, if_neg (by omega)]
            rcases hv with ⟨q, -⟩ | ⟨-, hv⟩
            · omega
            · exact hv
          have := ih (k + 1) n v1 v2 (by omega) (by omega) (Or.inr ⟨by omega, hv'⟩)
          rw [e2] at this
          simp (disch := omega) only [f_X5_bestDay_16, gd_t, if_neg, hla, bnd_s, if_pos]
          exact this
        · have hv' : ((k : Int) + 1, wst S L p b (k + 1)) = bst S L p b (k + 1) := by
            rw [hbs, if_pos (by omega), e2]
          have := ih (k + 1) n ((k : Int) + 1) (wst S L p b (k + 1)) (by omega) (by omega) (Or.inr ⟨by omega, hv'⟩)
          rw [e2] at this
          simp (disch := omega) only [f_X5_bestDay_16, gd_t, if_neg, hla, bnd_s]
          exact this
    have := key 10 0 N 1 11 rfl (by omega) (Or.inl ⟨rfl, rfl, rfl⟩)
    simp (disch := omega) only [f_X5_bestDay, gd_t, if_neg, h3]
    exact this
