theorem sumTo_add {f g : Nat → Int} : ∀ n, sumTo (fun i => f i + g i) n = sumTo f n + sumTo g n
  | 0 => rfl
  | n + 1 => by
    show sumTo (fun i => f i + g i) n + (f n + g n) = sumTo f n + f n + (sumTo g n + g n)
    rw [sumTo_add n]
    omega
def remO (S : Row) (T : Nat) (H : Row) (k : Int) : Int := sumTo (fun t => if cutN S (H t) = 0 ∧ k < H t + 1 then 1 else 0) T
theorem remO_s {S : Row} {T : Nat} {H : Row} {k : Int} : remO S T H k = remO S T H (k + 1) + cmr S T H (k + 1) := by
  unfold remO cmr
  rw [← sumTo_add]
  refine sumTo_congr T (fun i _ => ?_)
  by_cases c1 : cutN S (H i) = 0 ∧ k < H i + 1
  · rw [if_pos c1]
    by_cases c2 : H i + 1 = k + 1
    · rw [if_neg (by omega), if_pos ⟨c1.1, c2⟩]; rfl
    · rw [if_pos ⟨c1.1, by omega⟩, if_neg (by omega)]; rfl
  · rw [if_neg c1, if_neg (fun q => c1 ⟨q.1, by omega⟩), if_neg (fun q => c1 ⟨q.1, by omega⟩)]; rfl
theorem remO_6 {S : Row} {T : Nat} {H : Row} {k : Int} (hH : ∀ t, t < T → H t ≤ 5) (hk : 6 ≤ k) : remO S T H k = 0 := by
  unfold remO
  rw [sumTo_congr T (g := fun _ => 0) (fun i hi => by have := hH i hi; rw [if_neg (by omega)])]
  have := sumTo_in (f := fun _ => 0) (a := 0) (b := 0) T (fun i _ => by omega)
  omega
theorem remO_0 {S : Row} {T : Nat} {H : Row} (hH : ∀ t, t < T → 0 ≤ H t) : remO S T H 0 = (T : Int) - cutC S T H := by
  have e : remO S T H 0 + cutC S T H = (T : Int) := by
    unfold remO cutC
    rw [← sumTo_add, sumTo_congr T (g := fun _ => 1) (fun i hi => by
      have := hH i hi
      rcases cutN_01 S (H i) with q | q
      · rw [if_pos ⟨q, by omega⟩, q]; rfl
      · rw [if_neg (by omega), q]; rfl)]
    have := sumTo_in (f := fun _ => 1) (a := 1) (b := 1) T (fun i _ => by omega)
    omega
  omega
theorem outOf_80_s {N : Nat} {M : Mem} {T : Nat} {K S H : Row} (hN : 10 ≤ N) (h : NwOK M T K S H) (k42 : Int → Int → Int → Mem → Option (Int × Mem)) {v1 v2 v3 : Int} (h2 : inR v2) : f_X8_outOf_80 N 2 k42 N v1 v2 v3 0 M = k42 v1 v2 (v3 + cmr S T H v2) M := by
  obtain ⟨s', hI, he⟩ := lp_eq (fun n k (v : Int) => f_X8_outOf_80 N 2 k42 n v1 v2 v k M) (fun v => k42 v1 v2 v M) (fun k v => v = v3 + sumTo (fun t => if cutN S (H t) = 0 ∧ H t + 1 = v2 then 1 else 0) k) T
    (fun n k v hk hv => by
      subst hv
      obtain ⟨-, k4, k5, k6⟩ := h.2.2.2 k hk
      have h1 := h.1
      have h5 := h.2.1
      refine ⟨_, rfl, ?_⟩
      rcases cutN_01 S (H k) with q | q
      · by_cases c : H k + 1 = v2
        · simp (disch := omega) only [f_X8_outOf_80, gd_t, if_neg, if_pos, h1, isCutOff8_s hN h hk, q, bnd_s, tn_c, k4, reduceIte, sumTo, c, true_and, Int.add_assoc]
        · simp (disch := omega) only [f_X8_outOf_80, gd_t, if_neg, if_pos, h1, isCutOff8_s hN h hk, q, bnd_s, tn_c, k4, reduceIte, sumTo, Int.add_assoc]
      · simp (disch := omega) only [f_X8_outOf_80, gd_t, if_neg, if_pos, h1, isCutOff8_s hN h hk, q, bnd_s, reduceIte, sumTo, Int.add_assoc])
    (fun n v hv => by have h1 := h.1; have h5 := h.2.1; simp (disch := omega) only [f_X8_outOf_80, gd_t, if_pos, h1]) T 0 N v3 (by omega) (by have := h.2.1; omega) (by simp [sumTo])
  rw [hI] at he
  exact he
theorem outOf_s {N : Nat} {M : Mem} {S : Row} {T : Nat} {K H : Row} {cg : Int} (hN : 20 ≤ N) (h0 : MdOK M S T K H) (hg : M 2 3 = cg) (hg2 : 1 ≤ cg ∧ cg ≤ 9) : ∃ M', f_X8_outOf N 2 M = some (outV S T H cg, M') ∧ ∀ a, a ≠ ch 2 11 → a ≠ ch 2 12 → M' a = M a := by
  obtain ⟨M1, e1, h, f1⟩ := asItIs_s (N := N) (by omega) h0
  have h1 := h.1
  have h2 := h.2.1
  have hg1 : M1 2 3 = cg := by rw [f1 2 (by decide) (by decide)]; exact hg
  have hH5 : ∀ t, t < T → H t ≤ 5 := fun t ht => (h.2.2.2 t ht).2.2.2
  have hH0 : ∀ t, t < T → 0 ≤ H t := fun t ht => (h.2.2.2 t ht).2.2.1
  have key : ∀ (j k n : Nat) (b w : Int), k + j = 11 → j < n → b = w + remO S T H (k : Int) → 0 ≤ w → w ≤ 5 → b ≤ 5 → (6 ≤ k → b ≤ 11 - (k : Int)) → -200 ≤ b → f_X8_outOf_42 N 2 n b (k : Int) w M1 = some (outS (cmr S T H) cg j b w (k : Int), M1) := by
    intro j
    induction j with
    | zero =>
      intro k n b w hk hn hb hw hw2 hb5 hb6 hb7
      obtain ⟨n, rfl⟩ : ∃ n', n = n' + 1 := ⟨n - 1, by omega⟩
      have := hb6 (by omega)
      simp (disch := omega) only [f_X8_outOf_42, gd_t, if_pos, outS]
    | succ j ih =>
      intro k n b w hk hn hb hw hw2 hb5 hb6 hb7
      obtain ⟨n, rfl⟩ : ∃ n', n = n' + 1 := ⟨n - 1, by omega⟩
      by_cases c : b ≤ 0
      · simp (disch := omega) only [f_X8_outOf_42, gd_t, if_pos, outS]
      · have hr := remO_s (S := S) (T := T) (H := H) (k := (k : Int))
        have hr2 : 0 ≤ remO S T H ((k : Int) + 1) := by
          have := sumTo_in (f := fun t => if cutN S (H t) = 0 ∧ (k : Int) + 1 < H t + 1 then 1 else 0) (a := 0) (b := 1) T (fun i _ => by split <;> omega)
          unfold remO
          omega
        have hc := cmr_in (S := S) h2 H ((k : Int) + 1)
        have hr6 : 6 ≤ k → remO S T H (k : Int) = 0 := fun q => remO_6 hH5 (by omega)
        have e2 : ((k + 1 : Nat) : Int) = (k : Int) + 1 := by omega
        have hup : (if cg < w then cg else w) = if cg ≤ w then cg else w := by
          split <;> split <;> omega
        have ih := ih (k + 1) n (b - (if cg < w then cg else w)) (w - (if cg < w then cg else w) + cmr S T H ((k : Int) + 1)) (by omega) (by omega) (by rw [e2]; split <;> omega) (by split <;> omega) (by split <;> omega) (by split <;> omega) (fun q => by
          rcases (show k = 5 ∨ 6 ≤ k by omega) with q1 | q1
          · split <;> omega
          · have := hr6 q1
            have := hb6 q1
            split <;> omega) (by split <;> omega)
        rw [e2] at ih
        by_cases c2 : cg ≤ w
        · have e3 : (if cg < w then cg else w) = cg := by split <;> omega
          rw [e3] at ih
          simp (disch := omega) only [f_X8_outOf_42, gd_t, if_neg, if_pos, hg1, outOf_80_s (by omega : 10 ≤ N) h, outS, e3]
          exact ih
        · have e3 : (if cg < w then cg else w) = w := by split <;> omega
          rw [e3] at ih
          simp (disch := omega) only [f_X8_outOf_42, gd_t, if_neg, if_pos, hg1, outOf_80_s (by omega : 10 ≤ N) h, outS, e3]
          exact ih
  obtain ⟨s', hI, he⟩ := lp_eq (fun n k (v : Int) => f_X8_outOf_8 N 2 n v k M1) (fun v => f_X8_outOf_42 N 2 N v 0 0 M1) (fun k v => v = sumTo (fun t => if cutN S (H t) = 0 ∧ (0 : Int) < H t + 1 then 1 else 0) k) T
    (fun n k v hk hv => by
      subst hv
      have := hH0 k hk
      refine ⟨_, rfl, ?_⟩
      rcases cutN_01 S (H k) with q | q
      · simp (disch := omega) only [f_X8_outOf_8, gd_t, if_neg, if_pos, h1, isCutOff8_s (by omega : 10 ≤ N) h hk, q, bnd_s, reduceIte, sumTo, true_and]
      · simp (disch := omega) only [f_X8_outOf_8, gd_t, if_neg, if_pos, h1, isCutOff8_s (by omega : 10 ≤ N) h hk, q, bnd_s, reduceIte, sumTo])
    (fun n v hv => by simp (disch := omega) only [f_X8_outOf_8, gd_t, if_pos, h1]) T 0 N 0 (by omega) (by omega) rfl
  have hr0 : s' = remO S T H 0 := hI
  have hr1 := remO_0 (S := S) hH0
  have hcc := cutC_in (S := S) (T := T) H
  refine ⟨M1, ?_, f1⟩
  simp only [f_X8_outOf, e1, bnv_s]
  refine he.trans ?_
  have := key 11 0 N s' 0 rfl (by omega) (by rw [hr0]; simp) (by omega) (by omega) (by omega) (by omega) (by omega)
  rw [show ((0 : Nat) : Int) = 0 from rfl] at this
  rw [this]
  unfold outV
  rw [hr0, hr1]
/-! props -/
theorem propsIn_s {N : Nat} {M : Mem} {S : Row} {T : Nat} {K H : Row} (hN : 200 ≤ N) (h0 : MdOK M S T K H) {d : Int} (hd : 1 ≤ d ∧ d ≤ 20) {p : Nat} (hp : p < 6) : ∃ M', f_X8_propsIn N 2 (p : Int) d M = some (propAt S (wsT T K H) d p, M') ∧ ∀ a, a ≠ ch 2 11 → a ≠ ch 2 12 → M' a = M a := by
  obtain ⟨M1, e1, h, f1⟩ := asItIs_s (N := N) (by omega) h0
  refine ⟨M1, ?_, f1⟩
  obtain ⟨a1, a2, a3⟩ := h0.2.2.1 p hp
  have a1' : M1 (ch 2 8) p = S p := by rw [f1 _ (by decide) (by decide)]; exact a1
  have hle := lessOf_s (N := N) (by omega) h al_12 h.2.2.1 hp
  have hW := wsT_in h.2.1 K H p
  have hl := lossR_in (S := S) (L := wsT T K H) (p := p) hW
  have b1 : 0 ≤ lossR S (wsT T K H) p * d := Int.mul_nonneg hl.1 (by omega)
  have b2 : lossR S (wsT T K H) p * d ≤ 21 * 20 := Int.mul_le_mul hl.2 hd.2 (by omega) (by omega)
  simp only [f_X8_propsIn, e1, bnv_s]
  obtain ⟨N, rfl⟩ : ∃ N', N = N' + 1 := ⟨N - 1, by omega⟩
  by_cases hz : S p = 0
  · unfold propAt
    rw [if_pos hz]
    simp (disch := omega) only [f_X8_propsIn_6, f_X8_propsIn_45, gd_t, if_pos, tn_c, a1', hz]
  · have hlv : wsT T K H p + bes S p = lossR S (wsT T K H) p := by unfold lossR; rw [if_neg hz]
    rw [hlv] at hle
    have hcm : d * lossR S (wsT T K H) p = lossR S (wsT T K H) p * d := Int.mul_comm _ _
    generalize hX : lossR S (wsT T K H) p * d = X at b1 b2 hcm
    obtain ⟨e, he⟩ : ∃ e : Nat, (e : Int) = if 0 < X + 1 - S p then (X + 1 - S p + 3 - 1) / 3 else 0 := ⟨(if 0 < X + 1 - S p then (X + 1 - S p + 3 - 1) / 3 else 0).toNat, by split <;> omega⟩
    obtain ⟨u, -, hu⟩ := lp_eq (fun n k (_ : Unit) => f_X8_propsIn_6 (N + 1) 2 (p : Int) d n k M1) (fun _ => f_X8_propsIn_45 (N + 1) 2 (p : Int) d (e : Int) M1) (fun _ _ => True) e
      (fun n k _ hk _ => ⟨(), trivial, by
        have hk3 : S p + 3 * (k : Int) ≤ X := by split at he <;> omega
        simp (disch := omega) only [f_X8_propsIn_6, gd_t, if_neg, tn_c, a1', hle, bnd_s, hcm]⟩)
      (fun n _ _ => by
        have hk3 : X < S p + 3 * (e : Int) := by split at he <;> omega
        have hk4 : (e : Int) ≤ 200 := by split at he <;> omega
        simp (disch := omega) only [f_X8_propsIn_6, gd_t, if_neg, if_pos, tn_c, a1', hle, bnd_s, hcm]) e 0 (N + 1) () (by omega) (by split at he <;> omega) trivial
    refine hu.trans ?_
    unfold propAt
    rw [if_neg hz, hX]
    by_cases c : 0 < X + 1 - S p
    · rw [if_pos c] at he ⊢
      by_cases c2 : S p + (X + 1 - S p + 3 - 1) / 3 * 3 ≤ 20
      · rw [if_pos c2, ← he]
        simp (disch := omega) only [f_X8_propsIn_45, gd_t, if_pos, tn_c, a1']
      · rw [if_neg c2]
        simp (disch := omega) only [f_X8_propsIn_45, gd_t, if_neg, tn_c, a1']
    · rw [if_neg c] at he ⊢
      rw [he]
      simp (disch := omega) only [f_X8_propsIn_45, gd_t, if_pos, tn_c, a1']
theorem MdOK.fr {M M' : Mem} {S : Row} {T : Nat} {K H : Row} (h : MdOK M S T K H) (hf : ∀ a, a ≠ ch 2 11 → a ≠ ch 2 12 → M' a = M a) : MdOK M' S T K H :=
  h.kept (by rw [hf 2 (by decide) (by decide)]) (hf _ (by decide) (by decide)) (hf _ (by decide) (by decide))
def propW (S L : Row) (d w : Int) : Int := if noNone S L d 6 then (if w = 0 then sumTo (propAt S L d) 6 else propAt S L d (w - 10).toNat) else -1
theorem propsOf_s {N : Nat} {M : Mem} {S : Row} {T : Nat} {K H : Row} (hN : 200 ≤ N) (h0 : MdOK M S T K H) {d w : Int} (hd : 1 ≤ d ∧ d ≤ 20) (hw : w = 0 ∨ (10 ≤ w ∧ w ≤ 15)) : ∃ M', f_X8_propsOf N 2 d w M = some (propW S (wsT T K H) d w, M') ∧ ∀ a, a ≠ ch 2 11 → a ≠ ch 2 12 → M' a = M a := by
  have hin : ∀ p, p < 6 → -1 ≤ propAt S (wsT T K H) d p ∧ propAt S (wsT T K H) d p ≤ 200 := fun p hp => propAt_in (h0.2.2.1 p hp).2 (wsT_in h0.2.1 K H p) hd
  obtain ⟨q, h1, h2⟩ := lp_ex (fun n k (s : Int × Int × Mem) => f_X8_propsOf_8 N 2 d w n s.1 s.2.1 k s.2.2) (fun q => q.1 = propW S (wsT T K H) d w ∧ ∀ a, a ≠ ch 2 11 → a ≠ ch 2 12 → q.2 a = M a) (fun k s => s.1 = sumTo (propAt S (wsT T K H) d) k ∧ s.2.1 = (if noNone S (wsT T K H) d k then 1 else 0) ∧ ∀ a, a ≠ ch 2 11 → a ≠ ch 2 12 → s.2.2 a = M a) 6
    (fun n k s hk hs => by
      obtain ⟨v3, v4, m⟩ := s
      obtain ⟨s1, s2, s3⟩ := hs
      dsimp only at s1 s2 s3
      obtain ⟨m1, g1, g2⟩ := propsIn_s hN (h0.fr s3) hd hk
      have hi := hin k hk
      right
      have f3 : ∀ a, a ≠ ch 2 11 → a ≠ ch 2 12 → m1 a = M a := fun a ha hb => by rw [g2 a ha hb, s3 a ha hb]
      by_cases c : noNone S (wsT T K H) d k = true
      · rw [if_pos c] at s2
        subst s2
        by_cases c2 : propAt S (wsT T K H) d k = -1
        · refine ⟨(v3 + propAt S (wsT T K H) d k, 0, m1), ⟨by rw [s1]; rfl, by unfold noNone; simp [c2], f3⟩, ?_⟩
          simp (disch := omega) only [f_X8_propsOf_8, gd_t, if_neg, g1, bnd_s, if_pos]
        · refine ⟨(v3 + propAt S (wsT T K H) d k, 1, m1), ⟨by rw [s1]; rfl, by unfold noNone; simp [c, c2], f3⟩, ?_⟩
          simp (disch := omega) only [f_X8_propsOf_8, gd_t, if_neg, g1, bnd_s]
      · rw [if_neg c] at s2
        subst s2
        refine ⟨(v3 + propAt S (wsT T K H) d k, 0, m1), ⟨by rw [s1]; rfl, by unfold noNone; simp [c], f3⟩, ?_⟩
        simp (disch := omega) only [f_X8_propsOf_8, gd_t, if_neg, g1, bnd_s, if_pos, reduceIte])
    (fun n s hs => by
      obtain ⟨v3, v4, m⟩ := s
      obtain ⟨s1, s2, s3⟩ := hs
      dsimp only at s1 s2 s3
      unfold propW
      by_cases c : noNone S (wsT T K H) d 6 = true
      · rw [if_pos c] at s2
        subst s2
        simp only [if_pos c]
        rcases hw with hw | hw
        · subst hw
          exact ⟨_, by simp (disch := omega) only [f_X8_propsOf_8, gd_t, if_neg, if_pos, reduceIte]; rfl, by simp [s1], s3⟩
        · obtain ⟨m1, g1, g2⟩ := propsIn_s hN (h0.fr s3) hd (p := (w - 10).toNat) (by omega)
          have ew : ((w - 10).toNat : Int) = w - 10 := by omega
          rw [ew] at g1
          refine ⟨(propAt S (wsT T K H) d (w - 10).toNat, m1), by simp (disch := omega) only [f_X8_propsOf_8, gd_t, if_neg, if_pos, g1, bnd_s], ?_, fun a ha hb => by dsimp only; rw [g2 a ha hb, s3 a ha hb]⟩
          rw [if_neg (by omega)]
      · rw [if_neg c] at s2
        subst s2
        simp only [if_neg c]
        exact ⟨_, by simp (disch := omega) only [f_X8_propsOf_8, gd_t, if_pos, reduceIte]; rfl, rfl, s3⟩) 6 0 N (0, 1, M) rfl (by omega) ⟨rfl, rfl, fun _ _ _ => rfl⟩
  refine ⟨q.2, ?_, h2.2⟩
  unfold f_X8_propsOf
  rw [← h2.1]
  exact h1
