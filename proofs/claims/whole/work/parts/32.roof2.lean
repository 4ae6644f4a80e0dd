/-! how long it holds, in closed form -/
def ffTo (S L : Row) : Nat → Int
  | 0 => 41
  | k + 1 => if 0 < lossR S L k then (if (S k + lossR S L k - 1) / lossR S L k < ffTo S L k then (S k + lossR S L k - 1) / lossR S L k else ffTo S L k) else ffTo S L k
theorem ffTo_s (S L : Row) (k : Nat) : ffTo S L (k + 1) = if 0 < lossR S L k then (if (S k + lossR S L k - 1) / lossR S L k < ffTo S L k then (S k + lossR S L k - 1) / lossR S L k else ffTo S L k) else ffTo S L k := rfl
def ffS (S L : Row) : Int := ffTo S L 6
theorem ff_div {s l d : Int} (hl : 0 < l) : d < (s + l - 1) / l ↔ d * l < s := by
  have h := Int.le_ediv_iff_mul_le (a := d + 1) (b := s + l - 1) hl
  have e : (d + 1) * l = d * l + l := by rw [Int.add_mul, Int.one_mul]
  rw [e] at h
  constructor
  · intro hd
    have := h.mp (by omega)
    omega
  · intro hd
    have := h.mpr (by omega)
    omega
theorem ffTo_lt {S L : Row} (hS : ∀ p, p < 6 → 0 ≤ S p) (hL : ∀ p, p < 6 → 0 ≤ L p ∧ L p ≤ 20) {d : Int} (hd : 0 ≤ d) (hd2 : d ≤ 40) : ∀ k, k ≤ 6 → (d < ffTo S L k ↔ ∀ p, p < k → S p ≠ 0 → d * lossR S L p < S p) := by
  intro k
  induction k with
  | zero => intro _; exact ⟨fun _ p hp => by omega, fun _ => by show d < 41; omega⟩
  | succ k ih =>
    intro hk
    have ih := ih (by omega)
    have hl := lossR_in (S := S) (hL k (by omega))
    have hs := hS k (by omega)
    have key : (d < ffTo S L (k + 1)) ↔ (d < ffTo S L k ∧ (S k ≠ 0 → d * lossR S L k < S k)) := by
      by_cases h0 : 0 < lossR S L k
      · have hz : S k ≠ 0 := fun h => by unfold lossR at h0; rw [if_pos h] at h0; omega
        have hd := ff_div (s := S k) (d := d) h0
        rw [ffTo_s, if_pos h0]
        constructor
        · intro h
          split at h
          · exact ⟨by omega, fun _ => hd.mp h⟩
          · exact ⟨h, fun _ => hd.mp (by omega)⟩
        · rintro ⟨h1, h2⟩
          have := hd.mpr (h2 hz)
          split <;> omega
      · have e0 : lossR S L k = 0 := by omega
        rw [ffTo_s, if_neg h0, e0, Int.mul_zero]
        exact ⟨fun h => ⟨h, fun h => by omega⟩, fun h => h.1⟩
    rw [key, ih]
    constructor
    · rintro ⟨h1, h2⟩ p hp hz
      rcases (show p < k ∨ p = k by omega) with q | rfl
      · exact h1 p q hz
      · exact h2 hz
    · intro h
      exact ⟨fun p hp => h p (by omega), h k (by omega)⟩
theorem ffTo_in {S L : Row} (hS : ∀ p, p < 6 → 0 ≤ S p) (hL : ∀ p, p < 6 → 0 ≤ L p ∧ L p ≤ 20) : ∀ k, k ≤ 6 → 1 ≤ ffTo S L k ∧ ffTo S L k ≤ 41 := by
  intro k hk
  have h1 := (ffTo_lt hS hL (d := 0) (by omega) (by omega) k hk).mpr (fun p hp hz => by have := hS p (by omega); rw [Int.zero_mul]; omega)
  refine ⟨by omega, ?_⟩
  clear h1
  induction k with
  | zero => exact Int.le_refl _
  | succ k ih =>
    have := ih (by omega)
    unfold ffTo
    repeat' split
    all_goals omega
theorem firstFall_s {N r : Nat} {M : Mem} {S L : Row} (hN : 10 ≤ N) (h : RoofOK M r S L) : f_X3_firstFall N r M = some (ffS S L, M) := by
  have hS : ∀ p, p < 6 → 0 ≤ S p := fun p hp => (h.1 p hp).2.1
  have hL : ∀ p, p < 6 → 0 ≤ L p ∧ L p ≤ 20 := fun p hp => (h.2 p hp).2
  obtain ⟨s', hI, he⟩ := lp_eq (fun n k (v : Int) => f_X3_firstFall_5 N r n v k M) (fun v => some (v, M)) (fun k v => v = ffTo S L k) 6
    (fun n k v hk hv => by
      obtain ⟨a1, a2, a3⟩ := h.1 k hk
      have hl := lossR_in (S := S) (hL k hk)
      have hin := ffTo_in hS hL k (by omega)
      subst hv
      by_cases h0 : 0 < lossR S L k
      · have hdv : (S k + lossR S L k - 1) / lossR S L k ≤ 41 + 0 * 1 ∨ 41 < (S k + lossR S L k - 1) / lossR S L k := by omega
        have h2 : i_div (S k + lossR S L k - 1) (lossR S L k) = (S k + lossR S L k - 1) / lossR S L k := i_div_s (by omega) (by omega) h0 (by omega)
        have h3 : 0 ≤ (S k + lossR S L k - 1) / lossR S L k := Int.ediv_nonneg (by omega) (by omega)
        have h4 : (S k + lossR S L k - 1) / lossR S L k ≤ S k + lossR S L k - 1 := Int.ediv_le_self _ (by omega)
        have hm : f_J9_min_7cf53 N (ffTo S L k) ((S k + lossR S L k - 1) / lossR S L k) M = some (ffTo S L (k + 1), M) := by
          rw [min_s (by omega) (by omega)]
          conv => rhs; unfold ffTo
          rw [if_pos h0]
        refine ⟨_, rfl, ?_⟩
        simp (disch := omega) only [f_X3_firstFall_5, gd_t, if_neg, lossAt_s h hk, bnd_s, tn_c, a1, h2, hm]
      · refine ⟨_, rfl, ?_⟩
        have : ffTo S L (k + 1) = ffTo S L k := by conv => lhs; unfold ffTo
                                                   rw [if_neg h0]
        rw [this]
        simp (disch := omega) only [f_X3_firstFall_5, gd_t, if_neg, if_pos, lossAt_s h hk, bnd_s])
    (fun n v hv => by simp (disch := omega) only [f_X3_firstFall_5, gd_t, if_pos]) 6 0 N 41 rfl (by omega) rfl
  unfold f_X3_firstFall ffS
  rw [← hI]
  exact he
/-! props -/
def propAt (S L : Row) (d : Int) (p : Nat) : Int :=
  if S p = 0 then 0 else if 0 < lossR S L p * d + 1 - S p then (if S p + (lossR S L p * d + 1 - S p + 3 - 1) / 3 * 3 ≤ 20 then (lossR S L p * d + 1 - S p + 3 - 1) / 3 else -1) else 0
theorem propsNeededAt_s {N r : Nat} {M : Mem} {S L : Row} (h : RoofOK M r S L) {d : Int} (hd : 1 ≤ d ∧ d ≤ 20) {p : Nat} (hp : p < 6) : f_X3_propsNeededAt N r (p : Int) d M = some (propAt S L d p, M) := by
  obtain ⟨a1, a2, a3⟩ := h.1 p hp
  have hl := lossR_in (S := S) (h.2 p hp).2
  have b1 : 0 ≤ lossR S L p * d := Int.mul_nonneg hl.1 (by omega)
  have b2 : lossR S L p * d ≤ 21 * 20 := Int.mul_le_mul hl.2 hd.2 (by omega) (by omega)
  unfold propAt
  by_cases h0 : S p = 0
  · simp (disch := omega) only [f_X3_propsNeededAt, gd_t, if_neg, if_pos, stands_s h hp, bnd_s, h0, reduceIte]
  · by_cases h1 : 0 < lossR S L p * d + 1 - S p
    · have h2 : i_div (lossR S L p * d + 1 - S p + 3 - 1) 3 = (lossR S L p * d + 1 - S p + 3 - 1) / 3 := i_div_s (by omega) (by omega) (by omega) (by omega)
      by_cases h3 : S p + (lossR S L p * d + 1 - S p + 3 - 1) / 3 * 3 ≤ 20
      · simp (disch := omega) only [f_X3_propsNeededAt, gd_t, if_neg, if_pos, stands_s h hp, bnd_s, reduceIte, lossAt_s h hp, tn_c, a1, h2]
      · simp (disch := omega) only [f_X3_propsNeededAt, gd_t, if_neg, if_pos, stands_s h hp, bnd_s, reduceIte, lossAt_s h hp, tn_c, a1, h2]
    · simp (disch := omega) only [f_X3_propsNeededAt, gd_t, if_neg, if_pos, stands_s h hp, bnd_s, reduceIte, lossAt_s h hp, tn_c, a1]
theorem propAt_in {S L : Row} {d : Int} {p : Nat} (hS : 0 ≤ S p ∧ S p ≤ 20) (hL : 0 ≤ L p ∧ L p ≤ 20) (hd : 1 ≤ d ∧ d ≤ 20) : -1 ≤ propAt S L d p ∧ propAt S L d p ≤ 200 := by
  have hl := lossR_in (S := S) hL
  have b1 : 0 ≤ lossR S L p * d := Int.mul_nonneg hl.1 (by omega)
  have b2 : lossR S L p * d ≤ 21 * 20 := Int.mul_le_mul hl.2 hd.2 (by omega) (by omega)
  unfold propAt
  repeat' split
  all_goals omega
theorem sumTo_in {f : Nat → Int} {a b : Int} : ∀ n : Nat, (∀ i, i < n → a ≤ f i ∧ f i ≤ b) → (n : Int) * a ≤ sumTo f n ∧ sumTo f n ≤ (n : Int) * b
  | 0, _ => by simp [sumTo]
  | n + 1, h => by
    have h1 := sumTo_in n (fun i hi => h i (by omega))
    have h2 := h n (by omega)
    show ((n + 1 : Nat) : Int) * a ≤ sumTo f n + f n ∧ sumTo f n + f n ≤ ((n + 1 : Nat) : Int) * b
    have e1 : ((n + 1 : Nat) : Int) * a = (n : Int) * a + a := by rw [Int.natCast_add, Int.add_mul]; simp
    have e2 : ((n + 1 : Nat) : Int) * b = (n : Int) * b + b := by rw [Int.natCast_add, Int.add_mul]; simp
    omega
def noNone (S L : Row) (d : Int) : Nat → Bool
  | 0 => true
  | k + 1 => noNone S L d k && decide (propAt S L d k ≠ -1)
def propAll (S L : Row) (d : Int) : Int := if noNone S L d 6 then sumTo (propAt S L d) 6 else -1
theorem noNone_f {S L : Row} {d : Int} {k : Nat} (h : noNone S L d k = false) : ∀ j, k ≤ j → noNone S L d j = false := by
  intro j hj
  induction j with
  | zero => have : k = 0 := by omega
            rw [← this]; exact h
  | succ j ih =>
    rcases (show k ≤ j ∨ k = j + 1 by omega) with q | rfl
    · unfold noNone; rw [ih q]; rfl
    · exact h
theorem propsNeeded_s {N r : Nat} {M : Mem} {S L : Row} (hN : 10 ≤ N) (h : RoofOK M r S L) {d : Int} (hd : 1 ≤ d ∧ d ≤ 20) : f_X3_propsNeeded N r d M = some (propAll S L d, M) := by
  have hin : ∀ p, p < 6 → -1 ≤ propAt S L d p ∧ propAt S L d p ≤ 200 := fun p hp => propAt_in (h.1 p hp).2 (h.2 p hp).2 hd
  obtain ⟨q, h1, h2⟩ := lp_ex (fun n k (v : Int) => f_X3_propsNeeded_4 N r d n v k M) (fun q => q = (propAll S L d, M)) (fun k v => v = sumTo (propAt S L d) k ∧ noNone S L d k = true) 6
    (fun n k v hk hv => by
      have hi := hin k hk
      by_cases h0 : propAt S L d k = -1
      · left
        refine ⟨_, by simp (disch := omega) only [f_X3_propsNeeded_4, gd_t, if_neg, propsNeededAt_s h hd hk, bnd_s, if_pos]; rfl, ?_⟩
        unfold propAll
        rw [noNone_f (k := k + 1) (by unfold noNone; simp [h0]) 6 (by omega)]
        rfl
      · right
        refine ⟨v + propAt S L d k, ⟨by rw [hv.1]; rfl, by unfold noNone; rw [hv.2]; simp [h0]⟩, by simp (disch := omega) only [f_X3_propsNeeded_4, gd_t, if_neg, propsNeededAt_s h hd hk, bnd_s]⟩)
    (fun n v hv => ⟨_, by simp (disch := omega) only [f_X3_propsNeeded_4, gd_t, if_pos]; rfl, by unfold propAll; rw [hv.2, hv.1]; rfl⟩) 6 0 N 0 rfl (by omega) ⟨rfl, rfl⟩
  unfold f_X3_propsNeeded
  rw [← h2]
  exact h1
