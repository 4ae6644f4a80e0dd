/-! where they would live best: the codes -/
def dgR (t c : Nat) : Row := fun i => ((c / 6 ^ (t - 1 - i) % 6 : Nat) : Int)
theorem dgR_in (t c i : Nat) : 0 ≤ dgR t c i ∧ dgR t c i ≤ 5 := by
  have : c / 6 ^ (t - 1 - i) % 6 < 6 := Nat.mod_lt _ (by decide)
  unfold dgR
  omega
theorem dgR_old {t q p i : Nat} (hi : i < t) (hp : p < 6) : dgR (t + 1) (6 * q + p) i = dgR t q i := by
  unfold dgR
  rw [show t + 1 - 1 - i = (t - 1 - i) + 1 by omega, Nat.pow_succ, Nat.mul_comm (6 ^ (t - 1 - i)) 6, ← Nat.div_div_eq_div_mul, show (6 * q + p) / 6 = q by omega]
theorem dgR_new {t q p : Nat} (hp : p < 6) : dgR (t + 1) (6 * q + p) t = (p : Int) := by
  unfold dgR
  rw [show t + 1 - 1 - t = 0 by omega, Nat.pow_zero, Nat.div_one, show (6 * q + p) % 6 = p by omega]
theorem dgR_pre {t q : Nat} : ∀ (m c i : Nat), i < t → c / 6 ^ m = q → dgR (t + m) c i = dgR t q i
  | 0, c, i, hi, h => by rw [Nat.pow_zero, Nat.div_one] at h; rw [h]; rfl
  | m + 1, c, i, hi, h => by
    have e := dgR_old (t := t + m) (q := c / 6) (p := c % 6) (i := i) (by omega) (Nat.mod_lt _ (by decide))
    rw [show 6 * (c / 6) + c % 6 = c by omega] at e
    rw [show t + (m + 1) = t + m + 1 by omega, e]
    exact dgR_pre m (c / 6) i hi (by rw [Nat.div_div_eq_div_mul, Nat.mul_comm 6, ← Nat.pow_succ]; exact h)
def okB (S H : Row) : Nat → Bool
  | 0 => true
  | i + 1 => okB S H i && decide (S (H i).toNat ≠ 0)
theorem okB_t {S H : Row} : ∀ n, okB S H n = true ↔ ∀ i, i < n → S (H i).toNat ≠ 0
  | 0 => ⟨fun _ i hi => by omega, fun _ => rfl⟩
  | n + 1 => by
    show (okB S H n && decide (S (H n).toNat ≠ 0)) = true ↔ _
    rw [Bool.and_eq_true, okB_t n, decide_eq_true_iff]
    constructor
    · rintro ⟨h1, h2⟩ i hi
      rcases (show i < n ∨ i = n by omega) with c | rfl
      · exact h1 i c
      · exact h2
    · intro h
      exact ⟨fun i hi => h i (by omega), h n (by omega)⟩
def VV (S : Row) (T : Nat) (K : Row) (c : Nat) : Int := if okB S (dgR T c) T then ffS S (wsT T K (dgR T c)) else -1
def stC (V : Nat → Int) (a : Int × Nat) (c : Nat) : Int × Nat := if a.1 < V c then (V c, c) else a
def foC (V : Nat → Int) (s : Nat) : Nat → Int × Nat → Int × Nat
  | 0, a => a
  | n + 1, a => stC V (foC V s n a) (s + n)
theorem foC_add {V : Nat → Int} {s n : Nat} {a : Int × Nat} : ∀ k, foC V s (n + k) a = foC V (s + n) k (foC V s n a)
  | 0 => rfl
  | k + 1 => by
    show stC V (foC V s (n + k) a) (s + (n + k)) = stC V (foC V (s + n) k (foC V s n a)) (s + n + k)
    rw [foC_add k, Nat.add_assoc]
theorem foC_id {V : Nat → Int} {s : Nat} {a : Int × Nat} : ∀ n, (∀ c, s ≤ c → c < s + n → V c ≤ a.1) → foC V s n a = a
  | 0, _ => rfl
  | n + 1, h => by
    show stC V (foC V s n a) (s + n) = a
    rw [foC_id n (fun c h1 h2 => h c h1 (by omega))]
    unfold stC
    have := h (s + n) (by omega) (by omega)
    rw [if_neg (by omega)]
theorem ffS_anti {S L L' : Row} (hS : ∀ p, p < 6 → 0 ≤ S p) (hL : ∀ p, p < 6 → 0 ≤ L p ∧ L p ≤ 20) (hL' : ∀ p, p < 6 → 0 ≤ L' p ∧ L' p ≤ 20) (h : ∀ p, p < 6 → L p ≤ L' p) : ffS S L' ≤ ffS S L := by
  have i1 := ffTo_in hS hL 6 (Nat.le_refl 6)
  have i2 := ffTo_in hS hL' 6 (Nat.le_refl 6)
  rcases Int.lt_or_le (ffS S L) (ffS S L') with c | c
  · exfalso
    have i1' : 1 ≤ ffS S L ∧ ffS S L ≤ 41 := i1
    have i2' : 1 ≤ ffS S L' ∧ ffS S L' ≤ 41 := i2
    have k1 := (ffTo_lt hS hL' (d := ffS S L) (by omega) (by omega) 6 (Nat.le_refl 6)).mp c
    have k2 := (ffTo_lt hS hL (d := ffS S L) (by omega) (by omega) 6 (Nat.le_refl 6)).mpr (fun p hp hz => by
      have q := k1 p hp hz
      have le : lossR S L p ≤ lossR S L' p := by
        unfold lossR
        have := h p hp
        rw [if_neg hz, if_neg hz]
        omega
      have : ffS S L * lossR S L p ≤ ffS S L * lossR S L' p := Int.mul_le_mul_of_nonneg_left le (by omega)
      omega)
    have k3 : ffS S L < ffS S L := k2
    omega
  · exact c
theorem wsT_le {K H H' : Row} {t : Nat} (he : ∀ i, i < t → H' i = H i) (p : Nat) : ∀ m, wsT t K H p ≤ wsT (t + m) K H' p
  | 0 => by
    unfold wsT
    exact Int.le_of_eq (sumTo_congr t (fun i hi => by rw [he i hi]))
  | m + 1 => by
    have ih := wsT_le (K := K) he p m
    have e : wsT (t + (m + 1)) K H' p = wsT (t + m) K H' p + (if H' (t + m) = (p : Int) then wts (K (t + m)) else 0) := rfl
    have := wts_in (K (t + m))
    rw [e]
    split <;> omega
theorem wsT_1 {K H H' : Row} {t : Nat} (he : ∀ i, i < t → H' i = H i) (p : Nat) : wsT (t + 1) K H' p = wsT t K H p + (if H' t = (p : Int) then wts (K t) else 0) := by
  have e : wsT (t + 1) K H' p = wsT t K H' p + (if H' t = (p : Int) then wts (K t) else 0) := rfl
  rw [e]
  congr 1
  unfold wsT
  exact sumTo_congr t (fun i hi => by rw [he i hi])
theorem VV_le {S K : Row} {T t m q c : Nat} (hT : T ≤ 5) (hS : ∀ p, p < 6 → 0 ≤ S p) (hm : t + m = T) (hc : c / 6 ^ m = q) : VV S T K c ≤ ffS S (wsT t K (dgR t q)) := by
  have i1 := ffTo_in hS (fun p _ => wsT_in (show t ≤ 5 by omega) K (dgR t q) p) 6 (Nat.le_refl 6)
  have i1' : 1 ≤ ffS S (wsT t K (dgR t q)) := i1.1
  unfold VV
  split
  · refine ffS_anti hS (fun p _ => wsT_in (by omega) K _ p) (fun p _ => wsT_in (by omega) K _ p) (fun p _ => ?_)
    rw [← hm]
    exact wsT_le (fun i hi => dgR_pre m c i hi hc) p m
  · omega
def WI (M : Mem) (S : Row) (T t : Nat) (K : Row) (q : Nat) (a : Int × Nat) : Prop :=
  RoofOK M (ch 49 0) S (wsT t K (dgR t q)) ∧ (∀ i, i < t → M (ch 49 1) i = dgR t q i) ∧ (M 49 3 = a.1 ∧ M 49 4 = (if a.1 = 0 then 0 else 1) ∧ 0 ≤ a.1 ∧ a.1 ≤ 41) ∧ (a.1 ≠ 0 → ∀ i, i < T → M (ch 49 2) i = dgR T a.2 i)
def WF (M M' : Mem) : Prop := ∀ o, o ∉ [49, ch 49 1, ch 49 2, ch (ch 49 0) 1] → M' o = M o
theorem WF.tr {A B C : Mem} (h : WF A B) (h2 : WF B C) : WF A C := fun o ho => by rw [h2 o ho, h o ho]
theorem WF.st {M M' : Mem} {S : Row} {T : Nat} {K H : Row} (h : StOK M 44 S T K H) (hf : WF M M') : StOK M' 44 S T K H := h.kept (hf _ (by decide)) (hf _ (by decide)) (hf _ (by decide)) (hf _ (by decide)) (hf _ (by decide))
theorem keep_s {N T q : Nat} {S K : Row} {M : Mem} {a : Int × Nat} {r : Int} (hT : T ≤ 5) (h : WI M S T T K q a) (hr : 1 ≤ r ∧ r ≤ 41) : ∃ M', f_X4_keep N 49 r M = some M' ∧ WI M' S T T K q (r, q) ∧ WF M M' := by
  obtain ⟨h1, h2, h3, h4⟩ := h
  have e0 : ∀ o, o ≠ 49 → o ≠ ch 49 2 → (cpy (st (st M 49 4 1) 49 3 r) (ch 49 1) (ch 49 2) 5) o = M o := fun o x y => by rw [cpy_ne _ _ _ _ y, st_ne _ _ _ _ x, st_ne _ _ _ _ x]
  refine ⟨cpy (st (st M 49 4 1) 49 3 r) (ch 49 1) (ch 49 2) 5, rfl, ⟨⟨fun p hp => by rw [e0 _ (by decide) (by decide)]; exact h1.1 p hp, fun p hp => by rw [e0 _ (by decide) (by decide)]; exact h1.2 p hp⟩, fun i hi => by rw [e0 _ (by decide) (by decide)]; exact h2 i hi, ⟨?_, ?_, by omega, by omega⟩, fun _ i hi => ?_⟩, fun o ho => e0 o (nsc ho (by decide)) (nsc ho (by decide))⟩
  · rw [cpy_ne _ _ _ _ (by decide), st_same]; simp
  · rw [cpy_ne _ _ _ _ (by decide), st_same]
    dsimp only
    rw [if_neg (show ¬ (4 : Nat) = 3 by decide), if_neg (show ¬ r = 0 by omega), st_same]
    simp
  · rw [cpy_same]
    simp only [if_pos (show i < 5 by omega)]
    rw [st_ne _ _ _ _ (by decide), st_ne _ _ _ _ (by decide)]
    exact h2 i hi
theorem settle_s {N T : Nat} {S0 S K H : Row} (hN : 200 ≤ N) : ∀ (m d t q : Nat) (a : Int × Nat) (M : Mem), t + m = T → m < d → (∀ i, i < t → S (dgR t q i).toNat ≠ 0) → StOK M 44 S0 T K H → WI M S T t K q a →
    ∃ M', f_X4_settle N d 49 44 (t : Int) M = some M' ∧ WI M' S T t K q (foC (VV S T K) (q * 6 ^ m) (6 ^ m) a) ∧ WF M M' := by
  intro m
  induction m with
  | zero =>
    intro d t q a M ht hd hok hSt hW
    obtain ⟨d, rfl⟩ : ∃ d', d = d' + 1 := ⟨d - 1, by omega⟩
    have htT : t = T := by omega
    subst htT
    have hT5 := hSt.2.1
    have t3 : M 44 3 = (t : Int) := hSt.1
    obtain ⟨w1, w2, ⟨w3, w4, w5, w6⟩, w7⟩ := id hW
    have e1 := firstFall_s (N := N) (by omega) w1
    have hff := ffTo_in (fun p hp => (w1.1 p hp).2.1) (fun p hp => (w1.2 p hp).2) 6 (Nat.le_refl 6)
    have hff' : 1 ≤ ffS S (wsT t K (dgR t q)) ∧ ffS S (wsT t K (dgR t q)) ≤ 41 := hff
    have hV : VV S t K q = ffS S (wsT t K (dgR t q)) := by unfold VV; rw [if_pos ((okB_t t).mpr hok)]
    have hfo : foC (VV S t K) (q * 6 ^ 0) (6 ^ 0) a = stC (VV S t K) a q := by
      show stC (VV S t K) a (q * 6 ^ 0 + 0) = _
      rw [Nat.pow_zero, Nat.mul_one, Nat.add_zero]
    rw [hfo]
    unfold stC
    rw [hV]
    by_cases c : a.1 < ffS S (wsT t K (dgR t q))
    · obtain ⟨M', k1, k2, k3⟩ := keep_s (N := N) (by omega) hW hff'
      refine ⟨M', ?_, by rw [if_pos c]; exact k2, k3⟩
      simp (disch := omega) only [f_X4_settle, e1, bnd_s, gd_t, w3, if_pos, if_neg, t3, k1, bnv_s]
    · refine ⟨M, ?_, by rw [if_neg c]; exact hW, fun _ _ => rfl⟩
      simp (disch := omega) only [f_X4_settle, e1, bnd_s, gd_t, w3, if_neg]
  | succ m ih =>
    intro d t q a M ht hd hok hSt hW
    obtain ⟨d, rfl⟩ : ∃ d', d = d' + 1 := ⟨d - 1, by omega⟩
    have hT5 := hSt.2.1
    have htT : t < T := by omega
    have t3 : M 44 3 = (T : Int) := hSt.1
    obtain ⟨w1, w2, ⟨w3, w4, w5, w6⟩, w7⟩ := id hW
    have hS6 : ∀ p, p < 6 → 0 ≤ S p ∧ S p ≤ 20 := fun p hp => (w1.1 p hp).2
    have e1 := firstFall_s (N := N) (by omega) w1
    have hff := ffTo_in (fun p hp => (w1.1 p hp).2.1) (fun p hp => (w1.2 p hp).2) 6 (Nat.le_refl 6)
    have hff' : 1 ≤ ffS S (wsT t K (dgR t q)) ∧ ffS S (wsT t K (dgR t q)) ≤ 41 := hff
    by_cases c : a.1 < ffS S (wsT t K (dgR t q))
    · have hwt := weightOf_s (N := N) hSt htT
      have hwi := wts_in (K t)
      have lp : ∀ (j p n : Nat) (M1 : Mem), p + j = 6 → j < n → WF M M1 → WI M1 S T t K q (foC (VV S T K) (q * 6 ^ (m + 1)) (p * 6 ^ m) a) → ∃ M', f_X4_settle_50 N 49 44 (t : Int) (f_X4_settle N d) n (wts (K t)) (p : Int) M1 = some M' ∧ WI M' S T t K q (foC (VV S T K) (q * 6 ^ (m + 1)) (6 * 6 ^ m) a) ∧ WF M M' := by
        intro j
        induction j with
        | zero =>
          intro p n M1 hp hn hf hI
          obtain ⟨n, rfl⟩ : ∃ n', n = n' + 1 := ⟨n - 1, by omega⟩
          have : p = 6 := by omega
          subst this
          exact ⟨M1, by simp (disch := omega) only [f_X4_settle_50, gd_t, if_pos], hI, hf⟩
        | succ j jh =>
          intro p n M1 hp hn hf hI
          obtain ⟨n, rfl⟩ : ∃ n', n = n' + 1 := ⟨n - 1, by omega⟩
          have hp6 : p < 6 := by omega
          have est := stands_s (N := N) hI.1 hp6
          have hadd : foC (VV S T K) (q * 6 ^ (m + 1)) ((p + 1) * 6 ^ m) a = foC (VV S T K) ((6 * q + p) * 6 ^ m) (6 ^ m) (foC (VV S T K) (q * 6 ^ (m + 1)) (p * 6 ^ m) a) := by
            rw [Nat.add_mul p 1, Nat.one_mul, foC_add]
            congr 1
            rw [Nat.pow_succ, Nat.add_mul, Nat.mul_comm (6 ^ m) 6, ← Nat.mul_assoc, Nat.mul_comm q 6]
          have hblk : ∀ c, (6 * q + p) * 6 ^ m ≤ c → c < (6 * q + p) * 6 ^ m + 6 ^ m → c / 6 ^ m = 6 * q + p := fun c h1 h2 => by
            have h6 : 0 < 6 ^ m := Nat.pow_pos (by decide)
            exact Nat.div_eq_of_lt_le h1 (by rw [Nat.succ_mul]; exact h2)
          generalize hae : foC (VV S T K) (q * 6 ^ (m + 1)) (p * 6 ^ m) a = a1 at hI hadd
          by_cases z : S p = 0
          · have hid : foC (VV S T K) ((6 * q + p) * 6 ^ m) (6 ^ m) a1 = a1 := foC_id _ (fun c h1 h2 => by
              have hno : okB S (dgR T c) T = false := by
                cases hb : okB S (dgR T c) T with
                | false => rfl
                | true =>
                  exfalso
                  have := (okB_t T).mp hb t htT
                  have e : dgR (t + 1 + m) c t = dgR (t + 1) (6 * q + p) t := dgR_pre m c t (by omega) (hblk c h1 h2)
                  rw [show t + 1 + m = T by omega, dgR_new hp6] at e
                  rw [e, tn_c] at this
                  exact this z
              unfold VV
              rw [hno]
              have := hI.2.2.1.2.2.1
              simp
              omega)
            obtain ⟨M', k1, k2, k3⟩ := jh (p + 1) n M1 (by omega) (by omega) hf (by rw [hadd, hid]; exact hI)
            refine ⟨M', ?_, k2, k3⟩
            simp (disch := omega) only [f_X4_settle_50, gd_t, if_neg, est, bnd_s, if_pos, reduceIte, z]
            exact k1
          · obtain ⟨v1, v2, v3, v4⟩ := id hI
            have hold : ∀ i, i < t → dgR (t + 1) (6 * q + p) i = dgR t q i := fun i hi => dgR_old hi hp6
            have hws : ∀ r, wsT (t + 1) K (dgR (t + 1) (6 * q + p)) r = wsT t K (dgR t q) r + (if (p : Int) = (r : Int) then wts (K t) else 0) := fun r => by
              rw [wsT_1 hold r, dgR_new hp6]
            have hw1 := fun r => wsT_in (show t + 1 ≤ 5 by omega) K (dgR (t + 1) (6 * q + p)) r
            have f2 : ∀ o, o ≠ ch 49 1 → o ≠ ch (ch 49 0) 1 → (st (st M1 (ch 49 1) t (p : Int)) (ch (ch 49 0) 1) p (wsT t K (dgR t q) p + wts (K t))) o = M1 o := fun o x y => by rw [st_ne _ _ _ _ y, st_ne _ _ _ _ x]
            have hI2 : WI (st (st M1 (ch 49 1) t (p : Int)) (ch (ch 49 0) 1) p (wsT t K (dgR t q) p + wts (K t))) S T (t + 1) K (6 * q + p) a1 := by
              refine ⟨⟨fun r hr => by rw [f2 _ (by decide) (by decide)]; exact v1.1 r hr, fun r hr => ⟨?_, hw1 r⟩⟩, fun i hi => ?_, ?_, ?_⟩
              · rw [st_same, hws]
                by_cases e : r = p
                · subst e; simp
                · rw [if_neg (show ¬ (p : Int) = (r : Int) by omega)]
                  simp only [if_neg e]
                  rw [st_ne _ _ _ _ (by decide), Int.add_zero]
                  exact (v1.2 r hr).1
              · rw [st_ne _ _ _ _ (by decide), st_same]
                by_cases e : i = t
                · subst e; simp only [reduceIte]; rw [dgR_new hp6]
                · simp only [if_neg e]; rw [hold i (by omega)]; exact v2 i (by omega)
              · rw [f2 _ (by decide) (by decide)]; exact v3
              · rw [f2 _ (by decide) (by decide)]; exact v4
            have hf2 : WF M1 (st (st M1 (ch 49 1) t (p : Int)) (ch (ch 49 0) 1) p (wsT t K (dgR t q) p + wts (K t))) := fun o ho => f2 o (nsc ho (by decide)) (nsc ho (by decide))
            obtain ⟨M3, k1, k2, k3⟩ := ih d (t + 1) (6 * q + p) a1 _ (by omega) (by omega) (fun i hi => by
              rcases (show i < t ∨ i = t by omega) with e | rfl
              · rw [hold i e]; exact hok i e
              · rw [dgR_new hp6, tn_c]; exact z) (WF.st hSt (hf.tr hf2)) hI2
            obtain ⟨x1, x2, x3, x4⟩ := k2
            have lp3 : M3 (ch (ch 49 0) 1) p = wsT t K (dgR t q) p + wts (K t) := by rw [(x1.2 p hp6).1, hws]; simp
            have f4 : ∀ o, o ≠ ch (ch 49 0) 1 → (st M3 (ch (ch 49 0) 1) p (wsT t K (dgR t q) p)) o = M3 o := fun o x => st_ne _ _ _ _ x
            have hI4 : WI (st M3 (ch (ch 49 0) 1) p (wsT t K (dgR t q) p)) S T t K q (foC (VV S T K) ((6 * q + p) * 6 ^ m) (6 ^ m) a1) := by
              refine ⟨⟨fun r hr => by rw [f4 _ (by decide)]; exact x1.1 r hr, fun r hr => ⟨?_, (v1.2 r hr).2⟩⟩, fun i hi => ?_, ?_, ?_⟩
              · rw [st_same]
                by_cases e : r = p
                · subst e; simp
                · simp only [if_neg e]
                  rw [(x1.2 r hr).1, hws, if_neg (show ¬ (p : Int) = (r : Int) by omega), Int.add_zero]
              · rw [f4 _ (by decide), x2 i (by omega), hold i hi]
              · rw [f4 _ (by decide)]; exact x3
              · rw [f4 _ (by decide)]; exact x4
            obtain ⟨M', y1, y2, y3⟩ := jh (p + 1) n (st M3 (ch (ch 49 0) 1) p (wsT t K (dgR t q) p)) (by omega) (by omega) (((hf.tr hf2).tr k3).tr (fun o ho => f4 o (nsc ho (by decide)))) (by rw [hadd]; exact hI4)
            refine ⟨M', ?_, y2, y3⟩
            have g1 : (st M1 (ch 49 1) t (p : Int)) (ch (ch 49 0) 1) p = wsT t K (dgR t q) p := by rw [st_ne _ _ _ _ (by decide)]; exact (v1.2 p hp6).1
            have g2 : (t : Int) + 1 = ((t + 1 : Nat) : Int) := by omega
            have g3 : wsT t K (dgR t q) p + wts (K t) - wts (K t) = wsT t K (dgR t q) p := by omega
            simp (disch := omega) only [f_X4_settle_50, gd_t, if_neg, est, bnd_s, if_pos, reduceIte, tn_c, g1, g2, k1, bnv_s, lp3, g3]
            exact y1
      obtain ⟨M', k1, k2, k3⟩ := lp 6 0 N M rfl (by omega) (fun _ _ => rfl) (by rw [Nat.zero_mul]; exact hW)
      refine ⟨M', ?_, by rw [Nat.pow_succ, Nat.mul_comm (6 ^ m) 6, show q * (6 * 6 ^ m) = q * 6 ^ (m + 1) by rw [Nat.pow_succ, Nat.mul_comm (6 ^ m) 6]]; exact k2, k3⟩
      simp (disch := omega) only [f_X4_settle, e1, bnd_s, gd_t, w3, if_pos, if_neg, t3, hwt]
      exact k1
    · have hid : foC (VV S T K) (q * 6 ^ (m + 1)) (6 ^ (m + 1)) a = a := foC_id _ (fun cc h1 h2 => by
        have h6 : 0 < 6 ^ (m + 1) := Nat.pow_pos (by decide)
        have := VV_le (S := S) (K := K) (T := T) (t := t) (m := m + 1) (q := q) (c := cc) hT5 (fun p hp => (hS6 p hp).1) ht (Nat.div_eq_of_lt_le h1 (by rw [Nat.succ_mul]; exact h2))
        omega)
      refine ⟨M, ?_, by rw [hid]; exact hW, fun _ _ => rfl⟩
      simp (disch := omega) only [f_X4_settle, e1, bnd_s, gd_t, w3, if_neg]
