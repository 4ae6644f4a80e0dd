def updR (H : Row) (t : Nat) (v : Int) : Row := fun j => if j = t then v else H j
theorem sumTo_upd {f g : Nat → Int} {t : Nat} : ∀ n, t < n → (∀ i, i < n → i ≠ t → g i = f i) → sumTo g n = sumTo f n - f t + g t
  | 0, h, _ => by omega
  | n + 1, h, hg => by
    show sumTo g n + g n = sumTo f n + f n - f t + g t
    rcases (show t < n ∨ t = n by omega) with q | rfl
    · rw [sumTo_upd n q (fun i hi hne => hg i (by omega) hne), hg n (by omega) (by omega)]
      omega
    · rw [sumTo_congr t (fun i hi => hg i (by omega) (by omega))]
      omega
theorem wsT_move {T : Nat} {K H : Row} {t : Nat} (ht : t < T) (v : Int) (q : Nat) : wsT T K (updR H t v) q = wsT T K H q - (if H t = (q : Int) then wts (K t) else 0) + (if v = (q : Int) then wts (K t) else 0) := by
  unfold wsT
  rw [sumTo_upd (f := fun t => if H t = (q : Int) then wts (K t) else 0) T ht (fun i _ hne => by simp [updR, hne])]
  simp [updR]
theorem wsT_push {T : Nat} {K H : Row} (k v : Int) (q : Nat) : wsT (T + 1) (updR K T k) (updR H T v) q = wsT T K H q + (if v = (q : Int) then wts k else 0) := by
  unfold wsT
  show sumTo _ T + _ = _
  rw [sumTo_congr T (g := fun t => if H t = (q : Int) then wts (K t) else 0) (fun i hi => by simp [updR, show i ≠ T by omega])]
  simp [updR]
theorem rehouse_s {N o : Nat} {M : Mem} {S : Row} {T : Nat} {K H : Row} (hN : 10 ≤ N) (h : StOK M o S T K H) {t p : Nat} (ht : t < T) (hp : p < 6) :
    (S p = 0 ∨ cutN S (H t) = 1 → f_X6_rehouse N o (t : Int) (p : Int) M = some (0, M)) ∧
    (¬ (S p = 0 ∨ cutN S (H t) = 1) → ∃ M', f_X6_rehouse N o (t : Int) (p : Int) M = some (1, M') ∧ StOK M' o S T K (updR H t (p : Int)) ∧ ∀ a, a ≠ ch (ch o 0) 1 → a ≠ ch o 2 → M' a = M a) := by
  obtain ⟨⟨k1, k2, k3⟩, k4, k5, k6⟩ := h.2.2.2 t ht
  have h2 := h.2.1
  have hR := h.2.2.1
  refine ⟨fun hc => ?_, fun hc => ?_⟩
  · by_cases h0 : S p = 0
    · simp (disch := omega) only [f_X6_rehouse, gd_t, if_neg, if_pos, isHere_s h ht, bnd_s, stands_s hR hp, h0, reduceIte]
    · have hc : cutN S (H t) = 1 := hc.resolve_left h0
      simp (disch := omega) only [f_X6_rehouse, gd_t, if_neg, if_pos, isHere_s h ht, bnd_s, stands_s hR hp, reduceIte, isCutOff_s hN h ht, hc]
  · have h0 : ¬ S p = 0 := fun q => hc (Or.inl q)
    have hc : cutN S (H t) = 0 := (cutN_01 S (H t)).resolve_right (fun q => hc (Or.inr q))
    have e : f_X6_rehouse N o (t : Int) (p : Int) M = some (1, st (st (st M (ch (ch o 0) 1) (H t).toNat (M (ch (ch o 0) 1) (H t).toNat - wts (K t))) (ch (ch o 0) 1) p ((st M (ch (ch o 0) 1) (H t).toNat (M (ch (ch o 0) 1) (H t).toNat - wts (K t))) (ch (ch o 0) 1) p + wts (K t))) (ch o 2) t (p : Int)) := by
      simp (disch := omega) only [f_X6_rehouse, f_X6_rehouse_69, gd_t, if_neg, if_pos, isHere_s h ht, bnd_s, stands_s hR hp, reduceIte, isCutOff_s hN h ht, hc, weightOf_s h ht, tn_c, k4]
    have n1 : ch (ch o 0) 1 ≠ ch o 2 := by unfold ch; omega
    have n2 : ch (ch o 0) 0 ≠ ch o 2 := by unfold ch; omega
    have n3 : ch (ch o 0) 0 ≠ ch (ch o 0) 1 := by unfold ch; omega
    have n4 : o ≠ ch (ch o 0) 1 := by unfold ch; omega
    have n5 : o ≠ ch o 2 := by unfold ch; omega
    have n6 : ch o 1 ≠ ch (ch o 0) 1 := by unfold ch; omega
    have n7 : ch o 1 ≠ ch o 2 := by unfold ch; omega
    have n8 : ch o 2 ≠ ch (ch o 0) 1 := by unfold ch; omega
    refine ⟨_, e, ⟨?_, h2, ⟨fun q hq => ?_, fun q hq => ?_⟩, fun i hi => ⟨?_, ?_⟩⟩, fun a ha hb => ?_⟩
    · rw [st_ne _ _ _ _ n5, st_ne _ _ _ _ n4, st_ne _ _ _ _ n4]; exact h.1
    · rw [st_ne _ _ _ _ n2, st_ne _ _ _ _ n3, st_ne _ _ _ _ n3]; exact hR.1 q hq
    · refine ⟨?_, wsT_in h2 _ _ _⟩
      rw [st_ne _ _ _ _ n1, st_same, wsT_move ht, st_same]
      have hl := (hR.2 q hq).1
      have hl2 := (hR.2 (H t).toNat (by omega)).1
      have hl3 := (hR.2 p hp).1
      by_cases c1 : q = p
      · subst c1
        by_cases c2 : q = (H t).toNat
        · have c3 : H t = (q : Int) := by omega
          simp only [if_pos c2, if_pos c3, if_true]
          rw [← c2, hl]
        · have c3 : ¬ H t = (q : Int) := by omega
          simp only [if_true, if_neg c2, if_neg c3, hl]
          omega
      · have c4 : ¬ (p : Int) = (q : Int) := by omega
        simp only [if_neg c1, if_neg c4]
        by_cases c2 : q = (H t).toNat
        · have c3 : H t = (q : Int) := by omega
          rw [if_pos c2, if_pos c3, ← c2, hl]; omega
        · have c3 : ¬ H t = (q : Int) := by omega
          rw [if_neg c2, if_neg c3, hl]; omega
    · rw [st_ne _ _ _ _ n7, st_ne _ _ _ _ n6, st_ne _ _ _ _ n6]; exact (h.2.2.2 i hi).1
    · rw [st_same, st_ne _ _ _ _ n8, st_ne _ _ _ _ n8]
      unfold updR
      by_cases c : i = t
      · simp only [if_pos c, true_and]; omega
      · simp only [if_neg c]; exact (h.2.2.2 i hi).2
    · rw [st_ne _ _ _ _ hb, st_ne _ _ _ _ ha, st_ne _ _ _ _ ha]
theorem liveDay_s {N o : Nat} {M : Mem} {S : Row} {T : Nat} {K H : Row} (hN : 10 ≤ N) (h : StOK M o S T K H) :
    ∃ M', f_X6_liveDay N o M = some (dayF S (wsT T K H), M') ∧ StOK M' o (dayR S (wsT T K H)) T K H ∧ M' o 6 = M o 6 + 1 ∧ M' o 7 = M o 7 + dayF S (wsT T K H) ∧ (∀ j, j ≠ 6 → j ≠ 7 → M' o j = M o j) ∧ ∀ a, a ≠ ch (ch o 0) 0 → a ≠ ch (ch o 0) 2 → a ≠ o → M' a = M a := by
  have hR := h.2.2.1
  obtain ⟨M1, e1, f1, d1⟩ := passDay_s hN hR
  have m1 : o ≠ ch (ch o 0) 0 := by unfold ch; omega
  have m2 : o ≠ ch (ch o 0) 2 := by unfold ch; omega
  have m3 : ch (ch o 0) 1 ≠ ch (ch o 0) 0 := by unfold ch; omega
  have m4 : ch (ch o 0) 1 ≠ ch (ch o 0) 2 := by unfold ch; omega
  have m5 : ch (ch o 0) 1 ≠ o := by unfold ch; omega
  have m6 : ch o 1 ≠ ch (ch o 0) 0 := by unfold ch; omega
  have m7 : ch o 1 ≠ ch (ch o 0) 2 := by unfold ch; omega
  have m8 : ch o 2 ≠ ch (ch o 0) 0 := by unfold ch; omega
  have m9 : ch o 2 ≠ ch (ch o 0) 2 := by unfold ch; omega
  have m10 : ch o 1 ≠ o := by unfold ch; omega
  have m11 : ch o 2 ≠ o := by unfold ch; omega
  have m12 : ch (ch o 0) 0 ≠ o := by unfold ch; omega
  have fo : M1 o = M o := f1 o m1 m2
  refine ⟨_, (by simp only [f_X6_liveDay, e1, bnd_s]; rfl), ⟨?_, h.2.1, ⟨fun q hq => ?_, fun q hq => ?_⟩, fun i hi => ?_⟩, ?_, ?_, fun j h6 h7 => ?_, fun a ha hb hc => ?_⟩
  · simp [st_same, fo, h.1]
  · rw [st_ne _ _ _ _ m12, st_ne _ _ _ _ m12]
    have := dayR_in (S := S) (L := wsT T K H) (p := q) (hR.1 q hq).2 (hR.2 q hq).2
    have h3 := (hR.1 q hq).2
    exact ⟨d1 q hq, by omega, by omega⟩
  · rw [st_ne _ _ _ _ m5, st_ne _ _ _ _ m5, f1 _ m3 m4]; exact hR.2 q hq
  · rw [st_ne _ _ _ _ m10, st_ne _ _ _ _ m10, st_ne _ _ _ _ m11, st_ne _ _ _ _ m11, f1 _ m6 m7, f1 _ m8 m9]; exact h.2.2.2 i hi
  · simp [st_same, fo]
  · simp [st_same, fo]
  · simp [st_same, fo, h6, h7]
  · rw [st_ne _ _ _ _ hc, st_ne _ _ _ _ hc]; exact f1 a ha hb
theorem welcome_s {N o : Nat} {M : Mem} {S : Row} {T : Nat} {K H : Row} (h : StOK M o S T K H) (hT : T < 5) {k : Int} (hk : 0 ≤ k ∧ k ≤ 4) {p : Nat} (hp : p < 6) (h0 : ¬ S p = 0) :
    ∃ M', f_X6_welcome N o k (p : Int) M = some M' ∧ StOK M' o S (T + 1) (updR K T k) (updR H T (p : Int)) ∧ (∀ j, j ≠ 3 → M' o j = M o j) ∧ ∀ a, a ≠ ch (ch o 0) 1 → a ≠ ch o 1 → a ≠ ch o 2 → a ≠ o → M' a = M a := by
  have hR := h.2.2.1
  have h1 := h.1
  have m1 : o ≠ ch o 1 := by unfold ch; omega
  have m2 : o ≠ ch o 2 := by unfold ch; omega
  have m3 : o ≠ ch (ch o 0) 1 := by unfold ch; omega
  have m4 : ch (ch o 0) 1 ≠ ch o 1 := by unfold ch; omega
  have m5 : ch (ch o 0) 1 ≠ ch o 2 := by unfold ch; omega
  have m6 : ch o 1 ≠ ch o 2 := by unfold ch; omega
  have m7 : ch (ch o 0) 0 ≠ ch o 1 := by unfold ch; omega
  have m8 : ch (ch o 0) 0 ≠ ch o 2 := by unfold ch; omega
  have m9 : ch (ch o 0) 0 ≠ ch (ch o 0) 1 := by unfold ch; omega
  have m10 : ch (ch o 0) 0 ≠ o := by unfold ch; omega
  have e : f_X6_welcome N o k (p : Int) M = some (st (st (st (st M (ch o 1) T k) (ch o 2) T (p : Int)) (ch (ch o 0) 1) p (M (ch (ch o 0) 1) p + wts k)) o 3 ((T : Int) + 1)) := by
    simp (disch := omega) only [f_X6_welcome, gd_t, if_neg, if_pos, isKind_s hk, bnd_s, stands_s hR hp, reduceIte, h1, tn_c, st_ne _ _ _ _ m1, st_ne _ _ _ _ m2, st_ne _ _ _ _ m3, st_ne _ _ _ _ m4, st_ne _ _ _ _ m5]
  refine ⟨_, e, ⟨?_, by omega, ⟨fun q hq => ?_, fun q hq => ?_⟩, fun i hi => ⟨?_, ?_⟩⟩, fun j hj => ?_, fun a ha hb hc hd => ?_⟩
  · simp [st_same]
  · rw [st_ne _ _ _ _ m10, st_ne _ _ _ _ m9, st_ne _ _ _ _ m8, st_ne _ _ _ _ m7]; exact hR.1 q hq
  · refine ⟨?_, wsT_in (by omega) _ _ _⟩
    rw [st_ne _ _ _ _ (Ne.symm m3), st_same, wsT_push, st_ne _ _ _ _ m5, st_ne _ _ _ _ m4]
    have hl := (hR.2 q hq).1
    by_cases c : q = p
    · subst c; simp only [if_true, hl]
    · have c4 : ¬ (p : Int) = (q : Int) := by omega
      simp only [if_neg c, if_neg c4, hl]; omega
  · rw [st_ne _ _ _ _ (Ne.symm m1), st_ne _ _ _ _ (Ne.symm m4), st_ne _ _ _ _ m6, st_same]
    unfold updR
    by_cases c : i = T
    · simp only [if_pos c, true_and]; exact hk
    · simp only [if_neg c]; exact (h.2.2.2 i (by omega)).1
  · rw [st_ne _ _ _ _ (Ne.symm m2), st_ne _ _ _ _ (Ne.symm m5), st_same, st_ne _ _ _ _ (Ne.symm m6)]
    unfold updR
    by_cases c : i = T
    · simp only [if_pos c, true_and]; omega
    · simp only [if_neg c]; exact (h.2.2.2 i (by omega)).2
  · rw [st_same]; simp only [if_neg hj]; rw [st_ne _ _ _ _ m3, st_ne _ _ _ _ m2, st_ne _ _ _ _ m1]
  · rw [st_ne _ _ _ _ hd, st_ne _ _ _ _ ha, st_ne _ _ _ _ hc, st_ne _ _ _ _ hb]
/-! the way out -/
def cmr (S : Row) (T : Nat) (H : Row) (m : Int) : Int := sumTo (fun t => if cutN S (H t) = 0 ∧ H t + 1 = m then 1 else 0) T
theorem cmr_in {S : Row} {T : Nat} (hT : T ≤ 5) (H : Row) (m : Int) : 0 ≤ cmr S T H m ∧ cmr S T H m ≤ 5 := by
  have h := sumTo_in (f := fun t => if cutN S (H t) = 0 ∧ H t + 1 = m then 1 else 0) (a := 0) (b := 1) T (fun i _ => by split <;> omega)
  unfold cmr
  omega
theorem popc_dw {H : Row} {p : Int} {T : Nat} (hT : T ≤ 5) : ((popc (dwN H p T) : Nat) : Int) = sumTo (fun t => if H t = p then 1 else 0) T := by
  have hb : ∀ t : Nat, (if H t = p then (1 : Int) else 0) = ((if H t = p then (1 : Nat) else 0 : Nat) : Int) := fun t => by split <;> rfl
  obtain ⟨b0, e0, c0⟩ : ∃ b, b = (if H 0 = p then 1 else 0) ∧ b ≤ 1 := ⟨_, rfl, by split <;> omega⟩
  obtain ⟨b1, e1, c1⟩ : ∃ b, b = (if H 1 = p then 1 else 0) ∧ b ≤ 1 := ⟨_, rfl, by split <;> omega⟩
  obtain ⟨b2, e2, c2⟩ : ∃ b, b = (if H 2 = p then 1 else 0) ∧ b ≤ 1 := ⟨_, rfl, by split <;> omega⟩
  obtain ⟨b3, e3, c3⟩ : ∃ b, b = (if H 3 = p then 1 else 0) ∧ b ≤ 1 := ⟨_, rfl, by split <;> omega⟩
  obtain ⟨b4, e4, c4⟩ : ∃ b, b = (if H 4 = p then 1 else 0) ∧ b ≤ 1 := ⟨_, rfl, by split <;> omega⟩
  rcases (show T = 0 ∨ T = 1 ∨ T = 2 ∨ T = 3 ∨ T = 4 ∨ T = 5 by omega) with rfl | rfl | rfl | rfl | rfl | rfl <;>
  (simp only [dwN, sumTo, hb, ← e0, ← e1, ← e2, ← e3, ← e4, popc]; omega)
theorem comersFrom_s {N o : Nat} {M : Mem} {S : Row} {T : Nat} {K H : Row} (hN : 10 ≤ N) (h : StOK M o S T K H) {p : Int} (hp : 0 ≤ p ∧ p ≤ 100) : f_X6_comersFrom N o p M = some (cmr S T H (p + 1), M) := by
  have h6 := ffal_le6 S
  have hl := dwN_lt H p T
  have hl2 := p2_5 h.2.1
  by_cases hc : (ffal S : Int) ≤ p
  · have hz : cmr S T H (p + 1) = 0 := by
      unfold cmr
      rw [sumTo_congr T (g := fun _ => 0) (fun i hi => by
        rw [if_neg]
        rintro ⟨h1, h2⟩
        unfold cutN at h1
        rw [if_pos (by omega)] at h1
        omega)]
      have := sumTo_in (f := fun _ => 0) (a := 0) (b := 0) T (fun i _ => by omega)
      omega
    rw [hz]
    simp (disch := omega) only [f_X6_comersFrom, gd_t, if_neg, if_pos, firstFallen_s hN h.2.2.1, bnd_s]
  · have hz : cmr S T H (p + 1) = ((popc (dwN H p T) : Nat) : Int) := by
      rw [popc_dw h.2.1]
      unfold cmr
      refine sumTo_congr T (fun i hi => ?_)
      by_cases hh : H i = p
      · have : cutN S (H i) = 0 := by unfold cutN; rw [if_neg (by omega)]
        rw [if_pos ⟨this, by omega⟩, if_pos hh]
      · rw [if_neg (by omega), if_neg hh]
    rw [hz]
    simp (disch := omega) only [f_X6_comersFrom, gd_t, if_neg, if_pos, firstFallen_s hN h.2.2.1, bnd_s, dwellers_s hN h (p := p) (by omega), bitCount_s (b := dwN H p T) (by omega)]
def outS (cm : Int → Int) (cg : Int) : Nat → Int → Int → Int → Int
  | 0, _, _, m => m
  | j + 1, b, w, m => if b ≤ 0 then m else outS cm cg j (b - (if cg < w then cg else w)) (w - (if cg < w then cg else w) + cm (m + 1)) (m + 1)
def outV (S : Row) (T : Nat) (H : Row) (cg : Int) : Int := outS (cmr S T H) cg 11 ((T : Int) - cutC S T H) 0 0
theorem minutes_s {N o : Nat} {M : Mem} {S : Row} {T : Nat} {K H : Row} {cg : Int} (hN : 10 ≤ N) (h : StOK M o S T K H) (hg : M o 5 = cg) (hg2 : 0 ≤ cg ∧ cg ≤ 9) : ∀ (j k n : Nat) (b w : Int), k + j = 11 → j < n → -20 * (k : Int) ≤ b → b ≤ 5 → 0 ≤ w → w ≤ 5 * (k : Int) → f_X6_minutesOut_14 N o n b w (k : Int) M = some (outS (cmr S T H) cg j b w (k : Int), M) := by
  intro j
  induction j with
  | zero =>
    intro k n b w hk hn hb1 hb2 hw1 hw2
    obtain ⟨n, rfl⟩ : ∃ n', n = n' + 1 := ⟨n - 1, by omega⟩
    by_cases hb : b ≤ 0
    · simp (disch := omega) only [f_X6_minutesOut_14, gd_t, if_pos, outS]
    · simp (disch := omega) only [f_X6_minutesOut_14, gd_t, if_neg, if_pos, outS]
  | succ j ih =>
    intro k n b w hk hn hb1 hb2 hw1 hw2
    obtain ⟨n, rfl⟩ : ∃ n', n = n' + 1 := ⟨n - 1, by omega⟩
    by_cases hb : b ≤ 0
    · simp (disch := omega) only [f_X6_minutesOut_14, gd_t, if_pos, outS]
    · have hc := cmr_in (S := S) h.2.1 H ((k : Int) + 1)
      have e1 : ((k : Int) + 1) - 1 = (k : Int) := by omega
      have e2 : ((k + 1 : Nat) : Int) = (k : Int) + 1 := by omega
      have ih := ih (k + 1) n (b - (if cg < w then cg else w)) (w - (if cg < w then cg else w) + cmr S T H ((k : Int) + 1)) (by omega) (by omega) (by split <;> omega) (by split <;> omega) (by split <;> omega) (by split <;> omega)
      rw [e2] at ih
      simp (disch := omega) only [f_X6_minutesOut_14, gd_t, if_neg, hg, min_s (x := w) (y := cg) (by omega) (by omega), bnd_s, e1, comersFrom_s hN h (p := (k : Int)) (by omega), outS]
      exact ih
theorem cutC_in {S : Row} {T : Nat} (H : Row) : 0 ≤ cutC S T H ∧ cutC S T H ≤ (T : Int) := by
  have h := sumTo_in (f := fun t => cutN S (H t)) (a := 0) (b := 1) T (fun i _ => by rcases cutN_01 S (H i) with q | q <;> omega)
  unfold cutC
  omega
theorem minutesOut_s {N o : Nat} {M : Mem} {S : Row} {T : Nat} {K H : Row} {cg : Int} (hN : 20 ≤ N) (h : StOK M o S T K H) (hg : M o 5 = cg) (hg2 : 0 ≤ cg ∧ cg ≤ 9) : f_X6_minutesOut N o M = some (outV S T H cg, M) := by
  have hc := cutC_in (S := S) (T := T) H
  have h2 := h.2.1
  have e := minutes_s (N := N) (by omega) h hg hg2 11 0 N ((T : Int) - cutC S T H) 0 rfl (by omega) (by omega) (by omega) (by omega) (by omega)
  simp only [f_X6_minutesOut, cutOffs_s (N := N) (by omega) h, bnd_s, h.1]
  exact e
/-! copies -/
def cp1 (A : Mem) (d s k : Nat) : Mem := st A d k (A s k)
theorem cp1_ne {A : Mem} {d s k a : Nat} (h : a ≠ d) : cp1 A d s k a = A a := st_ne _ _ _ _ h
theorem cp1_d {A : Mem} {d s k j : Nat} : cp1 A d s k d j = if j = k then A s k else A d j := by unfold cp1; rw [st_same]
def cpR (M : Mem) (d s : Nat) : Mem := cpy (cpy (cpy (cpy M (ch (ch s 0) 0) (ch (ch d 0) 0) 6) (ch (ch s 0) 1) (ch (ch d 0) 1) 6) (ch s 1) (ch d 1) 5) (ch s 2) (ch d 2) 5
theorem copyFrom_e {N d s : Nat} {M : Mem} : f_X6_copyFrom N d s M = some (cp1 (cp1 (cp1 (cp1 (cp1 (cp1 (cpR M d s) d s 3) d s 4) d s 5) d s 6) d s 7) d s 8) := rfl
def pairOK (d s : Nat) : Prop := (d = 48 ∧ s = 44) ∨ (d = 46 ∧ s = 44) ∨ (d = 44 ∧ s = 46)
theorem copyFrom_s {N d s : Nat} {M : Mem} (hp : pairOK d s) : ∃ M', f_X6_copyFrom N d s M = some M' ∧ (∀ S T K H, StOK M s S T K H → StOK M' d S T K H) ∧ (∀ j, 3 ≤ j → j ≤ 8 → M' d j = M s j) ∧ ∀ a, a ≠ d → a ≠ ch d 1 → a ≠ ch d 2 → a ≠ ch (ch d 0) 0 → a ≠ ch (ch d 0) 1 → M' a = M a := by
  refine ⟨_, copyFrom_e, ?_⟩
  have nd : s ≠ d := by unfold pairOK at hp; omega
  have q1 : ∀ a, a ≠ d → cp1 (cp1 (cp1 (cp1 (cp1 (cp1 (cpR M d s) d s 3) d s 4) d s 5) d s 6) d s 7) d s 8 a = cpR M d s a := fun a ha => by
    rw [cp1_ne ha, cp1_ne ha, cp1_ne ha, cp1_ne ha, cp1_ne ha, cp1_ne ha]
  have q2 : cpR M d s s = M s := by
    unfold pairOK at hp
    unfold cpR
    rcases hp with ⟨rfl, rfl⟩ | ⟨rfl, rfl⟩ | ⟨rfl, rfl⟩ <;> simp [cpy, ch]
  have q3 : ∀ j, 3 ≤ j → j ≤ 8 → cp1 (cp1 (cp1 (cp1 (cp1 (cp1 (cpR M d s) d s 3) d s 4) d s 5) d s 6) d s 7) d s 8 d j = M s j := fun j h1 h2 => by
    simp only [cp1_d, cp1_ne nd, q2]
    rcases (show j = 3 ∨ j = 4 ∨ j = 5 ∨ j = 6 ∨ j = 7 ∨ j = 8 by omega) with rfl | rfl | rfl | rfl | rfl | rfl <;> simp
  generalize cp1 (cp1 (cp1 (cp1 (cp1 (cp1 (cpR M d s) d s 3) d s 4) d s 5) d s 6) d s 7) d s 8 = M' at q1 q3
  refine ⟨fun S T K H h => ⟨?_, h.2.1, ⟨fun q hq => ?_, fun q hq => ?_⟩, fun i hi => ?_⟩, q3, fun a h1 h2 h3 h4 h5 => ?_⟩
  · rw [q3 3 (by omega) (by omega)]; exact h.1
  · rw [q1 _ (by unfold ch; omega)]
    have := h.2.2.1.1 q hq
    unfold pairOK at hp
    unfold cpR
    rcases hp with ⟨rfl, rfl⟩ | ⟨rfl, rfl⟩ | ⟨rfl, rfl⟩ <;> simp [cpy, ch, hq] at this ⊢ <;> exact this
  · rw [q1 _ (by unfold ch; omega)]
    have := h.2.2.1.2 q hq
    unfold pairOK at hp
    unfold cpR
    rcases hp with ⟨rfl, rfl⟩ | ⟨rfl, rfl⟩ | ⟨rfl, rfl⟩ <;> simp [cpy, ch, hq] at this ⊢ <;> exact this
  · rw [q1 _ (by unfold ch; omega), q1 _ (by unfold ch; omega)]
    have hi5 : i < 5 := Nat.lt_of_lt_of_le hi h.2.1
    have := h.2.2.2 i hi
    unfold pairOK at hp
    unfold cpR
    rcases hp with ⟨rfl, rfl⟩ | ⟨rfl, rfl⟩ | ⟨rfl, rfl⟩ <;> simp [cpy, ch, hi5] at this ⊢ <;> exact this
  · rw [q1 a h1]
    unfold cpR
    rw [cpy_ne _ _ _ _ h3, cpy_ne _ _ _ _ h2, cpy_ne _ _ _ _ h5, cpy_ne _ _ _ _ h4]
