/-! the street -/
def wsT (T : Nat) (K H : Row) : Row := fun p => sumTo (fun t => if H t = (p : Int) then wts (K t) else 0) T
theorem wts_in (k : Int) : 0 ≤ wts k ∧ wts k ≤ 4 := by unfold wts; repeat' split
                                                       all_goals omega
theorem brs_in (k : Int) : 1 ≤ brs k ∧ brs k ≤ 3 := by unfold brs; repeat' split
                                                       all_goals omega
theorem wsT_in {T : Nat} (hT : T ≤ 5) (K H : Row) (p : Nat) : 0 ≤ wsT T K H p ∧ wsT T K H p ≤ 20 := by
  have h := sumTo_in (f := fun t => if H t = (p : Int) then wts (K t) else 0) (a := 0) (b := 4) T (fun i _ => by
    have := wts_in (K i)
    split <;> omega)
  unfold wsT
  omega
def StOK (M : Mem) (o : Nat) (S : Row) (T : Nat) (K H : Row) : Prop :=
  M o 3 = (T : Int) ∧ T ≤ 5 ∧ RoofOK M (ch o 0) S (wsT T K H) ∧ ∀ t, t < T → (M (ch o 1) t = K t ∧ 0 ≤ K t ∧ K t ≤ 4) ∧ M (ch o 2) t = H t ∧ 0 ≤ H t ∧ H t ≤ 5
theorem isHere_s {N o : Nat} {M : Mem} {S : Row} {T : Nat} {K H : Row} (h : StOK M o S T K H) {t : Nat} (ht : t < T) : f_X6_isHere N o (t : Int) M = some (1, M) := by
  obtain ⟨h1, h2, -⟩ := h
  simp (disch := omega) only [f_X6_isHere, gd_t, if_neg, h1]
theorem isKind_s {N : Nat} {M : Mem} {k : Int} (h : 0 ≤ k ∧ k ≤ 4) : f_X7_isKind N k M = some (1, M) := by
  simp (disch := omega) only [f_X7_isKind, gd_t, if_neg]
theorem weightOf_s {N o : Nat} {M : Mem} {S : Row} {T : Nat} {K H : Row} (h : StOK M o S T K H) {t : Nat} (ht : t < T) : f_X6_weightOf N o (t : Int) M = some (wts (K t), M) := by
  obtain ⟨⟨k1, k2, k3⟩, k4, k5, k6⟩ := h.2.2.2 t ht
  have h2 := h.2.1
  simp (disch := omega) only [f_X6_weightOf, gd_t, if_neg, isHere_s h ht, bnd_s, tn_c, k1, isKind_s ⟨k2, k3⟩]
theorem breathOf_s {N o : Nat} {M : Mem} {S : Row} {T : Nat} {K H : Row} (h : StOK M o S T K H) {t : Nat} (ht : t < T) : f_X6_breathOf N o (t : Int) M = some (brs (K t), M) := by
  obtain ⟨⟨k1, k2, k3⟩, k4, k5, k6⟩ := h.2.2.2 t ht
  have h2 := h.2.1
  simp (disch := omega) only [f_X6_breathOf, gd_t, if_neg, isHere_s h ht, bnd_s, tn_c, k1, isKind_s ⟨k2, k3⟩]
def cutN (S : Row) (h : Int) : Int := if (ffal S : Int) ≤ h then 1 else 0
theorem cutN_01 (S : Row) (h : Int) : cutN S h = 0 ∨ cutN S h = 1 := by unfold cutN; split <;> simp
theorem isCutOff_s {N o : Nat} {M : Mem} {S : Row} {T : Nat} {K H : Row} (hN : 10 ≤ N) (h : StOK M o S T K H) {t : Nat} (ht : t < T) : f_X6_isCutOff N o (t : Int) M = some (cutN S (H t), M) := by
  obtain ⟨⟨k1, k2, k3⟩, k4, k5, k6⟩ := h.2.2.2 t ht
  have h2 := h.2.1
  have h6 := ffal_le6 S
  unfold cutN
  by_cases hc : (ffal S : Int) ≤ H t
  · simp (disch := omega) only [f_X6_isCutOff, gd_t, if_neg, if_pos, isHere_s h ht, bnd_s, tn_c, k4, firstFallen_s hN h.2.2.1]
  · simp (disch := omega) only [f_X6_isCutOff, gd_t, if_neg, if_pos, isHere_s h ht, bnd_s, tn_c, k4, firstFallen_s hN h.2.2.1]
def cutC (S : Row) (T : Nat) (H : Row) : Int := sumTo (fun t => cutN S (H t)) T
theorem cutOffs_s {N o : Nat} {M : Mem} {S : Row} {T : Nat} {K H : Row} (hN : 10 ≤ N) (h : StOK M o S T K H) : f_X6_cutOffs N o M = some (cutC S T H, M) := by
  have h1 := h.1
  have h2 := h.2.1
  obtain ⟨s', hI, he⟩ := lp_eq (fun n k (v : Int) => f_X6_cutOffs_4 N o n v k M) (fun v => some (v, M)) (fun k v => v = sumTo (fun t => cutN S (H t)) k) T
    (fun n k v hk hv => by
      subst hv
      refine ⟨_, rfl, ?_⟩
      rcases cutN_01 S (H k) with h0 | h0
      · simp (disch := omega) only [f_X6_cutOffs_4, gd_t, if_neg, if_pos, isCutOff_s hN h hk, bnd_s, h1, h0, reduceIte, sumTo]
      · simp (disch := omega) only [f_X6_cutOffs_4, gd_t, if_neg, if_pos, isCutOff_s hN h hk, bnd_s, h1, h0, reduceIte, sumTo])
    (fun n v hv => by simp (disch := omega) only [f_X6_cutOffs_4, gd_t, if_pos, h1]) T 0 N 0 (by omega) (by omega) rfl
  unfold f_X6_cutOffs cutC
  rw [← hI]
  exact he
/-- who lives there, as bits -/
def dwN (H : Row) (p : Int) : Nat → Nat
  | 0 => 0
  | t + 1 => dwN H p t + (if H t = p then 1 else 0) * 2 ^ t
theorem dwN_lt (H : Row) (p : Int) : ∀ T, dwN H p T < 2 ^ T
  | 0 => by simp [dwN]
  | T + 1 => by
    have h := dwN_lt H p T
    show dwN H p T + (if H T = p then 1 else 0) * 2 ^ T < 2 ^ (T + 1)
    rw [Nat.pow_succ]
    split <;> omega
theorem p2_5 {T : Nat} (h : T ≤ 5) : 2 ^ T ≤ 32 := Nat.pow_le_pow_right (by decide) h
theorem dwellers_s {N o : Nat} {M : Mem} {S : Row} {T : Nat} {K H : Row} (hN : 10 ≤ N) (h : StOK M o S T K H) {p : Int} (hp : inR p) : f_X6_dwellers N o p M = some ((dwN H p T : Int), M) := by
  have h1 := h.1
  have h2 := h.2.1
  obtain ⟨s', hI, he⟩ := lp_eq (fun n k (v : Int) => f_X6_dwellers_4 N o p n v k M) (fun v => some (v, M)) (fun k v => v = (dwN H p k : Int)) T
    (fun n k v hk hv => by
      subst hv
      obtain ⟨-, k4, k5, k6⟩ := h.2.2.2 k hk
      have hl := dwN_lt H p k
      have hl2 := p2_5 (show k ≤ 5 by omega)
      refine ⟨_, rfl, ?_⟩
      by_cases h0 : H k = p
      · have e : ((dwN H p (k + 1) : Nat) : Int) = i_or (dwN H p k : Int) (i_shl 1 (k : Int)) := by rw [or_bit k (by omega) _ hl]; simp [dwN, h0]
        rw [e]
        simp (disch := omega) only [f_X6_dwellers_4, gd_t, if_neg, if_pos, h1, tn_c, k4]
      · have e : ((dwN H p (k + 1) : Nat) : Int) = i_or (dwN H p k : Int) 0 := by rw [i_or0 (by omega)]; simp [dwN, h0]
        rw [e]
        simp (disch := omega) only [f_X6_dwellers_4, gd_t, if_neg, if_pos, h1, tn_c, k4])
    (fun n v hv => by simp (disch := omega) only [f_X6_dwellers_4, gd_t, if_pos, h1]) T 0 N 0 (by omega) (by omega) rfl
  unfold f_X6_dwellers
  rw [← hI]
  exact he
theorem dwN_bit {H : Row} {p : Int} {T t : Nat} (hT : T ≤ 5) (ht : t < T) : dwN H p T / 2 ^ t % 2 = if H t = p then 1 else 0 := by
  obtain ⟨b0, e0, c0⟩ : ∃ b, b = (if H 0 = p then 1 else 0) ∧ b ≤ 1 := ⟨_, rfl, by split <;> omega⟩
  obtain ⟨b1, e1, c1⟩ : ∃ b, b = (if H 1 = p then 1 else 0) ∧ b ≤ 1 := ⟨_, rfl, by split <;> omega⟩
  obtain ⟨b2, e2, c2⟩ : ∃ b, b = (if H 2 = p then 1 else 0) ∧ b ≤ 1 := ⟨_, rfl, by split <;> omega⟩
  obtain ⟨b3, e3, c3⟩ : ∃ b, b = (if H 3 = p then 1 else 0) ∧ b ≤ 1 := ⟨_, rfl, by split <;> omega⟩
  obtain ⟨b4, e4, c4⟩ : ∃ b, b = (if H 4 = p then 1 else 0) ∧ b ≤ 1 := ⟨_, rfl, by split <;> omega⟩
  rcases (show T = 1 ∨ T = 2 ∨ T = 3 ∨ T = 4 ∨ T = 5 by omega) with rfl | rfl | rfl | rfl | rfl <;>
  rcases (show t = 0 ∨ t = 1 ∨ t = 2 ∨ t = 3 ∨ t = 4 by omega) with rfl | rfl | rfl | rfl | rfl <;>
  first | omega | (simp only [dwN, ← e0, ← e1, ← e2, ← e3, ← e4]; omega)
theorem or_lor : ∀ t : Nat, t < 5 → ∀ v : Nat, v < 32 → i_or (v : Int) (i_shl 1 (t : Int)) = ((v ||| 2 ^ t : Nat) : Int) := by decide +kernel
/-- air: how much is left, who gasps -/
def gsT (S K H : Row) (p : Int) : Nat → Int × Nat → Int × Nat
  | 0, s => s
  | t + 1, s => if H t = p then (if cutN S (H t) = 1 ∨ (gsT S K H p t s).1 < brs (K t) then ((gsT S K H p t s).1, (gsT S K H p t s).2 ||| 2 ^ t) else ((gsT S K H p t s).1 - brs (K t), (gsT S K H p t s).2)) else gsT S K H p t s
def gsA (S : Row) (T : Nat) (K H : Row) : Nat → Int × Nat → Int × Nat
  | 0, s => s
  | p + 1, s => gsT S K H (p : Int) T (gsA S T K H p s)
def gsp (S : Row) (T : Nat) (K H : Row) (air : Int) : Nat := (gsA S T K H 6 (air, 0)).2
def gsOK (T : Nat) (s : Int × Nat) : Prop := 0 ≤ s.1 ∧ s.1 ≤ 9 ∧ s.2 < 2 ^ T
theorem gsT_ok {S K H : Row} {p : Int} {T : Nat} {s : Int × Nat} (h : gsOK T s) : ∀ t, t ≤ T → gsOK T (gsT S K H p t s)
  | 0, _ => h
  | t + 1, ht => by
    have ih := gsT_ok (S := S) (K := K) (H := H) (p := p) h t (by omega)
    obtain ⟨h1, h2, h3⟩ := ih
    have hb := brs_in (K t)
    unfold gsT
    split
    · split
      · exact ⟨h1, h2, Nat.or_lt_two_pow h3 (Nat.pow_lt_pow_right (by decide) (by omega))⟩
      · exact ⟨by dsimp only; omega, by dsimp only; omega, h3⟩
    · exact ⟨h1, h2, h3⟩
theorem gsA_ok {S K H : Row} {T : Nat} {s : Int × Nat} (h : gsOK T s) : ∀ p, gsOK T (gsA S T K H p s)
  | 0 => h
  | p + 1 => gsT_ok (gsA_ok h p) T (Nat.le_refl T)
theorem gsT_step (S K H : Row) (p : Int) (t : Nat) (s : Int × Nat) : gsT S K H p (t + 1) s = if H t = p then (if cutN S (H t) = 1 ∨ (gsT S K H p t s).1 < brs (K t) then ((gsT S K H p t s).1, (gsT S K H p t s).2 ||| 2 ^ t) else ((gsT S K H p t s).1 - brs (K t), (gsT S K H p t s).2)) else gsT S K H p t s := rfl
theorem gaspers_s {N o : Nat} {M : Mem} {S : Row} {T : Nat} {K H : Row} {air : Int} (hN : 10 ≤ N) (h : StOK M o S T K H) (ha : M o 4 = air) (ha2 : 0 ≤ air ∧ air ≤ 9) : f_X6_gaspers N o M = some ((gsp S T K H air : Int), M) := by
  have h1 := h.1
  have h2 := h.2.1
  have h32 := p2_5 h2
  have hok0 : gsOK T (air, 0) := ⟨ha2.1, ha2.2, Nat.pos_of_ne_zero (by simp)⟩
  obtain ⟨s', hI, he⟩ := lp_eq (fun n k (s : Int × Nat) => f_X6_gaspers_9 N o n s.1 (s.2 : Int) k M) (fun s => some ((s.2 : Int), M)) (fun k s => s = gsA S T K H k (air, 0)) 6
    (fun n p s0 hp hs0 => by
      have hok : gsOK T s0 := by rw [hs0]; exact gsA_ok (S := S) (K := K) (H := H) hok0 p
      obtain ⟨s1, hI1, he1⟩ := lp_eq (fun n2 k (s : Int × Nat) => f_X6_gaspers_25 N o (f_X6_gaspers_9 N o n) n2 s.1 (s.2 : Int) (p : Int) (dwN H (p : Int) T : Int) k M) (fun s => f_X6_gaspers_9 N o n s.1 (s.2 : Int) ((p : Int) + 1) M) (fun k s => s = gsT S K H (p : Int) k s0) T
        (fun n2 t s ht hs => by
          subst hs
          have hk := gsT_ok (S := S) (K := K) (H := H) (p := (p : Int)) hok t (by omega)
          obtain ⟨g1, g2, g3⟩ := hk
          have hb := brs_in (K t)
          have hbit : i_and (i_shr (dwN H (p : Int) T : Int) (t : Int)) 1 = if H t = (p : Int) then 1 else 0 := by
            have hl := dwN_lt H (p : Int) T
            rw [bit_of t (by omega) _ (by omega), dwN_bit h2 ht]
            split <;> rfl
          refine ⟨_, rfl, ?_⟩
          rw [gsT_step]
          generalize gsT S K H (p : Int) t s0 = s3 at g1 g2 g3
          obtain ⟨lf, bt⟩ := s3
          dsimp only at g1 g2 g3 ⊢
          by_cases hh : H t = (p : Int)
          · rw [if_pos hh] at hbit
            rw [if_pos hh]
            have e1 : i_or (bt : Int) (i_shl 1 (t : Int)) = ((bt ||| 2 ^ t : Nat) : Int) := or_lor t (by omega) bt (by omega)
            rcases cutN_01 S (H t) with hc | hc
            · by_cases hlt : lf < brs (K t)
              · rw [if_pos (Or.inr hlt)]
                simp (disch := omega) only [f_X6_gaspers_25, gd_t, if_neg, if_pos, h1, hbit, reduceIte, isCutOff_s hN h ht, hc, bnd_s, breathOf_s h ht, e1]
              · rw [if_neg (by omega)]
                simp (disch := omega) only [f_X6_gaspers_25, gd_t, if_neg, if_pos, h1, hbit, reduceIte, isCutOff_s hN h ht, hc, bnd_s, breathOf_s h ht]
            · rw [if_pos (Or.inl hc)]
              simp (disch := omega) only [f_X6_gaspers_25, gd_t, if_neg, if_pos, h1, hbit, reduceIte, isCutOff_s hN h ht, hc, bnd_s, e1]
          · rw [if_neg hh] at hbit
            rw [if_neg hh]
            simp (disch := omega) only [f_X6_gaspers_25, gd_t, if_neg, if_pos, h1, hbit, reduceIte])
        (fun n2 s hs => by simp (disch := omega) only [f_X6_gaspers_25, gd_t, if_pos, h1]) T 0 N s0 (by omega) (by omega) rfl
      refine ⟨s1, by rw [hI1, hs0]; rfl, ?_⟩
      simp (disch := omega) only [f_X6_gaspers_9, gd_t, if_neg, dwellers_s hN h (p := (p : Int)) (by omega), bnd_s]
      exact he1)
    (fun n s hs => by simp (disch := omega) only [f_X6_gaspers_9, gd_t, if_pos]) 6 0 N (air, 0) rfl (by omega) rfl
  unfold f_X6_gaspers gsp
  rw [ha, ← hI]
  exact he
