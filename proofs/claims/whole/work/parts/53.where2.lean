theorem al_491 : al (ch (ch 49 0) 1) = 6 := by decide +kernel
theorem fill_s {N x : Nat} {M : Mem} (hN : 20 ≤ N) (hx : al x = 6) : ∃ M', f_J7_fill_53178 N x 0 M = some M' ∧ (∀ i, i < 6 → M' x i = 0) ∧ ∀ o, o ≠ x → M' o = M o := by
  obtain ⟨M1, ⟨h1, h2⟩, he⟩ := lp_eq (fun n k (m : Mem) => f_J7_fill_53178_5 N x 0 n k 6 m) (fun m => some m) (fun k m => (∀ i, i < k → m x i = 0) ∧ ∀ o, o ≠ x → m o = M o) 6
    (fun n k m hk hm => by
      refine ⟨st m x k 0, ⟨fun i hi => ?_, fun o ho => by rw [st_ne _ _ _ _ ho]; exact hm.2 o ho⟩, ?_⟩
      · rw [st_same]
        by_cases c : i = k
        · simp [c]
        · simp only [if_neg c]; exact hm.1 i (by omega)
      · simp (disch := omega) only [f_J7_fill_53178_5, gd_t, if_neg, hx, tn_c])
    (fun n m hm => by simp (disch := omega) only [f_J7_fill_53178_5, gd_t, if_pos]) 6 0 N M rfl (by omega) ⟨fun i hi => by omega, fun _ _ => rfl⟩
  refine ⟨M1, ?_, h1, h2⟩
  unfold f_J7_fill_53178
  rw [hx]
  exact he
theorem seek_s {N T : Nat} {S K H : Row} {M : Mem} (hN : 200 ≤ N) (h : StOK M 44 S T K H) : ∃ M', f_X4_seek N 49 44 M = some M' ∧ WI M' S T 0 K 0 (foC (VV S T K) 0 (6 ^ T) (0, 0)) ∧ FC M M' := by
  have hR := h.2.2.1
  have hT5 := h.2.1
  have f1 : ∀ o, o ≠ ch (ch 49 0) 0 → o ≠ ch (ch 49 0) 1 → (cpy (cpy M (ch (ch 44 0) 0) (ch (ch 49 0) 0) 6) (ch (ch 44 0) 1) (ch (ch 49 0) 1) 6) o = M o := fun o x y => by rw [cpy_ne _ _ _ _ y, cpy_ne _ _ _ _ x]
  have s1 : ∀ p, p < 6 → (cpy (cpy M (ch (ch 44 0) 0) (ch (ch 49 0) 0) 6) (ch (ch 44 0) 1) (ch (ch 49 0) 1) 6) (ch (ch 49 0) 0) p = S p := fun p hp => by
    rw [cpy_ne _ _ _ _ (by decide), cpy_same]
    simp only [if_pos hp]
    exact (hR.1 p hp).1
  obtain ⟨A, hA⟩ : ∃ A, A = cpy (cpy M (ch (ch 44 0) 0) (ch (ch 49 0) 0) 6) (ch (ch 44 0) 1) (ch (ch 49 0) 1) 6 := ⟨_, rfl⟩
  rw [← hA] at f1 s1
  obtain ⟨M1, e1, z1, z2⟩ := fill_s (N := N) (M := A) (by omega) al_491
  have f3 : ∀ o, o ≠ 49 → (st (st M1 49 3 0) 49 4 0) o = M1 o := fun o x => by rw [st_ne _ _ _ _ x, st_ne _ _ _ _ x]
  have f4 : FC M (st (st M1 49 3 0) 49 4 0) := fun o ho => by rw [f3 o (nsc ho (by decide)), z2 o (nsc ho (by decide)), f1 o (nsc ho (by decide)) (nsc ho (by decide))]
  have hS2 : StOK (st (st M1 49 3 0) 49 4 0) 44 S T K H := h.kept (f4 _ (by decide)) (f4 _ (by decide)) (f4 _ (by decide)) (f4 _ (by decide)) (f4 _ (by decide))
  have hW : WI (st (st M1 49 3 0) 49 4 0) S T 0 K 0 (0, 0) := by
    refine ⟨⟨fun p hp => ?_, fun p hp => ?_⟩, fun i hi => by omega, ⟨by simp [st_same], by simp [st_same], by simp, by simp⟩, fun q => absurd rfl q⟩
    · rw [f3 _ (by decide), z2 _ (by decide), s1 p hp]
      exact ⟨rfl, (hR.1 p hp).2⟩
    · rw [f3 _ (by decide), z1 p hp]
      exact ⟨rfl, by show (0 : Int) ≤ 0 ∧ (0 : Int) ≤ 20; omega⟩
  obtain ⟨M', k1, k2, k3⟩ := settle_s (N := N) (S := S) hN T 6 0 0 (0, 0) _ (by omega) (by omega) (fun i hi => by omega) hS2 hW
  rw [Nat.zero_mul] at k2
  refine ⟨M', ?_, k2, f4.tr (fun o ho => k3 o (fun q => ho (by revert q; unfold scl; simp only [List.mem_cons]; rintro (h | h | h | h | h) <;> simp_all))) ⟩
  have e0 : f_X3_copyFrom N (ch 49 0) (ch 44 0) M = some A := by rw [hA]; rfl
  simp only [f_X4_seek, e0, bnv_s, e1]
  have k1' : f_X4_settle N 6 49 44 0 (st (st M1 49 3 0) 49 4 0) = some M' := k1
  rw [k1']
  rfl
/-! the reference lays all of them -/
theorem power_s {N e : Nat} {W : Mem} (hN : 20 ≤ N) (he : e ≤ 5) : f_X8_power N (e : Int) W = some (((6 ^ e : Nat) : Int), W) := by
  obtain ⟨v, i1, h⟩ := lp_eq (fun n k (v : Int) => f_X8_power_4 N (e : Int) n v k W) (fun v => some (v, W)) (fun k v => v = ((6 ^ k : Nat) : Int)) e
    (fun n k v hk hv => by
      refine ⟨v * 6, by rw [hv, Nat.pow_succ]; rfl, ?_⟩
      simp (disch := omega) only [f_X8_power_4, gd_t, if_neg])
    (fun n v hv => by simp (disch := omega) only [f_X8_power_4, gd_t, if_pos]) e 0 N 1 (by omega) (by omega) rfl
  unfold f_X8_power
  rw [← i1]
  exact h
theorem p6 {e : Nat} (he : e ≤ 5) : 6 ^ e ≤ 7776 := Nat.pow_le_pow_right (n := 6) (by decide) he
theorem dv_s {c e : Nat} (hc : c < 10000) (he : e ≤ 5) : i_rem (i_div (c : Int) ((6 ^ e : Nat) : Int)) 6 = ((c / 6 ^ e % 6 : Nat) : Int) := by
  have h1 := p6 he
  have h2 : 0 < 6 ^ e := Nat.pow_pos (by decide)
  have h3 : c / 6 ^ e ≤ c := Nat.div_le_self _ _
  rw [i_div_s (by omega) (by omega) (by omega) (by omega), ← Int.natCast_ediv]
  generalize c / 6 ^ e = x at h3 ⊢
  rw [i_rem_s (by omega) (by omega) (by omega) (by omega)]
  omega
theorem lay134_s {N T c : Nat} {W : Mem} {s0 v1 : Int} (hN : 200 ≤ N) (h9 : W 2 9 = (T : Int)) (hT : T ≤ 5) (hc : c < 10000) : ∃ W', (∀ k27, f_X8_layWhere_134 N 2 k27 N v1 s0 (c : Int) 0 W = k27 v1 s0 ((c : Int) + 1) W') ∧ (∀ i, i < T → W' (ch 2 15) i = dgR T c i) ∧ ∀ o, o ≠ ch 2 15 → W' o = W o := by
  obtain ⟨W1, ⟨i1, i2⟩, he⟩ := lp_eq (fun n k (m : Mem) => fun k27 => f_X8_layWhere_134 N 2 k27 n v1 s0 (c : Int) k m) (fun m => fun k27 => k27 v1 s0 ((c : Int) + 1) m) (fun k m => (∀ i, i < k → m (ch 2 15) i = dgR T c i) ∧ ∀ o, o ≠ ch 2 15 → m o = W o) T
    (fun n k m hk hm => by
      have m9 : m 2 9 = (T : Int) := by rw [hm.2 2 (by decide)]; exact h9
      have e0 : (T : Int) - 1 - (k : Int) = ((T - 1 - k : Nat) : Int) := by omega
      have e1 := power_s (N := N) (W := m) (e := T - 1 - k) (by omega) (by omega)
      have e2 := p6 (show T - 1 - k ≤ 5 by omega)
      have e3 : 0 < 6 ^ (T - 1 - k) := Nat.pow_pos (by decide)
      have e4 := dv_s (c := c) (e := T - 1 - k) hc (by omega)
      refine ⟨st m (ch 2 15) k (dgR T c k), ⟨fun i hi => ?_, fun o ho => by rw [st_ne _ _ _ _ ho]; exact hm.2 o ho⟩, ?_⟩
      · rw [st_same]
        by_cases c : i = k
        · simp [c]
        · simp only [if_neg c]; exact hm.1 i (by omega)
      · funext k27
        simp (disch := omega) only [f_X8_layWhere_134, gd_t, m9, if_neg, e0, e1, bnd_s, e4, tn_c]
        rfl)
    (fun n m hm => by
      have m9 : m 2 9 = (T : Int) := by rw [hm.2 2 (by decide)]; exact h9
      funext k27
      simp (disch := omega) only [f_X8_layWhere_134, gd_t, m9, if_pos]) T 0 N W (by omega) (by omega) ⟨fun i hi => by omega, fun _ _ => rfl⟩
  exact ⟨W1, fun k27 => congrFun he k27, i1, i2⟩
theorem lay50_s {N T c : Nat} {S K : Row} {v1 v2 : Int} {W0 : Mem} (hN : 200 ≤ N) (hc : c < 10000) : ∀ (i n : Nat) (fl : Int) (W : Mem) (H : Row), i ≤ T → i < n → (fl = 0 ∨ fl = 1) → (fl = 1 ↔ ∀ j, i ≤ j → j < T → S (dgR T c j).toNat ≠ 0) → NwOK W T K S H → (∀ j, i ≤ j → j < T → H j = dgR T c j) → (∀ p, p < 6 → W (ch 2 8) p = S p) → mf W0 W →
    ∃ W', (∀ k27, f_X8_layWhere_50 N 2 k27 n v1 v2 (c : Int) ((c / 6 ^ (T - i) : Nat) : Int) fl ((i : Int) - 1) W = f_X8_layWhere_120 N 2 k27 v1 v2 (c : Int) (VV S T K c) W') ∧ mf W0 W' := by
  intro i
  induction i with
  | zero =>
    intro n fl W H hi hn hfl hiff hW hH h8 hf
    obtain ⟨n, rfl⟩ : ∃ n', n = n' + 1 := ⟨n - 1, by omega⟩
    have hwe : wsT T K H = wsT T K (dgR T c) := by
      funext p
      unfold wsT
      exact sumTo_congr T (fun i hi => by rw [hH i (by omega) hi])
    have hok : okB S (dgR T c) T = true ↔ fl = 1 := by rw [okB_t, hiff]; exact ⟨fun h j _ hj => h j hj, fun h j hj => h j (by omega) hj⟩
    rcases hfl with rfl | rfl
    · refine ⟨W, fun k27 => ?_, hf⟩
      have hv : VV S T K c = -1 := by unfold VV; rw [if_neg (fun q => by have := hok.mp q; omega)]
      rw [hv]
      simp (disch := omega) only [f_X8_layWhere_50, gd_t, if_pos, reduceIte]
    · obtain ⟨W1, k1, k2⟩ := holdsThen_s (N := N) (by omega) hW
      refine ⟨W1, fun k27 => ?_, hf.tr (fun a _ y z => k2 a y z)⟩
      have hv : VV S T K c = ffS S (wsT T K H) := by unfold VV; rw [if_pos (hok.mpr rfl), hwe]
      rw [hv]
      simp (disch := omega) only [f_X8_layWhere_50, gd_t, if_pos, if_neg, k1, bnd_s]
  | succ i ih =>
    intro n fl W H hi hn hfl hiff hW hH h8 hf
    obtain ⟨n, rfl⟩ : ∃ n', n = n' + 1 := ⟨n - 1, by omega⟩
    have hT5 := hW.2.1
    have hdg : dgR T c i = ((c / 6 ^ (T - (i + 1)) % 6 : Nat) : Int) := by unfold dgR; rw [show T - 1 - i = T - (i + 1) by omega]
    have hin := dgR_in T c i
    have hcd : c / 6 ^ (T - (i + 1)) ≤ c := Nat.div_le_self _ _
    have e1 : i_rem ((c / 6 ^ (T - (i + 1)) : Nat) : Int) 6 = dgR T c i := by
      rw [hdg]
      generalize c / 6 ^ (T - (i + 1)) = x at hcd ⊢
      rw [i_rem_s (by omega) (by omega) (by omega) (by omega)]
      omega
    have e2 : i_div ((c / 6 ^ (T - (i + 1)) : Nat) : Int) 6 = ((c / 6 ^ (T - i) : Nat) : Int) := by
      rw [show T - i = (T - (i + 1)) + 1 by omega, Nat.pow_succ, ← Nat.div_div_eq_div_mul]
      generalize c / 6 ^ (T - (i + 1)) = x at hcd ⊢
      rw [i_div_s (by omega) (by omega) (by omega) (by omega)]
      omega
    have e3 : ((i + 1 : Nat) : Int) - 1 = (i : Int) := by omega
    have e4 : (i : Int) + -1 = (i : Int) - 1 := by omega
    have hW2 := hW.home (t := i) (by omega) (x := dgR T c i) hin
    have hH2 : ∀ j, i ≤ j → j < T → updR H i (dgR T c i) j = dgR T c j := fun j h1 h2 => by
      unfold updR
      by_cases e : j = i
      · rw [if_pos e, e]
      · rw [if_neg e]; exact hH j (by omega) h2
    have h82 : ∀ p, p < 6 → (st W (ch 2 11) i (dgR T c i)) (ch 2 8) p = S p := fun p hp => by rw [st_ne _ _ _ _ (by decide)]; exact h8 p hp
    have hf2 : mf W0 (st W (ch 2 11) i (dgR T c i)) := hf.tr (fun a x _ _ => st_ne _ _ _ _ x)
    have g1 : (st W (ch 2 11) i (dgR T c i)) (ch 2 11) i = dgR T c i := by rw [st_same]; simp
    have g2 := h82 (dgR T c i).toNat (by omega)
    have hsp := (hW.2.2.1 (dgR T c i).toNat (by omega)).2
    rcases hfl with rfl | rfl
    · obtain ⟨W', k1, k2⟩ := ih n 0 (st W (ch 2 11) i (dgR T c i)) (updR H i (dgR T c i)) (by omega) (by omega) (Or.inl rfl) ⟨fun q => by omega, fun q => hiff.mpr (fun j h1 h2 => q j (by omega) h2)⟩ hW2 hH2 h82 hf2
      refine ⟨W', fun k27 => ?_, k2⟩
      rw [e3]
      simp (disch := omega) only [f_X8_layWhere_50, gd_t, if_neg, if_pos, reduceIte, tn_c, e1, e2, e4]
      exact k1 k27
    · by_cases z : S (dgR T c i).toNat = 0
      · obtain ⟨W', k1, k2⟩ := ih n 0 (st W (ch 2 11) i (dgR T c i)) (updR H i (dgR T c i)) (by omega) (by omega) (Or.inl rfl) ⟨fun q => by omega, fun q => absurd z (q i (by omega) (by omega))⟩ hW2 hH2 h82 hf2
        refine ⟨W', fun k27 => ?_, k2⟩
        rw [e3]
        simp (disch := omega) only [f_X8_layWhere_50, gd_t, if_neg, if_pos, tn_c, e1, e2, e4, g1, g2]
        exact k1 k27
      · obtain ⟨W', k1, k2⟩ := ih n 1 (st W (ch 2 11) i (dgR T c i)) (updR H i (dgR T c i)) (by omega) (by omega) (Or.inr rfl) ⟨fun _ j h1 h2 => by
          rcases (show j = i ∨ i + 1 ≤ j by omega) with e | e
          · rw [e]; exact z
          · exact hiff.mp rfl j e h2, fun _ => rfl⟩ hW2 hH2 h82 hf2
        refine ⟨W', fun k27 => ?_, k2⟩
        rw [e3]
        simp (disch := omega) only [f_X8_layWhere_50, gd_t, if_neg, if_pos, tn_c, e1, e2, e4, g1, g2]
        exact k1 k27
theorem VV_in {S K : Row} {T c : Nat} (hT : T ≤ 5) (hS : ∀ p, p < 6 → 0 ≤ S p) : VV S T K c = -1 ∨ (1 ≤ VV S T K c ∧ VV S T K c ≤ 41) := by
  have i1 := ffTo_in hS (fun p _ => wsT_in hT K (dgR T c) p) 6 (Nat.le_refl 6)
  have i1' : 1 ≤ ffS S (wsT T K (dgR T c)) ∧ ffS S (wsT T K (dgR T c)) ≤ 41 := i1
  unfold VV
  split
  · exact Or.inr i1'
  · exact Or.inl rfl
theorem lay27_s {N T : Nat} {S K H : Row} {W0 : Mem} (hN : 200 ≤ N) (hM0 : MdOK W0 S T K H) : ∀ (j c n : Nat) (a : Int × Nat) (W : Mem), c + j = 6 ^ T → j < n → -1 ≤ a.1 → a.1 ≤ 41 → (a.1 ≠ -1 → ∀ i, i < T → W (ch 2 15) i = dgR T a.2 i) → (∀ o, o ≠ ch 2 11 → o ≠ ch 2 12 → o ≠ ch 2 13 → o ≠ ch 2 15 → W o = W0 o) →
    ∃ W', f_X8_layWhere_27 N 2 n ((6 ^ T : Nat) : Int) a.1 (c : Int) W = some ((foC (VV S T K) c j a).1, W') ∧ ((foC (VV S T K) c j a).1 ≠ -1 → ∀ i, i < T → W' (ch 2 15) i = dgR T (foC (VV S T K) c j a).2 i) ∧ ∀ o, o ≠ ch 2 11 → o ≠ ch 2 12 → o ≠ ch 2 13 → o ≠ ch 2 15 → W' o = W0 o := by
  have hT5 := hM0.2.1
  have h6 := p6 hT5
  intro j
  induction j with
  | zero =>
    intro c n a W hc hn ha1 ha2 hb hf
    obtain ⟨n, rfl⟩ : ∃ n', n = n' + 1 := ⟨n - 1, by omega⟩
    exact ⟨W, by simp (disch := omega) only [f_X8_layWhere_27, gd_t, if_pos]; rfl, hb, hf⟩
  | succ j ih =>
    intro c n a W hc hn ha1 ha2 hb hf
    obtain ⟨n, rfl⟩ : ∃ n', n = n' + 1 := ⟨n - 1, by omega⟩
    have hM : MdOK W S T K H := hM0.kept (by rw [hf 2 (by decide) (by decide) (by decide) (by decide)]) (hf _ (by decide) (by decide) (by decide) (by decide)) (hf _ (by decide) (by decide) (by decide) (by decide))
    obtain ⟨W1, a1, a2, a3⟩ := asItIs_s (N := N) (by omega) hM
    have w9 : W1 2 9 = (T : Int) := a2.1
    obtain ⟨W2, b1, b2⟩ := lay50_s (N := N) (T := T) (c := c) (S := S) (K := K) (v1 := ((6 ^ T : Nat) : Int)) (v2 := a.1) (W0 := W1) hN (by omega) T N 1 W1 H (Nat.le_refl T) (by omega) (Or.inr rfl) ⟨fun _ j h1 h2 => by omega, fun _ => rfl⟩ a2 (fun j h1 h2 => by omega) (fun p hp => by rw [a3 _ (by decide) (by decide)]; exact (hM.2.2.1 p hp).1) (mf.rf W1)
    rw [Nat.sub_self, Nat.pow_zero, Nat.div_one] at b1
    have hV := VV_in (S := S) (K := K) (c := c) hT5 (fun p hp => (hM.2.2.1 p hp).2.1)
    have hfo : foC (VV S T K) c (j + 1) a = foC (VV S T K) (c + 1) j (stC (VV S T K) a c) := by
      rw [Nat.add_comm j 1, foC_add]
      rfl
    have f2 : ∀ o, o ≠ ch 2 11 → o ≠ ch 2 12 → o ≠ ch 2 13 → W2 o = W o := fun o x y z => by rw [b2 o x y z, a3 o x y]
    rw [hfo]
    unfold stC
    by_cases c1 : a.1 < VV S T K c
    · rw [if_pos c1]
      obtain ⟨W3, d1, d2, d3⟩ := lay134_s (N := N) (T := T) (c := c) (W := W2) (s0 := VV S T K c) (v1 := ((6 ^ T : Nat) : Int)) hN (by rw [b2 2 (by decide) (by decide) (by decide)]; exact w9) hT5 (by omega)
      obtain ⟨W', k1, k2, k3⟩ := ih (c + 1) n (VV S T K c, c) W3 (by omega) (by omega) (by dsimp only; omega) (by dsimp only; omega) (fun _ => d2) (fun o x y z w => by rw [d3 o w, f2 o x y z]; exact hf o x y z w)
      refine ⟨W', ?_, k2, k3⟩
      simp (disch := omega) only [f_X8_layWhere_27, gd_t, if_neg, a1, bnv_s, w9, b1, f_X8_layWhere_120, d1]
      exact k1
    · rw [if_neg c1]
      obtain ⟨W', k1, k2, k3⟩ := ih (c + 1) n a W2 (by omega) (by omega) ha1 ha2 (fun q i hi => by rw [f2 _ (by decide) (by decide) (by decide)]; exact hb q i hi) (fun o x y z w => by rw [f2 o x y z]; exact hf o x y z w)
      refine ⟨W', ?_, k2, k3⟩
      simp (disch := omega) only [f_X8_layWhere_27, gd_t, if_neg, a1, bnv_s, w9, b1, f_X8_layWhere_120, if_pos]
      exact k1
theorem lay_s {N T : Nat} {S K H : Row} {W : Mem} (hN : 8000 ≤ N) (hM : MdOK W S T K H) : ∃ W', f_X8_layWhere N 2 W = some ((foC (VV S T K) 0 (6 ^ T) (-1, 0)).1, W') ∧ ((foC (VV S T K) 0 (6 ^ T) (-1, 0)).1 ≠ -1 → ∀ i, i < T → W' (ch 2 15) i = dgR T (foC (VV S T K) 0 (6 ^ T) (-1, 0)).2 i) ∧ FM W W' := by
  have hT5 := hM.2.1
  have h6 := p6 hT5
  have h9 := hM.1
  obtain ⟨v, i1, he⟩ := lp_eq (fun n k (v : Int) => f_X8_layWhere_4 N 2 n v k W) (fun v => f_X8_layWhere_27 N 2 N v (-1) 0 W) (fun k v => v = ((6 ^ k : Nat) : Int)) T
    (fun n k v hk hv => by
      refine ⟨v * 6, by rw [hv, Nat.pow_succ]; rfl, ?_⟩
      simp (disch := omega) only [f_X8_layWhere_4, gd_t, h9, if_neg])
    (fun n v hv => by simp (disch := omega) only [f_X8_layWhere_4, gd_t, h9, if_pos]) T 0 N 1 (by omega) (by omega) rfl
  obtain ⟨W', k1, k2, k3⟩ := lay27_s (N := N) (by omega) hM (6 ^ T) 0 N (-1, 0) W (by omega) (by omega) (by simp) (by simp) (fun q => absurd rfl q) (fun _ _ _ _ _ => rfl)
  refine ⟨W', ?_, k2, ⟨fun o h1 h2 => k3 o (nsc h2 (by decide)) (nsc h2 (by decide)) (nsc h2 (by decide)) (nsc h2 (by decide)), fun k _ _ => by rw [k3 2 (by decide) (by decide) (by decide) (by decide)]⟩⟩
  refine Eq.trans (show f_X8_layWhere N 2 W = _ from he) ?_
  rw [i1]
  exact k1
theorem two_acc {V : Nat → Int} (hV : ∀ c, V c = -1 ∨ (1 ≤ V c ∧ V c ≤ 41)) : ∀ n, (foC V 0 n (0, 0) = foC V 0 n (-1, 0) ∧ 1 ≤ (foC V 0 n (0, 0)).1 ∧ (foC V 0 n (0, 0)).1 ≤ 41) ∨ ((foC V 0 n (0, 0)).1 = 0 ∧ (foC V 0 n (-1, 0)).1 = -1)
  | 0 => Or.inr ⟨rfl, rfl⟩
  | n + 1 => by
    have h := hV (0 + n)
    show (stC V (foC V 0 n (0, 0)) (0 + n) = stC V (foC V 0 n (-1, 0)) (0 + n) ∧ 1 ≤ (stC V (foC V 0 n (0, 0)) (0 + n)).1 ∧ (stC V (foC V 0 n (0, 0)) (0 + n)).1 ≤ 41) ∨ ((stC V (foC V 0 n (0, 0)) (0 + n)).1 = 0 ∧ (stC V (foC V 0 n (-1, 0)) (0 + n)).1 = -1)
    rcases two_acc hV n with ⟨h1, h2, h3⟩ | ⟨h1, h2⟩
    · left
      rw [← h1]
      refine ⟨rfl, ?_⟩
      unfold stC
      by_cases c : (foC V 0 n (0, 0)).1 < V (0 + n)
      · rw [if_pos c]; dsimp only; omega
      · rw [if_neg c]; omega
    · unfold stC
      rw [h1, h2]
      rcases h with h | h
      · right
        rw [if_neg (by omega), if_neg (by omega)]
        exact ⟨h1, h2⟩
      · left
        rw [if_pos (by omega), if_pos (by omega)]
        exact ⟨rfl, h⟩
