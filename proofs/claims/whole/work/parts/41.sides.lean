/-! the two sides and what they keep -/
def md (a : Nat) : Bool := a == 2 || (decide (83 ≤ a) && decide (a ≤ 120))
def FA (M M' : Mem) : Prop := ∀ a, md a = true → M' a = M a
def FB (M M' : Mem) : Prop := ∀ a, md a = false → M' a = M a
def scl : List Nat := [ch (ch 44 0) 2, 48, ch 48 0, ch 48 1, ch 48 2, ch (ch 48 0) 0, ch (ch 48 0) 1, ch (ch 48 0) 2, 49, ch 49 0, ch 49 1, ch 49 2, ch (ch 49 0) 0, ch (ch 49 0) 1, ch (ch 49 0) 2, 50, ch 50 0, ch 50 1, ch 50 2, ch (ch 50 0) 0, ch (ch 50 0) 1, ch (ch 50 0) 2, 51]
def sml : List Nat := [ch 2 11, ch 2 12, ch 2 13, ch 2 15, ch 2 18]
def icl : List Nat := [1, 43, ch 43 0, 44, ch 44 1, ch 44 2, ch (ch 44 0) 0, ch (ch 44 0) 1, 45, ch 45 0, ch 45 1, ch 45 2, 46, ch 46 1, ch 46 2, ch (ch 46 0) 0, ch (ch 46 0) 1, 47, ch 47 0, ch 47 1, ch 47 2]
def iml : List Nat := [ch 2 0, ch 2 8, ch 2 10, ch 2 17, ch 2 26, ch 2 27, ch 2 28]
def FC (M M' : Mem) : Prop := ∀ a, a ∉ scl → M' a = M a
def FM (M M' : Mem) : Prop := (∀ a, a ≠ 2 → a ∉ sml → M' a = M a) ∧ ∀ k, k ≠ 19 → k ≠ 30 → M' 2 k = M 2 k
theorem nsc {a x : Nat} {l : List Nat} (h : a ∉ l) (hx : x ∈ l) : a ≠ x := fun e => h (e ▸ hx)
theorem scl_md : ∀ x, x ∈ scl → md x = false := by decide
theorem icl_md : ∀ x, x ∈ icl → md x = false := by decide
theorem icl_sc : ∀ x, x ∈ icl → x ∉ scl := by decide
theorem iml_md : ∀ x, x ∈ iml → md x = true := by decide
theorem sml_md : ∀ x, x ∈ sml → md x = true := by decide
theorem iml_sm : ∀ x, x ∈ iml → x ≠ 2 ∧ x ∉ sml := by decide
theorem FC.rf (M : Mem) : FC M M := fun _ _ => rfl
theorem FC.tr {A B C : Mem} (h : FC A B) (h2 : FC B C) : FC A C := fun a ha => by rw [h2 a ha, h a ha]
theorem FM.rf (M : Mem) : FM M M := ⟨fun _ _ _ => rfl, fun _ _ _ => rfl⟩
theorem FM.tr {A B C : Mem} (h : FM A B) (h2 : FM B C) : FM A C := ⟨fun a ha hb => by rw [h2.1 a ha hb, h.1 a ha hb], fun k h3 h4 => by rw [h2.2 k h3 h4, h.2 k h3 h4]⟩
theorem FC.fa {A B : Mem} (h : FC A B) : FA A B := fun a ha => h a (fun q => by have := scl_md a q; rw [ha] at this; cases this)
theorem FM.fb {A B : Mem} (h : FM A B) : FB A B := fun a ha => h.1 a (fun q => by subst q; cases ha) (fun q => by have := sml_md a q; rw [ha] at this; cases this)
theorem FA.rf (M : Mem) : FA M M := fun _ _ => rfl
theorem FB.rf (M : Mem) : FB M M := fun _ _ => rfl
theorem FA.tr {A B C : Mem} (h : FA A B) (h2 : FA B C) : FA A C := fun a ha => by rw [h2 a ha, h a ha]
theorem FB.tr {A B C : Mem} (h : FB A B) (h2 : FB B C) : FB A C := fun a ha => by rw [h2 a ha, h a ha]
theorem FA.st {A B : Mem} (h : FA A B) {o k : Nat} {v : Int} (ho : md o = false) : FA A (st B o k v) := fun a ha => by rw [st_ne _ _ _ _ (fun e => by subst e; rw [ha] at ho; cases ho)]; exact h a ha
theorem FB.st {A B : Mem} (h : FB A B) {o k : Nat} {v : Int} (ho : md o = true) : FB A (st B o k v) := fun a ha => by rw [st_ne _ _ _ _ (fun e => by subst e; rw [ha] at ho; cases ho)]; exact h a ha
theorem mf8.fm {A B : Mem} (h : mf8 A B) : FM A B := ⟨fun a _ hb => h a (nsc hb (by decide)) (nsc hb (by decide)) (nsc hb (by decide)) (nsc hb (by decide)), fun k _ _ => by rw [h 2 (by decide) (by decide) (by decide) (by decide)]⟩
theorem mf.fm {A B : Mem} (h : mf A B) : FM A B := h.to8.fm
theorem mf_2 {A B : Mem} (h : ∀ a, a ≠ ch 2 11 → a ≠ ch 2 12 → B a = A a) : FM A B := mf.fm (fun a x y _ => h a x y)
theorem mf_3 {A B : Mem} (h : ∀ a, a ≠ ch 2 12 → a ≠ ch 2 13 → B a = A a) : FM A B := mf.fm (fun a _ x y => h a x y)
theorem sndG.fc {A B : Mem} (h : sndG A B) : FC A B := fun a ha => h a (nsc ha (by decide)) (nsc ha (by decide)) (nsc ha (by decide)) (nsc ha (by decide)) (nsc ha (by decide)) (nsc ha (by decide))
theorem StOK.kept {M M' : Mem} {o : Nat} {S : Row} {T : Nat} {K H : Row} (h : StOK M o S T K H) (h0 : M' o = M o) (h1 : M' (ch o 1) = M (ch o 1)) (h2 : M' (ch o 2) = M (ch o 2)) (h3 : M' (ch (ch o 0) 0) = M (ch (ch o 0) 0)) (h4 : M' (ch (ch o 0) 1) = M (ch (ch o 0) 1)) : StOK M' o S T K H := by
  unfold StOK RoofOK at *
  rw [h0, h1, h2, h3, h4]
  exact h
def up {α : Type} (f : Nat → α) (i : Nat) (v : α) : Nat → α := fun j => if j = i then v else f j
def StC (M : Mem) (o : Nat) (T : Nat) (S K H C : Row) : Prop := StOK M o S T K H ∧ ∀ j, 4 ≤ j → j ≤ 8 → M o j = C j
def PgC (M : Mem) (n : Nat) (P : Row) : Prop := M 43 1 = (n : Int) ∧ n ≤ 12 ∧ ∀ i, i < n → M (ch 43 0) i = P i ∧ 1 ≤ P i ∧ P i ≤ 126
def IC (u : Nat → Nat) (R : Nat → Row) (M : Mem) : Prop :=
  PgC M (u 0) (R 0) ∧ StC M 44 (u 1) (R 1) (R 2) (R 3) (R 4) ∧ KnOK M 45 (u 2) (R 5) (R 6) (R 7) ∧
  (u 8 = 1 → StC M 46 (u 3) (R 11) (R 12) (R 13) (R 14) ∧ KnOK M 47 (u 4) (R 15) (R 16) (R 17)) ∧
  M 1 9 = (u 7 : Int) ∧ M 1 10 = (u 8 : Int) ∧ M 1 11 = (u 5 : Int) ∧ M 1 12 = (u 6 : Int)
def cOK (b : Nat) (C : Row) : Prop := (0 ≤ C 4 ∧ C 4 ≤ 9) ∧ (0 ≤ C 5 ∧ C 5 ≤ 9) ∧ ∀ j, 6 ≤ j → j ≤ 8 → 0 ≤ C j ∧ C j ≤ 6 * (b : Int)
def GG (b : Nat) (u : Nat → Nat) (R : Nat → Row) : Prop :=
  u 7 ≤ 1 ∧ u 8 ≤ 1 ∧ u 6 ≤ 12 ∧ u 5 ≤ b ∧ cOK b (R 4) ∧ (R 4 5 = 0 ↔ u 7 = 0) ∧ (u 8 = 1 → cOK b (R 14) ∧ R 14 4 = R 4 4 ∧ R 14 5 = R 4 5)
def KsM (M : Mem) (T : Nat) (S K H C : Row) : Prop := M 2 21 = (T : Int) ∧ (∀ p, p < 6 → M (ch 2 26) p = S p) ∧ (∀ t, t < T → M (ch 2 27) (2 * t) = K t ∧ M (ch 2 27) (2 * t + 1) = H t) ∧ M 2 22 = C 6 ∧ M 2 23 = C 7 ∧ M 2 24 = C 8
def KkM (M : Mem) (m : Nat) (P D B : Row) : Prop := M 2 25 = (m : Int) ∧ ∀ i, i < m → M (ch 2 28) (3 * i) = P i ∧ M (ch 2 28) (3 * i + 1) = D i ∧ M (ch 2 28) (3 * i + 2) = B i
def IM (u : Nat → Nat) (R : Nat → Row) (M : Mem) : Prop :=
  (M 2 1 = (u 0 : Int) ∧ ∀ i, i < u 0 → M (ch 2 0) i = R 0 i) ∧ MdOK M (R 1) (u 1) (R 2) (R 3) ∧
  (M 2 2 = R 4 4 ∧ M 2 3 = R 4 5 ∧ M 2 4 = R 4 6 ∧ M 2 5 = R 4 7 ∧ M 2 6 = R 4 8) ∧ Kn8 M (u 2) (R 5) (R 6) (R 7) ∧
  (M 2 7 = (u 5 : Int) ∧ M 2 14 = (u 6 : Int) ∧ -1 ≤ M 2 20 ∧ M 2 20 ≤ (u 5 : Int) ∧ (u 8 = 0 → M 2 20 ≠ (u 5 : Int))) ∧
  (u 8 = 1 → M 2 20 = (u 5 : Int) ∧ KsM M (u 3) (R 11) (R 12) (R 13) (R 14) ∧ KkM M (u 4) (R 15) (R 16) (R 17))
theorem IC.fr0 {u : Nat → Nat} {R : Nat → Row} {M M' : Mem} (h : IC u R M) (hf : ∀ a, a ∈ icl → M' a = M a) : IC u R M' := by
  obtain ⟨h1, ⟨h2, h2'⟩, h3, h4, h5⟩ := h
  refine ⟨?_, ⟨h2.kept (hf _ (by decide)) (hf _ (by decide)) (hf _ (by decide)) (hf _ (by decide)) (hf _ (by decide)), ?_⟩, h3.kept (hf _ (by decide)) (hf _ (by decide)) (hf _ (by decide)) (hf _ (by decide)), fun q => ⟨⟨(h4 q).1.1.kept (hf _ (by decide)) (hf _ (by decide)) (hf _ (by decide)) (hf _ (by decide)) (hf _ (by decide)), ?_⟩, (h4 q).2.kept (hf _ (by decide)) (hf _ (by decide)) (hf _ (by decide)) (hf _ (by decide))⟩, ?_⟩
  · unfold PgC; rw [hf 43 (by decide), hf (ch 43 0) (by decide)]; exact h1
  · rw [hf 44 (by decide)]; exact h2'
  · rw [hf 46 (by decide)]; exact (h4 q).1.2
  · rw [hf 1 (by decide)]; exact h5
theorem IC.fc {u : Nat → Nat} {R : Nat → Row} {M M' : Mem} (h : IC u R M) (hf : FC M M') : IC u R M' := h.fr0 (fun a ha => hf a (icl_sc a ha))
theorem IC.fb {u : Nat → Nat} {R : Nat → Row} {M M' : Mem} (h : IC u R M) (hf : FB M M') : IC u R M' := h.fr0 (fun a ha => hf a (icl_md a ha))
theorem IM.fm {u : Nat → Nat} {R : Nat → Row} {M M' : Mem} (h : IM u R M) (hf : FM M M') : IM u R M' := by
  have f : ∀ a, a ∈ iml → M' a = M a := fun a ha => hf.1 a (iml_sm a ha).1 (iml_sm a ha).2
  unfold IM MdOK Kn8 KsM KkM at *
  rw [f (ch 2 0) (by decide), f (ch 2 8) (by decide), f (ch 2 10) (by decide), f (ch 2 17) (by decide), f (ch 2 26) (by decide), f (ch 2 27) (by decide), f (ch 2 28) (by decide),
    hf.2 1 (by decide) (by decide), hf.2 2 (by decide) (by decide), hf.2 3 (by decide) (by decide), hf.2 4 (by decide) (by decide), hf.2 5 (by decide) (by decide), hf.2 6 (by decide) (by decide), hf.2 7 (by decide) (by decide), hf.2 9 (by decide) (by decide), hf.2 14 (by decide) (by decide), hf.2 16 (by decide) (by decide), hf.2 20 (by decide) (by decide), hf.2 21 (by decide) (by decide), hf.2 22 (by decide) (by decide), hf.2 23 (by decide) (by decide), hf.2 24 (by decide) (by decide), hf.2 25 (by decide) (by decide)]
  exact h
theorem IM.fa {u : Nat → Nat} {R : Nat → Row} {M M' : Mem} (h : IM u R M) (hf : FA M M') : IM u R M' := by
  have f : ∀ a, a ∈ iml → M' a = M a := fun a ha => hf a (iml_md a ha)
  have f2 : M' 2 = M 2 := hf 2 (by decide)
  unfold IM MdOK Kn8 KsM KkM at *
  rw [f (ch 2 0) (by decide), f (ch 2 8) (by decide), f (ch 2 10) (by decide), f (ch 2 17) (by decide), f (ch 2 26) (by decide), f (ch 2 27) (by decide), f (ch 2 28) (by decide), f2]
  exact h
def Rel (b : Nat) (M W : Mem) : Prop := ∃ (u : Nat → Nat) (R : Nat → Row), GG b u R ∧ IC u R M ∧ IM u R W
theorem GG.up {b c : Nat} {u : Nat → Nat} {R : Nat → Row} (h : GG b u R) (hb : b ≤ c) : GG c u R := by
  obtain ⟨h1, h2, h3, h4, ⟨h5, h6, h7⟩, h8, h9⟩ := h
  have e : (6 * (b : Int)) ≤ 6 * (c : Int) := by omega
  refine ⟨h1, h2, h3, by omega, ⟨h5, h6, fun j ha hc => ⟨(h7 j ha hc).1, Int.le_trans (h7 j ha hc).2 e⟩⟩, h8, fun q => ?_⟩
  obtain ⟨⟨k5, k6, k7⟩, k8⟩ := h9 q
  exact ⟨⟨k5, k6, fun j ha hc => ⟨(k7 j ha hc).1, Int.le_trans (k7 j ha hc).2 e⟩⟩, k8⟩
/-- an act: both answer the same, and stay side by side -/
def Both (f7 f8 : Mem → Option (Int × Mem)) : Prop := ∀ (b : Nat) (M W : Mem), b ≤ 1000 → Rel b M W → ∃ (r : Int) (M' W' : Mem), f7 M = some (r, M') ∧ f8 W = some (r, W') ∧ inR r ∧ Rel (b + 1) M' W' ∧ FA M M' ∧ FB W W'
/-- a question: both answer the same, and only scratch is changed -/
def Ask (u : Nat → Nat) (R : Nat → Row) (f7 f8 : Mem → Option (Int × Mem)) : Prop := ∀ (M W : Mem), IC u R M → IM u R W → ∃ (r : Int) (M' W' : Mem), f7 M = some (r, M') ∧ f8 W = some (r, W') ∧ inR r ∧ FC M M' ∧ FM W W'
theorem Ask.both {f7 f8 : Mem → Option (Int × Mem)} (h : ∀ b u R, b ≤ 1000 → GG b u R → Ask u R f7 f8) : Both f7 f8 := by
  rintro b M W hb ⟨u, R, hG, hC, hM⟩
  obtain ⟨r, M', W', e1, e2, hr, f1, f2⟩ := h b u R hb hG M W hC hM
  exact ⟨r, M', W', e1, e2, hr, ⟨u, R, hG.up (by omega), hC.fc f1, hM.fm f2⟩, f1.fa, f2.fb⟩
theorem Both.step {f7 f8 : Mem → Option (Int × Mem)} (h : Both f7 f8) {b : Nat} {M : Mem} (hb : b ≤ 1000) (hR : Rel b M M) : ∃ (r : Int) (M' W' : Mem), f7 M = some (r, M') ∧ f8 M' = some (r, W') ∧ inR r ∧ Rel (b + 1) W' W' := by
  obtain ⟨r0, M0, W0, e1, -, -, -, f1, -⟩ := h b M M hb hR
  obtain ⟨u, R, hG, hC, hM⟩ := hR
  obtain ⟨r, M', W', g1, g2, hr, ⟨u', R', hG', hC', hM'⟩, f2, f3⟩ := h b M M0 hb ⟨u, R, hG, hC, hM.fa f1⟩
  rw [e1] at g1
  cases g1
  exact ⟨r0, M0, W', e1, g2, hr, u', R', hG', hC'.fb f3, hM'⟩
theorem c10 : ch 1 0 = 43 := rfl
theorem c11 : ch 1 1 = 44 := rfl
theorem c12 : ch 1 2 = 45 := rfl
theorem c13 : ch 1 3 = 46 := rfl
theorem c14 : ch 1 4 = 47 := rfl
theorem c15 : ch 1 5 = 48 := rfl
theorem c16 : ch 1 6 = 49 := rfl
theorem c17 : ch 1 7 = 50 := rfl
theorem c18 : ch 1 8 = 51 := rfl
/-! is it a place, is it a tenant -/
theorem isPl7_y {N b : Nat} {u : Nat → Nat} {R : Nat → Row} {M : Mem} {v : Int} (hC : IC u R M) (h7 : u 7 = 1) (hv : 0 ≤ v ∧ v ≤ 5) : f_X7_isPlace N 1 v M = some (1, M) := by
  have e := hC.2.2.2.2.1
  rw [h7] at e
  simp (disch := omega) only [f_X7_isPlace, gd_t, if_neg, e]
theorem isPl7_n {N b : Nat} {u : Nat → Nat} {R : Nat → Row} {M : Mem} {v : Int} (hG : GG b u R) (hC : IC u R M) (hi : inR v) (hv : ¬ (u 7 = 1 ∧ 0 ≤ v ∧ v ≤ 5)) : f_X7_isPlace N 1 v M = some (0, M) := by
  have e := hC.2.2.2.2.1
  have h1 := hG.1
  by_cases h7 : u 7 = 1
  · rw [h7] at e
    by_cases c : v < 0
    · simp (disch := omega) only [f_X7_isPlace, gd_t, if_neg, if_pos, e]
    · simp (disch := omega) only [f_X7_isPlace, gd_t, if_neg, if_pos, e]
  · have : u 7 = 0 := by omega
    rw [this] at e
    simp (disch := omega) only [f_X7_isPlace, gd_t, if_pos, e]
theorem lacks_y {N b : Nat} {u : Nat → Nat} {R : Nat → Row} {W : Mem} (hG : GG b u R) (hM : IM u R W) (h7 : u 7 = 1) : f_X8_lacks N 2 W = some (0, W) := by
  have e := hM.2.2.1.2.1
  have h1 := hG.2.2.2.2.1.2.1
  have h2 : R 4 5 ≠ 0 := fun q => by have := hG.2.2.2.2.2.1.mp q; omega
  simp (disch := omega) only [f_X8_lacks, gd_t, if_neg, e]
theorem lacks_n {N b : Nat} {u : Nat → Nat} {R : Nat → Row} {W : Mem} (hG : GG b u R) (hM : IM u R W) (h7 : ¬ u 7 = 1) : f_X8_lacks N 2 W = some (1, W) := by
  have e := hM.2.2.1.2.1
  have h0 := hG.1
  have h1 := hG.2.2.2.2.1.2.1
  have h2 : R 4 5 = 0 := hG.2.2.2.2.2.1.mpr (by omega)
  simp (disch := omega) only [f_X8_lacks, gd_t, if_pos, e]
theorem isPl8_y {N b : Nat} {u : Nat → Nat} {R : Nat → Row} {W : Mem} {v : Int} (hG : GG b u R) (hM : IM u R W) (h7 : u 7 = 1) (hv : 0 ≤ v ∧ v ≤ 5) : f_X8_isPlace N 2 v W = some (1, W) := by
  simp (disch := omega) only [f_X8_isPlace, lacks_y hG hM h7, bnd_s, gd_t, if_pos, if_neg, in_s, reduceIte]
theorem isPl8_n {N b : Nat} {u : Nat → Nat} {R : Nat → Row} {W : Mem} {v : Int} (hG : GG b u R) (hM : IM u R W) (hi : inR v) (hv : ¬ (u 7 = 1 ∧ 0 ≤ v ∧ v ≤ 5)) : f_X8_isPlace N 2 v W = some (0, W) := by
  by_cases h7 : u 7 = 1
  · simp (disch := omega) only [f_X8_isPlace, lacks_y hG hM h7, bnd_s, gd_t, if_pos, if_neg, in_s, reduceIte]
  · simp (disch := omega) only [f_X8_isPlace, lacks_n hG hM h7, bnd_s, gd_t, if_neg]
theorem isTe7_y {N : Nat} {u : Nat → Nat} {R : Nat → Row} {M : Mem} {v : Int} (hC : IC u R M) (hv : 0 ≤ v ∧ v < (u 1 : Int)) : f_X7_isTenant N 1 v M = some (1, M) := by
  have e : M 44 3 = (u 1 : Int) := hC.2.1.1.1
  have h5 := hC.2.1.1.2.1
  simp (disch := omega) only [f_X7_isTenant, c11, gd_t, if_neg, e]
theorem isTe7_n {N : Nat} {u : Nat → Nat} {R : Nat → Row} {M : Mem} {v : Int} (hC : IC u R M) (hi : inR v) (hv : ¬ (0 ≤ v ∧ v < (u 1 : Int))) : f_X7_isTenant N 1 v M = some (0, M) := by
  have e : M 44 3 = (u 1 : Int) := hC.2.1.1.1
  have h5 := hC.2.1.1.2.1
  by_cases c : v < 0
  · simp (disch := omega) only [f_X7_isTenant, c11, gd_t, if_pos, e]
  · simp (disch := omega) only [f_X7_isTenant, c11, gd_t, if_pos, if_neg, e]
theorem isTe8_y {N : Nat} {u : Nat → Nat} {R : Nat → Row} {W : Mem} {v : Int} (hM : IM u R W) (hv : 0 ≤ v ∧ v < (u 1 : Int)) : f_X8_isTenant N 2 v W = some (1, W) := by
  have e := hM.2.1.1
  have h5 := hM.2.1.2.1
  simp (disch := omega) only [f_X8_isTenant, e, bnd_s, gd_t, if_pos, in_s]
  exact gd_t (Or.inr trivial)
theorem isTe8_n {N : Nat} {u : Nat → Nat} {R : Nat → Row} {W : Mem} {v : Int} (hM : IM u R W) (hi : inR v) (hv : ¬ (0 ≤ v ∧ v < (u 1 : Int))) : f_X8_isTenant N 2 v W = some (0, W) := by
  have e := hM.2.1.1
  have h5 := hM.2.1.2.1
  simp (disch := omega) only [f_X8_isTenant, e, bnd_s, gd_t, if_neg, in_s]
  exact gd_t (Or.inl trivial)
