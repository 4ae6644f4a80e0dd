/-! the digest: both say the same numbers in the same order -/
theorem lpW (lo : Nat) {σ τ α β : Type} (F7 : Nat → Int → σ → α) (F8 : Nat → Int → τ → β) (X7 : σ → α) (X8 : τ → β) (I : σ → τ → Prop) (e : Nat)
    (hs : ∀ k s w, lo ≤ k → k < e → I s w → ∃ s' w', I s' w' ∧ (∀ n, F7 (n + 1) (k : Int) s = F7 n ((k : Int) + 1) s') ∧ ∀ n, F8 (n + 1) (k : Int) w = F8 n ((k : Int) + 1) w')
    (hx : ∀ s w, I s w → (∀ n, F7 (n + 1) (e : Int) s = X7 s) ∧ ∀ n, F8 (n + 1) (e : Int) w = X8 w) :
    ∀ (j k n7 n8 : Nat) (s : σ) (w : τ), lo ≤ k → k + j = e → j < n7 → j < n8 → I s w → ∃ s' w', I s' w' ∧ F7 n7 (k : Int) s = X7 s' ∧ F8 n8 (k : Int) w = X8 w' := by
  intro j
  induction j with
  | zero =>
    intro k n7 n8 s w hlo hk h7 h8 hI
    obtain ⟨n7, rfl⟩ : ∃ n', n7 = n' + 1 := ⟨n7 - 1, by omega⟩
    obtain ⟨n8, rfl⟩ : ∃ n', n8 = n' + 1 := ⟨n8 - 1, by omega⟩
    have : k = e := by omega
    subst this
    exact ⟨s, w, hI, (hx s w hI).1 n7, (hx s w hI).2 n8⟩
  | succ j ih =>
    intro k n7 n8 s w hlo hk h7 h8 hI
    obtain ⟨n7, rfl⟩ : ∃ n', n7 = n' + 1 := ⟨n7 - 1, by omega⟩
    obtain ⟨n8, rfl⟩ : ∃ n', n8 = n' + 1 := ⟨n8 - 1, by omega⟩
    obtain ⟨s', w', hI', e7, e8⟩ := hs k s w hlo (by omega) hI
    obtain ⟨s2, w2, hI2, g7, g8⟩ := ih (k + 1) n7 n8 s' w' (by omega) (by omega) (by omega) (by omega) hI'
    refine ⟨s2, w2, hI2, ?_, ?_⟩
    · rw [e7, ← g7]; congr 1
    · rw [e8, ← g8]; congr 1
theorem IM.s29 {u : Nat → Nat} {R : Nat → Row} {W : Mem} (h : IM u R W) (x : Int) : IM u R (st W 2 29 x) := by
  have f : ∀ a, a ≠ 2 → (st W 2 29 x) a = W a := fun a ha => st_ne _ _ _ _ ha
  have f2 : ∀ k, k ≠ 29 → (st W 2 29 x) 2 k = W 2 k := fun k hk => by rw [st_same]; simp only [if_neg hk]
  unfold IM MdOK Kn8 KsM KkM at *
  rw [f (ch 2 0) (by decide), f (ch 2 8) (by decide), f (ch 2 10) (by decide), f (ch 2 17) (by decide), f (ch 2 26) (by decide), f (ch 2 27) (by decide), f (ch 2 28) (by decide),
    f2 1 (by decide), f2 2 (by decide), f2 3 (by decide), f2 4 (by decide), f2 5 (by decide), f2 6 (by decide), f2 7 (by decide), f2 9 (by decide), f2 14 (by decide), f2 16 (by decide), f2 20 (by decide), f2 21 (by decide), f2 22 (by decide), f2 23 (by decide), f2 24 (by decide), f2 25 (by decide)]
  exact h
def DG (u : Nat → Nat) (R : Nat → Row) (M0 W0 : Mem) (s : Int × Mem) (w : Mem) : Prop := w 2 29 = s.1 ∧ IC u R s.2 ∧ IM u R w ∧ FC M0 s.2 ∧ FB W0 w
theorem DG.say {u : Nat → Nat} {R : Nat → Row} {M0 W0 : Mem} {h r : Int} {M M' W W' : Mem} (hD : DG u R M0 W0 (h, M) W) (f1 : FC M M') (f2 : FM W W') : DG u R M0 W0 (31 * h + r, M') (st W' 2 29 (31 * h + r)) ∧ W' 2 29 = h := by
  obtain ⟨h1, h2, h3, h4, h5⟩ := hD
  dsimp only at h1 h2 h3 h4 h5
  refine ⟨⟨by rw [st_same]; simp, h2.fc f1, (h3.fm f2).s29 _, h4.tr f1, (h5.tr f2.fb).st (by decide)⟩, ?_⟩
  rw [f2.2 29 (by decide) (by decide)]
  exact h1
theorem dg_ask {u : Nat → Nat} {R : Nat → Row} {M0 W0 : Mem} {h : Int} {M W : Mem} {f7 f8 : Mem → Option (Int × Mem)} (hD : DG u R M0 W0 (h, M) W) (hA : Ask u R f7 f8) : ∃ (r : Int) (M' W' : Mem), f7 M = some (r, M') ∧ f8 W = some (r, W') ∧ inR r ∧ W' 2 29 = h ∧ DG u R M0 W0 (31 * h + r, M') (st W' 2 29 (31 * h + r)) := by
  obtain ⟨r, M', W', e1, e2, hr, f1, f2⟩ := hA M W hD.2.1 hD.2.2.1
  have := hD.say (r := r) f1 f2
  exact ⟨r, M', W', e1, e2, hr, this.2, this.1⟩
theorem dg1 {N b : Nat} {u : Nat → Nat} {R : Nat → Row} {M0 W0 : Mem} (hN : 200 ≤ N) (hG : GG b u R) (h7 : u 7 = 1) {s : Int × Mem} {w : Mem} (hD : DG u R M0 W0 s w) : ∃ s' w', DG u R M0 W0 s' w' ∧ f_X7_mixPlaces_5 N 1 919 N s.1 0 s.2 = some s' ∧ f_X8_digest_9 N 2 N 0 w = f_X8_digest_55 N 2 N 0 w' := by
  have inner : ∀ p : Nat, p < 6 → ∀ s w, DG u R M0 W0 s w → ∃ s' w', DG u R M0 W0 s' w' ∧ (∀ k5, f_X7_mixPlaces_15 N 1 919 k5 N s.1 (p : Int) 0 s.2 = k5 s'.1 ((p : Int) + 1) s'.2) ∧ ∀ k9, f_X8_digest_24 N 2 k9 N (p : Int) 0 w = k9 ((p : Int) + 1) w' := by
    intro p hp s w hD
    obtain ⟨s', w', hI, e7, e8⟩ := lpW 0 (fun n q (s : Int × Mem) => fun k5 => f_X7_mixPlaces_15 N 1 919 k5 n s.1 (p : Int) q s.2) (fun n q (w : Mem) => fun k9 => f_X8_digest_24 N 2 k9 n (p : Int) q w) (fun s => fun k5 => k5 s.1 ((p : Int) + 1) s.2) (fun w => fun k9 => k9 ((p : Int) + 1) w) (DG u R M0 W0) 6
      (fun q s w _ hq hD => by
        obtain ⟨h, M⟩ := s
        obtain ⟨r, M', W', e1, e2, hr, e3, hD'⟩ := dg_ask hD (ask_pl (N := N) (p := p) (q := (q : Int)) hN hG h7 hp (by omega))
        refine ⟨_, _, hD', fun n => ?_, fun n => ?_⟩
        · funext k5
          simp (disch := omega) only [f_X7_mixPlaces_15, f_X7_mix, gd_t, if_neg, e1, bnd_s]
        · funext k9
          simp (disch := omega) only [f_X8_digest_24, f_X8_say, gd_t, if_neg, e2, bnd_s, bnv_s, e3])
      (fun s w hD => ⟨fun n => by
        funext k5
        simp (disch := omega) only [f_X7_mixPlaces_15, gd_t, if_pos], fun n => by
        funext k9
        simp (disch := omega) only [f_X8_digest_24, gd_t, if_pos]⟩) 6 0 N N s w (by omega) rfl (by omega) (by omega) hD
    exact ⟨s', w', hI, fun k5 => congrFun e7 k5, fun k9 => congrFun e8 k9⟩
  obtain ⟨s', w', hI, e7, e8⟩ := lpW 0 (fun n p (s : Int × Mem) => f_X7_mixPlaces_5 N 1 919 n s.1 p s.2) (fun n p (w : Mem) => f_X8_digest_9 N 2 n p w) (fun s => some s) (fun w => f_X8_digest_55 N 2 N 0 w) (DG u R M0 W0) 6
    (fun p s w h10 hp hD => by
      obtain ⟨s', w', hI, e7, e8⟩ := inner p hp s w hD
      refine ⟨s', w', hI, fun n => ?_, fun n => ?_⟩
      · simp (disch := omega) only [f_X7_mixPlaces_5, gd_t, if_neg]
        exact e7 _
      · simp (disch := omega) only [f_X8_digest_9, gd_t, if_neg, if_pos, reduceIte, lacks_y hG hD.2.2.1 h7, bnd_s]
        exact e8 _)
    (fun s w hD => ⟨fun n => by simp (disch := omega) only [f_X7_mixPlaces_5, gd_t, if_pos], fun n => by simp (disch := omega) only [f_X8_digest_9, gd_t, if_pos]⟩) 6 0 N N s w (by omega) rfl (by omega) (by omega) hD
  exact ⟨s', w', hI, e7, e8⟩
theorem dg5 {N b : Nat} {u : Nat → Nat} {R : Nat → Row} {M0 W0 : Mem} (hN : 200 ≤ N) (hb : b ≤ 1000) (hG : GG b u R) {s : Int × Mem} {w : Mem} (hD : DG u R M0 W0 s w) : ∃ s' w', DG u R M0 W0 s' w' ∧ f_X7_digest_119 N 1 N s.1 0 s.2 = some s' ∧ f_X8_digest_134 N 2 N 0 w = some (w' 2 29, w') := by
  obtain ⟨s', w', hI, e7, e8⟩ := lpW 0 (fun n p (s : Int × Mem) => f_X7_digest_119 N 1 n s.1 p s.2) (fun n p (w : Mem) => f_X8_digest_134 N 2 n p w) (fun s => some s) (fun w => some (w 2 29, w)) (DG u R M0 W0) 13
    (fun p s w h10 hp hD => by
      obtain ⟨h, M⟩ := s
      obtain ⟨r, M', W', e1, e2, hr, e3, hD'⟩ := dg_ask hD (ask_ct (N := N) (c := (p : Int)) hN hb hG (by omega))
      refine ⟨_, _, hD', fun n => ?_, fun n => ?_⟩
      · simp (disch := omega) only [f_X7_digest_119, f_X7_mix, gd_t, if_neg, e1, bnd_s]
      · simp (disch := omega) only [f_X8_digest_134, f_X8_say, gd_t, if_neg, e2, bnd_s, bnv_s, e3])
    (fun s w hD => ⟨fun n => by simp (disch := omega) only [f_X7_digest_119, gd_t, if_pos], fun n => by simp (disch := omega) only [f_X8_digest_134, gd_t, if_pos]⟩) 13 0 N N s w (by omega) rfl (by omega) (by omega) hD
  exact ⟨s', w', hI, e7, e8⟩
theorem dg4 {N : Nat} {u : Nat → Nat} {R : Nat → Row} {M0 W0 : Mem} (hN : 200 ≤ N) {s : Int × Mem} {w : Mem} (hD : DG u R M0 W0 s w) : ∃ s' w', DG u R M0 W0 s' w' ∧ f_X7_digest_79 N 1 N s.1 0 s.2 = f_X7_digest_119 N 1 N s'.1 0 s'.2 ∧ f_X8_digest_107 N 2 N 0 w = f_X8_digest_134 N 2 N 0 w' := by
  have h12 := hD.2.1.1.2.1
  obtain ⟨s', w', hI, e7, e8⟩ := lpW 0 (fun n p (s : Int × Mem) => f_X7_digest_79 N 1 n s.1 p s.2) (fun n p (w : Mem) => f_X8_digest_107 N 2 n p w) (fun s => f_X7_digest_119 N 1 N s.1 0 s.2) (fun w => f_X8_digest_134 N 2 N 0 w) (DG u R M0 W0) (u 0)
    (fun i s w _ hi hD => by
      obtain ⟨h, M⟩ := s
      obtain ⟨p1, p2, p3⟩ := hD.2.1.1
      obtain ⟨w1, w2⟩ := hD.2.2.1.1
      dsimp only at p1 p3
      obtain ⟨x1, x2⟩ := p3 i hi
      have y1 := w2 i hi
      have hs := hD.say (r := R 0 i) (FC.rf M) (FM.rf w)
      refine ⟨_, _, hs.1, fun n => ?_, fun n => ?_⟩
      · simp (disch := omega) only [f_X7_digest_79, f_X7_mix, gd_t, if_neg, c10, p1, tn_c, x1, bnd_s]
      · simp (disch := omega) only [f_X8_digest_107, f_X8_say, gd_t, if_neg, w1, tn_c, y1, bnd_s, bnv_s, hs.2])
    (fun s w hD => by
      obtain ⟨p1, p2, p3⟩ := hD.2.1.1
      obtain ⟨w1, w2⟩ := hD.2.2.1.1
      exact ⟨fun n => by simp (disch := omega) only [f_X7_digest_79, gd_t, c10, p1, if_pos], fun n => by simp (disch := omega) only [f_X8_digest_107, gd_t, w1, if_pos]⟩) (u 0) 0 N N s w (by omega) (by omega) (by omega) (by omega) hD
  exact ⟨s', w', hI, e7, e8⟩
theorem dg3 {N b : Nat} {u : Nat → Nat} {R : Nat → Row} {M0 W0 : Mem} (hN : 200 ≤ N) (hG : GG b u R) (h7 : u 7 = 1) {s : Int × Mem} {w : Mem} (hD : DG u R M0 W0 s w) : ∃ s' w', DG u R M0 W0 s' w' ∧ f_X7_mixWouldBe N 1 s.1 s.2 = some s' ∧ f_X8_sayGallery N 2 w = some w' := by
  obtain ⟨h, M⟩ := s
  obtain ⟨r1, M1, W1, a1, a2, a3, a4, a5⟩ := dg_ask hD (ask_ho (N := N) hN hG h7)
  obtain ⟨r2, M2, W2, b1, b2, b3, b4, b5⟩ := dg_ask a5 (ask_ou (N := N) hN hG h7)
  obtain ⟨r3, M3, W3, c1, c2, c3, c4, c5⟩ := dg_ask b5 (ask_pr (N := N) (d := 5) (w := 0) hN hG h7 (by omega) (by omega))
  obtain ⟨s', w', hI, e7, e8⟩ := lpW 10 (fun n p (s : Int × Mem) => f_X7_mixWouldBe_34 N 1 h n s.1 p s.2) (fun n p (w : Mem) => f_X8_sayGallery_32 N 2 n p w) (fun s => some s) (fun w => some w) (DG u R M0 W0) 16
    (fun p s w h10 hp hD => by
      obtain ⟨h, M⟩ := s
      obtain ⟨r, M', W', e1, e2, hr, e3, hD'⟩ := dg_ask hD (ask_pr (N := N) (d := 5) (w := (p : Int)) hN hG h7 (by omega) (by omega))
      refine ⟨_, _, hD', fun n => ?_, fun n => ?_⟩
      · simp (disch := omega) only [f_X7_mixWouldBe_34, f_X7_mix, gd_t, if_neg, e1, bnd_s]
      · simp (disch := omega) only [f_X8_sayGallery_32, f_X8_say, gd_t, if_neg, e2, bnd_s, bnv_s, e3])
    (fun s w hD => ⟨fun n => by simp (disch := omega) only [f_X7_mixWouldBe_34, gd_t, if_pos], fun n => by simp (disch := omega) only [f_X8_sayGallery_32, gd_t, if_pos]⟩) 6 10 N N _ _ (by omega) rfl (by omega) (by omega) c5
  refine ⟨s', w', hI, ?_, ?_⟩
  · simp (disch := omega) only [f_X7_mixWouldBe, f_X7_mix, gd_t, a1, b1, c1, bnd_s]
    exact e7
  · simp (disch := omega) only [f_X8_sayGallery, f_X8_say, gd_t, a2, b2, c2, a4, b4, c4, bnd_s, bnv_s]
    exact e8
theorem dg2 {N b : Nat} {u : Nat → Nat} {R : Nat → Row} {M0 W0 : Mem} (hN : 200 ≤ N) (hG : GG b u R) {s : Int × Mem} {w : Mem} (hD : DG u R M0 W0 s w) : ∃ s' w', DG u R M0 W0 s' w' ∧ f_X7_digest_19 N 1 N s.1 0 s.2 = f_X7_digest_79 N 1 N s'.1 0 s'.2 ∧ f_X8_digest_55 N 2 N 0 w = f_X8_digest_107 N 2 N 0 w' := by
  have h5 := hD.2.1.st.2.1
  have inner : ∀ t : Nat, t < u 1 → ∀ s w, DG u R M0 W0 s w → ∃ s' w', DG u R M0 W0 s' w' ∧ (∀ k5, f_X7_digest_33 N 1 k5 N s.1 (t : Int) 0 s.2 = k5 s'.1 ((t : Int) + 1) s'.2) ∧ ∀ k9, f_X8_digest_65 N 2 k9 N (t : Int) 0 w = k9 ((t : Int) + 1) w' := by
    intro p hp s w hD
    obtain ⟨s', w', hI, e7, e8⟩ := lpW 0 (fun n q (s : Int × Mem) => fun k5 => f_X7_digest_33 N 1 k5 n s.1 (p : Int) q s.2) (fun n q (w : Mem) => fun k9 => f_X8_digest_65 N 2 k9 n (p : Int) q w) (fun s => fun k5 => k5 s.1 ((p : Int) + 1) s.2) (fun w => fun k9 => k9 ((p : Int) + 1) w) (DG u R M0 W0) 6
      (fun q s w _ hq hD => by
        obtain ⟨h, M⟩ := s
        obtain ⟨r, M', W', e1, e2, hr, e3, hD'⟩ := dg_ask hD (ask_ab (N := N) (t := p) (q := (q : Int)) hN hG hp (by omega))
        refine ⟨_, _, hD', fun n => ?_, fun n => ?_⟩
        · funext k5
          simp (disch := omega) only [f_X7_digest_33, f_X7_mix, gd_t, if_neg, e1, bnd_s]
        · funext k9
          simp (disch := omega) only [f_X8_digest_65, f_X8_say, gd_t, if_neg, e2, bnd_s, bnv_s, e3])
      (fun s w hD => ⟨fun n => by
        funext k5
        simp (disch := omega) only [f_X7_digest_33, gd_t, if_pos], fun n => by
        funext k9
        simp (disch := omega) only [f_X8_digest_65, gd_t, if_pos]⟩) 6 0 N N s w (by omega) rfl (by omega) (by omega) hD
    exact ⟨s', w', hI, fun k5 => congrFun e7 k5, fun k9 => congrFun e8 k9⟩
  obtain ⟨s1, w1, hI, e7, e8⟩ := lpW 0 (fun n p (s : Int × Mem) => f_X7_digest_19 N 1 n s.1 p s.2) (fun n p (w : Mem) => f_X8_digest_55 N 2 n p w) (fun s => if u 7 = 1 then bnd (f_X7_mixWouldBe N 1 s.1 s.2) (fun r M => f_X7_digest_79 N 1 N r 0 M) else f_X7_digest_79 N 1 N s.1 0 s.2) (fun w => if u 7 = 1 then bnv (f_X8_sayGallery N 2 w) (fun M => f_X8_digest_107 N 2 N 0 M) else f_X8_digest_107 N 2 N 0 w) (DG u R M0 W0) (u 1)
    (fun p s w h10 hp hD => by
      obtain ⟨s', w', hI, e7, e8⟩ := inner p hp s w hD
      have t3 : s.2 44 3 = (u 1 : Int) := hD.2.1.st.1
      have w9 := hD.2.2.1.2.1.1
      refine ⟨s', w', hI, fun n => ?_, fun n => ?_⟩
      · simp (disch := omega) only [f_X7_digest_19, gd_t, c11, t3, if_neg]
        exact e7 _
      · simp (disch := omega) only [f_X8_digest_55, gd_t, w9, if_neg]
        exact e8 _)
    (fun s w hD => by
      have t3 : s.2 44 3 = (u 1 : Int) := hD.2.1.st.1
      have w9 := hD.2.2.1.2.1.1
      have t9 := has7 hD.2.1
      have h1 := hG.1
      by_cases h7 : u 7 = 1
      · have t9' : s.2 1 9 = 1 := by rw [t9, h7]; rfl
        refine ⟨fun n => ?_, fun n => ?_⟩
        · simp (disch := omega) only [f_X7_digest_19, gd_t, c11, t3, t9', if_pos, if_neg, h7, reduceIte]
        · simp (disch := omega) only [f_X8_digest_55, gd_t, w9, if_pos, if_neg, lacks_y hG hD.2.2.1 h7, bnd_s, h7, reduceIte]
      · have t9' : s.2 1 9 = 0 := by omega
        refine ⟨fun n => ?_, fun n => ?_⟩
        · simp (disch := omega) only [f_X7_digest_19, gd_t, c11, t3, t9', if_pos, if_neg, reduceIte]
        · simp (disch := omega) only [f_X8_digest_55, gd_t, w9, if_pos, if_neg, lacks_n hG hD.2.2.1 h7, bnd_s, reduceIte]) (u 1) 0 N N s w (by omega) (by omega) (by omega) (by omega) hD
  by_cases h7 : u 7 = 1
  · obtain ⟨s2, w2, hI2, g7, g8⟩ := dg3 (N := N) hN hG h7 hI
    refine ⟨s2, w2, hI2, ?_, ?_⟩
    · refine Eq.trans e7 ?_
      rw [if_pos h7, g7]
      rfl
    · refine Eq.trans e8 ?_
      rw [if_pos h7, g8]
      rfl
  · refine ⟨s1, w1, hI, ?_, ?_⟩
    · refine Eq.trans e7 ?_
      rw [if_neg h7]
    · refine Eq.trans e8 ?_
      rw [if_neg h7]
def BothL (f7 f8 : Mem → Option (Int × Mem)) : Prop := ∀ (b : Nat) (M W : Mem), b ≤ 1000 → Rel b M W → ∃ (r : Int) (M' W' : Mem), f7 M = some (r, M') ∧ f8 W = some (r, W') ∧ Rel (b + 1) M' W' ∧ FA M M' ∧ FB W W'
theorem op_digest {N : Nat} (hN : 200 ≤ N) : BothL (f_X7_digest N 1) (f_X8_digest N 2) := by
  rintro b M W hb ⟨u, R, hG, hC, hM⟩
  have t9 := has7 hC
  have h1 := hG.1
  have hD0 : DG u R M W (919, M) (st W 2 29 919) := ⟨by rw [st_same]; simp, hC, hM.s29 919, FC.rf M, (FB.rf W).st (by decide)⟩
  obtain ⟨s1, w1, hI1, e7, e8⟩ : ∃ s' w', DG u R M W s' w' ∧ f_X7_digest N 1 M = f_X7_digest_19 N 1 N s'.1 0 s'.2 ∧ f_X8_digest N 2 W = f_X8_digest_55 N 2 N 0 w' := by
    by_cases h7 : u 7 = 1
    · obtain ⟨s', w', hI, e7, e8⟩ := dg1 (N := N) hN hG h7 hD0
      have t9' : M 1 9 = 1 := by rw [t9, h7]; rfl
      refine ⟨s', w', hI, ?_, by unfold f_X8_digest; exact e8⟩
      have e7' : f_X7_mixPlaces N 1 919 M = some (s'.1, s'.2) := e7
      simp (disch := omega) only [f_X7_digest, gd_t, t9', if_neg, e7', bnd_s]
    · have t9' : M 1 9 = 0 := by omega
      refine ⟨(919, M), st W 2 29 919, hD0, ?_, ?_⟩
      · simp (disch := omega) only [f_X7_digest, gd_t, t9', if_pos, reduceIte]
      · obtain ⟨n, rfl⟩ : ∃ n', N = n' + 1 := ⟨N - 1, by omega⟩
        rw [f_X8_digest, f_X8_digest_9]
        simp (disch := omega) only [gd_t, if_neg, lacks_n hG hD0.2.2.1 h7, bnd_s]
  obtain ⟨s2, w2, hI2, f7, f8⟩ := dg2 (N := N) hN hG hI1
  obtain ⟨s3, w3, hI3, g7, g8⟩ := dg4 (N := N) hN hI2
  obtain ⟨s4, w4, ⟨k1, k2, k3, k4, k5⟩, i7, i8⟩ := dg5 (N := N) hN hb hG hI3
  refine ⟨s4.1, s4.2, w4, ?_, ?_, ⟨u, R, hG.up (by omega), k2, k3⟩, k4.fa, k5⟩
  · rw [e7, f7, g7, i7]
  · rw [e8, f8, g8, i8, k1]
theorem BothL.step {f7 f8 : Mem → Option (Int × Mem)} (h : BothL f7 f8) {b : Nat} {M : Mem} (hb : b ≤ 1000) (hR : Rel b M M) : ∃ (r : Int) (M' W' : Mem), f7 M = some (r, M') ∧ f8 M' = some (r, W') ∧ Rel (b + 1) W' W' := by
  obtain ⟨r0, M0, W0, e1, -, -, f1, -⟩ := h b M M hb hR
  obtain ⟨u, R, hG, hC, hM⟩ := hR
  obtain ⟨r, M', W', g1, g2, ⟨u', R', hG', hC', hM'⟩, f2, f3⟩ := h b M M0 hb ⟨u, R, hG, hC, hM.fa f1⟩
  rw [e1] at g1
  cases g1
  exact ⟨r0, M0, W', e1, g2, u', R', hG', hC'.fb f3, hM'⟩
