theorem i32_in (z : Int32) : inR z.toInt := ⟨by have := z.le_toInt; omega, by have := z.toInt_lt; omega⟩
theorem rel0 : Rel 0 M0 M0 := by
  refine ⟨fun _ => 0, fun _ _ => 0, ⟨by simp, by simp, by simp, by simp, ⟨by simp, by simp, fun j _ _ => by simp⟩, by simp, fun q => by simp at q⟩, ⟨⟨rfl, by simp, fun i hi => by simp at hi⟩, ⟨⟨rfl, by simp, ⟨fun p _ => ⟨rfl, by simp, by simp⟩, fun p _ => ⟨rfl, by show (0 : Int) ≤ 0 ∧ (0 : Int) ≤ 20; omega⟩⟩, fun t ht => by simp at ht⟩, fun j _ _ => rfl⟩, ⟨rfl, by simp, fun i hi => by simp at hi⟩, fun q => by simp at q, rfl, rfl, rfl, rfl⟩, ⟨⟨rfl, fun i hi => by simp at hi⟩, ⟨rfl, by simp, fun p _ => ⟨rfl, by simp, by simp⟩, fun t ht => by simp at ht⟩, ⟨rfl, rfl, rfl, rfl, rfl⟩, ⟨rfl, by simp, fun i hi => by simp at hi⟩, ⟨rfl, rfl, ?_, ?_, fun _ => ?_⟩, fun q => by simp at q⟩⟩
  · exact Int.le_refl (-1)
  · show (-1 : Int) ≤ 0; omega
  · show (-1 : Int) ≠ 0; omega
theorem law_s {N L : Nat} {xs : Nat → Int32} (hN : 8000 ≤ N) (hL : L ≤ 256) : ∀ (n i b : Nat) (M : Mem), 1 ≤ n → L < i + n → b ≤ i → i ≤ L + 4 → Rel b M M → f_L_law_18 N L xs n (i : Int) M = some 1 := by
  intro n
  induction n with
  | zero => intro i b M h; omega
  | succ n ih =>
    intro i b M _ hn hb hi hR
    rw [f_L_law_18]
    by_cases c : (L : Int) - 4 < (i : Int)
    · simp (disch := omega) only [gd_t, if_pos]
    · have e4 : (i : Int) + 4 = ((i + 4 : Nat) : Int) := by omega
      have go : ∀ M', Rel (b + 1) M' M' → f_L_law_18 N L xs n ((i + 4 : Nat) : Int) M' = some 1 := fun M' h => ih (i + 4) (b + 1) M' (by omega) (by omega) (by omega) (by omega) h
      have go0 : f_L_law_18 N L xs n ((i + 4 : Nat) : Int) M = some 1 := ih (i + 4) b M (by omega) (by omega) (by omega) (by omega) hR
      have N2 : 200 ≤ N := by omega
      have hb2 : b ≤ 1000 := by omega
      have x1 := i32_in (xs ((i : Int) + 1).toNat)
      have x2 := i32_in (xs ((i : Int) + 2).toNat)
      have x3 := i32_in (xs ((i : Int) + 3).toNat)
      generalize i_and ((xs (i : Int).toNat).toInt) 31 = o
      generalize hy1 : (xs ((i : Int) + 1).toNat).toInt = y1 at x1 ⊢
      generalize hy2 : (xs ((i : Int) + 2).toNat).toInt = y2 at x2 ⊢
      by_cases co : o < 0 ∨ 21 < o
      · simp (disch := omega) only [gd_t, if_neg, if_pos, e4, go0]
      · have key : ∀ {f7 f8 : Mem → Option (Int × Mem)}, Both f7 f8 → bnd (f7 M) (fun r M1 => bnd (f8 M1) (fun r2 M2 => gd (inR r) (gd (inR r2) (if r = r2 then (f_L_law_18 N L xs n ((i + 4 : Nat) : Int) M2) else (some 0))))) = some 1 := fun hB => by
          obtain ⟨r, M', W', g1, g2, g3, g4⟩ := hB.step hb2 hR
          rw [g1, bnd_s, g2, bnd_s, gd_t g3, gd_t g3, if_pos rfl]
          exact go _ g4
        have keyL : ∀ {f7 f8 : Mem → Option (Int × Mem)}, BothL f7 f8 → bnd (f7 M) (fun r M1 => bnd (f8 M1) (fun r2 M2 => gd (r = r2 ∨ (inL r ∧ inL r2)) (if l_cmp r r2 = 0 then (f_L_law_18 N L xs n ((i + 4 : Nat) : Int) M2) else (some 0)))) = some 1 := fun hB => by
          obtain ⟨r, M', W', g1, g2, g4⟩ := hB.step hb2 hR
          have lc : l_cmp r r = 0 := by unfold l_cmp; rw [if_neg (by omega), if_pos rfl]
          rw [g1, bnd_s, g2, bnd_s, gd_t (Or.inl rfl), if_pos lc]
          exact go _ g4
        rcases (show o = 0 ∨ o = 1 ∨ o = 2 ∨ o = 3 ∨ o = 4 ∨ o = 5 ∨ o = 6 ∨ o = 7 ∨ o = 8 ∨ o = 9 ∨ o = 10 ∨ o = 11 ∨ o = 12 ∨ o = 13 ∨ o = 14 ∨ o = 15 ∨ o = 16 ∨ o = 17 ∨ o = 18 ∨ o = 19 ∨ o = 20 ∨ o = 21 by omega) with rfl | rfl | rfl | rfl | rfl | rfl | rfl | rfl | rfl | rfl | rfl | rfl | rfl | rfl | rfl | rfl | rfl | rfl | rfl | rfl | rfl | rfl
        · simp (disch := omega) only [gd_t, if_neg, if_pos, reduceIte, e4]; exact key (op_letter x1)
        · simp (disch := omega) only [gd_t, if_neg, if_pos, reduceIte, e4]; exact key op_blank
        · simp (disch := omega) only [gd_t, if_neg, if_pos, reduceIte, e4]; exact key (op_fault N2)
        · simp (disch := omega) only [gd_t, if_neg, if_pos, reduceIte, e4]; exact key (op_gallery N2)
        · simp (disch := omega) only [gd_t, if_neg, if_pos, reduceIte, e4]; exact key (op_place N2 x1 x2)
        · simp (disch := omega) only [gd_t, if_neg, if_pos, reduceIte, e4]; exact key (op_prop x1)
        · simp (disch := omega) only [gd_t, if_neg, if_pos, reduceIte, e4]; exact key (op_tenant x1 x2)
        · simp (disch := omega) only [gd_t, if_neg, if_pos, reduceIte, e4]; exact key (op_about N2 x1 x2)
        · simp (disch := omega) only [gd_t, if_neg, if_pos, reduceIte, e4]; exact key (op_as x1 x2)
        · simp (disch := omega) only [gd_t, if_neg, if_pos, reduceIte, e4]; exact key (op_move N2 x1 x2)
        · simp (disch := omega) only [gd_t, if_neg, if_pos, reduceIte, e4]; exact key (op_day N2)
        · simp (disch := omega) only [gd_t, if_neg, if_pos, reduceIte, e4]; exact key (op_holds N2)
        · simp (disch := omega) only [gd_t, if_neg, if_pos, reduceIte, e4]; exact key (op_where hN x1)
        · simp (disch := omega) only [gd_t, if_neg, if_pos, reduceIte, e4]; exact key (op_props N2 x1 x2)
        · simp (disch := omega) only [gd_t, if_neg, if_pos, reduceIte, e4]; exact key (op_out N2)
        · generalize hy3 : (xs ((i : Int) + 3).toNat).toInt = y3 at x3 ⊢
          by_cases z : y3 = 0
          · simp (disch := omega) only [gd_t, if_neg, if_pos, reduceIte, e4, f_L_law_505, f_L_law_532, z, hy1, hy2, hy3]
            exact key (op_knock x1 x2 (Or.inl rfl))
          · simp (disch := omega) only [gd_t, if_neg, if_pos, reduceIte, e4, f_L_law_505, f_L_law_532, z, hy1, hy2, hy3]
            exact key (op_knock x1 x2 (Or.inr rfl))
        · simp (disch := omega) only [gd_t, if_neg, if_pos, reduceIte, e4]; exact key op_forget
        · simp (disch := omega) only [gd_t, if_neg, if_pos, reduceIte, e4]; exact key (op_years N2 x1 x2 x3)
        · simp (disch := omega) only [gd_t, if_neg, if_pos, reduceIte, e4]; exact key (op_image N2)
        · simp (disch := omega) only [gd_t, if_neg, if_pos, reduceIte, e4]; exact key (op_restore N2)
        · simp (disch := omega) only [gd_t, if_neg, if_pos, reduceIte, e4]; exact key (op_count N2 x1)
        · simp (disch := omega) only [gd_t, if_neg, if_pos, reduceIte, e4]; exact keyL (op_digest N2)
theorem pure_law (L : Nat) (xs : Nat → Int32) (hL : L ≤ 256) : ∃ N n, f_L_law_18 N L xs n 0 M0 = some 1 :=
  ⟨8000, 300, law_s (Nat.le_refl 8000) hL 300 0 0 M0 (by omega) (by omega) (by omega) (by omega) rel0⟩
