section RW
variable {g : GP} {p : Program} {l : Launch} {e : Env} {R : Room} {s : State} {m : MethodId} {args : Array Value} {below : List Frame} {meth : Method} {c : Code} {H : Heap} {locs : List Loc} {cells slots : Nat} {Q : State → Prop}
variable {cc : ByteArray} {nL : Nat} {own : String} {pc : Nat} {ls : Array Slot} {rest : List Value} {M : Mem} {lv : List (Nat × Value)} {β : Type} {res : β}
theorem r_gd {c : Prop} {dc : Decidable c} {k : Option β} {G : Prop} (h : @gd β c dc k = some res) (kk : c → k = some res → G) : G := by
  unfold gd at h
  by_cases hc : c
  · rw [if_pos hc] at h; exact kk hc h
  · rw [if_neg hc] at h; cases h
theorem r_if {c : Prop} {dc : Decidable c} {A B : Option β} {G : Prop} (h : (@ite (Option β) c dc A B) = some res) (kt : c → A = some res → G) (kf : ¬ c → B = some res → G) : G := by
  by_cases hc : c
  · rw [if_pos hc] at h; exact kt hc h
  · rw [if_neg hc] at h; exact kf hc h
theorem r_iconst (C : Cx g p s m args c cc nL own) {n : Int} (hd : decode cc pc = .ok (.iconst n, 1)) (k : W p l e R s m args below meth c H locs cells slots Q (F0 m (pc + 1) ls (iI n :: rest))) : W p l e R s m args below meth c H locs cells slots Q (F0 m pc ls rest) :=
  lv_iconst C.1 C.2.1 hd rfl k
theorem r_bipush (C : Cx g p s m args c cc nL own) {n : Int} (hd : decode cc pc = .ok (.bipush n, 2)) (hn : (Int8.ofInt n).toInt32 = Int32.ofInt n) (k : W p l e R s m args below meth c H locs cells slots Q (F0 m (pc + 2) ls (iI n :: rest))) : W p l e R s m args below meth c H locs cells slots Q (F0 m pc ls rest) :=
  lv_bipush C.1 C.2.1 hd hn k
theorem r_sipush (C : Cx g p s m args c cc nL own) {n : Int} (hd : decode cc pc = .ok (.sipush n, 3)) (hn : (Int16.ofInt n).toInt32 = Int32.ofInt n) (k : W p l e R s m args below meth c H locs cells slots Q (F0 m (pc + 3) ls (iI n :: rest))) : W p l e R s m args below meth c H locs cells slots Q (F0 m pc ls rest) :=
  lv_sipush C.1 C.2.1 hd hn k
theorem r_lconst (C : Cx g p s m args c cc nL own) {n : Fin 2} {v : Int} (hd : decode cc pc = .ok (.lconst n, 1)) (hv : Int64.ofNat (n : Nat) = Int64.ofInt v) (k : W p l e R s m args below meth c H locs cells slots Q (F0 m (pc + 1) ls (lI v :: rest))) : W p l e R s m args below meth c H locs cells slots Q (F0 m pc ls rest) :=
  lv_lconst C.1 C.2.1 hd hv k
theorem r_ldc (C : Cx g p s m args c cc nL own) {index : Nat} {v : Int32} {n : Int} (hw : Cond.constant own index v ∈ TB) (hv : v = Int32.ofInt n) (hd : decode cc pc = .ok (.ldc index, 2)) (k : W p l e R s m args below meth c H locs cells slots Q (F0 m (pc + 2) ls (iI n :: rest))) : W p l e R s m args below meth c H locs cells slots Q (F0 m pc ls rest) := by
  subst hv
  exact lv_ldc C.1 C.2.1 C.2.2.2.1 (C.2.2.2.2.1 _ hw) hd k
theorem r_ldcw (C : Cx g p s m args c cc nL own) {index : Nat} {v : Int32} {n : Int} (hw : Cond.constant own index v ∈ TB) (hv : v = Int32.ofInt n) (hd : decode cc pc = .ok (.ldc_w index, 3)) (k : W p l e R s m args below meth c H locs cells slots Q (F0 m (pc + 3) ls (iI n :: rest))) : W p l e R s m args below meth c H locs cells slots Q (F0 m pc ls rest) := by
  subst hv
  exact lv_ldcw C.1 C.2.1 C.2.2.2.1 (C.2.2.2.2.1 _ hw) hd k
theorem r_ldc2 (C : Cx g p s m args c cc nL own) {index : Nat} {v : Int64} {n : Int} (hw : Cond.constantLong own index v ∈ TB) (hv : v = Int64.ofInt n) (hd : decode cc pc = .ok (.ldc2_w index, 3)) (k : W p l e R s m args below meth c H locs cells slots Q (F0 m (pc + 3) ls (lI n :: rest))) : W p l e R s m args below meth c H locs cells slots Q (F0 m pc ls rest) := by
  subst hv
  exact lv_ldc2 C.1 C.2.1 C.2.2.2.1 (C.2.2.2.2.1 _ hw) hd k
theorem r_iload_n (C : Cx g p s m args c cc nL own) (hl : lv_has ls nL lv) {k : Fin 4} {i : Nat} {x : Int} (j : Nat) (hd : decode cc pc = .ok (.iload_n k, 1)) (hi : (k : Nat) = i) (hj : lv[j]? = some (i, iI x)) (kk : W p l e R s m args below meth c H locs cells slots Q (F0 m (pc + 1) ls (iI x :: rest))) : W p l e R s m args below meth c H locs cells slots Q (F0 m pc ls rest) :=
  lv_iload_n C.1 C.2.1 hd hi (lv_at hl j hj) kk
theorem r_iload (C : Cx g p s m args c cc nL own) (hl : lv_has ls nL lv) {i : Nat} {x : Int} (j : Nat) (hd : decode cc pc = .ok (.iload i, 2)) (hj : lv[j]? = some (i, iI x)) (kk : W p l e R s m args below meth c H locs cells slots Q (F0 m (pc + 2) ls (iI x :: rest))) : W p l e R s m args below meth c H locs cells slots Q (F0 m pc ls rest) :=
  lv_iload C.1 C.2.1 hd (lv_at hl j hj) kk
theorem r_lload_n (C : Cx g p s m args c cc nL own) (hl : lv_has ls nL lv) {k : Fin 4} {i : Nat} {x : Int} (j : Nat) (hd : decode cc pc = .ok (.lload_n k, 1)) (hi : (k : Nat) = i) (hj : lv[j]? = some (i, lI x)) (kk : W p l e R s m args below meth c H locs cells slots Q (F0 m (pc + 1) ls (lI x :: rest))) : W p l e R s m args below meth c H locs cells slots Q (F0 m pc ls rest) :=
  lv_lload_n C.1 C.2.1 hd hi (lv_at hl j hj) kk
theorem r_lload (C : Cx g p s m args c cc nL own) (hl : lv_has ls nL lv) {i : Nat} {x : Int} (j : Nat) (hd : decode cc pc = .ok (.lload i, 2)) (hj : lv[j]? = some (i, lI x)) (kk : W p l e R s m args below meth c H locs cells slots Q (F0 m (pc + 2) ls (lI x :: rest))) : W p l e R s m args below meth c H locs cells slots Q (F0 m pc ls rest) :=
  lv_lload C.1 C.2.1 hd (lv_at hl j hj) kk
theorem r_aload_n (C : Cx g p s m args c cc nL own) (hl : lv_has ls nL lv) {k : Fin 4} {i o : Nat} (j : Nat) (hd : decode cc pc = .ok (.aload_n k, 1)) (hi : (k : Nat) = i) (hj : lv[j]? = some (i, rI g o)) (kk : W p l e R s m args below meth c H locs cells slots Q (F0 m (pc + 1) ls (rI g o :: rest))) : W p l e R s m args below meth c H locs cells slots Q (F0 m pc ls rest) :=
  lv_aload_n C.1 C.2.1 hd hi (lv_at hl j hj) kk
theorem r_istore_n (C : Cx g p s m args c cc nL own) (hl : lv_has ls nL lv) {k : Fin 4} {i : Nat} {x : Int} {lv' : List (Nat × Value)} (hd : decode cc pc = .ok (.istore_n k, 1)) (hi : (k : Nat) = i) (hn : i < nL) (hv : (i, iI x) :: lv.filter (fun q => !(q.1 == i) && !(q.1 + 1 == i && q.2.category == 2)) = lv') (kk : ∀ ls' : Array Slot, lv_has ls' nL lv' → W p l e R s m args below meth c H locs cells slots Q (F0 m (pc + 1) ls' rest)) : W p l e R s m args below meth c H locs cells slots Q (F0 m pc ls (iI x :: rest)) :=
  lv_istore_n C.1 C.2.1 hd hi hl hn hv kk
theorem r_istore (C : Cx g p s m args c cc nL own) (hl : lv_has ls nL lv) {i : Nat} {x : Int} {lv' : List (Nat × Value)} (hd : decode cc pc = .ok (.istore i, 2)) (hn : i < nL) (hv : (i, iI x) :: lv.filter (fun q => !(q.1 == i) && !(q.1 + 1 == i && q.2.category == 2)) = lv') (kk : ∀ ls' : Array Slot, lv_has ls' nL lv' → W p l e R s m args below meth c H locs cells slots Q (F0 m (pc + 2) ls' rest)) : W p l e R s m args below meth c H locs cells slots Q (F0 m pc ls (iI x :: rest)) :=
  lv_istore C.1 C.2.1 hd hl hn hv kk
theorem r_lstore_n (C : Cx g p s m args c cc nL own) (hl : lv_has ls nL lv) {k : Fin 4} {i : Nat} {x : Int} {lv' : List (Nat × Value)} (hd : decode cc pc = .ok (.lstore_n k, 1)) (hi : (k : Nat) = i) (hn : i + 1 < nL) (hv : (i, lI x) :: lv.filter (fun q => !(q.1 == i) && (!(q.1 == i + 1) && !(q.1 + 1 == i && q.2.category == 2))) = lv') (kk : ∀ ls' : Array Slot, lv_has ls' nL lv' → W p l e R s m args below meth c H locs cells slots Q (F0 m (pc + 1) ls' rest)) : W p l e R s m args below meth c H locs cells slots Q (F0 m pc ls (lI x :: rest)) :=
  lv_lstore_n C.1 C.2.1 hd hi hl hn hv kk
theorem r_lstore (C : Cx g p s m args c cc nL own) (hl : lv_has ls nL lv) {i : Nat} {x : Int} {lv' : List (Nat × Value)} (hd : decode cc pc = .ok (.lstore i, 2)) (hn : i + 1 < nL) (hv : (i, lI x) :: lv.filter (fun q => !(q.1 == i) && (!(q.1 == i + 1) && !(q.1 + 1 == i && q.2.category == 2))) = lv') (kk : ∀ ls' : Array Slot, lv_has ls' nL lv' → W p l e R s m args below meth c H locs cells slots Q (F0 m (pc + 2) ls' rest)) : W p l e R s m args below meth c H locs cells slots Q (F0 m pc ls (lI x :: rest)) :=
  lv_lstore C.1 C.2.1 hd hl hn hv kk
theorem r_iinc (C : Cx g p s m args c cc nL own) (hl : lv_has ls nL lv) {i : Nat} {n x : Int} {lv' : List (Nat × Value)} (j : Nat) (hd : decode cc pc = .ok (.iinc i n, 3)) (hj : lv[j]? = some (i, iI x)) (hn : i < nL) (hv : (i, iI (x + n)) :: lv.filter (fun q => !(q.1 == i) && !(q.1 + 1 == i && q.2.category == 2)) = lv') (kk : ∀ ls' : Array Slot, lv_has ls' nL lv' → W p l e R s m args below meth c H locs cells slots Q (F0 m (pc + 3) ls' rest)) : W p l e R s m args below meth c H locs cells slots Q (F0 m pc ls rest) :=
  lv_iinc C.1 C.2.1 hd hl (k := j) hj (Int32.ofInt_add x n).symm hn hv kk
theorem r_iadd (C : Cx g p s m args c cc nL own) {x y : Int} (hd : decode cc pc = .ok (.iadd, 1)) (k : W p l e R s m args below meth c H locs cells slots Q (F0 m (pc + 1) ls (iI (x + y) :: rest))) : W p l e R s m args below meth c H locs cells slots Q (F0 m pc ls (iI y :: iI x :: rest)) :=
  lv_iadd C.1 C.2.1 hd (by rw [← Int32.ofInt_add]; exact k)
theorem r_isub (C : Cx g p s m args c cc nL own) {x y : Int} (hd : decode cc pc = .ok (.isub, 1)) (k : W p l e R s m args below meth c H locs cells slots Q (F0 m (pc + 1) ls (iI (x - y) :: rest))) : W p l e R s m args below meth c H locs cells slots Q (F0 m pc ls (iI y :: iI x :: rest)) :=
  lv_isub C.1 C.2.1 hd (by rw [← Int32.ofInt_sub]; exact k)
theorem r_imul (C : Cx g p s m args c cc nL own) {x y : Int} (hd : decode cc pc = .ok (.imul, 1)) (k : W p l e R s m args below meth c H locs cells slots Q (F0 m (pc + 1) ls (iI (x * y) :: rest))) : W p l e R s m args below meth c H locs cells slots Q (F0 m pc ls (iI y :: iI x :: rest)) :=
  lv_imul C.1 C.2.1 hd (by rw [← Int32.ofInt_mul]; exact k)
theorem r_iand (C : Cx g p s m args c cc nL own) {x y : Int} (hd : decode cc pc = .ok (.iand, 1)) (k : W p l e R s m args below meth c H locs cells slots Q (F0 m (pc + 1) ls (iI (i_and x y) :: rest))) : W p l e R s m args below meth c H locs cells slots Q (F0 m pc ls (iI y :: iI x :: rest)) :=
  lv_iand C.1 C.2.1 hd (by unfold iI i_and at k; rw [Int32.ofInt_toInt] at k; exact k)
theorem r_ior (C : Cx g p s m args c cc nL own) {x y : Int} (hd : decode cc pc = .ok (.ior, 1)) (k : W p l e R s m args below meth c H locs cells slots Q (F0 m (pc + 1) ls (iI (i_or x y) :: rest))) : W p l e R s m args below meth c H locs cells slots Q (F0 m pc ls (iI y :: iI x :: rest)) :=
  lv_ior C.1 C.2.1 hd (by unfold iI i_or at k; rw [Int32.ofInt_toInt] at k; exact k)
theorem r_ishl (C : Cx g p s m args c cc nL own) {x y : Int} (hd : decode cc pc = .ok (.ishl, 1)) (k : W p l e R s m args below meth c H locs cells slots Q (F0 m (pc + 1) ls (iI (i_shl x y) :: rest))) : W p l e R s m args below meth c H locs cells slots Q (F0 m pc ls (iI y :: iI x :: rest)) :=
  lv_ishl C.1 C.2.1 hd (by unfold iI i_shl at k; rw [Int32.ofInt_toInt] at k; exact k)
theorem r_ishr (C : Cx g p s m args c cc nL own) {x y : Int} (hd : decode cc pc = .ok (.ishr, 1)) (k : W p l e R s m args below meth c H locs cells slots Q (F0 m (pc + 1) ls (iI (i_shr x y) :: rest))) : W p l e R s m args below meth c H locs cells slots Q (F0 m pc ls (iI y :: iI x :: rest)) :=
  lv_ishr C.1 C.2.1 hd (by unfold iI i_shr at k; rw [Int32.ofInt_toInt] at k; exact k)
theorem r_iushr (C : Cx g p s m args c cc nL own) {x y : Int} (hd : decode cc pc = .ok (.iushr, 1)) (k : W p l e R s m args below meth c H locs cells slots Q (F0 m (pc + 1) ls (iI (i_ushr x y) :: rest))) : W p l e R s m args below meth c H locs cells slots Q (F0 m pc ls (iI y :: iI x :: rest)) :=
  lv_iushr C.1 C.2.1 hd rfl (by unfold iI i_ushr at k; rw [Int32.ofInt_toInt] at k; exact k)
theorem r_idiv (C : Cx g p s m args c cc nL own) {x y : Int} (hy : inR y ∧ y ≠ 0) (hd : decode cc pc = .ok (.idiv, 1)) (k : W p l e R s m args below meth c H locs cells slots Q (F0 m (pc + 1) ls (iI (i_div x y) :: rest))) : W p l e R s m args below meth c H locs cells slots Q (F0 m pc ls (iI y :: iI x :: rest)) :=
  lv_idiv C.1 C.2.1 hd (fun h => hy.2 ((oi_eq hy.1 (by decide)).mp h)) (by unfold iI i_div at k; rw [Int32.ofInt_toInt] at k; exact k)
theorem r_irem (C : Cx g p s m args c cc nL own) {x y : Int} (hy : inR y ∧ y ≠ 0) (hd : decode cc pc = .ok (.irem, 1)) (k : W p l e R s m args below meth c H locs cells slots Q (F0 m (pc + 1) ls (iI (i_rem x y) :: rest))) : W p l e R s m args below meth c H locs cells slots Q (F0 m pc ls (iI y :: iI x :: rest)) :=
  lv_irem C.1 C.2.1 hd (fun h => hy.2 ((oi_eq hy.1 (by decide)).mp h)) (by unfold iI i_rem at k; rw [Int32.ofInt_toInt] at k; exact k)
theorem r_ladd (C : Cx g p s m args c cc nL own) {x y : Int} (hd : decode cc pc = .ok (.ladd, 1)) (k : W p l e R s m args below meth c H locs cells slots Q (F0 m (pc + 1) ls (lI (x + y) :: rest))) : W p l e R s m args below meth c H locs cells slots Q (F0 m pc ls (lI y :: lI x :: rest)) :=
  lv_ladd C.1 C.2.1 hd (by rw [← Int64.ofInt_add]; exact k)
theorem r_lmul (C : Cx g p s m args c cc nL own) {x y : Int} (hd : decode cc pc = .ok (.lmul, 1)) (k : W p l e R s m args below meth c H locs cells slots Q (F0 m (pc + 1) ls (lI (x * y) :: rest))) : W p l e R s m args below meth c H locs cells slots Q (F0 m pc ls (lI y :: lI x :: rest)) :=
  lv_lmul C.1 C.2.1 hd (by rw [← Int64.ofInt_mul]; exact k)
theorem r_land (C : Cx g p s m args c cc nL own) {x y : Int} (hd : decode cc pc = .ok (.land, 1)) (k : W p l e R s m args below meth c H locs cells slots Q (F0 m (pc + 1) ls (lI (l_and x y) :: rest))) : W p l e R s m args below meth c H locs cells slots Q (F0 m pc ls (lI y :: lI x :: rest)) :=
  lv_land C.1 C.2.1 hd (by unfold lI l_and at k; rw [Int64.ofInt_toInt] at k; exact k)
theorem r_lrem (C : Cx g p s m args c cc nL own) {x y : Int} (hy : inL y ∧ y ≠ 0) (hd : decode cc pc = .ok (.lrem, 1)) (k : W p l e R s m args below meth c H locs cells slots Q (F0 m (pc + 1) ls (lI (l_rem x y) :: rest))) : W p l e R s m args below meth c H locs cells slots Q (F0 m pc ls (lI y :: lI x :: rest)) :=
  lv_lrem C.1 C.2.1 hd (fun h => hy.2 (by have h1 := congrArg Int64.toInt h; rw [ol_t hy.1] at h1; exact h1)) (by unfold lI l_rem at k; rw [Int64.ofInt_toInt] at k; exact k)
theorem r_i2l (C : Cx g p s m args c cc nL own) {x : Int} (hx : inR x) (hd : decode cc pc = .ok (.i2l, 1)) (k : W p l e R s m args below meth c H locs cells slots Q (F0 m (pc + 1) ls (lI x :: rest))) : W p l e R s m args below meth c H locs cells slots Q (F0 m pc ls (iI x :: rest)) :=
  lv_i2l C.1 C.2.1 hd (Int32.toInt64_ofInt hx.1 hx.2) k
theorem r_l2i (C : Cx g p s m args c cc nL own) {x : Int} (hd : decode cc pc = .ok (.l2i, 1)) (k : W p l e R s m args below meth c H locs cells slots Q (F0 m (pc + 1) ls (iI x :: rest))) : W p l e R s m args below meth c H locs cells slots Q (F0 m pc ls (lI x :: rest)) :=
  lv_l2i C.1 C.2.1 hd Int64.toInt32_ofInt k
theorem lcmp_eq {x y : Int} (h : x = y ∨ (inL x ∧ inL y)) : lg_cmp (Int64.ofInt x) (Int64.ofInt y) = Int32.ofInt (l_cmp x y) := by
  rcases h with rfl | ⟨hx, hy⟩
  · simp [lg_cmp, l_cmp]
  · unfold lg_cmp l_cmp
    simp only [gt_iff_lt, Int64.lt_iff_toInt_lt, ← Int64.toInt_inj, ol_t hx, ol_t hy]
    by_cases h1 : x < y
    · rw [if_neg (by omega), if_neg (by omega), if_pos h1]; rfl
    · by_cases h2 : x = y
      · rw [if_neg (by omega), if_pos h2, if_neg h1, if_pos h2]; rfl
      · rw [if_pos (by omega), if_neg h1, if_neg h2]; rfl
theorem r_lcmp (C : Cx g p s m args c cc nL own) {x y : Int} (h : x = y ∨ (inL x ∧ inL y)) (hd : decode cc pc = .ok (.lcmp, 1)) (k : W p l e R s m args below meth c H locs cells slots Q (F0 m (pc + 1) ls (iI (l_cmp x y) :: rest))) : W p l e R s m args below meth c H locs cells slots Q (F0 m pc ls (lI y :: lI x :: rest)) :=
  W.lcmp C.1 C.2.1 hd (by rw [lcmp_eq h]; exact k)
theorem r_dup (C : Cx g p s m args c cc nL own) {va : Value} (hd : decode cc pc = .ok (.dup, 1)) (hva : va.category = 1) (k : W p l e R s m args below meth c H locs cells slots Q (F0 m (pc + 1) ls (va :: va :: rest))) : W p l e R s m args below meth c H locs cells slots Q (F0 m pc ls (va :: rest)) := lv_dup C.1 C.2.1 hd hva k
theorem r_pop (C : Cx g p s m args c cc nL own) {va : Value} (hd : decode cc pc = .ok (.pop, 1)) (hva : va.category = 1) (k : W p l e R s m args below meth c H locs cells slots Q (F0 m (pc + 1) ls rest)) : W p l e R s m args below meth c H locs cells slots Q (F0 m pc ls (va :: rest)) := lv_pop C.1 C.2.1 hd hva k
theorem r_dup2 (C : Cx g p s m args c cc nL own) {va vb : Value} (hd : decode cc pc = .ok (.dup2, 1)) (hva : va.category = 1) (hvb : vb.category = 1) (k : W p l e R s m args below meth c H locs cells slots Q (F0 m (pc + 1) ls (va :: vb :: va :: vb :: rest))) : W p l e R s m args below meth c H locs cells slots Q (F0 m pc ls (va :: vb :: rest)) := lv_dup2_11 C.1 C.2.1 hd hva hvb k
theorem r_goto (C : Cx g p s m args c cc nL own) {off : Int} {tgt : Nat} (hd : decode cc pc = .ok (.goto off, 3)) (ht : (pc : Int) + off = (tgt : Int)) (k : W p l e R s m args below meth c H locs cells slots Q (F0 m tgt ls rest)) : W p l e R s m args below meth c H locs cells slots Q (F0 m pc ls rest) := lv_goto C.1 C.2.1 hd ht k
theorem r_ic_ge (C : Cx g p s m args c cc nL own) {x y : Int} (hx : inR x) (hy : inR y) {off : Int} {tgt : Nat} (hd : decode cc pc = .ok (.if_icmp .ge off, 3)) (ht : (pc : Int) + off = (tgt : Int)) {A B : Option β} (hf : (if y ≤ x then A else B) = some res) (kt : A = some res → W p l e R s m args below meth c H locs cells slots Q (F0 m tgt ls rest)) (kf : B = some res → W p l e R s m args below meth c H locs cells slots Q (F0 m (pc + 3) ls rest)) : W p l e R s m args below meth c H locs cells slots Q (F0 m pc ls (iI y :: iI x :: rest)) := by
  exact lv_icmp_ge C.1 C.2.1 hd ht (fun h => kt (by rw [if_pos ((oi_le hy hx).mp h)] at hf; exact hf)) (fun h => kf (by rw [if_neg (fun q => h ((oi_le hy hx).mpr q))] at hf; exact hf))
theorem r_if_ge (C : Cx g p s m args c cc nL own) {x : Int} (hx : inR x) {off : Int} {tgt : Nat} (hd : decode cc pc = .ok (.ifCond .ge off, 3)) (ht : (pc : Int) + off = (tgt : Int)) {A B : Option β} (hf : (if 0 ≤ x then A else B) = some res) (kt : A = some res → W p l e R s m args below meth c H locs cells slots Q (F0 m tgt ls rest)) (kf : B = some res → W p l e R s m args below meth c H locs cells slots Q (F0 m (pc + 3) ls rest)) : W p l e R s m args below meth c H locs cells slots Q (F0 m pc ls (iI x :: rest)) := by
  exact lv_if_ge C.1 C.2.1 hd ht (fun h => kt (by rw [if_pos ((oi_le (show inR 0 by decide) hx).mp h)] at hf; exact hf)) (fun h => kf (by rw [if_neg (fun q => h ((oi_le (show inR 0 by decide) hx).mpr q))] at hf; exact hf))
theorem r_ic_lt (C : Cx g p s m args c cc nL own) {x y : Int} (hx : inR x) (hy : inR y) {off : Int} {tgt : Nat} (hd : decode cc pc = .ok (.if_icmp .lt off, 3)) (ht : (pc : Int) + off = (tgt : Int)) {A B : Option β} (hf : (if x < y then A else B) = some res) (kt : A = some res → W p l e R s m args below meth c H locs cells slots Q (F0 m tgt ls rest)) (kf : B = some res → W p l e R s m args below meth c H locs cells slots Q (F0 m (pc + 3) ls rest)) : W p l e R s m args below meth c H locs cells slots Q (F0 m pc ls (iI y :: iI x :: rest)) := by
  exact lv_icmp_lt C.1 C.2.1 hd ht (fun h => kt (by rw [if_pos ((oi_lt hx hy).mp h)] at hf; exact hf)) (fun h => kf (by rw [if_neg (fun q => h ((oi_lt hx hy).mpr q))] at hf; exact hf))
theorem r_if_lt (C : Cx g p s m args c cc nL own) {x : Int} (hx : inR x) {off : Int} {tgt : Nat} (hd : decode cc pc = .ok (.ifCond .lt off, 3)) (ht : (pc : Int) + off = (tgt : Int)) {A B : Option β} (hf : (if x < 0 then A else B) = some res) (kt : A = some res → W p l e R s m args below meth c H locs cells slots Q (F0 m tgt ls rest)) (kf : B = some res → W p l e R s m args below meth c H locs cells slots Q (F0 m (pc + 3) ls rest)) : W p l e R s m args below meth c H locs cells slots Q (F0 m pc ls (iI x :: rest)) := by
  exact lv_if_lt C.1 C.2.1 hd ht (fun h => kt (by rw [if_pos ((oi_lt hx (show inR 0 by decide)).mp h)] at hf; exact hf)) (fun h => kf (by rw [if_neg (fun q => h ((oi_lt hx (show inR 0 by decide)).mpr q))] at hf; exact hf))
theorem r_ic_gt (C : Cx g p s m args c cc nL own) {x y : Int} (hx : inR x) (hy : inR y) {off : Int} {tgt : Nat} (hd : decode cc pc = .ok (.if_icmp .gt off, 3)) (ht : (pc : Int) + off = (tgt : Int)) {A B : Option β} (hf : (if y < x then A else B) = some res) (kt : A = some res → W p l e R s m args below meth c H locs cells slots Q (F0 m tgt ls rest)) (kf : B = some res → W p l e R s m args below meth c H locs cells slots Q (F0 m (pc + 3) ls rest)) : W p l e R s m args below meth c H locs cells slots Q (F0 m pc ls (iI y :: iI x :: rest)) := by
  exact lv_icmp_gt C.1 C.2.1 hd ht (fun h => kt (by rw [if_pos ((oi_lt hy hx).mp h)] at hf; exact hf)) (fun h => kf (by rw [if_neg (fun q => h ((oi_lt hy hx).mpr q))] at hf; exact hf))
theorem r_if_gt (C : Cx g p s m args c cc nL own) {x : Int} (hx : inR x) {off : Int} {tgt : Nat} (hd : decode cc pc = .ok (.ifCond .gt off, 3)) (ht : (pc : Int) + off = (tgt : Int)) {A B : Option β} (hf : (if 0 < x then A else B) = some res) (kt : A = some res → W p l e R s m args below meth c H locs cells slots Q (F0 m tgt ls rest)) (kf : B = some res → W p l e R s m args below meth c H locs cells slots Q (F0 m (pc + 3) ls rest)) : W p l e R s m args below meth c H locs cells slots Q (F0 m pc ls (iI x :: rest)) := by
  exact lv_if_gt C.1 C.2.1 hd ht (fun h => kt (by rw [if_pos ((oi_lt (show inR 0 by decide) hx).mp h)] at hf; exact hf)) (fun h => kf (by rw [if_neg (fun q => h ((oi_lt (show inR 0 by decide) hx).mpr q))] at hf; exact hf))
theorem r_ic_le (C : Cx g p s m args c cc nL own) {x y : Int} (hx : inR x) (hy : inR y) {off : Int} {tgt : Nat} (hd : decode cc pc = .ok (.if_icmp .le off, 3)) (ht : (pc : Int) + off = (tgt : Int)) {A B : Option β} (hf : (if x ≤ y then A else B) = some res) (kt : A = some res → W p l e R s m args below meth c H locs cells slots Q (F0 m tgt ls rest)) (kf : B = some res → W p l e R s m args below meth c H locs cells slots Q (F0 m (pc + 3) ls rest)) : W p l e R s m args below meth c H locs cells slots Q (F0 m pc ls (iI y :: iI x :: rest)) := by
  exact lv_icmp_le C.1 C.2.1 hd ht (fun h => kt (by rw [if_pos ((oi_le hx hy).mp h)] at hf; exact hf)) (fun h => kf (by rw [if_neg (fun q => h ((oi_le hx hy).mpr q))] at hf; exact hf))
theorem r_if_le (C : Cx g p s m args c cc nL own) {x : Int} (hx : inR x) {off : Int} {tgt : Nat} (hd : decode cc pc = .ok (.ifCond .le off, 3)) (ht : (pc : Int) + off = (tgt : Int)) {A B : Option β} (hf : (if x ≤ 0 then A else B) = some res) (kt : A = some res → W p l e R s m args below meth c H locs cells slots Q (F0 m tgt ls rest)) (kf : B = some res → W p l e R s m args below meth c H locs cells slots Q (F0 m (pc + 3) ls rest)) : W p l e R s m args below meth c H locs cells slots Q (F0 m pc ls (iI x :: rest)) := by
  exact lv_if_le C.1 C.2.1 hd ht (fun h => kt (by rw [if_pos ((oi_le hx (show inR 0 by decide)).mp h)] at hf; exact hf)) (fun h => kf (by rw [if_neg (fun q => h ((oi_le hx (show inR 0 by decide)).mpr q))] at hf; exact hf))
theorem r_ic_eq (C : Cx g p s m args c cc nL own) {x y : Int} (hx : inR x) (hy : inR y) {off : Int} {tgt : Nat} (hd : decode cc pc = .ok (.if_icmp .eq off, 3)) (ht : (pc : Int) + off = (tgt : Int)) {A B : Option β} (hf : (if x = y then A else B) = some res) (kt : A = some res → W p l e R s m args below meth c H locs cells slots Q (F0 m tgt ls rest)) (kf : B = some res → W p l e R s m args below meth c H locs cells slots Q (F0 m (pc + 3) ls rest)) : W p l e R s m args below meth c H locs cells slots Q (F0 m pc ls (iI y :: iI x :: rest)) := by
  exact lv_icmp_eq C.1 C.2.1 hd ht (fun h => kt (by rw [if_pos ((oi_eq hx hy).mp h)] at hf; exact hf)) (fun h => kf (by rw [if_neg (fun q => h ((oi_eq hx hy).mpr q))] at hf; exact hf))
theorem r_if_eq (C : Cx g p s m args c cc nL own) {x : Int} (hx : inR x) {off : Int} {tgt : Nat} (hd : decode cc pc = .ok (.ifCond .eq off, 3)) (ht : (pc : Int) + off = (tgt : Int)) {A B : Option β} (hf : (if x = 0 then A else B) = some res) (kt : A = some res → W p l e R s m args below meth c H locs cells slots Q (F0 m tgt ls rest)) (kf : B = some res → W p l e R s m args below meth c H locs cells slots Q (F0 m (pc + 3) ls rest)) : W p l e R s m args below meth c H locs cells slots Q (F0 m pc ls (iI x :: rest)) := by
  exact lv_if_eq C.1 C.2.1 hd ht (fun h => kt (by rw [if_pos ((oi_eq hx (show inR 0 by decide)).mp h)] at hf; exact hf)) (fun h => kf (by rw [if_neg (fun q => h ((oi_eq hx (show inR 0 by decide)).mpr q))] at hf; exact hf))
theorem r_ic_ne (C : Cx g p s m args c cc nL own) {x y : Int} (hx : inR x) (hy : inR y) {off : Int} {tgt : Nat} (hd : decode cc pc = .ok (.if_icmp .ne off, 3)) (ht : (pc : Int) + off = (tgt : Int)) {A B : Option β} (hf : (if x = y then A else B) = some res) (kt : B = some res → W p l e R s m args below meth c H locs cells slots Q (F0 m tgt ls rest)) (kf : A = some res → W p l e R s m args below meth c H locs cells slots Q (F0 m (pc + 3) ls rest)) : W p l e R s m args below meth c H locs cells slots Q (F0 m pc ls (iI y :: iI x :: rest)) := by
  exact lv_icmp_ne C.1 C.2.1 hd ht (fun h => kt (by rw [if_neg (fun q => h ((oi_eq hx hy).mpr q))] at hf; exact hf)) (fun h => kf (by rw [if_pos ((oi_eq hx hy).mp h)] at hf; exact hf))
theorem r_if_ne (C : Cx g p s m args c cc nL own) {x : Int} (hx : inR x) {off : Int} {tgt : Nat} (hd : decode cc pc = .ok (.ifCond .ne off, 3)) (ht : (pc : Int) + off = (tgt : Int)) {A B : Option β} (hf : (if x = 0 then A else B) = some res) (kt : B = some res → W p l e R s m args below meth c H locs cells slots Q (F0 m tgt ls rest)) (kf : A = some res → W p l e R s m args below meth c H locs cells slots Q (F0 m (pc + 3) ls rest)) : W p l e R s m args below meth c H locs cells slots Q (F0 m pc ls (iI x :: rest)) := by
  exact lv_if_ne C.1 C.2.1 hd ht (fun h => kt (by rw [if_neg (fun q => h ((oi_eq hx (show inR 0 by decide)).mpr q))] at hf; exact hf)) (fun h => kf (by rw [if_pos ((oi_eq hx (show inR 0 by decide)).mp h)] at hf; exact hf))
theorem r_tabIn (C : Cx g p s m args c cc nL own) {x : Int} (k : Int) (hx : x = k) (hk : inR k) {dflt lo hi : Int} {offs : Array Int} {len : Nat} {off : Int} {tgt : Nat} (hd : decode cc pc = .ok (.tableswitch dflt lo hi offs, len)) (h1 : ¬ k < lo) (h2 : ¬ hi < k) (ho : offs[(k - lo).toNat]? = some off) (ht : (pc : Int) + off = (tgt : Int)) (kk : W p l e R s m args below meth c H locs cells slots Q (F0 m tgt ls rest)) : W p l e R s m args below meth c H locs cells slots Q (F0 m pc ls (iI x :: rest)) := by
  subst hx
  exact lv_tableIn C.1 C.2.1 hd (by rw [oi_t hk]; exact h1) (by rw [oi_t hk]; exact h2) (by rw [oi_t hk]; exact ho) ht kk
theorem r_tabOut (C : Cx g p s m args c cc nL own) {x : Int} (hk : inR x) {dflt lo hi : Int} {offs : Array Int} {len : Nat} {tgt : Nat} (hd : decode cc pc = .ok (.tableswitch dflt lo hi offs, len)) (h : x < lo ∨ hi < x) (ht : (pc : Int) + dflt = (tgt : Int)) (kk : W p l e R s m args below meth c H locs cells slots Q (F0 m tgt ls rest)) : W p l e R s m args below meth c H locs cells slots Q (F0 m pc ls (iI x :: rest)) :=
  lv_tableOut C.1 C.2.1 hd (by rw [oi_t hk]; exact h) ht kk
/-! the heap -/
theorem r_getf (C : Cx g p s m args c cc nL own) (hI : Inv g s M H locs) {o ci index k N : Nat} {Cn ref : String} {T : u_T} {fs : List Value} (ho : o ∈ ids) (he : entR g o (M o) = .inr (ci, fs)) (hc : vwCl[ci]? = some (Cn, T, N)) (hin : ∀ w ∈ u_ws Cn T N, w ∈ TB) (hk : k < N) (hlink : Cond.fieldLink own index ref (T k).2.1 (T k).2.2.1 ∈ TB) (hr : (T k).1 = ref) {v : Value} (hv : fs[k]? = some v) (hd : decode cc pc = .ok (.getfield index, 3)) (kk : W p l e R s m args below meth c H locs cells slots Q (F0 m (pc + 3) ls (v :: rest))) : W p l e R s m args below meth c H locs cells slots Q (F0 m pc ls (rI g o :: rest)) := by
  obtain ⟨q0, hq⟩ := List.getElem?_of_mem ho
  subst hr
  exact va_get C.1 C.2.1 C.2.2.2.2.1 hin C.2.2.2.1 C.2.2.2.2.2.1.1 hI.1 q0 (by rw [cw_get hq, he]) hc k hk (C.2.2.2.2.1 _ hlink) (fun _ h => h) hv hd kk
theorem r_putf (C : Cx g p s m args c cc nL own) (hI : Inv g s M H locs) {o ci index k N : Nat} {Cn ref : String} {T : u_T} {fs : List Value} (ho : o ∈ ids) (he : entR g o (M o) = .inr (ci, fs)) (hc : vwCl[ci]? = some (Cn, T, N)) (hin : ∀ w ∈ u_ws Cn T N, w ∈ TB) (ty0 : Nat → FieldType) (hty : ∀ k, k < N → parseFieldDescriptor (T k).2.2.1 = some (ty0 k)) (hnm : ∀ a, a < N → ∀ b, b < N → a ≠ b → (T a).2.1 ≠ (T b).2.1) (hk : k < N) (hlink : Cond.fieldLink own index ref (T k).2.1 (T k).2.2.1 ∈ TB) (hr : (T k).1 = ref) (hfin : (T k).2.2.2 = false) {v : Value} (hn : narrow (ty0 k) v = v) (hfit : fits (ty0 k) v = true) (hl : k < fs.length) {x : Int} (hs : entR g o (st M o k x o) = .inr (ci, fs.set k v)) (hd : decode cc pc = .ok (.putfield index, 3)) (kk : ∀ (H1 : Heap) (locs1 : List Loc), Inv g s (st M o k x) H1 locs1 → W p l e R s m args below meth c H1 locs1 cells slots Q (F0 m (pc + 3) ls rest)) : W p l e R s m args below meth c H locs cells slots Q (F0 m pc ls (v :: rI g o :: rest)) := by
  obtain ⟨q0, hq⟩ := List.getElem?_of_mem ho
  subst hr
  refine va_put C.1 C.2.1 C.2.2.2.2.1 hin ty0 hty hnm C.2.2.2.1 C.2.2.2.2.2.1.1 hI.1 (cw_D C.2.2.2.2.2.2) hI.2 q0 (by rw [cw_get hq, he]) hc k hk (C.2.2.2.2.1 _ hlink) (fun _ h => h) hfin (hty k hk) hn hfit hl hd (fun H1 locs1 h1 _ h3 => kk H1 locs1 ⟨?_, h3⟩)
  rwa [cw_set hq hs (fun x hx => st_ne _ _ _ _ hx)] at h1
theorem r_iald (C : Cx g p s m args c cc nL own) (hI : Inv g s M H locs) {a n : Nat} {i : Int} (z : Int) (ha : kd a = n + 100) (hn : n < 800) (hz : z = (n : Int)) (hi : 0 ≤ i ∧ i < z) (hd : decode cc pc = .ok (.iaload, 1)) (kk : W p l e R s m args below meth c H locs cells slots Q (F0 m (pc + 1) ls (iI (M a i.toNat) :: rest))) : W p l e R s m args below meth c H locs cells slots Q (F0 m pc ls (iI i :: rI g a :: rest)) := by
  subst hz
  obtain ⟨q0, hq⟩ := List.getElem?_of_mem (kd_in ha (by omega))
  obtain ⟨h1, h2⟩ := oi_n (by omega) hi
  refine va_iald C.1 C.2.1 C.2.2.2.2.2.1.1 hI.1 q0 0 (by rw [cw_get hq, ent_A ha]) rfl h1 hd ?_
  rw [h2]
  exact kk
theorem r_iast (C : Cx g p s m args c cc nL own) (hI : Inv g s M H locs) {a n : Nat} {i x : Int} (z : Int) (ha : kd a = n + 100) (hn : n < 800) (hz : z = (n : Int)) (hi : 0 ≤ i ∧ i < z) (hd : decode cc pc = .ok (.iastore, 1)) (kk : ∀ (H1 : Heap) (locs1 : List Loc), Inv g s (st M a i.toNat x) H1 locs1 → W p l e R s m args below meth c H1 locs1 cells slots Q (F0 m (pc + 1) ls rest)) : W p l e R s m args below meth c H locs cells slots Q (F0 m pc ls (iI x :: iI i :: rI g a :: rest)) := by
  subst hz
  obtain ⟨q0, hq⟩ := List.getElem?_of_mem (kd_in ha (by omega))
  obtain ⟨h1, h2⟩ := oi_n (by omega) hi
  refine va_iast C.1 C.2.1 C.2.2.2.2.2.1.1 hI.1 (cw_D C.2.2.2.2.2.2) hI.2 q0 0 (by rw [cw_get hq, ent_A ha]) rfl h1 hd (fun H1 locs1 g1 _ g3 => kk H1 locs1 ⟨?_, g3⟩)
  rw [h2] at g1
  rwa [cw_set (M' := st M a i.toNat x) hq (by
    rw [ent_A ha, st_same]
    congr 4
    funext j
    by_cases hj : j = i.toNat <;> simp [hj, upd]) (fun x hx => st_ne _ _ _ _ hx)] at g1
theorem r_alen (C : Cx g p s m args c cc nL own) (hI : Inv g s M H locs) {a n : Nat} (z : Int) (ha : kd a = n + 100) (hn : n < 800) (hz : z = (n : Int)) (hd : decode cc pc = .ok (.arraylength, 1)) (kk : W p l e R s m args below meth c H locs cells slots Q (F0 m (pc + 1) ls (iI z :: rest))) : W p l e R s m args below meth c H locs cells slots Q (F0 m pc ls (rI g a :: rest)) := by
  subst hz
  obtain ⟨q0, hq⟩ := List.getElem?_of_mem (kd_in ha (by omega))
  exact va_alen C.1 C.2.1 C.2.2.2.2.2.1.1 hI.1 q0 0 (by rw [cw_get hq, ent_A ha]) (ty := .int) rfl (v := Int32.ofInt (n : Int)) (Int32.ofInt_eq_ofNat).symm hd kk
theorem r_acopy (C : Cx g p s m args c cc nL own) (hI : Inv g s M H locs) (hml : ls.size = nL) {a b n1 n2 index : Nat} (n : Nat) {z : Int} (hz : z = (n : Int)) (ha : kd a = n1 + 100) (hb : kd b = n2 + 100) (k1 : n1 < 800) (k2 : n2 < 800) (h1 : n ≤ n1) (h2 : n ≤ n2) (hl : Cond.methodLink own index arraycopyName ∈ TB) (hnat : Cond.native arraycopyName ∈ TB) (hst : Cond.static arraycopyName ∈ TB) (hini : Cond.initialized "java/lang/System" ∈ TB) (hfr : 1 ≤ R.frames) (hlo : (rest.map fun v => v.category).sum + (nativeFrameWords "java/lang/System" "arraycopy" 5 + 11) ≤ R.locals) (hd : decode cc pc = .ok (.invokestatic index, 3)) (kk : ∀ (H1 : Heap) (locs1 : List Loc), Inv g s (cpy M a b n) H1 locs1 → W p l e R s m args below meth c H1 locs1 cells slots Q (F0 m (pc + 3) ls rest)) : W p l e R s m args below meth c H locs cells slots Q (F0 m pc ls (iI z :: iI 0 :: rI g b :: iI 0 :: rI g a :: rest)) := by
  subst hz
  obtain ⟨q0, hq0⟩ := List.getElem?_of_mem (kd_in ha (by omega))
  obtain ⟨q1, hq1⟩ := List.getElem?_of_mem (kd_in hb (by omega))
  have hr : inR (n : Int) := ⟨by omega, by omega⟩
  have hN : (Int32.ofInt (n : Int)).toNatClampNeg = n := by rw [Int32.ofInt_eq_ofNat]; exact Int32.toNatClampNeg_ofNat_of_lt (by omega)
  have h0 : (Int32.ofInt 0).toNatClampNeg = 0 := rfl
  refine va_copyi C.1 C.2.1 (by rw [C.2.2.1, hml]) C.2.2.2.1 (C.2.2.2.2.1 _ hl) (C.2.2.2.2.1 _ hnat) (C.2.2.2.2.1 _ hst) (C.2.2.2.2.1 _ hini) C.2.2.2.2.2.1.1 hI.1 (cw_D C.2.2.2.2.2.2) hI.2 q0 q1 0 0 (ty := .int) (by rw [cw_get hq0, ent_A ha]) (by rw [cw_get hq1, ent_A hb]) rfl rfl rfl (sp := Int32.ofInt 0) (dp := Int32.ofInt 0) (by decide) (by decide) (fun h => by have h5 := (oi_lt hr (y := 0) (by decide)).mp h; omega) (by rw [hN, h0]; omega) (by rw [hN, h0]; omega) (fun i hi => rfl) hfr hlo hd (fun H1 locs1 g1 _ g3 => kk H1 locs1 ⟨?_, g3⟩)
  rw [hN, h0] at g1
  rwa [cw_set (M' := cpy M a b n) hq1 (by
    rw [ent_A hb, cpy_same]
    congr 4
    funext j
    by_cases hj : j < n <;> simp [hj, va_cpy]) (fun x hx => cpy_ne _ _ _ _ hx)] at g1
/-! the static tables -/
theorem r_stld (C : Cx g p s m args c cc nL own) (hI : Inv g s M H locs) {i : Int} {t : Nat} (f : Int → Int) (hT : va_T .int t 5 (fun j => iI (f (j : Int))) (Ad g) s s.heap) (hi : 0 ≤ i ∧ i < 5) (hd : decode cc pc = .ok (.iaload, 1)) (kk : W p l e R s m args below meth c H locs cells slots Q (F0 m (pc + 1) ls (iI (f i) :: rest))) : W p l e R s m args below meth c H locs cells slots Q (F0 m pc ls (iI i :: .ref t :: rest)) := by
  obtain ⟨h1, h2⟩ := oi_n (n := 5) (by omega) hi
  refine va_ti C.1 C.2.1 hT hI.2 h1 (v := iI (f i)) ?_ hd kk
  rw [h2]
  show iI (f ((i.toNat : Nat) : Int)) = iI (f i)
  rw [Int.toNat_of_nonneg hi.1]
theorem r_stlen (C : Cx g p s m args c cc nL own) (hI : Inv g s M H locs) {t : Nat} {f : Nat → Value} (hT : va_T .int t 5 f (Ad g) s s.heap) (hd : decode cc pc = .ok (.arraylength, 1)) (kk : W p l e R s m args below meth c H locs cells slots Q (F0 m (pc + 1) ls (iI 5 :: rest))) : W p l e R s m args below meth c H locs cells slots Q (F0 m pc ls (.ref t :: rest)) :=
  va_tlen C.1 C.2.1 hT hI.2 (v := Int32.ofInt 5) rfl hd kk
/-! calls -/
def CalF (y : MethodName) (bytes : ByteArray) (maxL : Nat) (ret : Option FieldType) (n : Nat) : Prop :=
  Cond.code y bytes maxL ret ∈ TB ∧ Cond.initialized y.cls ∈ TB ∧ (y.cls ≠ "java/lang/invoke/MethodHandle" ∧ y.cls ≠ "java/lang/invoke/VarHandle" ∧ (parseMethodDescriptor y.desc).map (fun d => d.parameters.length) = some n)
theorem pre_blind {M : Mem} {As : List Value} : FrameBlind (PreW g M As) := fun _ _ _ _ q => ⟨q.1, q.2.1, q.2.2.blind⟩
theorem pre_here (C : Cx g p s m args c cc nL own) (hI : Inv g s M H locs) {As : List Value} : ∀ U : State, U.heap = H → s.WarmedH U.vm → PreW g M As As.toArray U := fun U hU hW => ⟨rfl, by rw [hU]; exact hI.1, C.2.2.2.2.2.1.call hW hU hI.2⟩
theorem callB_TB (C : Cx g p s m args c cc nL own) {y : MethodName} {bytes : ByteArray} {maxL n index a b : Nat} {ret : Option FieldType} (F : CalF y bytes maxL ret n) (hl : Cond.methodLink own index y ∈ TB) (hR : a + 1 ≤ R.frames ∧ 8 + (maxL + 11) + b ≤ R.locals) : CallB R s args own index y bytes maxL ret (Cond.code y bytes maxL ret :: TB) (rmK a b) 0 0 n :=
  callB_of n C.2.2.2.2.1 (tb_goodIn F.1) rfl rfl rfl (C.2.2.2.2.1 _ F.2.1) (C.2.2.2.2.1 _ hl) F.2.2 hR
theorem run_V (C : Cx g p s m args c cc nL own) (hI : Inv g s M H locs) {y : MethodName} {bytes : ByteArray} {maxL n index a b o ci N : Nat} {ret : Option FieldType} {Cn : String} {T : u_T} (F : CalF y bytes maxL ret n) (wi : Cond.instanceMethod y ∈ TB) (wsl : Cond.selects Cn y y ∈ TB) (hl : Cond.methodLink own index y ∈ TB) (hR : (a + 1 ≤ R.frames ∧ 8 + (maxL + 11) + b ≤ R.locals) ∧ cells ≤ R.cells ∧ slots ≤ R.slots) (ho : o ∈ ids) (he : ∃ fs, entR g o (M o) = .inr (ci, fs)) (hc : vwCl[ci]? = some (Cn, T, N)) (hls : lv_has ls nL lv) (hd : decode cc pc = .ok (.invokevirtual index, 3)) (As : List Value) (hn : As.length = n) {stk : List Value} (hst : stk = As.reverse ++ rI g o :: rest) (hrest : (rest.map fun v => v.category).sum ≤ 8) {Qc : Array Value → State → Outcome → State → Prop} (hM : Met l y (Cond.code y bytes maxL ret :: TB) (rmK a b) (PreW g M (rI g o :: As)) Qc 0 0 (Ad g)) :
    va_Run p l e R s m args below meth c H locs cells slots 0 0 (F0 m pc ls stk) rest (Qc (rI g o :: As).toArray) (Ad g) := by
  obtain ⟨q0, hq⟩ := List.getElem?_of_mem ho
  obtain ⟨fs, he⟩ := he
  exact va_runV ⟨C.1, C.2.1, C.2.2.1, C.2.2.2.1, C.2.2.2.2.1⟩ hM ⟨callB_TB C F hl hR.1, C.2.2.2.2.1 _ wi, C.2.2.2.2.1 _ wsl⟩ ⟨pre_blind, va_recv C.2.2.2.2.2.1.1 hI.1 hc (q0 := q0) (by rw [cw_get hq, he]), pre_here C hI⟩ rfl hn hls.1 hst (lv_room hrest) hd hR.2
theorem run_S (C : Cx g p s m args c cc nL own) (hI : Inv g s M H locs) {y : MethodName} {bytes : ByteArray} {maxL n index a b : Nat} {ret : Option FieldType} (F : CalF y bytes maxL ret n) (wi : Cond.static y ∈ TB) (hl : Cond.methodLink own index y ∈ TB) (hR : (a + 1 ≤ R.frames ∧ 8 + (maxL + 11) + b ≤ R.locals) ∧ cells ≤ R.cells ∧ slots ≤ R.slots) (hls : lv_has ls nL lv) (hd : decode cc pc = .ok (.invokestatic index, 3)) (As : List Value) (hn : As.length = n) {stk : List Value} (hst : stk = As.reverse ++ rest) (hrest : (rest.map fun v => v.category).sum ≤ 8) {Qc : Array Value → State → Outcome → State → Prop} (hM : Met l y (Cond.code y bytes maxL ret :: TB) (rmK a b) (PreW g M As) Qc 0 0 (Ad g)) :
    va_Run p l e R s m args below meth c H locs cells slots 0 0 (F0 m pc ls stk) rest (Qc As.toArray) (Ad g) :=
  va_runS ⟨C.1, C.2.1, C.2.2.1, C.2.2.2.1, C.2.2.2.2.1⟩ hM ⟨callB_TB C F hl hR.1, C.2.2.2.2.1 _ wi⟩ ⟨pre_blind, pre_here C hI⟩ rfl hn hls.1 hst (lv_room hrest) hd hR.2
theorem run_N (C : Cx g p s m args c cc nL own) (hI : Inv g s M H locs) {y : MethodName} {bytes : ByteArray} {maxL n index a b : Nat} {ret : Option FieldType} {host : String} (F : CalF y bytes maxL ret n) (wi : Cond.static y ∈ TB) (hl : Cond.methodLinkNest own index y host ∈ NWs) (hR : (a + 1 ≤ R.frames ∧ 8 + (maxL + 11) + b ≤ R.locals) ∧ cells ≤ R.cells ∧ slots ≤ R.slots) (hls : lv_has ls nL lv) (hd : decode cc pc = .ok (.invokestatic index, 3)) (As : List Value) (hn : As.length = n) {stk : List Value} (hst : stk = As.reverse ++ rest) (hrest : (rest.map fun v => v.category).sum ≤ 8) {Qc : Array Value → State → Outcome → State → Prop} (hM : Met l y (Cond.code y bytes maxL ret :: TB) (rmK a b) (PreW g M As) Qc 0 0 (Ad g)) :
    va_Run p l e R s m args below meth c H locs cells slots 0 0 (F0 m pc ls stk) rest (Qc As.toArray) (Ad g) :=
  va_runSN ⟨C.1, C.2.1, C.2.2.1, C.2.2.2.1, C.2.2.2.2.1⟩ hM ⟨va_cnB n C.2.2.2.2.1 (tb_goodIn F.1) rfl rfl rfl (C.2.2.2.2.2.1.2.1 _ hl) (C.2.2.2.2.1 _ F.2.1) F.2.2 hR.1, C.2.2.2.2.1 _ wi, trivial⟩ ⟨pre_blind, pre_here C hI⟩ rfl hn hls.1 hst (lv_room hrest) hd hR.2
theorem r_calli {st0 : List Value} {a : Array Value} {f : Option (Int × Mem)} {kf : Int → Mem → Option β} (hI : Inv g s M H locs) (hf : bnd f kf = some res) (hr : ∀ r M', f = some (r, M') → va_Run p l e R s m args below meth c H locs cells slots 0 0 (F0 m pc ls st0) rest (PostI g r M' a) (Ad g)) (kk : ∀ (r : Int) (M' : Mem) (H' : Heap) (locs' : List Loc), Inv g s M' H' locs' → kf r M' = some res → W p l e R s m args below meth c H' locs' cells slots Q (F0 m (pc + 3) ls (iI r :: rest))) : W p l e R s m args below meth c H locs cells slots Q (F0 m pc ls st0) := by
  cases f with
  | none => cases hf
  | some q =>
    obtain ⟨r, M'⟩ := q
    refine va_calli (hr r M' rfl) hI.2 (fun _ _ h => h) (fun _ h => h) (fun v u t H1 locs1 ht hvm hv hB _ _ hS => ?_)
    subst hv
    exact kk r M' H1 locs1 ⟨by rw [← ht]; exact hB, hS⟩ hf
theorem r_calll {st0 : List Value} {a : Array Value} {f : Option (Int × Mem)} {kf : Int → Mem → Option β} (hI : Inv g s M H locs) (hf : bnd f kf = some res) (hr : ∀ r M', f = some (r, M') → va_Run p l e R s m args below meth c H locs cells slots 0 0 (F0 m pc ls st0) rest (PostL g r M' a) (Ad g)) (kk : ∀ (r : Int) (M' : Mem) (H' : Heap) (locs' : List Loc), Inv g s M' H' locs' → kf r M' = some res → W p l e R s m args below meth c H' locs' cells slots Q (F0 m (pc + 3) ls (lI r :: rest))) : W p l e R s m args below meth c H locs cells slots Q (F0 m pc ls st0) := by
  cases f with
  | none => cases hf
  | some q =>
    obtain ⟨r, M'⟩ := q
    refine va_calll (hr r M' rfl) hI.2 (fun _ _ h => h) (fun _ h => h) (fun v u t H1 locs1 ht hvm hv hB _ _ hS => ?_)
    subst hv
    exact kk r M' H1 locs1 ⟨by rw [← ht]; exact hB, hS⟩ hf
theorem r_callv {st0 : List Value} {a : Array Value} {f : Option Mem} {kf : Mem → Option β} (hI : Inv g s M H locs) (hf : bnv f kf = some res) (hr : ∀ M', f = some M' → va_Run p l e R s m args below meth c H locs cells slots 0 0 (F0 m pc ls st0) rest (PostV g M' a) (Ad g)) (kk : ∀ (M' : Mem) (H' : Heap) (locs' : List Loc), Inv g s M' H' locs' → kf M' = some res → W p l e R s m args below meth c H' locs' cells slots Q (F0 m (pc + 3) ls rest)) : W p l e R s m args below meth c H locs cells slots Q (F0 m pc ls st0) := by
  cases f with
  | none => cases hf
  | some M' =>
    refine va_callv (hr M' rfl) hI.2 (fun _ _ h => h) (fun _ h => h) (fun u t H1 locs1 ht hvm hv hB _ _ hS => ?_)
    exact kk M' H1 locs1 ⟨by rw [← ht]; exact hB, hS⟩ hf
/-! returns -/
def RetI (g : GP) (p : Program) (l : Launch) (e : Env) (R : Room) (s : State) (m : MethodId) (args : Array Value) (below : List Frame) (meth : Method) (c : Code) (cc : ByteArray) (r : Int × Mem) (Q : State → Prop) : Prop :=
  ∀ (H : Heap) (locs : List Loc) (pc : Nat) (ls : Array Slot), Inv g s r.2 H locs → decode cc pc = .ok (.ireturn, 1) → W p l e R s m args below meth c H locs 0 0 Q (F0 m pc ls [iI r.1])
def RetL (g : GP) (p : Program) (l : Launch) (e : Env) (R : Room) (s : State) (m : MethodId) (args : Array Value) (below : List Frame) (meth : Method) (c : Code) (cc : ByteArray) (r : Int × Mem) (Q : State → Prop) : Prop :=
  ∀ (H : Heap) (locs : List Loc) (pc : Nat) (ls : Array Slot), Inv g s r.2 H locs → decode cc pc = .ok (.lreturn, 1) → W p l e R s m args below meth c H locs 0 0 Q (F0 m pc ls [lI r.1])
def RetV (g : GP) (p : Program) (l : Launch) (e : Env) (R : Room) (s : State) (m : MethodId) (args : Array Value) (below : List Frame) (meth : Method) (c : Code) (cc : ByteArray) (r : Mem) (Q : State → Prop) : Prop :=
  ∀ (H : Heap) (locs : List Loc) (pc : Nat) (ls : Array Slot), Inv g s r H locs → decode cc pc = .ok (.return_, 1) → W p l e R s m args below meth c H locs 0 0 Q (F0 m pc ls [])
def RetZ (g : GP) (p : Program) (l : Launch) (e : Env) (R : Room) (s : State) (m : MethodId) (args : Array Value) (below : List Frame) (meth : Method) (c : Code) (cc : ByteArray) (r : Int × Mem) (Q : State → Prop) : Prop :=
  ∀ (H : Heap) (locs : List Loc) (pc : Nat) (ls : Array Slot), (r.1 = 0 ∨ r.1 = 1) → Inv g s r.2 H locs → decode cc pc = .ok (.ireturn, 1) → W p l e R s m args below meth c H locs 0 0 Q (F0 m pc ls [iI r.1])
theorem r_zret {x : Int} {r : Int × Mem} (hQ : RetZ g p l e R s m args below meth c cc r Q) (hb : x = 0 ∨ x = 1) (hf : some (x, M) = some r) (hI : Inv g s M H locs) (hd : decode cc pc = .ok (.ireturn, 1)) : W p l e R s m args below meth c H locs 0 0 Q (F0 m pc ls [iI x]) := by
  cases hf
  exact hQ H locs pc ls hb hI hd
theorem r_iret {x : Int} {r : Int × Mem} (hQ : RetI g p l e R s m args below meth c cc r Q) (hf : some (x, M) = some r) (hI : Inv g s M H locs) (hd : decode cc pc = .ok (.ireturn, 1)) : W p l e R s m args below meth c H locs 0 0 Q (F0 m pc ls [iI x]) := by
  cases hf
  exact hQ H locs pc ls hI hd
theorem r_lret {x : Int} {r : Int × Mem} (hQ : RetL g p l e R s m args below meth c cc r Q) (hf : some (x, M) = some r) (hI : Inv g s M H locs) (hd : decode cc pc = .ok (.lreturn, 1)) : W p l e R s m args below meth c H locs 0 0 Q (F0 m pc ls [lI x]) := by
  cases hf
  exact hQ H locs pc ls hI hd
theorem r_vret {r : Mem} (hQ : RetV g p l e R s m args below meth c cc r Q) (hf : some M = some r) (hI : Inv g s M H locs) (hd : decode cc pc = .ok (.return_, 1)) : W p l e R s m args below meth c H locs 0 0 Q (F0 m pc ls []) := by
  cases hf
  exact hQ H locs pc ls hI hd
theorem nar_i (x : Int32) : narrow .int (.int x) = .int x := vp_nar_int x
theorem nar_z {x : Int} (h : x = 0 ∨ x = 1) : narrow .boolean (.int (Int32.ofInt x)) = .int (Int32.ofInt x) := by
  rcases h with rfl | rfl <;> rfl
theorem ret_i {r : Int × Mem} {ty : FieldType} (C : Cx g p s m args c cc nL own) (hr : meth.sig.returnType = some ty) (hlk : meth.locks = false) (hn : narrow ty (.int (Int32.ofInt r.1)) = .int (Int32.ofInt r.1)) : RetI g p l e R s m args below meth c cc r (MQ below (PostI g r.1 r.2) args s 0 0 (Ad g)) := by
  intro H locs pc ls hI hd
  exact W.zret C.1 C.2.1 hr hn (fun t ht hW => ⟨⟨Int32.ofInt r.1, (), rfl, rfl, by show va_P g.1 vwCl (cw g r.2) t.heap; rw [ht]; exact hI.1⟩, hI.2.F ht⟩) hI.2.2.2 hd hlk
theorem ret_z {r : Int × Mem} (C : Cx g p s m args c cc nL own) (hr : meth.sig.returnType = some .boolean) (hlk : meth.locks = false) : RetZ g p l e R s m args below meth c cc r (MQ below (PostI g r.1 r.2) args s 0 0 (Ad g)) := by
  intro H locs pc ls hb hI hd
  exact W.zret C.1 C.2.1 hr (nar_z hb) (fun t ht hW => ⟨⟨Int32.ofInt r.1, (), rfl, rfl, by show va_P g.1 vwCl (cw g r.2) t.heap; rw [ht]; exact hI.1⟩, hI.2.F ht⟩) hI.2.2.2 hd hlk
theorem ret_l {r : Int × Mem} (C : Cx g p s m args c cc nL own) (hr : meth.sig.returnType = some .long) (hlk : meth.locks = false) : RetL g p l e R s m args below meth c cc r (MQ below (PostL g r.1 r.2) args s 0 0 (Ad g)) := by
  intro H locs pc ls hI hd
  exact W.lret C.1 C.2.1 hr (fun t ht hW => ⟨⟨Int64.ofInt r.1, (), rfl, rfl, by show va_P g.1 vwCl (cw g r.2) t.heap; rw [ht]; exact hI.1⟩, hI.2.F ht⟩) hI.2.2.2 hd
theorem ret_v {r : Mem} (C : Cx g p s m args c cc nL own) (hr : meth.sig.returnType = none) (hlk : meth.locks = false) : RetV g p l e R s m args below meth c cc r (MQ below (PostV g r) args s 0 0 (Ad g)) := by
  intro H locs pc ls hI hd
  exact W.vret C.1 C.2.1 hr (fun t ht hW => ⟨⟨(), rfl, trivial, by show va_P g.1 vwCl (cw g r) t.heap; rw [ht]; exact hI.1⟩, hI.2.F ht⟩) hI.2.2.2 hd hlk
/-- a contract out of the walk of the body -/
theorem met_of {y : MethodName} {ret : Option FieldType} {rm : Room} {As : List Value} {Qc : Array Value → State → Outcome → State → Prop} (hy : plainFor y = true) (hj : Inj g) (hAs : (lg_sl As).length ≤ nL)
    (body : ∀ (p : Program) (e : Env) (s : State) (m : MethodId) (below : List Frame) (meth : Method) (c : Code) (ls : Array Slot), Cx g p s m As.toArray c cc nL y.cls → meth.sig.returnType = ret → meth.locks = false → Inv g s M s.heap [] → lv_has ls nL (lv_args 0 As) → W p l e rm s m As.toArray below meth c s.heap [] 0 0 (MQ below Qc As.toArray s 0 0 (Ad g)) (F0 m 0 ls [])) :
    Met l y (Cond.code y cc nL ret :: TB) rm (PreW g M As) Qc 0 0 (Ad g) := by
  refine va_MetF (cc := cc) (maxL := nL) (ret := ret) hy rfl ?_
  intro p e s m args below meth c s₁ B hml hv
  obtain ⟨rfl, hP, hG⟩ := hv
  have hts := atoms_spec (ws := Cond.code y cc nL ret :: TB) B.pre
  have hown : s.vm.findClass y.cls = some m.cls := findClass_of_methodNamed B.named
  have hl := lv_entry As (n := nL) hAs
  rw [lg_entry_eq]
  exact body p e s m below meth c _ ⟨B.exec, B.bytes, hml, hown, fun w hw => hts w (List.mem_cons_of_mem _ hw), hG, hj⟩ B.returns B.notSynchronized ⟨hP, va_S.rf⟩ hl
end RW
