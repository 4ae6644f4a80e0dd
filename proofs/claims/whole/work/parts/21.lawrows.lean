/-! THE CLAIM OUT OF ONE WALK OF THE LAW'S BODY. Your part is whole_start (and what it stands on); all else here is the same for every law, but numbers. -/
def R_law : String := "LentGalleryLaw"
def lw_P (b : Addr) (xs : List Int32) (args : Array Value) (s : State) : Prop := args = #[.ref b] ∧ s.IntsAt b xs ∧ xs.length ≤ 256 ∧ (Jvm.Cond.and given_1 narrow_1).before args s = true
def lw_Q (_ : Array Value) (s : State) (o : Outcome) (t : State) : Prop := o = .returned (some (.int 1)) ∧ Framed s o t [] 613634 7261345
def lw_Z (below : List Frame) (a : Array Value) (s : State) : State → Prop := fun t => ∃ o, t.status = .running ∧ Ended t below o ∧ lw_Q a s o t
/-- the law's own end, with 1 on the stack, nothing written that was there before, its room as the claim has it -/
theorem lw_ret {p : Program} {l : Launch} {e : Env} {s : State} {m : MethodId} {below : List Frame} {meth : Method} {c : Code} {b : Nat} (hx : p.tables.exec = Jvm.exec) (hb : c.code = code) (hr : meth.sig.returnType = ret) (hlocks : meth.locks = false) {pc : Nat} {H : Heap} {ls : Array Slot} (hdg : decode code pc = .ok (.ireturn, 1)) : W p l e room_1 s m #[Value.ref b] below meth c H [] 613634 7261345 (lw_Z below #[Value.ref b] s) (F0 m pc ls [.int 1]) := by
  intro T hT X
  obtain ⟨fs, hret, hrun, hended, hW, hframe⟩ := X.leave (v := some (.int 1)) (hlocks := hlocks) (fun h => by rw [hr] at h; cases h)
  have hmeth' : T.vm.method? m = some meth := X.method'
  refine ⟨T.setFrames fs, ?_, .returned (some (.int 1)), hrun, hended, rfl, ⟨_, rfl⟩, hW, hframe⟩
  jvm_step X.here [X.here.top, hx, hb, hdg, hmeth', hr, ret, narrow_b1]
  (try refine ⟨rfl, ?_⟩); (try refine ⟨rfl, ?_⟩)
  first | (intro acts; rw [hret _ acts rfl rfl rfl]) | rw [hret _ _ rfl rfl rfl]
  exact Steps.refl _
/-- what holds at the law's entry: the machine, the code, the tables' words (any of lw_tbl by 'hts w (by decide +kernel)'), the script of L ints xs at the cell b, what the Statement gives of the start (any of its parts by flat_of_before) -/
def lw_At (p : Program) (s : State) (m : MethodId) (meth : Method) (c : Code) (b L : Nat) (xs : Nat → Int32) : Prop :=
  p.tables.exec = Jvm.exec ∧ c.code = code ∧ meth.sig.returnType = ret ∧ c.maxLocals = 4 ∧ s.vm.findClass R_law = some m.cls ∧ (∀ w ∈ lw_tbl, w.before #[Value.ref b] s = true) ∧ va_X b L xs s s.heap ∧ b < s.heap.size ∧ meth.locks = false ∧ (Jvm.Cond.and given_1 narrow_1).before #[Value.ref b] s = true

section LW
variable {g : GP} {p : Program} {l : Launch} {e : Env} {R : Room} {s : State} {m : MethodId} {args : Array Value} {below : List Frame} {meth : Method} {c : Code} {H : Heap} {locs : List Loc} {cells slots : Nat} {Q : State → Prop}
variable {cc : ByteArray} {nL : Nat} {own : String} {pc : Nat} {ls : Array Slot} {rest : List Value} {M : Mem} {lv : List (Nat × Value)} {b L : Nat} {xs : Nat → Int32}
theorem kd_x : kd 1 = 7 := by decide +kernel
theorem kd_m : kd 2 = 8 := by decide +kernel
theorem r_sload_n (C : Cx g p s m args c cc nL own) (hl : lv_has ls nL lv) {k : Fin 4} {i : Nat} (j : Nat) (hd : decode cc pc = .ok (.aload_n k, 1)) (hi : (k : Nat) = i) (hj : lv[j]? = some (i, .ref b)) (kk : W p l e R s m args below meth c H locs cells slots Q (F0 m (pc + 1) ls (.ref b :: rest))) : W p l e R s m args below meth c H locs cells slots Q (F0 m pc ls rest) :=
  lv_aload_n C.1 C.2.1 hd hi (lv_at hl j hj) kk
theorem r_sld (C : Cx g p s m args c cc nL own) (hI : Inv g s M H locs) (hX : va_X b L xs s s.heap) (hbl : b < s.heap.size) (hbA : ¬ Ad g b) (hL : L ≤ 256) {i : Int} (hi : 0 ≤ i ∧ i < (L : Int)) (hd : decode cc pc = .ok (.iaload, 1)) (kk : W p l e R s m args below meth c H locs cells slots Q (F0 m (pc + 1) ls (iI (xs i.toNat).toInt :: rest))) : W p l e R s m args below meth c H locs cells slots Q (F0 m pc ls (iI i :: .ref b :: rest)) := by
  obtain ⟨h1, h2⟩ := oi_n (n := L) (by omega) hi
  refine va_sld C.1 C.2.1 hX hbl hbA hI.2 h1 hd ?_
  unfold iI at kk
  rw [Int32.ofInt_toInt] at kk
  rw [h2]
  exact kk
theorem r_slen (C : Cx g p s m args c cc nL own) (hI : Inv g s M H locs) (hX : va_X b L xs s s.heap) (hbl : b < s.heap.size) (hbA : ¬ Ad g b) (hd : decode cc pc = .ok (.arraylength, 1)) (kk : W p l e R s m args below meth c H locs cells slots Q (F0 m (pc + 1) ls (iI (L : Int) :: rest))) : W p l e R s m args below meth c H locs cells slots Q (F0 m pc ls (.ref b :: rest)) := by
  refine va_slen C.1 C.2.1 hX hbl hbA hI.2 hd ?_
  unfold iI at kk
  rw [Int32.ofInt_eq_ofNat] at kk
  exact kk
theorem r_lawret (C : Cx g p s m #[Value.ref b] c code nL own) (hI : Inv g s M H locs) (hAd : ∀ q, Ad g q → s.heap.size ≤ q) (hr : meth.sig.returnType = ret) (hlk : meth.locks = false) (h1 : cells ≤ 613634) (h2 : slots ≤ 7261345) (hd : decode code pc = .ok (.ireturn, 1)) : W p l e room_1 s m #[Value.ref b] below meth c H locs cells slots (lw_Z below #[Value.ref b] s) (F0 m pc ls [iI 1]) := by
  refine va_forget (fun q hq => hAd _ (hI.2.2.2 q hq)) ?_
  refine W.widen (k := 613634) (n := 7261345) h1 h2 ?_
  exact lw_ret C.1 C.2.1 hr hlk hd
end LW
