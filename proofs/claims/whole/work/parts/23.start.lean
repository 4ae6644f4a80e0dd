
def M0 : Mem := fun o k => if o = 2 then (if k = 20 then -1 else 0) else 0
def lkd : List (Nat × Nat) → Nat → Nat
  | [], _ => 0
  | p :: t, o => if o = p.1 then p.2 else lkd t o
theorem inj_of {A : Nat → Prop} {g : GP} {M : Mem} (hD : va_D A (cw g M)) : Inj g := by
  intro o ho o' ho' h
  obtain ⟨k, hk⟩ := List.getElem?_of_mem ho
  obtain ⟨k', hk'⟩ := List.getElem?_of_mem ho'
  have e := hD.1 k k' _ _ (cw_get hk) (cw_get hk') h
  subst e
  exact Option.some.inj (hk.symm.trans hk')
theorem ad_of {A : Nat → Prop} {g : GP} {M : Mem} (hD : va_D A (cw g M)) : ∀ q, Ad g q → A q := by
  rintro q ⟨o, ho, rfl⟩
  obtain ⟨k, hk⟩ := List.getElem?_of_mem ho
  exact hD.2 k _ (cw_get hk)
theorem nws_in : ∀ w ∈ NWs, w ∈ lw_tbl := List.forall_mem_cons.mpr ⟨List.mem_append_right _ (List.mem_append_left _ (List.mem_of_getElem? (i := 24) rfl)), List.forall_mem_cons.mpr ⟨List.mem_append_right _ (List.mem_append_left _ (List.mem_of_getElem? (i := 40) rfl)), List.forall_mem_cons.mpr ⟨List.mem_append_right _ (List.mem_append_left _ (List.mem_of_getElem? (i := 46) rfl)), List.forall_mem_cons.mpr ⟨List.mem_append_right _ (List.mem_append_left _ (List.mem_of_getElem? (i := 107) rfl)), List.forall_mem_cons.mpr ⟨List.mem_append_right _ (List.mem_append_left _ (List.mem_of_getElem? (i := 127) rfl)), List.forall_mem_cons.mpr ⟨List.mem_append_right _ (List.mem_append_left _ (List.mem_of_getElem? (i := 132) rfl)), List.forall_mem_cons.mpr ⟨List.mem_append_right _ (List.mem_append_left _ (List.mem_of_getElem? (i := 154) rfl)), List.forall_mem_cons.mpr ⟨List.mem_append_right _ (List.mem_append_left _ (List.mem_of_getElem? (i := 159) rfl)), List.forall_mem_cons.mpr ⟨List.mem_append_right _ (List.mem_append_left _ (List.mem_of_getElem? (i := 176) rfl)), List.forall_mem_cons.mpr ⟨List.mem_append_right _ (List.mem_append_right _ (List.mem_append_left _ (List.mem_of_getElem? (i := 112) rfl))), List.forall_mem_cons.mpr ⟨List.mem_append_right _ (List.mem_append_right _ (List.mem_append_left _ (List.mem_of_getElem? (i := 114) rfl))), List.forall_mem_cons.mpr ⟨List.mem_append_right _ (List.mem_append_right _ (List.mem_append_left _ (List.mem_of_getElem? (i := 135) rfl))), fun _ h => absurd h List.not_mem_nil⟩⟩⟩⟩⟩⟩⟩⟩⟩⟩⟩⟩
theorem ls_WEIGHTS : Cond.laysStatic "LentGallery" "WEIGHTS" "[I" ∈ lw_tbl := List.mem_append_right _ (List.mem_append_right _ (List.mem_append_left _ (List.mem_of_getElem? (i := 107) rfl)))
theorem ls_BREATHS : Cond.laysStatic "LentGallery" "BREATHS" "[I" ∈ lw_tbl := List.mem_append_right _ (List.mem_append_right _ (List.mem_append_left _ (List.mem_of_getElem? (i := 136) rfl)))

theorem st_tab {args : Array Value} {s : State} {A : Nat → Prop} {n : String} {f : Int → Int} (harr : (Cond.arrayOf (.static "LentGallery" n "[I") .int).before args s = true) (hlen : (Cond.eq (.length (.static "LentGallery" n "[I")) (.int 5)).before args s = true) (h0 : (Cond.eq (.elem (.static "LentGallery" n "[I") (.int 0)) (.int (Int32.ofInt (f 0)))).before args s = true) (h1 : (Cond.eq (.elem (.static "LentGallery" n "[I") (.int 1)) (.int (Int32.ofInt (f 1)))).before args s = true) (h2 : (Cond.eq (.elem (.static "LentGallery" n "[I") (.int 2)) (.int (Int32.ofInt (f 2)))).before args s = true) (h3 : (Cond.eq (.elem (.static "LentGallery" n "[I") (.int 3)) (.int (Int32.ofInt (f 3)))).before args s = true) (h4 : (Cond.eq (.elem (.static "LentGallery" n "[I") (.int 4)) (.int (Int32.ofInt (f 4)))).before args s = true) (hA : ∀ a : Nat, a < s.heap.size → ¬ A a) :
    ∃ t : Nat, (Term.static "LentGallery" n "[I").eval args s none [] s = some (.ref t) ∧ va_T .int t 5 (fun j => iI (f (j : Int))) A s s.heap := by
  refine va_Tof (N := 5) (by decide) harr (va_eqt hlen) (fun j hj => ?_) hA
  match j, hj with
  | 0, _ => exact va_eqt h0
  | 1, _ => exact va_eqt h1
  | 2, _ => exact va_eqt h2
  | 3, _ => exact va_eqt h3
  | 4, _ => exact va_eqt h4
  | n + 5, h => omega
