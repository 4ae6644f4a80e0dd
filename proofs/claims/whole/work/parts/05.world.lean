/-! the world: objects by their place in the graph, memory of whole numbers -/
abbrev Mem : Type := Nat → Nat → Int
/-- the child at field k of the object o -/
def ch (o k : Nat) : Nat := 40 * o + k + 3
def lk : List (Nat × Nat) → Nat → Nat
  | [], _ => 999
  | p :: t, o => if o = p.1 then p.2 else lk t o
theorem lk_mem : ∀ (t : List (Nat × Nat)) (o c : Nat), lk t o = c → c ≠ 999 → (o, c) ∈ t
  | [], _, _, h, hc => absurd h.symm hc
  | p :: t, o, c, h, hc => by
    unfold lk at h
    split at h
    · rename_i e
      subst e; subst h
      exact List.mem_cons_self
    · exact List.mem_cons_of_mem _ (lk_mem t o c h hc)
def ktab : List (Nat × Nat) := [(1, 7), (43, 2), (1723, 112), (44, 6), (1763, 3), (70523, 106), (70524, 106), (70525, 106), (1764, 105), (1765, 105), (45, 1), (1803, 108), (1804, 108), (1805, 108), (46, 6), (1843, 3), (73723, 106), (73724, 106), (73725, 106), (1844, 105), (1845, 105), (47, 1), (1883, 108), (1884, 108), (1885, 108), (48, 6), (1923, 3), (76923, 106), (76924, 106), (76925, 106), (1924, 105), (1925, 105), (49, 4), (1963, 3), (78523, 106), (78524, 106), (78525, 106), (1964, 105), (1965, 105), (50, 5), (2003, 3), (80123, 106), (80124, 106), (80125, 106), (2004, 106), (2005, 110), (51, 0), (2, 8), (83, 112), (91, 106), (93, 110), (94, 105), (95, 106), (96, 106), (98, 105), (100, 124), (101, 111), (109, 106), (110, 110), (111, 124)]
theorem ktab_small : ktab.all (fun p => decide (p.2 < 999)) = true := by decide +kernel
def kd (o : Nat) : Nat := lk ktab o
def ids : List Nat := ktab.map (fun p => p.1)
theorem ids_nd : va_nd ids = true := by decide +kernel
theorem kd_in {o c : Nat} (h : kd o = c) (hc : c ≠ 999) : o ∈ ids := List.mem_map.mpr ⟨(o, c), lk_mem _ _ _ h hc, rfl⟩
theorem kd_ch (c k c' : Nat) (h : ktab.all (fun p => !(p.2 == c) || kd (ch p.1 k) == c') = true) (hc : c ≠ 999) {o : Nat} (ho : kd o = c) : kd (ch o k) = c' := by
  have h1 := List.all_eq_true.mp h (o, c) (lk_mem _ _ _ ho hc)
  simpa using h1
abbrev inR (x : Int) : Prop := -2147483648 ≤ x ∧ x ≤ 2147483647
abbrev inL (x : Int) : Prop := -9223372036854775808 ≤ x ∧ x ≤ 9223372036854775807
def iI (x : Int) : Value := .int (Int32.ofInt x)
def lI (x : Int) : Value := .long (Int64.ofInt x)
/-- a step that the walk allows only under c -/
def gd {α : Type} (c : Prop) [Decidable c] (k : Option α) : Option α := if c then k else none
def bnd {α β : Type} (x : Option (α × Mem)) (k : α → Mem → Option β) : Option β := match x with
  | some p => k p.1 p.2
  | none => none
def bnv {β : Type} (x : Option Mem) (k : Mem → Option β) : Option β := match x with
  | some p => k p
  | none => none
def st (M : Mem) (o k : Nat) (v : Int) : Mem := fun a => if a = o then fun j => if j = k then v else M a j else M a
def cpy (M : Mem) (a b n : Nat) : Mem := fun x => if x = b then fun j => if j < n then M a j else M b j else M x
theorem st_same (M : Mem) (o k : Nat) (v : Int) : st M o k v o = fun j => if j = k then v else M o j := by unfold st; rw [if_pos rfl]
theorem st_ne (M : Mem) (o k : Nat) (v : Int) {a : Nat} (h : a ≠ o) : st M o k v a = M a := by unfold st; rw [if_neg h]
theorem cpy_same (M : Mem) (a b n : Nat) : cpy M a b n b = fun j => if j < n then M a j else M b j := by unfold cpy; rw [if_pos rfl]
theorem cpy_ne (M : Mem) (a b n : Nat) {x : Nat} (h : x ≠ b) : cpy M a b n x = M x := by unfold cpy; rw [if_neg h]
/-- the tables' classes and slots, the addresses of the objects, the arrays' class, the two static tables -/
abbrev GP : Type := va_G × (Nat → Nat) × ClassId × Nat × Nat
def rI (g : GP) (o : Nat) : Value := .ref (g.2.1 o)
abbrev vwCl : List vw_C := [(RX0, TX0, 1), (RX1, TX1, 4), (RX2, TX2, 2), (RX3, TX3, 3), (RX4, TX4, 5), (RX5, TX5, 4), (RX6, TX6, 9), (RX7, TX7, 13), (RX8, TX8, 30)]
def entR (g : GP) (o : Nat) (r : Nat → Int) : va_E :=
  if kd o = 0 then .inr (0, [iI (r 0)]) else if kd o = 1 then .inr (1, [rI g (ch o 0), rI g (ch o 1), rI g (ch o 2), iI (r 3)]) else if kd o = 2 then .inr (2, [rI g (ch o 0), iI (r 1)]) else if kd o = 3 then .inr (3, [rI g (ch o 0), rI g (ch o 1), rI g (ch o 2)]) else if kd o = 4 then .inr (4, [rI g (ch o 0), rI g (ch o 1), rI g (ch o 2), iI (r 3), iI (r 4)]) else if kd o = 5 then .inr (5, [rI g (ch o 0), rI g (ch o 1), rI g (ch o 2), iI (r 3)]) else if kd o = 6 then .inr (6, [rI g (ch o 0), rI g (ch o 1), rI g (ch o 2), iI (r 3), iI (r 4), iI (r 5), iI (r 6), iI (r 7), iI (r 8)]) else if kd o = 7 then .inr (7, [rI g (ch o 0), rI g (ch o 1), rI g (ch o 2), rI g (ch o 3), rI g (ch o 4), rI g (ch o 5), rI g (ch o 6), rI g (ch o 7), rI g (ch o 8), iI (r 9), iI (r 10), iI (r 11), iI (r 12)]) else if kd o = 8 then .inr (8, [rI g (ch o 0), iI (r 1), iI (r 2), iI (r 3), iI (r 4), iI (r 5), iI (r 6), iI (r 7), rI g (ch o 8), iI (r 9), rI g (ch o 10), rI g (ch o 11), rI g (ch o 12), rI g (ch o 13), iI (r 14), rI g (ch o 15), iI (r 16), rI g (ch o 17), rI g (ch o 18), iI (r 19), iI (r 20), iI (r 21), iI (r 22), iI (r 23), iI (r 24), iI (r 25), rI g (ch o 26), rI g (ch o 27), rI g (ch o 28), lI (r 29)]) else .inl (g.2.2.1, kd o - 100, .inl (fun j => Int32.ofInt (r j)))
theorem ent_0 {g : GP} {o : Nat} {r : Nat → Int} (h : kd o = 0) : entR g o r = .inr (0, [iI (r 0)]) := by simp [entR, h]
theorem ent_1 {g : GP} {o : Nat} {r : Nat → Int} (h : kd o = 1) : entR g o r = .inr (1, [rI g (ch o 0), rI g (ch o 1), rI g (ch o 2), iI (r 3)]) := by simp [entR, h]
theorem ent_2 {g : GP} {o : Nat} {r : Nat → Int} (h : kd o = 2) : entR g o r = .inr (2, [rI g (ch o 0), iI (r 1)]) := by simp [entR, h]
theorem ent_3 {g : GP} {o : Nat} {r : Nat → Int} (h : kd o = 3) : entR g o r = .inr (3, [rI g (ch o 0), rI g (ch o 1), rI g (ch o 2)]) := by simp [entR, h]
theorem ent_4 {g : GP} {o : Nat} {r : Nat → Int} (h : kd o = 4) : entR g o r = .inr (4, [rI g (ch o 0), rI g (ch o 1), rI g (ch o 2), iI (r 3), iI (r 4)]) := by simp [entR, h]
theorem ent_5 {g : GP} {o : Nat} {r : Nat → Int} (h : kd o = 5) : entR g o r = .inr (5, [rI g (ch o 0), rI g (ch o 1), rI g (ch o 2), iI (r 3)]) := by simp [entR, h]
theorem ent_6 {g : GP} {o : Nat} {r : Nat → Int} (h : kd o = 6) : entR g o r = .inr (6, [rI g (ch o 0), rI g (ch o 1), rI g (ch o 2), iI (r 3), iI (r 4), iI (r 5), iI (r 6), iI (r 7), iI (r 8)]) := by simp [entR, h]
theorem ent_7 {g : GP} {o : Nat} {r : Nat → Int} (h : kd o = 7) : entR g o r = .inr (7, [rI g (ch o 0), rI g (ch o 1), rI g (ch o 2), rI g (ch o 3), rI g (ch o 4), rI g (ch o 5), rI g (ch o 6), rI g (ch o 7), rI g (ch o 8), iI (r 9), iI (r 10), iI (r 11), iI (r 12)]) := by simp [entR, h]
theorem ent_8 {g : GP} {o : Nat} {r : Nat → Int} (h : kd o = 8) : entR g o r = .inr (8, [rI g (ch o 0), iI (r 1), iI (r 2), iI (r 3), iI (r 4), iI (r 5), iI (r 6), iI (r 7), rI g (ch o 8), iI (r 9), rI g (ch o 10), rI g (ch o 11), rI g (ch o 12), rI g (ch o 13), iI (r 14), rI g (ch o 15), iI (r 16), rI g (ch o 17), rI g (ch o 18), iI (r 19), iI (r 20), iI (r 21), iI (r 22), iI (r 23), iI (r 24), iI (r 25), rI g (ch o 26), rI g (ch o 27), rI g (ch o 28), lI (r 29)]) := by simp [entR, h]
theorem ent_A {g : GP} {o n : Nat} {r : Nat → Int} (h : kd o = n + 100) : entR g o r = .inl (g.2.2.1, n, .inl (fun j => Int32.ofInt (r j))) := by
  unfold entR
  rw [h, if_neg (by omega), if_neg (by omega), if_neg (by omega), if_neg (by omega), if_neg (by omega), if_neg (by omega), if_neg (by omega), if_neg (by omega), if_neg (by omega), Nat.add_sub_cancel]
theorem kd_small (o : Nat) : kd o ≤ 999 := by
  by_cases h : kd o = 999
  · omega
  · have h1 := List.all_eq_true.mp ktab_small _ (lk_mem _ _ _ (rfl : kd o = kd o) h)
    have h2 : kd o < 999 := by simpa using h1
    omega
def cw (g : GP) (M : Mem) : va_W := ids.map (fun o => (g.2.1 o, entR g o (M o)))
theorem cw_get {g : GP} {M : Mem} {o q0 : Nat} (h : ids[q0]? = some o) : (cw g M)[q0]? = some (g.2.1 o, entR g o (M o)) := by
  unfold cw
  rw [List.getElem?_map, h]
  rfl
theorem cw_set {g : GP} {M M' : Mem} {o q0 : Nat} {e : va_E} (h : ids[q0]? = some o) (h1 : entR g o (M' o) = e) (h2 : ∀ x, x ≠ o → M' x = M x) : (cw g M).set q0 (g.2.1 o, e) = cw g M' := by
  apply List.ext_getElem?
  intro i
  by_cases hi : i = q0
  · subst hi
    rw [List.getElem?_set_self (List.getElem?_eq_some_iff.mp (cw_get (g := g) (M := M) h)).1, cw_get h, h1]
  · rw [List.getElem?_set_ne (Ne.symm hi)]
    unfold cw
    rw [List.getElem?_map, List.getElem?_map]
    cases hx : ids[i]? with
    | none => rfl
    | some x =>
      have hne : x ≠ o := fun e => hi (va_nd_inj ids ids_nd i q0 o (by rw [hx, e]) h)
      simp only [Option.map_some, h2 x hne]
/-- the cells of the system -/
def Ad (g : GP) : Nat → Prop := fun q => ∃ o ∈ ids, g.2.1 o = q
abbrev Inj (g : GP) : Prop := ∀ o ∈ ids, ∀ o' ∈ ids, g.2.1 o = g.2.1 o' → o = o'
theorem cw_key {g : GP} {M : Mem} (k : Nat) (q : Nat × va_E) (h : (cw g M)[k]? = some q) : ∃ o, ids[k]? = some o ∧ q.1 = g.2.1 o := by
  unfold cw at h
  rw [List.getElem?_map] at h
  cases hx : ids[k]? with
  | none => rw [hx] at h; cases h
  | some x => rw [hx] at h; cases h; exact ⟨x, rfl, rfl⟩
theorem cw_D {g : GP} {M : Mem} (hj : Inj g) : va_D (Ad g) (cw g M) := by
  refine ⟨fun i j p q hi hj' hpq => ?_, fun k q hk => ?_⟩
  · obtain ⟨a, h1, h2⟩ := cw_key i p hi
    obtain ⟨b, h3, h4⟩ := cw_key j q hj'
    have hab : a = b := hj a (List.mem_of_getElem? h1) b (List.mem_of_getElem? h3) (by rw [← h2, ← h4, hpq])
    subst hab
    exact va_nd_inj ids ids_nd i j a h1 h3
  · obtain ⟨a, h1, h2⟩ := cw_key k q hk
    exact ⟨a, List.mem_of_getElem? h1, h2.symm⟩
def wts (i : Int) : Int := if i = 0 then 1 else if i = 1 then 2 else if i = 2 then 0 else if i = 3 then 1 else 4
def brs (i : Int) : Int := if i = 0 then 1 else if i = 1 then 3 else if i = 2 then 1 else if i = 3 then 2 else 3
def NWs : List Cond := [.methodLinkNest "LentGallery" 11 yX2_init "LentGallery", .methodLinkNest "LentGallery" 18 yX6_init "LentGallery", .methodLinkNest "LentGallery$Street" 11 yX3_init "LentGallery", .methodLinkNest "LentGallery" 25 yX1_init "LentGallery", .methodLinkNest "LentGallery" 41 yX4_init "LentGallery", .methodLinkNest "LentGallery$Settling" 11 yX3_init "LentGallery", .methodLinkNest "LentGallery" 48 yX5_init "LentGallery", .methodLinkNest "LentGallery$Sounding" 11 yX3_init "LentGallery", .methodLinkNest "LentGallery" 55 yX0_init "LentGallery", .methodLinkNest "LentGallery$Street" 66 yX7_isKind "LentGallery", .fieldLinkNest "LentGallery$Street" 73 "LentGallery" "WEIGHTS" "[I" "LentGallery", .fieldLinkNest "LentGallery$Street" 89 "LentGallery" "BREATHS" "[I" "LentGallery"]
def nwOK : Cond → Bool
  | .methodLinkNest _ _ _ _ => true
  | .fieldLinkNest _ _ _ _ _ _ => true
  | _ => false
theorem nws_ok : ∀ w ∈ NWs, nwOK w = true := by
  intro w hw
  have h : NWs.all nwOK = true := rfl
  exact List.all_eq_true.mp h w hw
theorem nw_warm {w : Cond} (h : nwOK w = true) {s U : State} (hW : s.WarmedH U.vm) (hZ : va_Nw w s) : va_Nw w U := by
  cases w <;> first | (exact va_Nw.warmM hW hZ) | (exact va_Nw.warmF hW hZ) | (cases h)
theorem nw_tabs {w : Cond} (h : nwOK w = true) : w.onTables = true := by
  cases w <;> first | rfl | (cases h)
/-- what is known of the tables and of the static arrays -/
def GL (g : GP) (U : State) : Prop :=
  va_K g.1 vwCl [(g.2.2.1, .int)] U ∧ (∀ w ∈ NWs, va_Nw w U) ∧ va_Z "LentGallery" "WEIGHTS" "[I" (.ref g.2.2.2.1) (Ad g) U U.heap ∧ va_Z "LentGallery" "BREATHS" "[I" (.ref g.2.2.2.2) (Ad g) U U.heap ∧
  va_T .int g.2.2.2.1 5 (fun j => iI (wts (j : Int))) (Ad g) U U.heap ∧ va_T .int g.2.2.2.2 5 (fun j => iI (brs (j : Int))) (Ad g) U U.heap
theorem GL.call {g : GP} {s U : State} {H : Heap} {locs : List Loc} (h : GL g s) (hW : s.WarmedH U.vm) (hH : U.heap = H) (hS : va_S (Ad g) s.heap H locs) : GL g U := by
  obtain ⟨h1, h2, h3, h4, h5, h6⟩ := h
  subst hH
  exact ⟨va_K.moved hW.alike h1, fun w hw => nw_warm (nws_ok w hw) hW (h2 w hw), (va_Z.moved hW.alike h3).kept hS.2.1, (va_Z.moved hW.alike h4).kept hS.2.1, (va_T.moved hW.alike h5).kept hS.2.1, (va_T.moved hW.alike h6).kept hS.2.1⟩
theorem GL.blind {g : GP} {U : State} {gf : JFrame} {mk : MethodId} {a : Array Value} (h : GL g U) : GL g (U.calling gf mk a) := by
  obtain ⟨h1, h2, h3, h4, h5, h6⟩ := h
  have hvm : U.vm.Alike (U.calling gf mk a).vm := Vm.Alike.refl U.vm
  exact ⟨va_K.moved hvm h1, fun w hw => va_Nw.same (nw_tabs (nws_ok w hw)) (show U.vm = (U.calling gf mk a).vm from rfl) (h2 w hw), va_Z.moved hvm h3, va_Z.moved hvm h4, va_T.moved hvm h5, va_T.moved hvm h6⟩
def Inv (g : GP) (s : State) (M : Mem) (H : Heap) (locs : List Loc) : Prop := va_P g.1 vwCl (cw g M) H ∧ va_S (Ad g) s.heap H locs
def Cx (g : GP) (p : Program) (s : State) (m : MethodId) (args : Array Value) (c : Code) (cc : ByteArray) (nL : Nat) (own : String) : Prop :=
  p.tables.exec = Jvm.exec ∧ c.code = cc ∧ c.maxLocals = nL ∧ s.vm.findClass own = some m.cls ∧ (∀ w ∈ TB, w.before args s = true) ∧ GL g s ∧ Inj g
def PreW (g : GP) (M : Mem) (As : List Value) : Array Value → State → Prop := va_Pc As (fun U => va_P g.1 vwCl (cw g M) U.heap ∧ GL g U)
def PostI (g : GP) (r : Int) (M : Mem) : Array Value → State → Outcome → State → Prop := va_Qi (fun (v : Int32) (_ : Unit) => v = Int32.ofInt r) (fun _ t => va_P g.1 vwCl (cw g M) t.heap) (Ad g)
def PostL (g : GP) (r : Int) (M : Mem) : Array Value → State → Outcome → State → Prop := va_Ql (fun (v : Int64) (_ : Unit) => v = Int64.ofInt r) (fun _ t => va_P g.1 vwCl (cw g M) t.heap) (Ad g)
def PostV (g : GP) (M : Mem) : Array Value → State → Outcome → State → Prop := va_Qv (fun (_ : Unit) => True) (fun _ t => va_P g.1 vwCl (cw g M) t.heap) (Ad g)
def rmK (a b : Nat) : Room := { frames := a, cells := 0, slots := 0, locals := b }
/-! numbers -/
theorem oi_t {x : Int} (h : inR x) : (Int32.ofInt x).toInt = x := Int32.toInt_ofInt_of_le (by omega) (by omega)
theorem ol_t {x : Int} (h : inL x) : (Int64.ofInt x).toInt = x := Int64.toInt_ofInt_of_le (by omega) (by omega)
theorem oi_le {x y : Int} (hx : inR x) (hy : inR y) : Int32.ofInt x ≤ Int32.ofInt y ↔ x ≤ y := by rw [Int32.le_iff_toInt_le, oi_t hx, oi_t hy]
theorem oi_lt {x y : Int} (hx : inR x) (hy : inR y) : Int32.ofInt x < Int32.ofInt y ↔ x < y := by rw [Int32.lt_iff_toInt_lt, oi_t hx, oi_t hy]
theorem oi_eq {x y : Int} (hx : inR x) (hy : inR y) : Int32.ofInt x = Int32.ofInt y ↔ x = y := by rw [← Int32.toInt_inj, oi_t hx, oi_t hy]
theorem inR_t (z : Int32) : inR z.toInt := ⟨by have := z.le_toInt; omega, by have := z.toInt_lt; omega⟩
theorem inL_t (z : Int64) : inL z.toInt := ⟨by have := z.le_toInt; omega, by have := z.toInt_lt; omega⟩
theorem oi_n {i : Int} {n : Nat} (hn : n < 2 ^ 31) (h : 0 ≤ i ∧ i < (n : Int)) : vp_in (Int32.ofInt i) n ∧ (Int32.ofInt i).toNatClampNeg = i.toNat := by
  have hr : inR i := ⟨by omega, by omega⟩
  refine ⟨vp_in_iff.mpr ?_, ?_⟩
  · rw [oi_t hr]; exact h
  · exact Int32.toNatClampNeg_ofInt_of_le (by omega) (by omega)
def i_and (x y : Int) : Int := (Int32.ofInt x &&& Int32.ofInt y).toInt
def i_or (x y : Int) : Int := (Int32.ofInt x ||| Int32.ofInt y).toInt
def i_shl (x y : Int) : Int := (Int32.ofInt x <<< (Int32.ofInt y &&& 31)).toInt
def i_shr (x y : Int) : Int := (Int32.ofInt x >>> (Int32.ofInt y &&& 31)).toInt
def i_ushr (x y : Int) : Int := ((Int32.ofInt x).toUInt32 >>> ((Int32.ofInt y).toUInt32 &&& Int32.toUInt32 31)).toInt32.toInt
def i_div (x y : Int) : Int := (Int32.ofInt x / Int32.ofInt y).toInt
def i_rem (x y : Int) : Int := (Int32.ofInt x - Int32.ofInt x / Int32.ofInt y * Int32.ofInt y).toInt
def l_and (x y : Int) : Int := (Int64.ofInt x &&& Int64.ofInt y).toInt
def l_rem (x y : Int) : Int := (Int64.ofInt x - Int64.ofInt x / Int64.ofInt y * Int64.ofInt y).toInt
def l_cmp (x y : Int) : Int := if x < y then -1 else if x = y then 0 else 1
theorem inR_cmp (x y : Int) : inR (l_cmp x y) := by unfold l_cmp; split <;> (try split) <;> decide
def al (a : Nat) : Int := ((kd a - 100 : Nat) : Int)
abbrev isA (a : Nat) : Prop := 100 ≤ kd a ∧ kd a < 200
theorem isA_k {a n : Nat} (h : kd a = n) (h1 : 100 ≤ n) (h2 : n < 200) : isA a := by unfold isA; omega
theorem isA_eq {a : Nat} (h : isA a) : kd a = (kd a - 100) + 100 := by unfold isA at h; omega
theorem inR_al {a : Nat} (h : isA a) : inR (al a) := by unfold isA at h; unfold al; omega
theorem al_k {a n : Nat} (h : kd a = n + 100) : al a = (n : Int) := by unfold al; rw [h]; simp
