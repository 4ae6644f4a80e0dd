section
/-- a private method of a class that the tables say can be made, by its rows of tables_1 -/
def lw_okq (q : MethodName × Nat) : Prop := (q.1.cls ≠ "java/lang/invoke/MethodHandle" ∧ q.1.cls ≠ "java/lang/invoke/VarHandle") ∧ Cond.instantiable q.1.cls q.2 ∈ tables_1 ∧ Cond.privateMethod q.1 ∈ tables_1 ∧ Cond.instanceMethod q.1 ∈ tables_1
theorem lw_p0 : lw_okq (⟨"LentGallery", "isPlace", "(I)Z"⟩, 13) := ⟨⟨by decide +kernel, by decide +kernel⟩, List.mem_of_getElem? (i := 15) (by decide +kernel), List.mem_of_getElem? (i := 269) (by decide +kernel), List.mem_of_getElem? (i := 270) (by decide +kernel)⟩
theorem lw_p1 : lw_okq (⟨"LentGallery$Sounding", "liveDays", "(I)V"⟩, 4) := ⟨⟨by decide +kernel, by decide +kernel⟩, List.mem_of_getElem? (i := 153) (by decide +kernel), List.mem_of_getElem? (i := 303) (by decide +kernel), List.mem_of_getElem? (i := 304) (by decide +kernel)⟩
theorem lw_p2 : lw_okq (⟨"LentGallery$Sounding", "leftAtWorst", "(I)I"⟩, 4) := ⟨⟨by decide +kernel, by decide +kernel⟩, List.mem_of_getElem? (i := 153) (by decide +kernel), List.mem_of_getElem? (i := 325) (by decide +kernel), List.mem_of_getElem? (i := 326) (by decide +kernel)⟩
theorem lw_p3 : lw_okq (⟨"LentGallery", "isTenant", "(I)Z"⟩, 13) := ⟨⟨by decide +kernel, by decide +kernel⟩, List.mem_of_getElem? (i := 15) (by decide +kernel), List.mem_of_getElem? (i := 360) (by decide +kernel), List.mem_of_getElem? (i := 361) (by decide +kernel)⟩
theorem lw_p4 : lw_okq (⟨"LentGallery$Street", "isHere", "(I)Z"⟩, 9) := ⟨⟨by decide +kernel, by decide +kernel⟩, List.mem_of_getElem? (i := 39) (by decide +kernel), List.mem_of_getElem? (i := 368) (by decide +kernel), List.mem_of_getElem? (i := 369) (by decide +kernel)⟩
theorem lw_p5 : lw_okq (⟨"LentGallery$Settling", "keep", "(I)V"⟩, 5) := ⟨⟨by decide +kernel, by decide +kernel⟩, List.mem_of_getElem? (i := 126) (by decide +kernel), List.mem_of_getElem? (i := 446) (by decide +kernel), List.mem_of_getElem? (i := 447) (by decide +kernel)⟩
theorem lw_p6 : lw_okq (⟨"LentGallery$Street", "comersFrom", "(I)I"⟩, 9) := ⟨⟨by decide +kernel, by decide +kernel⟩, List.mem_of_getElem? (i := 39) (by decide +kernel), List.mem_of_getElem? (i := 480) (by decide +kernel), List.mem_of_getElem? (i := 481) (by decide +kernel)⟩
theorem lw_p7 : lw_okq (⟨"LentGallery", "mixPlaces", "(J)J"⟩, 13) := ⟨⟨by decide +kernel, by decide +kernel⟩, List.mem_of_getElem? (i := 15) (by decide +kernel), List.mem_of_getElem? (i := 539) (by decide +kernel), List.mem_of_getElem? (i := 540) (by decide +kernel)⟩
theorem lw_p8 : lw_okq (⟨"LentGallery", "mixWouldBe", "(J)J"⟩, 13) := ⟨⟨by decide +kernel, by decide +kernel⟩, List.mem_of_getElem? (i := 15) (by decide +kernel), List.mem_of_getElem? (i := 549) (by decide +kernel), List.mem_of_getElem? (i := 550) (by decide +kernel)⟩
theorem lw_p9 : lw_okq (⟨"LentGalleryModel", "faultOf", "()I"⟩, 30) := ⟨⟨by decide +kernel, by decide +kernel⟩, List.mem_of_getElem? (i := 557) (by decide +kernel), List.mem_of_getElem? (i := 670) (by decide +kernel), List.mem_of_getElem? (i := 671) (by decide +kernel)⟩
theorem lw_p10 : lw_okq (⟨"LentGalleryModel", "standing", "()I"⟩, 30) := ⟨⟨by decide +kernel, by decide +kernel⟩, List.mem_of_getElem? (i := 557) (by decide +kernel), List.mem_of_getElem? (i := 682) (by decide +kernel), List.mem_of_getElem? (i := 683) (by decide +kernel)⟩
theorem lw_p11 : lw_okq (⟨"LentGalleryModel", "isPlace", "(I)Z"⟩, 30) := ⟨⟨by decide +kernel, by decide +kernel⟩, List.mem_of_getElem? (i := 557) (by decide +kernel), List.mem_of_getElem? (i := 690) (by decide +kernel), List.mem_of_getElem? (i := 691) (by decide +kernel)⟩
theorem lw_p12 : lw_okq (⟨"LentGalleryModel", "lacks", "()Z"⟩, 30) := ⟨⟨by decide +kernel, by decide +kernel⟩, List.mem_of_getElem? (i := 557) (by decide +kernel), List.mem_of_getElem? (i := 694) (by decide +kernel), List.mem_of_getElem? (i := 695) (by decide +kernel)⟩
theorem lw_p13 : lw_okq (⟨"LentGalleryModel", "tellPlace", "(II)I"⟩, 30) := ⟨⟨by decide +kernel, by decide +kernel⟩, List.mem_of_getElem? (i := 557) (by decide +kernel), List.mem_of_getElem? (i := 699) (by decide +kernel), List.mem_of_getElem? (i := 700) (by decide +kernel)⟩
theorem lw_p14 : lw_okq (⟨"LentGalleryModel", "asItIs", "()V"⟩, 30) := ⟨⟨by decide +kernel, by decide +kernel⟩, List.mem_of_getElem? (i := 557) (by decide +kernel), List.mem_of_getElem? (i := 703) (by decide +kernel), List.mem_of_getElem? (i := 704) (by decide +kernel)⟩
theorem lw_p15 : lw_okq (⟨"LentGalleryModel", "weightIn", "(I)I"⟩, 30) := ⟨⟨by decide +kernel, by decide +kernel⟩, List.mem_of_getElem? (i := 557) (by decide +kernel), List.mem_of_getElem? (i := 710) (by decide +kernel), List.mem_of_getElem? (i := 711) (by decide +kernel)⟩
def lw_privs_1 : List (MethodName × Nat) := [(⟨"LentGallery", "isPlace", "(I)Z"⟩, 13), (⟨"LentGallery$Sounding", "liveDays", "(I)V"⟩, 4), (⟨"LentGallery$Sounding", "leftAtWorst", "(I)I"⟩, 4), (⟨"LentGallery", "isTenant", "(I)Z"⟩, 13), (⟨"LentGallery$Street", "isHere", "(I)Z"⟩, 9), (⟨"LentGallery$Settling", "keep", "(I)V"⟩, 5), (⟨"LentGallery$Street", "comersFrom", "(I)I"⟩, 9), (⟨"LentGallery", "mixPlaces", "(J)J"⟩, 13), (⟨"LentGallery", "mixWouldBe", "(J)J"⟩, 13), (⟨"LentGalleryModel", "faultOf", "()I"⟩, 30), (⟨"LentGalleryModel", "standing", "()I"⟩, 30), (⟨"LentGalleryModel", "isPlace", "(I)Z"⟩, 30), (⟨"LentGalleryModel", "lacks", "()Z"⟩, 30), (⟨"LentGalleryModel", "tellPlace", "(II)I"⟩, 30), (⟨"LentGalleryModel", "asItIs", "()V"⟩, 30), (⟨"LentGalleryModel", "weightIn", "(I)I"⟩, 30)]
theorem lw_r1 : ∀ q ∈ lw_privs_1, lw_okq q := List.forall_mem_cons.mpr ⟨lw_p0, List.forall_mem_cons.mpr ⟨lw_p1, List.forall_mem_cons.mpr ⟨lw_p2, List.forall_mem_cons.mpr ⟨lw_p3, List.forall_mem_cons.mpr ⟨lw_p4, List.forall_mem_cons.mpr ⟨lw_p5, List.forall_mem_cons.mpr ⟨lw_p6, List.forall_mem_cons.mpr ⟨lw_p7, List.forall_mem_cons.mpr ⟨lw_p8, List.forall_mem_cons.mpr ⟨lw_p9, List.forall_mem_cons.mpr ⟨lw_p10, List.forall_mem_cons.mpr ⟨lw_p11, List.forall_mem_cons.mpr ⟨lw_p12, List.forall_mem_cons.mpr ⟨lw_p13, List.forall_mem_cons.mpr ⟨lw_p14, List.forall_mem_cons.mpr ⟨lw_p15, fun _ h => absurd h List.not_mem_nil⟩⟩⟩⟩⟩⟩⟩⟩⟩⟩⟩⟩⟩⟩⟩⟩
theorem lw_p16 : lw_okq (⟨"LentGalleryModel", "whoIn", "(I)I"⟩, 30) := ⟨⟨by decide +kernel, by decide +kernel⟩, List.mem_of_getElem? (i := 557) (by decide +kernel), List.mem_of_getElem? (i := 717) (by decide +kernel), List.mem_of_getElem? (i := 718) (by decide +kernel)⟩
theorem lw_p17 : lw_okq (⟨"LentGalleryModel", "lessOf", "(I[I)I"⟩, 30) := ⟨⟨by decide +kernel, by decide +kernel⟩, List.mem_of_getElem? (i := 557) (by decide +kernel), List.mem_of_getElem? (i := 721) (by decide +kernel), List.mem_of_getElem? (i := 722) (by decide +kernel)⟩
theorem lw_p18 : lw_okq (⟨"LentGalleryModel", "strongOf", "(I)I"⟩, 30) := ⟨⟨by decide +kernel, by decide +kernel⟩, List.mem_of_getElem? (i := 557) (by decide +kernel), List.mem_of_getElem? (i := 728) (by decide +kernel), List.mem_of_getElem? (i := 729) (by decide +kernel)⟩
theorem lw_p19 : lw_okq (⟨"LentGalleryModel", "isKnocked", "(II)Z"⟩, 30) := ⟨⟨by decide +kernel, by decide +kernel⟩, List.mem_of_getElem? (i := 557) (by decide +kernel), List.mem_of_getElem? (i := 732) (by decide +kernel), List.mem_of_getElem? (i := 733) (by decide +kernel)⟩
theorem lw_p20 : lw_okq (⟨"LentGalleryModel", "goesBy", "()I"⟩, 30) := ⟨⟨by decide +kernel, by decide +kernel⟩, List.mem_of_getElem? (i := 557) (by decide +kernel), List.mem_of_getElem? (i := 736) (by decide +kernel), List.mem_of_getElem? (i := 737) (by decide +kernel)⟩
theorem lw_p21 : lw_okq (⟨"LentGalleryModel", "knockOf", "(I)I"⟩, 30) := ⟨⟨by decide +kernel, by decide +kernel⟩, List.mem_of_getElem? (i := 557) (by decide +kernel), List.mem_of_getElem? (i := 740) (by decide +kernel), List.mem_of_getElem? (i := 741) (by decide +kernel)⟩
theorem lw_p22 : lw_okq (⟨"LentGalleryModel", "isTenant", "(I)Z"⟩, 30) := ⟨⟨by decide +kernel, by decide +kernel⟩, List.mem_of_getElem? (i := 557) (by decide +kernel), List.mem_of_getElem? (i := 757) (by decide +kernel), List.mem_of_getElem? (i := 758) (by decide +kernel)⟩
theorem lw_p23 : lw_okq (⟨"LentGalleryModel", "tell", "(II)I"⟩, 30) := ⟨⟨by decide +kernel, by decide +kernel⟩, List.mem_of_getElem? (i := 557) (by decide +kernel), List.mem_of_getElem? (i := 761) (by decide +kernel), List.mem_of_getElem? (i := 762) (by decide +kernel)⟩
theorem lw_p24 : lw_okq (⟨"LentGalleryModel", "isCutOff", "(I)Z"⟩, 30) := ⟨⟨by decide +kernel, by decide +kernel⟩, List.mem_of_getElem? (i := 557) (by decide +kernel), List.mem_of_getElem? (i := 768) (by decide +kernel), List.mem_of_getElem? (i := 769) (by decide +kernel)⟩
theorem lw_p25 : lw_okq (⟨"LentGalleryModel", "gasping", "()I"⟩, 30) := ⟨⟨by decide +kernel, by decide +kernel⟩, List.mem_of_getElem? (i := 557) (by decide +kernel), List.mem_of_getElem? (i := 772) (by decide +kernel), List.mem_of_getElem? (i := 773) (by decide +kernel)⟩
theorem lw_p26 : lw_okq (⟨"LentGalleryModel", "holdsOf", "()I"⟩, 30) := ⟨⟨by decide +kernel, by decide +kernel⟩, List.mem_of_getElem? (i := 557) (by decide +kernel), List.mem_of_getElem? (i := 792) (by decide +kernel), List.mem_of_getElem? (i := 793) (by decide +kernel)⟩
theorem lw_p27 : lw_okq (⟨"LentGalleryModel", "holdsThen", "()I"⟩, 30) := ⟨⟨by decide +kernel, by decide +kernel⟩, List.mem_of_getElem? (i := 557) (by decide +kernel), List.mem_of_getElem? (i := 796) (by decide +kernel), List.mem_of_getElem? (i := 797) (by decide +kernel)⟩
theorem lw_p28 : lw_okq (⟨"LentGalleryModel", "layWhere", "()I"⟩, 30) := ⟨⟨by decide +kernel, by decide +kernel⟩, List.mem_of_getElem? (i := 557) (by decide +kernel), List.mem_of_getElem? (i := 806) (by decide +kernel), List.mem_of_getElem? (i := 807) (by decide +kernel)⟩
theorem lw_p29 : lw_okq (⟨"LentGalleryModel", "propsOf", "(II)I"⟩, 30) := ⟨⟨by decide +kernel, by decide +kernel⟩, List.mem_of_getElem? (i := 557) (by decide +kernel), List.mem_of_getElem? (i := 819) (by decide +kernel), List.mem_of_getElem? (i := 820) (by decide +kernel)⟩
theorem lw_p30 : lw_okq (⟨"LentGalleryModel", "propsIn", "(II)I"⟩, 30) := ⟨⟨by decide +kernel, by decide +kernel⟩, List.mem_of_getElem? (i := 557) (by decide +kernel), List.mem_of_getElem? (i := 823) (by decide +kernel), List.mem_of_getElem? (i := 824) (by decide +kernel)⟩
theorem lw_p31 : lw_okq (⟨"LentGalleryModel", "outOf", "()I"⟩, 30) := ⟨⟨by decide +kernel, by decide +kernel⟩, List.mem_of_getElem? (i := 557) (by decide +kernel), List.mem_of_getElem? (i := 831) (by decide +kernel), List.mem_of_getElem? (i := 832) (by decide +kernel)⟩
def lw_privs_2 : List (MethodName × Nat) := [(⟨"LentGalleryModel", "whoIn", "(I)I"⟩, 30), (⟨"LentGalleryModel", "lessOf", "(I[I)I"⟩, 30), (⟨"LentGalleryModel", "strongOf", "(I)I"⟩, 30), (⟨"LentGalleryModel", "isKnocked", "(II)Z"⟩, 30), (⟨"LentGalleryModel", "goesBy", "()I"⟩, 30), (⟨"LentGalleryModel", "knockOf", "(I)I"⟩, 30), (⟨"LentGalleryModel", "isTenant", "(I)Z"⟩, 30), (⟨"LentGalleryModel", "tell", "(II)I"⟩, 30), (⟨"LentGalleryModel", "isCutOff", "(I)Z"⟩, 30), (⟨"LentGalleryModel", "gasping", "()I"⟩, 30), (⟨"LentGalleryModel", "holdsOf", "()I"⟩, 30), (⟨"LentGalleryModel", "holdsThen", "()I"⟩, 30), (⟨"LentGalleryModel", "layWhere", "()I"⟩, 30), (⟨"LentGalleryModel", "propsOf", "(II)I"⟩, 30), (⟨"LentGalleryModel", "propsIn", "(II)I"⟩, 30), (⟨"LentGalleryModel", "outOf", "()I"⟩, 30)]
theorem lw_r2 : ∀ q ∈ lw_privs_2, lw_okq q := List.forall_mem_cons.mpr ⟨lw_p16, List.forall_mem_cons.mpr ⟨lw_p17, List.forall_mem_cons.mpr ⟨lw_p18, List.forall_mem_cons.mpr ⟨lw_p19, List.forall_mem_cons.mpr ⟨lw_p20, List.forall_mem_cons.mpr ⟨lw_p21, List.forall_mem_cons.mpr ⟨lw_p22, List.forall_mem_cons.mpr ⟨lw_p23, List.forall_mem_cons.mpr ⟨lw_p24, List.forall_mem_cons.mpr ⟨lw_p25, List.forall_mem_cons.mpr ⟨lw_p26, List.forall_mem_cons.mpr ⟨lw_p27, List.forall_mem_cons.mpr ⟨lw_p28, List.forall_mem_cons.mpr ⟨lw_p29, List.forall_mem_cons.mpr ⟨lw_p30, List.forall_mem_cons.mpr ⟨lw_p31, fun _ h => absurd h List.not_mem_nil⟩⟩⟩⟩⟩⟩⟩⟩⟩⟩⟩⟩⟩⟩⟩⟩
theorem lw_p32 : lw_okq (⟨"LentGalleryModel", "draw", "(I)I"⟩, 30) := ⟨⟨by decide +kernel, by decide +kernel⟩, List.mem_of_getElem? (i := 557) (by decide +kernel), List.mem_of_getElem? (i := 849) (by decide +kernel), List.mem_of_getElem? (i := 850) (by decide +kernel)⟩
theorem lw_p33 : lw_okq (⟨"LentGalleryModel", "countOf", "(I)I"⟩, 30) := ⟨⟨by decide +kernel, by decide +kernel⟩, List.mem_of_getElem? (i := 557) (by decide +kernel), List.mem_of_getElem? (i := 869) (by decide +kernel), List.mem_of_getElem? (i := 870) (by decide +kernel)⟩
theorem lw_p34 : lw_okq (⟨"LentGalleryModel", "sumBy", "(I)I"⟩, 30) := ⟨⟨by decide +kernel, by decide +kernel⟩, List.mem_of_getElem? (i := 557) (by decide +kernel), List.mem_of_getElem? (i := 873) (by decide +kernel), List.mem_of_getElem? (i := 874) (by decide +kernel)⟩
theorem lw_p35 : lw_okq (⟨"LentGalleryModel", "say", "(J)V"⟩, 30) := ⟨⟨by decide +kernel, by decide +kernel⟩, List.mem_of_getElem? (i := 557) (by decide +kernel), List.mem_of_getElem? (i := 882) (by decide +kernel), List.mem_of_getElem? (i := 883) (by decide +kernel)⟩
theorem lw_p36 : lw_okq (⟨"LentGalleryModel", "sayGallery", "()V"⟩, 30) := ⟨⟨by decide +kernel, by decide +kernel⟩, List.mem_of_getElem? (i := 557) (by decide +kernel), List.mem_of_getElem? (i := 887) (by decide +kernel), List.mem_of_getElem? (i := 888) (by decide +kernel)⟩
def lw_privs_3 : List (MethodName × Nat) := [(⟨"LentGalleryModel", "draw", "(I)I"⟩, 30), (⟨"LentGalleryModel", "countOf", "(I)I"⟩, 30), (⟨"LentGalleryModel", "sumBy", "(I)I"⟩, 30), (⟨"LentGalleryModel", "say", "(J)V"⟩, 30), (⟨"LentGalleryModel", "sayGallery", "()V"⟩, 30)]
theorem lw_r3 : ∀ q ∈ lw_privs_3, lw_okq q := List.forall_mem_cons.mpr ⟨lw_p32, List.forall_mem_cons.mpr ⟨lw_p33, List.forall_mem_cons.mpr ⟨lw_p34, List.forall_mem_cons.mpr ⟨lw_p35, List.forall_mem_cons.mpr ⟨lw_p36, fun _ h => absurd h List.not_mem_nil⟩⟩⟩⟩⟩
def lw_privs : List (MethodName × Nat) := lw_privs_1 ++ (lw_privs_2 ++ (lw_privs_3))
def lw_tbl : List Cond := k2_sels lw_privs ++ tables_1
theorem lw_privs_ok : ∀ q ∈ lw_privs, lw_okq q := by
  show ∀ q ∈ lw_privs_1 ++ (lw_privs_2 ++ (lw_privs_3)), lw_okq q
  exact List.forall_mem_append.mpr ⟨lw_r1, List.forall_mem_append.mpr ⟨lw_r2, lw_r3⟩⟩

/-- the words that every callee's contract rests on: those of the tables that keep -/
def TB : List Cond := lw_tbl.filter goodWord
theorem tb_in {w : Cond} (h : w ∈ tables_1) (g : goodWord w = true) : w ∈ TB := List.mem_filter.mpr ⟨List.mem_append_right _ h, g⟩
theorem tb_sel {w : Cond} (h : w ∈ k2_sels lw_privs) (g : goodWord w = true) : w ∈ TB := List.mem_filter.mpr ⟨List.mem_append_left _ h, g⟩
theorem tb_good : ∀ w ∈ TB, goodWord w = true := fun _ h => (List.mem_filter.mp h).2
theorem tb_tbl : ∀ w ∈ TB, w ∈ lw_tbl := fun _ h => (List.mem_filter.mp h).1
theorem tb_goodIn {y : MethodName} {b : ByteArray} {n : Nat} {r : Option FieldType} (h : Cond.code y b n r ∈ TB) : GoodIn TB (Cond.code y b n r :: TB) := by
  intro w hw
  rcases List.mem_cons.mp hw with rfl | hw
  · exact ⟨h, good_of_word (tb_good _ h)⟩
  · exact ⟨hw, good_of_word (tb_good _ hw)⟩
theorem tb_in1 {w : Cond} (h : w ∈ tables_1_1) (g : goodWord w = true) : w ∈ TB := tb_in (List.mem_append_left _ h) g
theorem tb_in2 {w : Cond} (h : w ∈ tables_1_2) (g : goodWord w = true) : w ∈ TB := tb_in (List.mem_append_right _ (List.mem_append_left _ h)) g
theorem tb_in3 {w : Cond} (h : w ∈ tables_1_3) (g : goodWord w = true) : w ∈ TB := tb_in (List.mem_append_right _ (List.mem_append_right _ (List.mem_append_left _ h))) g
theorem tb_in4 {w : Cond} (h : w ∈ tables_1_4) (g : goodWord w = true) : w ∈ TB := tb_in (List.mem_append_right _ (List.mem_append_right _ (List.mem_append_right _ (h)))) g
end
section
def RX0 : String := "LentGallery$Draws"
def TX0 : u_T := fun k => match k with
  | _ => ("LentGallery$Draws", "seed", "I", false)
def tyX0 : Nat → FieldType := fun k => match k with
  | _ => .int
theorem nmX0 : ∀ a, a < 1 → ∀ b, b < 1 → a ≠ b → (TX0 a).2.1 ≠ (TX0 b).2.1 := by decide +kernel
theorem tyX0_ok : ∀ k, k < 1 → parseFieldDescriptor (TX0 k).2.2.1 = some (tyX0 k) := by decide +kernel
abbrev cX0_init : ByteArray := prog_2_method_1_code
def yX0_init : MethodName := ⟨RX0, "<init>", "()V"⟩
abbrev cX0_below : ByteArray := prog_2_method_2_code
def yX0_below : MethodName := ⟨RX0, "below", "(I)I"⟩
def RX1 : String := "LentGallery$Knocks"
def TX1 : u_T := fun k => match k with
  | 0 => ("LentGallery$Knocks", "places", "[I", true)
  | 1 => ("LentGallery$Knocks", "days", "[I", true)
  | 2 => ("LentGallery$Knocks", "stood", "[I", true)
  | _ => ("LentGallery$Knocks", "size", "I", false)
def tyX1 : Nat → FieldType := fun k => match k with
  | 0 => .array .int
  | 1 => .array .int
  | 2 => .array .int
  | _ => .int
theorem nmX1 : ∀ a, a < 4 → ∀ b, b < 4 → a ≠ b → (TX1 a).2.1 ≠ (TX1 b).2.1 := by decide +kernel
theorem tyX1_ok : ∀ k, k < 4 → parseFieldDescriptor (TX1 k).2.2.1 = some (tyX1 k) := by decide +kernel
abbrev cX1_init : ByteArray := prog_3_method_1_code
def yX1_init : MethodName := ⟨RX1, "<init>", "()V"⟩
abbrev cX1_hear : ByteArray := prog_3_method_2_code
def yX1_hear : MethodName := ⟨RX1, "hear", "(IIZ)Z"⟩
abbrev cX1_copyFrom : ByteArray := prog_3_method_3_code
def yX1_copyFrom : MethodName := ⟨RX1, "copyFrom", "(LLentGallery$Knocks;)V"⟩
abbrev cX1_lastDay : ByteArray := prog_3_method_4_code
def yX1_lastDay : MethodName := ⟨RX1, "lastDay", "()I"⟩
abbrev cX1_agreeWith : ByteArray := prog_3_method_5_code
def yX1_agreeWith : MethodName := ⟨RX1, "agreeWith", "([I)Z"⟩
def RX2 : String := "LentGallery$Page"
def TX2 : u_T := fun k => match k with
  | 0 => ("LentGallery$Page", "letters", "[I", true)
  | _ => ("LentGallery$Page", "length", "I", false)
def tyX2 : Nat → FieldType := fun k => match k with
  | 0 => .array .int
  | _ => .int
theorem nmX2 : ∀ a, a < 2 → ∀ b, b < 2 → a ≠ b → (TX2 a).2.1 ≠ (TX2 b).2.1 := by decide +kernel
theorem tyX2_ok : ∀ k, k < 2 → parseFieldDescriptor (TX2 k).2.2.1 = some (tyX2 k) := by decide +kernel
abbrev cX2_init : ByteArray := prog_4_method_1_code
def yX2_init : MethodName := ⟨RX2, "<init>", "()V"⟩
abbrev cX2_write : ByteArray := prog_4_method_2_code
def yX2_write : MethodName := ⟨RX2, "write", "(I)Z"⟩
abbrev cX2_goodLetters : ByteArray := prog_4_method_3_code
def yX2_goodLetters : MethodName := ⟨RX2, "goodLetters", "()I"⟩
abbrev cX2_digit : ByteArray := prog_4_method_4_code
def yX2_digit : MethodName := ⟨RX2, "digit", "(I)I"⟩
abbrev cX2_fits : ByteArray := prog_4_method_5_code
def yX2_fits : MethodName := ⟨RX2, "fits", "(II)Z"⟩
def RX3 : String := "LentGallery$Roof"
def TX3 : u_T := fun k => match k with
  | 0 => ("LentGallery$Roof", "strong", "[I", true)
  | 1 => ("LentGallery$Roof", "load", "[I", true)
  | _ => ("LentGallery$Roof", "losses", "[I", true)
def tyX3 : Nat → FieldType := fun k => match k with
  | 0 => .array .int
  | 1 => .array .int
  | _ => .array .int
theorem nmX3 : ∀ a, a < 3 → ∀ b, b < 3 → a ≠ b → (TX3 a).2.1 ≠ (TX3 b).2.1 := by decide +kernel
theorem tyX3_ok : ∀ k, k < 3 → parseFieldDescriptor (TX3 k).2.2.1 = some (tyX3 k) := by decide +kernel
abbrev cX3_init : ByteArray := prog_5_method_1_code
def yX3_init : MethodName := ⟨RX3, "<init>", "()V"⟩
abbrev cX3_copyFrom : ByteArray := prog_5_method_2_code
def yX3_copyFrom : MethodName := ⟨RX3, "copyFrom", "(LLentGallery$Roof;)V"⟩
abbrev cX3_stands : ByteArray := prog_5_method_3_code
def yX3_stands : MethodName := ⟨RX3, "stands", "(I)Z"⟩
abbrev cX3_standing : ByteArray := prog_5_method_4_code
def yX3_standing : MethodName := ⟨RX3, "standing", "()I"⟩
abbrev cX3_firstFallen : ByteArray := prog_5_method_5_code
def yX3_firstFallen : MethodName := ⟨RX3, "firstFallen", "()I"⟩
abbrev cX3_lossAt : ByteArray := prog_5_method_6_code
def yX3_lossAt : MethodName := ⟨RX3, "lossAt", "(I)I"⟩
abbrev cX3_passDay : ByteArray := prog_5_method_7_code
def yX3_passDay : MethodName := ⟨RX3, "passDay", "()I"⟩
abbrev cX3_firstFall : ByteArray := prog_5_method_8_code
def yX3_firstFall : MethodName := ⟨RX3, "firstFall", "()I"⟩
abbrev cX3_propsNeeded : ByteArray := prog_5_method_9_code
def yX3_propsNeeded : MethodName := ⟨RX3, "propsNeeded", "(I)I"⟩
abbrev cX3_propsNeededAt : ByteArray := prog_5_method_10_code
def yX3_propsNeededAt : MethodName := ⟨RX3, "propsNeededAt", "(II)I"⟩
def RX4 : String := "LentGallery$Settling"
def TX4 : u_T := fun k => match k with
  | 0 => ("LentGallery$Settling", "roof", "LLentGallery$Roof;", true)
  | 1 => ("LentGallery$Settling", "homes", "[I", true)
  | 2 => ("LentGallery$Settling", "bestHomes", "[I", true)
  | 3 => ("LentGallery$Settling", "bestHold", "I", false)
  | _ => ("LentGallery$Settling", "found", "Z", false)
def tyX4 : Nat → FieldType := fun k => match k with
  | 0 => .object "LentGallery$Roof"
  | 1 => .array .int
  | 2 => .array .int
  | 3 => .int
  | _ => .boolean
theorem nmX4 : ∀ a, a < 5 → ∀ b, b < 5 → a ≠ b → (TX4 a).2.1 ≠ (TX4 b).2.1 := by decide +kernel
theorem tyX4_ok : ∀ k, k < 5 → parseFieldDescriptor (TX4 k).2.2.1 = some (tyX4 k) := by decide +kernel
abbrev cX4_init : ByteArray := prog_6_method_1_code
def yX4_init : MethodName := ⟨RX4, "<init>", "()V"⟩
abbrev cX4_seek : ByteArray := prog_6_method_2_code
def yX4_seek : MethodName := ⟨RX4, "seek", "(LLentGallery$Street;)V"⟩
abbrev cX4_settle : ByteArray := prog_6_method_3_code
def yX4_settle : MethodName := ⟨RX4, "settle", "(LLentGallery$Settling;LLentGallery$Street;I)V"⟩
abbrev cX4_keep : ByteArray := prog_6_method_4_code
def yX4_keep : MethodName := ⟨RX4, "keep", "(I)V"⟩
def RX5 : String := "LentGallery$Sounding"
def TX5 : u_T := fun k => match k with
  | 0 => ("LentGallery$Sounding", "trial", "LLentGallery$Roof;", true)
  | 1 => ("LentGallery$Sounding", "fallenBy", "[I", true)
  | 2 => ("LentGallery$Sounding", "guessFallenBy", "[I", true)
  | _ => ("LentGallery$Sounding", "possible", "I", false)
def tyX5 : Nat → FieldType := fun k => match k with
  | 0 => .object "LentGallery$Roof"
  | 1 => .array .int
  | 2 => .array .int
  | _ => .int
theorem nmX5 : ∀ a, a < 4 → ∀ b, b < 4 → a ≠ b → (TX5 a).2.1 ≠ (TX5 b).2.1 := by decide +kernel
theorem tyX5_ok : ∀ k, k < 4 → parseFieldDescriptor (TX5 k).2.2.1 = some (tyX5 k) := by decide +kernel
abbrev cX5_init : ByteArray := prog_7_method_1_code
def yX5_init : MethodName := ⟨RX5, "<init>", "()V"⟩
abbrev cX5_sound : ByteArray := prog_7_method_2_code
def yX5_sound : MethodName := ⟨RX5, "sound", "(LLentGallery$Roof;LLentGallery$Knocks;I)V"⟩
abbrev cX5_bestDay : ByteArray := prog_7_method_3_code
def yX5_bestDay : MethodName := ⟨RX5, "bestDay", "()I"⟩
abbrev cX5_leftAtWorst : ByteArray := prog_7_method_4_code
def yX5_leftAtWorst : MethodName := ⟨RX5, "leftAtWorst", "(I)I"⟩
abbrev cX5_liveDays : ByteArray := prog_7_method_5_code
def yX5_liveDays : MethodName := ⟨RX5, "liveDays", "(I)V"⟩
def RX6 : String := "LentGallery$Street"
def TX6 : u_T := fun k => match k with
  | 0 => ("LentGallery$Street", "roof", "LLentGallery$Roof;", true)
  | 1 => ("LentGallery$Street", "kinds", "[I", true)
  | 2 => ("LentGallery$Street", "homes", "[I", true)
  | 3 => ("LentGallery$Street", "tenants", "I", false)
  | 4 => ("LentGallery$Street", "air", "I", false)
  | 5 => ("LentGallery$Street", "cage", "I", false)
  | 6 => ("LentGallery$Street", "days", "I", false)
  | 7 => ("LentGallery$Street", "falls", "I", false)
  | _ => ("LentGallery$Street", "props", "I", false)
def tyX6 : Nat → FieldType := fun k => match k with
  | 0 => .object "LentGallery$Roof"
  | 1 => .array .int
  | 2 => .array .int
  | 3 => .int
  | 4 => .int
  | 5 => .int
  | 6 => .int
  | 7 => .int
  | _ => .int
theorem nmX6 : ∀ a, a < 9 → ∀ b, b < 9 → a ≠ b → (TX6 a).2.1 ≠ (TX6 b).2.1 := by decide +kernel
theorem tyX6_ok : ∀ k, k < 9 → parseFieldDescriptor (TX6 k).2.2.1 = some (tyX6 k) := by decide +kernel
abbrev cX6_init : ByteArray := prog_8_method_1_code
def yX6_init : MethodName := ⟨RX6, "<init>", "()V"⟩
abbrev cX6_open : ByteArray := prog_8_method_2_code
def yX6_open : MethodName := ⟨RX6, "open", "(LLentGallery$Page;)V"⟩
abbrev cX6_copyFrom : ByteArray := prog_8_method_3_code
def yX6_copyFrom : MethodName := ⟨RX6, "copyFrom", "(LLentGallery$Street;)V"⟩
abbrev cX6_welcome : ByteArray := prog_8_method_4_code
def yX6_welcome : MethodName := ⟨RX6, "welcome", "(II)V"⟩
abbrev cX6_rehouse : ByteArray := prog_8_method_5_code
def yX6_rehouse : MethodName := ⟨RX6, "rehouse", "(II)Z"⟩
abbrev cX6_liveDay : ByteArray := prog_8_method_6_code
def yX6_liveDay : MethodName := ⟨RX6, "liveDay", "()I"⟩
abbrev cX6_weightOf : ByteArray := prog_8_method_7_code
def yX6_weightOf : MethodName := ⟨RX6, "weightOf", "(I)I"⟩
abbrev cX6_breathOf : ByteArray := prog_8_method_8_code
def yX6_breathOf : MethodName := ⟨RX6, "breathOf", "(I)I"⟩
abbrev cX6_isCutOff : ByteArray := prog_8_method_9_code
def yX6_isCutOff : MethodName := ⟨RX6, "isCutOff", "(I)Z"⟩
abbrev cX6_cutOffs : ByteArray := prog_8_method_10_code
def yX6_cutOffs : MethodName := ⟨RX6, "cutOffs", "()I"⟩
abbrev cX6_dwellers : ByteArray := prog_8_method_11_code
def yX6_dwellers : MethodName := ⟨RX6, "dwellers", "(I)I"⟩
abbrev cX6_gaspers : ByteArray := prog_8_method_12_code
def yX6_gaspers : MethodName := ⟨RX6, "gaspers", "()I"⟩
abbrev cX6_minutesOut : ByteArray := prog_8_method_13_code
def yX6_minutesOut : MethodName := ⟨RX6, "minutesOut", "()I"⟩
abbrev cX6_comersFrom : ByteArray := prog_8_method_14_code
def yX6_comersFrom : MethodName := ⟨RX6, "comersFrom", "(I)I"⟩
abbrev cX6_isHere : ByteArray := prog_8_method_15_code
def yX6_isHere : MethodName := ⟨RX6, "isHere", "(I)Z"⟩
def RX7 : String := "LentGallery"
def TX7 : u_T := fun k => match k with
  | 0 => ("LentGallery", "page", "LLentGallery$Page;", true)
  | 1 => ("LentGallery", "street", "LLentGallery$Street;", true)
  | 2 => ("LentGallery", "knocks", "LLentGallery$Knocks;", true)
  | 3 => ("LentGallery", "keptStreet", "LLentGallery$Street;", true)
  | 4 => ("LentGallery", "keptKnocks", "LLentGallery$Knocks;", true)
  | 5 => ("LentGallery", "wouldBe", "LLentGallery$Street;", true)
  | 6 => ("LentGallery", "settling", "LLentGallery$Settling;", true)
  | 7 => ("LentGallery", "sounding", "LLentGallery$Sounding;", true)
  | 8 => ("LentGallery", "draws", "LLentGallery$Draws;", true)
  | 9 => ("LentGallery", "hasGallery", "Z", false)
  | 10 => ("LentGallery", "hasImage", "Z", false)
  | 11 => ("LentGallery", "galleriesRead", "I", false)
  | _ => ("LentGallery", "whereDone", "I", false)
def tyX7 : Nat → FieldType := fun k => match k with
  | 0 => .object "LentGallery$Page"
  | 1 => .object "LentGallery$Street"
  | 2 => .object "LentGallery$Knocks"
  | 3 => .object "LentGallery$Street"
  | 4 => .object "LentGallery$Knocks"
  | 5 => .object "LentGallery$Street"
  | 6 => .object "LentGallery$Settling"
  | 7 => .object "LentGallery$Sounding"
  | 8 => .object "LentGallery$Draws"
  | 9 => .boolean
  | 10 => .boolean
  | 11 => .int
  | _ => .int
theorem nmX7 : ∀ a, a < 13 → ∀ b, b < 13 → a ≠ b → (TX7 a).2.1 ≠ (TX7 b).2.1 := by decide +kernel
theorem tyX7_ok : ∀ k, k < 13 → parseFieldDescriptor (TX7 k).2.2.1 = some (tyX7 k) := by decide +kernel
abbrev cX7_init : ByteArray := prog_1_method_1_code
def yX7_init : MethodName := ⟨RX7, "<init>", "()V"⟩
abbrev cX7_letter : ByteArray := prog_1_method_2_code
def yX7_letter : MethodName := ⟨RX7, "letter", "(I)I"⟩
abbrev cX7_blank : ByteArray := prog_1_method_3_code
def yX7_blank : MethodName := ⟨RX7, "blank", "()I"⟩
abbrev cX7_fault : ByteArray := prog_1_method_4_code
def yX7_fault : MethodName := ⟨RX7, "fault", "()I"⟩
abbrev cX7_gallery : ByteArray := prog_1_method_5_code
def yX7_gallery : MethodName := ⟨RX7, "gallery", "()I"⟩
abbrev cX7_place : ByteArray := prog_1_method_6_code
def yX7_place : MethodName := ⟨RX7, "place", "(II)I"⟩
abbrev cX7_prop : ByteArray := prog_1_method_7_code
def yX7_prop : MethodName := ⟨RX7, "prop", "(I)I"⟩
abbrev cX7_tenant : ByteArray := prog_1_method_8_code
def yX7_tenant : MethodName := ⟨RX7, "tenant", "(II)I"⟩
abbrev cX7_about : ByteArray := prog_1_method_9_code
def yX7_about : MethodName := ⟨RX7, "about", "(II)I"⟩
abbrev cX7_as : ByteArray := prog_1_method_10_code
def yX7_as : MethodName := ⟨RX7, "as", "(II)I"⟩
abbrev cX7_move : ByteArray := prog_1_method_11_code
def yX7_move : MethodName := ⟨RX7, "move", "(II)I"⟩
abbrev cX7_day : ByteArray := prog_1_method_12_code
def yX7_day : MethodName := ⟨RX7, "day", "()I"⟩
abbrev cX7_holds : ByteArray := prog_1_method_13_code
def yX7_holds : MethodName := ⟨RX7, "holds", "()I"⟩
abbrev cX7_where : ByteArray := prog_1_method_14_code
def yX7_where : MethodName := ⟨RX7, "where", "(I)I"⟩
abbrev cX7_props : ByteArray := prog_1_method_15_code
def yX7_props : MethodName := ⟨RX7, "props", "(II)I"⟩
abbrev cX7_out : ByteArray := prog_1_method_16_code
def yX7_out : MethodName := ⟨RX7, "out", "()I"⟩
abbrev cX7_knock : ByteArray := prog_1_method_17_code
def yX7_knock : MethodName := ⟨RX7, "knock", "(IIZ)I"⟩
abbrev cX7_forget : ByteArray := prog_1_method_18_code
def yX7_forget : MethodName := ⟨RX7, "forget", "()I"⟩
abbrev cX7_years : ByteArray := prog_1_method_19_code
def yX7_years : MethodName := ⟨RX7, "years", "(III)I"⟩
abbrev cX7_image : ByteArray := prog_1_method_20_code
def yX7_image : MethodName := ⟨RX7, "image", "()I"⟩
abbrev cX7_restore : ByteArray := prog_1_method_21_code
def yX7_restore : MethodName := ⟨RX7, "restore", "()I"⟩
abbrev cX7_count : ByteArray := prog_1_method_22_code
def yX7_count : MethodName := ⟨RX7, "count", "(I)I"⟩
abbrev cX7_digest : ByteArray := prog_1_method_23_code
def yX7_digest : MethodName := ⟨RX7, "digest", "()J"⟩
abbrev cX7_mixPlaces : ByteArray := prog_1_method_24_code
def yX7_mixPlaces : MethodName := ⟨RX7, "mixPlaces", "(J)J"⟩
abbrev cX7_mixWouldBe : ByteArray := prog_1_method_25_code
def yX7_mixWouldBe : MethodName := ⟨RX7, "mixWouldBe", "(J)J"⟩
abbrev cX7_mix : ByteArray := prog_1_method_26_code
def yX7_mix : MethodName := ⟨RX7, "mix", "(JJ)J"⟩
abbrev cX7_isPlace : ByteArray := prog_1_method_27_code
def yX7_isPlace : MethodName := ⟨RX7, "isPlace", "(I)Z"⟩
abbrev cX7_isTenant : ByteArray := prog_1_method_28_code
def yX7_isTenant : MethodName := ⟨RX7, "isTenant", "(I)Z"⟩
abbrev cX7_isKind : ByteArray := prog_1_method_29_code
def yX7_isKind : MethodName := ⟨RX7, "isKind", "(I)Z"⟩
abbrev cX7_isSuch : ByteArray := prog_1_method_30_code
def yX7_isSuch : MethodName := ⟨RX7, "isSuch", "(II)Z"⟩
abbrev cX7_orNone : ByteArray := prog_1_method_31_code
def yX7_orNone : MethodName := ⟨RX7, "orNone", "(I)I"⟩
def RX8 : String := "LentGalleryModel"
def TX8 : u_T := fun k => match k with
  | 0 => ("LentGalleryModel", "page", "[I", true)
  | 1 => ("LentGalleryModel", "pageMany", "I", false)
  | 2 => ("LentGalleryModel", "air", "I", false)
  | 3 => ("LentGalleryModel", "cage", "I", false)
  | 4 => ("LentGalleryModel", "daysNow", "I", false)
  | 5 => ("LentGalleryModel", "fallsNow", "I", false)
  | 6 => ("LentGalleryModel", "propsNow", "I", false)
  | 7 => ("LentGalleryModel", "galleriesRead", "I", false)
  | 8 => ("LentGalleryModel", "strong", "[I", true)
  | 9 => ("LentGalleryModel", "tenants", "I", false)
  | 10 => ("LentGalleryModel", "rows", "[I", true)
  | 11 => ("LentGalleryModel", "homes", "[I", true)
  | 12 => ("LentGalleryModel", "now", "[I", true)
  | 13 => ("LentGalleryModel", "ahead", "[I", true)
  | 14 => ("LentGalleryModel", "whereMany", "I", false)
  | 15 => ("LentGalleryModel", "bestHomes", "[I", true)
  | 16 => ("LentGalleryModel", "knockMany", "I", false)
  | 17 => ("LentGalleryModel", "knocks", "[I", true)
  | 18 => ("LentGalleryModel", "stand", "[I", true)
  | 19 => ("LentGalleryModel", "seedNow", "I", false)
  | 20 => ("LentGalleryModel", "keptGallery", "I", false)
  | 21 => ("LentGalleryModel", "keptTenants", "I", false)
  | 22 => ("LentGalleryModel", "keptDays", "I", false)
  | 23 => ("LentGalleryModel", "keptFalls", "I", false)
  | 24 => ("LentGalleryModel", "keptProps", "I", false)
  | 25 => ("LentGalleryModel", "keptKnockMany", "I", false)
  | 26 => ("LentGalleryModel", "keptStrong", "[I", true)
  | 27 => ("LentGalleryModel", "keptRows", "[I", true)
  | 28 => ("LentGalleryModel", "keptKnocks", "[I", true)
  | _ => ("LentGalleryModel", "hash", "J", false)
def tyX8 : Nat → FieldType := fun k => match k with
  | 0 => .array .int
  | 1 => .int
  | 2 => .int
  | 3 => .int
  | 4 => .int
  | 5 => .int
  | 6 => .int
  | 7 => .int
  | 8 => .array .int
  | 9 => .int
  | 10 => .array .int
  | 11 => .array .int
  | 12 => .array .int
  | 13 => .array .int
  | 14 => .int
  | 15 => .array .int
  | 16 => .int
  | 17 => .array .int
  | 18 => .array .int
  | 19 => .int
  | 20 => .int
  | 21 => .int
  | 22 => .int
  | 23 => .int
  | 24 => .int
  | 25 => .int
  | 26 => .array .int
  | 27 => .array .int
  | 28 => .array .int
  | _ => .long
theorem nmX8 : ∀ a, a < 30 → ∀ b, b < 30 → a ≠ b → (TX8 a).2.1 ≠ (TX8 b).2.1 := by decide +kernel
theorem tyX8_ok : ∀ k, k < 30 → parseFieldDescriptor (TX8 k).2.2.1 = some (tyX8 k) := by decide +kernel
abbrev cX8_init : ByteArray := prog_10_method_1_code
def yX8_init : MethodName := ⟨RX8, "<init>", "()V"⟩
abbrev cX8_in : ByteArray := prog_10_method_2_code
def yX8_in : MethodName := ⟨RX8, "in", "(JJJ)Z"⟩
abbrev cX8_copy : ByteArray := prog_10_method_3_code
def yX8_copy : MethodName := ⟨RX8, "copy", "([I[I)V"⟩
abbrev cX8_letter : ByteArray := prog_10_method_4_code
def yX8_letter : MethodName := ⟨RX8, "letter", "(I)I"⟩
abbrev cX8_blank : ByteArray := prog_10_method_5_code
def yX8_blank : MethodName := ⟨RX8, "blank", "()I"⟩
abbrev cX8_isGood : ByteArray := prog_10_method_6_code
def yX8_isGood : MethodName := ⟨RX8, "isGood", "(II)Z"⟩
abbrev cX8_faultOf : ByteArray := prog_10_method_7_code
def yX8_faultOf : MethodName := ⟨RX8, "faultOf", "()I"⟩
abbrev cX8_fault : ByteArray := prog_10_method_8_code
def yX8_fault : MethodName := ⟨RX8, "fault", "()I"⟩
abbrev cX8_standing : ByteArray := prog_10_method_9_code
def yX8_standing : MethodName := ⟨RX8, "standing", "()I"⟩
abbrev cX8_gallery : ByteArray := prog_10_method_10_code
def yX8_gallery : MethodName := ⟨RX8, "gallery", "()I"⟩
abbrev cX8_lacks : ByteArray := prog_10_method_11_code
def yX8_lacks : MethodName := ⟨RX8, "lacks", "()Z"⟩
abbrev cX8_isPlace : ByteArray := prog_10_method_12_code
def yX8_isPlace : MethodName := ⟨RX8, "isPlace", "(I)Z"⟩
abbrev cX8_isTenant : ByteArray := prog_10_method_13_code
def yX8_isTenant : MethodName := ⟨RX8, "isTenant", "(I)Z"⟩
abbrev cX8_weightBy : ByteArray := prog_10_method_14_code
def yX8_weightBy : MethodName := ⟨RX8, "weightBy", "(I)I"⟩
abbrev cX8_breathBy : ByteArray := prog_10_method_15_code
def yX8_breathBy : MethodName := ⟨RX8, "breathBy", "(I)I"⟩
abbrev cX8_asItIs : ByteArray := prog_10_method_16_code
def yX8_asItIs : MethodName := ⟨RX8, "asItIs", "()V"⟩
abbrev cX8_weightIn : ByteArray := prog_10_method_17_code
def yX8_weightIn : MethodName := ⟨RX8, "weightIn", "(I)I"⟩
abbrev cX8_hasFallen : ByteArray := prog_10_method_18_code
def yX8_hasFallen : MethodName := ⟨RX8, "hasFallen", "([II)Z"⟩
abbrev cX8_lessOf : ByteArray := prog_10_method_19_code
def yX8_lessOf : MethodName := ⟨RX8, "lessOf", "(I[I)I"⟩
abbrev cX8_goesBy : ByteArray := prog_10_method_20_code
def yX8_goesBy : MethodName := ⟨RX8, "goesBy", "()I"⟩
abbrev cX8_whoIn : ByteArray := prog_10_method_21_code
def yX8_whoIn : MethodName := ⟨RX8, "whoIn", "(I)I"⟩
abbrev cX8_tellPlace : ByteArray := prog_10_method_22_code
def yX8_tellPlace : MethodName := ⟨RX8, "tellPlace", "(II)I"⟩
abbrev cX8_place : ByteArray := prog_10_method_23_code
def yX8_place : MethodName := ⟨RX8, "place", "(II)I"⟩
abbrev cX8_prop : ByteArray := prog_10_method_24_code
def yX8_prop : MethodName := ⟨RX8, "prop", "(I)I"⟩
abbrev cX8_tenant : ByteArray := prog_10_method_25_code
def yX8_tenant : MethodName := ⟨RX8, "tenant", "(II)I"⟩
abbrev cX8_isCutOff : ByteArray := prog_10_method_26_code
def yX8_isCutOff : MethodName := ⟨RX8, "isCutOff", "(I)Z"⟩
abbrev cX8_gasping : ByteArray := prog_10_method_27_code
def yX8_gasping : MethodName := ⟨RX8, "gasping", "()I"⟩
abbrev cX8_tell : ByteArray := prog_10_method_28_code
def yX8_tell : MethodName := ⟨RX8, "tell", "(II)I"⟩
abbrev cX8_about : ByteArray := prog_10_method_29_code
def yX8_about : MethodName := ⟨RX8, "about", "(II)I"⟩
abbrev cX8_as : ByteArray := prog_10_method_30_code
def yX8_as : MethodName := ⟨RX8, "as", "(II)I"⟩
abbrev cX8_move : ByteArray := prog_10_method_31_code
def yX8_move : MethodName := ⟨RX8, "move", "(II)I"⟩
abbrev cX8_day : ByteArray := prog_10_method_32_code
def yX8_day : MethodName := ⟨RX8, "day", "()I"⟩
abbrev cX8_holdsThen : ByteArray := prog_10_method_33_code
def yX8_holdsThen : MethodName := ⟨RX8, "holdsThen", "()I"⟩
abbrev cX8_holdsOf : ByteArray := prog_10_method_34_code
def yX8_holdsOf : MethodName := ⟨RX8, "holdsOf", "()I"⟩
abbrev cX8_holds : ByteArray := prog_10_method_35_code
def yX8_holds : MethodName := ⟨RX8, "holds", "()I"⟩
abbrev cX8_layWhere : ByteArray := prog_10_method_36_code
def yX8_layWhere : MethodName := ⟨RX8, "layWhere", "()I"⟩
abbrev cX8_power : ByteArray := prog_10_method_37_code
def yX8_power : MethodName := ⟨RX8, "power", "(I)I"⟩
abbrev cX8_where : ByteArray := prog_10_method_38_code
def yX8_where : MethodName := ⟨RX8, "where", "(I)I"⟩
abbrev cX8_propsIn : ByteArray := prog_10_method_39_code
def yX8_propsIn : MethodName := ⟨RX8, "propsIn", "(II)I"⟩
abbrev cX8_propsOf : ByteArray := prog_10_method_40_code
def yX8_propsOf : MethodName := ⟨RX8, "propsOf", "(II)I"⟩
abbrev cX8_props : ByteArray := prog_10_method_41_code
def yX8_props : MethodName := ⟨RX8, "props", "(II)I"⟩
abbrev cX8_outOf : ByteArray := prog_10_method_42_code
def yX8_outOf : MethodName := ⟨RX8, "outOf", "()I"⟩
abbrev cX8_out : ByteArray := prog_10_method_43_code
def yX8_out : MethodName := ⟨RX8, "out", "()I"⟩
abbrev cX8_knock : ByteArray := prog_10_method_44_code
def yX8_knock : MethodName := ⟨RX8, "knock", "(IIZ)I"⟩
abbrev cX8_forget : ByteArray := prog_10_method_45_code
def yX8_forget : MethodName := ⟨RX8, "forget", "()I"⟩
abbrev cX8_isKnocked : ByteArray := prog_10_method_46_code
def yX8_isKnocked : MethodName := ⟨RX8, "isKnocked", "(II)Z"⟩
abbrev cX8_strongOf : ByteArray := prog_10_method_47_code
def yX8_strongOf : MethodName := ⟨RX8, "strongOf", "(I)I"⟩
abbrev cX8_knockOf : ByteArray := prog_10_method_48_code
def yX8_knockOf : MethodName := ⟨RX8, "knockOf", "(I)I"⟩
abbrev cX8_draw : ByteArray := prog_10_method_49_code
def yX8_draw : MethodName := ⟨RX8, "draw", "(I)I"⟩
abbrev cX8_years : ByteArray := prog_10_method_50_code
def yX8_years : MethodName := ⟨RX8, "years", "(III)I"⟩
abbrev cX8_image : ByteArray := prog_10_method_51_code
def yX8_image : MethodName := ⟨RX8, "image", "()I"⟩
abbrev cX8_restore : ByteArray := prog_10_method_52_code
def yX8_restore : MethodName := ⟨RX8, "restore", "()I"⟩
abbrev cX8_sumBy : ByteArray := prog_10_method_53_code
def yX8_sumBy : MethodName := ⟨RX8, "sumBy", "(I)I"⟩
abbrev cX8_countOf : ByteArray := prog_10_method_54_code
def yX8_countOf : MethodName := ⟨RX8, "countOf", "(I)I"⟩
abbrev cX8_count : ByteArray := prog_10_method_55_code
def yX8_count : MethodName := ⟨RX8, "count", "(I)I"⟩
abbrev cX8_say : ByteArray := prog_10_method_56_code
def yX8_say : MethodName := ⟨RX8, "say", "(J)V"⟩
abbrev cX8_sayGallery : ByteArray := prog_10_method_57_code
def yX8_sayGallery : MethodName := ⟨RX8, "sayGallery", "()V"⟩
abbrev cX8_digest : ByteArray := prog_10_method_58_code
def yX8_digest : MethodName := ⟨RX8, "digest", "()J"⟩
def RJ6 : String := "java/lang/Integer"
def TJ6 : u_T := fun k => match k with
  | _ => ("", "", "", false)
def tyJ6 : Nat → FieldType := fun k => match k with
  | _ => .int
theorem nmJ6 : ∀ a, a < 0 → ∀ b, b < 0 → a ≠ b → (TJ6 a).2.1 ≠ (TJ6 b).2.1 := by decide +kernel
theorem tyJ6_ok : ∀ k, k < 0 → parseFieldDescriptor (TJ6 k).2.2.1 = some (tyJ6 k) := by decide +kernel
abbrev cJ6_bitCount_0f7a4 : ByteArray := prog_11_method_49_code
def yJ6_bitCount_0f7a4 : MethodName := ⟨RJ6, "bitCount", "(I)I"⟩
def RJ9 : String := "java/lang/Math"
def TJ9 : u_T := fun k => match k with
  | _ => ("", "", "", false)
def tyJ9 : Nat → FieldType := fun k => match k with
  | _ => .int
theorem nmJ9 : ∀ a, a < 0 → ∀ b, b < 0 → a ≠ b → (TJ9 a).2.1 ≠ (TJ9 b).2.1 := by decide +kernel
theorem tyJ9_ok : ∀ k, k < 0 → parseFieldDescriptor (TJ9 k).2.2.1 = some (tyJ9 k) := by decide +kernel
abbrev cJ9_max_7cf53 : ByteArray := prog_12_method_65_code
def yJ9_max_7cf53 : MethodName := ⟨RJ9, "max", "(II)I"⟩
abbrev cJ9_min_7cf53 : ByteArray := prog_12_method_69_code
def yJ9_min_7cf53 : MethodName := ⟨RJ9, "min", "(II)I"⟩
def RJ10 : String := "java/lang/System"
def TJ10 : u_T := fun k => match k with
  | _ => ("", "", "", false)
def tyJ10 : Nat → FieldType := fun k => match k with
  | _ => .int
theorem nmJ10 : ∀ a, a < 0 → ∀ b, b < 0 → a ≠ b → (TJ10 a).2.1 ≠ (TJ10 b).2.1 := by decide +kernel
theorem tyJ10_ok : ∀ k, k < 0 → parseFieldDescriptor (TJ10 k).2.2.1 = some (tyJ10 k) := by decide +kernel
def RJ7 : String := "java/util/Arrays"
def TJ7 : u_T := fun k => match k with
  | _ => ("", "", "", false)
def tyJ7 : Nat → FieldType := fun k => match k with
  | _ => .int
theorem nmJ7 : ∀ a, a < 0 → ∀ b, b < 0 → a ≠ b → (TJ7 a).2.1 ≠ (TJ7 b).2.1 := by decide +kernel
theorem tyJ7_ok : ∀ k, k < 0 → parseFieldDescriptor (TJ7 k).2.2.1 = some (tyJ7 k) := by decide +kernel
abbrev cJ7_fill_53178 : ByteArray := prog_14_method_103_code
def yJ7_fill_53178 : MethodName := ⟨RJ7, "fill", "([II)V"⟩
def RL : String := "LentGalleryLaw"
abbrev cL_law : ByteArray := code
def yL_law : MethodName := ⟨RL, "law", "([I)Z"⟩
end
section
theorem w_0 : Cond.initialized "LentGalleryLaw" ∈ TB := tb_in1 (List.mem_of_getElem? (i := 0) rfl) rfl
theorem w_1 : Cond.initialized "LentGallery" ∈ TB := tb_in1 (List.mem_of_getElem? (i := 1) rfl) rfl
theorem w_2 : Cond.initialized "LentGallery$Page" ∈ TB := tb_in1 (List.mem_of_getElem? (i := 2) rfl) rfl
theorem w_3 : Cond.initialized "LentGallery$Street" ∈ TB := tb_in1 (List.mem_of_getElem? (i := 3) rfl) rfl
theorem w_4 : Cond.initialized "LentGallery$Roof" ∈ TB := tb_in1 (List.mem_of_getElem? (i := 4) rfl) rfl
theorem w_5 : Cond.initialized "LentGallery$Knocks" ∈ TB := tb_in1 (List.mem_of_getElem? (i := 5) rfl) rfl
theorem w_6 : Cond.initialized "LentGallery$Settling" ∈ TB := tb_in1 (List.mem_of_getElem? (i := 6) rfl) rfl
theorem w_7 : Cond.initialized "LentGallery$Sounding" ∈ TB := tb_in1 (List.mem_of_getElem? (i := 7) rfl) rfl
theorem w_8 : Cond.initialized "LentGallery$Draws" ∈ TB := tb_in1 (List.mem_of_getElem? (i := 8) rfl) rfl
theorem w_9 : Cond.initialized "LentGalleryModel" ∈ TB := tb_in1 (List.mem_of_getElem? (i := 9) rfl) rfl
theorem w_10 : Cond.initialized "java/lang/Math" ∈ TB := tb_in1 (List.mem_of_getElem? (i := 10) rfl) rfl
theorem w_11 : Cond.initialized "java/lang/System" ∈ TB := tb_in1 (List.mem_of_getElem? (i := 11) rfl) rfl
theorem w_12 : Cond.initialized "java/lang/Integer" ∈ TB := tb_in1 (List.mem_of_getElem? (i := 12) rfl) rfl
theorem w_13 : Cond.initialized "java/util/Arrays" ∈ TB := tb_in1 (List.mem_of_getElem? (i := 13) rfl) rfl
theorem w_14 : Cond.classLink "LentGalleryLaw" 7 "LentGallery" ∈ TB := tb_in1 (List.mem_of_getElem? (i := 14) rfl) rfl
theorem w_15 : Cond.instantiable "LentGallery" 13 ∈ TB := tb_in1 (List.mem_of_getElem? (i := 15) rfl) rfl
theorem w_16 : Cond.methodLink "LentGalleryLaw" 9 yX7_init ∈ TB := tb_in1 (List.mem_of_getElem? (i := 16) rfl) rfl
theorem w_17 : Cond.instanceMethod yX7_init ∈ TB := tb_in1 (List.mem_of_getElem? (i := 17) rfl) rfl
theorem w_18 : Cond.code yX7_init prog_1_method_1_code 1 none ∈ TB := tb_in1 (List.mem_of_getElem? (i := 18) rfl) rfl
theorem w_19 : Cond.methodLink "LentGallery" 3 objectInit ∈ TB := tb_in1 (List.mem_of_getElem? (i := 19) rfl) rfl
theorem w_20 : Cond.instanceMethod objectInit ∈ TB := tb_in1 (List.mem_of_getElem? (i := 20) rfl) rfl
theorem w_21 : Cond.code objectInit object_method_1_code 1 none ∈ TB := tb_in1 (List.mem_of_getElem? (i := 21) rfl) rfl
theorem w_22 : Cond.classLink "LentGallery" 9 "LentGallery$Page" ∈ TB := tb_in1 (List.mem_of_getElem? (i := 22) rfl) rfl
theorem w_23 : Cond.instantiable "LentGallery$Page" 2 ∈ TB := tb_in1 (List.mem_of_getElem? (i := 23) rfl) rfl
theorem w_25 : Cond.instanceMethod yX2_init ∈ TB := tb_in1 (List.mem_of_getElem? (i := 25) rfl) rfl
theorem w_26 : Cond.code yX2_init prog_4_method_1_code 1 none ∈ TB := tb_in1 (List.mem_of_getElem? (i := 26) rfl) rfl
theorem w_27 : Cond.methodLink "LentGallery$Page" 3 objectInit ∈ TB := tb_in1 (List.mem_of_getElem? (i := 27) rfl) rfl
theorem w_28 : Cond.fieldLink "LentGallery$Page" 9 "LentGallery$Page" "letters" "[I" ∈ TB := tb_in1 (List.mem_of_getElem? (i := 28) rfl) rfl
theorem w_29 : Cond.fieldLink "LentGallery" 261 "LentGallery$Page" "letters" "[I" ∈ TB := tb_in1 (List.mem_of_getElem? (i := 29) rfl) rfl
theorem w_30 : Cond.fieldLink "LentGallery$Page" 15 "LentGallery$Page" "length" "I" ∈ TB := tb_in1 (List.mem_of_getElem? (i := 30) rfl) rfl
theorem w_31 : Cond.fieldLink "LentGallery" 64 "LentGallery$Page" "length" "I" ∈ TB := tb_in1 (List.mem_of_getElem? (i := 31) rfl) rfl
theorem w_32 : Cond.laysFinal "LentGallery$Page" "LentGallery$Page" "letters" "[I" ∈ TB := tb_in1 (List.mem_of_getElem? (i := 32) rfl) rfl
theorem w_34 : Cond.lays "LentGallery$Page" "LentGallery$Page" "length" "I" ∈ TB := tb_in1 (List.mem_of_getElem? (i := 34) rfl) rfl
theorem w_37 : Cond.arrayClass FieldType.int ∈ TB := tb_in1 (List.mem_of_getElem? (i := 37) rfl) rfl
theorem w_38 : Cond.classLink "LentGallery" 16 "LentGallery$Street" ∈ TB := tb_in1 (List.mem_of_getElem? (i := 38) rfl) rfl
theorem w_39 : Cond.instantiable "LentGallery$Street" 9 ∈ TB := tb_in1 (List.mem_of_getElem? (i := 39) rfl) rfl
theorem w_41 : Cond.instanceMethod yX6_init ∈ TB := tb_in1 (List.mem_of_getElem? (i := 41) rfl) rfl
theorem w_42 : Cond.code yX6_init prog_8_method_1_code 1 none ∈ TB := tb_in1 (List.mem_of_getElem? (i := 42) rfl) rfl
theorem w_43 : Cond.methodLink "LentGallery$Street" 3 objectInit ∈ TB := tb_in1 (List.mem_of_getElem? (i := 43) rfl) rfl
theorem w_44 : Cond.classLink "LentGallery$Street" 9 "LentGallery$Roof" ∈ TB := tb_in1 (List.mem_of_getElem? (i := 44) rfl) rfl
theorem w_45 : Cond.instantiable "LentGallery$Roof" 3 ∈ TB := tb_in1 (List.mem_of_getElem? (i := 45) rfl) rfl
theorem w_47 : Cond.instanceMethod yX3_init ∈ TB := tb_in1 (List.mem_of_getElem? (i := 47) rfl) rfl
theorem w_48 : Cond.code yX3_init prog_5_method_1_code 1 none ∈ TB := tb_in1 (List.mem_of_getElem? (i := 48) rfl) rfl
theorem w_49 : Cond.methodLink "LentGallery$Roof" 3 objectInit ∈ TB := tb_in1 (List.mem_of_getElem? (i := 49) rfl) rfl
theorem w_50 : Cond.fieldLink "LentGallery$Roof" 9 "LentGallery$Roof" "strong" "[I" ∈ TB := tb_in1 (List.mem_of_getElem? (i := 50) rfl) rfl
theorem w_51 : Cond.fieldLink "LentGallery$Street" 25 "LentGallery$Roof" "strong" "[I" ∈ TB := tb_in1 (List.mem_of_getElem? (i := 51) rfl) rfl
theorem w_52 : Cond.fieldLink "LentGallery$Sounding" 45 "LentGallery$Roof" "strong" "[I" ∈ TB := tb_in1 (List.mem_of_getElem? (i := 52) rfl) rfl
theorem w_53 : Cond.fieldLink "LentGallery" 101 "LentGallery$Roof" "strong" "[I" ∈ TB := tb_in1 (List.mem_of_getElem? (i := 53) rfl) rfl
theorem w_54 : Cond.fieldLink "LentGallery$Roof" 15 "LentGallery$Roof" "load" "[I" ∈ TB := tb_in1 (List.mem_of_getElem? (i := 54) rfl) rfl
theorem w_55 : Cond.fieldLink "LentGallery$Settling" 32 "LentGallery$Roof" "load" "[I" ∈ TB := tb_in1 (List.mem_of_getElem? (i := 55) rfl) rfl
theorem w_56 : Cond.fieldLink "LentGallery$Street" 34 "LentGallery$Roof" "load" "[I" ∈ TB := tb_in1 (List.mem_of_getElem? (i := 56) rfl) rfl
theorem w_57 : Cond.fieldLink "LentGallery" 105 "LentGallery$Roof" "load" "[I" ∈ TB := tb_in1 (List.mem_of_getElem? (i := 57) rfl) rfl
theorem w_58 : Cond.fieldLink "LentGallery$Roof" 18 "LentGallery$Roof" "losses" "[I" ∈ TB := tb_in1 (List.mem_of_getElem? (i := 58) rfl) rfl
theorem w_59 : Cond.laysFinal "LentGallery$Roof" "LentGallery$Roof" "strong" "[I" ∈ TB := tb_in1 (List.mem_of_getElem? (i := 59) rfl) rfl
theorem w_61 : Cond.laysFinal "LentGallery$Roof" "LentGallery$Roof" "load" "[I" ∈ TB := tb_in1 (List.mem_of_getElem? (i := 61) rfl) rfl
theorem w_63 : Cond.laysFinal "LentGallery$Roof" "LentGallery$Roof" "losses" "[I" ∈ TB := tb_in1 (List.mem_of_getElem? (i := 63) rfl) rfl
theorem w_66 : Cond.fieldLink "LentGallery$Street" 12 "LentGallery$Street" "roof" "LLentGallery$Roof;" ∈ TB := tb_in1 (List.mem_of_getElem? (i := 66) rfl) rfl
theorem w_67 : Cond.fieldLink "LentGallery$Settling" 25 "LentGallery$Street" "roof" "LLentGallery$Roof;" ∈ TB := tb_in1 (List.mem_of_getElem? (i := 67) rfl) rfl
theorem w_68 : Cond.fieldLink "LentGallery" 89 "LentGallery$Street" "roof" "LLentGallery$Roof;" ∈ TB := tb_in1 (List.mem_of_getElem? (i := 68) rfl) rfl
theorem w_69 : Cond.fieldLink "LentGallery$Street" 18 "LentGallery$Street" "kinds" "[I" ∈ TB := tb_in1 (List.mem_of_getElem? (i := 69) rfl) rfl
theorem w_70 : Cond.fieldLink "LentGallery" 150 "LentGallery$Street" "kinds" "[I" ∈ TB := tb_in1 (List.mem_of_getElem? (i := 70) rfl) rfl
theorem w_71 : Cond.fieldLink "LentGallery$Street" 22 "LentGallery$Street" "homes" "[I" ∈ TB := tb_in1 (List.mem_of_getElem? (i := 71) rfl) rfl
theorem w_72 : Cond.fieldLink "LentGallery" 153 "LentGallery$Street" "homes" "[I" ∈ TB := tb_in1 (List.mem_of_getElem? (i := 72) rfl) rfl
theorem w_73 : Cond.fieldLink "LentGallery$Street" 44 "LentGallery$Street" "tenants" "I" ∈ TB := tb_in1 (List.mem_of_getElem? (i := 73) rfl) rfl
theorem w_74 : Cond.fieldLink "LentGallery$Settling" 57 "LentGallery$Street" "tenants" "I" ∈ TB := tb_in1 (List.mem_of_getElem? (i := 74) rfl) rfl
theorem w_75 : Cond.fieldLink "LentGallery" 140 "LentGallery$Street" "tenants" "I" ∈ TB := tb_in1 (List.mem_of_getElem? (i := 75) rfl) rfl
theorem w_76 : Cond.fieldLink "LentGallery$Street" 37 "LentGallery$Street" "air" "I" ∈ TB := tb_in1 (List.mem_of_getElem? (i := 76) rfl) rfl
theorem w_77 : Cond.fieldLink "LentGallery" 233 "LentGallery$Street" "air" "I" ∈ TB := tb_in1 (List.mem_of_getElem? (i := 77) rfl) rfl
theorem w_78 : Cond.fieldLink "LentGallery$Street" 41 "LentGallery$Street" "cage" "I" ∈ TB := tb_in1 (List.mem_of_getElem? (i := 78) rfl) rfl
theorem w_79 : Cond.fieldLink "LentGallery" 236 "LentGallery$Street" "cage" "I" ∈ TB := tb_in1 (List.mem_of_getElem? (i := 79) rfl) rfl
theorem w_80 : Cond.fieldLink "LentGallery$Street" 47 "LentGallery$Street" "days" "I" ∈ TB := tb_in1 (List.mem_of_getElem? (i := 80) rfl) rfl
theorem w_81 : Cond.fieldLink "LentGallery" 230 "LentGallery$Street" "days" "I" ∈ TB := tb_in1 (List.mem_of_getElem? (i := 81) rfl) rfl
theorem w_82 : Cond.fieldLink "LentGallery$Street" 50 "LentGallery$Street" "falls" "I" ∈ TB := tb_in1 (List.mem_of_getElem? (i := 82) rfl) rfl
theorem w_83 : Cond.fieldLink "LentGallery" 242 "LentGallery$Street" "falls" "I" ∈ TB := tb_in1 (List.mem_of_getElem? (i := 83) rfl) rfl
theorem w_84 : Cond.fieldLink "LentGallery$Street" 53 "LentGallery$Street" "props" "I" ∈ TB := tb_in1 (List.mem_of_getElem? (i := 84) rfl) rfl
theorem w_85 : Cond.fieldLink "LentGallery" 134 "LentGallery$Street" "props" "I" ∈ TB := tb_in1 (List.mem_of_getElem? (i := 85) rfl) rfl
theorem w_86 : Cond.laysFinal "LentGallery$Street" "LentGallery$Street" "roof" "LLentGallery$Roof;" ∈ TB := tb_in1 (List.mem_of_getElem? (i := 86) rfl) rfl
theorem w_88 : Cond.laysFinal "LentGallery$Street" "LentGallery$Street" "kinds" "[I" ∈ TB := tb_in1 (List.mem_of_getElem? (i := 88) rfl) rfl
theorem w_90 : Cond.laysFinal "LentGallery$Street" "LentGallery$Street" "homes" "[I" ∈ TB := tb_in1 (List.mem_of_getElem? (i := 90) rfl) rfl
theorem w_92 : Cond.lays "LentGallery$Street" "LentGallery$Street" "tenants" "I" ∈ TB := tb_in1 (List.mem_of_getElem? (i := 92) rfl) rfl
theorem w_94 : Cond.lays "LentGallery$Street" "LentGallery$Street" "air" "I" ∈ TB := tb_in1 (List.mem_of_getElem? (i := 94) rfl) rfl
theorem w_96 : Cond.lays "LentGallery$Street" "LentGallery$Street" "cage" "I" ∈ TB := tb_in1 (List.mem_of_getElem? (i := 96) rfl) rfl
theorem w_98 : Cond.lays "LentGallery$Street" "LentGallery$Street" "days" "I" ∈ TB := tb_in1 (List.mem_of_getElem? (i := 98) rfl) rfl
theorem w_100 : Cond.lays "LentGallery$Street" "LentGallery$Street" "falls" "I" ∈ TB := tb_in1 (List.mem_of_getElem? (i := 100) rfl) rfl
theorem w_102 : Cond.lays "LentGallery$Street" "LentGallery$Street" "props" "I" ∈ TB := tb_in1 (List.mem_of_getElem? (i := 102) rfl) rfl
theorem w_105 : Cond.classLink "LentGallery" 23 "LentGallery$Knocks" ∈ TB := tb_in1 (List.mem_of_getElem? (i := 105) rfl) rfl
theorem w_106 : Cond.instantiable "LentGallery$Knocks" 4 ∈ TB := tb_in1 (List.mem_of_getElem? (i := 106) rfl) rfl
theorem w_108 : Cond.instanceMethod yX1_init ∈ TB := tb_in1 (List.mem_of_getElem? (i := 108) rfl) rfl
theorem w_109 : Cond.code yX1_init prog_3_method_1_code 1 none ∈ TB := tb_in1 (List.mem_of_getElem? (i := 109) rfl) rfl
theorem w_110 : Cond.methodLink "LentGallery$Knocks" 3 objectInit ∈ TB := tb_in1 (List.mem_of_getElem? (i := 110) rfl) rfl
theorem w_111 : Cond.fieldLink "LentGallery$Knocks" 9 "LentGallery$Knocks" "places" "[I" ∈ TB := tb_in1 (List.mem_of_getElem? (i := 111) rfl) rfl
theorem w_112 : Cond.fieldLink "LentGallery$Knocks" 15 "LentGallery$Knocks" "days" "[I" ∈ TB := tb_in1 (List.mem_of_getElem? (i := 112) rfl) rfl
theorem w_113 : Cond.fieldLink "LentGallery$Knocks" 18 "LentGallery$Knocks" "stood" "[I" ∈ TB := tb_in1 (List.mem_of_getElem? (i := 113) rfl) rfl
theorem w_114 : Cond.fieldLink "LentGallery$Knocks" 21 "LentGallery$Knocks" "size" "I" ∈ TB := tb_in1 (List.mem_of_getElem? (i := 114) rfl) rfl
theorem w_115 : Cond.fieldLink "LentGallery" 76 "LentGallery$Knocks" "size" "I" ∈ TB := tb_in1 (List.mem_of_getElem? (i := 115) rfl) rfl
theorem w_116 : Cond.laysFinal "LentGallery$Knocks" "LentGallery$Knocks" "places" "[I" ∈ TB := tb_in1 (List.mem_of_getElem? (i := 116) rfl) rfl
theorem w_118 : Cond.laysFinal "LentGallery$Knocks" "LentGallery$Knocks" "days" "[I" ∈ TB := tb_in1 (List.mem_of_getElem? (i := 118) rfl) rfl
theorem w_120 : Cond.laysFinal "LentGallery$Knocks" "LentGallery$Knocks" "stood" "[I" ∈ TB := tb_in1 (List.mem_of_getElem? (i := 120) rfl) rfl
theorem w_122 : Cond.lays "LentGallery$Knocks" "LentGallery$Knocks" "size" "I" ∈ TB := tb_in1 (List.mem_of_getElem? (i := 122) rfl) rfl
theorem w_125 : Cond.classLink "LentGallery" 39 "LentGallery$Settling" ∈ TB := tb_in1 (List.mem_of_getElem? (i := 125) rfl) rfl
theorem w_126 : Cond.instantiable "LentGallery$Settling" 5 ∈ TB := tb_in1 (List.mem_of_getElem? (i := 126) rfl) rfl
theorem w_128 : Cond.instanceMethod yX4_init ∈ TB := tb_in1 (List.mem_of_getElem? (i := 128) rfl) rfl
theorem w_129 : Cond.code yX4_init prog_6_method_1_code 1 none ∈ TB := tb_in1 (List.mem_of_getElem? (i := 129) rfl) rfl
theorem w_130 : Cond.methodLink "LentGallery$Settling" 3 objectInit ∈ TB := tb_in1 (List.mem_of_getElem? (i := 130) rfl) rfl
theorem w_131 : Cond.classLink "LentGallery$Settling" 9 "LentGallery$Roof" ∈ TB := tb_in1 (List.mem_of_getElem? (i := 131) rfl) rfl
theorem w_133 : Cond.fieldLink "LentGallery$Settling" 12 "LentGallery$Settling" "roof" "LLentGallery$Roof;" ∈ TB := tb_in1 (List.mem_of_getElem? (i := 133) rfl) rfl
theorem w_134 : Cond.fieldLink "LentGallery$Settling" 18 "LentGallery$Settling" "homes" "[I" ∈ TB := tb_in1 (List.mem_of_getElem? (i := 134) rfl) rfl
theorem w_135 : Cond.fieldLink "LentGallery$Settling" 22 "LentGallery$Settling" "bestHomes" "[I" ∈ TB := tb_in1 (List.mem_of_getElem? (i := 135) rfl) rfl
theorem w_136 : Cond.fieldLink "LentGallery" 197 "LentGallery$Settling" "bestHomes" "[I" ∈ TB := tb_in1 (List.mem_of_getElem? (i := 136) rfl) rfl
theorem w_137 : Cond.fieldLink "LentGallery$Settling" 41 "LentGallery$Settling" "bestHold" "I" ∈ TB := tb_in1 (List.mem_of_getElem? (i := 137) rfl) rfl
theorem w_138 : Cond.fieldLink "LentGallery" 194 "LentGallery$Settling" "bestHold" "I" ∈ TB := tb_in1 (List.mem_of_getElem? (i := 138) rfl) rfl
theorem w_139 : Cond.fieldLink "LentGallery$Settling" 45 "LentGallery$Settling" "found" "Z" ∈ TB := tb_in1 (List.mem_of_getElem? (i := 139) rfl) rfl
theorem w_140 : Cond.fieldLink "LentGallery" 191 "LentGallery$Settling" "found" "Z" ∈ TB := tb_in1 (List.mem_of_getElem? (i := 140) rfl) rfl
theorem w_141 : Cond.laysFinal "LentGallery$Settling" "LentGallery$Settling" "roof" "LLentGallery$Roof;" ∈ TB := tb_in1 (List.mem_of_getElem? (i := 141) rfl) rfl
theorem w_143 : Cond.laysFinal "LentGallery$Settling" "LentGallery$Settling" "homes" "[I" ∈ TB := tb_in1 (List.mem_of_getElem? (i := 143) rfl) rfl
theorem w_145 : Cond.laysFinal "LentGallery$Settling" "LentGallery$Settling" "bestHomes" "[I" ∈ TB := tb_in1 (List.mem_of_getElem? (i := 145) rfl) rfl
theorem w_147 : Cond.lays "LentGallery$Settling" "LentGallery$Settling" "bestHold" "I" ∈ TB := tb_in1 (List.mem_of_getElem? (i := 147) rfl) rfl
theorem w_149 : Cond.lays "LentGallery$Settling" "LentGallery$Settling" "found" "Z" ∈ TB := tb_in1 (List.mem_of_getElem? (i := 149) rfl) rfl
theorem w_152 : Cond.classLink "LentGallery" 46 "LentGallery$Sounding" ∈ TB := tb_in1 (List.mem_of_getElem? (i := 152) rfl) rfl
theorem w_153 : Cond.instantiable "LentGallery$Sounding" 4 ∈ TB := tb_in1 (List.mem_of_getElem? (i := 153) rfl) rfl
theorem w_155 : Cond.instanceMethod yX5_init ∈ TB := tb_in1 (List.mem_of_getElem? (i := 155) rfl) rfl
theorem w_156 : Cond.code yX5_init prog_7_method_1_code 1 none ∈ TB := tb_in1 (List.mem_of_getElem? (i := 156) rfl) rfl
theorem w_157 : Cond.methodLink "LentGallery$Sounding" 3 objectInit ∈ TB := tb_in1 (List.mem_of_getElem? (i := 157) rfl) rfl
theorem w_158 : Cond.classLink "LentGallery$Sounding" 9 "LentGallery$Roof" ∈ TB := tb_in1 (List.mem_of_getElem? (i := 158) rfl) rfl
theorem w_160 : Cond.fieldLink "LentGallery$Sounding" 12 "LentGallery$Sounding" "trial" "LLentGallery$Roof;" ∈ TB := tb_in1 (List.mem_of_getElem? (i := 160) rfl) rfl
theorem w_161 : Cond.fieldLink "LentGallery$Sounding" 18 "LentGallery$Sounding" "fallenBy" "[I" ∈ TB := tb_in1 (List.mem_of_getElem? (i := 161) rfl) rfl
theorem w_162 : Cond.fieldLink "LentGallery$Sounding" 22 "LentGallery$Sounding" "guessFallenBy" "[I" ∈ TB := tb_in1 (List.mem_of_getElem? (i := 162) rfl) rfl
theorem w_163 : Cond.fieldLink "LentGallery$Sounding" 25 "LentGallery$Sounding" "possible" "I" ∈ TB := tb_in1 (List.mem_of_getElem? (i := 163) rfl) rfl
theorem w_164 : Cond.fieldLink "LentGallery" 125 "LentGallery$Sounding" "possible" "I" ∈ TB := tb_in1 (List.mem_of_getElem? (i := 164) rfl) rfl
theorem w_165 : Cond.laysFinal "LentGallery$Sounding" "LentGallery$Sounding" "trial" "LLentGallery$Roof;" ∈ TB := tb_in1 (List.mem_of_getElem? (i := 165) rfl) rfl
theorem w_167 : Cond.laysFinal "LentGallery$Sounding" "LentGallery$Sounding" "fallenBy" "[I" ∈ TB := tb_in1 (List.mem_of_getElem? (i := 167) rfl) rfl
theorem w_169 : Cond.laysFinal "LentGallery$Sounding" "LentGallery$Sounding" "guessFallenBy" "[I" ∈ TB := tb_in1 (List.mem_of_getElem? (i := 169) rfl) rfl
theorem w_171 : Cond.lays "LentGallery$Sounding" "LentGallery$Sounding" "possible" "I" ∈ TB := tb_in1 (List.mem_of_getElem? (i := 171) rfl) rfl
theorem w_174 : Cond.classLink "LentGallery" 53 "LentGallery$Draws" ∈ TB := tb_in1 (List.mem_of_getElem? (i := 174) rfl) rfl
theorem w_175 : Cond.instantiable "LentGallery$Draws" 1 ∈ TB := tb_in1 (List.mem_of_getElem? (i := 175) rfl) rfl
theorem w_177 : Cond.instanceMethod yX0_init ∈ TB := tb_in1 (List.mem_of_getElem? (i := 177) rfl) rfl
theorem w_178 : Cond.code yX0_init prog_2_method_1_code 1 none ∈ TB := tb_in1 (List.mem_of_getElem? (i := 178) rfl) rfl
theorem w_179 : Cond.methodLink "LentGallery$Draws" 1 objectInit ∈ TB := tb_in1 (List.mem_of_getElem? (i := 179) rfl) rfl
theorem w_180 : Cond.fieldLink "LentGallery$Draws" 9 "LentGallery$Draws" "seed" "I" ∈ TB := tb_in1 (List.mem_of_getElem? (i := 180) rfl) rfl
theorem w_181 : Cond.fieldLink "LentGallery" 213 "LentGallery$Draws" "seed" "I" ∈ TB := tb_in1 (List.mem_of_getElem? (i := 181) rfl) rfl
theorem w_182 : Cond.lays "LentGallery$Draws" "LentGallery$Draws" "seed" "I" ∈ TB := tb_in1 (List.mem_of_getElem? (i := 182) rfl) rfl
theorem w_185 : Cond.fieldLink "LentGallery" 12 "LentGallery" "page" "LLentGallery$Page;" ∈ TB := tb_in1 (List.mem_of_getElem? (i := 185) rfl) rfl
theorem w_186 : Cond.fieldLink "LentGallery" 19 "LentGallery" "street" "LLentGallery$Street;" ∈ TB := tb_in1 (List.mem_of_getElem? (i := 186) rfl) rfl
theorem w_187 : Cond.fieldLink "LentGallery" 26 "LentGallery" "knocks" "LLentGallery$Knocks;" ∈ TB := tb_in1 (List.mem_of_getElem? (i := 187) rfl) rfl
theorem w_188 : Cond.fieldLink "LentGallery" 30 "LentGallery" "keptStreet" "LLentGallery$Street;" ∈ TB := tb_in1 (List.mem_of_getElem? (i := 188) rfl) rfl
theorem w_189 : Cond.fieldLink "LentGallery" 33 "LentGallery" "keptKnocks" "LLentGallery$Knocks;" ∈ TB := tb_in1 (List.mem_of_getElem? (i := 189) rfl) rfl
theorem w_190 : Cond.fieldLink "LentGallery" 36 "LentGallery" "wouldBe" "LLentGallery$Street;" ∈ TB := tb_in1 (List.mem_of_getElem? (i := 190) rfl) rfl
theorem w_191 : Cond.fieldLink "LentGallery" 42 "LentGallery" "settling" "LLentGallery$Settling;" ∈ TB := tb_in1 (List.mem_of_getElem? (i := 191) rfl) rfl
theorem w_192 : Cond.fieldLink "LentGallery" 49 "LentGallery" "sounding" "LLentGallery$Sounding;" ∈ TB := tb_in1 (List.mem_of_getElem? (i := 192) rfl) rfl
theorem w_193 : Cond.fieldLink "LentGallery" 56 "LentGallery" "draws" "LLentGallery$Draws;" ∈ TB := tb_in1 (List.mem_of_getElem? (i := 193) rfl) rfl
theorem w_194 : Cond.fieldLink "LentGallery" 79 "LentGallery" "hasGallery" "Z" ∈ TB := tb_in1 (List.mem_of_getElem? (i := 194) rfl) rfl
theorem w_195 : Cond.fieldLink "LentGallery" 83 "LentGallery" "hasImage" "Z" ∈ TB := tb_in1 (List.mem_of_getElem? (i := 195) rfl) rfl
theorem w_196 : Cond.fieldLink "LentGallery" 86 "LentGallery" "galleriesRead" "I" ∈ TB := tb_in1 (List.mem_of_getElem? (i := 196) rfl) rfl
theorem w_197 : Cond.fieldLink "LentGallery" 184 "LentGallery" "whereDone" "I" ∈ TB := tb_in1 (List.mem_of_getElem? (i := 197) rfl) rfl
theorem w_198 : Cond.laysFinal "LentGallery" "LentGallery" "page" "LLentGallery$Page;" ∈ TB := tb_in1 (List.mem_of_getElem? (i := 198) rfl) rfl
theorem w_200 : Cond.laysFinal "LentGallery" "LentGallery" "street" "LLentGallery$Street;" ∈ TB := tb_in1 (List.mem_of_getElem? (i := 200) rfl) rfl
theorem w_202 : Cond.laysFinal "LentGallery" "LentGallery" "knocks" "LLentGallery$Knocks;" ∈ TB := tb_in1 (List.mem_of_getElem? (i := 202) rfl) rfl
theorem w_204 : Cond.laysFinal "LentGallery" "LentGallery" "keptStreet" "LLentGallery$Street;" ∈ TB := tb_in1 (List.mem_of_getElem? (i := 204) rfl) rfl
theorem w_206 : Cond.laysFinal "LentGallery" "LentGallery" "keptKnocks" "LLentGallery$Knocks;" ∈ TB := tb_in1 (List.mem_of_getElem? (i := 206) rfl) rfl
theorem w_208 : Cond.laysFinal "LentGallery" "LentGallery" "wouldBe" "LLentGallery$Street;" ∈ TB := tb_in1 (List.mem_of_getElem? (i := 208) rfl) rfl
theorem w_210 : Cond.laysFinal "LentGallery" "LentGallery" "settling" "LLentGallery$Settling;" ∈ TB := tb_in1 (List.mem_of_getElem? (i := 210) rfl) rfl
theorem w_212 : Cond.laysFinal "LentGallery" "LentGallery" "sounding" "LLentGallery$Sounding;" ∈ TB := tb_in1 (List.mem_of_getElem? (i := 212) rfl) rfl
theorem w_214 : Cond.laysFinal "LentGallery" "LentGallery" "draws" "LLentGallery$Draws;" ∈ TB := tb_in1 (List.mem_of_getElem? (i := 214) rfl) rfl
theorem w_216 : Cond.lays "LentGallery" "LentGallery" "hasGallery" "Z" ∈ TB := tb_in1 (List.mem_of_getElem? (i := 216) rfl) rfl
theorem w_218 : Cond.lays "LentGallery" "LentGallery" "hasImage" "Z" ∈ TB := tb_in1 (List.mem_of_getElem? (i := 218) rfl) rfl
theorem w_220 : Cond.lays "LentGallery" "LentGallery" "galleriesRead" "I" ∈ TB := tb_in1 (List.mem_of_getElem? (i := 220) rfl) rfl
theorem w_222 : Cond.lays "LentGallery" "LentGallery" "whereDone" "I" ∈ TB := tb_in1 (List.mem_of_getElem? (i := 222) rfl) rfl
theorem w_225 : Cond.methodLink "LentGalleryLaw" 13 yX7_letter ∈ TB := tb_in1 (List.mem_of_getElem? (i := 225) rfl) rfl
theorem w_226 : Cond.instanceMethod yX7_letter ∈ TB := tb_in1 (List.mem_of_getElem? (i := 226) rfl) rfl
theorem w_227 : Cond.selects "LentGallery" yX7_letter yX7_letter ∈ TB := tb_in1 (List.mem_of_getElem? (i := 227) rfl) rfl
theorem w_228 : Cond.code yX7_letter prog_1_method_2_code 2 (Option.some FieldType.int) ∈ TB := tb_in1 (List.mem_of_getElem? (i := 228) rfl) rfl
theorem w_229 : Cond.methodLink "LentGallery" 60 yX2_write ∈ TB := tb_in1 (List.mem_of_getElem? (i := 229) rfl) rfl
theorem w_230 : Cond.instanceMethod yX2_write ∈ TB := tb_in1 (List.mem_of_getElem? (i := 230) rfl) rfl
theorem w_231 : Cond.selects "LentGallery$Page" yX2_write yX2_write ∈ TB := tb_in1 (List.mem_of_getElem? (i := 231) rfl) rfl
theorem w_232 : Cond.code yX2_write prog_4_method_2_code 2 (Option.some FieldType.boolean) ∈ TB := tb_in1 (List.mem_of_getElem? (i := 232) rfl) rfl
theorem w_233 : Cond.methodLink "LentGalleryLaw" 18 yX7_blank ∈ TB := tb_in1 (List.mem_of_getElem? (i := 233) rfl) rfl
theorem w_234 : Cond.instanceMethod yX7_blank ∈ TB := tb_in1 (List.mem_of_getElem? (i := 234) rfl) rfl
theorem w_235 : Cond.selects "LentGallery" yX7_blank yX7_blank ∈ TB := tb_in1 (List.mem_of_getElem? (i := 235) rfl) rfl
theorem w_236 : Cond.code yX7_blank prog_1_method_3_code 2 (Option.some FieldType.int) ∈ TB := tb_in1 (List.mem_of_getElem? (i := 236) rfl) rfl
theorem w_237 : Cond.methodLink "LentGalleryLaw" 23 yX7_fault ∈ TB := tb_in1 (List.mem_of_getElem? (i := 237) rfl) rfl
theorem w_238 : Cond.instanceMethod yX7_fault ∈ TB := tb_in1 (List.mem_of_getElem? (i := 238) rfl) rfl
theorem w_239 : Cond.selects "LentGallery" yX7_fault yX7_fault ∈ TB := tb_in1 (List.mem_of_getElem? (i := 239) rfl) rfl
theorem w_240 : Cond.code yX7_fault prog_1_method_4_code 1 (Option.some FieldType.int) ∈ TB := tb_in2 (List.mem_of_getElem? (i := 0) rfl) rfl
theorem w_241 : Cond.methodLink "LentGallery" 68 yX2_goodLetters ∈ TB := tb_in2 (List.mem_of_getElem? (i := 1) rfl) rfl
theorem w_242 : Cond.instanceMethod yX2_goodLetters ∈ TB := tb_in2 (List.mem_of_getElem? (i := 2) rfl) rfl
theorem w_243 : Cond.selects "LentGallery$Page" yX2_goodLetters yX2_goodLetters ∈ TB := tb_in2 (List.mem_of_getElem? (i := 3) rfl) rfl
theorem w_244 : Cond.code yX2_goodLetters prog_4_method_3_code 2 (Option.some FieldType.int) ∈ TB := tb_in2 (List.mem_of_getElem? (i := 4) rfl) rfl
theorem w_245 : Cond.methodLink "LentGallery$Page" 19 yX2_fits ∈ TB := tb_in2 (List.mem_of_getElem? (i := 5) rfl) rfl
theorem w_246 : Cond.static yX2_fits ∈ TB := tb_in2 (List.mem_of_getElem? (i := 6) rfl) rfl
theorem w_247 : Cond.code yX2_fits prog_4_method_5_code 3 (Option.some FieldType.boolean) ∈ TB := tb_in2 (List.mem_of_getElem? (i := 7) rfl) rfl
theorem w_248 : Cond.methodLink "LentGalleryLaw" 27 yX7_gallery ∈ TB := tb_in2 (List.mem_of_getElem? (i := 8) rfl) rfl
theorem w_249 : Cond.instanceMethod yX7_gallery ∈ TB := tb_in2 (List.mem_of_getElem? (i := 9) rfl) rfl
theorem w_250 : Cond.selects "LentGallery" yX7_gallery yX7_gallery ∈ TB := tb_in2 (List.mem_of_getElem? (i := 10) rfl) rfl
theorem w_251 : Cond.code yX7_gallery prog_1_method_5_code 1 (Option.some FieldType.int) ∈ TB := tb_in2 (List.mem_of_getElem? (i := 11) rfl) rfl
theorem w_252 : Cond.methodLink "LentGallery" 72 yX6_open ∈ TB := tb_in2 (List.mem_of_getElem? (i := 12) rfl) rfl
theorem w_253 : Cond.instanceMethod yX6_open ∈ TB := tb_in2 (List.mem_of_getElem? (i := 13) rfl) rfl
theorem w_254 : Cond.selects "LentGallery$Street" yX6_open yX6_open ∈ TB := tb_in2 (List.mem_of_getElem? (i := 14) rfl) rfl
theorem w_255 : Cond.code yX6_open prog_8_method_2_code 3 none ∈ TB := tb_in2 (List.mem_of_getElem? (i := 15) rfl) rfl
theorem w_256 : Cond.methodLink "LentGallery$Street" 28 yX2_digit ∈ TB := tb_in2 (List.mem_of_getElem? (i := 16) rfl) rfl
theorem w_257 : Cond.instanceMethod yX2_digit ∈ TB := tb_in2 (List.mem_of_getElem? (i := 17) rfl) rfl
theorem w_258 : Cond.selects "LentGallery$Page" yX2_digit yX2_digit ∈ TB := tb_in2 (List.mem_of_getElem? (i := 18) rfl) rfl
theorem w_259 : Cond.code yX2_digit prog_4_method_4_code 2 (Option.some FieldType.int) ∈ TB := tb_in2 (List.mem_of_getElem? (i := 19) rfl) rfl
theorem w_260 : Cond.methodLink "LentGallery" 93 yX3_standing ∈ TB := tb_in2 (List.mem_of_getElem? (i := 20) rfl) rfl
theorem w_261 : Cond.instanceMethod yX3_standing ∈ TB := tb_in2 (List.mem_of_getElem? (i := 21) rfl) rfl
theorem w_262 : Cond.selects "LentGallery$Roof" yX3_standing yX3_standing ∈ TB := tb_in2 (List.mem_of_getElem? (i := 22) rfl) rfl
theorem w_263 : Cond.code yX3_standing prog_5_method_4_code 3 (Option.some FieldType.int) ∈ TB := tb_in2 (List.mem_of_getElem? (i := 23) rfl) rfl
theorem w_264 : Cond.methodLink "LentGalleryLaw" 31 yX7_place ∈ TB := tb_in2 (List.mem_of_getElem? (i := 24) rfl) rfl
theorem w_265 : Cond.instanceMethod yX7_place ∈ TB := tb_in2 (List.mem_of_getElem? (i := 25) rfl) rfl
theorem w_266 : Cond.selects "LentGallery" yX7_place yX7_place ∈ TB := tb_in2 (List.mem_of_getElem? (i := 26) rfl) rfl
theorem w_267 : Cond.code yX7_place prog_1_method_6_code 3 (Option.some FieldType.int) ∈ TB := tb_in2 (List.mem_of_getElem? (i := 27) rfl) rfl
theorem w_268 : Cond.methodLink "LentGallery" 98 yX7_isPlace ∈ TB := tb_in2 (List.mem_of_getElem? (i := 28) rfl) rfl
theorem w_270 : Cond.instanceMethod yX7_isPlace ∈ TB := tb_in2 (List.mem_of_getElem? (i := 30) rfl) rfl
theorem w_271 : Cond.code yX7_isPlace prog_1_method_27_code 2 (Option.some FieldType.boolean) ∈ TB := tb_in2 (List.mem_of_getElem? (i := 31) rfl) rfl
theorem w_272 : Cond.methodLink "LentGallery" 108 yX6_dwellers ∈ TB := tb_in2 (List.mem_of_getElem? (i := 32) rfl) rfl
theorem w_273 : Cond.instanceMethod yX6_dwellers ∈ TB := tb_in2 (List.mem_of_getElem? (i := 33) rfl) rfl
theorem w_274 : Cond.selects "LentGallery$Street" yX6_dwellers yX6_dwellers ∈ TB := tb_in2 (List.mem_of_getElem? (i := 34) rfl) rfl
theorem w_275 : Cond.code yX6_dwellers prog_8_method_11_code 4 (Option.some FieldType.int) ∈ TB := tb_in2 (List.mem_of_getElem? (i := 35) rfl) rfl
theorem w_276 : Cond.methodLink "LentGallery" 112 yX3_lossAt ∈ TB := tb_in2 (List.mem_of_getElem? (i := 36) rfl) rfl
theorem w_277 : Cond.instanceMethod yX3_lossAt ∈ TB := tb_in2 (List.mem_of_getElem? (i := 37) rfl) rfl
theorem w_278 : Cond.selects "LentGallery$Roof" yX3_lossAt yX3_lossAt ∈ TB := tb_in2 (List.mem_of_getElem? (i := 38) rfl) rfl
theorem w_279 : Cond.code yX3_lossAt prog_5_method_6_code 3 (Option.some FieldType.int) ∈ TB := tb_in2 (List.mem_of_getElem? (i := 39) rfl) rfl
theorem w_280 : Cond.methodLink "LentGallery" 115 yJ9_min_7cf53 ∈ TB := tb_in2 (List.mem_of_getElem? (i := 40) rfl) rfl
theorem w_281 : Cond.static yJ9_min_7cf53 ∈ TB := tb_in2 (List.mem_of_getElem? (i := 41) rfl) rfl
theorem w_282 : Cond.code yJ9_min_7cf53 prog_12_method_69_code 2 (Option.some FieldType.int) ∈ TB := tb_in2 (List.mem_of_getElem? (i := 42) rfl) rfl
theorem w_283 : Cond.methodLink "LentGallery" 121 yX5_sound ∈ TB := tb_in2 (List.mem_of_getElem? (i := 43) rfl) rfl
theorem w_284 : Cond.instanceMethod yX5_sound ∈ TB := tb_in2 (List.mem_of_getElem? (i := 44) rfl) rfl
theorem w_285 : Cond.selects "LentGallery$Sounding" yX5_sound yX5_sound ∈ TB := tb_in2 (List.mem_of_getElem? (i := 45) rfl) rfl
theorem w_286 : Cond.code yX5_sound prog_7_method_2_code 6 none ∈ TB := tb_in2 (List.mem_of_getElem? (i := 46) rfl) rfl
theorem w_287 : Cond.methodLink "LentGallery$Sounding" 29 yX1_lastDay ∈ TB := tb_in2 (List.mem_of_getElem? (i := 47) rfl) rfl
theorem w_288 : Cond.instanceMethod yX1_lastDay ∈ TB := tb_in2 (List.mem_of_getElem? (i := 48) rfl) rfl
theorem w_289 : Cond.selects "LentGallery$Knocks" yX1_lastDay yX1_lastDay ∈ TB := tb_in2 (List.mem_of_getElem? (i := 49) rfl) rfl
theorem w_290 : Cond.code yX1_lastDay prog_3_method_4_code 3 (Option.some FieldType.int) ∈ TB := tb_in2 (List.mem_of_getElem? (i := 50) rfl) rfl
theorem w_291 : Cond.methodLink "LentGallery$Knocks" 31 yJ9_max_7cf53 ∈ TB := tb_in2 (List.mem_of_getElem? (i := 51) rfl) rfl
theorem w_292 : Cond.static yJ9_max_7cf53 ∈ TB := tb_in2 (List.mem_of_getElem? (i := 52) rfl) rfl
theorem w_293 : Cond.code yJ9_max_7cf53 prog_12_method_65_code 2 (Option.some FieldType.int) ∈ TB := tb_in2 (List.mem_of_getElem? (i := 53) rfl) rfl
theorem w_294 : Cond.methodLink "LentGallery$Sounding" 35 yJ9_max_7cf53 ∈ TB := tb_in2 (List.mem_of_getElem? (i := 54) rfl) rfl
theorem w_295 : Cond.methodLink "LentGallery$Sounding" 41 yX3_copyFrom ∈ TB := tb_in2 (List.mem_of_getElem? (i := 55) rfl) rfl
theorem w_296 : Cond.instanceMethod yX3_copyFrom ∈ TB := tb_in2 (List.mem_of_getElem? (i := 56) rfl) rfl
theorem w_297 : Cond.selects "LentGallery$Roof" yX3_copyFrom yX3_copyFrom ∈ TB := tb_in2 (List.mem_of_getElem? (i := 57) rfl) rfl
theorem w_298 : Cond.code yX3_copyFrom prog_5_method_2_code 2 none ∈ TB := tb_in2 (List.mem_of_getElem? (i := 58) rfl) rfl
theorem w_299 : Cond.methodLink "LentGallery$Roof" 21 (⟨"java/lang/System", "arraycopy", "(Ljava/lang/Object;ILjava/lang/Object;II)V"⟩ : MethodName) ∈ TB := tb_in2 (List.mem_of_getElem? (i := 59) rfl) rfl
theorem w_300 : Cond.static (⟨"java/lang/System", "arraycopy", "(Ljava/lang/Object;ILjava/lang/Object;II)V"⟩ : MethodName) ∈ TB := tb_in2 (List.mem_of_getElem? (i := 60) rfl) rfl
theorem w_301 : Cond.native (⟨"java/lang/System", "arraycopy", "(Ljava/lang/Object;ILjava/lang/Object;II)V"⟩ : MethodName) ∈ TB := tb_in2 (List.mem_of_getElem? (i := 61) rfl) rfl
theorem w_302 : Cond.methodLink "LentGallery$Sounding" 48 yX5_liveDays ∈ TB := tb_in2 (List.mem_of_getElem? (i := 62) rfl) rfl
theorem w_304 : Cond.instanceMethod yX5_liveDays ∈ TB := tb_in2 (List.mem_of_getElem? (i := 64) rfl) rfl
theorem w_305 : Cond.code yX5_liveDays prog_7_method_5_code 4 none ∈ TB := tb_in2 (List.mem_of_getElem? (i := 65) rfl) rfl
theorem w_306 : Cond.methodLink "LentGallery$Sounding" 65 yX3_stands ∈ TB := tb_in2 (List.mem_of_getElem? (i := 66) rfl) rfl
theorem w_307 : Cond.instanceMethod yX3_stands ∈ TB := tb_in2 (List.mem_of_getElem? (i := 67) rfl) rfl
theorem w_308 : Cond.selects "LentGallery$Roof" yX3_stands yX3_stands ∈ TB := tb_in2 (List.mem_of_getElem? (i := 68) rfl) rfl
theorem w_309 : Cond.code yX3_stands prog_5_method_3_code 2 (Option.some FieldType.boolean) ∈ TB := tb_in2 (List.mem_of_getElem? (i := 69) rfl) rfl
theorem w_310 : Cond.methodLink "LentGallery$Sounding" 69 yX3_passDay ∈ TB := tb_in2 (List.mem_of_getElem? (i := 70) rfl) rfl
theorem w_311 : Cond.instanceMethod yX3_passDay ∈ TB := tb_in2 (List.mem_of_getElem? (i := 71) rfl) rfl
theorem w_312 : Cond.selects "LentGallery$Roof" yX3_passDay yX3_passDay ∈ TB := tb_in2 (List.mem_of_getElem? (i := 72) rfl) rfl
theorem w_313 : Cond.code yX3_passDay prog_5_method_7_code 3 (Option.some FieldType.int) ∈ TB := tb_in2 (List.mem_of_getElem? (i := 73) rfl) rfl
theorem w_314 : Cond.methodLink "LentGallery$Roof" 27 yX3_lossAt ∈ TB := tb_in2 (List.mem_of_getElem? (i := 74) rfl) rfl
theorem w_315 : Cond.methodLink "LentGallery$Roof" 31 yJ9_max_7cf53 ∈ TB := tb_in2 (List.mem_of_getElem? (i := 75) rfl) rfl
theorem w_316 : Cond.methodLink "LentGallery$Sounding" 52 yX1_agreeWith ∈ TB := tb_in2 (List.mem_of_getElem? (i := 76) rfl) rfl
theorem w_317 : Cond.instanceMethod yX1_agreeWith ∈ TB := tb_in2 (List.mem_of_getElem? (i := 77) rfl) rfl
theorem w_318 : Cond.selects "LentGallery$Knocks" yX1_agreeWith yX1_agreeWith ∈ TB := tb_in2 (List.mem_of_getElem? (i := 78) rfl) rfl
theorem w_319 : Cond.code yX1_agreeWith prog_3_method_5_code 5 (Option.some FieldType.boolean) ∈ TB := tb_in2 (List.mem_of_getElem? (i := 79) rfl) rfl
theorem w_320 : Cond.methodLink "LentGallery" 128 yX5_bestDay ∈ TB := tb_in2 (List.mem_of_getElem? (i := 80) rfl) rfl
theorem w_321 : Cond.instanceMethod yX5_bestDay ∈ TB := tb_in2 (List.mem_of_getElem? (i := 81) rfl) rfl
theorem w_322 : Cond.selects "LentGallery$Sounding" yX5_bestDay yX5_bestDay ∈ TB := tb_in2 (List.mem_of_getElem? (i := 82) rfl) rfl
theorem w_323 : Cond.code yX5_bestDay prog_7_method_3_code 5 (Option.some FieldType.int) ∈ TB := tb_in2 (List.mem_of_getElem? (i := 83) rfl) rfl
theorem w_324 : Cond.methodLink "LentGallery$Sounding" 56 yX5_leftAtWorst ∈ TB := tb_in2 (List.mem_of_getElem? (i := 84) rfl) rfl
theorem w_326 : Cond.instanceMethod yX5_leftAtWorst ∈ TB := tb_in2 (List.mem_of_getElem? (i := 86) rfl) rfl
theorem w_327 : Cond.code yX5_leftAtWorst prog_7_method_4_code 4 (Option.some FieldType.int) ∈ TB := tb_in2 (List.mem_of_getElem? (i := 87) rfl) rfl
theorem w_328 : Cond.methodLink "LentGallery$Sounding" 60 yJ6_bitCount_0f7a4 ∈ TB := tb_in2 (List.mem_of_getElem? (i := 88) rfl) rfl
theorem w_329 : Cond.static yJ6_bitCount_0f7a4 ∈ TB := tb_in2 (List.mem_of_getElem? (i := 89) rfl) rfl
theorem w_330 : Cond.code yJ6_bitCount_0f7a4 prog_11_method_49_code 1 (Option.some FieldType.int) ∈ TB := tb_in2 (List.mem_of_getElem? (i := 90) rfl) rfl
theorem w_331 : Cond.constant "java/lang/Integer" 265 (1431655765 : Int32) ∈ TB := tb_in2 (List.mem_of_getElem? (i := 91) rfl) rfl
theorem w_332 : Cond.constant "java/lang/Integer" 266 (858993459 : Int32) ∈ TB := tb_in2 (List.mem_of_getElem? (i := 92) rfl) rfl
theorem w_333 : Cond.constant "java/lang/Integer" 267 (252645135 : Int32) ∈ TB := tb_in2 (List.mem_of_getElem? (i := 93) rfl) rfl
theorem w_334 : Cond.methodLink "LentGalleryLaw" 36 yX7_prop ∈ TB := tb_in2 (List.mem_of_getElem? (i := 94) rfl) rfl
theorem w_335 : Cond.instanceMethod yX7_prop ∈ TB := tb_in2 (List.mem_of_getElem? (i := 95) rfl) rfl
theorem w_336 : Cond.selects "LentGallery" yX7_prop yX7_prop ∈ TB := tb_in2 (List.mem_of_getElem? (i := 96) rfl) rfl
theorem w_337 : Cond.code yX7_prop prog_1_method_7_code 2 (Option.some FieldType.int) ∈ TB := tb_in2 (List.mem_of_getElem? (i := 97) rfl) rfl
theorem w_338 : Cond.methodLink "LentGallery" 131 yX3_stands ∈ TB := tb_in2 (List.mem_of_getElem? (i := 98) rfl) rfl
theorem w_339 : Cond.methodLink "LentGalleryLaw" 40 yX7_tenant ∈ TB := tb_in2 (List.mem_of_getElem? (i := 99) rfl) rfl
theorem w_340 : Cond.instanceMethod yX7_tenant ∈ TB := tb_in2 (List.mem_of_getElem? (i := 100) rfl) rfl
theorem w_341 : Cond.selects "LentGallery" yX7_tenant yX7_tenant ∈ TB := tb_in2 (List.mem_of_getElem? (i := 101) rfl) rfl
theorem w_342 : Cond.code yX7_tenant prog_1_method_8_code 3 (Option.some FieldType.int) ∈ TB := tb_in2 (List.mem_of_getElem? (i := 102) rfl) rfl
theorem w_343 : Cond.methodLink "LentGallery" 137 yX7_isKind ∈ TB := tb_in2 (List.mem_of_getElem? (i := 103) rfl) rfl
theorem w_344 : Cond.static yX7_isKind ∈ TB := tb_in2 (List.mem_of_getElem? (i := 104) rfl) rfl
theorem w_345 : Cond.code yX7_isKind prog_1_method_29_code 1 (Option.some FieldType.boolean) ∈ TB := tb_in2 (List.mem_of_getElem? (i := 105) rfl) rfl
theorem w_346 : Cond.fieldLink "LentGallery" 280 "LentGallery" "WEIGHTS" "[I" ∈ TB := tb_in2 (List.mem_of_getElem? (i := 106) rfl) rfl
theorem w_348 : Cond.methodLink "LentGallery" 143 yX6_welcome ∈ TB := tb_in2 (List.mem_of_getElem? (i := 108) rfl) rfl
theorem w_349 : Cond.instanceMethod yX6_welcome ∈ TB := tb_in2 (List.mem_of_getElem? (i := 109) rfl) rfl
theorem w_350 : Cond.selects "LentGallery$Street" yX6_welcome yX6_welcome ∈ TB := tb_in2 (List.mem_of_getElem? (i := 110) rfl) rfl
theorem w_351 : Cond.code yX6_welcome prog_8_method_4_code 3 none ∈ TB := tb_in2 (List.mem_of_getElem? (i := 111) rfl) rfl
theorem w_353 : Cond.methodLink "LentGallery$Street" 70 yX3_stands ∈ TB := tb_in2 (List.mem_of_getElem? (i := 113) rfl) rfl
theorem w_355 : Cond.methodLink "LentGalleryLaw" 44 yX7_about ∈ TB := tb_in2 (List.mem_of_getElem? (i := 115) rfl) rfl
theorem w_356 : Cond.instanceMethod yX7_about ∈ TB := tb_in2 (List.mem_of_getElem? (i := 116) rfl) rfl
theorem w_357 : Cond.selects "LentGallery" yX7_about yX7_about ∈ TB := tb_in2 (List.mem_of_getElem? (i := 117) rfl) rfl
theorem w_358 : Cond.code yX7_about prog_1_method_9_code 3 (Option.some FieldType.int) ∈ TB := tb_in2 (List.mem_of_getElem? (i := 118) rfl) rfl
theorem w_359 : Cond.methodLink "LentGallery" 147 yX7_isTenant ∈ TB := tb_in2 (List.mem_of_getElem? (i := 119) rfl) rfl
theorem w_361 : Cond.instanceMethod yX7_isTenant ∈ TB := tb_in2 (List.mem_of_getElem? (i := 121) rfl) rfl
theorem w_362 : Cond.code yX7_isTenant prog_1_method_28_code 2 (Option.some FieldType.boolean) ∈ TB := tb_in2 (List.mem_of_getElem? (i := 122) rfl) rfl
theorem w_363 : Cond.methodLink "LentGallery" 156 yX6_weightOf ∈ TB := tb_in2 (List.mem_of_getElem? (i := 123) rfl) rfl
theorem w_364 : Cond.instanceMethod yX6_weightOf ∈ TB := tb_in2 (List.mem_of_getElem? (i := 124) rfl) rfl
theorem w_365 : Cond.selects "LentGallery$Street" yX6_weightOf yX6_weightOf ∈ TB := tb_in2 (List.mem_of_getElem? (i := 125) rfl) rfl
theorem w_366 : Cond.code yX6_weightOf prog_8_method_7_code 2 (Option.some FieldType.int) ∈ TB := tb_in2 (List.mem_of_getElem? (i := 126) rfl) rfl
theorem w_367 : Cond.methodLink "LentGallery$Street" 76 yX6_isHere ∈ TB := tb_in2 (List.mem_of_getElem? (i := 127) rfl) rfl
theorem w_369 : Cond.instanceMethod yX6_isHere ∈ TB := tb_in2 (List.mem_of_getElem? (i := 129) rfl) rfl
theorem w_370 : Cond.code yX6_isHere prog_8_method_15_code 2 (Option.some FieldType.boolean) ∈ TB := tb_in2 (List.mem_of_getElem? (i := 130) rfl) rfl
theorem w_371 : Cond.methodLink "LentGallery" 159 yX6_breathOf ∈ TB := tb_in2 (List.mem_of_getElem? (i := 131) rfl) rfl
theorem w_372 : Cond.instanceMethod yX6_breathOf ∈ TB := tb_in2 (List.mem_of_getElem? (i := 132) rfl) rfl
theorem w_373 : Cond.selects "LentGallery$Street" yX6_breathOf yX6_breathOf ∈ TB := tb_in2 (List.mem_of_getElem? (i := 133) rfl) rfl
theorem w_374 : Cond.code yX6_breathOf prog_8_method_8_code 2 (Option.some FieldType.int) ∈ TB := tb_in2 (List.mem_of_getElem? (i := 134) rfl) rfl
theorem w_377 : Cond.methodLink "LentGallery" 162 yX6_isCutOff ∈ TB := tb_in2 (List.mem_of_getElem? (i := 137) rfl) rfl
theorem w_378 : Cond.instanceMethod yX6_isCutOff ∈ TB := tb_in2 (List.mem_of_getElem? (i := 138) rfl) rfl
theorem w_379 : Cond.selects "LentGallery$Street" yX6_isCutOff yX6_isCutOff ∈ TB := tb_in2 (List.mem_of_getElem? (i := 139) rfl) rfl
theorem w_380 : Cond.code yX6_isCutOff prog_8_method_9_code 2 (Option.some FieldType.boolean) ∈ TB := tb_in2 (List.mem_of_getElem? (i := 140) rfl) rfl
theorem w_381 : Cond.methodLink "LentGallery$Street" 92 yX3_firstFallen ∈ TB := tb_in2 (List.mem_of_getElem? (i := 141) rfl) rfl
theorem w_382 : Cond.instanceMethod yX3_firstFallen ∈ TB := tb_in2 (List.mem_of_getElem? (i := 142) rfl) rfl
theorem w_383 : Cond.selects "LentGallery$Roof" yX3_firstFallen yX3_firstFallen ∈ TB := tb_in2 (List.mem_of_getElem? (i := 143) rfl) rfl
theorem w_384 : Cond.code yX3_firstFallen prog_5_method_5_code 2 (Option.some FieldType.int) ∈ TB := tb_in2 (List.mem_of_getElem? (i := 144) rfl) rfl
theorem w_385 : Cond.methodLink "LentGallery" 165 yX6_gaspers ∈ TB := tb_in2 (List.mem_of_getElem? (i := 145) rfl) rfl
theorem w_386 : Cond.instanceMethod yX6_gaspers ∈ TB := tb_in2 (List.mem_of_getElem? (i := 146) rfl) rfl
theorem w_387 : Cond.selects "LentGallery$Street" yX6_gaspers yX6_gaspers ∈ TB := tb_in2 (List.mem_of_getElem? (i := 147) rfl) rfl
theorem w_388 : Cond.code yX6_gaspers prog_8_method_12_code 6 (Option.some FieldType.int) ∈ TB := tb_in2 (List.mem_of_getElem? (i := 148) rfl) rfl
theorem w_389 : Cond.methodLink "LentGallery$Street" 95 yX6_dwellers ∈ TB := tb_in2 (List.mem_of_getElem? (i := 149) rfl) rfl
theorem w_390 : Cond.methodLink "LentGallery$Street" 79 yX6_isCutOff ∈ TB := tb_in2 (List.mem_of_getElem? (i := 150) rfl) rfl
theorem w_391 : Cond.methodLink "LentGallery$Street" 98 yX6_breathOf ∈ TB := tb_in2 (List.mem_of_getElem? (i := 151) rfl) rfl
theorem w_392 : Cond.methodLink "LentGalleryLaw" 48 yX7_as ∈ TB := tb_in2 (List.mem_of_getElem? (i := 152) rfl) rfl
theorem w_393 : Cond.instanceMethod yX7_as ∈ TB := tb_in2 (List.mem_of_getElem? (i := 153) rfl) rfl
theorem w_394 : Cond.selects "LentGallery" yX7_as yX7_as ∈ TB := tb_in2 (List.mem_of_getElem? (i := 154) rfl) rfl
theorem w_395 : Cond.code yX7_as prog_1_method_10_code 3 (Option.some FieldType.int) ∈ TB := tb_in2 (List.mem_of_getElem? (i := 155) rfl) rfl
theorem w_396 : Cond.methodLink "LentGallery" 168 yX7_isSuch ∈ TB := tb_in2 (List.mem_of_getElem? (i := 156) rfl) rfl
theorem w_397 : Cond.static yX7_isSuch ∈ TB := tb_in2 (List.mem_of_getElem? (i := 157) rfl) rfl
theorem w_398 : Cond.code yX7_isSuch prog_1_method_30_code 2 (Option.some FieldType.boolean) ∈ TB := tb_in2 (List.mem_of_getElem? (i := 158) rfl) rfl
theorem w_399 : Cond.methodLink "LentGalleryLaw" 52 yX7_move ∈ TB := tb_in2 (List.mem_of_getElem? (i := 159) rfl) rfl
theorem w_400 : Cond.instanceMethod yX7_move ∈ TB := tb_in2 (List.mem_of_getElem? (i := 160) rfl) rfl
theorem w_401 : Cond.selects "LentGallery" yX7_move yX7_move ∈ TB := tb_in2 (List.mem_of_getElem? (i := 161) rfl) rfl
theorem w_402 : Cond.code yX7_move prog_1_method_11_code 4 (Option.some FieldType.int) ∈ TB := tb_in2 (List.mem_of_getElem? (i := 162) rfl) rfl
theorem w_403 : Cond.methodLink "LentGallery" 172 yX6_rehouse ∈ TB := tb_in2 (List.mem_of_getElem? (i := 163) rfl) rfl
theorem w_404 : Cond.instanceMethod yX6_rehouse ∈ TB := tb_in2 (List.mem_of_getElem? (i := 164) rfl) rfl
theorem w_405 : Cond.selects "LentGallery$Street" yX6_rehouse yX6_rehouse ∈ TB := tb_in2 (List.mem_of_getElem? (i := 165) rfl) rfl
theorem w_406 : Cond.code yX6_rehouse prog_8_method_5_code 5 (Option.some FieldType.boolean) ∈ TB := tb_in2 (List.mem_of_getElem? (i := 166) rfl) rfl
theorem w_407 : Cond.methodLink "LentGallery$Street" 82 yX6_weightOf ∈ TB := tb_in2 (List.mem_of_getElem? (i := 167) rfl) rfl
theorem w_408 : Cond.methodLink "LentGalleryLaw" 56 yX7_day ∈ TB := tb_in2 (List.mem_of_getElem? (i := 168) rfl) rfl
theorem w_409 : Cond.instanceMethod yX7_day ∈ TB := tb_in2 (List.mem_of_getElem? (i := 169) rfl) rfl
theorem w_410 : Cond.selects "LentGallery" yX7_day yX7_day ∈ TB := tb_in2 (List.mem_of_getElem? (i := 170) rfl) rfl
theorem w_411 : Cond.code yX7_day prog_1_method_12_code 1 (Option.some FieldType.int) ∈ TB := tb_in2 (List.mem_of_getElem? (i := 171) rfl) rfl
theorem w_412 : Cond.methodLink "LentGallery" 175 yX6_liveDay ∈ TB := tb_in2 (List.mem_of_getElem? (i := 172) rfl) rfl
theorem w_413 : Cond.instanceMethod yX6_liveDay ∈ TB := tb_in2 (List.mem_of_getElem? (i := 173) rfl) rfl
theorem w_414 : Cond.selects "LentGallery$Street" yX6_liveDay yX6_liveDay ∈ TB := tb_in2 (List.mem_of_getElem? (i := 174) rfl) rfl
theorem w_415 : Cond.code yX6_liveDay prog_8_method_6_code 2 (Option.some FieldType.int) ∈ TB := tb_in2 (List.mem_of_getElem? (i := 175) rfl) rfl
theorem w_416 : Cond.methodLink "LentGallery$Street" 85 yX3_passDay ∈ TB := tb_in2 (List.mem_of_getElem? (i := 176) rfl) rfl
theorem w_417 : Cond.methodLink "LentGalleryLaw" 60 yX7_holds ∈ TB := tb_in2 (List.mem_of_getElem? (i := 177) rfl) rfl
theorem w_418 : Cond.instanceMethod yX7_holds ∈ TB := tb_in2 (List.mem_of_getElem? (i := 178) rfl) rfl
theorem w_419 : Cond.selects "LentGallery" yX7_holds yX7_holds ∈ TB := tb_in2 (List.mem_of_getElem? (i := 179) rfl) rfl
theorem w_420 : Cond.code yX7_holds prog_1_method_13_code 1 (Option.some FieldType.int) ∈ TB := tb_in2 (List.mem_of_getElem? (i := 180) rfl) rfl
theorem w_421 : Cond.methodLink "LentGallery" 178 yX3_firstFall ∈ TB := tb_in2 (List.mem_of_getElem? (i := 181) rfl) rfl
theorem w_422 : Cond.instanceMethod yX3_firstFall ∈ TB := tb_in2 (List.mem_of_getElem? (i := 182) rfl) rfl
theorem w_423 : Cond.selects "LentGallery$Roof" yX3_firstFall yX3_firstFall ∈ TB := tb_in2 (List.mem_of_getElem? (i := 183) rfl) rfl
theorem w_424 : Cond.code yX3_firstFall prog_5_method_8_code 4 (Option.some FieldType.int) ∈ TB := tb_in2 (List.mem_of_getElem? (i := 184) rfl) rfl
theorem w_425 : Cond.methodLink "LentGallery$Roof" 37 yJ9_min_7cf53 ∈ TB := tb_in2 (List.mem_of_getElem? (i := 185) rfl) rfl
theorem w_426 : Cond.methodLink "LentGallery" 181 yX7_orNone ∈ TB := tb_in2 (List.mem_of_getElem? (i := 186) rfl) rfl
theorem w_427 : Cond.static yX7_orNone ∈ TB := tb_in2 (List.mem_of_getElem? (i := 187) rfl) rfl
theorem w_428 : Cond.code yX7_orNone prog_1_method_31_code 1 (Option.some FieldType.int) ∈ TB := tb_in2 (List.mem_of_getElem? (i := 188) rfl) rfl
theorem w_429 : Cond.methodLink "LentGalleryLaw" 64 yX7_where ∈ TB := tb_in2 (List.mem_of_getElem? (i := 189) rfl) rfl
theorem w_430 : Cond.instanceMethod yX7_where ∈ TB := tb_in2 (List.mem_of_getElem? (i := 190) rfl) rfl
theorem w_431 : Cond.selects "LentGallery" yX7_where yX7_where ∈ TB := tb_in2 (List.mem_of_getElem? (i := 191) rfl) rfl
theorem w_432 : Cond.code yX7_where prog_1_method_14_code 4 (Option.some FieldType.int) ∈ TB := tb_in2 (List.mem_of_getElem? (i := 192) rfl) rfl
theorem w_433 : Cond.methodLink "LentGallery" 187 yX4_seek ∈ TB := tb_in2 (List.mem_of_getElem? (i := 193) rfl) rfl
theorem w_434 : Cond.instanceMethod yX4_seek ∈ TB := tb_in2 (List.mem_of_getElem? (i := 194) rfl) rfl
theorem w_435 : Cond.selects "LentGallery$Settling" yX4_seek yX4_seek ∈ TB := tb_in2 (List.mem_of_getElem? (i := 195) rfl) rfl
theorem w_436 : Cond.code yX4_seek prog_6_method_2_code 2 none ∈ TB := tb_in2 (List.mem_of_getElem? (i := 196) rfl) rfl
theorem w_437 : Cond.methodLink "LentGallery$Settling" 28 yX3_copyFrom ∈ TB := tb_in2 (List.mem_of_getElem? (i := 197) rfl) rfl
theorem w_438 : Cond.methodLink "LentGallery$Settling" 35 yJ7_fill_53178 ∈ TB := tb_in2 (List.mem_of_getElem? (i := 198) rfl) rfl
theorem w_439 : Cond.static yJ7_fill_53178 ∈ TB := tb_in2 (List.mem_of_getElem? (i := 199) rfl) rfl
theorem w_440 : Cond.code yJ7_fill_53178 prog_14_method_103_code 4 none ∈ TB := tb_in2 (List.mem_of_getElem? (i := 200) rfl) rfl
theorem w_441 : Cond.methodLink "LentGallery$Settling" 49 yX4_settle ∈ TB := tb_in2 (List.mem_of_getElem? (i := 201) rfl) rfl
theorem w_442 : Cond.static yX4_settle ∈ TB := tb_in2 (List.mem_of_getElem? (i := 202) rfl) rfl
theorem w_443 : Cond.code yX4_settle prog_6_method_3_code 6 none ∈ TB := tb_in2 (List.mem_of_getElem? (i := 203) rfl) rfl
theorem w_444 : Cond.methodLink "LentGallery$Settling" 53 yX3_firstFall ∈ TB := tb_in2 (List.mem_of_getElem? (i := 204) rfl) rfl
theorem w_445 : Cond.methodLink "LentGallery$Settling" 60 yX4_keep ∈ TB := tb_in2 (List.mem_of_getElem? (i := 205) rfl) rfl
theorem w_447 : Cond.instanceMethod yX4_keep ∈ TB := tb_in2 (List.mem_of_getElem? (i := 207) rfl) rfl
theorem w_448 : Cond.code yX4_keep prog_6_method_4_code 2 none ∈ TB := tb_in2 (List.mem_of_getElem? (i := 208) rfl) rfl
theorem w_449 : Cond.methodLink "LentGallery$Settling" 72 (⟨"java/lang/System", "arraycopy", "(Ljava/lang/Object;ILjava/lang/Object;II)V"⟩ : MethodName) ∈ TB := tb_in2 (List.mem_of_getElem? (i := 209) rfl) rfl
theorem w_450 : Cond.methodLink "LentGallery$Settling" 64 yX6_weightOf ∈ TB := tb_in2 (List.mem_of_getElem? (i := 210) rfl) rfl
theorem w_451 : Cond.methodLink "LentGallery$Settling" 68 yX3_stands ∈ TB := tb_in2 (List.mem_of_getElem? (i := 211) rfl) rfl
theorem w_452 : Cond.methodLink "LentGalleryLaw" 68 yX7_props ∈ TB := tb_in2 (List.mem_of_getElem? (i := 212) rfl) rfl
theorem w_453 : Cond.instanceMethod yX7_props ∈ TB := tb_in2 (List.mem_of_getElem? (i := 213) rfl) rfl
theorem w_454 : Cond.selects "LentGallery" yX7_props yX7_props ∈ TB := tb_in2 (List.mem_of_getElem? (i := 214) rfl) rfl
theorem w_455 : Cond.code yX7_props prog_1_method_15_code 6 (Option.some FieldType.int) ∈ TB := tb_in2 (List.mem_of_getElem? (i := 215) rfl) rfl
theorem w_456 : Cond.methodLink "LentGallery" 200 yX3_propsNeeded ∈ TB := tb_in2 (List.mem_of_getElem? (i := 216) rfl) rfl
theorem w_457 : Cond.instanceMethod yX3_propsNeeded ∈ TB := tb_in2 (List.mem_of_getElem? (i := 217) rfl) rfl
theorem w_458 : Cond.selects "LentGallery$Roof" yX3_propsNeeded yX3_propsNeeded ∈ TB := tb_in2 (List.mem_of_getElem? (i := 218) rfl) rfl
theorem w_459 : Cond.code yX3_propsNeeded prog_5_method_9_code 5 (Option.some FieldType.int) ∈ TB := tb_in2 (List.mem_of_getElem? (i := 219) rfl) rfl
theorem w_460 : Cond.methodLink "LentGallery$Roof" 40 yX3_propsNeededAt ∈ TB := tb_in2 (List.mem_of_getElem? (i := 220) rfl) rfl
theorem w_461 : Cond.instanceMethod yX3_propsNeededAt ∈ TB := tb_in2 (List.mem_of_getElem? (i := 221) rfl) rfl
theorem w_462 : Cond.selects "LentGallery$Roof" yX3_propsNeededAt yX3_propsNeededAt ∈ TB := tb_in2 (List.mem_of_getElem? (i := 222) rfl) rfl
theorem w_463 : Cond.code yX3_propsNeededAt prog_5_method_10_code 5 (Option.some FieldType.int) ∈ TB := tb_in2 (List.mem_of_getElem? (i := 223) rfl) rfl
theorem w_464 : Cond.methodLink "LentGallery$Roof" 43 yX3_stands ∈ TB := tb_in2 (List.mem_of_getElem? (i := 224) rfl) rfl
theorem w_465 : Cond.methodLink "LentGallery" 203 yX3_propsNeededAt ∈ TB := tb_in2 (List.mem_of_getElem? (i := 225) rfl) rfl
theorem w_466 : Cond.methodLink "LentGalleryLaw" 72 yX7_out ∈ TB := tb_in2 (List.mem_of_getElem? (i := 226) rfl) rfl
theorem w_467 : Cond.instanceMethod yX7_out ∈ TB := tb_in2 (List.mem_of_getElem? (i := 227) rfl) rfl
theorem w_468 : Cond.selects "LentGallery" yX7_out yX7_out ∈ TB := tb_in2 (List.mem_of_getElem? (i := 228) rfl) rfl
theorem w_469 : Cond.code yX7_out prog_1_method_16_code 1 (Option.some FieldType.int) ∈ TB := tb_in2 (List.mem_of_getElem? (i := 229) rfl) rfl
theorem w_470 : Cond.methodLink "LentGallery" 206 yX6_minutesOut ∈ TB := tb_in2 (List.mem_of_getElem? (i := 230) rfl) rfl
theorem w_471 : Cond.instanceMethod yX6_minutesOut ∈ TB := tb_in2 (List.mem_of_getElem? (i := 231) rfl) rfl
theorem w_472 : Cond.selects "LentGallery$Street" yX6_minutesOut yX6_minutesOut ∈ TB := tb_in2 (List.mem_of_getElem? (i := 232) rfl) rfl
theorem w_473 : Cond.code yX6_minutesOut prog_8_method_13_code 5 (Option.some FieldType.int) ∈ TB := tb_in2 (List.mem_of_getElem? (i := 233) rfl) rfl
theorem w_474 : Cond.methodLink "LentGallery$Street" 101 yX6_cutOffs ∈ TB := tb_in2 (List.mem_of_getElem? (i := 234) rfl) rfl
theorem w_475 : Cond.instanceMethod yX6_cutOffs ∈ TB := tb_in2 (List.mem_of_getElem? (i := 235) rfl) rfl
theorem w_476 : Cond.selects "LentGallery$Street" yX6_cutOffs yX6_cutOffs ∈ TB := tb_in2 (List.mem_of_getElem? (i := 236) rfl) rfl
theorem w_477 : Cond.code yX6_cutOffs prog_8_method_10_code 3 (Option.some FieldType.int) ∈ TB := tb_in2 (List.mem_of_getElem? (i := 237) rfl) rfl
theorem w_478 : Cond.methodLink "LentGallery$Street" 104 yJ9_min_7cf53 ∈ TB := tb_in2 (List.mem_of_getElem? (i := 238) rfl) rfl
theorem w_479 : Cond.methodLink "LentGallery$Street" 110 yX6_comersFrom ∈ TB := tb_in2 (List.mem_of_getElem? (i := 239) rfl) rfl
theorem w_481 : Cond.instanceMethod yX6_comersFrom ∈ TB := tb_in3 (List.mem_of_getElem? (i := 1) rfl) rfl
theorem w_482 : Cond.code yX6_comersFrom prog_8_method_14_code 2 (Option.some FieldType.int) ∈ TB := tb_in3 (List.mem_of_getElem? (i := 2) rfl) rfl
theorem w_483 : Cond.methodLink "LentGallery$Street" 113 yJ6_bitCount_0f7a4 ∈ TB := tb_in3 (List.mem_of_getElem? (i := 3) rfl) rfl
theorem w_484 : Cond.methodLink "LentGalleryLaw" 76 yX7_knock ∈ TB := tb_in3 (List.mem_of_getElem? (i := 4) rfl) rfl
theorem w_485 : Cond.instanceMethod yX7_knock ∈ TB := tb_in3 (List.mem_of_getElem? (i := 5) rfl) rfl
theorem w_486 : Cond.selects "LentGallery" yX7_knock yX7_knock ∈ TB := tb_in3 (List.mem_of_getElem? (i := 6) rfl) rfl
theorem w_487 : Cond.code yX7_knock prog_1_method_17_code 4 (Option.some FieldType.int) ∈ TB := tb_in3 (List.mem_of_getElem? (i := 7) rfl) rfl
theorem w_488 : Cond.methodLink "LentGallery" 209 yX1_hear ∈ TB := tb_in3 (List.mem_of_getElem? (i := 8) rfl) rfl
theorem w_489 : Cond.instanceMethod yX1_hear ∈ TB := tb_in3 (List.mem_of_getElem? (i := 9) rfl) rfl
theorem w_490 : Cond.selects "LentGallery$Knocks" yX1_hear yX1_hear ∈ TB := tb_in3 (List.mem_of_getElem? (i := 10) rfl) rfl
theorem w_491 : Cond.code yX1_hear prog_3_method_2_code 4 (Option.some FieldType.boolean) ∈ TB := tb_in3 (List.mem_of_getElem? (i := 11) rfl) rfl
theorem w_492 : Cond.methodLink "LentGalleryLaw" 81 yX7_forget ∈ TB := tb_in3 (List.mem_of_getElem? (i := 12) rfl) rfl
theorem w_493 : Cond.instanceMethod yX7_forget ∈ TB := tb_in3 (List.mem_of_getElem? (i := 13) rfl) rfl
theorem w_494 : Cond.selects "LentGallery" yX7_forget yX7_forget ∈ TB := tb_in3 (List.mem_of_getElem? (i := 14) rfl) rfl
theorem w_495 : Cond.code yX7_forget prog_1_method_18_code 2 (Option.some FieldType.int) ∈ TB := tb_in3 (List.mem_of_getElem? (i := 15) rfl) rfl
theorem w_496 : Cond.methodLink "LentGalleryLaw" 85 yX7_years ∈ TB := tb_in3 (List.mem_of_getElem? (i := 16) rfl) rfl
theorem w_497 : Cond.instanceMethod yX7_years ∈ TB := tb_in3 (List.mem_of_getElem? (i := 17) rfl) rfl
theorem w_498 : Cond.selects "LentGallery" yX7_years yX7_years ∈ TB := tb_in3 (List.mem_of_getElem? (i := 18) rfl) rfl
theorem w_499 : Cond.code yX7_years prog_1_method_19_code 8 (Option.some FieldType.int) ∈ TB := tb_in3 (List.mem_of_getElem? (i := 19) rfl) rfl
theorem w_500 : Cond.methodLink "LentGallery" 216 yX6_copyFrom ∈ TB := tb_in3 (List.mem_of_getElem? (i := 20) rfl) rfl
theorem w_501 : Cond.instanceMethod yX6_copyFrom ∈ TB := tb_in3 (List.mem_of_getElem? (i := 21) rfl) rfl
theorem w_502 : Cond.selects "LentGallery$Street" yX6_copyFrom yX6_copyFrom ∈ TB := tb_in3 (List.mem_of_getElem? (i := 22) rfl) rfl
theorem w_503 : Cond.code yX6_copyFrom prog_8_method_3_code 2 none ∈ TB := tb_in3 (List.mem_of_getElem? (i := 23) rfl) rfl
theorem w_504 : Cond.methodLink "LentGallery$Street" 56 yX3_copyFrom ∈ TB := tb_in3 (List.mem_of_getElem? (i := 24) rfl) rfl
theorem w_505 : Cond.methodLink "LentGallery$Street" 60 (⟨"java/lang/System", "arraycopy", "(Ljava/lang/Object;ILjava/lang/Object;II)V"⟩ : MethodName) ∈ TB := tb_in3 (List.mem_of_getElem? (i := 25) rfl) rfl
theorem w_506 : Cond.methodLink "LentGallery" 219 yX0_below ∈ TB := tb_in3 (List.mem_of_getElem? (i := 26) rfl) rfl
theorem w_507 : Cond.instanceMethod yX0_below ∈ TB := tb_in3 (List.mem_of_getElem? (i := 27) rfl) rfl
theorem w_508 : Cond.selects "LentGallery$Draws" yX0_below yX0_below ∈ TB := tb_in3 (List.mem_of_getElem? (i := 28) rfl) rfl
theorem w_509 : Cond.code yX0_below prog_2_method_2_code 2 (Option.some FieldType.int) ∈ TB := tb_in3 (List.mem_of_getElem? (i := 29) rfl) rfl
theorem w_510 : Cond.constantLong "LentGallery$Draws" 7 (1103515245 : Int64) ∈ TB := tb_in3 (List.mem_of_getElem? (i := 30) rfl) rfl
theorem w_511 : Cond.constantLong "LentGallery$Draws" 15 (12345 : Int64) ∈ TB := tb_in3 (List.mem_of_getElem? (i := 31) rfl) rfl
theorem w_512 : Cond.constantLong "LentGallery$Draws" 17 (2147483648 : Int64) ∈ TB := tb_in3 (List.mem_of_getElem? (i := 32) rfl) rfl
theorem w_513 : Cond.constant "LentGallery$Draws" 19 (65536 : Int32) ∈ TB := tb_in3 (List.mem_of_getElem? (i := 33) rfl) rfl
theorem w_514 : Cond.methodLink "LentGallery" 222 yJ6_bitCount_0f7a4 ∈ TB := tb_in3 (List.mem_of_getElem? (i := 34) rfl) rfl
theorem w_515 : Cond.methodLink "LentGalleryLaw" 90 yX7_image ∈ TB := tb_in3 (List.mem_of_getElem? (i := 35) rfl) rfl
theorem w_516 : Cond.instanceMethod yX7_image ∈ TB := tb_in3 (List.mem_of_getElem? (i := 36) rfl) rfl
theorem w_517 : Cond.selects "LentGallery" yX7_image yX7_image ∈ TB := tb_in3 (List.mem_of_getElem? (i := 37) rfl) rfl
theorem w_518 : Cond.code yX7_image prog_1_method_20_code 1 (Option.some FieldType.int) ∈ TB := tb_in3 (List.mem_of_getElem? (i := 38) rfl) rfl
theorem w_519 : Cond.methodLink "LentGallery" 227 yX1_copyFrom ∈ TB := tb_in3 (List.mem_of_getElem? (i := 39) rfl) rfl
theorem w_520 : Cond.instanceMethod yX1_copyFrom ∈ TB := tb_in3 (List.mem_of_getElem? (i := 40) rfl) rfl
theorem w_521 : Cond.selects "LentGallery$Knocks" yX1_copyFrom yX1_copyFrom ∈ TB := tb_in3 (List.mem_of_getElem? (i := 41) rfl) rfl
theorem w_522 : Cond.code yX1_copyFrom prog_3_method_3_code 2 none ∈ TB := tb_in3 (List.mem_of_getElem? (i := 42) rfl) rfl
theorem w_523 : Cond.methodLink "LentGallery$Knocks" 25 (⟨"java/lang/System", "arraycopy", "(Ljava/lang/Object;ILjava/lang/Object;II)V"⟩ : MethodName) ∈ TB := tb_in3 (List.mem_of_getElem? (i := 43) rfl) rfl
theorem w_524 : Cond.methodLink "LentGalleryLaw" 94 yX7_restore ∈ TB := tb_in3 (List.mem_of_getElem? (i := 44) rfl) rfl
theorem w_525 : Cond.instanceMethod yX7_restore ∈ TB := tb_in3 (List.mem_of_getElem? (i := 45) rfl) rfl
theorem w_526 : Cond.selects "LentGallery" yX7_restore yX7_restore ∈ TB := tb_in3 (List.mem_of_getElem? (i := 46) rfl) rfl
theorem w_527 : Cond.code yX7_restore prog_1_method_21_code 1 (Option.some FieldType.int) ∈ TB := tb_in3 (List.mem_of_getElem? (i := 47) rfl) rfl
theorem w_528 : Cond.methodLink "LentGalleryLaw" 98 yX7_count ∈ TB := tb_in3 (List.mem_of_getElem? (i := 48) rfl) rfl
theorem w_529 : Cond.instanceMethod yX7_count ∈ TB := tb_in3 (List.mem_of_getElem? (i := 49) rfl) rfl
theorem w_530 : Cond.selects "LentGallery" yX7_count yX7_count ∈ TB := tb_in3 (List.mem_of_getElem? (i := 50) rfl) rfl
theorem w_531 : Cond.code yX7_count prog_1_method_22_code 2 (Option.some FieldType.int) ∈ TB := tb_in3 (List.mem_of_getElem? (i := 51) rfl) rfl
theorem w_532 : Cond.methodLink "LentGallery" 239 yX6_cutOffs ∈ TB := tb_in3 (List.mem_of_getElem? (i := 52) rfl) rfl
theorem w_533 : Cond.methodLink "LentGalleryLaw" 102 yX7_digest ∈ TB := tb_in3 (List.mem_of_getElem? (i := 53) rfl) rfl
theorem w_534 : Cond.instanceMethod yX7_digest ∈ TB := tb_in3 (List.mem_of_getElem? (i := 54) rfl) rfl
theorem w_535 : Cond.selects "LentGallery" yX7_digest yX7_digest ∈ TB := tb_in3 (List.mem_of_getElem? (i := 55) rfl) rfl
theorem w_536 : Cond.code yX7_digest prog_1_method_23_code 5 (Option.some FieldType.long) ∈ TB := tb_in3 (List.mem_of_getElem? (i := 56) rfl) rfl
theorem w_537 : Cond.constantLong "LentGallery" 245 (919 : Int64) ∈ TB := tb_in3 (List.mem_of_getElem? (i := 57) rfl) rfl
theorem w_538 : Cond.methodLink "LentGallery" 247 yX7_mixPlaces ∈ TB := tb_in3 (List.mem_of_getElem? (i := 58) rfl) rfl
theorem w_540 : Cond.instanceMethod yX7_mixPlaces ∈ TB := tb_in3 (List.mem_of_getElem? (i := 60) rfl) rfl
theorem w_541 : Cond.code yX7_mixPlaces prog_1_method_24_code 7 (Option.some FieldType.long) ∈ TB := tb_in3 (List.mem_of_getElem? (i := 61) rfl) rfl
theorem w_542 : Cond.methodLink "LentGallery" 267 yX7_place ∈ TB := tb_in3 (List.mem_of_getElem? (i := 62) rfl) rfl
theorem w_543 : Cond.methodLink "LentGallery" 254 yX7_mix ∈ TB := tb_in3 (List.mem_of_getElem? (i := 63) rfl) rfl
theorem w_544 : Cond.static yX7_mix ∈ TB := tb_in3 (List.mem_of_getElem? (i := 64) rfl) rfl
theorem w_545 : Cond.code yX7_mix prog_1_method_26_code 4 (Option.some FieldType.long) ∈ TB := tb_in3 (List.mem_of_getElem? (i := 65) rfl) rfl
theorem w_546 : Cond.constantLong "LentGallery" 278 (31 : Int64) ∈ TB := tb_in3 (List.mem_of_getElem? (i := 66) rfl) rfl
theorem w_547 : Cond.methodLink "LentGallery" 251 yX7_about ∈ TB := tb_in3 (List.mem_of_getElem? (i := 67) rfl) rfl
theorem w_548 : Cond.methodLink "LentGallery" 258 yX7_mixWouldBe ∈ TB := tb_in3 (List.mem_of_getElem? (i := 68) rfl) rfl
theorem w_550 : Cond.instanceMethod yX7_mixWouldBe ∈ TB := tb_in3 (List.mem_of_getElem? (i := 70) rfl) rfl
theorem w_551 : Cond.code yX7_mixWouldBe prog_1_method_25_code 6 (Option.some FieldType.long) ∈ TB := tb_in3 (List.mem_of_getElem? (i := 71) rfl) rfl
theorem w_552 : Cond.methodLink "LentGallery" 270 yX7_holds ∈ TB := tb_in3 (List.mem_of_getElem? (i := 72) rfl) rfl
theorem w_553 : Cond.methodLink "LentGallery" 273 yX7_out ∈ TB := tb_in3 (List.mem_of_getElem? (i := 73) rfl) rfl
theorem w_554 : Cond.methodLink "LentGallery" 276 yX7_props ∈ TB := tb_in3 (List.mem_of_getElem? (i := 74) rfl) rfl
theorem w_555 : Cond.methodLink "LentGallery" 264 yX7_count ∈ TB := tb_in3 (List.mem_of_getElem? (i := 75) rfl) rfl
theorem w_556 : Cond.classLink "LentGalleryLaw" 10 "LentGalleryModel" ∈ TB := tb_in3 (List.mem_of_getElem? (i := 76) rfl) rfl
theorem w_557 : Cond.instantiable "LentGalleryModel" 30 ∈ TB := tb_in3 (List.mem_of_getElem? (i := 77) rfl) rfl
theorem w_558 : Cond.methodLink "LentGalleryLaw" 12 yX8_init ∈ TB := tb_in3 (List.mem_of_getElem? (i := 78) rfl) rfl
theorem w_559 : Cond.instanceMethod yX8_init ∈ TB := tb_in3 (List.mem_of_getElem? (i := 79) rfl) rfl
theorem w_560 : Cond.code yX8_init prog_10_method_1_code 1 none ∈ TB := tb_in3 (List.mem_of_getElem? (i := 80) rfl) rfl
theorem w_561 : Cond.methodLink "LentGalleryModel" 1 objectInit ∈ TB := tb_in3 (List.mem_of_getElem? (i := 81) rfl) rfl
theorem w_562 : Cond.fieldLink "LentGalleryModel" 7 "LentGalleryModel" "page" "[I" ∈ TB := tb_in3 (List.mem_of_getElem? (i := 82) rfl) rfl
theorem w_563 : Cond.fieldLink "LentGalleryModel" 56 "LentGalleryModel" "pageMany" "I" ∈ TB := tb_in3 (List.mem_of_getElem? (i := 83) rfl) rfl
theorem w_564 : Cond.fieldLink "LentGalleryModel" 69 "LentGalleryModel" "air" "I" ∈ TB := tb_in3 (List.mem_of_getElem? (i := 84) rfl) rfl
theorem w_565 : Cond.fieldLink "LentGalleryModel" 72 "LentGalleryModel" "cage" "I" ∈ TB := tb_in3 (List.mem_of_getElem? (i := 85) rfl) rfl
theorem w_566 : Cond.fieldLink "LentGalleryModel" 75 "LentGalleryModel" "daysNow" "I" ∈ TB := tb_in3 (List.mem_of_getElem? (i := 86) rfl) rfl
theorem w_567 : Cond.fieldLink "LentGalleryModel" 78 "LentGalleryModel" "fallsNow" "I" ∈ TB := tb_in3 (List.mem_of_getElem? (i := 87) rfl) rfl
theorem w_568 : Cond.fieldLink "LentGalleryModel" 81 "LentGalleryModel" "propsNow" "I" ∈ TB := tb_in3 (List.mem_of_getElem? (i := 88) rfl) rfl
theorem w_569 : Cond.fieldLink "LentGalleryModel" 90 "LentGalleryModel" "galleriesRead" "I" ∈ TB := tb_in3 (List.mem_of_getElem? (i := 89) rfl) rfl
theorem w_570 : Cond.fieldLink "LentGalleryModel" 13 "LentGalleryModel" "strong" "[I" ∈ TB := tb_in3 (List.mem_of_getElem? (i := 90) rfl) rfl
theorem w_571 : Cond.fieldLink "LentGalleryModel" 84 "LentGalleryModel" "tenants" "I" ∈ TB := tb_in3 (List.mem_of_getElem? (i := 91) rfl) rfl
theorem w_572 : Cond.fieldLink "LentGalleryModel" 16 "LentGalleryModel" "rows" "[I" ∈ TB := tb_in3 (List.mem_of_getElem? (i := 92) rfl) rfl
theorem w_573 : Cond.fieldLink "LentGalleryModel" 19 "LentGalleryModel" "homes" "[I" ∈ TB := tb_in3 (List.mem_of_getElem? (i := 93) rfl) rfl
theorem w_574 : Cond.fieldLink "LentGalleryModel" 22 "LentGalleryModel" "now" "[I" ∈ TB := tb_in3 (List.mem_of_getElem? (i := 94) rfl) rfl
theorem w_575 : Cond.fieldLink "LentGalleryModel" 25 "LentGalleryModel" "ahead" "[I" ∈ TB := tb_in3 (List.mem_of_getElem? (i := 95) rfl) rfl
theorem w_576 : Cond.fieldLink "LentGalleryModel" 174 "LentGalleryModel" "whereMany" "I" ∈ TB := tb_in3 (List.mem_of_getElem? (i := 96) rfl) rfl
theorem w_577 : Cond.fieldLink "LentGalleryModel" 28 "LentGalleryModel" "bestHomes" "[I" ∈ TB := tb_in3 (List.mem_of_getElem? (i := 97) rfl) rfl
theorem w_578 : Cond.fieldLink "LentGalleryModel" 87 "LentGalleryModel" "knockMany" "I" ∈ TB := tb_in3 (List.mem_of_getElem? (i := 98) rfl) rfl
theorem w_579 : Cond.fieldLink "LentGalleryModel" 31 "LentGalleryModel" "knocks" "[I" ∈ TB := tb_in3 (List.mem_of_getElem? (i := 99) rfl) rfl
theorem w_580 : Cond.fieldLink "LentGalleryModel" 34 "LentGalleryModel" "stand" "[I" ∈ TB := tb_in3 (List.mem_of_getElem? (i := 100) rfl) rfl
theorem w_581 : Cond.fieldLink "LentGalleryModel" 198 "LentGalleryModel" "seedNow" "I" ∈ TB := tb_in3 (List.mem_of_getElem? (i := 101) rfl) rfl
theorem w_582 : Cond.fieldLink "LentGalleryModel" 46 "LentGalleryModel" "keptGallery" "I" ∈ TB := tb_in3 (List.mem_of_getElem? (i := 102) rfl) rfl
theorem w_583 : Cond.fieldLink "LentGalleryModel" 213 "LentGalleryModel" "keptTenants" "I" ∈ TB := tb_in3 (List.mem_of_getElem? (i := 103) rfl) rfl
theorem w_584 : Cond.fieldLink "LentGalleryModel" 216 "LentGalleryModel" "keptDays" "I" ∈ TB := tb_in3 (List.mem_of_getElem? (i := 104) rfl) rfl
theorem w_585 : Cond.fieldLink "LentGalleryModel" 219 "LentGalleryModel" "keptFalls" "I" ∈ TB := tb_in3 (List.mem_of_getElem? (i := 105) rfl) rfl
theorem w_586 : Cond.fieldLink "LentGalleryModel" 222 "LentGalleryModel" "keptProps" "I" ∈ TB := tb_in3 (List.mem_of_getElem? (i := 106) rfl) rfl
theorem w_587 : Cond.fieldLink "LentGalleryModel" 225 "LentGalleryModel" "keptKnockMany" "I" ∈ TB := tb_in3 (List.mem_of_getElem? (i := 107) rfl) rfl
theorem w_588 : Cond.fieldLink "LentGalleryModel" 37 "LentGalleryModel" "keptStrong" "[I" ∈ TB := tb_in3 (List.mem_of_getElem? (i := 108) rfl) rfl
theorem w_589 : Cond.fieldLink "LentGalleryModel" 40 "LentGalleryModel" "keptRows" "[I" ∈ TB := tb_in3 (List.mem_of_getElem? (i := 109) rfl) rfl
theorem w_590 : Cond.fieldLink "LentGalleryModel" 43 "LentGalleryModel" "keptKnocks" "[I" ∈ TB := tb_in3 (List.mem_of_getElem? (i := 110) rfl) rfl
theorem w_591 : Cond.fieldLink "LentGalleryModel" 236 "LentGalleryModel" "hash" "J" ∈ TB := tb_in3 (List.mem_of_getElem? (i := 111) rfl) rfl
theorem w_592 : Cond.laysFinal "LentGalleryModel" "LentGalleryModel" "page" "[I" ∈ TB := tb_in3 (List.mem_of_getElem? (i := 112) rfl) rfl
theorem w_594 : Cond.lays "LentGalleryModel" "LentGalleryModel" "pageMany" "I" ∈ TB := tb_in3 (List.mem_of_getElem? (i := 114) rfl) rfl
theorem w_596 : Cond.lays "LentGalleryModel" "LentGalleryModel" "air" "I" ∈ TB := tb_in3 (List.mem_of_getElem? (i := 116) rfl) rfl
theorem w_598 : Cond.lays "LentGalleryModel" "LentGalleryModel" "cage" "I" ∈ TB := tb_in3 (List.mem_of_getElem? (i := 118) rfl) rfl
theorem w_600 : Cond.lays "LentGalleryModel" "LentGalleryModel" "daysNow" "I" ∈ TB := tb_in3 (List.mem_of_getElem? (i := 120) rfl) rfl
theorem w_602 : Cond.lays "LentGalleryModel" "LentGalleryModel" "fallsNow" "I" ∈ TB := tb_in3 (List.mem_of_getElem? (i := 122) rfl) rfl
theorem w_604 : Cond.lays "LentGalleryModel" "LentGalleryModel" "propsNow" "I" ∈ TB := tb_in3 (List.mem_of_getElem? (i := 124) rfl) rfl
theorem w_606 : Cond.lays "LentGalleryModel" "LentGalleryModel" "galleriesRead" "I" ∈ TB := tb_in3 (List.mem_of_getElem? (i := 126) rfl) rfl
theorem w_608 : Cond.laysFinal "LentGalleryModel" "LentGalleryModel" "strong" "[I" ∈ TB := tb_in3 (List.mem_of_getElem? (i := 128) rfl) rfl
theorem w_610 : Cond.lays "LentGalleryModel" "LentGalleryModel" "tenants" "I" ∈ TB := tb_in3 (List.mem_of_getElem? (i := 130) rfl) rfl
theorem w_612 : Cond.laysFinal "LentGalleryModel" "LentGalleryModel" "rows" "[I" ∈ TB := tb_in3 (List.mem_of_getElem? (i := 132) rfl) rfl
theorem w_614 : Cond.laysFinal "LentGalleryModel" "LentGalleryModel" "homes" "[I" ∈ TB := tb_in3 (List.mem_of_getElem? (i := 134) rfl) rfl
theorem w_616 : Cond.laysFinal "LentGalleryModel" "LentGalleryModel" "now" "[I" ∈ TB := tb_in3 (List.mem_of_getElem? (i := 136) rfl) rfl
theorem w_618 : Cond.laysFinal "LentGalleryModel" "LentGalleryModel" "ahead" "[I" ∈ TB := tb_in3 (List.mem_of_getElem? (i := 138) rfl) rfl
theorem w_620 : Cond.lays "LentGalleryModel" "LentGalleryModel" "whereMany" "I" ∈ TB := tb_in3 (List.mem_of_getElem? (i := 140) rfl) rfl
theorem w_622 : Cond.laysFinal "LentGalleryModel" "LentGalleryModel" "bestHomes" "[I" ∈ TB := tb_in3 (List.mem_of_getElem? (i := 142) rfl) rfl
theorem w_624 : Cond.lays "LentGalleryModel" "LentGalleryModel" "knockMany" "I" ∈ TB := tb_in3 (List.mem_of_getElem? (i := 144) rfl) rfl
theorem w_626 : Cond.laysFinal "LentGalleryModel" "LentGalleryModel" "knocks" "[I" ∈ TB := tb_in3 (List.mem_of_getElem? (i := 146) rfl) rfl
theorem w_628 : Cond.laysFinal "LentGalleryModel" "LentGalleryModel" "stand" "[I" ∈ TB := tb_in3 (List.mem_of_getElem? (i := 148) rfl) rfl
theorem w_630 : Cond.lays "LentGalleryModel" "LentGalleryModel" "seedNow" "I" ∈ TB := tb_in3 (List.mem_of_getElem? (i := 150) rfl) rfl
theorem w_632 : Cond.lays "LentGalleryModel" "LentGalleryModel" "keptGallery" "I" ∈ TB := tb_in3 (List.mem_of_getElem? (i := 152) rfl) rfl
theorem w_634 : Cond.lays "LentGalleryModel" "LentGalleryModel" "keptTenants" "I" ∈ TB := tb_in3 (List.mem_of_getElem? (i := 154) rfl) rfl
theorem w_636 : Cond.lays "LentGalleryModel" "LentGalleryModel" "keptDays" "I" ∈ TB := tb_in3 (List.mem_of_getElem? (i := 156) rfl) rfl
theorem w_638 : Cond.lays "LentGalleryModel" "LentGalleryModel" "keptFalls" "I" ∈ TB := tb_in3 (List.mem_of_getElem? (i := 158) rfl) rfl
theorem w_640 : Cond.lays "LentGalleryModel" "LentGalleryModel" "keptProps" "I" ∈ TB := tb_in3 (List.mem_of_getElem? (i := 160) rfl) rfl
theorem w_642 : Cond.lays "LentGalleryModel" "LentGalleryModel" "keptKnockMany" "I" ∈ TB := tb_in3 (List.mem_of_getElem? (i := 162) rfl) rfl
theorem w_644 : Cond.laysFinal "LentGalleryModel" "LentGalleryModel" "keptStrong" "[I" ∈ TB := tb_in3 (List.mem_of_getElem? (i := 164) rfl) rfl
theorem w_646 : Cond.laysFinal "LentGalleryModel" "LentGalleryModel" "keptRows" "[I" ∈ TB := tb_in3 (List.mem_of_getElem? (i := 166) rfl) rfl
theorem w_648 : Cond.laysFinal "LentGalleryModel" "LentGalleryModel" "keptKnocks" "[I" ∈ TB := tb_in3 (List.mem_of_getElem? (i := 168) rfl) rfl
theorem w_650 : Cond.lays "LentGalleryModel" "LentGalleryModel" "hash" "J" ∈ TB := tb_in3 (List.mem_of_getElem? (i := 170) rfl) rfl
theorem w_653 : Cond.methodLink "LentGalleryLaw" 17 yX8_letter ∈ TB := tb_in3 (List.mem_of_getElem? (i := 173) rfl) rfl
theorem w_654 : Cond.instanceMethod yX8_letter ∈ TB := tb_in3 (List.mem_of_getElem? (i := 174) rfl) rfl
theorem w_655 : Cond.selects "LentGalleryModel" yX8_letter yX8_letter ∈ TB := tb_in3 (List.mem_of_getElem? (i := 175) rfl) rfl
theorem w_656 : Cond.code yX8_letter prog_10_method_4_code 2 (Option.some FieldType.int) ∈ TB := tb_in3 (List.mem_of_getElem? (i := 176) rfl) rfl
theorem w_657 : Cond.constantLong "LentGalleryModel" 50 (126 : Int64) ∈ TB := tb_in3 (List.mem_of_getElem? (i := 177) rfl) rfl
theorem w_658 : Cond.methodLink "LentGalleryModel" 52 yX8_in ∈ TB := tb_in3 (List.mem_of_getElem? (i := 178) rfl) rfl
theorem w_659 : Cond.static yX8_in ∈ TB := tb_in3 (List.mem_of_getElem? (i := 179) rfl) rfl
theorem w_660 : Cond.code yX8_in prog_10_method_2_code 6 (Option.some FieldType.boolean) ∈ TB := tb_in3 (List.mem_of_getElem? (i := 180) rfl) rfl
theorem w_661 : Cond.methodLink "LentGalleryLaw" 22 yX8_blank ∈ TB := tb_in3 (List.mem_of_getElem? (i := 181) rfl) rfl
theorem w_662 : Cond.instanceMethod yX8_blank ∈ TB := tb_in3 (List.mem_of_getElem? (i := 182) rfl) rfl
theorem w_663 : Cond.selects "LentGalleryModel" yX8_blank yX8_blank ∈ TB := tb_in3 (List.mem_of_getElem? (i := 183) rfl) rfl
theorem w_664 : Cond.code yX8_blank prog_10_method_5_code 2 (Option.some FieldType.int) ∈ TB := tb_in3 (List.mem_of_getElem? (i := 184) rfl) rfl
theorem w_665 : Cond.methodLink "LentGalleryLaw" 26 yX8_fault ∈ TB := tb_in3 (List.mem_of_getElem? (i := 185) rfl) rfl
theorem w_666 : Cond.instanceMethod yX8_fault ∈ TB := tb_in3 (List.mem_of_getElem? (i := 186) rfl) rfl
theorem w_667 : Cond.selects "LentGalleryModel" yX8_fault yX8_fault ∈ TB := tb_in3 (List.mem_of_getElem? (i := 187) rfl) rfl
theorem w_668 : Cond.code yX8_fault prog_10_method_8_code 1 (Option.some FieldType.int) ∈ TB := tb_in3 (List.mem_of_getElem? (i := 188) rfl) rfl
theorem w_669 : Cond.methodLink "LentGalleryModel" 65 yX8_faultOf ∈ TB := tb_in3 (List.mem_of_getElem? (i := 189) rfl) rfl
theorem w_671 : Cond.instanceMethod yX8_faultOf ∈ TB := tb_in3 (List.mem_of_getElem? (i := 191) rfl) rfl
theorem w_672 : Cond.code yX8_faultOf prog_10_method_7_code 2 (Option.some FieldType.int) ∈ TB := tb_in3 (List.mem_of_getElem? (i := 192) rfl) rfl
theorem w_673 : Cond.methodLink "LentGalleryModel" 61 yX8_isGood ∈ TB := tb_in3 (List.mem_of_getElem? (i := 193) rfl) rfl
theorem w_674 : Cond.static yX8_isGood ∈ TB := tb_in3 (List.mem_of_getElem? (i := 194) rfl) rfl
theorem w_675 : Cond.code yX8_isGood prog_10_method_6_code 3 (Option.some FieldType.boolean) ∈ TB := tb_in3 (List.mem_of_getElem? (i := 195) rfl) rfl
theorem w_676 : Cond.constantLong "LentGalleryModel" 59 (9 : Int64) ∈ TB := tb_in3 (List.mem_of_getElem? (i := 196) rfl) rfl
theorem w_677 : Cond.methodLink "LentGalleryLaw" 30 yX8_gallery ∈ TB := tb_in3 (List.mem_of_getElem? (i := 197) rfl) rfl
theorem w_678 : Cond.instanceMethod yX8_gallery ∈ TB := tb_in3 (List.mem_of_getElem? (i := 198) rfl) rfl
theorem w_679 : Cond.selects "LentGalleryModel" yX8_gallery yX8_gallery ∈ TB := tb_in3 (List.mem_of_getElem? (i := 199) rfl) rfl
theorem w_680 : Cond.code yX8_gallery prog_10_method_10_code 2 (Option.some FieldType.int) ∈ TB := tb_in3 (List.mem_of_getElem? (i := 200) rfl) rfl
theorem w_681 : Cond.methodLink "LentGalleryModel" 93 yX8_standing ∈ TB := tb_in3 (List.mem_of_getElem? (i := 201) rfl) rfl
theorem w_683 : Cond.instanceMethod yX8_standing ∈ TB := tb_in3 (List.mem_of_getElem? (i := 203) rfl) rfl
theorem w_684 : Cond.code yX8_standing prog_10_method_9_code 3 (Option.some FieldType.int) ∈ TB := tb_in3 (List.mem_of_getElem? (i := 204) rfl) rfl
theorem w_685 : Cond.methodLink "LentGalleryLaw" 35 yX8_place ∈ TB := tb_in3 (List.mem_of_getElem? (i := 205) rfl) rfl
theorem w_686 : Cond.instanceMethod yX8_place ∈ TB := tb_in3 (List.mem_of_getElem? (i := 206) rfl) rfl
theorem w_687 : Cond.selects "LentGalleryModel" yX8_place yX8_place ∈ TB := tb_in3 (List.mem_of_getElem? (i := 207) rfl) rfl
theorem w_688 : Cond.code yX8_place prog_10_method_23_code 3 (Option.some FieldType.int) ∈ TB := tb_in3 (List.mem_of_getElem? (i := 208) rfl) rfl
theorem w_689 : Cond.methodLink "LentGalleryModel" 133 yX8_isPlace ∈ TB := tb_in3 (List.mem_of_getElem? (i := 209) rfl) rfl
theorem w_691 : Cond.instanceMethod yX8_isPlace ∈ TB := tb_in3 (List.mem_of_getElem? (i := 211) rfl) rfl
theorem w_692 : Cond.code yX8_isPlace prog_10_method_12_code 2 (Option.some FieldType.boolean) ∈ TB := tb_in3 (List.mem_of_getElem? (i := 212) rfl) rfl
theorem w_693 : Cond.methodLink "LentGalleryModel" 96 yX8_lacks ∈ TB := tb_in3 (List.mem_of_getElem? (i := 213) rfl) rfl
theorem w_695 : Cond.instanceMethod yX8_lacks ∈ TB := tb_in3 (List.mem_of_getElem? (i := 215) rfl) rfl
theorem w_696 : Cond.code yX8_lacks prog_10_method_11_code 1 (Option.some FieldType.boolean) ∈ TB := tb_in3 (List.mem_of_getElem? (i := 216) rfl) rfl
theorem w_697 : Cond.constantLong "LentGalleryModel" 100 (5 : Int64) ∈ TB := tb_in3 (List.mem_of_getElem? (i := 217) rfl) rfl
theorem w_698 : Cond.methodLink "LentGalleryModel" 137 yX8_tellPlace ∈ TB := tb_in3 (List.mem_of_getElem? (i := 218) rfl) rfl
theorem w_700 : Cond.instanceMethod yX8_tellPlace ∈ TB := tb_in3 (List.mem_of_getElem? (i := 220) rfl) rfl
theorem w_701 : Cond.code yX8_tellPlace prog_10_method_22_code 3 (Option.some FieldType.int) ∈ TB := tb_in3 (List.mem_of_getElem? (i := 221) rfl) rfl
theorem w_702 : Cond.methodLink "LentGalleryModel" 121 yX8_asItIs ∈ TB := tb_in3 (List.mem_of_getElem? (i := 222) rfl) rfl
theorem w_704 : Cond.instanceMethod yX8_asItIs ∈ TB := tb_in3 (List.mem_of_getElem? (i := 224) rfl) rfl
theorem w_705 : Cond.code yX8_asItIs prog_10_method_16_code 2 none ∈ TB := tb_in3 (List.mem_of_getElem? (i := 225) rfl) rfl
theorem w_706 : Cond.methodLink "LentGalleryModel" 102 yX8_copy ∈ TB := tb_in3 (List.mem_of_getElem? (i := 226) rfl) rfl
theorem w_707 : Cond.static yX8_copy ∈ TB := tb_in3 (List.mem_of_getElem? (i := 227) rfl) rfl
theorem w_708 : Cond.code yX8_copy prog_10_method_3_code 3 none ∈ TB := tb_in3 (List.mem_of_getElem? (i := 228) rfl) rfl
theorem w_709 : Cond.methodLink "LentGalleryModel" 110 yX8_weightIn ∈ TB := tb_in3 (List.mem_of_getElem? (i := 229) rfl) rfl
theorem w_711 : Cond.instanceMethod yX8_weightIn ∈ TB := tb_in3 (List.mem_of_getElem? (i := 231) rfl) rfl
theorem w_712 : Cond.code yX8_weightIn prog_10_method_17_code 4 (Option.some FieldType.int) ∈ TB := tb_in3 (List.mem_of_getElem? (i := 232) rfl) rfl
theorem w_713 : Cond.methodLink "LentGalleryModel" 106 yX8_weightBy ∈ TB := tb_in3 (List.mem_of_getElem? (i := 233) rfl) rfl
theorem w_714 : Cond.static yX8_weightBy ∈ TB := tb_in3 (List.mem_of_getElem? (i := 234) rfl) rfl
theorem w_715 : Cond.code yX8_weightBy prog_10_method_14_code 1 (Option.some FieldType.int) ∈ TB := tb_in3 (List.mem_of_getElem? (i := 235) rfl) rfl
theorem w_716 : Cond.methodLink "LentGalleryModel" 124 yX8_whoIn ∈ TB := tb_in3 (List.mem_of_getElem? (i := 236) rfl) rfl
theorem w_718 : Cond.instanceMethod yX8_whoIn ∈ TB := tb_in3 (List.mem_of_getElem? (i := 238) rfl) rfl
theorem w_719 : Cond.code yX8_whoIn prog_10_method_21_code 4 (Option.some FieldType.int) ∈ TB := tb_in3 (List.mem_of_getElem? (i := 239) rfl) rfl
theorem w_720 : Cond.methodLink "LentGalleryModel" 117 yX8_lessOf ∈ TB := tb_in4 (List.mem_of_getElem? (i := 0) rfl) rfl
theorem w_722 : Cond.instanceMethod yX8_lessOf ∈ TB := tb_in4 (List.mem_of_getElem? (i := 2) rfl) rfl
theorem w_723 : Cond.code yX8_lessOf prog_10_method_19_code 3 (Option.some FieldType.int) ∈ TB := tb_in4 (List.mem_of_getElem? (i := 3) rfl) rfl
theorem w_724 : Cond.methodLink "LentGalleryModel" 113 yX8_hasFallen ∈ TB := tb_in4 (List.mem_of_getElem? (i := 4) rfl) rfl
theorem w_725 : Cond.static yX8_hasFallen ∈ TB := tb_in4 (List.mem_of_getElem? (i := 5) rfl) rfl
theorem w_726 : Cond.code yX8_hasFallen prog_10_method_18_code 2 (Option.some FieldType.boolean) ∈ TB := tb_in4 (List.mem_of_getElem? (i := 6) rfl) rfl
theorem w_727 : Cond.methodLink "LentGalleryModel" 127 yX8_strongOf ∈ TB := tb_in4 (List.mem_of_getElem? (i := 7) rfl) rfl
theorem w_729 : Cond.instanceMethod yX8_strongOf ∈ TB := tb_in4 (List.mem_of_getElem? (i := 9) rfl) rfl
theorem w_730 : Cond.code yX8_strongOf prog_10_method_47_code 4 (Option.some FieldType.int) ∈ TB := tb_in4 (List.mem_of_getElem? (i := 10) rfl) rfl
theorem w_731 : Cond.methodLink "LentGalleryModel" 193 yX8_isKnocked ∈ TB := tb_in4 (List.mem_of_getElem? (i := 11) rfl) rfl
theorem w_733 : Cond.instanceMethod yX8_isKnocked ∈ TB := tb_in4 (List.mem_of_getElem? (i := 13) rfl) rfl
theorem w_734 : Cond.code yX8_isKnocked prog_10_method_46_code 7 (Option.some FieldType.boolean) ∈ TB := tb_in4 (List.mem_of_getElem? (i := 14) rfl) rfl
theorem w_735 : Cond.methodLink "LentGalleryModel" 158 yX8_goesBy ∈ TB := tb_in4 (List.mem_of_getElem? (i := 15) rfl) rfl
theorem w_737 : Cond.instanceMethod yX8_goesBy ∈ TB := tb_in4 (List.mem_of_getElem? (i := 17) rfl) rfl
theorem w_738 : Cond.code yX8_goesBy prog_10_method_20_code 4 (Option.some FieldType.int) ∈ TB := tb_in4 (List.mem_of_getElem? (i := 18) rfl) rfl
theorem w_739 : Cond.methodLink "LentGalleryModel" 130 yX8_knockOf ∈ TB := tb_in4 (List.mem_of_getElem? (i := 19) rfl) rfl
theorem w_741 : Cond.instanceMethod yX8_knockOf ∈ TB := tb_in4 (List.mem_of_getElem? (i := 21) rfl) rfl
theorem w_742 : Cond.code yX8_knockOf prog_10_method_48_code 8 (Option.some FieldType.int) ∈ TB := tb_in4 (List.mem_of_getElem? (i := 22) rfl) rfl
theorem w_743 : Cond.methodLink "LentGalleryLaw" 39 yX8_prop ∈ TB := tb_in4 (List.mem_of_getElem? (i := 23) rfl) rfl
theorem w_744 : Cond.instanceMethod yX8_prop ∈ TB := tb_in4 (List.mem_of_getElem? (i := 24) rfl) rfl
theorem w_745 : Cond.selects "LentGalleryModel" yX8_prop yX8_prop ∈ TB := tb_in4 (List.mem_of_getElem? (i := 25) rfl) rfl
theorem w_746 : Cond.code yX8_prop prog_10_method_24_code 2 (Option.some FieldType.int) ∈ TB := tb_in4 (List.mem_of_getElem? (i := 26) rfl) rfl
theorem w_747 : Cond.methodLink "LentGalleryLaw" 43 yX8_tenant ∈ TB := tb_in4 (List.mem_of_getElem? (i := 27) rfl) rfl
theorem w_748 : Cond.instanceMethod yX8_tenant ∈ TB := tb_in4 (List.mem_of_getElem? (i := 28) rfl) rfl
theorem w_749 : Cond.selects "LentGalleryModel" yX8_tenant yX8_tenant ∈ TB := tb_in4 (List.mem_of_getElem? (i := 29) rfl) rfl
theorem w_750 : Cond.code yX8_tenant prog_10_method_25_code 3 (Option.some FieldType.int) ∈ TB := tb_in4 (List.mem_of_getElem? (i := 30) rfl) rfl
theorem w_751 : Cond.constantLong "LentGalleryModel" 141 (4 : Int64) ∈ TB := tb_in4 (List.mem_of_getElem? (i := 31) rfl) rfl
theorem w_752 : Cond.methodLink "LentGalleryLaw" 47 yX8_about ∈ TB := tb_in4 (List.mem_of_getElem? (i := 32) rfl) rfl
theorem w_753 : Cond.instanceMethod yX8_about ∈ TB := tb_in4 (List.mem_of_getElem? (i := 33) rfl) rfl
theorem w_754 : Cond.selects "LentGalleryModel" yX8_about yX8_about ∈ TB := tb_in4 (List.mem_of_getElem? (i := 34) rfl) rfl
theorem w_755 : Cond.code yX8_about prog_10_method_29_code 3 (Option.some FieldType.int) ∈ TB := tb_in4 (List.mem_of_getElem? (i := 35) rfl) rfl
theorem w_756 : Cond.methodLink "LentGalleryModel" 152 yX8_isTenant ∈ TB := tb_in4 (List.mem_of_getElem? (i := 36) rfl) rfl
theorem w_758 : Cond.instanceMethod yX8_isTenant ∈ TB := tb_in4 (List.mem_of_getElem? (i := 38) rfl) rfl
theorem w_759 : Cond.code yX8_isTenant prog_10_method_13_code 2 (Option.some FieldType.boolean) ∈ TB := tb_in4 (List.mem_of_getElem? (i := 39) rfl) rfl
theorem w_760 : Cond.methodLink "LentGalleryModel" 155 yX8_tell ∈ TB := tb_in4 (List.mem_of_getElem? (i := 40) rfl) rfl
theorem w_762 : Cond.instanceMethod yX8_tell ∈ TB := tb_in4 (List.mem_of_getElem? (i := 42) rfl) rfl
theorem w_763 : Cond.code yX8_tell prog_10_method_28_code 3 (Option.some FieldType.int) ∈ TB := tb_in4 (List.mem_of_getElem? (i := 43) rfl) rfl
theorem w_764 : Cond.methodLink "LentGalleryModel" 143 yX8_breathBy ∈ TB := tb_in4 (List.mem_of_getElem? (i := 44) rfl) rfl
theorem w_765 : Cond.static yX8_breathBy ∈ TB := tb_in4 (List.mem_of_getElem? (i := 45) rfl) rfl
theorem w_766 : Cond.code yX8_breathBy prog_10_method_15_code 1 (Option.some FieldType.int) ∈ TB := tb_in4 (List.mem_of_getElem? (i := 46) rfl) rfl
theorem w_767 : Cond.methodLink "LentGalleryModel" 146 yX8_isCutOff ∈ TB := tb_in4 (List.mem_of_getElem? (i := 47) rfl) rfl
theorem w_769 : Cond.instanceMethod yX8_isCutOff ∈ TB := tb_in4 (List.mem_of_getElem? (i := 49) rfl) rfl
theorem w_770 : Cond.code yX8_isCutOff prog_10_method_26_code 4 (Option.some FieldType.boolean) ∈ TB := tb_in4 (List.mem_of_getElem? (i := 50) rfl) rfl
theorem w_771 : Cond.methodLink "LentGalleryModel" 149 yX8_gasping ∈ TB := tb_in4 (List.mem_of_getElem? (i := 51) rfl) rfl
theorem w_773 : Cond.instanceMethod yX8_gasping ∈ TB := tb_in4 (List.mem_of_getElem? (i := 53) rfl) rfl
theorem w_774 : Cond.code yX8_gasping prog_10_method_27_code 7 (Option.some FieldType.int) ∈ TB := tb_in4 (List.mem_of_getElem? (i := 54) rfl) rfl
theorem w_775 : Cond.methodLink "LentGalleryLaw" 51 yX8_as ∈ TB := tb_in4 (List.mem_of_getElem? (i := 55) rfl) rfl
theorem w_776 : Cond.instanceMethod yX8_as ∈ TB := tb_in4 (List.mem_of_getElem? (i := 56) rfl) rfl
theorem w_777 : Cond.selects "LentGalleryModel" yX8_as yX8_as ∈ TB := tb_in4 (List.mem_of_getElem? (i := 57) rfl) rfl
theorem w_778 : Cond.code yX8_as prog_10_method_30_code 5 (Option.some FieldType.int) ∈ TB := tb_in4 (List.mem_of_getElem? (i := 58) rfl) rfl
theorem w_779 : Cond.methodLink "LentGalleryLaw" 55 yX8_move ∈ TB := tb_in4 (List.mem_of_getElem? (i := 59) rfl) rfl
theorem w_780 : Cond.instanceMethod yX8_move ∈ TB := tb_in4 (List.mem_of_getElem? (i := 60) rfl) rfl
theorem w_781 : Cond.selects "LentGalleryModel" yX8_move yX8_move ∈ TB := tb_in4 (List.mem_of_getElem? (i := 61) rfl) rfl
theorem w_782 : Cond.code yX8_move prog_10_method_31_code 3 (Option.some FieldType.int) ∈ TB := tb_in4 (List.mem_of_getElem? (i := 62) rfl) rfl
theorem w_783 : Cond.methodLink "LentGalleryLaw" 59 yX8_day ∈ TB := tb_in4 (List.mem_of_getElem? (i := 63) rfl) rfl
theorem w_784 : Cond.instanceMethod yX8_day ∈ TB := tb_in4 (List.mem_of_getElem? (i := 64) rfl) rfl
theorem w_785 : Cond.selects "LentGalleryModel" yX8_day yX8_day ∈ TB := tb_in4 (List.mem_of_getElem? (i := 65) rfl) rfl
theorem w_786 : Cond.code yX8_day prog_10_method_32_code 2 (Option.some FieldType.int) ∈ TB := tb_in4 (List.mem_of_getElem? (i := 66) rfl) rfl
theorem w_787 : Cond.methodLink "LentGalleryLaw" 63 yX8_holds ∈ TB := tb_in4 (List.mem_of_getElem? (i := 67) rfl) rfl
theorem w_788 : Cond.instanceMethod yX8_holds ∈ TB := tb_in4 (List.mem_of_getElem? (i := 68) rfl) rfl
theorem w_789 : Cond.selects "LentGalleryModel" yX8_holds yX8_holds ∈ TB := tb_in4 (List.mem_of_getElem? (i := 69) rfl) rfl
theorem w_790 : Cond.code yX8_holds prog_10_method_35_code 1 (Option.some FieldType.int) ∈ TB := tb_in4 (List.mem_of_getElem? (i := 70) rfl) rfl
theorem w_791 : Cond.methodLink "LentGalleryModel" 164 yX8_holdsOf ∈ TB := tb_in4 (List.mem_of_getElem? (i := 71) rfl) rfl
theorem w_793 : Cond.instanceMethod yX8_holdsOf ∈ TB := tb_in4 (List.mem_of_getElem? (i := 73) rfl) rfl
theorem w_794 : Cond.code yX8_holdsOf prog_10_method_34_code 2 (Option.some FieldType.int) ∈ TB := tb_in4 (List.mem_of_getElem? (i := 74) rfl) rfl
theorem w_795 : Cond.methodLink "LentGalleryModel" 161 yX8_holdsThen ∈ TB := tb_in4 (List.mem_of_getElem? (i := 75) rfl) rfl
theorem w_797 : Cond.instanceMethod yX8_holdsThen ∈ TB := tb_in4 (List.mem_of_getElem? (i := 77) rfl) rfl
theorem w_798 : Cond.code yX8_holdsThen prog_10_method_33_code 2 (Option.some FieldType.int) ∈ TB := tb_in4 (List.mem_of_getElem? (i := 78) rfl) rfl
theorem w_799 : Cond.methodLink "LentGalleryLaw" 67 yX8_where ∈ TB := tb_in4 (List.mem_of_getElem? (i := 79) rfl) rfl
theorem w_800 : Cond.instanceMethod yX8_where ∈ TB := tb_in4 (List.mem_of_getElem? (i := 80) rfl) rfl
theorem w_801 : Cond.selects "LentGalleryModel" yX8_where yX8_where ∈ TB := tb_in4 (List.mem_of_getElem? (i := 81) rfl) rfl
theorem w_802 : Cond.code yX8_where prog_10_method_38_code 3 (Option.some FieldType.int) ∈ TB := tb_in4 (List.mem_of_getElem? (i := 82) rfl) rfl
theorem w_803 : Cond.constantLong "LentGalleryModel" 170 (10 : Int64) ∈ TB := tb_in4 (List.mem_of_getElem? (i := 83) rfl) rfl
theorem w_804 : Cond.constantLong "LentGalleryModel" 172 (14 : Int64) ∈ TB := tb_in4 (List.mem_of_getElem? (i := 84) rfl) rfl
theorem w_805 : Cond.methodLink "LentGalleryModel" 177 yX8_layWhere ∈ TB := tb_in4 (List.mem_of_getElem? (i := 85) rfl) rfl
theorem w_807 : Cond.instanceMethod yX8_layWhere ∈ TB := tb_in4 (List.mem_of_getElem? (i := 87) rfl) rfl
theorem w_808 : Cond.code yX8_layWhere prog_10_method_36_code 8 (Option.some FieldType.int) ∈ TB := tb_in4 (List.mem_of_getElem? (i := 88) rfl) rfl
theorem w_809 : Cond.methodLink "LentGalleryModel" 167 yX8_power ∈ TB := tb_in4 (List.mem_of_getElem? (i := 89) rfl) rfl
theorem w_810 : Cond.static yX8_power ∈ TB := tb_in4 (List.mem_of_getElem? (i := 90) rfl) rfl
theorem w_811 : Cond.code yX8_power prog_10_method_37_code 3 (Option.some FieldType.int) ∈ TB := tb_in4 (List.mem_of_getElem? (i := 91) rfl) rfl
theorem w_812 : Cond.methodLink "LentGalleryLaw" 71 yX8_props ∈ TB := tb_in4 (List.mem_of_getElem? (i := 92) rfl) rfl
theorem w_813 : Cond.instanceMethod yX8_props ∈ TB := tb_in4 (List.mem_of_getElem? (i := 93) rfl) rfl
theorem w_814 : Cond.selects "LentGalleryModel" yX8_props yX8_props ∈ TB := tb_in4 (List.mem_of_getElem? (i := 94) rfl) rfl
theorem w_815 : Cond.code yX8_props prog_10_method_41_code 3 (Option.some FieldType.int) ∈ TB := tb_in4 (List.mem_of_getElem? (i := 95) rfl) rfl
theorem w_816 : Cond.constantLong "LentGalleryModel" 183 (20 : Int64) ∈ TB := tb_in4 (List.mem_of_getElem? (i := 96) rfl) rfl
theorem w_817 : Cond.constantLong "LentGalleryModel" 185 (15 : Int64) ∈ TB := tb_in4 (List.mem_of_getElem? (i := 97) rfl) rfl
theorem w_818 : Cond.methodLink "LentGalleryModel" 187 yX8_propsOf ∈ TB := tb_in4 (List.mem_of_getElem? (i := 98) rfl) rfl
theorem w_820 : Cond.instanceMethod yX8_propsOf ∈ TB := tb_in4 (List.mem_of_getElem? (i := 100) rfl) rfl
theorem w_821 : Cond.code yX8_propsOf prog_10_method_40_code 7 (Option.some FieldType.int) ∈ TB := tb_in4 (List.mem_of_getElem? (i := 101) rfl) rfl
theorem w_822 : Cond.methodLink "LentGalleryModel" 180 yX8_propsIn ∈ TB := tb_in4 (List.mem_of_getElem? (i := 102) rfl) rfl
theorem w_824 : Cond.instanceMethod yX8_propsIn ∈ TB := tb_in4 (List.mem_of_getElem? (i := 104) rfl) rfl
theorem w_825 : Cond.code yX8_propsIn prog_10_method_39_code 4 (Option.some FieldType.int) ∈ TB := tb_in4 (List.mem_of_getElem? (i := 105) rfl) rfl
theorem w_826 : Cond.methodLink "LentGalleryLaw" 75 yX8_out ∈ TB := tb_in4 (List.mem_of_getElem? (i := 106) rfl) rfl
theorem w_827 : Cond.instanceMethod yX8_out ∈ TB := tb_in4 (List.mem_of_getElem? (i := 107) rfl) rfl
theorem w_828 : Cond.selects "LentGalleryModel" yX8_out yX8_out ∈ TB := tb_in4 (List.mem_of_getElem? (i := 108) rfl) rfl
theorem w_829 : Cond.code yX8_out prog_10_method_43_code 1 (Option.some FieldType.int) ∈ TB := tb_in4 (List.mem_of_getElem? (i := 109) rfl) rfl
theorem w_830 : Cond.methodLink "LentGalleryModel" 190 yX8_outOf ∈ TB := tb_in4 (List.mem_of_getElem? (i := 110) rfl) rfl
theorem w_832 : Cond.instanceMethod yX8_outOf ∈ TB := tb_in4 (List.mem_of_getElem? (i := 112) rfl) rfl
theorem w_833 : Cond.code yX8_outOf prog_10_method_42_code 6 (Option.some FieldType.int) ∈ TB := tb_in4 (List.mem_of_getElem? (i := 113) rfl) rfl
theorem w_834 : Cond.methodLink "LentGalleryLaw" 80 yX8_knock ∈ TB := tb_in4 (List.mem_of_getElem? (i := 114) rfl) rfl
theorem w_835 : Cond.instanceMethod yX8_knock ∈ TB := tb_in4 (List.mem_of_getElem? (i := 115) rfl) rfl
theorem w_836 : Cond.selects "LentGalleryModel" yX8_knock yX8_knock ∈ TB := tb_in4 (List.mem_of_getElem? (i := 116) rfl) rfl
theorem w_837 : Cond.code yX8_knock prog_10_method_44_code 4 (Option.some FieldType.int) ∈ TB := tb_in4 (List.mem_of_getElem? (i := 117) rfl) rfl
theorem w_838 : Cond.methodLink "LentGalleryLaw" 84 yX8_forget ∈ TB := tb_in4 (List.mem_of_getElem? (i := 118) rfl) rfl
theorem w_839 : Cond.instanceMethod yX8_forget ∈ TB := tb_in4 (List.mem_of_getElem? (i := 119) rfl) rfl
theorem w_840 : Cond.selects "LentGalleryModel" yX8_forget yX8_forget ∈ TB := tb_in4 (List.mem_of_getElem? (i := 120) rfl) rfl
theorem w_841 : Cond.code yX8_forget prog_10_method_45_code 2 (Option.some FieldType.int) ∈ TB := tb_in4 (List.mem_of_getElem? (i := 121) rfl) rfl
theorem w_842 : Cond.methodLink "LentGalleryLaw" 89 yX8_years ∈ TB := tb_in4 (List.mem_of_getElem? (i := 122) rfl) rfl
theorem w_843 : Cond.instanceMethod yX8_years ∈ TB := tb_in4 (List.mem_of_getElem? (i := 123) rfl) rfl
theorem w_844 : Cond.selects "LentGalleryModel" yX8_years yX8_years ∈ TB := tb_in4 (List.mem_of_getElem? (i := 124) rfl) rfl
theorem w_845 : Cond.code yX8_years prog_10_method_50_code 8 (Option.some FieldType.int) ∈ TB := tb_in4 (List.mem_of_getElem? (i := 125) rfl) rfl
theorem w_846 : Cond.constantLong "LentGalleryModel" 206 (60 : Int64) ∈ TB := tb_in4 (List.mem_of_getElem? (i := 126) rfl) rfl
theorem w_847 : Cond.constantLong "LentGalleryModel" 208 (2 : Int64) ∈ TB := tb_in4 (List.mem_of_getElem? (i := 127) rfl) rfl
theorem w_848 : Cond.methodLink "LentGalleryModel" 210 yX8_draw ∈ TB := tb_in4 (List.mem_of_getElem? (i := 128) rfl) rfl
theorem w_850 : Cond.instanceMethod yX8_draw ∈ TB := tb_in4 (List.mem_of_getElem? (i := 130) rfl) rfl
theorem w_851 : Cond.code yX8_draw prog_10_method_49_code 2 (Option.some FieldType.int) ∈ TB := tb_in4 (List.mem_of_getElem? (i := 131) rfl) rfl
theorem w_852 : Cond.constantLong "LentGalleryModel" 196 (1103515245 : Int64) ∈ TB := tb_in4 (List.mem_of_getElem? (i := 132) rfl) rfl
theorem w_853 : Cond.constantLong "LentGalleryModel" 201 (12345 : Int64) ∈ TB := tb_in4 (List.mem_of_getElem? (i := 133) rfl) rfl
theorem w_854 : Cond.constantLong "LentGalleryModel" 203 (2147483647 : Int64) ∈ TB := tb_in4 (List.mem_of_getElem? (i := 134) rfl) rfl
theorem w_855 : Cond.constant "LentGalleryModel" 205 (65536 : Int32) ∈ TB := tb_in4 (List.mem_of_getElem? (i := 135) rfl) rfl
theorem w_856 : Cond.methodLink "LentGalleryLaw" 93 yX8_image ∈ TB := tb_in4 (List.mem_of_getElem? (i := 136) rfl) rfl
theorem w_857 : Cond.instanceMethod yX8_image ∈ TB := tb_in4 (List.mem_of_getElem? (i := 137) rfl) rfl
theorem w_858 : Cond.selects "LentGalleryModel" yX8_image yX8_image ∈ TB := tb_in4 (List.mem_of_getElem? (i := 138) rfl) rfl
theorem w_859 : Cond.code yX8_image prog_10_method_51_code 1 (Option.some FieldType.int) ∈ TB := tb_in4 (List.mem_of_getElem? (i := 139) rfl) rfl
theorem w_860 : Cond.methodLink "LentGalleryLaw" 97 yX8_restore ∈ TB := tb_in4 (List.mem_of_getElem? (i := 140) rfl) rfl
theorem w_861 : Cond.instanceMethod yX8_restore ∈ TB := tb_in4 (List.mem_of_getElem? (i := 141) rfl) rfl
theorem w_862 : Cond.selects "LentGalleryModel" yX8_restore yX8_restore ∈ TB := tb_in4 (List.mem_of_getElem? (i := 142) rfl) rfl
theorem w_863 : Cond.code yX8_restore prog_10_method_52_code 1 (Option.some FieldType.int) ∈ TB := tb_in4 (List.mem_of_getElem? (i := 143) rfl) rfl
theorem w_864 : Cond.methodLink "LentGalleryLaw" 101 yX8_count ∈ TB := tb_in4 (List.mem_of_getElem? (i := 144) rfl) rfl
theorem w_865 : Cond.instanceMethod yX8_count ∈ TB := tb_in4 (List.mem_of_getElem? (i := 145) rfl) rfl
theorem w_866 : Cond.selects "LentGalleryModel" yX8_count yX8_count ∈ TB := tb_in4 (List.mem_of_getElem? (i := 146) rfl) rfl
theorem w_867 : Cond.code yX8_count prog_10_method_55_code 2 (Option.some FieldType.int) ∈ TB := tb_in4 (List.mem_of_getElem? (i := 147) rfl) rfl
theorem w_868 : Cond.methodLink "LentGalleryModel" 231 yX8_countOf ∈ TB := tb_in4 (List.mem_of_getElem? (i := 148) rfl) rfl
theorem w_870 : Cond.instanceMethod yX8_countOf ∈ TB := tb_in4 (List.mem_of_getElem? (i := 150) rfl) rfl
theorem w_871 : Cond.code yX8_countOf prog_10_method_54_code 2 (Option.some FieldType.int) ∈ TB := tb_in4 (List.mem_of_getElem? (i := 151) rfl) rfl
theorem w_872 : Cond.methodLink "LentGalleryModel" 228 yX8_sumBy ∈ TB := tb_in4 (List.mem_of_getElem? (i := 152) rfl) rfl
theorem w_874 : Cond.instanceMethod yX8_sumBy ∈ TB := tb_in4 (List.mem_of_getElem? (i := 154) rfl) rfl
theorem w_875 : Cond.code yX8_sumBy prog_10_method_53_code 4 (Option.some FieldType.int) ∈ TB := tb_in4 (List.mem_of_getElem? (i := 155) rfl) rfl
theorem w_876 : Cond.methodLink "LentGalleryLaw" 106 yX8_digest ∈ TB := tb_in4 (List.mem_of_getElem? (i := 156) rfl) rfl
theorem w_877 : Cond.instanceMethod yX8_digest ∈ TB := tb_in4 (List.mem_of_getElem? (i := 157) rfl) rfl
theorem w_878 : Cond.selects "LentGalleryModel" yX8_digest yX8_digest ∈ TB := tb_in4 (List.mem_of_getElem? (i := 158) rfl) rfl
theorem w_879 : Cond.code yX8_digest prog_10_method_58_code 3 (Option.some FieldType.long) ∈ TB := tb_in4 (List.mem_of_getElem? (i := 159) rfl) rfl
theorem w_880 : Cond.constantLong "LentGalleryModel" 244 (919 : Int64) ∈ TB := tb_in4 (List.mem_of_getElem? (i := 160) rfl) rfl
theorem w_881 : Cond.methodLink "LentGalleryModel" 240 yX8_say ∈ TB := tb_in4 (List.mem_of_getElem? (i := 161) rfl) rfl
theorem w_883 : Cond.instanceMethod yX8_say ∈ TB := tb_in4 (List.mem_of_getElem? (i := 163) rfl) rfl
theorem w_884 : Cond.code yX8_say prog_10_method_56_code 3 none ∈ TB := tb_in4 (List.mem_of_getElem? (i := 164) rfl) rfl
theorem w_885 : Cond.constantLong "LentGalleryModel" 234 (31 : Int64) ∈ TB := tb_in4 (List.mem_of_getElem? (i := 165) rfl) rfl
theorem w_886 : Cond.methodLink "LentGalleryModel" 246 yX8_sayGallery ∈ TB := tb_in4 (List.mem_of_getElem? (i := 166) rfl) rfl
theorem w_888 : Cond.instanceMethod yX8_sayGallery ∈ TB := tb_in4 (List.mem_of_getElem? (i := 168) rfl) rfl
theorem w_889 : Cond.code yX8_sayGallery prog_10_method_57_code 2 none ∈ TB := tb_in4 (List.mem_of_getElem? (i := 169) rfl) rfl
theorem v_0 : Cond.selects "LentGallery" yX7_isPlace yX7_isPlace ∈ TB := tb_sel (List.mem_of_getElem? (i := 0) rfl) rfl
theorem v_1 : Cond.selects "LentGallery$Sounding" yX5_liveDays yX5_liveDays ∈ TB := tb_sel (List.mem_of_getElem? (i := 1) rfl) rfl
theorem v_2 : Cond.selects "LentGallery$Sounding" yX5_leftAtWorst yX5_leftAtWorst ∈ TB := tb_sel (List.mem_of_getElem? (i := 2) rfl) rfl
theorem v_3 : Cond.selects "LentGallery" yX7_isTenant yX7_isTenant ∈ TB := tb_sel (List.mem_of_getElem? (i := 3) rfl) rfl
theorem v_4 : Cond.selects "LentGallery$Street" yX6_isHere yX6_isHere ∈ TB := tb_sel (List.mem_of_getElem? (i := 4) rfl) rfl
theorem v_5 : Cond.selects "LentGallery$Settling" yX4_keep yX4_keep ∈ TB := tb_sel (List.mem_of_getElem? (i := 5) rfl) rfl
theorem v_6 : Cond.selects "LentGallery$Street" yX6_comersFrom yX6_comersFrom ∈ TB := tb_sel (List.mem_of_getElem? (i := 6) rfl) rfl
theorem v_7 : Cond.selects "LentGallery" yX7_mixPlaces yX7_mixPlaces ∈ TB := tb_sel (List.mem_of_getElem? (i := 7) rfl) rfl
theorem v_8 : Cond.selects "LentGallery" yX7_mixWouldBe yX7_mixWouldBe ∈ TB := tb_sel (List.mem_of_getElem? (i := 8) rfl) rfl
theorem v_9 : Cond.selects "LentGalleryModel" yX8_faultOf yX8_faultOf ∈ TB := tb_sel (List.mem_of_getElem? (i := 9) rfl) rfl
theorem v_10 : Cond.selects "LentGalleryModel" yX8_standing yX8_standing ∈ TB := tb_sel (List.mem_of_getElem? (i := 10) rfl) rfl
theorem v_11 : Cond.selects "LentGalleryModel" yX8_isPlace yX8_isPlace ∈ TB := tb_sel (List.mem_of_getElem? (i := 11) rfl) rfl
theorem v_12 : Cond.selects "LentGalleryModel" yX8_lacks yX8_lacks ∈ TB := tb_sel (List.mem_of_getElem? (i := 12) rfl) rfl
theorem v_13 : Cond.selects "LentGalleryModel" yX8_tellPlace yX8_tellPlace ∈ TB := tb_sel (List.mem_of_getElem? (i := 13) rfl) rfl
theorem v_14 : Cond.selects "LentGalleryModel" yX8_asItIs yX8_asItIs ∈ TB := tb_sel (List.mem_of_getElem? (i := 14) rfl) rfl
theorem v_15 : Cond.selects "LentGalleryModel" yX8_weightIn yX8_weightIn ∈ TB := tb_sel (List.mem_of_getElem? (i := 15) rfl) rfl
theorem v_16 : Cond.selects "LentGalleryModel" yX8_whoIn yX8_whoIn ∈ TB := tb_sel (List.mem_of_getElem? (i := 16) rfl) rfl
theorem v_17 : Cond.selects "LentGalleryModel" yX8_lessOf yX8_lessOf ∈ TB := tb_sel (List.mem_of_getElem? (i := 17) rfl) rfl
theorem v_18 : Cond.selects "LentGalleryModel" yX8_strongOf yX8_strongOf ∈ TB := tb_sel (List.mem_of_getElem? (i := 18) rfl) rfl
theorem v_19 : Cond.selects "LentGalleryModel" yX8_isKnocked yX8_isKnocked ∈ TB := tb_sel (List.mem_of_getElem? (i := 19) rfl) rfl
theorem v_20 : Cond.selects "LentGalleryModel" yX8_goesBy yX8_goesBy ∈ TB := tb_sel (List.mem_of_getElem? (i := 20) rfl) rfl
theorem v_21 : Cond.selects "LentGalleryModel" yX8_knockOf yX8_knockOf ∈ TB := tb_sel (List.mem_of_getElem? (i := 21) rfl) rfl
theorem v_22 : Cond.selects "LentGalleryModel" yX8_isTenant yX8_isTenant ∈ TB := tb_sel (List.mem_of_getElem? (i := 22) rfl) rfl
theorem v_23 : Cond.selects "LentGalleryModel" yX8_tell yX8_tell ∈ TB := tb_sel (List.mem_of_getElem? (i := 23) rfl) rfl
theorem v_24 : Cond.selects "LentGalleryModel" yX8_isCutOff yX8_isCutOff ∈ TB := tb_sel (List.mem_of_getElem? (i := 24) rfl) rfl
theorem v_25 : Cond.selects "LentGalleryModel" yX8_gasping yX8_gasping ∈ TB := tb_sel (List.mem_of_getElem? (i := 25) rfl) rfl
theorem v_26 : Cond.selects "LentGalleryModel" yX8_holdsOf yX8_holdsOf ∈ TB := tb_sel (List.mem_of_getElem? (i := 26) rfl) rfl
theorem v_27 : Cond.selects "LentGalleryModel" yX8_holdsThen yX8_holdsThen ∈ TB := tb_sel (List.mem_of_getElem? (i := 27) rfl) rfl
theorem v_28 : Cond.selects "LentGalleryModel" yX8_layWhere yX8_layWhere ∈ TB := tb_sel (List.mem_of_getElem? (i := 28) rfl) rfl
theorem v_29 : Cond.selects "LentGalleryModel" yX8_propsOf yX8_propsOf ∈ TB := tb_sel (List.mem_of_getElem? (i := 29) rfl) rfl
theorem v_30 : Cond.selects "LentGalleryModel" yX8_propsIn yX8_propsIn ∈ TB := tb_sel (List.mem_of_getElem? (i := 30) rfl) rfl
theorem v_31 : Cond.selects "LentGalleryModel" yX8_outOf yX8_outOf ∈ TB := tb_sel (List.mem_of_getElem? (i := 31) rfl) rfl
theorem v_32 : Cond.selects "LentGalleryModel" yX8_draw yX8_draw ∈ TB := tb_sel (List.mem_of_getElem? (i := 32) rfl) rfl
theorem v_33 : Cond.selects "LentGalleryModel" yX8_countOf yX8_countOf ∈ TB := tb_sel (List.mem_of_getElem? (i := 33) rfl) rfl
theorem v_34 : Cond.selects "LentGalleryModel" yX8_sumBy yX8_sumBy ∈ TB := tb_sel (List.mem_of_getElem? (i := 34) rfl) rfl
theorem v_35 : Cond.selects "LentGalleryModel" yX8_say yX8_say ∈ TB := tb_sel (List.mem_of_getElem? (i := 35) rfl) rfl
theorem v_36 : Cond.selects "LentGalleryModel" yX8_sayGallery yX8_sayGallery ∈ TB := tb_sel (List.mem_of_getElem? (i := 36) rfl) rfl
end
section
theorem dX0_init_0 : decode cX0_init 0 = .ok (.aload_n 0, 1) := by decide +kernel
theorem dX0_init_1 : decode cX0_init 1 = .ok (.invokespecial 1, 3) := by decide +kernel
theorem dX0_init_4 : decode cX0_init 4 = .ok (.return_, 1) := by decide +kernel
theorem dX0_below_0 : decode cX0_below 0 = .ok (.aload_n 0, 1) := by decide +kernel
theorem dX0_below_1 : decode cX0_below 1 = .ok (.ldc2_w 7, 3) := by decide +kernel
theorem dX0_below_4 : decode cX0_below 4 = .ok (.aload_n 0, 1) := by decide +kernel
theorem dX0_below_5 : decode cX0_below 5 = .ok (.getfield 9, 3) := by decide +kernel
theorem dX0_below_8 : decode cX0_below 8 = .ok (.i2l, 1) := by decide +kernel
theorem dX0_below_9 : decode cX0_below 9 = .ok (.lmul, 1) := by decide +kernel
theorem dX0_below_10 : decode cX0_below 10 = .ok (.ldc2_w 15, 3) := by decide +kernel
theorem dX0_below_13 : decode cX0_below 13 = .ok (.ladd, 1) := by decide +kernel
theorem dX0_below_14 : decode cX0_below 14 = .ok (.ldc2_w 17, 3) := by decide +kernel
theorem dX0_below_17 : decode cX0_below 17 = .ok (.lrem, 1) := by decide +kernel
theorem dX0_below_18 : decode cX0_below 18 = .ok (.l2i, 1) := by decide +kernel
theorem dX0_below_19 : decode cX0_below 19 = .ok (.putfield 9, 3) := by decide +kernel
theorem dX0_below_22 : decode cX0_below 22 = .ok (.iload_n 1, 1) := by decide +kernel
theorem dX0_below_23 : decode cX0_below 23 = .ok (.ifCond .le 15, 3) := by decide +kernel
theorem dX0_below_26 : decode cX0_below 26 = .ok (.aload_n 0, 1) := by decide +kernel
theorem dX0_below_27 : decode cX0_below 27 = .ok (.getfield 9, 3) := by decide +kernel
theorem dX0_below_30 : decode cX0_below 30 = .ok (.ldc 19, 2) := by decide +kernel
theorem dX0_below_32 : decode cX0_below 32 = .ok (.idiv, 1) := by decide +kernel
theorem dX0_below_33 : decode cX0_below 33 = .ok (.iload_n 1, 1) := by decide +kernel
theorem dX0_below_34 : decode cX0_below 34 = .ok (.irem, 1) := by decide +kernel
theorem dX0_below_35 : decode cX0_below 35 = .ok (.goto 4, 3) := by decide +kernel
theorem dX0_below_38 : decode cX0_below 38 = .ok (.iconst 0, 1) := by decide +kernel
theorem dX0_below_39 : decode cX0_below 39 = .ok (.ireturn, 1) := by decide +kernel
theorem dX1_init_0 : decode cX1_init 0 = .ok (.aload_n 0, 1) := by decide +kernel
theorem dX1_init_1 : decode cX1_init 1 = .ok (.invokespecial 3, 3) := by decide +kernel
theorem dX1_init_4 : decode cX1_init 4 = .ok (.aload_n 0, 1) := by decide +kernel
theorem dX1_init_5 : decode cX1_init 5 = .ok (.bipush 8, 2) := by decide +kernel
theorem dX1_init_7 : decode cX1_init 7 = .ok (.newarray .int, 2) := by decide +kernel
theorem dX1_init_9 : decode cX1_init 9 = .ok (.putfield 9, 3) := by decide +kernel
theorem dX1_init_12 : decode cX1_init 12 = .ok (.aload_n 0, 1) := by decide +kernel
theorem dX1_init_13 : decode cX1_init 13 = .ok (.bipush 8, 2) := by decide +kernel
theorem dX1_init_15 : decode cX1_init 15 = .ok (.newarray .int, 2) := by decide +kernel
theorem dX1_init_17 : decode cX1_init 17 = .ok (.putfield 15, 3) := by decide +kernel
theorem dX1_init_20 : decode cX1_init 20 = .ok (.aload_n 0, 1) := by decide +kernel
theorem dX1_init_21 : decode cX1_init 21 = .ok (.bipush 8, 2) := by decide +kernel
theorem dX1_init_23 : decode cX1_init 23 = .ok (.newarray .int, 2) := by decide +kernel
theorem dX1_init_25 : decode cX1_init 25 = .ok (.putfield 18, 3) := by decide +kernel
theorem dX1_init_28 : decode cX1_init 28 = .ok (.return_, 1) := by decide +kernel
theorem dX1_hear_0 : decode cX1_hear 0 = .ok (.aload_n 0, 1) := by decide +kernel
theorem dX1_hear_1 : decode cX1_hear 1 = .ok (.getfield 21, 3) := by decide +kernel
theorem dX1_hear_4 : decode cX1_hear 4 = .ok (.ifCond .lt 12, 3) := by decide +kernel
theorem dX1_hear_7 : decode cX1_hear 7 = .ok (.aload_n 0, 1) := by decide +kernel
theorem dX1_hear_8 : decode cX1_hear 8 = .ok (.getfield 21, 3) := by decide +kernel
theorem dX1_hear_11 : decode cX1_hear 11 = .ok (.bipush 8, 2) := by decide +kernel
theorem dX1_hear_13 : decode cX1_hear 13 = .ok (.if_icmp .lt 5, 3) := by decide +kernel
theorem dX1_hear_16 : decode cX1_hear 16 = .ok (.iconst 0, 1) := by decide +kernel
theorem dX1_hear_17 : decode cX1_hear 17 = .ok (.ireturn, 1) := by decide +kernel
theorem dX1_hear_18 : decode cX1_hear 18 = .ok (.aload_n 0, 1) := by decide +kernel
theorem dX1_hear_19 : decode cX1_hear 19 = .ok (.getfield 9, 3) := by decide +kernel
theorem dX1_hear_22 : decode cX1_hear 22 = .ok (.aload_n 0, 1) := by decide +kernel
theorem dX1_hear_23 : decode cX1_hear 23 = .ok (.getfield 21, 3) := by decide +kernel
theorem dX1_hear_26 : decode cX1_hear 26 = .ok (.iload_n 1, 1) := by decide +kernel
theorem dX1_hear_27 : decode cX1_hear 27 = .ok (.iastore, 1) := by decide +kernel
theorem dX1_hear_28 : decode cX1_hear 28 = .ok (.aload_n 0, 1) := by decide +kernel
theorem dX1_hear_29 : decode cX1_hear 29 = .ok (.getfield 15, 3) := by decide +kernel
theorem dX1_hear_32 : decode cX1_hear 32 = .ok (.aload_n 0, 1) := by decide +kernel
theorem dX1_hear_33 : decode cX1_hear 33 = .ok (.getfield 21, 3) := by decide +kernel
theorem dX1_hear_36 : decode cX1_hear 36 = .ok (.iload_n 2, 1) := by decide +kernel
theorem dX1_hear_37 : decode cX1_hear 37 = .ok (.iastore, 1) := by decide +kernel
theorem dX1_hear_38 : decode cX1_hear 38 = .ok (.aload_n 0, 1) := by decide +kernel
theorem dX1_hear_39 : decode cX1_hear 39 = .ok (.getfield 18, 3) := by decide +kernel
theorem dX1_hear_42 : decode cX1_hear 42 = .ok (.aload_n 0, 1) := by decide +kernel
theorem dX1_hear_43 : decode cX1_hear 43 = .ok (.getfield 21, 3) := by decide +kernel
theorem dX1_hear_46 : decode cX1_hear 46 = .ok (.iload_n 3, 1) := by decide +kernel
theorem dX1_hear_47 : decode cX1_hear 47 = .ok (.ifCond .eq 7, 3) := by decide +kernel
theorem dX1_hear_50 : decode cX1_hear 50 = .ok (.iconst 1, 1) := by decide +kernel
theorem dX1_hear_51 : decode cX1_hear 51 = .ok (.goto 4, 3) := by decide +kernel
theorem dX1_hear_54 : decode cX1_hear 54 = .ok (.iconst 0, 1) := by decide +kernel
theorem dX1_hear_55 : decode cX1_hear 55 = .ok (.iastore, 1) := by decide +kernel
theorem dX1_hear_56 : decode cX1_hear 56 = .ok (.aload_n 0, 1) := by decide +kernel
theorem dX1_hear_57 : decode cX1_hear 57 = .ok (.dup, 1) := by decide +kernel
theorem dX1_hear_58 : decode cX1_hear 58 = .ok (.getfield 21, 3) := by decide +kernel
theorem dX1_hear_61 : decode cX1_hear 61 = .ok (.iconst 1, 1) := by decide +kernel
theorem dX1_hear_62 : decode cX1_hear 62 = .ok (.iadd, 1) := by decide +kernel
theorem dX1_hear_63 : decode cX1_hear 63 = .ok (.putfield 21, 3) := by decide +kernel
theorem dX1_hear_66 : decode cX1_hear 66 = .ok (.iconst 1, 1) := by decide +kernel
theorem dX1_hear_67 : decode cX1_hear 67 = .ok (.ireturn, 1) := by decide +kernel
theorem dX1_copyFrom_0 : decode cX1_copyFrom 0 = .ok (.aload_n 1, 1) := by decide +kernel
theorem dX1_copyFrom_1 : decode cX1_copyFrom 1 = .ok (.getfield 9, 3) := by decide +kernel
theorem dX1_copyFrom_4 : decode cX1_copyFrom 4 = .ok (.iconst 0, 1) := by decide +kernel
theorem dX1_copyFrom_5 : decode cX1_copyFrom 5 = .ok (.aload_n 0, 1) := by decide +kernel
theorem dX1_copyFrom_6 : decode cX1_copyFrom 6 = .ok (.getfield 9, 3) := by decide +kernel
theorem dX1_copyFrom_9 : decode cX1_copyFrom 9 = .ok (.iconst 0, 1) := by decide +kernel
theorem dX1_copyFrom_10 : decode cX1_copyFrom 10 = .ok (.bipush 8, 2) := by decide +kernel
theorem dX1_copyFrom_12 : decode cX1_copyFrom 12 = .ok (.invokestatic 25, 3) := by decide +kernel
theorem dX1_copyFrom_15 : decode cX1_copyFrom 15 = .ok (.aload_n 1, 1) := by decide +kernel
theorem dX1_copyFrom_16 : decode cX1_copyFrom 16 = .ok (.getfield 15, 3) := by decide +kernel
theorem dX1_copyFrom_19 : decode cX1_copyFrom 19 = .ok (.iconst 0, 1) := by decide +kernel
theorem dX1_copyFrom_20 : decode cX1_copyFrom 20 = .ok (.aload_n 0, 1) := by decide +kernel
theorem dX1_copyFrom_21 : decode cX1_copyFrom 21 = .ok (.getfield 15, 3) := by decide +kernel
theorem dX1_copyFrom_24 : decode cX1_copyFrom 24 = .ok (.iconst 0, 1) := by decide +kernel
theorem dX1_copyFrom_25 : decode cX1_copyFrom 25 = .ok (.bipush 8, 2) := by decide +kernel
theorem dX1_copyFrom_27 : decode cX1_copyFrom 27 = .ok (.invokestatic 25, 3) := by decide +kernel
theorem dX1_copyFrom_30 : decode cX1_copyFrom 30 = .ok (.aload_n 1, 1) := by decide +kernel
theorem dX1_copyFrom_31 : decode cX1_copyFrom 31 = .ok (.getfield 18, 3) := by decide +kernel
theorem dX1_copyFrom_34 : decode cX1_copyFrom 34 = .ok (.iconst 0, 1) := by decide +kernel
theorem dX1_copyFrom_35 : decode cX1_copyFrom 35 = .ok (.aload_n 0, 1) := by decide +kernel
theorem dX1_copyFrom_36 : decode cX1_copyFrom 36 = .ok (.getfield 18, 3) := by decide +kernel
theorem dX1_copyFrom_39 : decode cX1_copyFrom 39 = .ok (.iconst 0, 1) := by decide +kernel
theorem dX1_copyFrom_40 : decode cX1_copyFrom 40 = .ok (.bipush 8, 2) := by decide +kernel
theorem dX1_copyFrom_42 : decode cX1_copyFrom 42 = .ok (.invokestatic 25, 3) := by decide +kernel
theorem dX1_copyFrom_45 : decode cX1_copyFrom 45 = .ok (.aload_n 0, 1) := by decide +kernel
theorem dX1_copyFrom_46 : decode cX1_copyFrom 46 = .ok (.aload_n 1, 1) := by decide +kernel
theorem dX1_copyFrom_47 : decode cX1_copyFrom 47 = .ok (.getfield 21, 3) := by decide +kernel
theorem dX1_copyFrom_50 : decode cX1_copyFrom 50 = .ok (.putfield 21, 3) := by decide +kernel
theorem dX1_copyFrom_53 : decode cX1_copyFrom 53 = .ok (.return_, 1) := by decide +kernel
theorem dX1_lastDay_0 : decode cX1_lastDay 0 = .ok (.iconst 0, 1) := by decide +kernel
theorem dX1_lastDay_1 : decode cX1_lastDay 1 = .ok (.istore_n 1, 1) := by decide +kernel
theorem dX1_lastDay_2 : decode cX1_lastDay 2 = .ok (.iconst 0, 1) := by decide +kernel
theorem dX1_lastDay_3 : decode cX1_lastDay 3 = .ok (.istore_n 2, 1) := by decide +kernel
theorem dX1_lastDay_4 : decode cX1_lastDay 4 = .ok (.iload_n 2, 1) := by decide +kernel
theorem dX1_lastDay_5 : decode cX1_lastDay 5 = .ok (.aload_n 0, 1) := by decide +kernel
theorem dX1_lastDay_6 : decode cX1_lastDay 6 = .ok (.getfield 21, 3) := by decide +kernel
theorem dX1_lastDay_9 : decode cX1_lastDay 9 = .ok (.if_icmp .ge 26, 3) := by decide +kernel
theorem dX1_lastDay_12 : decode cX1_lastDay 12 = .ok (.iload_n 2, 1) := by decide +kernel
theorem dX1_lastDay_13 : decode cX1_lastDay 13 = .ok (.bipush 8, 2) := by decide +kernel
theorem dX1_lastDay_15 : decode cX1_lastDay 15 = .ok (.if_icmp .ge 20, 3) := by decide +kernel
theorem dX1_lastDay_18 : decode cX1_lastDay 18 = .ok (.iload_n 1, 1) := by decide +kernel
theorem dX1_lastDay_19 : decode cX1_lastDay 19 = .ok (.aload_n 0, 1) := by decide +kernel
theorem dX1_lastDay_20 : decode cX1_lastDay 20 = .ok (.getfield 15, 3) := by decide +kernel
theorem dX1_lastDay_23 : decode cX1_lastDay 23 = .ok (.iload_n 2, 1) := by decide +kernel
theorem dX1_lastDay_24 : decode cX1_lastDay 24 = .ok (.iaload, 1) := by decide +kernel
theorem dX1_lastDay_25 : decode cX1_lastDay 25 = .ok (.invokestatic 31, 3) := by decide +kernel
theorem dX1_lastDay_28 : decode cX1_lastDay 28 = .ok (.istore_n 1, 1) := by decide +kernel
theorem dX1_lastDay_29 : decode cX1_lastDay 29 = .ok (.iinc 2 1, 3) := by decide +kernel
theorem dX1_lastDay_32 : decode cX1_lastDay 32 = .ok (.goto (-28), 3) := by decide +kernel
theorem dX1_lastDay_35 : decode cX1_lastDay 35 = .ok (.iload_n 1, 1) := by decide +kernel
theorem dX1_lastDay_36 : decode cX1_lastDay 36 = .ok (.ireturn, 1) := by decide +kernel
theorem dX1_agreeWith_0 : decode cX1_agreeWith 0 = .ok (.iconst 0, 1) := by decide +kernel
theorem dX1_agreeWith_1 : decode cX1_agreeWith 1 = .ok (.istore_n 2, 1) := by decide +kernel
theorem dX1_agreeWith_2 : decode cX1_agreeWith 2 = .ok (.iload_n 2, 1) := by decide +kernel
theorem dX1_agreeWith_3 : decode cX1_agreeWith 3 = .ok (.aload_n 0, 1) := by decide +kernel
theorem dX1_agreeWith_4 : decode cX1_agreeWith 4 = .ok (.getfield 21, 3) := by decide +kernel
theorem dX1_agreeWith_7 : decode cX1_agreeWith 7 = .ok (.if_icmp .ge 66, 3) := by decide +kernel
theorem dX1_agreeWith_10 : decode cX1_agreeWith 10 = .ok (.iload_n 2, 1) := by decide +kernel
theorem dX1_agreeWith_11 : decode cX1_agreeWith 11 = .ok (.bipush 8, 2) := by decide +kernel
theorem dX1_agreeWith_13 : decode cX1_agreeWith 13 = .ok (.if_icmp .ge 60, 3) := by decide +kernel
theorem dX1_agreeWith_16 : decode cX1_agreeWith 16 = .ok (.aload_n 0, 1) := by decide +kernel
theorem dX1_agreeWith_17 : decode cX1_agreeWith 17 = .ok (.getfield 9, 3) := by decide +kernel
theorem dX1_agreeWith_20 : decode cX1_agreeWith 20 = .ok (.iload_n 2, 1) := by decide +kernel
theorem dX1_agreeWith_21 : decode cX1_agreeWith 21 = .ok (.iaload, 1) := by decide +kernel
theorem dX1_agreeWith_22 : decode cX1_agreeWith 22 = .ok (.istore_n 3, 1) := by decide +kernel
theorem dX1_agreeWith_23 : decode cX1_agreeWith 23 = .ok (.iload_n 3, 1) := by decide +kernel
theorem dX1_agreeWith_24 : decode cX1_agreeWith 24 = .ok (.ifCond .lt 9, 3) := by decide +kernel
theorem dX1_agreeWith_27 : decode cX1_agreeWith 27 = .ok (.iload_n 3, 1) := by decide +kernel
theorem dX1_agreeWith_28 : decode cX1_agreeWith 28 = .ok (.aload_n 1, 1) := by decide +kernel
theorem dX1_agreeWith_29 : decode cX1_agreeWith 29 = .ok (.arraylength, 1) := by decide +kernel
theorem dX1_agreeWith_30 : decode cX1_agreeWith 30 = .ok (.if_icmp .lt 5, 3) := by decide +kernel
theorem dX1_agreeWith_33 : decode cX1_agreeWith 33 = .ok (.iconst 0, 1) := by decide +kernel
theorem dX1_agreeWith_34 : decode cX1_agreeWith 34 = .ok (.ireturn, 1) := by decide +kernel
theorem dX1_agreeWith_35 : decode cX1_agreeWith 35 = .ok (.aload_n 0, 1) := by decide +kernel
theorem dX1_agreeWith_36 : decode cX1_agreeWith 36 = .ok (.getfield 15, 3) := by decide +kernel
theorem dX1_agreeWith_39 : decode cX1_agreeWith 39 = .ok (.iload_n 2, 1) := by decide +kernel
theorem dX1_agreeWith_40 : decode cX1_agreeWith 40 = .ok (.iaload, 1) := by decide +kernel
theorem dX1_agreeWith_41 : decode cX1_agreeWith 41 = .ok (.aload_n 1, 1) := by decide +kernel
theorem dX1_agreeWith_42 : decode cX1_agreeWith 42 = .ok (.iload_n 3, 1) := by decide +kernel
theorem dX1_agreeWith_43 : decode cX1_agreeWith 43 = .ok (.iaload, 1) := by decide +kernel
theorem dX1_agreeWith_44 : decode cX1_agreeWith 44 = .ok (.if_icmp .ge 7, 3) := by decide +kernel
theorem dX1_agreeWith_47 : decode cX1_agreeWith 47 = .ok (.iconst 1, 1) := by decide +kernel
theorem dX1_agreeWith_48 : decode cX1_agreeWith 48 = .ok (.goto 4, 3) := by decide +kernel
theorem dX1_agreeWith_51 : decode cX1_agreeWith 51 = .ok (.iconst 0, 1) := by decide +kernel
theorem dX1_agreeWith_52 : decode cX1_agreeWith 52 = .ok (.istore 4, 2) := by decide +kernel
theorem dX1_agreeWith_54 : decode cX1_agreeWith 54 = .ok (.iload 4, 2) := by decide +kernel
theorem dX1_agreeWith_56 : decode cX1_agreeWith 56 = .ok (.aload_n 0, 1) := by decide +kernel
theorem dX1_agreeWith_57 : decode cX1_agreeWith 57 = .ok (.getfield 18, 3) := by decide +kernel
theorem dX1_agreeWith_60 : decode cX1_agreeWith 60 = .ok (.iload_n 2, 1) := by decide +kernel
theorem dX1_agreeWith_61 : decode cX1_agreeWith 61 = .ok (.iaload, 1) := by decide +kernel
theorem dX1_agreeWith_62 : decode cX1_agreeWith 62 = .ok (.if_icmp .eq 5, 3) := by decide +kernel
theorem dX1_agreeWith_65 : decode cX1_agreeWith 65 = .ok (.iconst 0, 1) := by decide +kernel
theorem dX1_agreeWith_66 : decode cX1_agreeWith 66 = .ok (.ireturn, 1) := by decide +kernel
theorem dX1_agreeWith_67 : decode cX1_agreeWith 67 = .ok (.iinc 2 1, 3) := by decide +kernel
theorem dX1_agreeWith_70 : decode cX1_agreeWith 70 = .ok (.goto (-68), 3) := by decide +kernel
theorem dX1_agreeWith_73 : decode cX1_agreeWith 73 = .ok (.iconst 1, 1) := by decide +kernel
theorem dX1_agreeWith_74 : decode cX1_agreeWith 74 = .ok (.ireturn, 1) := by decide +kernel
theorem dX2_init_0 : decode cX2_init 0 = .ok (.aload_n 0, 1) := by decide +kernel
theorem dX2_init_1 : decode cX2_init 1 = .ok (.invokespecial 3, 3) := by decide +kernel
theorem dX2_init_4 : decode cX2_init 4 = .ok (.aload_n 0, 1) := by decide +kernel
theorem dX2_init_5 : decode cX2_init 5 = .ok (.bipush 12, 2) := by decide +kernel
theorem dX2_init_7 : decode cX2_init 7 = .ok (.newarray .int, 2) := by decide +kernel
theorem dX2_init_9 : decode cX2_init 9 = .ok (.putfield 9, 3) := by decide +kernel
theorem dX2_init_12 : decode cX2_init 12 = .ok (.return_, 1) := by decide +kernel
theorem dX2_write_0 : decode cX2_write 0 = .ok (.aload_n 0, 1) := by decide +kernel
theorem dX2_write_1 : decode cX2_write 1 = .ok (.getfield 15, 3) := by decide +kernel
theorem dX2_write_4 : decode cX2_write 4 = .ok (.ifCond .lt 12, 3) := by decide +kernel
theorem dX2_write_7 : decode cX2_write 7 = .ok (.aload_n 0, 1) := by decide +kernel
theorem dX2_write_8 : decode cX2_write 8 = .ok (.getfield 15, 3) := by decide +kernel
theorem dX2_write_11 : decode cX2_write 11 = .ok (.bipush 12, 2) := by decide +kernel
theorem dX2_write_13 : decode cX2_write 13 = .ok (.if_icmp .lt 5, 3) := by decide +kernel
theorem dX2_write_16 : decode cX2_write 16 = .ok (.iconst 0, 1) := by decide +kernel
theorem dX2_write_17 : decode cX2_write 17 = .ok (.ireturn, 1) := by decide +kernel
theorem dX2_write_18 : decode cX2_write 18 = .ok (.aload_n 0, 1) := by decide +kernel
theorem dX2_write_19 : decode cX2_write 19 = .ok (.getfield 9, 3) := by decide +kernel
theorem dX2_write_22 : decode cX2_write 22 = .ok (.aload_n 0, 1) := by decide +kernel
theorem dX2_write_23 : decode cX2_write 23 = .ok (.getfield 15, 3) := by decide +kernel
theorem dX2_write_26 : decode cX2_write 26 = .ok (.iload_n 1, 1) := by decide +kernel
theorem dX2_write_27 : decode cX2_write 27 = .ok (.iastore, 1) := by decide +kernel
theorem dX2_write_28 : decode cX2_write 28 = .ok (.aload_n 0, 1) := by decide +kernel
theorem dX2_write_29 : decode cX2_write 29 = .ok (.dup, 1) := by decide +kernel
theorem dX2_write_30 : decode cX2_write 30 = .ok (.getfield 15, 3) := by decide +kernel
theorem dX2_write_33 : decode cX2_write 33 = .ok (.iconst 1, 1) := by decide +kernel
theorem dX2_write_34 : decode cX2_write 34 = .ok (.iadd, 1) := by decide +kernel
theorem dX2_write_35 : decode cX2_write 35 = .ok (.putfield 15, 3) := by decide +kernel
theorem dX2_write_38 : decode cX2_write 38 = .ok (.iconst 1, 1) := by decide +kernel
theorem dX2_write_39 : decode cX2_write 39 = .ok (.ireturn, 1) := by decide +kernel
theorem dX2_goodLetters_0 : decode cX2_goodLetters 0 = .ok (.iconst 0, 1) := by decide +kernel
theorem dX2_goodLetters_1 : decode cX2_goodLetters 1 = .ok (.istore_n 1, 1) := by decide +kernel
theorem dX2_goodLetters_2 : decode cX2_goodLetters 2 = .ok (.iload_n 1, 1) := by decide +kernel
theorem dX2_goodLetters_3 : decode cX2_goodLetters 3 = .ok (.aload_n 0, 1) := by decide +kernel
theorem dX2_goodLetters_4 : decode cX2_goodLetters 4 = .ok (.getfield 15, 3) := by decide +kernel
theorem dX2_goodLetters_7 : decode cX2_goodLetters 7 = .ok (.if_icmp .ge 28, 3) := by decide +kernel
theorem dX2_goodLetters_10 : decode cX2_goodLetters 10 = .ok (.iload_n 1, 1) := by decide +kernel
theorem dX2_goodLetters_11 : decode cX2_goodLetters 11 = .ok (.bipush 9, 2) := by decide +kernel
theorem dX2_goodLetters_13 : decode cX2_goodLetters 13 = .ok (.if_icmp .ge 22, 3) := by decide +kernel
theorem dX2_goodLetters_16 : decode cX2_goodLetters 16 = .ok (.iload_n 1, 1) := by decide +kernel
theorem dX2_goodLetters_17 : decode cX2_goodLetters 17 = .ok (.aload_n 0, 1) := by decide +kernel
theorem dX2_goodLetters_18 : decode cX2_goodLetters 18 = .ok (.getfield 9, 3) := by decide +kernel
theorem dX2_goodLetters_21 : decode cX2_goodLetters 21 = .ok (.iload_n 1, 1) := by decide +kernel
theorem dX2_goodLetters_22 : decode cX2_goodLetters 22 = .ok (.iaload, 1) := by decide +kernel
theorem dX2_goodLetters_23 : decode cX2_goodLetters 23 = .ok (.invokestatic 19, 3) := by decide +kernel
theorem dX2_goodLetters_26 : decode cX2_goodLetters 26 = .ok (.ifCond .eq 9, 3) := by decide +kernel
theorem dX2_goodLetters_29 : decode cX2_goodLetters 29 = .ok (.iinc 1 1, 3) := by decide +kernel
theorem dX2_goodLetters_32 : decode cX2_goodLetters 32 = .ok (.goto (-30), 3) := by decide +kernel
theorem dX2_goodLetters_35 : decode cX2_goodLetters 35 = .ok (.iload_n 1, 1) := by decide +kernel
theorem dX2_goodLetters_36 : decode cX2_goodLetters 36 = .ok (.ireturn, 1) := by decide +kernel
theorem dX2_digit_0 : decode cX2_digit 0 = .ok (.iload_n 1, 1) := by decide +kernel
theorem dX2_digit_1 : decode cX2_digit 1 = .ok (.ifCond .lt 21, 3) := by decide +kernel
theorem dX2_digit_4 : decode cX2_digit 4 = .ok (.iload_n 1, 1) := by decide +kernel
theorem dX2_digit_5 : decode cX2_digit 5 = .ok (.bipush 12, 2) := by decide +kernel
theorem dX2_digit_7 : decode cX2_digit 7 = .ok (.if_icmp .ge 15, 3) := by decide +kernel
theorem dX2_digit_10 : decode cX2_digit 10 = .ok (.aload_n 0, 1) := by decide +kernel
theorem dX2_digit_11 : decode cX2_digit 11 = .ok (.getfield 9, 3) := by decide +kernel
theorem dX2_digit_14 : decode cX2_digit 14 = .ok (.iload_n 1, 1) := by decide +kernel
theorem dX2_digit_15 : decode cX2_digit 15 = .ok (.iaload, 1) := by decide +kernel
theorem dX2_digit_16 : decode cX2_digit 16 = .ok (.bipush 48, 2) := by decide +kernel
theorem dX2_digit_18 : decode cX2_digit 18 = .ok (.isub, 1) := by decide +kernel
theorem dX2_digit_19 : decode cX2_digit 19 = .ok (.goto 4, 3) := by decide +kernel
theorem dX2_digit_22 : decode cX2_digit 22 = .ok (.iconst 0, 1) := by decide +kernel
theorem dX2_digit_23 : decode cX2_digit 23 = .ok (.ireturn, 1) := by decide +kernel
theorem dX2_fits_0 : decode cX2_fits 0 = .ok (.iload_n 0, 1) := by decide +kernel
theorem dX2_fits_1 : decode cX2_fits 1 = .ok (.bipush 6, 2) := by decide +kernel
theorem dX2_fits_3 : decode cX2_fits 3 = .ok (.if_icmp .ne 15, 3) := by decide +kernel
theorem dX2_fits_6 : decode cX2_fits 6 = .ok (.iload_n 1, 1) := by decide +kernel
theorem dX2_fits_7 : decode cX2_fits 7 = .ok (.bipush 59, 2) := by decide +kernel
theorem dX2_fits_9 : decode cX2_fits 9 = .ok (.if_icmp .ne 7, 3) := by decide +kernel
theorem dX2_fits_12 : decode cX2_fits 12 = .ok (.iconst 1, 1) := by decide +kernel
theorem dX2_fits_13 : decode cX2_fits 13 = .ok (.goto 4, 3) := by decide +kernel
theorem dX2_fits_16 : decode cX2_fits 16 = .ok (.iconst 0, 1) := by decide +kernel
theorem dX2_fits_17 : decode cX2_fits 17 = .ok (.ireturn, 1) := by decide +kernel
theorem dX2_fits_18 : decode cX2_fits 18 = .ok (.iload_n 0, 1) := by decide +kernel
theorem dX2_fits_19 : decode cX2_fits 19 = .ok (.bipush 8, 2) := by decide +kernel
theorem dX2_fits_21 : decode cX2_fits 21 = .ok (.if_icmp .ne 8, 3) := by decide +kernel
theorem dX2_fits_24 : decode cX2_fits 24 = .ok (.bipush 49, 2) := by decide +kernel
theorem dX2_fits_26 : decode cX2_fits 26 = .ok (.goto 5, 3) := by decide +kernel
theorem dX2_fits_29 : decode cX2_fits 29 = .ok (.bipush 48, 2) := by decide +kernel
theorem dX2_fits_31 : decode cX2_fits 31 = .ok (.istore_n 2, 1) := by decide +kernel
theorem dX2_fits_32 : decode cX2_fits 32 = .ok (.iload_n 1, 1) := by decide +kernel
theorem dX2_fits_33 : decode cX2_fits 33 = .ok (.iload_n 2, 1) := by decide +kernel
theorem dX2_fits_34 : decode cX2_fits 34 = .ok (.if_icmp .lt 13, 3) := by decide +kernel
theorem dX2_fits_37 : decode cX2_fits 37 = .ok (.iload_n 1, 1) := by decide +kernel
theorem dX2_fits_38 : decode cX2_fits 38 = .ok (.bipush 57, 2) := by decide +kernel
theorem dX2_fits_40 : decode cX2_fits 40 = .ok (.if_icmp .gt 7, 3) := by decide +kernel
theorem dX2_fits_43 : decode cX2_fits 43 = .ok (.iconst 1, 1) := by decide +kernel
theorem dX2_fits_44 : decode cX2_fits 44 = .ok (.goto 4, 3) := by decide +kernel
theorem dX2_fits_47 : decode cX2_fits 47 = .ok (.iconst 0, 1) := by decide +kernel
theorem dX2_fits_48 : decode cX2_fits 48 = .ok (.ireturn, 1) := by decide +kernel
theorem dX3_init_0 : decode cX3_init 0 = .ok (.aload_n 0, 1) := by decide +kernel
theorem dX3_init_1 : decode cX3_init 1 = .ok (.invokespecial 3, 3) := by decide +kernel
theorem dX3_init_4 : decode cX3_init 4 = .ok (.aload_n 0, 1) := by decide +kernel
theorem dX3_init_5 : decode cX3_init 5 = .ok (.bipush 6, 2) := by decide +kernel
theorem dX3_init_7 : decode cX3_init 7 = .ok (.newarray .int, 2) := by decide +kernel
theorem dX3_init_9 : decode cX3_init 9 = .ok (.putfield 9, 3) := by decide +kernel
theorem dX3_init_12 : decode cX3_init 12 = .ok (.aload_n 0, 1) := by decide +kernel
theorem dX3_init_13 : decode cX3_init 13 = .ok (.bipush 6, 2) := by decide +kernel
theorem dX3_init_15 : decode cX3_init 15 = .ok (.newarray .int, 2) := by decide +kernel
theorem dX3_init_17 : decode cX3_init 17 = .ok (.putfield 15, 3) := by decide +kernel
theorem dX3_init_20 : decode cX3_init 20 = .ok (.aload_n 0, 1) := by decide +kernel
theorem dX3_init_21 : decode cX3_init 21 = .ok (.bipush 6, 2) := by decide +kernel
theorem dX3_init_23 : decode cX3_init 23 = .ok (.newarray .int, 2) := by decide +kernel
theorem dX3_init_25 : decode cX3_init 25 = .ok (.putfield 18, 3) := by decide +kernel
theorem dX3_init_28 : decode cX3_init 28 = .ok (.return_, 1) := by decide +kernel
theorem dX3_copyFrom_0 : decode cX3_copyFrom 0 = .ok (.aload_n 1, 1) := by decide +kernel
theorem dX3_copyFrom_1 : decode cX3_copyFrom 1 = .ok (.getfield 9, 3) := by decide +kernel
theorem dX3_copyFrom_4 : decode cX3_copyFrom 4 = .ok (.iconst 0, 1) := by decide +kernel
theorem dX3_copyFrom_5 : decode cX3_copyFrom 5 = .ok (.aload_n 0, 1) := by decide +kernel
theorem dX3_copyFrom_6 : decode cX3_copyFrom 6 = .ok (.getfield 9, 3) := by decide +kernel
theorem dX3_copyFrom_9 : decode cX3_copyFrom 9 = .ok (.iconst 0, 1) := by decide +kernel
theorem dX3_copyFrom_10 : decode cX3_copyFrom 10 = .ok (.bipush 6, 2) := by decide +kernel
theorem dX3_copyFrom_12 : decode cX3_copyFrom 12 = .ok (.invokestatic 21, 3) := by decide +kernel
theorem dX3_copyFrom_15 : decode cX3_copyFrom 15 = .ok (.aload_n 1, 1) := by decide +kernel
theorem dX3_copyFrom_16 : decode cX3_copyFrom 16 = .ok (.getfield 15, 3) := by decide +kernel
theorem dX3_copyFrom_19 : decode cX3_copyFrom 19 = .ok (.iconst 0, 1) := by decide +kernel
theorem dX3_copyFrom_20 : decode cX3_copyFrom 20 = .ok (.aload_n 0, 1) := by decide +kernel
theorem dX3_copyFrom_21 : decode cX3_copyFrom 21 = .ok (.getfield 15, 3) := by decide +kernel
theorem dX3_copyFrom_24 : decode cX3_copyFrom 24 = .ok (.iconst 0, 1) := by decide +kernel
theorem dX3_copyFrom_25 : decode cX3_copyFrom 25 = .ok (.bipush 6, 2) := by decide +kernel
theorem dX3_copyFrom_27 : decode cX3_copyFrom 27 = .ok (.invokestatic 21, 3) := by decide +kernel
theorem dX3_copyFrom_30 : decode cX3_copyFrom 30 = .ok (.return_, 1) := by decide +kernel
theorem dX3_stands_0 : decode cX3_stands 0 = .ok (.iload_n 1, 1) := by decide +kernel
theorem dX3_stands_1 : decode cX3_stands 1 = .ok (.ifCond .lt 22, 3) := by decide +kernel
theorem dX3_stands_4 : decode cX3_stands 4 = .ok (.iload_n 1, 1) := by decide +kernel
theorem dX3_stands_5 : decode cX3_stands 5 = .ok (.bipush 6, 2) := by decide +kernel
theorem dX3_stands_7 : decode cX3_stands 7 = .ok (.if_icmp .ge 16, 3) := by decide +kernel
theorem dX3_stands_10 : decode cX3_stands 10 = .ok (.aload_n 0, 1) := by decide +kernel
theorem dX3_stands_11 : decode cX3_stands 11 = .ok (.getfield 9, 3) := by decide +kernel
theorem dX3_stands_14 : decode cX3_stands 14 = .ok (.iload_n 1, 1) := by decide +kernel
theorem dX3_stands_15 : decode cX3_stands 15 = .ok (.iaload, 1) := by decide +kernel
theorem dX3_stands_16 : decode cX3_stands 16 = .ok (.ifCond .le 7, 3) := by decide +kernel
theorem dX3_stands_19 : decode cX3_stands 19 = .ok (.iconst 1, 1) := by decide +kernel
theorem dX3_stands_20 : decode cX3_stands 20 = .ok (.goto 4, 3) := by decide +kernel
theorem dX3_stands_23 : decode cX3_stands 23 = .ok (.iconst 0, 1) := by decide +kernel
theorem dX3_stands_24 : decode cX3_stands 24 = .ok (.ireturn, 1) := by decide +kernel
theorem dX3_standing_0 : decode cX3_standing 0 = .ok (.iconst 0, 1) := by decide +kernel
theorem dX3_standing_1 : decode cX3_standing 1 = .ok (.istore_n 1, 1) := by decide +kernel
theorem dX3_standing_2 : decode cX3_standing 2 = .ok (.iconst 0, 1) := by decide +kernel
theorem dX3_standing_3 : decode cX3_standing 3 = .ok (.istore_n 2, 1) := by decide +kernel
theorem dX3_standing_4 : decode cX3_standing 4 = .ok (.iload_n 2, 1) := by decide +kernel
theorem dX3_standing_5 : decode cX3_standing 5 = .ok (.bipush 6, 2) := by decide +kernel
theorem dX3_standing_7 : decode cX3_standing 7 = .ok (.if_icmp .ge 26, 3) := by decide +kernel
theorem dX3_standing_10 : decode cX3_standing 10 = .ok (.iload_n 1, 1) := by decide +kernel
theorem dX3_standing_11 : decode cX3_standing 11 = .ok (.aload_n 0, 1) := by decide +kernel
theorem dX3_standing_12 : decode cX3_standing 12 = .ok (.getfield 9, 3) := by decide +kernel
theorem dX3_standing_15 : decode cX3_standing 15 = .ok (.iload_n 2, 1) := by decide +kernel
theorem dX3_standing_16 : decode cX3_standing 16 = .ok (.iaload, 1) := by decide +kernel
theorem dX3_standing_17 : decode cX3_standing 17 = .ok (.ifCond .le 7, 3) := by decide +kernel
theorem dX3_standing_20 : decode cX3_standing 20 = .ok (.iconst 1, 1) := by decide +kernel
theorem dX3_standing_21 : decode cX3_standing 21 = .ok (.goto 4, 3) := by decide +kernel
theorem dX3_standing_24 : decode cX3_standing 24 = .ok (.iconst 0, 1) := by decide +kernel
theorem dX3_standing_25 : decode cX3_standing 25 = .ok (.iadd, 1) := by decide +kernel
theorem dX3_standing_26 : decode cX3_standing 26 = .ok (.istore_n 1, 1) := by decide +kernel
theorem dX3_standing_27 : decode cX3_standing 27 = .ok (.iinc 2 1, 3) := by decide +kernel
theorem dX3_standing_30 : decode cX3_standing 30 = .ok (.goto (-26), 3) := by decide +kernel
theorem dX3_standing_33 : decode cX3_standing 33 = .ok (.iload_n 1, 1) := by decide +kernel
theorem dX3_standing_34 : decode cX3_standing 34 = .ok (.ireturn, 1) := by decide +kernel
theorem dX3_firstFallen_0 : decode cX3_firstFallen 0 = .ok (.iconst 0, 1) := by decide +kernel
theorem dX3_firstFallen_1 : decode cX3_firstFallen 1 = .ok (.istore_n 1, 1) := by decide +kernel
theorem dX3_firstFallen_2 : decode cX3_firstFallen 2 = .ok (.iload_n 1, 1) := by decide +kernel
theorem dX3_firstFallen_3 : decode cX3_firstFallen 3 = .ok (.bipush 6, 2) := by decide +kernel
theorem dX3_firstFallen_5 : decode cX3_firstFallen 5 = .ok (.if_icmp .ge 18, 3) := by decide +kernel
theorem dX3_firstFallen_8 : decode cX3_firstFallen 8 = .ok (.aload_n 0, 1) := by decide +kernel
theorem dX3_firstFallen_9 : decode cX3_firstFallen 9 = .ok (.getfield 9, 3) := by decide +kernel
theorem dX3_firstFallen_12 : decode cX3_firstFallen 12 = .ok (.iload_n 1, 1) := by decide +kernel
theorem dX3_firstFallen_13 : decode cX3_firstFallen 13 = .ok (.iaload, 1) := by decide +kernel
theorem dX3_firstFallen_14 : decode cX3_firstFallen 14 = .ok (.ifCond .le 9, 3) := by decide +kernel
theorem dX3_firstFallen_17 : decode cX3_firstFallen 17 = .ok (.iinc 1 1, 3) := by decide +kernel
theorem dX3_firstFallen_20 : decode cX3_firstFallen 20 = .ok (.goto (-18), 3) := by decide +kernel
theorem dX3_firstFallen_23 : decode cX3_firstFallen 23 = .ok (.iload_n 1, 1) := by decide +kernel
theorem dX3_firstFallen_24 : decode cX3_firstFallen 24 = .ok (.ireturn, 1) := by decide +kernel
theorem dX3_lossAt_0 : decode cX3_lossAt 0 = .ok (.iload_n 1, 1) := by decide +kernel
theorem dX3_lossAt_1 : decode cX3_lossAt 1 = .ok (.ifCond .lt 18, 3) := by decide +kernel
theorem dX3_lossAt_4 : decode cX3_lossAt 4 = .ok (.iload_n 1, 1) := by decide +kernel
theorem dX3_lossAt_5 : decode cX3_lossAt 5 = .ok (.bipush 6, 2) := by decide +kernel
theorem dX3_lossAt_7 : decode cX3_lossAt 7 = .ok (.if_icmp .ge 12, 3) := by decide +kernel
theorem dX3_lossAt_10 : decode cX3_lossAt 10 = .ok (.aload_n 0, 1) := by decide +kernel
theorem dX3_lossAt_11 : decode cX3_lossAt 11 = .ok (.getfield 9, 3) := by decide +kernel
theorem dX3_lossAt_14 : decode cX3_lossAt 14 = .ok (.iload_n 1, 1) := by decide +kernel
theorem dX3_lossAt_15 : decode cX3_lossAt 15 = .ok (.iaload, 1) := by decide +kernel
theorem dX3_lossAt_16 : decode cX3_lossAt 16 = .ok (.ifCond .gt 5, 3) := by decide +kernel
theorem dX3_lossAt_19 : decode cX3_lossAt 19 = .ok (.iconst 0, 1) := by decide +kernel
theorem dX3_lossAt_20 : decode cX3_lossAt 20 = .ok (.ireturn, 1) := by decide +kernel
theorem dX3_lossAt_21 : decode cX3_lossAt 21 = .ok (.iload_n 1, 1) := by decide +kernel
theorem dX3_lossAt_22 : decode cX3_lossAt 22 = .ok (.ifCond .le 14, 3) := by decide +kernel
theorem dX3_lossAt_25 : decode cX3_lossAt 25 = .ok (.aload_n 0, 1) := by decide +kernel
theorem dX3_lossAt_26 : decode cX3_lossAt 26 = .ok (.getfield 9, 3) := by decide +kernel
theorem dX3_lossAt_29 : decode cX3_lossAt 29 = .ok (.iload_n 1, 1) := by decide +kernel
theorem dX3_lossAt_30 : decode cX3_lossAt 30 = .ok (.iconst 1, 1) := by decide +kernel
theorem dX3_lossAt_31 : decode cX3_lossAt 31 = .ok (.isub, 1) := by decide +kernel
theorem dX3_lossAt_32 : decode cX3_lossAt 32 = .ok (.iaload, 1) := by decide +kernel
theorem dX3_lossAt_33 : decode cX3_lossAt 33 = .ok (.ifCond .le 19, 3) := by decide +kernel
theorem dX3_lossAt_36 : decode cX3_lossAt 36 = .ok (.iload_n 1, 1) := by decide +kernel
theorem dX3_lossAt_37 : decode cX3_lossAt 37 = .ok (.iconst 5, 1) := by decide +kernel
theorem dX3_lossAt_38 : decode cX3_lossAt 38 = .ok (.if_icmp .ge 18, 3) := by decide +kernel
theorem dX3_lossAt_41 : decode cX3_lossAt 41 = .ok (.aload_n 0, 1) := by decide +kernel
theorem dX3_lossAt_42 : decode cX3_lossAt 42 = .ok (.getfield 9, 3) := by decide +kernel
theorem dX3_lossAt_45 : decode cX3_lossAt 45 = .ok (.iload_n 1, 1) := by decide +kernel
theorem dX3_lossAt_46 : decode cX3_lossAt 46 = .ok (.iconst 1, 1) := by decide +kernel
theorem dX3_lossAt_47 : decode cX3_lossAt 47 = .ok (.iadd, 1) := by decide +kernel
theorem dX3_lossAt_48 : decode cX3_lossAt 48 = .ok (.iaload, 1) := by decide +kernel
theorem dX3_lossAt_49 : decode cX3_lossAt 49 = .ok (.ifCond .gt 7, 3) := by decide +kernel
theorem dX3_lossAt_52 : decode cX3_lossAt 52 = .ok (.iconst 1, 1) := by decide +kernel
theorem dX3_lossAt_53 : decode cX3_lossAt 53 = .ok (.goto 4, 3) := by decide +kernel
theorem dX3_lossAt_56 : decode cX3_lossAt 56 = .ok (.iconst 0, 1) := by decide +kernel
theorem dX3_lossAt_57 : decode cX3_lossAt 57 = .ok (.istore_n 2, 1) := by decide +kernel
theorem dX3_lossAt_58 : decode cX3_lossAt 58 = .ok (.aload_n 0, 1) := by decide +kernel
theorem dX3_lossAt_59 : decode cX3_lossAt 59 = .ok (.getfield 15, 3) := by decide +kernel
theorem dX3_lossAt_62 : decode cX3_lossAt 62 = .ok (.iload_n 1, 1) := by decide +kernel
theorem dX3_lossAt_63 : decode cX3_lossAt 63 = .ok (.iaload, 1) := by decide +kernel
theorem dX3_lossAt_64 : decode cX3_lossAt 64 = .ok (.iload_n 2, 1) := by decide +kernel
theorem dX3_lossAt_65 : decode cX3_lossAt 65 = .ok (.ifCond .eq 7, 3) := by decide +kernel
theorem dX3_lossAt_68 : decode cX3_lossAt 68 = .ok (.iconst 1, 1) := by decide +kernel
theorem dX3_lossAt_69 : decode cX3_lossAt 69 = .ok (.goto 4, 3) := by decide +kernel
theorem dX3_lossAt_72 : decode cX3_lossAt 72 = .ok (.iconst 0, 1) := by decide +kernel
theorem dX3_lossAt_73 : decode cX3_lossAt 73 = .ok (.iadd, 1) := by decide +kernel
theorem dX3_lossAt_74 : decode cX3_lossAt 74 = .ok (.ireturn, 1) := by decide +kernel
theorem dX3_passDay_0 : decode cX3_passDay 0 = .ok (.iconst 0, 1) := by decide +kernel
theorem dX3_passDay_1 : decode cX3_passDay 1 = .ok (.istore_n 1, 1) := by decide +kernel
theorem dX3_passDay_2 : decode cX3_passDay 2 = .ok (.iload_n 1, 1) := by decide +kernel
theorem dX3_passDay_3 : decode cX3_passDay 3 = .ok (.bipush 6, 2) := by decide +kernel
theorem dX3_passDay_5 : decode cX3_passDay 5 = .ok (.if_icmp .ge 20, 3) := by decide +kernel
theorem dX3_passDay_8 : decode cX3_passDay 8 = .ok (.aload_n 0, 1) := by decide +kernel
theorem dX3_passDay_9 : decode cX3_passDay 9 = .ok (.getfield 18, 3) := by decide +kernel
theorem dX3_passDay_12 : decode cX3_passDay 12 = .ok (.iload_n 1, 1) := by decide +kernel
theorem dX3_passDay_13 : decode cX3_passDay 13 = .ok (.aload_n 0, 1) := by decide +kernel
theorem dX3_passDay_14 : decode cX3_passDay 14 = .ok (.iload_n 1, 1) := by decide +kernel
theorem dX3_passDay_15 : decode cX3_passDay 15 = .ok (.invokevirtual 27, 3) := by decide +kernel
theorem dX3_passDay_18 : decode cX3_passDay 18 = .ok (.iastore, 1) := by decide +kernel
theorem dX3_passDay_19 : decode cX3_passDay 19 = .ok (.iinc 1 1, 3) := by decide +kernel
theorem dX3_passDay_22 : decode cX3_passDay 22 = .ok (.goto (-20), 3) := by decide +kernel
theorem dX3_passDay_25 : decode cX3_passDay 25 = .ok (.iconst 0, 1) := by decide +kernel
theorem dX3_passDay_26 : decode cX3_passDay 26 = .ok (.istore_n 1, 1) := by decide +kernel
theorem dX3_passDay_27 : decode cX3_passDay 27 = .ok (.iconst 0, 1) := by decide +kernel
theorem dX3_passDay_28 : decode cX3_passDay 28 = .ok (.istore_n 2, 1) := by decide +kernel
theorem dX3_passDay_29 : decode cX3_passDay 29 = .ok (.iload_n 2, 1) := by decide +kernel
theorem dX3_passDay_30 : decode cX3_passDay 30 = .ok (.bipush 6, 2) := by decide +kernel
theorem dX3_passDay_32 : decode cX3_passDay 32 = .ok (.if_icmp .ge 58, 3) := by decide +kernel
theorem dX3_passDay_35 : decode cX3_passDay 35 = .ok (.aload_n 0, 1) := by decide +kernel
theorem dX3_passDay_36 : decode cX3_passDay 36 = .ok (.getfield 9, 3) := by decide +kernel
theorem dX3_passDay_39 : decode cX3_passDay 39 = .ok (.iload_n 2, 1) := by decide +kernel
theorem dX3_passDay_40 : decode cX3_passDay 40 = .ok (.iaload, 1) := by decide +kernel
theorem dX3_passDay_41 : decode cX3_passDay 41 = .ok (.ifCond .le 43, 3) := by decide +kernel
theorem dX3_passDay_44 : decode cX3_passDay 44 = .ok (.aload_n 0, 1) := by decide +kernel
theorem dX3_passDay_45 : decode cX3_passDay 45 = .ok (.getfield 9, 3) := by decide +kernel
theorem dX3_passDay_48 : decode cX3_passDay 48 = .ok (.iload_n 2, 1) := by decide +kernel
theorem dX3_passDay_49 : decode cX3_passDay 49 = .ok (.iconst 0, 1) := by decide +kernel
theorem dX3_passDay_50 : decode cX3_passDay 50 = .ok (.aload_n 0, 1) := by decide +kernel
theorem dX3_passDay_51 : decode cX3_passDay 51 = .ok (.getfield 9, 3) := by decide +kernel
theorem dX3_passDay_54 : decode cX3_passDay 54 = .ok (.iload_n 2, 1) := by decide +kernel
theorem dX3_passDay_55 : decode cX3_passDay 55 = .ok (.iaload, 1) := by decide +kernel
theorem dX3_passDay_56 : decode cX3_passDay 56 = .ok (.aload_n 0, 1) := by decide +kernel
theorem dX3_passDay_57 : decode cX3_passDay 57 = .ok (.getfield 18, 3) := by decide +kernel
theorem dX3_passDay_60 : decode cX3_passDay 60 = .ok (.iload_n 2, 1) := by decide +kernel
theorem dX3_passDay_61 : decode cX3_passDay 61 = .ok (.iaload, 1) := by decide +kernel
theorem dX3_passDay_62 : decode cX3_passDay 62 = .ok (.isub, 1) := by decide +kernel
theorem dX3_passDay_63 : decode cX3_passDay 63 = .ok (.invokestatic 31, 3) := by decide +kernel
theorem dX3_passDay_66 : decode cX3_passDay 66 = .ok (.iastore, 1) := by decide +kernel
theorem dX3_passDay_67 : decode cX3_passDay 67 = .ok (.iload_n 1, 1) := by decide +kernel
theorem dX3_passDay_68 : decode cX3_passDay 68 = .ok (.aload_n 0, 1) := by decide +kernel
theorem dX3_passDay_69 : decode cX3_passDay 69 = .ok (.getfield 9, 3) := by decide +kernel
theorem dX3_passDay_72 : decode cX3_passDay 72 = .ok (.iload_n 2, 1) := by decide +kernel
theorem dX3_passDay_73 : decode cX3_passDay 73 = .ok (.iaload, 1) := by decide +kernel
theorem dX3_passDay_74 : decode cX3_passDay 74 = .ok (.ifCond .ne 7, 3) := by decide +kernel
theorem dX3_passDay_77 : decode cX3_passDay 77 = .ok (.iconst 1, 1) := by decide +kernel
theorem dX3_passDay_78 : decode cX3_passDay 78 = .ok (.goto 4, 3) := by decide +kernel
theorem dX3_passDay_81 : decode cX3_passDay 81 = .ok (.iconst 0, 1) := by decide +kernel
theorem dX3_passDay_82 : decode cX3_passDay 82 = .ok (.iadd, 1) := by decide +kernel
theorem dX3_passDay_83 : decode cX3_passDay 83 = .ok (.istore_n 1, 1) := by decide +kernel
theorem dX3_passDay_84 : decode cX3_passDay 84 = .ok (.iinc 2 1, 3) := by decide +kernel
theorem dX3_passDay_87 : decode cX3_passDay 87 = .ok (.goto (-58), 3) := by decide +kernel
theorem dX3_passDay_90 : decode cX3_passDay 90 = .ok (.iload_n 1, 1) := by decide +kernel
theorem dX3_passDay_91 : decode cX3_passDay 91 = .ok (.ireturn, 1) := by decide +kernel
theorem dX3_firstFall_0 : decode cX3_firstFall 0 = .ok (.bipush 41, 2) := by decide +kernel
theorem dX3_firstFall_2 : decode cX3_firstFall 2 = .ok (.istore_n 1, 1) := by decide +kernel
theorem dX3_firstFall_3 : decode cX3_firstFall 3 = .ok (.iconst 0, 1) := by decide +kernel
theorem dX3_firstFall_4 : decode cX3_firstFall 4 = .ok (.istore_n 2, 1) := by decide +kernel
theorem dX3_firstFall_5 : decode cX3_firstFall 5 = .ok (.iload_n 2, 1) := by decide +kernel
theorem dX3_firstFall_6 : decode cX3_firstFall 6 = .ok (.bipush 6, 2) := by decide +kernel
theorem dX3_firstFall_8 : decode cX3_firstFall 8 = .ok (.if_icmp .ge 36, 3) := by decide +kernel
theorem dX3_firstFall_11 : decode cX3_firstFall 11 = .ok (.aload_n 0, 1) := by decide +kernel
theorem dX3_firstFall_12 : decode cX3_firstFall 12 = .ok (.iload_n 2, 1) := by decide +kernel
theorem dX3_firstFall_13 : decode cX3_firstFall 13 = .ok (.invokevirtual 27, 3) := by decide +kernel
theorem dX3_firstFall_16 : decode cX3_firstFall 16 = .ok (.istore_n 3, 1) := by decide +kernel
theorem dX3_firstFall_17 : decode cX3_firstFall 17 = .ok (.iload_n 3, 1) := by decide +kernel
theorem dX3_firstFall_18 : decode cX3_firstFall 18 = .ok (.ifCond .le 20, 3) := by decide +kernel
theorem dX3_firstFall_21 : decode cX3_firstFall 21 = .ok (.iload_n 1, 1) := by decide +kernel
theorem dX3_firstFall_22 : decode cX3_firstFall 22 = .ok (.aload_n 0, 1) := by decide +kernel
theorem dX3_firstFall_23 : decode cX3_firstFall 23 = .ok (.getfield 9, 3) := by decide +kernel
theorem dX3_firstFall_26 : decode cX3_firstFall 26 = .ok (.iload_n 2, 1) := by decide +kernel
theorem dX3_firstFall_27 : decode cX3_firstFall 27 = .ok (.iaload, 1) := by decide +kernel
theorem dX3_firstFall_28 : decode cX3_firstFall 28 = .ok (.iload_n 3, 1) := by decide +kernel
theorem dX3_firstFall_29 : decode cX3_firstFall 29 = .ok (.iadd, 1) := by decide +kernel
theorem dX3_firstFall_30 : decode cX3_firstFall 30 = .ok (.iconst 1, 1) := by decide +kernel
theorem dX3_firstFall_31 : decode cX3_firstFall 31 = .ok (.isub, 1) := by decide +kernel
theorem dX3_firstFall_32 : decode cX3_firstFall 32 = .ok (.iload_n 3, 1) := by decide +kernel
theorem dX3_firstFall_33 : decode cX3_firstFall 33 = .ok (.idiv, 1) := by decide +kernel
theorem dX3_firstFall_34 : decode cX3_firstFall 34 = .ok (.invokestatic 37, 3) := by decide +kernel
theorem dX3_firstFall_37 : decode cX3_firstFall 37 = .ok (.istore_n 1, 1) := by decide +kernel
theorem dX3_firstFall_38 : decode cX3_firstFall 38 = .ok (.iinc 2 1, 3) := by decide +kernel
theorem dX3_firstFall_41 : decode cX3_firstFall 41 = .ok (.goto (-36), 3) := by decide +kernel
theorem dX3_firstFall_44 : decode cX3_firstFall 44 = .ok (.iload_n 1, 1) := by decide +kernel
theorem dX3_firstFall_45 : decode cX3_firstFall 45 = .ok (.ireturn, 1) := by decide +kernel
theorem dX3_propsNeeded_0 : decode cX3_propsNeeded 0 = .ok (.iconst 0, 1) := by decide +kernel
theorem dX3_propsNeeded_1 : decode cX3_propsNeeded 1 = .ok (.istore_n 2, 1) := by decide +kernel
theorem dX3_propsNeeded_2 : decode cX3_propsNeeded 2 = .ok (.iconst 0, 1) := by decide +kernel
theorem dX3_propsNeeded_3 : decode cX3_propsNeeded 3 = .ok (.istore_n 3, 1) := by decide +kernel
theorem dX3_propsNeeded_4 : decode cX3_propsNeeded 4 = .ok (.iload_n 3, 1) := by decide +kernel
theorem dX3_propsNeeded_5 : decode cX3_propsNeeded 5 = .ok (.bipush 6, 2) := by decide +kernel
theorem dX3_propsNeeded_7 : decode cX3_propsNeeded 7 = .ok (.if_icmp .ge 30, 3) := by decide +kernel
theorem dX3_propsNeeded_10 : decode cX3_propsNeeded 10 = .ok (.aload_n 0, 1) := by decide +kernel
theorem dX3_propsNeeded_11 : decode cX3_propsNeeded 11 = .ok (.iload_n 3, 1) := by decide +kernel
theorem dX3_propsNeeded_12 : decode cX3_propsNeeded 12 = .ok (.iload_n 1, 1) := by decide +kernel
theorem dX3_propsNeeded_13 : decode cX3_propsNeeded 13 = .ok (.invokevirtual 40, 3) := by decide +kernel
theorem dX3_propsNeeded_16 : decode cX3_propsNeeded 16 = .ok (.istore 4, 2) := by decide +kernel
theorem dX3_propsNeeded_18 : decode cX3_propsNeeded 18 = .ok (.iload 4, 2) := by decide +kernel
theorem dX3_propsNeeded_20 : decode cX3_propsNeeded 20 = .ok (.iconst (-1), 1) := by decide +kernel
theorem dX3_propsNeeded_21 : decode cX3_propsNeeded 21 = .ok (.if_icmp .ne 5, 3) := by decide +kernel
theorem dX3_propsNeeded_24 : decode cX3_propsNeeded 24 = .ok (.iconst (-1), 1) := by decide +kernel
theorem dX3_propsNeeded_25 : decode cX3_propsNeeded 25 = .ok (.ireturn, 1) := by decide +kernel
theorem dX3_propsNeeded_26 : decode cX3_propsNeeded 26 = .ok (.iload_n 2, 1) := by decide +kernel
theorem dX3_propsNeeded_27 : decode cX3_propsNeeded 27 = .ok (.iload 4, 2) := by decide +kernel
theorem dX3_propsNeeded_29 : decode cX3_propsNeeded 29 = .ok (.iadd, 1) := by decide +kernel
theorem dX3_propsNeeded_30 : decode cX3_propsNeeded 30 = .ok (.istore_n 2, 1) := by decide +kernel
theorem dX3_propsNeeded_31 : decode cX3_propsNeeded 31 = .ok (.iinc 3 1, 3) := by decide +kernel
theorem dX3_propsNeeded_34 : decode cX3_propsNeeded 34 = .ok (.goto (-30), 3) := by decide +kernel
theorem dX3_propsNeeded_37 : decode cX3_propsNeeded 37 = .ok (.iload_n 2, 1) := by decide +kernel
theorem dX3_propsNeeded_38 : decode cX3_propsNeeded 38 = .ok (.ireturn, 1) := by decide +kernel
theorem dX3_propsNeededAt_0 : decode cX3_propsNeededAt 0 = .ok (.aload_n 0, 1) := by decide +kernel
theorem dX3_propsNeededAt_1 : decode cX3_propsNeededAt 1 = .ok (.iload_n 1, 1) := by decide +kernel
theorem dX3_propsNeededAt_2 : decode cX3_propsNeededAt 2 = .ok (.invokevirtual 43, 3) := by decide +kernel
theorem dX3_propsNeededAt_5 : decode cX3_propsNeededAt 5 = .ok (.ifCond .ne 5, 3) := by decide +kernel
theorem dX3_propsNeededAt_8 : decode cX3_propsNeededAt 8 = .ok (.iconst 0, 1) := by decide +kernel
theorem dX3_propsNeededAt_9 : decode cX3_propsNeededAt 9 = .ok (.ireturn, 1) := by decide +kernel
theorem dX3_propsNeededAt_10 : decode cX3_propsNeededAt 10 = .ok (.aload_n 0, 1) := by decide +kernel
theorem dX3_propsNeededAt_11 : decode cX3_propsNeededAt 11 = .ok (.iload_n 1, 1) := by decide +kernel
theorem dX3_propsNeededAt_12 : decode cX3_propsNeededAt 12 = .ok (.invokevirtual 27, 3) := by decide +kernel
theorem dX3_propsNeededAt_15 : decode cX3_propsNeededAt 15 = .ok (.iload_n 2, 1) := by decide +kernel
theorem dX3_propsNeededAt_16 : decode cX3_propsNeededAt 16 = .ok (.imul, 1) := by decide +kernel
theorem dX3_propsNeededAt_17 : decode cX3_propsNeededAt 17 = .ok (.iconst 1, 1) := by decide +kernel
theorem dX3_propsNeededAt_18 : decode cX3_propsNeededAt 18 = .ok (.iadd, 1) := by decide +kernel
theorem dX3_propsNeededAt_19 : decode cX3_propsNeededAt 19 = .ok (.aload_n 0, 1) := by decide +kernel
theorem dX3_propsNeededAt_20 : decode cX3_propsNeededAt 20 = .ok (.getfield 9, 3) := by decide +kernel
theorem dX3_propsNeededAt_23 : decode cX3_propsNeededAt 23 = .ok (.iload_n 1, 1) := by decide +kernel
theorem dX3_propsNeededAt_24 : decode cX3_propsNeededAt 24 = .ok (.iaload, 1) := by decide +kernel
theorem dX3_propsNeededAt_25 : decode cX3_propsNeededAt 25 = .ok (.isub, 1) := by decide +kernel
theorem dX3_propsNeededAt_26 : decode cX3_propsNeededAt 26 = .ok (.istore_n 3, 1) := by decide +kernel
theorem dX3_propsNeededAt_27 : decode cX3_propsNeededAt 27 = .ok (.iload_n 3, 1) := by decide +kernel
theorem dX3_propsNeededAt_28 : decode cX3_propsNeededAt 28 = .ok (.ifCond .gt 5, 3) := by decide +kernel
theorem dX3_propsNeededAt_31 : decode cX3_propsNeededAt 31 = .ok (.iconst 0, 1) := by decide +kernel
theorem dX3_propsNeededAt_32 : decode cX3_propsNeededAt 32 = .ok (.ireturn, 1) := by decide +kernel
theorem dX3_propsNeededAt_33 : decode cX3_propsNeededAt 33 = .ok (.iload_n 3, 1) := by decide +kernel
theorem dX3_propsNeededAt_34 : decode cX3_propsNeededAt 34 = .ok (.iconst 3, 1) := by decide +kernel
theorem dX3_propsNeededAt_35 : decode cX3_propsNeededAt 35 = .ok (.iadd, 1) := by decide +kernel
theorem dX3_propsNeededAt_36 : decode cX3_propsNeededAt 36 = .ok (.iconst 1, 1) := by decide +kernel
theorem dX3_propsNeededAt_37 : decode cX3_propsNeededAt 37 = .ok (.isub, 1) := by decide +kernel
theorem dX3_propsNeededAt_38 : decode cX3_propsNeededAt 38 = .ok (.iconst 3, 1) := by decide +kernel
theorem dX3_propsNeededAt_39 : decode cX3_propsNeededAt 39 = .ok (.idiv, 1) := by decide +kernel
theorem dX3_propsNeededAt_40 : decode cX3_propsNeededAt 40 = .ok (.istore 4, 2) := by decide +kernel
theorem dX3_propsNeededAt_42 : decode cX3_propsNeededAt 42 = .ok (.aload_n 0, 1) := by decide +kernel
theorem dX3_propsNeededAt_43 : decode cX3_propsNeededAt 43 = .ok (.getfield 9, 3) := by decide +kernel
theorem dX3_propsNeededAt_46 : decode cX3_propsNeededAt 46 = .ok (.iload_n 1, 1) := by decide +kernel
theorem dX3_propsNeededAt_47 : decode cX3_propsNeededAt 47 = .ok (.iaload, 1) := by decide +kernel
theorem dX3_propsNeededAt_48 : decode cX3_propsNeededAt 48 = .ok (.iload 4, 2) := by decide +kernel
theorem dX3_propsNeededAt_50 : decode cX3_propsNeededAt 50 = .ok (.iconst 3, 1) := by decide +kernel
theorem dX3_propsNeededAt_51 : decode cX3_propsNeededAt 51 = .ok (.imul, 1) := by decide +kernel
theorem dX3_propsNeededAt_52 : decode cX3_propsNeededAt 52 = .ok (.iadd, 1) := by decide +kernel
theorem dX3_propsNeededAt_53 : decode cX3_propsNeededAt 53 = .ok (.bipush 20, 2) := by decide +kernel
theorem dX3_propsNeededAt_55 : decode cX3_propsNeededAt 55 = .ok (.if_icmp .le 7, 3) := by decide +kernel
theorem dX3_propsNeededAt_58 : decode cX3_propsNeededAt 58 = .ok (.iconst (-1), 1) := by decide +kernel
theorem dX3_propsNeededAt_59 : decode cX3_propsNeededAt 59 = .ok (.goto 5, 3) := by decide +kernel
theorem dX3_propsNeededAt_62 : decode cX3_propsNeededAt 62 = .ok (.iload 4, 2) := by decide +kernel
theorem dX3_propsNeededAt_64 : decode cX3_propsNeededAt 64 = .ok (.ireturn, 1) := by decide +kernel
theorem dX4_init_0 : decode cX4_init 0 = .ok (.aload_n 0, 1) := by decide +kernel
theorem dX4_init_1 : decode cX4_init 1 = .ok (.invokespecial 3, 3) := by decide +kernel
theorem dX4_init_4 : decode cX4_init 4 = .ok (.aload_n 0, 1) := by decide +kernel
theorem dX4_init_5 : decode cX4_init 5 = .ok (.new 9, 3) := by decide +kernel
theorem dX4_init_8 : decode cX4_init 8 = .ok (.dup, 1) := by decide +kernel
theorem dX4_init_9 : decode cX4_init 9 = .ok (.invokespecial 11, 3) := by decide +kernel
theorem dX4_init_12 : decode cX4_init 12 = .ok (.putfield 12, 3) := by decide +kernel
theorem dX4_init_15 : decode cX4_init 15 = .ok (.aload_n 0, 1) := by decide +kernel
theorem dX4_init_16 : decode cX4_init 16 = .ok (.iconst 5, 1) := by decide +kernel
theorem dX4_init_17 : decode cX4_init 17 = .ok (.newarray .int, 2) := by decide +kernel
theorem dX4_init_19 : decode cX4_init 19 = .ok (.putfield 18, 3) := by decide +kernel
theorem dX4_init_22 : decode cX4_init 22 = .ok (.aload_n 0, 1) := by decide +kernel
theorem dX4_init_23 : decode cX4_init 23 = .ok (.iconst 5, 1) := by decide +kernel
theorem dX4_init_24 : decode cX4_init 24 = .ok (.newarray .int, 2) := by decide +kernel
theorem dX4_init_26 : decode cX4_init 26 = .ok (.putfield 22, 3) := by decide +kernel
theorem dX4_init_29 : decode cX4_init 29 = .ok (.return_, 1) := by decide +kernel
theorem dX4_seek_0 : decode cX4_seek 0 = .ok (.aload_n 0, 1) := by decide +kernel
theorem dX4_seek_1 : decode cX4_seek 1 = .ok (.getfield 12, 3) := by decide +kernel
theorem dX4_seek_4 : decode cX4_seek 4 = .ok (.aload_n 1, 1) := by decide +kernel
theorem dX4_seek_5 : decode cX4_seek 5 = .ok (.getfield 25, 3) := by decide +kernel
theorem dX4_seek_8 : decode cX4_seek 8 = .ok (.invokevirtual 28, 3) := by decide +kernel
theorem dX4_seek_11 : decode cX4_seek 11 = .ok (.aload_n 0, 1) := by decide +kernel
theorem dX4_seek_12 : decode cX4_seek 12 = .ok (.getfield 12, 3) := by decide +kernel
theorem dX4_seek_15 : decode cX4_seek 15 = .ok (.getfield 32, 3) := by decide +kernel
theorem dX4_seek_18 : decode cX4_seek 18 = .ok (.iconst 0, 1) := by decide +kernel
theorem dX4_seek_19 : decode cX4_seek 19 = .ok (.invokestatic 35, 3) := by decide +kernel
theorem dX4_seek_22 : decode cX4_seek 22 = .ok (.aload_n 0, 1) := by decide +kernel
theorem dX4_seek_23 : decode cX4_seek 23 = .ok (.iconst 0, 1) := by decide +kernel
theorem dX4_seek_24 : decode cX4_seek 24 = .ok (.putfield 41, 3) := by decide +kernel
theorem dX4_seek_27 : decode cX4_seek 27 = .ok (.aload_n 0, 1) := by decide +kernel
theorem dX4_seek_28 : decode cX4_seek 28 = .ok (.iconst 0, 1) := by decide +kernel
theorem dX4_seek_29 : decode cX4_seek 29 = .ok (.putfield 45, 3) := by decide +kernel
theorem dX4_seek_32 : decode cX4_seek 32 = .ok (.aload_n 0, 1) := by decide +kernel
theorem dX4_seek_33 : decode cX4_seek 33 = .ok (.aload_n 1, 1) := by decide +kernel
theorem dX4_seek_34 : decode cX4_seek 34 = .ok (.iconst 0, 1) := by decide +kernel
theorem dX4_seek_35 : decode cX4_seek 35 = .ok (.invokestatic 49, 3) := by decide +kernel
theorem dX4_seek_38 : decode cX4_seek 38 = .ok (.return_, 1) := by decide +kernel
theorem dX4_settle_0 : decode cX4_settle 0 = .ok (.aload_n 0, 1) := by decide +kernel
theorem dX4_settle_1 : decode cX4_settle 1 = .ok (.getfield 12, 3) := by decide +kernel
theorem dX4_settle_4 : decode cX4_settle 4 = .ok (.invokevirtual 53, 3) := by decide +kernel
theorem dX4_settle_7 : decode cX4_settle 7 = .ok (.istore_n 3, 1) := by decide +kernel
theorem dX4_settle_8 : decode cX4_settle 8 = .ok (.iload_n 3, 1) := by decide +kernel
theorem dX4_settle_9 : decode cX4_settle 9 = .ok (.aload_n 0, 1) := by decide +kernel
theorem dX4_settle_10 : decode cX4_settle 10 = .ok (.getfield 41, 3) := by decide +kernel
theorem dX4_settle_13 : decode cX4_settle 13 = .ok (.if_icmp .gt 4, 3) := by decide +kernel
theorem dX4_settle_16 : decode cX4_settle 16 = .ok (.return_, 1) := by decide +kernel
theorem dX4_settle_17 : decode cX4_settle 17 = .ok (.iload_n 2, 1) := by decide +kernel
theorem dX4_settle_18 : decode cX4_settle 18 = .ok (.ifCond .lt 16, 3) := by decide +kernel
theorem dX4_settle_21 : decode cX4_settle 21 = .ok (.iload_n 2, 1) := by decide +kernel
theorem dX4_settle_22 : decode cX4_settle 22 = .ok (.aload_n 1, 1) := by decide +kernel
theorem dX4_settle_23 : decode cX4_settle 23 = .ok (.getfield 57, 3) := by decide +kernel
theorem dX4_settle_26 : decode cX4_settle 26 = .ok (.if_icmp .ge 8, 3) := by decide +kernel
theorem dX4_settle_29 : decode cX4_settle 29 = .ok (.iload_n 2, 1) := by decide +kernel
theorem dX4_settle_30 : decode cX4_settle 30 = .ok (.iconst 5, 1) := by decide +kernel
theorem dX4_settle_31 : decode cX4_settle 31 = .ok (.if_icmp .lt 9, 3) := by decide +kernel
theorem dX4_settle_34 : decode cX4_settle 34 = .ok (.aload_n 0, 1) := by decide +kernel
theorem dX4_settle_35 : decode cX4_settle 35 = .ok (.iload_n 3, 1) := by decide +kernel
theorem dX4_settle_36 : decode cX4_settle 36 = .ok (.invokevirtual 60, 3) := by decide +kernel
theorem dX4_settle_39 : decode cX4_settle 39 = .ok (.return_, 1) := by decide +kernel
theorem dX4_settle_40 : decode cX4_settle 40 = .ok (.aload_n 1, 1) := by decide +kernel
theorem dX4_settle_41 : decode cX4_settle 41 = .ok (.iload_n 2, 1) := by decide +kernel
theorem dX4_settle_42 : decode cX4_settle 42 = .ok (.invokevirtual 64, 3) := by decide +kernel
theorem dX4_settle_45 : decode cX4_settle 45 = .ok (.istore 4, 2) := by decide +kernel
theorem dX4_settle_47 : decode cX4_settle 47 = .ok (.iconst 0, 1) := by decide +kernel
theorem dX4_settle_48 : decode cX4_settle 48 = .ok (.istore 5, 2) := by decide +kernel
theorem dX4_settle_50 : decode cX4_settle 50 = .ok (.iload 5, 2) := by decide +kernel
theorem dX4_settle_52 : decode cX4_settle 52 = .ok (.bipush 6, 2) := by decide +kernel
theorem dX4_settle_54 : decode cX4_settle 54 = .ok (.if_icmp .ge 67, 3) := by decide +kernel
theorem dX4_settle_57 : decode cX4_settle 57 = .ok (.aload_n 0, 1) := by decide +kernel
theorem dX4_settle_58 : decode cX4_settle 58 = .ok (.getfield 12, 3) := by decide +kernel
theorem dX4_settle_61 : decode cX4_settle 61 = .ok (.iload 5, 2) := by decide +kernel
theorem dX4_settle_63 : decode cX4_settle 63 = .ok (.invokevirtual 68, 3) := by decide +kernel
theorem dX4_settle_66 : decode cX4_settle 66 = .ok (.ifCond .eq 49, 3) := by decide +kernel
theorem dX4_settle_69 : decode cX4_settle 69 = .ok (.aload_n 0, 1) := by decide +kernel
theorem dX4_settle_70 : decode cX4_settle 70 = .ok (.getfield 18, 3) := by decide +kernel
theorem dX4_settle_73 : decode cX4_settle 73 = .ok (.iload_n 2, 1) := by decide +kernel
theorem dX4_settle_74 : decode cX4_settle 74 = .ok (.iload 5, 2) := by decide +kernel
theorem dX4_settle_76 : decode cX4_settle 76 = .ok (.iastore, 1) := by decide +kernel
theorem dX4_settle_77 : decode cX4_settle 77 = .ok (.aload_n 0, 1) := by decide +kernel
theorem dX4_settle_78 : decode cX4_settle 78 = .ok (.getfield 12, 3) := by decide +kernel
theorem dX4_settle_81 : decode cX4_settle 81 = .ok (.getfield 32, 3) := by decide +kernel
theorem dX4_settle_84 : decode cX4_settle 84 = .ok (.iload 5, 2) := by decide +kernel
theorem dX4_settle_86 : decode cX4_settle 86 = .ok (.dup2, 1) := by decide +kernel
theorem dX4_settle_87 : decode cX4_settle 87 = .ok (.iaload, 1) := by decide +kernel
theorem dX4_settle_88 : decode cX4_settle 88 = .ok (.iload 4, 2) := by decide +kernel
theorem dX4_settle_90 : decode cX4_settle 90 = .ok (.iadd, 1) := by decide +kernel
theorem dX4_settle_91 : decode cX4_settle 91 = .ok (.iastore, 1) := by decide +kernel
theorem dX4_settle_92 : decode cX4_settle 92 = .ok (.aload_n 0, 1) := by decide +kernel
theorem dX4_settle_93 : decode cX4_settle 93 = .ok (.aload_n 1, 1) := by decide +kernel
theorem dX4_settle_94 : decode cX4_settle 94 = .ok (.iload_n 2, 1) := by decide +kernel
theorem dX4_settle_95 : decode cX4_settle 95 = .ok (.iconst 1, 1) := by decide +kernel
theorem dX4_settle_96 : decode cX4_settle 96 = .ok (.iadd, 1) := by decide +kernel
theorem dX4_settle_97 : decode cX4_settle 97 = .ok (.invokestatic 49, 3) := by decide +kernel
theorem dX4_settle_100 : decode cX4_settle 100 = .ok (.aload_n 0, 1) := by decide +kernel
theorem dX4_settle_101 : decode cX4_settle 101 = .ok (.getfield 12, 3) := by decide +kernel
theorem dX4_settle_104 : decode cX4_settle 104 = .ok (.getfield 32, 3) := by decide +kernel
theorem dX4_settle_107 : decode cX4_settle 107 = .ok (.iload 5, 2) := by decide +kernel
theorem dX4_settle_109 : decode cX4_settle 109 = .ok (.dup2, 1) := by decide +kernel
theorem dX4_settle_110 : decode cX4_settle 110 = .ok (.iaload, 1) := by decide +kernel
theorem dX4_settle_111 : decode cX4_settle 111 = .ok (.iload 4, 2) := by decide +kernel
theorem dX4_settle_113 : decode cX4_settle 113 = .ok (.isub, 1) := by decide +kernel
theorem dX4_settle_114 : decode cX4_settle 114 = .ok (.iastore, 1) := by decide +kernel
theorem dX4_settle_115 : decode cX4_settle 115 = .ok (.iinc 5 1, 3) := by decide +kernel
theorem dX4_settle_118 : decode cX4_settle 118 = .ok (.goto (-68), 3) := by decide +kernel
theorem dX4_settle_121 : decode cX4_settle 121 = .ok (.return_, 1) := by decide +kernel
theorem dX4_keep_0 : decode cX4_keep 0 = .ok (.aload_n 0, 1) := by decide +kernel
theorem dX4_keep_1 : decode cX4_keep 1 = .ok (.iconst 1, 1) := by decide +kernel
theorem dX4_keep_2 : decode cX4_keep 2 = .ok (.putfield 45, 3) := by decide +kernel
theorem dX4_keep_5 : decode cX4_keep 5 = .ok (.aload_n 0, 1) := by decide +kernel
theorem dX4_keep_6 : decode cX4_keep 6 = .ok (.iload_n 1, 1) := by decide +kernel
theorem dX4_keep_7 : decode cX4_keep 7 = .ok (.putfield 41, 3) := by decide +kernel
theorem dX4_keep_10 : decode cX4_keep 10 = .ok (.aload_n 0, 1) := by decide +kernel
theorem dX4_keep_11 : decode cX4_keep 11 = .ok (.getfield 18, 3) := by decide +kernel
theorem dX4_keep_14 : decode cX4_keep 14 = .ok (.iconst 0, 1) := by decide +kernel
theorem dX4_keep_15 : decode cX4_keep 15 = .ok (.aload_n 0, 1) := by decide +kernel
theorem dX4_keep_16 : decode cX4_keep 16 = .ok (.getfield 22, 3) := by decide +kernel
theorem dX4_keep_19 : decode cX4_keep 19 = .ok (.iconst 0, 1) := by decide +kernel
theorem dX4_keep_20 : decode cX4_keep 20 = .ok (.iconst 5, 1) := by decide +kernel
theorem dX4_keep_21 : decode cX4_keep 21 = .ok (.invokestatic 72, 3) := by decide +kernel
theorem dX4_keep_24 : decode cX4_keep 24 = .ok (.return_, 1) := by decide +kernel
theorem dX5_init_0 : decode cX5_init 0 = .ok (.aload_n 0, 1) := by decide +kernel
theorem dX5_init_1 : decode cX5_init 1 = .ok (.invokespecial 3, 3) := by decide +kernel
theorem dX5_init_4 : decode cX5_init 4 = .ok (.aload_n 0, 1) := by decide +kernel
theorem dX5_init_5 : decode cX5_init 5 = .ok (.new 9, 3) := by decide +kernel
theorem dX5_init_8 : decode cX5_init 8 = .ok (.dup, 1) := by decide +kernel
theorem dX5_init_9 : decode cX5_init 9 = .ok (.invokespecial 11, 3) := by decide +kernel
theorem dX5_init_12 : decode cX5_init 12 = .ok (.putfield 12, 3) := by decide +kernel
theorem dX5_init_15 : decode cX5_init 15 = .ok (.aload_n 0, 1) := by decide +kernel
theorem dX5_init_16 : decode cX5_init 16 = .ok (.bipush 6, 2) := by decide +kernel
theorem dX5_init_18 : decode cX5_init 18 = .ok (.newarray .int, 2) := by decide +kernel
theorem dX5_init_20 : decode cX5_init 20 = .ok (.putfield 18, 3) := by decide +kernel
theorem dX5_init_23 : decode cX5_init 23 = .ok (.aload_n 0, 1) := by decide +kernel
theorem dX5_init_24 : decode cX5_init 24 = .ok (.bipush 10, 2) := by decide +kernel
theorem dX5_init_26 : decode cX5_init 26 = .ok (.newarray .int, 2) := by decide +kernel
theorem dX5_init_28 : decode cX5_init 28 = .ok (.putfield 22, 3) := by decide +kernel
theorem dX5_init_31 : decode cX5_init 31 = .ok (.return_, 1) := by decide +kernel
theorem dX5_sound_0 : decode cX5_sound 0 = .ok (.aload_n 0, 1) := by decide +kernel
theorem dX5_sound_1 : decode cX5_sound 1 = .ok (.iconst 0, 1) := by decide +kernel
theorem dX5_sound_2 : decode cX5_sound 2 = .ok (.putfield 25, 3) := by decide +kernel
theorem dX5_sound_5 : decode cX5_sound 5 = .ok (.iload_n 3, 1) := by decide +kernel
theorem dX5_sound_6 : decode cX5_sound 6 = .ok (.ifCond .lt 9, 3) := by decide +kernel
theorem dX5_sound_9 : decode cX5_sound 9 = .ok (.iload_n 3, 1) := by decide +kernel
theorem dX5_sound_10 : decode cX5_sound 10 = .ok (.bipush 6, 2) := by decide +kernel
theorem dX5_sound_12 : decode cX5_sound 12 = .ok (.if_icmp .lt 4, 3) := by decide +kernel
theorem dX5_sound_15 : decode cX5_sound 15 = .ok (.return_, 1) := by decide +kernel
theorem dX5_sound_16 : decode cX5_sound 16 = .ok (.bipush 10, 2) := by decide +kernel
theorem dX5_sound_18 : decode cX5_sound 18 = .ok (.aload_n 2, 1) := by decide +kernel
theorem dX5_sound_19 : decode cX5_sound 19 = .ok (.invokevirtual 29, 3) := by decide +kernel
theorem dX5_sound_22 : decode cX5_sound 22 = .ok (.invokestatic 35, 3) := by decide +kernel
theorem dX5_sound_25 : decode cX5_sound 25 = .ok (.istore 4, 2) := by decide +kernel
theorem dX5_sound_27 : decode cX5_sound 27 = .ok (.iconst 0, 1) := by decide +kernel
theorem dX5_sound_28 : decode cX5_sound 28 = .ok (.istore 5, 2) := by decide +kernel
theorem dX5_sound_30 : decode cX5_sound 30 = .ok (.iload 5, 2) := by decide +kernel
theorem dX5_sound_32 : decode cX5_sound 32 = .ok (.bipush 10, 2) := by decide +kernel
theorem dX5_sound_34 : decode cX5_sound 34 = .ok (.if_icmp .ge 75, 3) := by decide +kernel
theorem dX5_sound_37 : decode cX5_sound 37 = .ok (.aload_n 0, 1) := by decide +kernel
theorem dX5_sound_38 : decode cX5_sound 38 = .ok (.getfield 12, 3) := by decide +kernel
theorem dX5_sound_41 : decode cX5_sound 41 = .ok (.aload_n 1, 1) := by decide +kernel
theorem dX5_sound_42 : decode cX5_sound 42 = .ok (.invokevirtual 41, 3) := by decide +kernel
theorem dX5_sound_45 : decode cX5_sound 45 = .ok (.aload_n 0, 1) := by decide +kernel
theorem dX5_sound_46 : decode cX5_sound 46 = .ok (.getfield 12, 3) := by decide +kernel
theorem dX5_sound_49 : decode cX5_sound 49 = .ok (.getfield 45, 3) := by decide +kernel
theorem dX5_sound_52 : decode cX5_sound 52 = .ok (.iload_n 3, 1) := by decide +kernel
theorem dX5_sound_53 : decode cX5_sound 53 = .ok (.iload 5, 2) := by decide +kernel
theorem dX5_sound_55 : decode cX5_sound 55 = .ok (.iastore, 1) := by decide +kernel
theorem dX5_sound_56 : decode cX5_sound 56 = .ok (.aload_n 0, 1) := by decide +kernel
theorem dX5_sound_57 : decode cX5_sound 57 = .ok (.iload 4, 2) := by decide +kernel
theorem dX5_sound_59 : decode cX5_sound 59 = .ok (.invokevirtual 48, 3) := by decide +kernel
theorem dX5_sound_62 : decode cX5_sound 62 = .ok (.aload_n 0, 1) := by decide +kernel
theorem dX5_sound_63 : decode cX5_sound 63 = .ok (.getfield 22, 3) := by decide +kernel
theorem dX5_sound_66 : decode cX5_sound 66 = .ok (.iload 5, 2) := by decide +kernel
theorem dX5_sound_68 : decode cX5_sound 68 = .ok (.aload_n 0, 1) := by decide +kernel
theorem dX5_sound_69 : decode cX5_sound 69 = .ok (.getfield 18, 3) := by decide +kernel
theorem dX5_sound_72 : decode cX5_sound 72 = .ok (.iload_n 3, 1) := by decide +kernel
theorem dX5_sound_73 : decode cX5_sound 73 = .ok (.iaload, 1) := by decide +kernel
theorem dX5_sound_74 : decode cX5_sound 74 = .ok (.iastore, 1) := by decide +kernel
theorem dX5_sound_75 : decode cX5_sound 75 = .ok (.aload_n 0, 1) := by decide +kernel
theorem dX5_sound_76 : decode cX5_sound 76 = .ok (.dup, 1) := by decide +kernel
theorem dX5_sound_77 : decode cX5_sound 77 = .ok (.getfield 25, 3) := by decide +kernel
theorem dX5_sound_80 : decode cX5_sound 80 = .ok (.aload_n 2, 1) := by decide +kernel
theorem dX5_sound_81 : decode cX5_sound 81 = .ok (.aload_n 0, 1) := by decide +kernel
theorem dX5_sound_82 : decode cX5_sound 82 = .ok (.getfield 18, 3) := by decide +kernel
theorem dX5_sound_85 : decode cX5_sound 85 = .ok (.invokevirtual 52, 3) := by decide +kernel
theorem dX5_sound_88 : decode cX5_sound 88 = .ok (.ifCond .eq 10, 3) := by decide +kernel
theorem dX5_sound_91 : decode cX5_sound 91 = .ok (.iconst 1, 1) := by decide +kernel
theorem dX5_sound_92 : decode cX5_sound 92 = .ok (.iload 5, 2) := by decide +kernel
theorem dX5_sound_94 : decode cX5_sound 94 = .ok (.ishl, 1) := by decide +kernel
theorem dX5_sound_95 : decode cX5_sound 95 = .ok (.goto 4, 3) := by decide +kernel
theorem dX5_sound_98 : decode cX5_sound 98 = .ok (.iconst 0, 1) := by decide +kernel
theorem dX5_sound_99 : decode cX5_sound 99 = .ok (.ior, 1) := by decide +kernel
theorem dX5_sound_100 : decode cX5_sound 100 = .ok (.putfield 25, 3) := by decide +kernel
theorem dX5_sound_103 : decode cX5_sound 103 = .ok (.iinc 5 1, 3) := by decide +kernel
theorem dX5_sound_106 : decode cX5_sound 106 = .ok (.goto (-76), 3) := by decide +kernel
theorem dX5_sound_109 : decode cX5_sound 109 = .ok (.return_, 1) := by decide +kernel
theorem dX5_bestDay_0 : decode cX5_bestDay 0 = .ok (.aload_n 0, 1) := by decide +kernel
theorem dX5_bestDay_1 : decode cX5_bestDay 1 = .ok (.getfield 25, 3) := by decide +kernel
theorem dX5_bestDay_4 : decode cX5_bestDay 4 = .ok (.ifCond .ne 5, 3) := by decide +kernel
theorem dX5_bestDay_7 : decode cX5_bestDay 7 = .ok (.iconst (-1), 1) := by decide +kernel
theorem dX5_bestDay_8 : decode cX5_bestDay 8 = .ok (.ireturn, 1) := by decide +kernel
theorem dX5_bestDay_9 : decode cX5_bestDay 9 = .ok (.iconst 1, 1) := by decide +kernel
theorem dX5_bestDay_10 : decode cX5_bestDay 10 = .ok (.istore_n 1, 1) := by decide +kernel
theorem dX5_bestDay_11 : decode cX5_bestDay 11 = .ok (.bipush 11, 2) := by decide +kernel
theorem dX5_bestDay_13 : decode cX5_bestDay 13 = .ok (.istore_n 2, 1) := by decide +kernel
theorem dX5_bestDay_14 : decode cX5_bestDay 14 = .ok (.iconst 1, 1) := by decide +kernel
theorem dX5_bestDay_15 : decode cX5_bestDay 15 = .ok (.istore_n 3, 1) := by decide +kernel
theorem dX5_bestDay_16 : decode cX5_bestDay 16 = .ok (.iload_n 3, 1) := by decide +kernel
theorem dX5_bestDay_17 : decode cX5_bestDay 17 = .ok (.bipush 10, 2) := by decide +kernel
theorem dX5_bestDay_19 : decode cX5_bestDay 19 = .ok (.if_icmp .gt 27, 3) := by decide +kernel
theorem dX5_bestDay_22 : decode cX5_bestDay 22 = .ok (.aload_n 0, 1) := by decide +kernel
theorem dX5_bestDay_23 : decode cX5_bestDay 23 = .ok (.iload_n 3, 1) := by decide +kernel
theorem dX5_bestDay_24 : decode cX5_bestDay 24 = .ok (.invokevirtual 56, 3) := by decide +kernel
theorem dX5_bestDay_27 : decode cX5_bestDay 27 = .ok (.istore 4, 2) := by decide +kernel
theorem dX5_bestDay_29 : decode cX5_bestDay 29 = .ok (.iload 4, 2) := by decide +kernel
theorem dX5_bestDay_31 : decode cX5_bestDay 31 = .ok (.iload_n 2, 1) := by decide +kernel
theorem dX5_bestDay_32 : decode cX5_bestDay 32 = .ok (.if_icmp .ge 8, 3) := by decide +kernel
theorem dX5_bestDay_35 : decode cX5_bestDay 35 = .ok (.iload 4, 2) := by decide +kernel
theorem dX5_bestDay_37 : decode cX5_bestDay 37 = .ok (.istore_n 2, 1) := by decide +kernel
theorem dX5_bestDay_38 : decode cX5_bestDay 38 = .ok (.iload_n 3, 1) := by decide +kernel
theorem dX5_bestDay_39 : decode cX5_bestDay 39 = .ok (.istore_n 1, 1) := by decide +kernel
theorem dX5_bestDay_40 : decode cX5_bestDay 40 = .ok (.iinc 3 1, 3) := by decide +kernel
theorem dX5_bestDay_43 : decode cX5_bestDay 43 = .ok (.goto (-27), 3) := by decide +kernel
theorem dX5_bestDay_46 : decode cX5_bestDay 46 = .ok (.iload_n 1, 1) := by decide +kernel
theorem dX5_bestDay_47 : decode cX5_bestDay 47 = .ok (.ireturn, 1) := by decide +kernel
theorem dX5_leftAtWorst_0 : decode cX5_leftAtWorst 0 = .ok (.iconst 0, 1) := by decide +kernel
theorem dX5_leftAtWorst_1 : decode cX5_leftAtWorst 1 = .ok (.istore_n 2, 1) := by decide +kernel
theorem dX5_leftAtWorst_2 : decode cX5_leftAtWorst 2 = .ok (.iconst 0, 1) := by decide +kernel
theorem dX5_leftAtWorst_3 : decode cX5_leftAtWorst 3 = .ok (.istore_n 3, 1) := by decide +kernel
theorem dX5_leftAtWorst_4 : decode cX5_leftAtWorst 4 = .ok (.iload_n 3, 1) := by decide +kernel
theorem dX5_leftAtWorst_5 : decode cX5_leftAtWorst 5 = .ok (.bipush 10, 2) := by decide +kernel
theorem dX5_leftAtWorst_7 : decode cX5_leftAtWorst 7 = .ok (.if_icmp .ge 34, 3) := by decide +kernel
theorem dX5_leftAtWorst_10 : decode cX5_leftAtWorst 10 = .ok (.iload_n 2, 1) := by decide +kernel
theorem dX5_leftAtWorst_11 : decode cX5_leftAtWorst 11 = .ok (.iload_n 1, 1) := by decide +kernel
theorem dX5_leftAtWorst_12 : decode cX5_leftAtWorst 12 = .ok (.aload_n 0, 1) := by decide +kernel
theorem dX5_leftAtWorst_13 : decode cX5_leftAtWorst 13 = .ok (.getfield 22, 3) := by decide +kernel
theorem dX5_leftAtWorst_16 : decode cX5_leftAtWorst 16 = .ok (.iload_n 3, 1) := by decide +kernel
theorem dX5_leftAtWorst_17 : decode cX5_leftAtWorst 17 = .ok (.iaload, 1) := by decide +kernel
theorem dX5_leftAtWorst_18 : decode cX5_leftAtWorst 18 = .ok (.if_icmp .ge 14, 3) := by decide +kernel
theorem dX5_leftAtWorst_21 : decode cX5_leftAtWorst 21 = .ok (.aload_n 0, 1) := by decide +kernel
theorem dX5_leftAtWorst_22 : decode cX5_leftAtWorst 22 = .ok (.getfield 25, 3) := by decide +kernel
theorem dX5_leftAtWorst_25 : decode cX5_leftAtWorst 25 = .ok (.iload_n 3, 1) := by decide +kernel
theorem dX5_leftAtWorst_26 : decode cX5_leftAtWorst 26 = .ok (.ishr, 1) := by decide +kernel
theorem dX5_leftAtWorst_27 : decode cX5_leftAtWorst 27 = .ok (.iconst 1, 1) := by decide +kernel
theorem dX5_leftAtWorst_28 : decode cX5_leftAtWorst 28 = .ok (.iand, 1) := by decide +kernel
theorem dX5_leftAtWorst_29 : decode cX5_leftAtWorst 29 = .ok (.goto 4, 3) := by decide +kernel
theorem dX5_leftAtWorst_32 : decode cX5_leftAtWorst 32 = .ok (.iconst 0, 1) := by decide +kernel
theorem dX5_leftAtWorst_33 : decode cX5_leftAtWorst 33 = .ok (.iadd, 1) := by decide +kernel
theorem dX5_leftAtWorst_34 : decode cX5_leftAtWorst 34 = .ok (.istore_n 2, 1) := by decide +kernel
theorem dX5_leftAtWorst_35 : decode cX5_leftAtWorst 35 = .ok (.iinc 3 1, 3) := by decide +kernel
theorem dX5_leftAtWorst_38 : decode cX5_leftAtWorst 38 = .ok (.goto (-34), 3) := by decide +kernel
theorem dX5_leftAtWorst_41 : decode cX5_leftAtWorst 41 = .ok (.iload_n 2, 1) := by decide +kernel
theorem dX5_leftAtWorst_42 : decode cX5_leftAtWorst 42 = .ok (.aload_n 0, 1) := by decide +kernel
theorem dX5_leftAtWorst_43 : decode cX5_leftAtWorst 43 = .ok (.getfield 25, 3) := by decide +kernel
theorem dX5_leftAtWorst_46 : decode cX5_leftAtWorst 46 = .ok (.invokestatic 60, 3) := by decide +kernel
theorem dX5_leftAtWorst_49 : decode cX5_leftAtWorst 49 = .ok (.iload_n 2, 1) := by decide +kernel
theorem dX5_leftAtWorst_50 : decode cX5_leftAtWorst 50 = .ok (.isub, 1) := by decide +kernel
theorem dX5_leftAtWorst_51 : decode cX5_leftAtWorst 51 = .ok (.invokestatic 35, 3) := by decide +kernel
theorem dX5_leftAtWorst_54 : decode cX5_leftAtWorst 54 = .ok (.ireturn, 1) := by decide +kernel
theorem dX5_liveDays_0 : decode cX5_liveDays 0 = .ok (.iconst 0, 1) := by decide +kernel
theorem dX5_liveDays_1 : decode cX5_liveDays 1 = .ok (.istore_n 2, 1) := by decide +kernel
theorem dX5_liveDays_2 : decode cX5_liveDays 2 = .ok (.iload_n 2, 1) := by decide +kernel
theorem dX5_liveDays_3 : decode cX5_liveDays 3 = .ok (.bipush 6, 2) := by decide +kernel
theorem dX5_liveDays_5 : decode cX5_liveDays 5 = .ok (.if_icmp .ge 32, 3) := by decide +kernel
theorem dX5_liveDays_8 : decode cX5_liveDays 8 = .ok (.aload_n 0, 1) := by decide +kernel
theorem dX5_liveDays_9 : decode cX5_liveDays 9 = .ok (.getfield 18, 3) := by decide +kernel
theorem dX5_liveDays_12 : decode cX5_liveDays 12 = .ok (.iload_n 2, 1) := by decide +kernel
theorem dX5_liveDays_13 : decode cX5_liveDays 13 = .ok (.aload_n 0, 1) := by decide +kernel
theorem dX5_liveDays_14 : decode cX5_liveDays 14 = .ok (.getfield 12, 3) := by decide +kernel
theorem dX5_liveDays_17 : decode cX5_liveDays 17 = .ok (.iload_n 2, 1) := by decide +kernel
theorem dX5_liveDays_18 : decode cX5_liveDays 18 = .ok (.invokevirtual 65, 3) := by decide +kernel
theorem dX5_liveDays_21 : decode cX5_liveDays 21 = .ok (.ifCond .eq 8, 3) := by decide +kernel
theorem dX5_liveDays_24 : decode cX5_liveDays 24 = .ok (.bipush 41, 2) := by decide +kernel
theorem dX5_liveDays_26 : decode cX5_liveDays 26 = .ok (.goto 4, 3) := by decide +kernel
theorem dX5_liveDays_29 : decode cX5_liveDays 29 = .ok (.iconst 0, 1) := by decide +kernel
theorem dX5_liveDays_30 : decode cX5_liveDays 30 = .ok (.iastore, 1) := by decide +kernel
theorem dX5_liveDays_31 : decode cX5_liveDays 31 = .ok (.iinc 2 1, 3) := by decide +kernel
theorem dX5_liveDays_34 : decode cX5_liveDays 34 = .ok (.goto (-32), 3) := by decide +kernel
theorem dX5_liveDays_37 : decode cX5_liveDays 37 = .ok (.iconst 1, 1) := by decide +kernel
theorem dX5_liveDays_38 : decode cX5_liveDays 38 = .ok (.istore_n 2, 1) := by decide +kernel
theorem dX5_liveDays_39 : decode cX5_liveDays 39 = .ok (.iload_n 2, 1) := by decide +kernel
theorem dX5_liveDays_40 : decode cX5_liveDays 40 = .ok (.iload_n 1, 1) := by decide +kernel
theorem dX5_liveDays_41 : decode cX5_liveDays 41 = .ok (.if_icmp .gt 66, 3) := by decide +kernel
theorem dX5_liveDays_44 : decode cX5_liveDays 44 = .ok (.iload_n 2, 1) := by decide +kernel
theorem dX5_liveDays_45 : decode cX5_liveDays 45 = .ok (.bipush 20, 2) := by decide +kernel
theorem dX5_liveDays_47 : decode cX5_liveDays 47 = .ok (.if_icmp .gt 60, 3) := by decide +kernel
theorem dX5_liveDays_50 : decode cX5_liveDays 50 = .ok (.aload_n 0, 1) := by decide +kernel
theorem dX5_liveDays_51 : decode cX5_liveDays 51 = .ok (.getfield 12, 3) := by decide +kernel
theorem dX5_liveDays_54 : decode cX5_liveDays 54 = .ok (.invokevirtual 69, 3) := by decide +kernel
theorem dX5_liveDays_57 : decode cX5_liveDays 57 = .ok (.pop, 1) := by decide +kernel
theorem dX5_liveDays_58 : decode cX5_liveDays 58 = .ok (.iconst 0, 1) := by decide +kernel
theorem dX5_liveDays_59 : decode cX5_liveDays 59 = .ok (.istore_n 3, 1) := by decide +kernel
theorem dX5_liveDays_60 : decode cX5_liveDays 60 = .ok (.iload_n 3, 1) := by decide +kernel
theorem dX5_liveDays_61 : decode cX5_liveDays 61 = .ok (.bipush 6, 2) := by decide +kernel
theorem dX5_liveDays_63 : decode cX5_liveDays 63 = .ok (.if_icmp .ge 38, 3) := by decide +kernel
theorem dX5_liveDays_66 : decode cX5_liveDays 66 = .ok (.aload_n 0, 1) := by decide +kernel
theorem dX5_liveDays_67 : decode cX5_liveDays 67 = .ok (.getfield 18, 3) := by decide +kernel
theorem dX5_liveDays_70 : decode cX5_liveDays 70 = .ok (.iload_n 3, 1) := by decide +kernel
theorem dX5_liveDays_71 : decode cX5_liveDays 71 = .ok (.iaload, 1) := by decide +kernel
theorem dX5_liveDays_72 : decode cX5_liveDays 72 = .ok (.bipush 41, 2) := by decide +kernel
theorem dX5_liveDays_74 : decode cX5_liveDays 74 = .ok (.if_icmp .ne 21, 3) := by decide +kernel
theorem dX5_liveDays_77 : decode cX5_liveDays 77 = .ok (.aload_n 0, 1) := by decide +kernel
theorem dX5_liveDays_78 : decode cX5_liveDays 78 = .ok (.getfield 12, 3) := by decide +kernel
theorem dX5_liveDays_81 : decode cX5_liveDays 81 = .ok (.iload_n 3, 1) := by decide +kernel
theorem dX5_liveDays_82 : decode cX5_liveDays 82 = .ok (.invokevirtual 65, 3) := by decide +kernel
theorem dX5_liveDays_85 : decode cX5_liveDays 85 = .ok (.ifCond .ne 10, 3) := by decide +kernel
theorem dX5_liveDays_88 : decode cX5_liveDays 88 = .ok (.aload_n 0, 1) := by decide +kernel
theorem dX5_liveDays_89 : decode cX5_liveDays 89 = .ok (.getfield 18, 3) := by decide +kernel
theorem dX5_liveDays_92 : decode cX5_liveDays 92 = .ok (.iload_n 3, 1) := by decide +kernel
theorem dX5_liveDays_93 : decode cX5_liveDays 93 = .ok (.iload_n 2, 1) := by decide +kernel
theorem dX5_liveDays_94 : decode cX5_liveDays 94 = .ok (.iastore, 1) := by decide +kernel
theorem dX5_liveDays_95 : decode cX5_liveDays 95 = .ok (.iinc 3 1, 3) := by decide +kernel
theorem dX5_liveDays_98 : decode cX5_liveDays 98 = .ok (.goto (-38), 3) := by decide +kernel
theorem dX5_liveDays_101 : decode cX5_liveDays 101 = .ok (.iinc 2 1, 3) := by decide +kernel
theorem dX5_liveDays_104 : decode cX5_liveDays 104 = .ok (.goto (-65), 3) := by decide +kernel
theorem dX5_liveDays_107 : decode cX5_liveDays 107 = .ok (.return_, 1) := by decide +kernel
theorem dX6_init_0 : decode cX6_init 0 = .ok (.aload_n 0, 1) := by decide +kernel
theorem dX6_init_1 : decode cX6_init 1 = .ok (.invokespecial 3, 3) := by decide +kernel
theorem dX6_init_4 : decode cX6_init 4 = .ok (.aload_n 0, 1) := by decide +kernel
theorem dX6_init_5 : decode cX6_init 5 = .ok (.new 9, 3) := by decide +kernel
theorem dX6_init_8 : decode cX6_init 8 = .ok (.dup, 1) := by decide +kernel
theorem dX6_init_9 : decode cX6_init 9 = .ok (.invokespecial 11, 3) := by decide +kernel
theorem dX6_init_12 : decode cX6_init 12 = .ok (.putfield 12, 3) := by decide +kernel
theorem dX6_init_15 : decode cX6_init 15 = .ok (.aload_n 0, 1) := by decide +kernel
theorem dX6_init_16 : decode cX6_init 16 = .ok (.iconst 5, 1) := by decide +kernel
theorem dX6_init_17 : decode cX6_init 17 = .ok (.newarray .int, 2) := by decide +kernel
theorem dX6_init_19 : decode cX6_init 19 = .ok (.putfield 18, 3) := by decide +kernel
theorem dX6_init_22 : decode cX6_init 22 = .ok (.aload_n 0, 1) := by decide +kernel
theorem dX6_init_23 : decode cX6_init 23 = .ok (.iconst 5, 1) := by decide +kernel
theorem dX6_init_24 : decode cX6_init 24 = .ok (.newarray .int, 2) := by decide +kernel
theorem dX6_init_26 : decode cX6_init 26 = .ok (.putfield 22, 3) := by decide +kernel
theorem dX6_init_29 : decode cX6_init 29 = .ok (.return_, 1) := by decide +kernel
theorem dX6_open_0 : decode cX6_open 0 = .ok (.iconst 0, 1) := by decide +kernel
theorem dX6_open_1 : decode cX6_open 1 = .ok (.istore_n 2, 1) := by decide +kernel
theorem dX6_open_2 : decode cX6_open 2 = .ok (.iload_n 2, 1) := by decide +kernel
theorem dX6_open_3 : decode cX6_open 3 = .ok (.bipush 6, 2) := by decide +kernel
theorem dX6_open_5 : decode cX6_open 5 = .ok (.if_icmp .ge 33, 3) := by decide +kernel
theorem dX6_open_8 : decode cX6_open 8 = .ok (.aload_n 0, 1) := by decide +kernel
theorem dX6_open_9 : decode cX6_open 9 = .ok (.getfield 12, 3) := by decide +kernel
theorem dX6_open_12 : decode cX6_open 12 = .ok (.getfield 25, 3) := by decide +kernel
theorem dX6_open_15 : decode cX6_open 15 = .ok (.iload_n 2, 1) := by decide +kernel
theorem dX6_open_16 : decode cX6_open 16 = .ok (.aload_n 1, 1) := by decide +kernel
theorem dX6_open_17 : decode cX6_open 17 = .ok (.iload_n 2, 1) := by decide +kernel
theorem dX6_open_18 : decode cX6_open 18 = .ok (.invokevirtual 28, 3) := by decide +kernel
theorem dX6_open_21 : decode cX6_open 21 = .ok (.iastore, 1) := by decide +kernel
theorem dX6_open_22 : decode cX6_open 22 = .ok (.aload_n 0, 1) := by decide +kernel
theorem dX6_open_23 : decode cX6_open 23 = .ok (.getfield 12, 3) := by decide +kernel
theorem dX6_open_26 : decode cX6_open 26 = .ok (.getfield 34, 3) := by decide +kernel
theorem dX6_open_29 : decode cX6_open 29 = .ok (.iload_n 2, 1) := by decide +kernel
theorem dX6_open_30 : decode cX6_open 30 = .ok (.iconst 0, 1) := by decide +kernel
end
section
theorem dX6_open_31 : decode cX6_open 31 = .ok (.iastore, 1) := by decide +kernel
theorem dX6_open_32 : decode cX6_open 32 = .ok (.iinc 2 1, 3) := by decide +kernel
theorem dX6_open_35 : decode cX6_open 35 = .ok (.goto (-33), 3) := by decide +kernel
theorem dX6_open_38 : decode cX6_open 38 = .ok (.aload_n 0, 1) := by decide +kernel
theorem dX6_open_39 : decode cX6_open 39 = .ok (.aload_n 1, 1) := by decide +kernel
theorem dX6_open_40 : decode cX6_open 40 = .ok (.bipush 7, 2) := by decide +kernel
theorem dX6_open_42 : decode cX6_open 42 = .ok (.invokevirtual 28, 3) := by decide +kernel
theorem dX6_open_45 : decode cX6_open 45 = .ok (.putfield 37, 3) := by decide +kernel
theorem dX6_open_48 : decode cX6_open 48 = .ok (.aload_n 0, 1) := by decide +kernel
theorem dX6_open_49 : decode cX6_open 49 = .ok (.aload_n 1, 1) := by decide +kernel
theorem dX6_open_50 : decode cX6_open 50 = .ok (.bipush 8, 2) := by decide +kernel
theorem dX6_open_52 : decode cX6_open 52 = .ok (.invokevirtual 28, 3) := by decide +kernel
theorem dX6_open_55 : decode cX6_open 55 = .ok (.putfield 41, 3) := by decide +kernel
theorem dX6_open_58 : decode cX6_open 58 = .ok (.aload_n 0, 1) := by decide +kernel
theorem dX6_open_59 : decode cX6_open 59 = .ok (.iconst 0, 1) := by decide +kernel
theorem dX6_open_60 : decode cX6_open 60 = .ok (.putfield 44, 3) := by decide +kernel
theorem dX6_open_63 : decode cX6_open 63 = .ok (.aload_n 0, 1) := by decide +kernel
theorem dX6_open_64 : decode cX6_open 64 = .ok (.iconst 0, 1) := by decide +kernel
theorem dX6_open_65 : decode cX6_open 65 = .ok (.putfield 47, 3) := by decide +kernel
theorem dX6_open_68 : decode cX6_open 68 = .ok (.aload_n 0, 1) := by decide +kernel
theorem dX6_open_69 : decode cX6_open 69 = .ok (.iconst 0, 1) := by decide +kernel
theorem dX6_open_70 : decode cX6_open 70 = .ok (.putfield 50, 3) := by decide +kernel
theorem dX6_open_73 : decode cX6_open 73 = .ok (.aload_n 0, 1) := by decide +kernel
theorem dX6_open_74 : decode cX6_open 74 = .ok (.iconst 0, 1) := by decide +kernel
theorem dX6_open_75 : decode cX6_open 75 = .ok (.putfield 53, 3) := by decide +kernel
theorem dX6_open_78 : decode cX6_open 78 = .ok (.return_, 1) := by decide +kernel
theorem dX6_copyFrom_0 : decode cX6_copyFrom 0 = .ok (.aload_n 0, 1) := by decide +kernel
theorem dX6_copyFrom_1 : decode cX6_copyFrom 1 = .ok (.getfield 12, 3) := by decide +kernel
theorem dX6_copyFrom_4 : decode cX6_copyFrom 4 = .ok (.aload_n 1, 1) := by decide +kernel
theorem dX6_copyFrom_5 : decode cX6_copyFrom 5 = .ok (.getfield 12, 3) := by decide +kernel
theorem dX6_copyFrom_8 : decode cX6_copyFrom 8 = .ok (.invokevirtual 56, 3) := by decide +kernel
theorem dX6_copyFrom_11 : decode cX6_copyFrom 11 = .ok (.aload_n 1, 1) := by decide +kernel
theorem dX6_copyFrom_12 : decode cX6_copyFrom 12 = .ok (.getfield 18, 3) := by decide +kernel
theorem dX6_copyFrom_15 : decode cX6_copyFrom 15 = .ok (.iconst 0, 1) := by decide +kernel
theorem dX6_copyFrom_16 : decode cX6_copyFrom 16 = .ok (.aload_n 0, 1) := by decide +kernel
theorem dX6_copyFrom_17 : decode cX6_copyFrom 17 = .ok (.getfield 18, 3) := by decide +kernel
theorem dX6_copyFrom_20 : decode cX6_copyFrom 20 = .ok (.iconst 0, 1) := by decide +kernel
theorem dX6_copyFrom_21 : decode cX6_copyFrom 21 = .ok (.iconst 5, 1) := by decide +kernel
theorem dX6_copyFrom_22 : decode cX6_copyFrom 22 = .ok (.invokestatic 60, 3) := by decide +kernel
theorem dX6_copyFrom_25 : decode cX6_copyFrom 25 = .ok (.aload_n 1, 1) := by decide +kernel
theorem dX6_copyFrom_26 : decode cX6_copyFrom 26 = .ok (.getfield 22, 3) := by decide +kernel
theorem dX6_copyFrom_29 : decode cX6_copyFrom 29 = .ok (.iconst 0, 1) := by decide +kernel
theorem dX6_copyFrom_30 : decode cX6_copyFrom 30 = .ok (.aload_n 0, 1) := by decide +kernel
theorem dX6_copyFrom_31 : decode cX6_copyFrom 31 = .ok (.getfield 22, 3) := by decide +kernel
theorem dX6_copyFrom_34 : decode cX6_copyFrom 34 = .ok (.iconst 0, 1) := by decide +kernel
theorem dX6_copyFrom_35 : decode cX6_copyFrom 35 = .ok (.iconst 5, 1) := by decide +kernel
theorem dX6_copyFrom_36 : decode cX6_copyFrom 36 = .ok (.invokestatic 60, 3) := by decide +kernel
theorem dX6_copyFrom_39 : decode cX6_copyFrom 39 = .ok (.aload_n 0, 1) := by decide +kernel
theorem dX6_copyFrom_40 : decode cX6_copyFrom 40 = .ok (.aload_n 1, 1) := by decide +kernel
theorem dX6_copyFrom_41 : decode cX6_copyFrom 41 = .ok (.getfield 44, 3) := by decide +kernel
theorem dX6_copyFrom_44 : decode cX6_copyFrom 44 = .ok (.putfield 44, 3) := by decide +kernel
theorem dX6_copyFrom_47 : decode cX6_copyFrom 47 = .ok (.aload_n 0, 1) := by decide +kernel
theorem dX6_copyFrom_48 : decode cX6_copyFrom 48 = .ok (.aload_n 1, 1) := by decide +kernel
theorem dX6_copyFrom_49 : decode cX6_copyFrom 49 = .ok (.getfield 37, 3) := by decide +kernel
theorem dX6_copyFrom_52 : decode cX6_copyFrom 52 = .ok (.putfield 37, 3) := by decide +kernel
theorem dX6_copyFrom_55 : decode cX6_copyFrom 55 = .ok (.aload_n 0, 1) := by decide +kernel
theorem dX6_copyFrom_56 : decode cX6_copyFrom 56 = .ok (.aload_n 1, 1) := by decide +kernel
theorem dX6_copyFrom_57 : decode cX6_copyFrom 57 = .ok (.getfield 41, 3) := by decide +kernel
theorem dX6_copyFrom_60 : decode cX6_copyFrom 60 = .ok (.putfield 41, 3) := by decide +kernel
theorem dX6_copyFrom_63 : decode cX6_copyFrom 63 = .ok (.aload_n 0, 1) := by decide +kernel
theorem dX6_copyFrom_64 : decode cX6_copyFrom 64 = .ok (.aload_n 1, 1) := by decide +kernel
theorem dX6_copyFrom_65 : decode cX6_copyFrom 65 = .ok (.getfield 47, 3) := by decide +kernel
theorem dX6_copyFrom_68 : decode cX6_copyFrom 68 = .ok (.putfield 47, 3) := by decide +kernel
theorem dX6_copyFrom_71 : decode cX6_copyFrom 71 = .ok (.aload_n 0, 1) := by decide +kernel
theorem dX6_copyFrom_72 : decode cX6_copyFrom 72 = .ok (.aload_n 1, 1) := by decide +kernel
theorem dX6_copyFrom_73 : decode cX6_copyFrom 73 = .ok (.getfield 50, 3) := by decide +kernel
theorem dX6_copyFrom_76 : decode cX6_copyFrom 76 = .ok (.putfield 50, 3) := by decide +kernel
theorem dX6_copyFrom_79 : decode cX6_copyFrom 79 = .ok (.aload_n 0, 1) := by decide +kernel
theorem dX6_copyFrom_80 : decode cX6_copyFrom 80 = .ok (.aload_n 1, 1) := by decide +kernel
theorem dX6_copyFrom_81 : decode cX6_copyFrom 81 = .ok (.getfield 53, 3) := by decide +kernel
theorem dX6_copyFrom_84 : decode cX6_copyFrom 84 = .ok (.putfield 53, 3) := by decide +kernel
theorem dX6_copyFrom_87 : decode cX6_copyFrom 87 = .ok (.return_, 1) := by decide +kernel
theorem dX6_welcome_0 : decode cX6_welcome 0 = .ok (.aload_n 0, 1) := by decide +kernel
theorem dX6_welcome_1 : decode cX6_welcome 1 = .ok (.getfield 44, 3) := by decide +kernel
theorem dX6_welcome_4 : decode cX6_welcome 4 = .ok (.ifCond .lt 29, 3) := by decide +kernel
theorem dX6_welcome_7 : decode cX6_welcome 7 = .ok (.aload_n 0, 1) := by decide +kernel
theorem dX6_welcome_8 : decode cX6_welcome 8 = .ok (.getfield 44, 3) := by decide +kernel
theorem dX6_welcome_11 : decode cX6_welcome 11 = .ok (.iconst 5, 1) := by decide +kernel
theorem dX6_welcome_12 : decode cX6_welcome 12 = .ok (.if_icmp .ge 21, 3) := by decide +kernel
theorem dX6_welcome_15 : decode cX6_welcome 15 = .ok (.iload_n 1, 1) := by decide +kernel
theorem dX6_welcome_16 : decode cX6_welcome 16 = .ok (.invokestatic 66, 3) := by decide +kernel
theorem dX6_welcome_19 : decode cX6_welcome 19 = .ok (.ifCond .eq 14, 3) := by decide +kernel
theorem dX6_welcome_22 : decode cX6_welcome 22 = .ok (.aload_n 0, 1) := by decide +kernel
theorem dX6_welcome_23 : decode cX6_welcome 23 = .ok (.getfield 12, 3) := by decide +kernel
theorem dX6_welcome_26 : decode cX6_welcome 26 = .ok (.iload_n 2, 1) := by decide +kernel
theorem dX6_welcome_27 : decode cX6_welcome 27 = .ok (.invokevirtual 70, 3) := by decide +kernel
theorem dX6_welcome_30 : decode cX6_welcome 30 = .ok (.ifCond .ne 4, 3) := by decide +kernel
theorem dX6_welcome_33 : decode cX6_welcome 33 = .ok (.return_, 1) := by decide +kernel
theorem dX6_welcome_34 : decode cX6_welcome 34 = .ok (.aload_n 0, 1) := by decide +kernel
theorem dX6_welcome_35 : decode cX6_welcome 35 = .ok (.getfield 18, 3) := by decide +kernel
theorem dX6_welcome_38 : decode cX6_welcome 38 = .ok (.aload_n 0, 1) := by decide +kernel
theorem dX6_welcome_39 : decode cX6_welcome 39 = .ok (.getfield 44, 3) := by decide +kernel
theorem dX6_welcome_42 : decode cX6_welcome 42 = .ok (.iload_n 1, 1) := by decide +kernel
theorem dX6_welcome_43 : decode cX6_welcome 43 = .ok (.iastore, 1) := by decide +kernel
theorem dX6_welcome_44 : decode cX6_welcome 44 = .ok (.aload_n 0, 1) := by decide +kernel
theorem dX6_welcome_45 : decode cX6_welcome 45 = .ok (.getfield 22, 3) := by decide +kernel
theorem dX6_welcome_48 : decode cX6_welcome 48 = .ok (.aload_n 0, 1) := by decide +kernel
theorem dX6_welcome_49 : decode cX6_welcome 49 = .ok (.getfield 44, 3) := by decide +kernel
theorem dX6_welcome_52 : decode cX6_welcome 52 = .ok (.iload_n 2, 1) := by decide +kernel
theorem dX6_welcome_53 : decode cX6_welcome 53 = .ok (.iastore, 1) := by decide +kernel
theorem dX6_welcome_54 : decode cX6_welcome 54 = .ok (.aload_n 0, 1) := by decide +kernel
theorem dX6_welcome_55 : decode cX6_welcome 55 = .ok (.getfield 12, 3) := by decide +kernel
theorem dX6_welcome_58 : decode cX6_welcome 58 = .ok (.getfield 34, 3) := by decide +kernel
theorem dX6_welcome_61 : decode cX6_welcome 61 = .ok (.iload_n 2, 1) := by decide +kernel
theorem dX6_welcome_62 : decode cX6_welcome 62 = .ok (.dup2, 1) := by decide +kernel
theorem dX6_welcome_63 : decode cX6_welcome 63 = .ok (.iaload, 1) := by decide +kernel
theorem dX6_welcome_64 : decode cX6_welcome 64 = .ok (.getstatic 73, 3) := by decide +kernel
theorem dX6_welcome_67 : decode cX6_welcome 67 = .ok (.iload_n 1, 1) := by decide +kernel
theorem dX6_welcome_68 : decode cX6_welcome 68 = .ok (.iaload, 1) := by decide +kernel
theorem dX6_welcome_69 : decode cX6_welcome 69 = .ok (.iadd, 1) := by decide +kernel
theorem dX6_welcome_70 : decode cX6_welcome 70 = .ok (.iastore, 1) := by decide +kernel
theorem dX6_welcome_71 : decode cX6_welcome 71 = .ok (.aload_n 0, 1) := by decide +kernel
theorem dX6_welcome_72 : decode cX6_welcome 72 = .ok (.dup, 1) := by decide +kernel
theorem dX6_welcome_73 : decode cX6_welcome 73 = .ok (.getfield 44, 3) := by decide +kernel
theorem dX6_welcome_76 : decode cX6_welcome 76 = .ok (.iconst 1, 1) := by decide +kernel
theorem dX6_welcome_77 : decode cX6_welcome 77 = .ok (.iadd, 1) := by decide +kernel
theorem dX6_welcome_78 : decode cX6_welcome 78 = .ok (.putfield 44, 3) := by decide +kernel
theorem dX6_welcome_81 : decode cX6_welcome 81 = .ok (.return_, 1) := by decide +kernel
theorem dX6_rehouse_0 : decode cX6_rehouse 0 = .ok (.aload_n 0, 1) := by decide +kernel
theorem dX6_rehouse_1 : decode cX6_rehouse 1 = .ok (.iload_n 1, 1) := by decide +kernel
theorem dX6_rehouse_2 : decode cX6_rehouse 2 = .ok (.invokevirtual 76, 3) := by decide +kernel
theorem dX6_rehouse_5 : decode cX6_rehouse 5 = .ok (.ifCond .eq 22, 3) := by decide +kernel
theorem dX6_rehouse_8 : decode cX6_rehouse 8 = .ok (.aload_n 0, 1) := by decide +kernel
theorem dX6_rehouse_9 : decode cX6_rehouse 9 = .ok (.getfield 12, 3) := by decide +kernel
theorem dX6_rehouse_12 : decode cX6_rehouse 12 = .ok (.iload_n 2, 1) := by decide +kernel
theorem dX6_rehouse_13 : decode cX6_rehouse 13 = .ok (.invokevirtual 70, 3) := by decide +kernel
theorem dX6_rehouse_16 : decode cX6_rehouse 16 = .ok (.ifCond .eq 11, 3) := by decide +kernel
theorem dX6_rehouse_19 : decode cX6_rehouse 19 = .ok (.aload_n 0, 1) := by decide +kernel
theorem dX6_rehouse_20 : decode cX6_rehouse 20 = .ok (.iload_n 1, 1) := by decide +kernel
theorem dX6_rehouse_21 : decode cX6_rehouse 21 = .ok (.invokevirtual 79, 3) := by decide +kernel
theorem dX6_rehouse_24 : decode cX6_rehouse 24 = .ok (.ifCond .eq 5, 3) := by decide +kernel
theorem dX6_rehouse_27 : decode cX6_rehouse 27 = .ok (.iconst 0, 1) := by decide +kernel
theorem dX6_rehouse_28 : decode cX6_rehouse 28 = .ok (.ireturn, 1) := by decide +kernel
theorem dX6_rehouse_29 : decode cX6_rehouse 29 = .ok (.aload_n 0, 1) := by decide +kernel
theorem dX6_rehouse_30 : decode cX6_rehouse 30 = .ok (.iload_n 1, 1) := by decide +kernel
theorem dX6_rehouse_31 : decode cX6_rehouse 31 = .ok (.invokevirtual 82, 3) := by decide +kernel
theorem dX6_rehouse_34 : decode cX6_rehouse 34 = .ok (.istore_n 3, 1) := by decide +kernel
theorem dX6_rehouse_35 : decode cX6_rehouse 35 = .ok (.aload_n 0, 1) := by decide +kernel
theorem dX6_rehouse_36 : decode cX6_rehouse 36 = .ok (.getfield 22, 3) := by decide +kernel
theorem dX6_rehouse_39 : decode cX6_rehouse 39 = .ok (.iload_n 1, 1) := by decide +kernel
theorem dX6_rehouse_40 : decode cX6_rehouse 40 = .ok (.iaload, 1) := by decide +kernel
theorem dX6_rehouse_41 : decode cX6_rehouse 41 = .ok (.istore 4, 2) := by decide +kernel
theorem dX6_rehouse_43 : decode cX6_rehouse 43 = .ok (.iload 4, 2) := by decide +kernel
theorem dX6_rehouse_45 : decode cX6_rehouse 45 = .ok (.ifCond .lt 24, 3) := by decide +kernel
theorem dX6_rehouse_48 : decode cX6_rehouse 48 = .ok (.iload 4, 2) := by decide +kernel
theorem dX6_rehouse_50 : decode cX6_rehouse 50 = .ok (.bipush 6, 2) := by decide +kernel
theorem dX6_rehouse_52 : decode cX6_rehouse 52 = .ok (.if_icmp .ge 17, 3) := by decide +kernel
theorem dX6_rehouse_55 : decode cX6_rehouse 55 = .ok (.aload_n 0, 1) := by decide +kernel
theorem dX6_rehouse_56 : decode cX6_rehouse 56 = .ok (.getfield 12, 3) := by decide +kernel
theorem dX6_rehouse_59 : decode cX6_rehouse 59 = .ok (.getfield 34, 3) := by decide +kernel
theorem dX6_rehouse_62 : decode cX6_rehouse 62 = .ok (.iload 4, 2) := by decide +kernel
theorem dX6_rehouse_64 : decode cX6_rehouse 64 = .ok (.dup2, 1) := by decide +kernel
theorem dX6_rehouse_65 : decode cX6_rehouse 65 = .ok (.iaload, 1) := by decide +kernel
theorem dX6_rehouse_66 : decode cX6_rehouse 66 = .ok (.iload_n 3, 1) := by decide +kernel
theorem dX6_rehouse_67 : decode cX6_rehouse 67 = .ok (.isub, 1) := by decide +kernel
theorem dX6_rehouse_68 : decode cX6_rehouse 68 = .ok (.iastore, 1) := by decide +kernel
theorem dX6_rehouse_69 : decode cX6_rehouse 69 = .ok (.aload_n 0, 1) := by decide +kernel
theorem dX6_rehouse_70 : decode cX6_rehouse 70 = .ok (.getfield 12, 3) := by decide +kernel
theorem dX6_rehouse_73 : decode cX6_rehouse 73 = .ok (.getfield 34, 3) := by decide +kernel
theorem dX6_rehouse_76 : decode cX6_rehouse 76 = .ok (.iload_n 2, 1) := by decide +kernel
theorem dX6_rehouse_77 : decode cX6_rehouse 77 = .ok (.dup2, 1) := by decide +kernel
theorem dX6_rehouse_78 : decode cX6_rehouse 78 = .ok (.iaload, 1) := by decide +kernel
theorem dX6_rehouse_79 : decode cX6_rehouse 79 = .ok (.iload_n 3, 1) := by decide +kernel
theorem dX6_rehouse_80 : decode cX6_rehouse 80 = .ok (.iadd, 1) := by decide +kernel
theorem dX6_rehouse_81 : decode cX6_rehouse 81 = .ok (.iastore, 1) := by decide +kernel
theorem dX6_rehouse_82 : decode cX6_rehouse 82 = .ok (.aload_n 0, 1) := by decide +kernel
theorem dX6_rehouse_83 : decode cX6_rehouse 83 = .ok (.getfield 22, 3) := by decide +kernel
theorem dX6_rehouse_86 : decode cX6_rehouse 86 = .ok (.iload_n 1, 1) := by decide +kernel
theorem dX6_rehouse_87 : decode cX6_rehouse 87 = .ok (.iload_n 2, 1) := by decide +kernel
theorem dX6_rehouse_88 : decode cX6_rehouse 88 = .ok (.iastore, 1) := by decide +kernel
theorem dX6_rehouse_89 : decode cX6_rehouse 89 = .ok (.iconst 1, 1) := by decide +kernel
theorem dX6_rehouse_90 : decode cX6_rehouse 90 = .ok (.ireturn, 1) := by decide +kernel
theorem dX6_liveDay_0 : decode cX6_liveDay 0 = .ok (.aload_n 0, 1) := by decide +kernel
theorem dX6_liveDay_1 : decode cX6_liveDay 1 = .ok (.getfield 12, 3) := by decide +kernel
theorem dX6_liveDay_4 : decode cX6_liveDay 4 = .ok (.invokevirtual 85, 3) := by decide +kernel
theorem dX6_liveDay_7 : decode cX6_liveDay 7 = .ok (.istore_n 1, 1) := by decide +kernel
theorem dX6_liveDay_8 : decode cX6_liveDay 8 = .ok (.aload_n 0, 1) := by decide +kernel
theorem dX6_liveDay_9 : decode cX6_liveDay 9 = .ok (.dup, 1) := by decide +kernel
theorem dX6_liveDay_10 : decode cX6_liveDay 10 = .ok (.getfield 47, 3) := by decide +kernel
theorem dX6_liveDay_13 : decode cX6_liveDay 13 = .ok (.iconst 1, 1) := by decide +kernel
theorem dX6_liveDay_14 : decode cX6_liveDay 14 = .ok (.iadd, 1) := by decide +kernel
theorem dX6_liveDay_15 : decode cX6_liveDay 15 = .ok (.putfield 47, 3) := by decide +kernel
theorem dX6_liveDay_18 : decode cX6_liveDay 18 = .ok (.aload_n 0, 1) := by decide +kernel
theorem dX6_liveDay_19 : decode cX6_liveDay 19 = .ok (.dup, 1) := by decide +kernel
theorem dX6_liveDay_20 : decode cX6_liveDay 20 = .ok (.getfield 50, 3) := by decide +kernel
theorem dX6_liveDay_23 : decode cX6_liveDay 23 = .ok (.iload_n 1, 1) := by decide +kernel
theorem dX6_liveDay_24 : decode cX6_liveDay 24 = .ok (.iadd, 1) := by decide +kernel
theorem dX6_liveDay_25 : decode cX6_liveDay 25 = .ok (.putfield 50, 3) := by decide +kernel
theorem dX6_liveDay_28 : decode cX6_liveDay 28 = .ok (.iload_n 1, 1) := by decide +kernel
theorem dX6_liveDay_29 : decode cX6_liveDay 29 = .ok (.ireturn, 1) := by decide +kernel
theorem dX6_weightOf_0 : decode cX6_weightOf 0 = .ok (.aload_n 0, 1) := by decide +kernel
theorem dX6_weightOf_1 : decode cX6_weightOf 1 = .ok (.iload_n 1, 1) := by decide +kernel
theorem dX6_weightOf_2 : decode cX6_weightOf 2 = .ok (.invokevirtual 76, 3) := by decide +kernel
theorem dX6_weightOf_5 : decode cX6_weightOf 5 = .ok (.ifCond .eq 28, 3) := by decide +kernel
theorem dX6_weightOf_8 : decode cX6_weightOf 8 = .ok (.aload_n 0, 1) := by decide +kernel
theorem dX6_weightOf_9 : decode cX6_weightOf 9 = .ok (.getfield 18, 3) := by decide +kernel
theorem dX6_weightOf_12 : decode cX6_weightOf 12 = .ok (.iload_n 1, 1) := by decide +kernel
theorem dX6_weightOf_13 : decode cX6_weightOf 13 = .ok (.iaload, 1) := by decide +kernel
theorem dX6_weightOf_14 : decode cX6_weightOf 14 = .ok (.invokestatic 66, 3) := by decide +kernel
theorem dX6_weightOf_17 : decode cX6_weightOf 17 = .ok (.ifCond .eq 16, 3) := by decide +kernel
theorem dX6_weightOf_20 : decode cX6_weightOf 20 = .ok (.getstatic 73, 3) := by decide +kernel
theorem dX6_weightOf_23 : decode cX6_weightOf 23 = .ok (.aload_n 0, 1) := by decide +kernel
theorem dX6_weightOf_24 : decode cX6_weightOf 24 = .ok (.getfield 18, 3) := by decide +kernel
theorem dX6_weightOf_27 : decode cX6_weightOf 27 = .ok (.iload_n 1, 1) := by decide +kernel
theorem dX6_weightOf_28 : decode cX6_weightOf 28 = .ok (.iaload, 1) := by decide +kernel
theorem dX6_weightOf_29 : decode cX6_weightOf 29 = .ok (.iaload, 1) := by decide +kernel
theorem dX6_weightOf_30 : decode cX6_weightOf 30 = .ok (.goto 4, 3) := by decide +kernel
theorem dX6_weightOf_33 : decode cX6_weightOf 33 = .ok (.iconst 0, 1) := by decide +kernel
theorem dX6_weightOf_34 : decode cX6_weightOf 34 = .ok (.ireturn, 1) := by decide +kernel
theorem dX6_breathOf_0 : decode cX6_breathOf 0 = .ok (.aload_n 0, 1) := by decide +kernel
theorem dX6_breathOf_1 : decode cX6_breathOf 1 = .ok (.iload_n 1, 1) := by decide +kernel
theorem dX6_breathOf_2 : decode cX6_breathOf 2 = .ok (.invokevirtual 76, 3) := by decide +kernel
theorem dX6_breathOf_5 : decode cX6_breathOf 5 = .ok (.ifCond .eq 28, 3) := by decide +kernel
theorem dX6_breathOf_8 : decode cX6_breathOf 8 = .ok (.aload_n 0, 1) := by decide +kernel
theorem dX6_breathOf_9 : decode cX6_breathOf 9 = .ok (.getfield 18, 3) := by decide +kernel
theorem dX6_breathOf_12 : decode cX6_breathOf 12 = .ok (.iload_n 1, 1) := by decide +kernel
theorem dX6_breathOf_13 : decode cX6_breathOf 13 = .ok (.iaload, 1) := by decide +kernel
theorem dX6_breathOf_14 : decode cX6_breathOf 14 = .ok (.invokestatic 66, 3) := by decide +kernel
theorem dX6_breathOf_17 : decode cX6_breathOf 17 = .ok (.ifCond .eq 16, 3) := by decide +kernel
theorem dX6_breathOf_20 : decode cX6_breathOf 20 = .ok (.getstatic 89, 3) := by decide +kernel
theorem dX6_breathOf_23 : decode cX6_breathOf 23 = .ok (.aload_n 0, 1) := by decide +kernel
theorem dX6_breathOf_24 : decode cX6_breathOf 24 = .ok (.getfield 18, 3) := by decide +kernel
theorem dX6_breathOf_27 : decode cX6_breathOf 27 = .ok (.iload_n 1, 1) := by decide +kernel
theorem dX6_breathOf_28 : decode cX6_breathOf 28 = .ok (.iaload, 1) := by decide +kernel
theorem dX6_breathOf_29 : decode cX6_breathOf 29 = .ok (.iaload, 1) := by decide +kernel
theorem dX6_breathOf_30 : decode cX6_breathOf 30 = .ok (.goto 4, 3) := by decide +kernel
theorem dX6_breathOf_33 : decode cX6_breathOf 33 = .ok (.iconst 0, 1) := by decide +kernel
theorem dX6_breathOf_34 : decode cX6_breathOf 34 = .ok (.ireturn, 1) := by decide +kernel
theorem dX6_isCutOff_0 : decode cX6_isCutOff 0 = .ok (.aload_n 0, 1) := by decide +kernel
theorem dX6_isCutOff_1 : decode cX6_isCutOff 1 = .ok (.iload_n 1, 1) := by decide +kernel
theorem dX6_isCutOff_2 : decode cX6_isCutOff 2 = .ok (.invokevirtual 76, 3) := by decide +kernel
theorem dX6_isCutOff_5 : decode cX6_isCutOff 5 = .ok (.ifCond .eq 23, 3) := by decide +kernel
theorem dX6_isCutOff_8 : decode cX6_isCutOff 8 = .ok (.aload_n 0, 1) := by decide +kernel
theorem dX6_isCutOff_9 : decode cX6_isCutOff 9 = .ok (.getfield 22, 3) := by decide +kernel
theorem dX6_isCutOff_12 : decode cX6_isCutOff 12 = .ok (.iload_n 1, 1) := by decide +kernel
theorem dX6_isCutOff_13 : decode cX6_isCutOff 13 = .ok (.iaload, 1) := by decide +kernel
theorem dX6_isCutOff_14 : decode cX6_isCutOff 14 = .ok (.aload_n 0, 1) := by decide +kernel
theorem dX6_isCutOff_15 : decode cX6_isCutOff 15 = .ok (.getfield 12, 3) := by decide +kernel
theorem dX6_isCutOff_18 : decode cX6_isCutOff 18 = .ok (.invokevirtual 92, 3) := by decide +kernel
theorem dX6_isCutOff_21 : decode cX6_isCutOff 21 = .ok (.if_icmp .lt 7, 3) := by decide +kernel
theorem dX6_isCutOff_24 : decode cX6_isCutOff 24 = .ok (.iconst 1, 1) := by decide +kernel
theorem dX6_isCutOff_25 : decode cX6_isCutOff 25 = .ok (.goto 4, 3) := by decide +kernel
theorem dX6_isCutOff_28 : decode cX6_isCutOff 28 = .ok (.iconst 0, 1) := by decide +kernel
theorem dX6_isCutOff_29 : decode cX6_isCutOff 29 = .ok (.ireturn, 1) := by decide +kernel
theorem dX6_cutOffs_0 : decode cX6_cutOffs 0 = .ok (.iconst 0, 1) := by decide +kernel
theorem dX6_cutOffs_1 : decode cX6_cutOffs 1 = .ok (.istore_n 1, 1) := by decide +kernel
theorem dX6_cutOffs_2 : decode cX6_cutOffs 2 = .ok (.iconst 0, 1) := by decide +kernel
theorem dX6_cutOffs_3 : decode cX6_cutOffs 3 = .ok (.istore_n 2, 1) := by decide +kernel
theorem dX6_cutOffs_4 : decode cX6_cutOffs 4 = .ok (.iload_n 2, 1) := by decide +kernel
theorem dX6_cutOffs_5 : decode cX6_cutOffs 5 = .ok (.aload_n 0, 1) := by decide +kernel
theorem dX6_cutOffs_6 : decode cX6_cutOffs 6 = .ok (.getfield 44, 3) := by decide +kernel
theorem dX6_cutOffs_9 : decode cX6_cutOffs 9 = .ok (.if_icmp .ge 25, 3) := by decide +kernel
theorem dX6_cutOffs_12 : decode cX6_cutOffs 12 = .ok (.iload_n 1, 1) := by decide +kernel
theorem dX6_cutOffs_13 : decode cX6_cutOffs 13 = .ok (.aload_n 0, 1) := by decide +kernel
theorem dX6_cutOffs_14 : decode cX6_cutOffs 14 = .ok (.iload_n 2, 1) := by decide +kernel
theorem dX6_cutOffs_15 : decode cX6_cutOffs 15 = .ok (.invokevirtual 79, 3) := by decide +kernel
theorem dX6_cutOffs_18 : decode cX6_cutOffs 18 = .ok (.ifCond .eq 7, 3) := by decide +kernel
theorem dX6_cutOffs_21 : decode cX6_cutOffs 21 = .ok (.iconst 1, 1) := by decide +kernel
theorem dX6_cutOffs_22 : decode cX6_cutOffs 22 = .ok (.goto 4, 3) := by decide +kernel
theorem dX6_cutOffs_25 : decode cX6_cutOffs 25 = .ok (.iconst 0, 1) := by decide +kernel
theorem dX6_cutOffs_26 : decode cX6_cutOffs 26 = .ok (.iadd, 1) := by decide +kernel
theorem dX6_cutOffs_27 : decode cX6_cutOffs 27 = .ok (.istore_n 1, 1) := by decide +kernel
theorem dX6_cutOffs_28 : decode cX6_cutOffs 28 = .ok (.iinc 2 1, 3) := by decide +kernel
theorem dX6_cutOffs_31 : decode cX6_cutOffs 31 = .ok (.goto (-27), 3) := by decide +kernel
theorem dX6_cutOffs_34 : decode cX6_cutOffs 34 = .ok (.iload_n 1, 1) := by decide +kernel
theorem dX6_cutOffs_35 : decode cX6_cutOffs 35 = .ok (.ireturn, 1) := by decide +kernel
theorem dX6_dwellers_0 : decode cX6_dwellers 0 = .ok (.iconst 0, 1) := by decide +kernel
theorem dX6_dwellers_1 : decode cX6_dwellers 1 = .ok (.istore_n 2, 1) := by decide +kernel
theorem dX6_dwellers_2 : decode cX6_dwellers 2 = .ok (.iconst 0, 1) := by decide +kernel
theorem dX6_dwellers_3 : decode cX6_dwellers 3 = .ok (.istore_n 3, 1) := by decide +kernel
theorem dX6_dwellers_4 : decode cX6_dwellers 4 = .ok (.iload_n 3, 1) := by decide +kernel
theorem dX6_dwellers_5 : decode cX6_dwellers 5 = .ok (.aload_n 0, 1) := by decide +kernel
theorem dX6_dwellers_6 : decode cX6_dwellers 6 = .ok (.getfield 44, 3) := by decide +kernel
theorem dX6_dwellers_9 : decode cX6_dwellers 9 = .ok (.if_icmp .ge 34, 3) := by decide +kernel
theorem dX6_dwellers_12 : decode cX6_dwellers 12 = .ok (.iload_n 3, 1) := by decide +kernel
theorem dX6_dwellers_13 : decode cX6_dwellers 13 = .ok (.iconst 5, 1) := by decide +kernel
theorem dX6_dwellers_14 : decode cX6_dwellers 14 = .ok (.if_icmp .ge 29, 3) := by decide +kernel
theorem dX6_dwellers_17 : decode cX6_dwellers 17 = .ok (.iload_n 2, 1) := by decide +kernel
theorem dX6_dwellers_18 : decode cX6_dwellers 18 = .ok (.aload_n 0, 1) := by decide +kernel
theorem dX6_dwellers_19 : decode cX6_dwellers 19 = .ok (.getfield 22, 3) := by decide +kernel
theorem dX6_dwellers_22 : decode cX6_dwellers 22 = .ok (.iload_n 3, 1) := by decide +kernel
theorem dX6_dwellers_23 : decode cX6_dwellers 23 = .ok (.iaload, 1) := by decide +kernel
theorem dX6_dwellers_24 : decode cX6_dwellers 24 = .ok (.iload_n 1, 1) := by decide +kernel
theorem dX6_dwellers_25 : decode cX6_dwellers 25 = .ok (.if_icmp .ne 9, 3) := by decide +kernel
theorem dX6_dwellers_28 : decode cX6_dwellers 28 = .ok (.iconst 1, 1) := by decide +kernel
theorem dX6_dwellers_29 : decode cX6_dwellers 29 = .ok (.iload_n 3, 1) := by decide +kernel
theorem dX6_dwellers_30 : decode cX6_dwellers 30 = .ok (.ishl, 1) := by decide +kernel
theorem dX6_dwellers_31 : decode cX6_dwellers 31 = .ok (.goto 4, 3) := by decide +kernel
theorem dX6_dwellers_34 : decode cX6_dwellers 34 = .ok (.iconst 0, 1) := by decide +kernel
theorem dX6_dwellers_35 : decode cX6_dwellers 35 = .ok (.ior, 1) := by decide +kernel
theorem dX6_dwellers_36 : decode cX6_dwellers 36 = .ok (.istore_n 2, 1) := by decide +kernel
theorem dX6_dwellers_37 : decode cX6_dwellers 37 = .ok (.iinc 3 1, 3) := by decide +kernel
theorem dX6_dwellers_40 : decode cX6_dwellers 40 = .ok (.goto (-36), 3) := by decide +kernel
theorem dX6_dwellers_43 : decode cX6_dwellers 43 = .ok (.iload_n 2, 1) := by decide +kernel
theorem dX6_dwellers_44 : decode cX6_dwellers 44 = .ok (.ireturn, 1) := by decide +kernel
theorem dX6_gaspers_0 : decode cX6_gaspers 0 = .ok (.aload_n 0, 1) := by decide +kernel
theorem dX6_gaspers_1 : decode cX6_gaspers 1 = .ok (.getfield 37, 3) := by decide +kernel
theorem dX6_gaspers_4 : decode cX6_gaspers 4 = .ok (.istore_n 1, 1) := by decide +kernel
theorem dX6_gaspers_5 : decode cX6_gaspers 5 = .ok (.iconst 0, 1) := by decide +kernel
theorem dX6_gaspers_6 : decode cX6_gaspers 6 = .ok (.istore_n 2, 1) := by decide +kernel
theorem dX6_gaspers_7 : decode cX6_gaspers 7 = .ok (.iconst 0, 1) := by decide +kernel
theorem dX6_gaspers_8 : decode cX6_gaspers 8 = .ok (.istore_n 3, 1) := by decide +kernel
theorem dX6_gaspers_9 : decode cX6_gaspers 9 = .ok (.iload_n 3, 1) := by decide +kernel
theorem dX6_gaspers_10 : decode cX6_gaspers 10 = .ok (.bipush 6, 2) := by decide +kernel
theorem dX6_gaspers_12 : decode cX6_gaspers 12 = .ok (.if_icmp .ge 85, 3) := by decide +kernel
theorem dX6_gaspers_15 : decode cX6_gaspers 15 = .ok (.aload_n 0, 1) := by decide +kernel
theorem dX6_gaspers_16 : decode cX6_gaspers 16 = .ok (.iload_n 3, 1) := by decide +kernel
theorem dX6_gaspers_17 : decode cX6_gaspers 17 = .ok (.invokevirtual 95, 3) := by decide +kernel
theorem dX6_gaspers_20 : decode cX6_gaspers 20 = .ok (.istore 4, 2) := by decide +kernel
theorem dX6_gaspers_22 : decode cX6_gaspers 22 = .ok (.iconst 0, 1) := by decide +kernel
theorem dX6_gaspers_23 : decode cX6_gaspers 23 = .ok (.istore 5, 2) := by decide +kernel
theorem dX6_gaspers_25 : decode cX6_gaspers 25 = .ok (.iload 5, 2) := by decide +kernel
theorem dX6_gaspers_27 : decode cX6_gaspers 27 = .ok (.aload_n 0, 1) := by decide +kernel
theorem dX6_gaspers_28 : decode cX6_gaspers 28 = .ok (.getfield 44, 3) := by decide +kernel
theorem dX6_gaspers_31 : decode cX6_gaspers 31 = .ok (.if_icmp .ge 60, 3) := by decide +kernel
theorem dX6_gaspers_34 : decode cX6_gaspers 34 = .ok (.iload 4, 2) := by decide +kernel
theorem dX6_gaspers_36 : decode cX6_gaspers 36 = .ok (.iload 5, 2) := by decide +kernel
theorem dX6_gaspers_38 : decode cX6_gaspers 38 = .ok (.ishr, 1) := by decide +kernel
theorem dX6_gaspers_39 : decode cX6_gaspers 39 = .ok (.iconst 1, 1) := by decide +kernel
theorem dX6_gaspers_40 : decode cX6_gaspers 40 = .ok (.iand, 1) := by decide +kernel
theorem dX6_gaspers_41 : decode cX6_gaspers 41 = .ok (.ifCond .ne 6, 3) := by decide +kernel
theorem dX6_gaspers_44 : decode cX6_gaspers 44 = .ok (.goto 41, 3) := by decide +kernel
theorem dX6_gaspers_47 : decode cX6_gaspers 47 = .ok (.aload_n 0, 1) := by decide +kernel
theorem dX6_gaspers_48 : decode cX6_gaspers 48 = .ok (.iload 5, 2) := by decide +kernel
theorem dX6_gaspers_50 : decode cX6_gaspers 50 = .ok (.invokevirtual 79, 3) := by decide +kernel
theorem dX6_gaspers_53 : decode cX6_gaspers 53 = .ok (.ifCond .ne 13, 3) := by decide +kernel
theorem dX6_gaspers_56 : decode cX6_gaspers 56 = .ok (.aload_n 0, 1) := by decide +kernel
theorem dX6_gaspers_57 : decode cX6_gaspers 57 = .ok (.iload 5, 2) := by decide +kernel
theorem dX6_gaspers_59 : decode cX6_gaspers 59 = .ok (.invokevirtual 98, 3) := by decide +kernel
theorem dX6_gaspers_62 : decode cX6_gaspers 62 = .ok (.iload_n 1, 1) := by decide +kernel
theorem dX6_gaspers_63 : decode cX6_gaspers 63 = .ok (.if_icmp .le 13, 3) := by decide +kernel
theorem dX6_gaspers_66 : decode cX6_gaspers 66 = .ok (.iload_n 2, 1) := by decide +kernel
theorem dX6_gaspers_67 : decode cX6_gaspers 67 = .ok (.iconst 1, 1) := by decide +kernel
theorem dX6_gaspers_68 : decode cX6_gaspers 68 = .ok (.iload 5, 2) := by decide +kernel
theorem dX6_gaspers_70 : decode cX6_gaspers 70 = .ok (.ishl, 1) := by decide +kernel
theorem dX6_gaspers_71 : decode cX6_gaspers 71 = .ok (.ior, 1) := by decide +kernel
theorem dX6_gaspers_72 : decode cX6_gaspers 72 = .ok (.istore_n 2, 1) := by decide +kernel
theorem dX6_gaspers_73 : decode cX6_gaspers 73 = .ok (.goto 12, 3) := by decide +kernel
theorem dX6_gaspers_76 : decode cX6_gaspers 76 = .ok (.iload_n 1, 1) := by decide +kernel
theorem dX6_gaspers_77 : decode cX6_gaspers 77 = .ok (.aload_n 0, 1) := by decide +kernel
theorem dX6_gaspers_78 : decode cX6_gaspers 78 = .ok (.iload 5, 2) := by decide +kernel
theorem dX6_gaspers_80 : decode cX6_gaspers 80 = .ok (.invokevirtual 98, 3) := by decide +kernel
theorem dX6_gaspers_83 : decode cX6_gaspers 83 = .ok (.isub, 1) := by decide +kernel
theorem dX6_gaspers_84 : decode cX6_gaspers 84 = .ok (.istore_n 1, 1) := by decide +kernel
theorem dX6_gaspers_85 : decode cX6_gaspers 85 = .ok (.iinc 5 1, 3) := by decide +kernel
theorem dX6_gaspers_88 : decode cX6_gaspers 88 = .ok (.goto (-63), 3) := by decide +kernel
theorem dX6_gaspers_91 : decode cX6_gaspers 91 = .ok (.iinc 3 1, 3) := by decide +kernel
theorem dX6_gaspers_94 : decode cX6_gaspers 94 = .ok (.goto (-85), 3) := by decide +kernel
theorem dX6_gaspers_97 : decode cX6_gaspers 97 = .ok (.iload_n 2, 1) := by decide +kernel
theorem dX6_gaspers_98 : decode cX6_gaspers 98 = .ok (.ireturn, 1) := by decide +kernel
theorem dX6_minutesOut_0 : decode cX6_minutesOut 0 = .ok (.aload_n 0, 1) := by decide +kernel
theorem dX6_minutesOut_1 : decode cX6_minutesOut 1 = .ok (.getfield 44, 3) := by decide +kernel
theorem dX6_minutesOut_4 : decode cX6_minutesOut 4 = .ok (.aload_n 0, 1) := by decide +kernel
theorem dX6_minutesOut_5 : decode cX6_minutesOut 5 = .ok (.invokevirtual 101, 3) := by decide +kernel
theorem dX6_minutesOut_8 : decode cX6_minutesOut 8 = .ok (.isub, 1) := by decide +kernel
theorem dX6_minutesOut_9 : decode cX6_minutesOut 9 = .ok (.istore_n 1, 1) := by decide +kernel
theorem dX6_minutesOut_10 : decode cX6_minutesOut 10 = .ok (.iconst 0, 1) := by decide +kernel
theorem dX6_minutesOut_11 : decode cX6_minutesOut 11 = .ok (.istore_n 2, 1) := by decide +kernel
theorem dX6_minutesOut_12 : decode cX6_minutesOut 12 = .ok (.iconst 0, 1) := by decide +kernel
theorem dX6_minutesOut_13 : decode cX6_minutesOut 13 = .ok (.istore_n 3, 1) := by decide +kernel
theorem dX6_minutesOut_14 : decode cX6_minutesOut 14 = .ok (.iload_n 1, 1) := by decide +kernel
theorem dX6_minutesOut_15 : decode cX6_minutesOut 15 = .ok (.ifCond .le 45, 3) := by decide +kernel
theorem dX6_minutesOut_18 : decode cX6_minutesOut 18 = .ok (.iload_n 3, 1) := by decide +kernel
theorem dX6_minutesOut_19 : decode cX6_minutesOut 19 = .ok (.bipush 11, 2) := by decide +kernel
theorem dX6_minutesOut_21 : decode cX6_minutesOut 21 = .ok (.if_icmp .ge 39, 3) := by decide +kernel
theorem dX6_minutesOut_24 : decode cX6_minutesOut 24 = .ok (.iinc 3 1, 3) := by decide +kernel
theorem dX6_minutesOut_27 : decode cX6_minutesOut 27 = .ok (.iload_n 2, 1) := by decide +kernel
theorem dX6_minutesOut_28 : decode cX6_minutesOut 28 = .ok (.aload_n 0, 1) := by decide +kernel
theorem dX6_minutesOut_29 : decode cX6_minutesOut 29 = .ok (.getfield 41, 3) := by decide +kernel
theorem dX6_minutesOut_32 : decode cX6_minutesOut 32 = .ok (.invokestatic 104, 3) := by decide +kernel
theorem dX6_minutesOut_35 : decode cX6_minutesOut 35 = .ok (.istore 4, 2) := by decide +kernel
theorem dX6_minutesOut_37 : decode cX6_minutesOut 37 = .ok (.iload_n 2, 1) := by decide +kernel
theorem dX6_minutesOut_38 : decode cX6_minutesOut 38 = .ok (.iload 4, 2) := by decide +kernel
theorem dX6_minutesOut_40 : decode cX6_minutesOut 40 = .ok (.isub, 1) := by decide +kernel
theorem dX6_minutesOut_41 : decode cX6_minutesOut 41 = .ok (.istore_n 2, 1) := by decide +kernel
theorem dX6_minutesOut_42 : decode cX6_minutesOut 42 = .ok (.iload_n 1, 1) := by decide +kernel
theorem dX6_minutesOut_43 : decode cX6_minutesOut 43 = .ok (.iload 4, 2) := by decide +kernel
theorem dX6_minutesOut_45 : decode cX6_minutesOut 45 = .ok (.isub, 1) := by decide +kernel
theorem dX6_minutesOut_46 : decode cX6_minutesOut 46 = .ok (.istore_n 1, 1) := by decide +kernel
theorem dX6_minutesOut_47 : decode cX6_minutesOut 47 = .ok (.iload_n 2, 1) := by decide +kernel
theorem dX6_minutesOut_48 : decode cX6_minutesOut 48 = .ok (.aload_n 0, 1) := by decide +kernel
theorem dX6_minutesOut_49 : decode cX6_minutesOut 49 = .ok (.iload_n 3, 1) := by decide +kernel
theorem dX6_minutesOut_50 : decode cX6_minutesOut 50 = .ok (.iconst 1, 1) := by decide +kernel
theorem dX6_minutesOut_51 : decode cX6_minutesOut 51 = .ok (.isub, 1) := by decide +kernel
theorem dX6_minutesOut_52 : decode cX6_minutesOut 52 = .ok (.invokevirtual 110, 3) := by decide +kernel
theorem dX6_minutesOut_55 : decode cX6_minutesOut 55 = .ok (.iadd, 1) := by decide +kernel
theorem dX6_minutesOut_56 : decode cX6_minutesOut 56 = .ok (.istore_n 2, 1) := by decide +kernel
theorem dX6_minutesOut_57 : decode cX6_minutesOut 57 = .ok (.goto (-43), 3) := by decide +kernel
theorem dX6_minutesOut_60 : decode cX6_minutesOut 60 = .ok (.iload_n 3, 1) := by decide +kernel
theorem dX6_minutesOut_61 : decode cX6_minutesOut 61 = .ok (.ireturn, 1) := by decide +kernel
theorem dX6_comersFrom_0 : decode cX6_comersFrom 0 = .ok (.iload_n 1, 1) := by decide +kernel
theorem dX6_comersFrom_1 : decode cX6_comersFrom 1 = .ok (.aload_n 0, 1) := by decide +kernel
theorem dX6_comersFrom_2 : decode cX6_comersFrom 2 = .ok (.getfield 12, 3) := by decide +kernel
theorem dX6_comersFrom_5 : decode cX6_comersFrom 5 = .ok (.invokevirtual 92, 3) := by decide +kernel
theorem dX6_comersFrom_8 : decode cX6_comersFrom 8 = .ok (.if_icmp .ge 14, 3) := by decide +kernel
theorem dX6_comersFrom_11 : decode cX6_comersFrom 11 = .ok (.aload_n 0, 1) := by decide +kernel
theorem dX6_comersFrom_12 : decode cX6_comersFrom 12 = .ok (.iload_n 1, 1) := by decide +kernel
theorem dX6_comersFrom_13 : decode cX6_comersFrom 13 = .ok (.invokevirtual 95, 3) := by decide +kernel
theorem dX6_comersFrom_16 : decode cX6_comersFrom 16 = .ok (.invokestatic 113, 3) := by decide +kernel
theorem dX6_comersFrom_19 : decode cX6_comersFrom 19 = .ok (.goto 4, 3) := by decide +kernel
theorem dX6_comersFrom_22 : decode cX6_comersFrom 22 = .ok (.iconst 0, 1) := by decide +kernel
theorem dX6_comersFrom_23 : decode cX6_comersFrom 23 = .ok (.ireturn, 1) := by decide +kernel
theorem dX6_isHere_0 : decode cX6_isHere 0 = .ok (.iload_n 1, 1) := by decide +kernel
theorem dX6_isHere_1 : decode cX6_isHere 1 = .ok (.ifCond .lt 20, 3) := by decide +kernel
theorem dX6_isHere_4 : decode cX6_isHere 4 = .ok (.iload_n 1, 1) := by decide +kernel
theorem dX6_isHere_5 : decode cX6_isHere 5 = .ok (.aload_n 0, 1) := by decide +kernel
theorem dX6_isHere_6 : decode cX6_isHere 6 = .ok (.getfield 44, 3) := by decide +kernel
theorem dX6_isHere_9 : decode cX6_isHere 9 = .ok (.if_icmp .ge 12, 3) := by decide +kernel
theorem dX6_isHere_12 : decode cX6_isHere 12 = .ok (.iload_n 1, 1) := by decide +kernel
theorem dX6_isHere_13 : decode cX6_isHere 13 = .ok (.iconst 5, 1) := by decide +kernel
theorem dX6_isHere_14 : decode cX6_isHere 14 = .ok (.if_icmp .ge 7, 3) := by decide +kernel
theorem dX6_isHere_17 : decode cX6_isHere 17 = .ok (.iconst 1, 1) := by decide +kernel
theorem dX6_isHere_18 : decode cX6_isHere 18 = .ok (.goto 4, 3) := by decide +kernel
theorem dX6_isHere_21 : decode cX6_isHere 21 = .ok (.iconst 0, 1) := by decide +kernel
theorem dX6_isHere_22 : decode cX6_isHere 22 = .ok (.ireturn, 1) := by decide +kernel
theorem dX7_init_0 : decode cX7_init 0 = .ok (.aload_n 0, 1) := by decide +kernel
theorem dX7_init_1 : decode cX7_init 1 = .ok (.invokespecial 3, 3) := by decide +kernel
theorem dX7_init_4 : decode cX7_init 4 = .ok (.aload_n 0, 1) := by decide +kernel
theorem dX7_init_5 : decode cX7_init 5 = .ok (.new 9, 3) := by decide +kernel
theorem dX7_init_8 : decode cX7_init 8 = .ok (.dup, 1) := by decide +kernel
theorem dX7_init_9 : decode cX7_init 9 = .ok (.invokespecial 11, 3) := by decide +kernel
theorem dX7_init_12 : decode cX7_init 12 = .ok (.putfield 12, 3) := by decide +kernel
theorem dX7_init_15 : decode cX7_init 15 = .ok (.aload_n 0, 1) := by decide +kernel
theorem dX7_init_16 : decode cX7_init 16 = .ok (.new 16, 3) := by decide +kernel
theorem dX7_init_19 : decode cX7_init 19 = .ok (.dup, 1) := by decide +kernel
theorem dX7_init_20 : decode cX7_init 20 = .ok (.invokespecial 18, 3) := by decide +kernel
theorem dX7_init_23 : decode cX7_init 23 = .ok (.putfield 19, 3) := by decide +kernel
theorem dX7_init_26 : decode cX7_init 26 = .ok (.aload_n 0, 1) := by decide +kernel
theorem dX7_init_27 : decode cX7_init 27 = .ok (.new 23, 3) := by decide +kernel
theorem dX7_init_30 : decode cX7_init 30 = .ok (.dup, 1) := by decide +kernel
theorem dX7_init_31 : decode cX7_init 31 = .ok (.invokespecial 25, 3) := by decide +kernel
theorem dX7_init_34 : decode cX7_init 34 = .ok (.putfield 26, 3) := by decide +kernel
theorem dX7_init_37 : decode cX7_init 37 = .ok (.aload_n 0, 1) := by decide +kernel
theorem dX7_init_38 : decode cX7_init 38 = .ok (.new 16, 3) := by decide +kernel
theorem dX7_init_41 : decode cX7_init 41 = .ok (.dup, 1) := by decide +kernel
theorem dX7_init_42 : decode cX7_init 42 = .ok (.invokespecial 18, 3) := by decide +kernel
theorem dX7_init_45 : decode cX7_init 45 = .ok (.putfield 30, 3) := by decide +kernel
theorem dX7_init_48 : decode cX7_init 48 = .ok (.aload_n 0, 1) := by decide +kernel
theorem dX7_init_49 : decode cX7_init 49 = .ok (.new 23, 3) := by decide +kernel
theorem dX7_init_52 : decode cX7_init 52 = .ok (.dup, 1) := by decide +kernel
theorem dX7_init_53 : decode cX7_init 53 = .ok (.invokespecial 25, 3) := by decide +kernel
theorem dX7_init_56 : decode cX7_init 56 = .ok (.putfield 33, 3) := by decide +kernel
theorem dX7_init_59 : decode cX7_init 59 = .ok (.aload_n 0, 1) := by decide +kernel
theorem dX7_init_60 : decode cX7_init 60 = .ok (.new 16, 3) := by decide +kernel
theorem dX7_init_63 : decode cX7_init 63 = .ok (.dup, 1) := by decide +kernel
theorem dX7_init_64 : decode cX7_init 64 = .ok (.invokespecial 18, 3) := by decide +kernel
theorem dX7_init_67 : decode cX7_init 67 = .ok (.putfield 36, 3) := by decide +kernel
theorem dX7_init_70 : decode cX7_init 70 = .ok (.aload_n 0, 1) := by decide +kernel
theorem dX7_init_71 : decode cX7_init 71 = .ok (.new 39, 3) := by decide +kernel
theorem dX7_init_74 : decode cX7_init 74 = .ok (.dup, 1) := by decide +kernel
theorem dX7_init_75 : decode cX7_init 75 = .ok (.invokespecial 41, 3) := by decide +kernel
theorem dX7_init_78 : decode cX7_init 78 = .ok (.putfield 42, 3) := by decide +kernel
theorem dX7_init_81 : decode cX7_init 81 = .ok (.aload_n 0, 1) := by decide +kernel
theorem dX7_init_82 : decode cX7_init 82 = .ok (.new 46, 3) := by decide +kernel
theorem dX7_init_85 : decode cX7_init 85 = .ok (.dup, 1) := by decide +kernel
theorem dX7_init_86 : decode cX7_init 86 = .ok (.invokespecial 48, 3) := by decide +kernel
theorem dX7_init_89 : decode cX7_init 89 = .ok (.putfield 49, 3) := by decide +kernel
theorem dX7_init_92 : decode cX7_init 92 = .ok (.aload_n 0, 1) := by decide +kernel
theorem dX7_init_93 : decode cX7_init 93 = .ok (.new 53, 3) := by decide +kernel
theorem dX7_init_96 : decode cX7_init 96 = .ok (.dup, 1) := by decide +kernel
theorem dX7_init_97 : decode cX7_init 97 = .ok (.invokespecial 55, 3) := by decide +kernel
theorem dX7_init_100 : decode cX7_init 100 = .ok (.putfield 56, 3) := by decide +kernel
theorem dX7_init_103 : decode cX7_init 103 = .ok (.return_, 1) := by decide +kernel
theorem dX7_letter_0 : decode cX7_letter 0 = .ok (.iload_n 1, 1) := by decide +kernel
theorem dX7_letter_1 : decode cX7_letter 1 = .ok (.iconst 1, 1) := by decide +kernel
theorem dX7_letter_2 : decode cX7_letter 2 = .ok (.if_icmp .lt 9, 3) := by decide +kernel
theorem dX7_letter_5 : decode cX7_letter 5 = .ok (.iload_n 1, 1) := by decide +kernel
theorem dX7_letter_6 : decode cX7_letter 6 = .ok (.bipush 126, 2) := by decide +kernel
theorem dX7_letter_8 : decode cX7_letter 8 = .ok (.if_icmp .le 6, 3) := by decide +kernel
theorem dX7_letter_11 : decode cX7_letter 11 = .ok (.bipush (-102), 2) := by decide +kernel
theorem dX7_letter_13 : decode cX7_letter 13 = .ok (.ireturn, 1) := by decide +kernel
theorem dX7_letter_14 : decode cX7_letter 14 = .ok (.aload_n 0, 1) := by decide +kernel
theorem dX7_letter_15 : decode cX7_letter 15 = .ok (.getfield 12, 3) := by decide +kernel
theorem dX7_letter_18 : decode cX7_letter 18 = .ok (.iload_n 1, 1) := by decide +kernel
theorem dX7_letter_19 : decode cX7_letter 19 = .ok (.invokevirtual 60, 3) := by decide +kernel
theorem dX7_letter_22 : decode cX7_letter 22 = .ok (.ifCond .eq 13, 3) := by decide +kernel
theorem dX7_letter_25 : decode cX7_letter 25 = .ok (.aload_n 0, 1) := by decide +kernel
theorem dX7_letter_26 : decode cX7_letter 26 = .ok (.getfield 12, 3) := by decide +kernel
theorem dX7_letter_29 : decode cX7_letter 29 = .ok (.getfield 64, 3) := by decide +kernel
theorem dX7_letter_32 : decode cX7_letter 32 = .ok (.goto 5, 3) := by decide +kernel
theorem dX7_letter_35 : decode cX7_letter 35 = .ok (.bipush (-104), 2) := by decide +kernel
theorem dX7_letter_37 : decode cX7_letter 37 = .ok (.ireturn, 1) := by decide +kernel
theorem dX7_blank_0 : decode cX7_blank 0 = .ok (.aload_n 0, 1) := by decide +kernel
theorem dX7_blank_1 : decode cX7_blank 1 = .ok (.getfield 12, 3) := by decide +kernel
theorem dX7_blank_4 : decode cX7_blank 4 = .ok (.getfield 64, 3) := by decide +kernel
theorem dX7_blank_7 : decode cX7_blank 7 = .ok (.istore_n 1, 1) := by decide +kernel
theorem dX7_blank_8 : decode cX7_blank 8 = .ok (.aload_n 0, 1) := by decide +kernel
theorem dX7_blank_9 : decode cX7_blank 9 = .ok (.getfield 12, 3) := by decide +kernel
theorem dX7_blank_12 : decode cX7_blank 12 = .ok (.iconst 0, 1) := by decide +kernel
theorem dX7_blank_13 : decode cX7_blank 13 = .ok (.putfield 64, 3) := by decide +kernel
theorem dX7_blank_16 : decode cX7_blank 16 = .ok (.iload_n 1, 1) := by decide +kernel
theorem dX7_blank_17 : decode cX7_blank 17 = .ok (.ireturn, 1) := by decide +kernel
theorem dX7_fault_0 : decode cX7_fault 0 = .ok (.aload_n 0, 1) := by decide +kernel
theorem dX7_fault_1 : decode cX7_fault 1 = .ok (.getfield 12, 3) := by decide +kernel
theorem dX7_fault_4 : decode cX7_fault 4 = .ok (.invokevirtual 68, 3) := by decide +kernel
theorem dX7_fault_7 : decode cX7_fault 7 = .ok (.ireturn, 1) := by decide +kernel
theorem dX7_gallery_0 : decode cX7_gallery 0 = .ok (.aload_n 0, 1) := by decide +kernel
theorem dX7_gallery_1 : decode cX7_gallery 1 = .ok (.getfield 12, 3) := by decide +kernel
theorem dX7_gallery_4 : decode cX7_gallery 4 = .ok (.getfield 64, 3) := by decide +kernel
theorem dX7_gallery_7 : decode cX7_gallery 7 = .ok (.bipush 9, 2) := by decide +kernel
theorem dX7_gallery_9 : decode cX7_gallery 9 = .ok (.if_icmp .ne 15, 3) := by decide +kernel
theorem dX7_gallery_12 : decode cX7_gallery 12 = .ok (.aload_n 0, 1) := by decide +kernel
theorem dX7_gallery_13 : decode cX7_gallery 13 = .ok (.getfield 12, 3) := by decide +kernel
theorem dX7_gallery_16 : decode cX7_gallery 16 = .ok (.invokevirtual 68, 3) := by decide +kernel
theorem dX7_gallery_19 : decode cX7_gallery 19 = .ok (.bipush 9, 2) := by decide +kernel
theorem dX7_gallery_21 : decode cX7_gallery 21 = .ok (.if_icmp .eq 6, 3) := by decide +kernel
theorem dX7_gallery_24 : decode cX7_gallery 24 = .ok (.bipush (-103), 2) := by decide +kernel
theorem dX7_gallery_26 : decode cX7_gallery 26 = .ok (.ireturn, 1) := by decide +kernel
theorem dX7_gallery_27 : decode cX7_gallery 27 = .ok (.aload_n 0, 1) := by decide +kernel
theorem dX7_gallery_28 : decode cX7_gallery 28 = .ok (.getfield 19, 3) := by decide +kernel
theorem dX7_gallery_31 : decode cX7_gallery 31 = .ok (.aload_n 0, 1) := by decide +kernel
theorem dX7_gallery_32 : decode cX7_gallery 32 = .ok (.getfield 12, 3) := by decide +kernel
theorem dX7_gallery_35 : decode cX7_gallery 35 = .ok (.invokevirtual 72, 3) := by decide +kernel
theorem dX7_gallery_38 : decode cX7_gallery 38 = .ok (.aload_n 0, 1) := by decide +kernel
theorem dX7_gallery_39 : decode cX7_gallery 39 = .ok (.getfield 26, 3) := by decide +kernel
theorem dX7_gallery_42 : decode cX7_gallery 42 = .ok (.iconst 0, 1) := by decide +kernel
theorem dX7_gallery_43 : decode cX7_gallery 43 = .ok (.putfield 76, 3) := by decide +kernel
theorem dX7_gallery_46 : decode cX7_gallery 46 = .ok (.aload_n 0, 1) := by decide +kernel
theorem dX7_gallery_47 : decode cX7_gallery 47 = .ok (.getfield 12, 3) := by decide +kernel
theorem dX7_gallery_50 : decode cX7_gallery 50 = .ok (.iconst 0, 1) := by decide +kernel
theorem dX7_gallery_51 : decode cX7_gallery 51 = .ok (.putfield 64, 3) := by decide +kernel
theorem dX7_gallery_54 : decode cX7_gallery 54 = .ok (.aload_n 0, 1) := by decide +kernel
theorem dX7_gallery_55 : decode cX7_gallery 55 = .ok (.iconst 1, 1) := by decide +kernel
theorem dX7_gallery_56 : decode cX7_gallery 56 = .ok (.putfield 79, 3) := by decide +kernel
theorem dX7_gallery_59 : decode cX7_gallery 59 = .ok (.aload_n 0, 1) := by decide +kernel
theorem dX7_gallery_60 : decode cX7_gallery 60 = .ok (.iconst 0, 1) := by decide +kernel
theorem dX7_gallery_61 : decode cX7_gallery 61 = .ok (.putfield 83, 3) := by decide +kernel
theorem dX7_gallery_64 : decode cX7_gallery 64 = .ok (.aload_n 0, 1) := by decide +kernel
theorem dX7_gallery_65 : decode cX7_gallery 65 = .ok (.dup, 1) := by decide +kernel
theorem dX7_gallery_66 : decode cX7_gallery 66 = .ok (.getfield 86, 3) := by decide +kernel
theorem dX7_gallery_69 : decode cX7_gallery 69 = .ok (.iconst 1, 1) := by decide +kernel
theorem dX7_gallery_70 : decode cX7_gallery 70 = .ok (.iadd, 1) := by decide +kernel
theorem dX7_gallery_71 : decode cX7_gallery 71 = .ok (.putfield 86, 3) := by decide +kernel
theorem dX7_gallery_74 : decode cX7_gallery 74 = .ok (.aload_n 0, 1) := by decide +kernel
theorem dX7_gallery_75 : decode cX7_gallery 75 = .ok (.getfield 19, 3) := by decide +kernel
theorem dX7_gallery_78 : decode cX7_gallery 78 = .ok (.getfield 89, 3) := by decide +kernel
theorem dX7_gallery_81 : decode cX7_gallery 81 = .ok (.invokevirtual 93, 3) := by decide +kernel
theorem dX7_gallery_84 : decode cX7_gallery 84 = .ok (.ireturn, 1) := by decide +kernel
theorem dX7_place_0 : decode cX7_place 0 = .ok (.aload_n 0, 1) := by decide +kernel
theorem dX7_place_1 : decode cX7_place 1 = .ok (.iload_n 1, 1) := by decide +kernel
theorem dX7_place_2 : decode cX7_place 2 = .ok (.invokevirtual 98, 3) := by decide +kernel
theorem dX7_place_5 : decode cX7_place 5 = .ok (.ifCond .ne 6, 3) := by decide +kernel
theorem dX7_place_8 : decode cX7_place 8 = .ok (.bipush (-101), 2) := by decide +kernel
theorem dX7_place_10 : decode cX7_place 10 = .ok (.ireturn, 1) := by decide +kernel
theorem dX7_place_11 : decode cX7_place 11 = .ok (.iload_n 2, 1) := by decide +kernel
theorem dX7_place_12 : decode cX7_place 12 = .ok (.tableswitch 156 0 5 #[40, 53, 66, 75, 102, 129], 40) := by decide +kernel
theorem dX7_place_52 : decode cX7_place 52 = .ok (.aload_n 0, 1) := by decide +kernel
theorem dX7_place_53 : decode cX7_place 53 = .ok (.getfield 19, 3) := by decide +kernel
theorem dX7_place_56 : decode cX7_place 56 = .ok (.getfield 89, 3) := by decide +kernel
theorem dX7_place_59 : decode cX7_place 59 = .ok (.getfield 101, 3) := by decide +kernel
theorem dX7_place_62 : decode cX7_place 62 = .ok (.iload_n 1, 1) := by decide +kernel
theorem dX7_place_63 : decode cX7_place 63 = .ok (.iaload, 1) := by decide +kernel
theorem dX7_place_64 : decode cX7_place 64 = .ok (.ireturn, 1) := by decide +kernel
theorem dX7_place_65 : decode cX7_place 65 = .ok (.aload_n 0, 1) := by decide +kernel
theorem dX7_place_66 : decode cX7_place 66 = .ok (.getfield 19, 3) := by decide +kernel
theorem dX7_place_69 : decode cX7_place 69 = .ok (.getfield 89, 3) := by decide +kernel
theorem dX7_place_72 : decode cX7_place 72 = .ok (.getfield 105, 3) := by decide +kernel
theorem dX7_place_75 : decode cX7_place 75 = .ok (.iload_n 1, 1) := by decide +kernel
theorem dX7_place_76 : decode cX7_place 76 = .ok (.iaload, 1) := by decide +kernel
theorem dX7_place_77 : decode cX7_place 77 = .ok (.ireturn, 1) := by decide +kernel
theorem dX7_place_78 : decode cX7_place 78 = .ok (.aload_n 0, 1) := by decide +kernel
theorem dX7_place_79 : decode cX7_place 79 = .ok (.getfield 19, 3) := by decide +kernel
theorem dX7_place_82 : decode cX7_place 82 = .ok (.iload_n 1, 1) := by decide +kernel
theorem dX7_place_83 : decode cX7_place 83 = .ok (.invokevirtual 108, 3) := by decide +kernel
theorem dX7_place_86 : decode cX7_place 86 = .ok (.ireturn, 1) := by decide +kernel
theorem dX7_place_87 : decode cX7_place 87 = .ok (.aload_n 0, 1) := by decide +kernel
theorem dX7_place_88 : decode cX7_place 88 = .ok (.getfield 19, 3) := by decide +kernel
theorem dX7_place_91 : decode cX7_place 91 = .ok (.getfield 89, 3) := by decide +kernel
theorem dX7_place_94 : decode cX7_place 94 = .ok (.iload_n 1, 1) := by decide +kernel
theorem dX7_place_95 : decode cX7_place 95 = .ok (.invokevirtual 112, 3) := by decide +kernel
theorem dX7_place_98 : decode cX7_place 98 = .ok (.aload_n 0, 1) := by decide +kernel
theorem dX7_place_99 : decode cX7_place 99 = .ok (.getfield 19, 3) := by decide +kernel
theorem dX7_place_102 : decode cX7_place 102 = .ok (.getfield 89, 3) := by decide +kernel
theorem dX7_place_105 : decode cX7_place 105 = .ok (.getfield 101, 3) := by decide +kernel
theorem dX7_place_108 : decode cX7_place 108 = .ok (.iload_n 1, 1) := by decide +kernel
theorem dX7_place_109 : decode cX7_place 109 = .ok (.iaload, 1) := by decide +kernel
theorem dX7_place_110 : decode cX7_place 110 = .ok (.invokestatic 115, 3) := by decide +kernel
theorem dX7_place_113 : decode cX7_place 113 = .ok (.ireturn, 1) := by decide +kernel
theorem dX7_place_114 : decode cX7_place 114 = .ok (.aload_n 0, 1) := by decide +kernel
theorem dX7_place_115 : decode cX7_place 115 = .ok (.getfield 49, 3) := by decide +kernel
theorem dX7_place_118 : decode cX7_place 118 = .ok (.aload_n 0, 1) := by decide +kernel
theorem dX7_place_119 : decode cX7_place 119 = .ok (.getfield 19, 3) := by decide +kernel
theorem dX7_place_122 : decode cX7_place 122 = .ok (.getfield 89, 3) := by decide +kernel
theorem dX7_place_125 : decode cX7_place 125 = .ok (.aload_n 0, 1) := by decide +kernel
theorem dX7_place_126 : decode cX7_place 126 = .ok (.getfield 26, 3) := by decide +kernel
theorem dX7_place_129 : decode cX7_place 129 = .ok (.iload_n 1, 1) := by decide +kernel
theorem dX7_place_130 : decode cX7_place 130 = .ok (.invokevirtual 121, 3) := by decide +kernel
theorem dX7_place_133 : decode cX7_place 133 = .ok (.aload_n 0, 1) := by decide +kernel
theorem dX7_place_134 : decode cX7_place 134 = .ok (.getfield 49, 3) := by decide +kernel
theorem dX7_place_137 : decode cX7_place 137 = .ok (.getfield 125, 3) := by decide +kernel
theorem dX7_place_140 : decode cX7_place 140 = .ok (.ireturn, 1) := by decide +kernel
theorem dX7_place_141 : decode cX7_place 141 = .ok (.aload_n 0, 1) := by decide +kernel
theorem dX7_place_142 : decode cX7_place 142 = .ok (.getfield 49, 3) := by decide +kernel
theorem dX7_place_145 : decode cX7_place 145 = .ok (.aload_n 0, 1) := by decide +kernel
theorem dX7_place_146 : decode cX7_place 146 = .ok (.getfield 19, 3) := by decide +kernel
theorem dX7_place_149 : decode cX7_place 149 = .ok (.getfield 89, 3) := by decide +kernel
theorem dX7_place_152 : decode cX7_place 152 = .ok (.aload_n 0, 1) := by decide +kernel
theorem dX7_place_153 : decode cX7_place 153 = .ok (.getfield 26, 3) := by decide +kernel
theorem dX7_place_156 : decode cX7_place 156 = .ok (.iload_n 1, 1) := by decide +kernel
theorem dX7_place_157 : decode cX7_place 157 = .ok (.invokevirtual 121, 3) := by decide +kernel
theorem dX7_place_160 : decode cX7_place 160 = .ok (.aload_n 0, 1) := by decide +kernel
theorem dX7_place_161 : decode cX7_place 161 = .ok (.getfield 49, 3) := by decide +kernel
theorem dX7_place_164 : decode cX7_place 164 = .ok (.invokevirtual 128, 3) := by decide +kernel
theorem dX7_place_167 : decode cX7_place 167 = .ok (.ireturn, 1) := by decide +kernel
theorem dX7_place_168 : decode cX7_place 168 = .ok (.bipush (-102), 2) := by decide +kernel
theorem dX7_place_170 : decode cX7_place 170 = .ok (.ireturn, 1) := by decide +kernel
theorem dX7_prop_0 : decode cX7_prop 0 = .ok (.aload_n 0, 1) := by decide +kernel
theorem dX7_prop_1 : decode cX7_prop 1 = .ok (.iload_n 1, 1) := by decide +kernel
theorem dX7_prop_2 : decode cX7_prop 2 = .ok (.invokevirtual 98, 3) := by decide +kernel
theorem dX7_prop_5 : decode cX7_prop 5 = .ok (.ifCond .ne 6, 3) := by decide +kernel
theorem dX7_prop_8 : decode cX7_prop 8 = .ok (.bipush (-101), 2) := by decide +kernel
theorem dX7_prop_10 : decode cX7_prop 10 = .ok (.ireturn, 1) := by decide +kernel
theorem dX7_prop_11 : decode cX7_prop 11 = .ok (.aload_n 0, 1) := by decide +kernel
theorem dX7_prop_12 : decode cX7_prop 12 = .ok (.getfield 19, 3) := by decide +kernel
theorem dX7_prop_15 : decode cX7_prop 15 = .ok (.getfield 89, 3) := by decide +kernel
theorem dX7_prop_18 : decode cX7_prop 18 = .ok (.iload_n 1, 1) := by decide +kernel
theorem dX7_prop_19 : decode cX7_prop 19 = .ok (.invokevirtual 131, 3) := by decide +kernel
theorem dX7_prop_22 : decode cX7_prop 22 = .ok (.ifCond .eq 22, 3) := by decide +kernel
theorem dX7_prop_25 : decode cX7_prop 25 = .ok (.aload_n 0, 1) := by decide +kernel
theorem dX7_prop_26 : decode cX7_prop 26 = .ok (.getfield 19, 3) := by decide +kernel
theorem dX7_prop_29 : decode cX7_prop 29 = .ok (.getfield 89, 3) := by decide +kernel
theorem dX7_prop_32 : decode cX7_prop 32 = .ok (.getfield 101, 3) := by decide +kernel
theorem dX7_prop_35 : decode cX7_prop 35 = .ok (.iload_n 1, 1) := by decide +kernel
theorem dX7_prop_36 : decode cX7_prop 36 = .ok (.iaload, 1) := by decide +kernel
theorem dX7_prop_37 : decode cX7_prop 37 = .ok (.iconst 3, 1) := by decide +kernel
theorem dX7_prop_38 : decode cX7_prop 38 = .ok (.iadd, 1) := by decide +kernel
theorem dX7_prop_39 : decode cX7_prop 39 = .ok (.bipush 20, 2) := by decide +kernel
theorem dX7_prop_41 : decode cX7_prop 41 = .ok (.if_icmp .le 6, 3) := by decide +kernel
theorem dX7_prop_44 : decode cX7_prop 44 = .ok (.bipush (-103), 2) := by decide +kernel
theorem dX7_prop_46 : decode cX7_prop 46 = .ok (.ireturn, 1) := by decide +kernel
theorem dX7_prop_47 : decode cX7_prop 47 = .ok (.aload_n 0, 1) := by decide +kernel
theorem dX7_prop_48 : decode cX7_prop 48 = .ok (.getfield 19, 3) := by decide +kernel
theorem dX7_prop_51 : decode cX7_prop 51 = .ok (.getfield 89, 3) := by decide +kernel
theorem dX7_prop_54 : decode cX7_prop 54 = .ok (.getfield 101, 3) := by decide +kernel
theorem dX7_prop_57 : decode cX7_prop 57 = .ok (.iload_n 1, 1) := by decide +kernel
theorem dX7_prop_58 : decode cX7_prop 58 = .ok (.dup2, 1) := by decide +kernel
theorem dX7_prop_59 : decode cX7_prop 59 = .ok (.iaload, 1) := by decide +kernel
theorem dX7_prop_60 : decode cX7_prop 60 = .ok (.iconst 3, 1) := by decide +kernel
theorem dX7_prop_61 : decode cX7_prop 61 = .ok (.iadd, 1) := by decide +kernel
theorem dX7_prop_62 : decode cX7_prop 62 = .ok (.iastore, 1) := by decide +kernel
theorem dX7_prop_63 : decode cX7_prop 63 = .ok (.aload_n 0, 1) := by decide +kernel
theorem dX7_prop_64 : decode cX7_prop 64 = .ok (.getfield 19, 3) := by decide +kernel
theorem dX7_prop_67 : decode cX7_prop 67 = .ok (.dup, 1) := by decide +kernel
theorem dX7_prop_68 : decode cX7_prop 68 = .ok (.getfield 134, 3) := by decide +kernel
theorem dX7_prop_71 : decode cX7_prop 71 = .ok (.iconst 1, 1) := by decide +kernel
theorem dX7_prop_72 : decode cX7_prop 72 = .ok (.iadd, 1) := by decide +kernel
theorem dX7_prop_73 : decode cX7_prop 73 = .ok (.putfield 134, 3) := by decide +kernel
theorem dX7_prop_76 : decode cX7_prop 76 = .ok (.aload_n 0, 1) := by decide +kernel
theorem dX7_prop_77 : decode cX7_prop 77 = .ok (.getfield 19, 3) := by decide +kernel
theorem dX7_prop_80 : decode cX7_prop 80 = .ok (.getfield 89, 3) := by decide +kernel
theorem dX7_prop_83 : decode cX7_prop 83 = .ok (.getfield 101, 3) := by decide +kernel
theorem dX7_prop_86 : decode cX7_prop 86 = .ok (.iload_n 1, 1) := by decide +kernel
theorem dX7_prop_87 : decode cX7_prop 87 = .ok (.iaload, 1) := by decide +kernel
theorem dX7_prop_88 : decode cX7_prop 88 = .ok (.ireturn, 1) := by decide +kernel
theorem dX7_tenant_0 : decode cX7_tenant 0 = .ok (.iload_n 1, 1) := by decide +kernel
theorem dX7_tenant_1 : decode cX7_tenant 1 = .ok (.invokestatic 137, 3) := by decide +kernel
theorem dX7_tenant_4 : decode cX7_tenant 4 = .ok (.ifCond .ne 6, 3) := by decide +kernel
theorem dX7_tenant_7 : decode cX7_tenant 7 = .ok (.bipush (-102), 2) := by decide +kernel
theorem dX7_tenant_9 : decode cX7_tenant 9 = .ok (.ireturn, 1) := by decide +kernel
theorem dX7_tenant_10 : decode cX7_tenant 10 = .ok (.aload_n 0, 1) := by decide +kernel
theorem dX7_tenant_11 : decode cX7_tenant 11 = .ok (.iload_n 2, 1) := by decide +kernel
theorem dX7_tenant_12 : decode cX7_tenant 12 = .ok (.invokevirtual 98, 3) := by decide +kernel
theorem dX7_tenant_15 : decode cX7_tenant 15 = .ok (.ifCond .ne 6, 3) := by decide +kernel
theorem dX7_tenant_18 : decode cX7_tenant 18 = .ok (.bipush (-101), 2) := by decide +kernel
theorem dX7_tenant_20 : decode cX7_tenant 20 = .ok (.ireturn, 1) := by decide +kernel
theorem dX7_tenant_21 : decode cX7_tenant 21 = .ok (.aload_n 0, 1) := by decide +kernel
theorem dX7_tenant_22 : decode cX7_tenant 22 = .ok (.getfield 19, 3) := by decide +kernel
theorem dX7_tenant_25 : decode cX7_tenant 25 = .ok (.getfield 89, 3) := by decide +kernel
theorem dX7_tenant_28 : decode cX7_tenant 28 = .ok (.iload_n 2, 1) := by decide +kernel
theorem dX7_tenant_29 : decode cX7_tenant 29 = .ok (.invokevirtual 131, 3) := by decide +kernel
theorem dX7_tenant_32 : decode cX7_tenant 32 = .ok (.ifCond .ne 6, 3) := by decide +kernel
theorem dX7_tenant_35 : decode cX7_tenant 35 = .ok (.bipush (-103), 2) := by decide +kernel
theorem dX7_tenant_37 : decode cX7_tenant 37 = .ok (.ireturn, 1) := by decide +kernel
theorem dX7_tenant_38 : decode cX7_tenant 38 = .ok (.aload_n 0, 1) := by decide +kernel
theorem dX7_tenant_39 : decode cX7_tenant 39 = .ok (.getfield 19, 3) := by decide +kernel
theorem dX7_tenant_42 : decode cX7_tenant 42 = .ok (.getfield 140, 3) := by decide +kernel
theorem dX7_tenant_45 : decode cX7_tenant 45 = .ok (.iconst 5, 1) := by decide +kernel
theorem dX7_tenant_46 : decode cX7_tenant 46 = .ok (.if_icmp .lt 6, 3) := by decide +kernel
theorem dX7_tenant_49 : decode cX7_tenant 49 = .ok (.bipush (-104), 2) := by decide +kernel
theorem dX7_tenant_51 : decode cX7_tenant 51 = .ok (.ireturn, 1) := by decide +kernel
theorem dX7_tenant_52 : decode cX7_tenant 52 = .ok (.aload_n 0, 1) := by decide +kernel
theorem dX7_tenant_53 : decode cX7_tenant 53 = .ok (.getfield 19, 3) := by decide +kernel
theorem dX7_tenant_56 : decode cX7_tenant 56 = .ok (.iload_n 1, 1) := by decide +kernel
theorem dX7_tenant_57 : decode cX7_tenant 57 = .ok (.iload_n 2, 1) := by decide +kernel
theorem dX7_tenant_58 : decode cX7_tenant 58 = .ok (.invokevirtual 143, 3) := by decide +kernel
theorem dX7_tenant_61 : decode cX7_tenant 61 = .ok (.aload_n 0, 1) := by decide +kernel
theorem dX7_tenant_62 : decode cX7_tenant 62 = .ok (.getfield 19, 3) := by decide +kernel
theorem dX7_tenant_65 : decode cX7_tenant 65 = .ok (.getfield 140, 3) := by decide +kernel
theorem dX7_tenant_68 : decode cX7_tenant 68 = .ok (.iconst 1, 1) := by decide +kernel
theorem dX7_tenant_69 : decode cX7_tenant 69 = .ok (.isub, 1) := by decide +kernel
theorem dX7_tenant_70 : decode cX7_tenant 70 = .ok (.ireturn, 1) := by decide +kernel
theorem dX7_about_0 : decode cX7_about 0 = .ok (.aload_n 0, 1) := by decide +kernel
theorem dX7_about_1 : decode cX7_about 1 = .ok (.iload_n 1, 1) := by decide +kernel
theorem dX7_about_2 : decode cX7_about 2 = .ok (.invokevirtual 147, 3) := by decide +kernel
theorem dX7_about_5 : decode cX7_about 5 = .ok (.ifCond .ne 6, 3) := by decide +kernel
theorem dX7_about_8 : decode cX7_about 8 = .ok (.bipush (-101), 2) := by decide +kernel
theorem dX7_about_10 : decode cX7_about 10 = .ok (.ireturn, 1) := by decide +kernel
theorem dX7_about_11 : decode cX7_about 11 = .ok (.iload_n 2, 1) := by decide +kernel
theorem dX7_about_12 : decode cX7_about 12 = .ok (.tableswitch 107 0 5 #[40, 50, 60, 69, 78, 95], 40) := by decide +kernel
theorem dX7_about_52 : decode cX7_about 52 = .ok (.aload_n 0, 1) := by decide +kernel
theorem dX7_about_53 : decode cX7_about 53 = .ok (.getfield 19, 3) := by decide +kernel
theorem dX7_about_56 : decode cX7_about 56 = .ok (.getfield 150, 3) := by decide +kernel
theorem dX7_about_59 : decode cX7_about 59 = .ok (.iload_n 1, 1) := by decide +kernel
theorem dX7_about_60 : decode cX7_about 60 = .ok (.iaload, 1) := by decide +kernel
theorem dX7_about_61 : decode cX7_about 61 = .ok (.ireturn, 1) := by decide +kernel
theorem dX7_about_62 : decode cX7_about 62 = .ok (.aload_n 0, 1) := by decide +kernel
theorem dX7_about_63 : decode cX7_about 63 = .ok (.getfield 19, 3) := by decide +kernel
theorem dX7_about_66 : decode cX7_about 66 = .ok (.getfield 153, 3) := by decide +kernel
theorem dX7_about_69 : decode cX7_about 69 = .ok (.iload_n 1, 1) := by decide +kernel
theorem dX7_about_70 : decode cX7_about 70 = .ok (.iaload, 1) := by decide +kernel
theorem dX7_about_71 : decode cX7_about 71 = .ok (.ireturn, 1) := by decide +kernel
theorem dX7_about_72 : decode cX7_about 72 = .ok (.aload_n 0, 1) := by decide +kernel
theorem dX7_about_73 : decode cX7_about 73 = .ok (.getfield 19, 3) := by decide +kernel
theorem dX7_about_76 : decode cX7_about 76 = .ok (.iload_n 1, 1) := by decide +kernel
theorem dX7_about_77 : decode cX7_about 77 = .ok (.invokevirtual 156, 3) := by decide +kernel
theorem dX7_about_80 : decode cX7_about 80 = .ok (.ireturn, 1) := by decide +kernel
theorem dX7_about_81 : decode cX7_about 81 = .ok (.aload_n 0, 1) := by decide +kernel
theorem dX7_about_82 : decode cX7_about 82 = .ok (.getfield 19, 3) := by decide +kernel
theorem dX7_about_85 : decode cX7_about 85 = .ok (.iload_n 1, 1) := by decide +kernel
theorem dX7_about_86 : decode cX7_about 86 = .ok (.invokevirtual 159, 3) := by decide +kernel
theorem dX7_about_89 : decode cX7_about 89 = .ok (.ireturn, 1) := by decide +kernel
theorem dX7_about_90 : decode cX7_about 90 = .ok (.aload_n 0, 1) := by decide +kernel
theorem dX7_about_91 : decode cX7_about 91 = .ok (.getfield 19, 3) := by decide +kernel
theorem dX7_about_94 : decode cX7_about 94 = .ok (.iload_n 1, 1) := by decide +kernel
theorem dX7_about_95 : decode cX7_about 95 = .ok (.invokevirtual 162, 3) := by decide +kernel
theorem dX7_about_98 : decode cX7_about 98 = .ok (.ifCond .eq 7, 3) := by decide +kernel
theorem dX7_about_101 : decode cX7_about 101 = .ok (.iconst 1, 1) := by decide +kernel
theorem dX7_about_102 : decode cX7_about 102 = .ok (.goto 4, 3) := by decide +kernel
theorem dX7_about_105 : decode cX7_about 105 = .ok (.iconst 0, 1) := by decide +kernel
theorem dX7_about_106 : decode cX7_about 106 = .ok (.ireturn, 1) := by decide +kernel
theorem dX7_about_107 : decode cX7_about 107 = .ok (.aload_n 0, 1) := by decide +kernel
theorem dX7_about_108 : decode cX7_about 108 = .ok (.getfield 19, 3) := by decide +kernel
theorem dX7_about_111 : decode cX7_about 111 = .ok (.invokevirtual 165, 3) := by decide +kernel
theorem dX7_about_114 : decode cX7_about 114 = .ok (.iload_n 1, 1) := by decide +kernel
theorem dX7_about_115 : decode cX7_about 115 = .ok (.ishr, 1) := by decide +kernel
theorem dX7_about_116 : decode cX7_about 116 = .ok (.iconst 1, 1) := by decide +kernel
theorem dX7_about_117 : decode cX7_about 117 = .ok (.iand, 1) := by decide +kernel
theorem dX7_about_118 : decode cX7_about 118 = .ok (.ireturn, 1) := by decide +kernel
theorem dX7_about_119 : decode cX7_about 119 = .ok (.bipush (-102), 2) := by decide +kernel
theorem dX7_about_121 : decode cX7_about 121 = .ok (.ireturn, 1) := by decide +kernel
theorem dX7_as_0 : decode cX7_as 0 = .ok (.aload_n 0, 1) := by decide +kernel
theorem dX7_as_1 : decode cX7_as 1 = .ok (.iload_n 1, 1) := by decide +kernel
theorem dX7_as_2 : decode cX7_as 2 = .ok (.invokevirtual 147, 3) := by decide +kernel
theorem dX7_as_5 : decode cX7_as 5 = .ok (.ifCond .ne 6, 3) := by decide +kernel
theorem dX7_as_8 : decode cX7_as 8 = .ok (.bipush (-101), 2) := by decide +kernel
theorem dX7_as_10 : decode cX7_as 10 = .ok (.ireturn, 1) := by decide +kernel
theorem dX7_as_11 : decode cX7_as 11 = .ok (.iload_n 2, 1) := by decide +kernel
theorem dX7_as_12 : decode cX7_as 12 = .ok (.invokestatic 137, 3) := by decide +kernel
theorem dX7_as_15 : decode cX7_as 15 = .ok (.ifCond .ne 6, 3) := by decide +kernel
theorem dX7_as_18 : decode cX7_as 18 = .ok (.bipush (-102), 2) := by decide +kernel
theorem dX7_as_20 : decode cX7_as 20 = .ok (.ireturn, 1) := by decide +kernel
theorem dX7_as_21 : decode cX7_as 21 = .ok (.aload_n 0, 1) := by decide +kernel
theorem dX7_as_22 : decode cX7_as 22 = .ok (.getfield 19, 3) := by decide +kernel
theorem dX7_as_25 : decode cX7_as 25 = .ok (.getfield 150, 3) := by decide +kernel
theorem dX7_as_28 : decode cX7_as 28 = .ok (.iload_n 1, 1) := by decide +kernel
theorem dX7_as_29 : decode cX7_as 29 = .ok (.iaload, 1) := by decide +kernel
theorem dX7_as_30 : decode cX7_as 30 = .ok (.iload_n 2, 1) := by decide +kernel
theorem dX7_as_31 : decode cX7_as 31 = .ok (.invokestatic 168, 3) := by decide +kernel
theorem dX7_as_34 : decode cX7_as 34 = .ok (.ifCond .eq 7, 3) := by decide +kernel
theorem dX7_as_37 : decode cX7_as 37 = .ok (.iload_n 1, 1) := by decide +kernel
theorem dX7_as_38 : decode cX7_as 38 = .ok (.goto 4, 3) := by decide +kernel
theorem dX7_as_41 : decode cX7_as 41 = .ok (.iconst (-1), 1) := by decide +kernel
theorem dX7_as_42 : decode cX7_as 42 = .ok (.ireturn, 1) := by decide +kernel
theorem dX7_move_0 : decode cX7_move 0 = .ok (.aload_n 0, 1) := by decide +kernel
theorem dX7_move_1 : decode cX7_move 1 = .ok (.iload_n 1, 1) := by decide +kernel
theorem dX7_move_2 : decode cX7_move 2 = .ok (.invokevirtual 147, 3) := by decide +kernel
theorem dX7_move_5 : decode cX7_move 5 = .ok (.ifCond .eq 11, 3) := by decide +kernel
theorem dX7_move_8 : decode cX7_move 8 = .ok (.aload_n 0, 1) := by decide +kernel
theorem dX7_move_9 : decode cX7_move 9 = .ok (.iload_n 2, 1) := by decide +kernel
theorem dX7_move_10 : decode cX7_move 10 = .ok (.invokevirtual 98, 3) := by decide +kernel
theorem dX7_move_13 : decode cX7_move 13 = .ok (.ifCond .ne 6, 3) := by decide +kernel
theorem dX7_move_16 : decode cX7_move 16 = .ok (.bipush (-101), 2) := by decide +kernel
theorem dX7_move_18 : decode cX7_move 18 = .ok (.ireturn, 1) := by decide +kernel
theorem dX7_move_19 : decode cX7_move 19 = .ok (.aload_n 0, 1) := by decide +kernel
theorem dX7_move_20 : decode cX7_move 20 = .ok (.getfield 19, 3) := by decide +kernel
theorem dX7_move_23 : decode cX7_move 23 = .ok (.getfield 153, 3) := by decide +kernel
theorem dX7_move_26 : decode cX7_move 26 = .ok (.iload_n 1, 1) := by decide +kernel
theorem dX7_move_27 : decode cX7_move 27 = .ok (.iaload, 1) := by decide +kernel
theorem dX7_move_28 : decode cX7_move 28 = .ok (.istore_n 3, 1) := by decide +kernel
theorem dX7_move_29 : decode cX7_move 29 = .ok (.aload_n 0, 1) := by decide +kernel
theorem dX7_move_30 : decode cX7_move 30 = .ok (.getfield 19, 3) := by decide +kernel
theorem dX7_move_33 : decode cX7_move 33 = .ok (.iload_n 1, 1) := by decide +kernel
theorem dX7_move_34 : decode cX7_move 34 = .ok (.iload_n 2, 1) := by decide +kernel
theorem dX7_move_35 : decode cX7_move 35 = .ok (.invokevirtual 172, 3) := by decide +kernel
theorem dX7_move_38 : decode cX7_move 38 = .ok (.ifCond .eq 7, 3) := by decide +kernel
theorem dX7_move_41 : decode cX7_move 41 = .ok (.iload_n 3, 1) := by decide +kernel
theorem dX7_move_42 : decode cX7_move 42 = .ok (.goto 5, 3) := by decide +kernel
theorem dX7_move_45 : decode cX7_move 45 = .ok (.bipush (-103), 2) := by decide +kernel
theorem dX7_move_47 : decode cX7_move 47 = .ok (.ireturn, 1) := by decide +kernel
theorem dX7_day_0 : decode cX7_day 0 = .ok (.aload_n 0, 1) := by decide +kernel
theorem dX7_day_1 : decode cX7_day 1 = .ok (.getfield 79, 3) := by decide +kernel
theorem dX7_day_4 : decode cX7_day 4 = .ok (.ifCond .eq 13, 3) := by decide +kernel
theorem dX7_day_7 : decode cX7_day 7 = .ok (.aload_n 0, 1) := by decide +kernel
theorem dX7_day_8 : decode cX7_day 8 = .ok (.getfield 19, 3) := by decide +kernel
theorem dX7_day_11 : decode cX7_day 11 = .ok (.invokevirtual 175, 3) := by decide +kernel
theorem dX7_day_14 : decode cX7_day 14 = .ok (.goto 5, 3) := by decide +kernel
theorem dX7_day_17 : decode cX7_day 17 = .ok (.bipush (-103), 2) := by decide +kernel
theorem dX7_day_19 : decode cX7_day 19 = .ok (.ireturn, 1) := by decide +kernel
theorem dX7_holds_0 : decode cX7_holds 0 = .ok (.aload_n 0, 1) := by decide +kernel
theorem dX7_holds_1 : decode cX7_holds 1 = .ok (.getfield 79, 3) := by decide +kernel
theorem dX7_holds_4 : decode cX7_holds 4 = .ok (.ifCond .eq 19, 3) := by decide +kernel
theorem dX7_holds_7 : decode cX7_holds 7 = .ok (.aload_n 0, 1) := by decide +kernel
theorem dX7_holds_8 : decode cX7_holds 8 = .ok (.getfield 19, 3) := by decide +kernel
theorem dX7_holds_11 : decode cX7_holds 11 = .ok (.getfield 89, 3) := by decide +kernel
theorem dX7_holds_14 : decode cX7_holds 14 = .ok (.invokevirtual 178, 3) := by decide +kernel
theorem dX7_holds_17 : decode cX7_holds 17 = .ok (.invokestatic 181, 3) := by decide +kernel
theorem dX7_holds_20 : decode cX7_holds 20 = .ok (.goto 5, 3) := by decide +kernel
theorem dX7_holds_23 : decode cX7_holds 23 = .ok (.bipush (-103), 2) := by decide +kernel
theorem dX7_holds_25 : decode cX7_holds 25 = .ok (.ireturn, 1) := by decide +kernel
theorem dX7_where_0 : decode cX7_where 0 = .ok (.iload_n 1, 1) := by decide +kernel
theorem dX7_where_1 : decode cX7_where 1 = .ok (.bipush 10, 2) := by decide +kernel
theorem dX7_where_3 : decode cX7_where 3 = .ok (.isub, 1) := by decide +kernel
theorem dX7_where_4 : decode cX7_where 4 = .ok (.istore_n 2, 1) := by decide +kernel
theorem dX7_where_5 : decode cX7_where 5 = .ok (.iload_n 1, 1) := by decide +kernel
theorem dX7_where_6 : decode cX7_where 6 = .ok (.bipush 10, 2) := by decide +kernel
theorem dX7_where_8 : decode cX7_where 8 = .ok (.if_icmp .lt 12, 3) := by decide +kernel
theorem dX7_where_11 : decode cX7_where 11 = .ok (.iload_n 2, 1) := by decide +kernel
theorem dX7_where_12 : decode cX7_where 12 = .ok (.iconst 5, 1) := by decide +kernel
theorem dX7_where_13 : decode cX7_where 13 = .ok (.if_icmp .ge 7, 3) := by decide +kernel
theorem dX7_where_16 : decode cX7_where 16 = .ok (.iconst 1, 1) := by decide +kernel
theorem dX7_where_17 : decode cX7_where 17 = .ok (.goto 4, 3) := by decide +kernel
theorem dX7_where_20 : decode cX7_where 20 = .ok (.iconst 0, 1) := by decide +kernel
theorem dX7_where_21 : decode cX7_where 21 = .ok (.istore_n 3, 1) := by decide +kernel
theorem dX7_where_22 : decode cX7_where 22 = .ok (.iload_n 1, 1) := by decide +kernel
theorem dX7_where_23 : decode cX7_where 23 = .ok (.ifCond .eq 10, 3) := by decide +kernel
theorem dX7_where_26 : decode cX7_where 26 = .ok (.iload_n 3, 1) := by decide +kernel
theorem dX7_where_27 : decode cX7_where 27 = .ok (.ifCond .ne 6, 3) := by decide +kernel
theorem dX7_where_30 : decode cX7_where 30 = .ok (.bipush (-102), 2) := by decide +kernel
theorem dX7_where_32 : decode cX7_where 32 = .ok (.ireturn, 1) := by decide +kernel
theorem dX7_where_33 : decode cX7_where 33 = .ok (.aload_n 0, 1) := by decide +kernel
theorem dX7_where_34 : decode cX7_where 34 = .ok (.getfield 79, 3) := by decide +kernel
theorem dX7_where_37 : decode cX7_where 37 = .ok (.ifCond .eq 12, 3) := by decide +kernel
theorem dX7_where_40 : decode cX7_where 40 = .ok (.aload_n 0, 1) := by decide +kernel
theorem dX7_where_41 : decode cX7_where 41 = .ok (.getfield 184, 3) := by decide +kernel
theorem dX7_where_44 : decode cX7_where 44 = .ok (.bipush 12, 2) := by decide +kernel
theorem dX7_where_46 : decode cX7_where 46 = .ok (.if_icmp .lt 6, 3) := by decide +kernel
theorem dX7_where_49 : decode cX7_where 49 = .ok (.bipush (-103), 2) := by decide +kernel
theorem dX7_where_51 : decode cX7_where 51 = .ok (.ireturn, 1) := by decide +kernel
theorem dX7_where_52 : decode cX7_where 52 = .ok (.aload_n 0, 1) := by decide +kernel
theorem dX7_where_53 : decode cX7_where 53 = .ok (.dup, 1) := by decide +kernel
theorem dX7_where_54 : decode cX7_where 54 = .ok (.getfield 184, 3) := by decide +kernel
theorem dX7_where_57 : decode cX7_where 57 = .ok (.iconst 1, 1) := by decide +kernel
theorem dX7_where_58 : decode cX7_where 58 = .ok (.iadd, 1) := by decide +kernel
theorem dX7_where_59 : decode cX7_where 59 = .ok (.putfield 184, 3) := by decide +kernel
theorem dX7_where_62 : decode cX7_where 62 = .ok (.aload_n 0, 1) := by decide +kernel
theorem dX7_where_63 : decode cX7_where 63 = .ok (.getfield 42, 3) := by decide +kernel
theorem dX7_where_66 : decode cX7_where 66 = .ok (.aload_n 0, 1) := by decide +kernel
theorem dX7_where_67 : decode cX7_where 67 = .ok (.getfield 19, 3) := by decide +kernel
theorem dX7_where_70 : decode cX7_where 70 = .ok (.invokevirtual 187, 3) := by decide +kernel
theorem dX7_where_73 : decode cX7_where 73 = .ok (.aload_n 0, 1) := by decide +kernel
theorem dX7_where_74 : decode cX7_where 74 = .ok (.getfield 42, 3) := by decide +kernel
theorem dX7_where_77 : decode cX7_where 77 = .ok (.getfield 191, 3) := by decide +kernel
theorem dX7_where_80 : decode cX7_where 80 = .ok (.ifCond .ne 5, 3) := by decide +kernel
theorem dX7_where_83 : decode cX7_where 83 = .ok (.iconst (-1), 1) := by decide +kernel
theorem dX7_where_84 : decode cX7_where 84 = .ok (.ireturn, 1) := by decide +kernel
theorem dX7_where_85 : decode cX7_where 85 = .ok (.iload_n 3, 1) := by decide +kernel
theorem dX7_where_86 : decode cX7_where 86 = .ok (.ifCond .ne 14, 3) := by decide +kernel
theorem dX7_where_89 : decode cX7_where 89 = .ok (.aload_n 0, 1) := by decide +kernel
theorem dX7_where_90 : decode cX7_where 90 = .ok (.getfield 42, 3) := by decide +kernel
theorem dX7_where_93 : decode cX7_where 93 = .ok (.getfield 194, 3) := by decide +kernel
theorem dX7_where_96 : decode cX7_where 96 = .ok (.invokestatic 181, 3) := by decide +kernel
theorem dX7_where_99 : decode cX7_where 99 = .ok (.ireturn, 1) := by decide +kernel
theorem dX7_where_100 : decode cX7_where 100 = .ok (.aload_n 0, 1) := by decide +kernel
theorem dX7_where_101 : decode cX7_where 101 = .ok (.iload_n 2, 1) := by decide +kernel
theorem dX7_where_102 : decode cX7_where 102 = .ok (.invokevirtual 147, 3) := by decide +kernel
theorem dX7_where_105 : decode cX7_where 105 = .ok (.ifCond .eq 15, 3) := by decide +kernel
theorem dX7_where_108 : decode cX7_where 108 = .ok (.aload_n 0, 1) := by decide +kernel
theorem dX7_where_109 : decode cX7_where 109 = .ok (.getfield 42, 3) := by decide +kernel
theorem dX7_where_112 : decode cX7_where 112 = .ok (.getfield 197, 3) := by decide +kernel
theorem dX7_where_115 : decode cX7_where 115 = .ok (.iload_n 2, 1) := by decide +kernel
theorem dX7_where_116 : decode cX7_where 116 = .ok (.iaload, 1) := by decide +kernel
theorem dX7_where_117 : decode cX7_where 117 = .ok (.goto 4, 3) := by decide +kernel
theorem dX7_where_120 : decode cX7_where 120 = .ok (.iconst (-1), 1) := by decide +kernel
theorem dX7_where_121 : decode cX7_where 121 = .ok (.ireturn, 1) := by decide +kernel
theorem dX7_props_0 : decode cX7_props 0 = .ok (.iload_n 2, 1) := by decide +kernel
theorem dX7_props_1 : decode cX7_props 1 = .ok (.bipush 10, 2) := by decide +kernel
theorem dX7_props_3 : decode cX7_props 3 = .ok (.isub, 1) := by decide +kernel
theorem dX7_props_4 : decode cX7_props 4 = .ok (.istore_n 3, 1) := by decide +kernel
theorem dX7_props_5 : decode cX7_props 5 = .ok (.iload_n 2, 1) := by decide +kernel
theorem dX7_props_6 : decode cX7_props 6 = .ok (.bipush 10, 2) := by decide +kernel
theorem dX7_props_8 : decode cX7_props 8 = .ok (.if_icmp .lt 13, 3) := by decide +kernel
theorem dX7_props_11 : decode cX7_props 11 = .ok (.iload_n 3, 1) := by decide +kernel
theorem dX7_props_12 : decode cX7_props 12 = .ok (.bipush 6, 2) := by decide +kernel
theorem dX7_props_14 : decode cX7_props 14 = .ok (.if_icmp .ge 7, 3) := by decide +kernel
theorem dX7_props_17 : decode cX7_props 17 = .ok (.iconst 1, 1) := by decide +kernel
theorem dX7_props_18 : decode cX7_props 18 = .ok (.goto 4, 3) := by decide +kernel
theorem dX7_props_21 : decode cX7_props 21 = .ok (.iconst 0, 1) := by decide +kernel
theorem dX7_props_22 : decode cX7_props 22 = .ok (.istore 4, 2) := by decide +kernel
theorem dX7_props_24 : decode cX7_props 24 = .ok (.iload_n 1, 1) := by decide +kernel
theorem dX7_props_25 : decode cX7_props 25 = .ok (.iconst 1, 1) := by decide +kernel
theorem dX7_props_26 : decode cX7_props 26 = .ok (.if_icmp .lt 18, 3) := by decide +kernel
theorem dX7_props_29 : decode cX7_props 29 = .ok (.iload_n 1, 1) := by decide +kernel
theorem dX7_props_30 : decode cX7_props 30 = .ok (.bipush 20, 2) := by decide +kernel
theorem dX7_props_32 : decode cX7_props 32 = .ok (.if_icmp .gt 12, 3) := by decide +kernel
theorem dX7_props_35 : decode cX7_props 35 = .ok (.iload_n 2, 1) := by decide +kernel
theorem dX7_props_36 : decode cX7_props 36 = .ok (.ifCond .eq 11, 3) := by decide +kernel
theorem dX7_props_39 : decode cX7_props 39 = .ok (.iload 4, 2) := by decide +kernel
theorem dX7_props_41 : decode cX7_props 41 = .ok (.ifCond .ne 6, 3) := by decide +kernel
theorem dX7_props_44 : decode cX7_props 44 = .ok (.bipush (-102), 2) := by decide +kernel
theorem dX7_props_46 : decode cX7_props 46 = .ok (.ireturn, 1) := by decide +kernel
end
section
theorem dX7_props_47 : decode cX7_props 47 = .ok (.aload_n 0, 1) := by decide +kernel
theorem dX7_props_48 : decode cX7_props 48 = .ok (.getfield 79, 3) := by decide +kernel
theorem dX7_props_51 : decode cX7_props 51 = .ok (.ifCond .ne 6, 3) := by decide +kernel
theorem dX7_props_54 : decode cX7_props 54 = .ok (.bipush (-103), 2) := by decide +kernel
theorem dX7_props_56 : decode cX7_props 56 = .ok (.ireturn, 1) := by decide +kernel
theorem dX7_props_57 : decode cX7_props 57 = .ok (.aload_n 0, 1) := by decide +kernel
theorem dX7_props_58 : decode cX7_props 58 = .ok (.getfield 19, 3) := by decide +kernel
theorem dX7_props_61 : decode cX7_props 61 = .ok (.getfield 89, 3) := by decide +kernel
theorem dX7_props_64 : decode cX7_props 64 = .ok (.iload_n 1, 1) := by decide +kernel
theorem dX7_props_65 : decode cX7_props 65 = .ok (.invokevirtual 200, 3) := by decide +kernel
theorem dX7_props_68 : decode cX7_props 68 = .ok (.istore 5, 2) := by decide +kernel
theorem dX7_props_70 : decode cX7_props 70 = .ok (.iload 5, 2) := by decide +kernel
theorem dX7_props_72 : decode cX7_props 72 = .ok (.iconst (-1), 1) := by decide +kernel
theorem dX7_props_73 : decode cX7_props 73 = .ok (.if_icmp .eq 8, 3) := by decide +kernel
theorem dX7_props_76 : decode cX7_props 76 = .ok (.iload 4, 2) := by decide +kernel
theorem dX7_props_78 : decode cX7_props 78 = .ok (.ifCond .ne 8, 3) := by decide +kernel
theorem dX7_props_81 : decode cX7_props 81 = .ok (.iload 5, 2) := by decide +kernel
theorem dX7_props_83 : decode cX7_props 83 = .ok (.goto 15, 3) := by decide +kernel
theorem dX7_props_86 : decode cX7_props 86 = .ok (.aload_n 0, 1) := by decide +kernel
theorem dX7_props_87 : decode cX7_props 87 = .ok (.getfield 19, 3) := by decide +kernel
theorem dX7_props_90 : decode cX7_props 90 = .ok (.getfield 89, 3) := by decide +kernel
theorem dX7_props_93 : decode cX7_props 93 = .ok (.iload_n 3, 1) := by decide +kernel
theorem dX7_props_94 : decode cX7_props 94 = .ok (.iload_n 1, 1) := by decide +kernel
theorem dX7_props_95 : decode cX7_props 95 = .ok (.invokevirtual 203, 3) := by decide +kernel
theorem dX7_props_98 : decode cX7_props 98 = .ok (.ireturn, 1) := by decide +kernel
theorem dX7_out_0 : decode cX7_out 0 = .ok (.aload_n 0, 1) := by decide +kernel
theorem dX7_out_1 : decode cX7_out 1 = .ok (.getfield 79, 3) := by decide +kernel
theorem dX7_out_4 : decode cX7_out 4 = .ok (.ifCond .eq 13, 3) := by decide +kernel
theorem dX7_out_7 : decode cX7_out 7 = .ok (.aload_n 0, 1) := by decide +kernel
theorem dX7_out_8 : decode cX7_out 8 = .ok (.getfield 19, 3) := by decide +kernel
theorem dX7_out_11 : decode cX7_out 11 = .ok (.invokevirtual 206, 3) := by decide +kernel
theorem dX7_out_14 : decode cX7_out 14 = .ok (.goto 5, 3) := by decide +kernel
theorem dX7_out_17 : decode cX7_out 17 = .ok (.bipush (-103), 2) := by decide +kernel
theorem dX7_out_19 : decode cX7_out 19 = .ok (.ireturn, 1) := by decide +kernel
theorem dX7_knock_0 : decode cX7_knock 0 = .ok (.aload_n 0, 1) := by decide +kernel
theorem dX7_knock_1 : decode cX7_knock 1 = .ok (.iload_n 1, 1) := by decide +kernel
theorem dX7_knock_2 : decode cX7_knock 2 = .ok (.invokevirtual 98, 3) := by decide +kernel
theorem dX7_knock_5 : decode cX7_knock 5 = .ok (.ifCond .ne 6, 3) := by decide +kernel
theorem dX7_knock_8 : decode cX7_knock 8 = .ok (.bipush (-101), 2) := by decide +kernel
theorem dX7_knock_10 : decode cX7_knock 10 = .ok (.ireturn, 1) := by decide +kernel
theorem dX7_knock_11 : decode cX7_knock 11 = .ok (.iload_n 2, 1) := by decide +kernel
theorem dX7_knock_12 : decode cX7_knock 12 = .ok (.ifCond .lt 9, 3) := by decide +kernel
theorem dX7_knock_15 : decode cX7_knock 15 = .ok (.iload_n 2, 1) := by decide +kernel
theorem dX7_knock_16 : decode cX7_knock 16 = .ok (.bipush 20, 2) := by decide +kernel
theorem dX7_knock_18 : decode cX7_knock 18 = .ok (.if_icmp .le 6, 3) := by decide +kernel
theorem dX7_knock_21 : decode cX7_knock 21 = .ok (.bipush (-102), 2) := by decide +kernel
theorem dX7_knock_23 : decode cX7_knock 23 = .ok (.ireturn, 1) := by decide +kernel
theorem dX7_knock_24 : decode cX7_knock 24 = .ok (.aload_n 0, 1) := by decide +kernel
theorem dX7_knock_25 : decode cX7_knock 25 = .ok (.getfield 26, 3) := by decide +kernel
theorem dX7_knock_28 : decode cX7_knock 28 = .ok (.iload_n 1, 1) := by decide +kernel
theorem dX7_knock_29 : decode cX7_knock 29 = .ok (.iload_n 2, 1) := by decide +kernel
theorem dX7_knock_30 : decode cX7_knock 30 = .ok (.iload_n 3, 1) := by decide +kernel
theorem dX7_knock_31 : decode cX7_knock 31 = .ok (.invokevirtual 209, 3) := by decide +kernel
theorem dX7_knock_34 : decode cX7_knock 34 = .ok (.ifCond .eq 13, 3) := by decide +kernel
theorem dX7_knock_37 : decode cX7_knock 37 = .ok (.aload_n 0, 1) := by decide +kernel
theorem dX7_knock_38 : decode cX7_knock 38 = .ok (.getfield 26, 3) := by decide +kernel
theorem dX7_knock_41 : decode cX7_knock 41 = .ok (.getfield 76, 3) := by decide +kernel
theorem dX7_knock_44 : decode cX7_knock 44 = .ok (.goto 5, 3) := by decide +kernel
theorem dX7_knock_47 : decode cX7_knock 47 = .ok (.bipush (-104), 2) := by decide +kernel
theorem dX7_knock_49 : decode cX7_knock 49 = .ok (.ireturn, 1) := by decide +kernel
theorem dX7_forget_0 : decode cX7_forget 0 = .ok (.aload_n 0, 1) := by decide +kernel
theorem dX7_forget_1 : decode cX7_forget 1 = .ok (.getfield 26, 3) := by decide +kernel
theorem dX7_forget_4 : decode cX7_forget 4 = .ok (.getfield 76, 3) := by decide +kernel
theorem dX7_forget_7 : decode cX7_forget 7 = .ok (.istore_n 1, 1) := by decide +kernel
theorem dX7_forget_8 : decode cX7_forget 8 = .ok (.aload_n 0, 1) := by decide +kernel
theorem dX7_forget_9 : decode cX7_forget 9 = .ok (.getfield 26, 3) := by decide +kernel
theorem dX7_forget_12 : decode cX7_forget 12 = .ok (.iconst 0, 1) := by decide +kernel
theorem dX7_forget_13 : decode cX7_forget 13 = .ok (.putfield 76, 3) := by decide +kernel
theorem dX7_forget_16 : decode cX7_forget 16 = .ok (.iload_n 1, 1) := by decide +kernel
theorem dX7_forget_17 : decode cX7_forget 17 = .ok (.ireturn, 1) := by decide +kernel
theorem dX7_years_0 : decode cX7_years 0 = .ok (.iload_n 1, 1) := by decide +kernel
theorem dX7_years_1 : decode cX7_years 1 = .ok (.iconst 1, 1) := by decide +kernel
theorem dX7_years_2 : decode cX7_years 2 = .ok (.if_icmp .lt 22, 3) := by decide +kernel
theorem dX7_years_5 : decode cX7_years 5 = .ok (.iload_n 1, 1) := by decide +kernel
theorem dX7_years_6 : decode cX7_years 6 = .ok (.bipush 60, 2) := by decide +kernel
theorem dX7_years_8 : decode cX7_years 8 = .ok (.if_icmp .gt 16, 3) := by decide +kernel
theorem dX7_years_11 : decode cX7_years 11 = .ok (.iload_n 2, 1) := by decide +kernel
theorem dX7_years_12 : decode cX7_years 12 = .ok (.ifCond .lt 12, 3) := by decide +kernel
theorem dX7_years_15 : decode cX7_years 15 = .ok (.iload_n 3, 1) := by decide +kernel
theorem dX7_years_16 : decode cX7_years 16 = .ok (.ifCond .lt 8, 3) := by decide +kernel
theorem dX7_years_19 : decode cX7_years 19 = .ok (.iload_n 3, 1) := by decide +kernel
theorem dX7_years_20 : decode cX7_years 20 = .ok (.iconst 2, 1) := by decide +kernel
theorem dX7_years_21 : decode cX7_years 21 = .ok (.if_icmp .le 6, 3) := by decide +kernel
theorem dX7_years_24 : decode cX7_years 24 = .ok (.bipush (-102), 2) := by decide +kernel
theorem dX7_years_26 : decode cX7_years 26 = .ok (.ireturn, 1) := by decide +kernel
theorem dX7_years_27 : decode cX7_years 27 = .ok (.aload_n 0, 1) := by decide +kernel
theorem dX7_years_28 : decode cX7_years 28 = .ok (.getfield 19, 3) := by decide +kernel
theorem dX7_years_31 : decode cX7_years 31 = .ok (.getfield 140, 3) := by decide +kernel
theorem dX7_years_34 : decode cX7_years 34 = .ok (.iconst 1, 1) := by decide +kernel
theorem dX7_years_35 : decode cX7_years 35 = .ok (.if_icmp .ge 6, 3) := by decide +kernel
theorem dX7_years_38 : decode cX7_years 38 = .ok (.bipush (-103), 2) := by decide +kernel
theorem dX7_years_40 : decode cX7_years 40 = .ok (.ireturn, 1) := by decide +kernel
theorem dX7_years_41 : decode cX7_years 41 = .ok (.aload_n 0, 1) := by decide +kernel
theorem dX7_years_42 : decode cX7_years 42 = .ok (.getfield 56, 3) := by decide +kernel
theorem dX7_years_45 : decode cX7_years 45 = .ok (.iload_n 2, 1) := by decide +kernel
theorem dX7_years_46 : decode cX7_years 46 = .ok (.putfield 213, 3) := by decide +kernel
theorem dX7_years_49 : decode cX7_years 49 = .ok (.aload_n 0, 1) := by decide +kernel
theorem dX7_years_50 : decode cX7_years 50 = .ok (.getfield 36, 3) := by decide +kernel
theorem dX7_years_53 : decode cX7_years 53 = .ok (.aload_n 0, 1) := by decide +kernel
theorem dX7_years_54 : decode cX7_years 54 = .ok (.getfield 19, 3) := by decide +kernel
theorem dX7_years_57 : decode cX7_years 57 = .ok (.invokevirtual 216, 3) := by decide +kernel
theorem dX7_years_60 : decode cX7_years 60 = .ok (.iconst 0, 1) := by decide +kernel
theorem dX7_years_61 : decode cX7_years 61 = .ok (.istore 4, 2) := by decide +kernel
theorem dX7_years_63 : decode cX7_years 63 = .ok (.iconst 0, 1) := by decide +kernel
theorem dX7_years_64 : decode cX7_years 64 = .ok (.istore 5, 2) := by decide +kernel
theorem dX7_years_66 : decode cX7_years 66 = .ok (.iload 5, 2) := by decide +kernel
theorem dX7_years_68 : decode cX7_years 68 = .ok (.iload_n 1, 1) := by decide +kernel
theorem dX7_years_69 : decode cX7_years 69 = .ok (.if_icmp .ge 60, 3) := by decide +kernel
theorem dX7_years_72 : decode cX7_years 72 = .ok (.aload_n 0, 1) := by decide +kernel
theorem dX7_years_73 : decode cX7_years 73 = .ok (.getfield 56, 3) := by decide +kernel
theorem dX7_years_76 : decode cX7_years 76 = .ok (.aload_n 0, 1) := by decide +kernel
theorem dX7_years_77 : decode cX7_years 77 = .ok (.getfield 36, 3) := by decide +kernel
theorem dX7_years_80 : decode cX7_years 80 = .ok (.getfield 140, 3) := by decide +kernel
theorem dX7_years_83 : decode cX7_years 83 = .ok (.invokevirtual 219, 3) := by decide +kernel
theorem dX7_years_86 : decode cX7_years 86 = .ok (.istore 6, 2) := by decide +kernel
theorem dX7_years_88 : decode cX7_years 88 = .ok (.aload_n 0, 1) := by decide +kernel
theorem dX7_years_89 : decode cX7_years 89 = .ok (.getfield 56, 3) := by decide +kernel
theorem dX7_years_92 : decode cX7_years 92 = .ok (.bipush 6, 2) := by decide +kernel
theorem dX7_years_94 : decode cX7_years 94 = .ok (.invokevirtual 219, 3) := by decide +kernel
theorem dX7_years_97 : decode cX7_years 97 = .ok (.istore 7, 2) := by decide +kernel
theorem dX7_years_99 : decode cX7_years 99 = .ok (.aload_n 0, 1) := by decide +kernel
theorem dX7_years_100 : decode cX7_years 100 = .ok (.getfield 36, 3) := by decide +kernel
theorem dX7_years_103 : decode cX7_years 103 = .ok (.iload 6, 2) := by decide +kernel
theorem dX7_years_105 : decode cX7_years 105 = .ok (.iload 7, 2) := by decide +kernel
theorem dX7_years_107 : decode cX7_years 107 = .ok (.invokevirtual 172, 3) := by decide +kernel
theorem dX7_years_110 : decode cX7_years 110 = .ok (.pop, 1) := by decide +kernel
theorem dX7_years_111 : decode cX7_years 111 = .ok (.iload 4, 2) := by decide +kernel
theorem dX7_years_113 : decode cX7_years 113 = .ok (.aload_n 0, 1) := by decide +kernel
theorem dX7_years_114 : decode cX7_years 114 = .ok (.getfield 36, 3) := by decide +kernel
theorem dX7_years_117 : decode cX7_years 117 = .ok (.invokevirtual 175, 3) := by decide +kernel
theorem dX7_years_120 : decode cX7_years 120 = .ok (.iadd, 1) := by decide +kernel
theorem dX7_years_121 : decode cX7_years 121 = .ok (.istore 4, 2) := by decide +kernel
theorem dX7_years_123 : decode cX7_years 123 = .ok (.iinc 5 1, 3) := by decide +kernel
theorem dX7_years_126 : decode cX7_years 126 = .ok (.goto (-60), 3) := by decide +kernel
theorem dX7_years_129 : decode cX7_years 129 = .ok (.iload_n 3, 1) := by decide +kernel
theorem dX7_years_130 : decode cX7_years 130 = .ok (.iconst 2, 1) := by decide +kernel
theorem dX7_years_131 : decode cX7_years 131 = .ok (.if_icmp .ne 11, 3) := by decide +kernel
theorem dX7_years_134 : decode cX7_years 134 = .ok (.aload_n 0, 1) := by decide +kernel
theorem dX7_years_135 : decode cX7_years 135 = .ok (.getfield 56, 3) := by decide +kernel
theorem dX7_years_138 : decode cX7_years 138 = .ok (.getfield 213, 3) := by decide +kernel
theorem dX7_years_141 : decode cX7_years 141 = .ok (.ireturn, 1) := by decide +kernel
theorem dX7_years_142 : decode cX7_years 142 = .ok (.iload_n 3, 1) := by decide +kernel
theorem dX7_years_143 : decode cX7_years 143 = .ok (.ifCond .ne 8, 3) := by decide +kernel
theorem dX7_years_146 : decode cX7_years 146 = .ok (.iload 4, 2) := by decide +kernel
theorem dX7_years_148 : decode cX7_years 148 = .ok (.goto 13, 3) := by decide +kernel
theorem dX7_years_151 : decode cX7_years 151 = .ok (.aload_n 0, 1) := by decide +kernel
theorem dX7_years_152 : decode cX7_years 152 = .ok (.getfield 36, 3) := by decide +kernel
theorem dX7_years_155 : decode cX7_years 155 = .ok (.invokevirtual 165, 3) := by decide +kernel
theorem dX7_years_158 : decode cX7_years 158 = .ok (.invokestatic 222, 3) := by decide +kernel
theorem dX7_years_161 : decode cX7_years 161 = .ok (.ireturn, 1) := by decide +kernel
theorem dX7_image_0 : decode cX7_image 0 = .ok (.aload_n 0, 1) := by decide +kernel
theorem dX7_image_1 : decode cX7_image 1 = .ok (.getfield 79, 3) := by decide +kernel
theorem dX7_image_4 : decode cX7_image 4 = .ok (.ifCond .ne 6, 3) := by decide +kernel
theorem dX7_image_7 : decode cX7_image 7 = .ok (.bipush (-103), 2) := by decide +kernel
theorem dX7_image_9 : decode cX7_image 9 = .ok (.ireturn, 1) := by decide +kernel
theorem dX7_image_10 : decode cX7_image 10 = .ok (.aload_n 0, 1) := by decide +kernel
theorem dX7_image_11 : decode cX7_image 11 = .ok (.getfield 30, 3) := by decide +kernel
theorem dX7_image_14 : decode cX7_image 14 = .ok (.aload_n 0, 1) := by decide +kernel
theorem dX7_image_15 : decode cX7_image 15 = .ok (.getfield 19, 3) := by decide +kernel
theorem dX7_image_18 : decode cX7_image 18 = .ok (.invokevirtual 216, 3) := by decide +kernel
theorem dX7_image_21 : decode cX7_image 21 = .ok (.aload_n 0, 1) := by decide +kernel
theorem dX7_image_22 : decode cX7_image 22 = .ok (.getfield 33, 3) := by decide +kernel
theorem dX7_image_25 : decode cX7_image 25 = .ok (.aload_n 0, 1) := by decide +kernel
theorem dX7_image_26 : decode cX7_image 26 = .ok (.getfield 26, 3) := by decide +kernel
theorem dX7_image_29 : decode cX7_image 29 = .ok (.invokevirtual 227, 3) := by decide +kernel
theorem dX7_image_32 : decode cX7_image 32 = .ok (.aload_n 0, 1) := by decide +kernel
theorem dX7_image_33 : decode cX7_image 33 = .ok (.iconst 1, 1) := by decide +kernel
theorem dX7_image_34 : decode cX7_image 34 = .ok (.putfield 83, 3) := by decide +kernel
theorem dX7_image_37 : decode cX7_image 37 = .ok (.aload_n 0, 1) := by decide +kernel
theorem dX7_image_38 : decode cX7_image 38 = .ok (.getfield 19, 3) := by decide +kernel
theorem dX7_image_41 : decode cX7_image 41 = .ok (.getfield 230, 3) := by decide +kernel
theorem dX7_image_44 : decode cX7_image 44 = .ok (.ireturn, 1) := by decide +kernel
theorem dX7_restore_0 : decode cX7_restore 0 = .ok (.aload_n 0, 1) := by decide +kernel
theorem dX7_restore_1 : decode cX7_restore 1 = .ok (.getfield 83, 3) := by decide +kernel
theorem dX7_restore_4 : decode cX7_restore 4 = .ok (.ifCond .ne 6, 3) := by decide +kernel
theorem dX7_restore_7 : decode cX7_restore 7 = .ok (.bipush (-103), 2) := by decide +kernel
theorem dX7_restore_9 : decode cX7_restore 9 = .ok (.ireturn, 1) := by decide +kernel
theorem dX7_restore_10 : decode cX7_restore 10 = .ok (.aload_n 0, 1) := by decide +kernel
theorem dX7_restore_11 : decode cX7_restore 11 = .ok (.getfield 19, 3) := by decide +kernel
theorem dX7_restore_14 : decode cX7_restore 14 = .ok (.aload_n 0, 1) := by decide +kernel
theorem dX7_restore_15 : decode cX7_restore 15 = .ok (.getfield 30, 3) := by decide +kernel
theorem dX7_restore_18 : decode cX7_restore 18 = .ok (.invokevirtual 216, 3) := by decide +kernel
theorem dX7_restore_21 : decode cX7_restore 21 = .ok (.aload_n 0, 1) := by decide +kernel
theorem dX7_restore_22 : decode cX7_restore 22 = .ok (.getfield 26, 3) := by decide +kernel
theorem dX7_restore_25 : decode cX7_restore 25 = .ok (.aload_n 0, 1) := by decide +kernel
theorem dX7_restore_26 : decode cX7_restore 26 = .ok (.getfield 33, 3) := by decide +kernel
theorem dX7_restore_29 : decode cX7_restore 29 = .ok (.invokevirtual 227, 3) := by decide +kernel
theorem dX7_restore_32 : decode cX7_restore 32 = .ok (.aload_n 0, 1) := by decide +kernel
theorem dX7_restore_33 : decode cX7_restore 33 = .ok (.getfield 19, 3) := by decide +kernel
theorem dX7_restore_36 : decode cX7_restore 36 = .ok (.getfield 230, 3) := by decide +kernel
theorem dX7_restore_39 : decode cX7_restore 39 = .ok (.ireturn, 1) := by decide +kernel
theorem dX7_count_0 : decode cX7_count 0 = .ok (.iload_n 1, 1) := by decide +kernel
theorem dX7_count_1 : decode cX7_count 1 = .ok (.tableswitch 171 0 12 #[67, 78, 86, 94, 102, 110, 121, 129, 137, 145, 153, 161, 166], 67) := by decide +kernel
theorem dX7_count_68 : decode cX7_count 68 = .ok (.aload_n 0, 1) := by decide +kernel
theorem dX7_count_69 : decode cX7_count 69 = .ok (.getfield 19, 3) := by decide +kernel
theorem dX7_count_72 : decode cX7_count 72 = .ok (.getfield 89, 3) := by decide +kernel
theorem dX7_count_75 : decode cX7_count 75 = .ok (.invokevirtual 93, 3) := by decide +kernel
theorem dX7_count_78 : decode cX7_count 78 = .ok (.ireturn, 1) := by decide +kernel
theorem dX7_count_79 : decode cX7_count 79 = .ok (.aload_n 0, 1) := by decide +kernel
theorem dX7_count_80 : decode cX7_count 80 = .ok (.getfield 19, 3) := by decide +kernel
theorem dX7_count_83 : decode cX7_count 83 = .ok (.getfield 233, 3) := by decide +kernel
theorem dX7_count_86 : decode cX7_count 86 = .ok (.ireturn, 1) := by decide +kernel
theorem dX7_count_87 : decode cX7_count 87 = .ok (.aload_n 0, 1) := by decide +kernel
theorem dX7_count_88 : decode cX7_count 88 = .ok (.getfield 19, 3) := by decide +kernel
theorem dX7_count_91 : decode cX7_count 91 = .ok (.getfield 236, 3) := by decide +kernel
theorem dX7_count_94 : decode cX7_count 94 = .ok (.ireturn, 1) := by decide +kernel
theorem dX7_count_95 : decode cX7_count 95 = .ok (.aload_n 0, 1) := by decide +kernel
theorem dX7_count_96 : decode cX7_count 96 = .ok (.getfield 19, 3) := by decide +kernel
theorem dX7_count_99 : decode cX7_count 99 = .ok (.getfield 140, 3) := by decide +kernel
theorem dX7_count_102 : decode cX7_count 102 = .ok (.ireturn, 1) := by decide +kernel
theorem dX7_count_103 : decode cX7_count 103 = .ok (.aload_n 0, 1) := by decide +kernel
theorem dX7_count_104 : decode cX7_count 104 = .ok (.getfield 19, 3) := by decide +kernel
theorem dX7_count_107 : decode cX7_count 107 = .ok (.invokevirtual 239, 3) := by decide +kernel
theorem dX7_count_110 : decode cX7_count 110 = .ok (.ireturn, 1) := by decide +kernel
theorem dX7_count_111 : decode cX7_count 111 = .ok (.aload_n 0, 1) := by decide +kernel
theorem dX7_count_112 : decode cX7_count 112 = .ok (.getfield 19, 3) := by decide +kernel
theorem dX7_count_115 : decode cX7_count 115 = .ok (.invokevirtual 165, 3) := by decide +kernel
theorem dX7_count_118 : decode cX7_count 118 = .ok (.invokestatic 222, 3) := by decide +kernel
theorem dX7_count_121 : decode cX7_count 121 = .ok (.ireturn, 1) := by decide +kernel
theorem dX7_count_122 : decode cX7_count 122 = .ok (.aload_n 0, 1) := by decide +kernel
theorem dX7_count_123 : decode cX7_count 123 = .ok (.getfield 19, 3) := by decide +kernel
theorem dX7_count_126 : decode cX7_count 126 = .ok (.getfield 230, 3) := by decide +kernel
theorem dX7_count_129 : decode cX7_count 129 = .ok (.ireturn, 1) := by decide +kernel
theorem dX7_count_130 : decode cX7_count 130 = .ok (.aload_n 0, 1) := by decide +kernel
theorem dX7_count_131 : decode cX7_count 131 = .ok (.getfield 19, 3) := by decide +kernel
theorem dX7_count_134 : decode cX7_count 134 = .ok (.getfield 242, 3) := by decide +kernel
theorem dX7_count_137 : decode cX7_count 137 = .ok (.ireturn, 1) := by decide +kernel
theorem dX7_count_138 : decode cX7_count 138 = .ok (.aload_n 0, 1) := by decide +kernel
theorem dX7_count_139 : decode cX7_count 139 = .ok (.getfield 19, 3) := by decide +kernel
theorem dX7_count_142 : decode cX7_count 142 = .ok (.getfield 134, 3) := by decide +kernel
theorem dX7_count_145 : decode cX7_count 145 = .ok (.ireturn, 1) := by decide +kernel
theorem dX7_count_146 : decode cX7_count 146 = .ok (.aload_n 0, 1) := by decide +kernel
theorem dX7_count_147 : decode cX7_count 147 = .ok (.getfield 26, 3) := by decide +kernel
theorem dX7_count_150 : decode cX7_count 150 = .ok (.getfield 76, 3) := by decide +kernel
theorem dX7_count_153 : decode cX7_count 153 = .ok (.ireturn, 1) := by decide +kernel
theorem dX7_count_154 : decode cX7_count 154 = .ok (.aload_n 0, 1) := by decide +kernel
theorem dX7_count_155 : decode cX7_count 155 = .ok (.getfield 12, 3) := by decide +kernel
theorem dX7_count_158 : decode cX7_count 158 = .ok (.getfield 64, 3) := by decide +kernel
theorem dX7_count_161 : decode cX7_count 161 = .ok (.ireturn, 1) := by decide +kernel
theorem dX7_count_162 : decode cX7_count 162 = .ok (.aload_n 0, 1) := by decide +kernel
theorem dX7_count_163 : decode cX7_count 163 = .ok (.getfield 86, 3) := by decide +kernel
theorem dX7_count_166 : decode cX7_count 166 = .ok (.ireturn, 1) := by decide +kernel
theorem dX7_count_167 : decode cX7_count 167 = .ok (.aload_n 0, 1) := by decide +kernel
theorem dX7_count_168 : decode cX7_count 168 = .ok (.getfield 184, 3) := by decide +kernel
theorem dX7_count_171 : decode cX7_count 171 = .ok (.ireturn, 1) := by decide +kernel
theorem dX7_count_172 : decode cX7_count 172 = .ok (.bipush (-102), 2) := by decide +kernel
theorem dX7_count_174 : decode cX7_count 174 = .ok (.ireturn, 1) := by decide +kernel
theorem dX7_digest_0 : decode cX7_digest 0 = .ok (.ldc2_w 245, 3) := by decide +kernel
theorem dX7_digest_3 : decode cX7_digest 3 = .ok (.lstore_n 1, 1) := by decide +kernel
theorem dX7_digest_4 : decode cX7_digest 4 = .ok (.aload_n 0, 1) := by decide +kernel
theorem dX7_digest_5 : decode cX7_digest 5 = .ok (.getfield 79, 3) := by decide +kernel
theorem dX7_digest_8 : decode cX7_digest 8 = .ok (.ifCond .eq 9, 3) := by decide +kernel
theorem dX7_digest_11 : decode cX7_digest 11 = .ok (.aload_n 0, 1) := by decide +kernel
theorem dX7_digest_12 : decode cX7_digest 12 = .ok (.lload_n 1, 1) := by decide +kernel
theorem dX7_digest_13 : decode cX7_digest 13 = .ok (.invokevirtual 247, 3) := by decide +kernel
theorem dX7_digest_16 : decode cX7_digest 16 = .ok (.lstore_n 1, 1) := by decide +kernel
theorem dX7_digest_17 : decode cX7_digest 17 = .ok (.iconst 0, 1) := by decide +kernel
theorem dX7_digest_18 : decode cX7_digest 18 = .ok (.istore_n 3, 1) := by decide +kernel
theorem dX7_digest_19 : decode cX7_digest 19 = .ok (.iload_n 3, 1) := by decide +kernel
theorem dX7_digest_20 : decode cX7_digest 20 = .ok (.aload_n 0, 1) := by decide +kernel
theorem dX7_digest_21 : decode cX7_digest 21 = .ok (.getfield 19, 3) := by decide +kernel
theorem dX7_digest_24 : decode cX7_digest 24 = .ok (.getfield 140, 3) := by decide +kernel
theorem dX7_digest_27 : decode cX7_digest 27 = .ok (.if_icmp .ge 37, 3) := by decide +kernel
theorem dX7_digest_30 : decode cX7_digest 30 = .ok (.iconst 0, 1) := by decide +kernel
theorem dX7_digest_31 : decode cX7_digest 31 = .ok (.istore 4, 2) := by decide +kernel
theorem dX7_digest_33 : decode cX7_digest 33 = .ok (.iload 4, 2) := by decide +kernel
theorem dX7_digest_35 : decode cX7_digest 35 = .ok (.iconst 5, 1) := by decide +kernel
theorem dX7_digest_36 : decode cX7_digest 36 = .ok (.if_icmp .gt 22, 3) := by decide +kernel
theorem dX7_digest_39 : decode cX7_digest 39 = .ok (.lload_n 1, 1) := by decide +kernel
theorem dX7_digest_40 : decode cX7_digest 40 = .ok (.aload_n 0, 1) := by decide +kernel
theorem dX7_digest_41 : decode cX7_digest 41 = .ok (.iload_n 3, 1) := by decide +kernel
theorem dX7_digest_42 : decode cX7_digest 42 = .ok (.iload 4, 2) := by decide +kernel
theorem dX7_digest_44 : decode cX7_digest 44 = .ok (.invokevirtual 251, 3) := by decide +kernel
theorem dX7_digest_47 : decode cX7_digest 47 = .ok (.i2l, 1) := by decide +kernel
theorem dX7_digest_48 : decode cX7_digest 48 = .ok (.invokestatic 254, 3) := by decide +kernel
theorem dX7_digest_51 : decode cX7_digest 51 = .ok (.lstore_n 1, 1) := by decide +kernel
theorem dX7_digest_52 : decode cX7_digest 52 = .ok (.iinc 4 1, 3) := by decide +kernel
theorem dX7_digest_55 : decode cX7_digest 55 = .ok (.goto (-22), 3) := by decide +kernel
theorem dX7_digest_58 : decode cX7_digest 58 = .ok (.iinc 3 1, 3) := by decide +kernel
theorem dX7_digest_61 : decode cX7_digest 61 = .ok (.goto (-42), 3) := by decide +kernel
theorem dX7_digest_64 : decode cX7_digest 64 = .ok (.aload_n 0, 1) := by decide +kernel
theorem dX7_digest_65 : decode cX7_digest 65 = .ok (.getfield 79, 3) := by decide +kernel
theorem dX7_digest_68 : decode cX7_digest 68 = .ok (.ifCond .eq 9, 3) := by decide +kernel
theorem dX7_digest_71 : decode cX7_digest 71 = .ok (.aload_n 0, 1) := by decide +kernel
theorem dX7_digest_72 : decode cX7_digest 72 = .ok (.lload_n 1, 1) := by decide +kernel
theorem dX7_digest_73 : decode cX7_digest 73 = .ok (.invokevirtual 258, 3) := by decide +kernel
theorem dX7_digest_76 : decode cX7_digest 76 = .ok (.lstore_n 1, 1) := by decide +kernel
theorem dX7_digest_77 : decode cX7_digest 77 = .ok (.iconst 0, 1) := by decide +kernel
theorem dX7_digest_78 : decode cX7_digest 78 = .ok (.istore_n 3, 1) := by decide +kernel
theorem dX7_digest_79 : decode cX7_digest 79 = .ok (.iload_n 3, 1) := by decide +kernel
theorem dX7_digest_80 : decode cX7_digest 80 = .ok (.aload_n 0, 1) := by decide +kernel
theorem dX7_digest_81 : decode cX7_digest 81 = .ok (.getfield 12, 3) := by decide +kernel
theorem dX7_digest_84 : decode cX7_digest 84 = .ok (.getfield 64, 3) := by decide +kernel
theorem dX7_digest_87 : decode cX7_digest 87 = .ok (.if_icmp .ge 30, 3) := by decide +kernel
theorem dX7_digest_90 : decode cX7_digest 90 = .ok (.iload_n 3, 1) := by decide +kernel
theorem dX7_digest_91 : decode cX7_digest 91 = .ok (.bipush 12, 2) := by decide +kernel
theorem dX7_digest_93 : decode cX7_digest 93 = .ok (.if_icmp .ge 24, 3) := by decide +kernel
theorem dX7_digest_96 : decode cX7_digest 96 = .ok (.lload_n 1, 1) := by decide +kernel
theorem dX7_digest_97 : decode cX7_digest 97 = .ok (.aload_n 0, 1) := by decide +kernel
theorem dX7_digest_98 : decode cX7_digest 98 = .ok (.getfield 12, 3) := by decide +kernel
theorem dX7_digest_101 : decode cX7_digest 101 = .ok (.getfield 261, 3) := by decide +kernel
theorem dX7_digest_104 : decode cX7_digest 104 = .ok (.iload_n 3, 1) := by decide +kernel
theorem dX7_digest_105 : decode cX7_digest 105 = .ok (.iaload, 1) := by decide +kernel
theorem dX7_digest_106 : decode cX7_digest 106 = .ok (.i2l, 1) := by decide +kernel
theorem dX7_digest_107 : decode cX7_digest 107 = .ok (.invokestatic 254, 3) := by decide +kernel
theorem dX7_digest_110 : decode cX7_digest 110 = .ok (.lstore_n 1, 1) := by decide +kernel
theorem dX7_digest_111 : decode cX7_digest 111 = .ok (.iinc 3 1, 3) := by decide +kernel
theorem dX7_digest_114 : decode cX7_digest 114 = .ok (.goto (-35), 3) := by decide +kernel
theorem dX7_digest_117 : decode cX7_digest 117 = .ok (.iconst 0, 1) := by decide +kernel
theorem dX7_digest_118 : decode cX7_digest 118 = .ok (.istore_n 3, 1) := by decide +kernel
theorem dX7_digest_119 : decode cX7_digest 119 = .ok (.iload_n 3, 1) := by decide +kernel
theorem dX7_digest_120 : decode cX7_digest 120 = .ok (.bipush 12, 2) := by decide +kernel
theorem dX7_digest_122 : decode cX7_digest 122 = .ok (.if_icmp .gt 20, 3) := by decide +kernel
theorem dX7_digest_125 : decode cX7_digest 125 = .ok (.lload_n 1, 1) := by decide +kernel
theorem dX7_digest_126 : decode cX7_digest 126 = .ok (.aload_n 0, 1) := by decide +kernel
theorem dX7_digest_127 : decode cX7_digest 127 = .ok (.iload_n 3, 1) := by decide +kernel
theorem dX7_digest_128 : decode cX7_digest 128 = .ok (.invokevirtual 264, 3) := by decide +kernel
theorem dX7_digest_131 : decode cX7_digest 131 = .ok (.i2l, 1) := by decide +kernel
theorem dX7_digest_132 : decode cX7_digest 132 = .ok (.invokestatic 254, 3) := by decide +kernel
theorem dX7_digest_135 : decode cX7_digest 135 = .ok (.lstore_n 1, 1) := by decide +kernel
theorem dX7_digest_136 : decode cX7_digest 136 = .ok (.iinc 3 1, 3) := by decide +kernel
theorem dX7_digest_139 : decode cX7_digest 139 = .ok (.goto (-20), 3) := by decide +kernel
theorem dX7_digest_142 : decode cX7_digest 142 = .ok (.lload_n 1, 1) := by decide +kernel
theorem dX7_digest_143 : decode cX7_digest 143 = .ok (.lreturn, 1) := by decide +kernel
theorem dX7_mixPlaces_0 : decode cX7_mixPlaces 0 = .ok (.lload_n 1, 1) := by decide +kernel
theorem dX7_mixPlaces_1 : decode cX7_mixPlaces 1 = .ok (.lstore_n 3, 1) := by decide +kernel
theorem dX7_mixPlaces_2 : decode cX7_mixPlaces 2 = .ok (.iconst 0, 1) := by decide +kernel
theorem dX7_mixPlaces_3 : decode cX7_mixPlaces 3 = .ok (.istore 5, 2) := by decide +kernel
theorem dX7_mixPlaces_5 : decode cX7_mixPlaces 5 = .ok (.iload 5, 2) := by decide +kernel
theorem dX7_mixPlaces_7 : decode cX7_mixPlaces 7 = .ok (.bipush 6, 2) := by decide +kernel
theorem dX7_mixPlaces_9 : decode cX7_mixPlaces 9 = .ok (.if_icmp .ge 38, 3) := by decide +kernel
theorem dX7_mixPlaces_12 : decode cX7_mixPlaces 12 = .ok (.iconst 0, 1) := by decide +kernel
theorem dX7_mixPlaces_13 : decode cX7_mixPlaces 13 = .ok (.istore 6, 2) := by decide +kernel
theorem dX7_mixPlaces_15 : decode cX7_mixPlaces 15 = .ok (.iload 6, 2) := by decide +kernel
theorem dX7_mixPlaces_17 : decode cX7_mixPlaces 17 = .ok (.iconst 5, 1) := by decide +kernel
theorem dX7_mixPlaces_18 : decode cX7_mixPlaces 18 = .ok (.if_icmp .gt 23, 3) := by decide +kernel
theorem dX7_mixPlaces_21 : decode cX7_mixPlaces 21 = .ok (.lload_n 3, 1) := by decide +kernel
theorem dX7_mixPlaces_22 : decode cX7_mixPlaces 22 = .ok (.aload_n 0, 1) := by decide +kernel
theorem dX7_mixPlaces_23 : decode cX7_mixPlaces 23 = .ok (.iload 5, 2) := by decide +kernel
theorem dX7_mixPlaces_25 : decode cX7_mixPlaces 25 = .ok (.iload 6, 2) := by decide +kernel
theorem dX7_mixPlaces_27 : decode cX7_mixPlaces 27 = .ok (.invokevirtual 267, 3) := by decide +kernel
theorem dX7_mixPlaces_30 : decode cX7_mixPlaces 30 = .ok (.i2l, 1) := by decide +kernel
theorem dX7_mixPlaces_31 : decode cX7_mixPlaces 31 = .ok (.invokestatic 254, 3) := by decide +kernel
theorem dX7_mixPlaces_34 : decode cX7_mixPlaces 34 = .ok (.lstore_n 3, 1) := by decide +kernel
theorem dX7_mixPlaces_35 : decode cX7_mixPlaces 35 = .ok (.iinc 6 1, 3) := by decide +kernel
theorem dX7_mixPlaces_38 : decode cX7_mixPlaces 38 = .ok (.goto (-23), 3) := by decide +kernel
theorem dX7_mixPlaces_41 : decode cX7_mixPlaces 41 = .ok (.iinc 5 1, 3) := by decide +kernel
theorem dX7_mixPlaces_44 : decode cX7_mixPlaces 44 = .ok (.goto (-39), 3) := by decide +kernel
theorem dX7_mixPlaces_47 : decode cX7_mixPlaces 47 = .ok (.lload_n 3, 1) := by decide +kernel
theorem dX7_mixPlaces_48 : decode cX7_mixPlaces 48 = .ok (.lreturn, 1) := by decide +kernel
theorem dX7_mixWouldBe_0 : decode cX7_mixWouldBe 0 = .ok (.lload_n 1, 1) := by decide +kernel
theorem dX7_mixWouldBe_1 : decode cX7_mixWouldBe 1 = .ok (.aload_n 0, 1) := by decide +kernel
theorem dX7_mixWouldBe_2 : decode cX7_mixWouldBe 2 = .ok (.invokevirtual 270, 3) := by decide +kernel
theorem dX7_mixWouldBe_5 : decode cX7_mixWouldBe 5 = .ok (.i2l, 1) := by decide +kernel
theorem dX7_mixWouldBe_6 : decode cX7_mixWouldBe 6 = .ok (.invokestatic 254, 3) := by decide +kernel
theorem dX7_mixWouldBe_9 : decode cX7_mixWouldBe 9 = .ok (.aload_n 0, 1) := by decide +kernel
theorem dX7_mixWouldBe_10 : decode cX7_mixWouldBe 10 = .ok (.invokevirtual 273, 3) := by decide +kernel
theorem dX7_mixWouldBe_13 : decode cX7_mixWouldBe 13 = .ok (.i2l, 1) := by decide +kernel
theorem dX7_mixWouldBe_14 : decode cX7_mixWouldBe 14 = .ok (.invokestatic 254, 3) := by decide +kernel
theorem dX7_mixWouldBe_17 : decode cX7_mixWouldBe 17 = .ok (.lstore_n 3, 1) := by decide +kernel
theorem dX7_mixWouldBe_18 : decode cX7_mixWouldBe 18 = .ok (.lload_n 3, 1) := by decide +kernel
theorem dX7_mixWouldBe_19 : decode cX7_mixWouldBe 19 = .ok (.aload_n 0, 1) := by decide +kernel
theorem dX7_mixWouldBe_20 : decode cX7_mixWouldBe 20 = .ok (.iconst 5, 1) := by decide +kernel
theorem dX7_mixWouldBe_21 : decode cX7_mixWouldBe 21 = .ok (.iconst 0, 1) := by decide +kernel
theorem dX7_mixWouldBe_22 : decode cX7_mixWouldBe 22 = .ok (.invokevirtual 276, 3) := by decide +kernel
theorem dX7_mixWouldBe_25 : decode cX7_mixWouldBe 25 = .ok (.i2l, 1) := by decide +kernel
theorem dX7_mixWouldBe_26 : decode cX7_mixWouldBe 26 = .ok (.invokestatic 254, 3) := by decide +kernel
theorem dX7_mixWouldBe_29 : decode cX7_mixWouldBe 29 = .ok (.lstore_n 3, 1) := by decide +kernel
theorem dX7_mixWouldBe_30 : decode cX7_mixWouldBe 30 = .ok (.bipush 10, 2) := by decide +kernel
theorem dX7_mixWouldBe_32 : decode cX7_mixWouldBe 32 = .ok (.istore 5, 2) := by decide +kernel
theorem dX7_mixWouldBe_34 : decode cX7_mixWouldBe 34 = .ok (.iload 5, 2) := by decide +kernel
theorem dX7_mixWouldBe_36 : decode cX7_mixWouldBe 36 = .ok (.bipush 15, 2) := by decide +kernel
theorem dX7_mixWouldBe_38 : decode cX7_mixWouldBe 38 = .ok (.if_icmp .gt 22, 3) := by decide +kernel
theorem dX7_mixWouldBe_41 : decode cX7_mixWouldBe 41 = .ok (.lload_n 3, 1) := by decide +kernel
theorem dX7_mixWouldBe_42 : decode cX7_mixWouldBe 42 = .ok (.aload_n 0, 1) := by decide +kernel
theorem dX7_mixWouldBe_43 : decode cX7_mixWouldBe 43 = .ok (.iconst 5, 1) := by decide +kernel
theorem dX7_mixWouldBe_44 : decode cX7_mixWouldBe 44 = .ok (.iload 5, 2) := by decide +kernel
theorem dX7_mixWouldBe_46 : decode cX7_mixWouldBe 46 = .ok (.invokevirtual 276, 3) := by decide +kernel
theorem dX7_mixWouldBe_49 : decode cX7_mixWouldBe 49 = .ok (.i2l, 1) := by decide +kernel
theorem dX7_mixWouldBe_50 : decode cX7_mixWouldBe 50 = .ok (.invokestatic 254, 3) := by decide +kernel
theorem dX7_mixWouldBe_53 : decode cX7_mixWouldBe 53 = .ok (.lstore_n 3, 1) := by decide +kernel
theorem dX7_mixWouldBe_54 : decode cX7_mixWouldBe 54 = .ok (.iinc 5 1, 3) := by decide +kernel
theorem dX7_mixWouldBe_57 : decode cX7_mixWouldBe 57 = .ok (.goto (-23), 3) := by decide +kernel
theorem dX7_mixWouldBe_60 : decode cX7_mixWouldBe 60 = .ok (.lload_n 3, 1) := by decide +kernel
theorem dX7_mixWouldBe_61 : decode cX7_mixWouldBe 61 = .ok (.lreturn, 1) := by decide +kernel
theorem dX7_mix_0 : decode cX7_mix 0 = .ok (.ldc2_w 278, 3) := by decide +kernel
theorem dX7_mix_3 : decode cX7_mix 3 = .ok (.lload_n 0, 1) := by decide +kernel
theorem dX7_mix_4 : decode cX7_mix 4 = .ok (.lmul, 1) := by decide +kernel
theorem dX7_mix_5 : decode cX7_mix 5 = .ok (.lload_n 2, 1) := by decide +kernel
theorem dX7_mix_6 : decode cX7_mix 6 = .ok (.ladd, 1) := by decide +kernel
theorem dX7_mix_7 : decode cX7_mix 7 = .ok (.lreturn, 1) := by decide +kernel
theorem dX7_isPlace_0 : decode cX7_isPlace 0 = .ok (.aload_n 0, 1) := by decide +kernel
theorem dX7_isPlace_1 : decode cX7_isPlace 1 = .ok (.getfield 79, 3) := by decide +kernel
theorem dX7_isPlace_4 : decode cX7_isPlace 4 = .ok (.ifCond .eq 17, 3) := by decide +kernel
theorem dX7_isPlace_7 : decode cX7_isPlace 7 = .ok (.iload_n 1, 1) := by decide +kernel
theorem dX7_isPlace_8 : decode cX7_isPlace 8 = .ok (.ifCond .lt 13, 3) := by decide +kernel
theorem dX7_isPlace_11 : decode cX7_isPlace 11 = .ok (.iload_n 1, 1) := by decide +kernel
theorem dX7_isPlace_12 : decode cX7_isPlace 12 = .ok (.bipush 6, 2) := by decide +kernel
theorem dX7_isPlace_14 : decode cX7_isPlace 14 = .ok (.if_icmp .ge 7, 3) := by decide +kernel
theorem dX7_isPlace_17 : decode cX7_isPlace 17 = .ok (.iconst 1, 1) := by decide +kernel
theorem dX7_isPlace_18 : decode cX7_isPlace 18 = .ok (.goto 4, 3) := by decide +kernel
theorem dX7_isPlace_21 : decode cX7_isPlace 21 = .ok (.iconst 0, 1) := by decide +kernel
theorem dX7_isPlace_22 : decode cX7_isPlace 22 = .ok (.ireturn, 1) := by decide +kernel
theorem dX7_isTenant_0 : decode cX7_isTenant 0 = .ok (.iload_n 1, 1) := by decide +kernel
theorem dX7_isTenant_1 : decode cX7_isTenant 1 = .ok (.ifCond .lt 23, 3) := by decide +kernel
theorem dX7_isTenant_4 : decode cX7_isTenant 4 = .ok (.iload_n 1, 1) := by decide +kernel
theorem dX7_isTenant_5 : decode cX7_isTenant 5 = .ok (.aload_n 0, 1) := by decide +kernel
theorem dX7_isTenant_6 : decode cX7_isTenant 6 = .ok (.getfield 19, 3) := by decide +kernel
theorem dX7_isTenant_9 : decode cX7_isTenant 9 = .ok (.getfield 140, 3) := by decide +kernel
theorem dX7_isTenant_12 : decode cX7_isTenant 12 = .ok (.if_icmp .ge 12, 3) := by decide +kernel
theorem dX7_isTenant_15 : decode cX7_isTenant 15 = .ok (.iload_n 1, 1) := by decide +kernel
theorem dX7_isTenant_16 : decode cX7_isTenant 16 = .ok (.iconst 5, 1) := by decide +kernel
theorem dX7_isTenant_17 : decode cX7_isTenant 17 = .ok (.if_icmp .ge 7, 3) := by decide +kernel
theorem dX7_isTenant_20 : decode cX7_isTenant 20 = .ok (.iconst 1, 1) := by decide +kernel
theorem dX7_isTenant_21 : decode cX7_isTenant 21 = .ok (.goto 4, 3) := by decide +kernel
theorem dX7_isTenant_24 : decode cX7_isTenant 24 = .ok (.iconst 0, 1) := by decide +kernel
theorem dX7_isTenant_25 : decode cX7_isTenant 25 = .ok (.ireturn, 1) := by decide +kernel
theorem dX7_isKind_0 : decode cX7_isKind 0 = .ok (.iload_n 0, 1) := by decide +kernel
theorem dX7_isKind_1 : decode cX7_isKind 1 = .ok (.ifCond .lt 15, 3) := by decide +kernel
theorem dX7_isKind_4 : decode cX7_isKind 4 = .ok (.iload_n 0, 1) := by decide +kernel
theorem dX7_isKind_5 : decode cX7_isKind 5 = .ok (.getstatic 280, 3) := by decide +kernel
theorem dX7_isKind_8 : decode cX7_isKind 8 = .ok (.arraylength, 1) := by decide +kernel
theorem dX7_isKind_9 : decode cX7_isKind 9 = .ok (.if_icmp .ge 7, 3) := by decide +kernel
theorem dX7_isKind_12 : decode cX7_isKind 12 = .ok (.iconst 1, 1) := by decide +kernel
theorem dX7_isKind_13 : decode cX7_isKind 13 = .ok (.goto 4, 3) := by decide +kernel
theorem dX7_isKind_16 : decode cX7_isKind 16 = .ok (.iconst 0, 1) := by decide +kernel
theorem dX7_isKind_17 : decode cX7_isKind 17 = .ok (.ireturn, 1) := by decide +kernel
theorem dX7_isSuch_0 : decode cX7_isSuch 0 = .ok (.iload_n 1, 1) := by decide +kernel
theorem dX7_isSuch_1 : decode cX7_isSuch 1 = .ok (.ifCond .eq 18, 3) := by decide +kernel
theorem dX7_isSuch_4 : decode cX7_isSuch 4 = .ok (.iload_n 0, 1) := by decide +kernel
theorem dX7_isSuch_5 : decode cX7_isSuch 5 = .ok (.iload_n 1, 1) := by decide +kernel
theorem dX7_isSuch_6 : decode cX7_isSuch 6 = .ok (.if_icmp .eq 13, 3) := by decide +kernel
theorem dX7_isSuch_9 : decode cX7_isSuch 9 = .ok (.iload_n 0, 1) := by decide +kernel
theorem dX7_isSuch_10 : decode cX7_isSuch 10 = .ok (.iconst 4, 1) := by decide +kernel
theorem dX7_isSuch_11 : decode cX7_isSuch 11 = .ok (.if_icmp .ne 12, 3) := by decide +kernel
theorem dX7_isSuch_14 : decode cX7_isSuch 14 = .ok (.iload_n 1, 1) := by decide +kernel
theorem dX7_isSuch_15 : decode cX7_isSuch 15 = .ok (.iconst 1, 1) := by decide +kernel
theorem dX7_isSuch_16 : decode cX7_isSuch 16 = .ok (.if_icmp .ne 7, 3) := by decide +kernel
theorem dX7_isSuch_19 : decode cX7_isSuch 19 = .ok (.iconst 1, 1) := by decide +kernel
theorem dX7_isSuch_20 : decode cX7_isSuch 20 = .ok (.goto 4, 3) := by decide +kernel
theorem dX7_isSuch_23 : decode cX7_isSuch 23 = .ok (.iconst 0, 1) := by decide +kernel
theorem dX7_isSuch_24 : decode cX7_isSuch 24 = .ok (.ireturn, 1) := by decide +kernel
theorem dX7_orNone_0 : decode cX7_orNone 0 = .ok (.iload_n 0, 1) := by decide +kernel
theorem dX7_orNone_1 : decode cX7_orNone 1 = .ok (.bipush 41, 2) := by decide +kernel
theorem dX7_orNone_3 : decode cX7_orNone 3 = .ok (.if_icmp .ne 7, 3) := by decide +kernel
theorem dX7_orNone_6 : decode cX7_orNone 6 = .ok (.iconst (-1), 1) := by decide +kernel
theorem dX7_orNone_7 : decode cX7_orNone 7 = .ok (.goto 4, 3) := by decide +kernel
theorem dX7_orNone_10 : decode cX7_orNone 10 = .ok (.iload_n 0, 1) := by decide +kernel
theorem dX7_orNone_11 : decode cX7_orNone 11 = .ok (.ireturn, 1) := by decide +kernel
theorem dX8_init_0 : decode cX8_init 0 = .ok (.aload_n 0, 1) := by decide +kernel
theorem dX8_init_1 : decode cX8_init 1 = .ok (.invokespecial 1, 3) := by decide +kernel
theorem dX8_init_4 : decode cX8_init 4 = .ok (.aload_n 0, 1) := by decide +kernel
theorem dX8_init_5 : decode cX8_init 5 = .ok (.bipush 12, 2) := by decide +kernel
theorem dX8_init_7 : decode cX8_init 7 = .ok (.newarray .int, 2) := by decide +kernel
theorem dX8_init_9 : decode cX8_init 9 = .ok (.putfield 7, 3) := by decide +kernel
theorem dX8_init_12 : decode cX8_init 12 = .ok (.aload_n 0, 1) := by decide +kernel
theorem dX8_init_13 : decode cX8_init 13 = .ok (.bipush 6, 2) := by decide +kernel
theorem dX8_init_15 : decode cX8_init 15 = .ok (.newarray .int, 2) := by decide +kernel
theorem dX8_init_17 : decode cX8_init 17 = .ok (.putfield 13, 3) := by decide +kernel
theorem dX8_init_20 : decode cX8_init 20 = .ok (.aload_n 0, 1) := by decide +kernel
theorem dX8_init_21 : decode cX8_init 21 = .ok (.bipush 10, 2) := by decide +kernel
theorem dX8_init_23 : decode cX8_init 23 = .ok (.newarray .int, 2) := by decide +kernel
theorem dX8_init_25 : decode cX8_init 25 = .ok (.putfield 16, 3) := by decide +kernel
theorem dX8_init_28 : decode cX8_init 28 = .ok (.aload_n 0, 1) := by decide +kernel
theorem dX8_init_29 : decode cX8_init 29 = .ok (.iconst 5, 1) := by decide +kernel
theorem dX8_init_30 : decode cX8_init 30 = .ok (.newarray .int, 2) := by decide +kernel
theorem dX8_init_32 : decode cX8_init 32 = .ok (.putfield 19, 3) := by decide +kernel
theorem dX8_init_35 : decode cX8_init 35 = .ok (.aload_n 0, 1) := by decide +kernel
theorem dX8_init_36 : decode cX8_init 36 = .ok (.bipush 6, 2) := by decide +kernel
theorem dX8_init_38 : decode cX8_init 38 = .ok (.newarray .int, 2) := by decide +kernel
theorem dX8_init_40 : decode cX8_init 40 = .ok (.putfield 22, 3) := by decide +kernel
theorem dX8_init_43 : decode cX8_init 43 = .ok (.aload_n 0, 1) := by decide +kernel
theorem dX8_init_44 : decode cX8_init 44 = .ok (.bipush 6, 2) := by decide +kernel
theorem dX8_init_46 : decode cX8_init 46 = .ok (.newarray .int, 2) := by decide +kernel
theorem dX8_init_48 : decode cX8_init 48 = .ok (.putfield 25, 3) := by decide +kernel
theorem dX8_init_51 : decode cX8_init 51 = .ok (.aload_n 0, 1) := by decide +kernel
theorem dX8_init_52 : decode cX8_init 52 = .ok (.iconst 5, 1) := by decide +kernel
theorem dX8_init_53 : decode cX8_init 53 = .ok (.newarray .int, 2) := by decide +kernel
theorem dX8_init_55 : decode cX8_init 55 = .ok (.putfield 28, 3) := by decide +kernel
theorem dX8_init_58 : decode cX8_init 58 = .ok (.aload_n 0, 1) := by decide +kernel
theorem dX8_init_59 : decode cX8_init 59 = .ok (.bipush 24, 2) := by decide +kernel
theorem dX8_init_61 : decode cX8_init 61 = .ok (.newarray .int, 2) := by decide +kernel
theorem dX8_init_63 : decode cX8_init 63 = .ok (.putfield 31, 3) := by decide +kernel
theorem dX8_init_66 : decode cX8_init 66 = .ok (.aload_n 0, 1) := by decide +kernel
theorem dX8_init_67 : decode cX8_init 67 = .ok (.bipush 11, 2) := by decide +kernel
theorem dX8_init_69 : decode cX8_init 69 = .ok (.newarray .int, 2) := by decide +kernel
theorem dX8_init_71 : decode cX8_init 71 = .ok (.putfield 34, 3) := by decide +kernel
theorem dX8_init_74 : decode cX8_init 74 = .ok (.aload_n 0, 1) := by decide +kernel
theorem dX8_init_75 : decode cX8_init 75 = .ok (.bipush 6, 2) := by decide +kernel
theorem dX8_init_77 : decode cX8_init 77 = .ok (.newarray .int, 2) := by decide +kernel
theorem dX8_init_79 : decode cX8_init 79 = .ok (.putfield 37, 3) := by decide +kernel
theorem dX8_init_82 : decode cX8_init 82 = .ok (.aload_n 0, 1) := by decide +kernel
theorem dX8_init_83 : decode cX8_init 83 = .ok (.bipush 10, 2) := by decide +kernel
theorem dX8_init_85 : decode cX8_init 85 = .ok (.newarray .int, 2) := by decide +kernel
theorem dX8_init_87 : decode cX8_init 87 = .ok (.putfield 40, 3) := by decide +kernel
theorem dX8_init_90 : decode cX8_init 90 = .ok (.aload_n 0, 1) := by decide +kernel
theorem dX8_init_91 : decode cX8_init 91 = .ok (.bipush 24, 2) := by decide +kernel
theorem dX8_init_93 : decode cX8_init 93 = .ok (.newarray .int, 2) := by decide +kernel
theorem dX8_init_95 : decode cX8_init 95 = .ok (.putfield 43, 3) := by decide +kernel
theorem dX8_init_98 : decode cX8_init 98 = .ok (.aload_n 0, 1) := by decide +kernel
theorem dX8_init_99 : decode cX8_init 99 = .ok (.iconst (-1), 1) := by decide +kernel
theorem dX8_init_100 : decode cX8_init 100 = .ok (.putfield 46, 3) := by decide +kernel
theorem dX8_init_103 : decode cX8_init 103 = .ok (.return_, 1) := by decide +kernel
theorem dX8_in_0 : decode cX8_in 0 = .ok (.lload_n 0, 1) := by decide +kernel
theorem dX8_in_1 : decode cX8_in 1 = .ok (.lload_n 2, 1) := by decide +kernel
theorem dX8_in_2 : decode cX8_in 2 = .ok (.lcmp, 1) := by decide +kernel
theorem dX8_in_3 : decode cX8_in 3 = .ok (.ifCond .lt 14, 3) := by decide +kernel
theorem dX8_in_6 : decode cX8_in 6 = .ok (.lload_n 0, 1) := by decide +kernel
theorem dX8_in_7 : decode cX8_in 7 = .ok (.lload 4, 2) := by decide +kernel
theorem dX8_in_9 : decode cX8_in 9 = .ok (.lcmp, 1) := by decide +kernel
theorem dX8_in_10 : decode cX8_in 10 = .ok (.ifCond .gt 7, 3) := by decide +kernel
theorem dX8_in_13 : decode cX8_in 13 = .ok (.iconst 1, 1) := by decide +kernel
theorem dX8_in_14 : decode cX8_in 14 = .ok (.goto 4, 3) := by decide +kernel
theorem dX8_in_17 : decode cX8_in 17 = .ok (.iconst 0, 1) := by decide +kernel
theorem dX8_in_18 : decode cX8_in 18 = .ok (.ireturn, 1) := by decide +kernel
theorem dX8_copy_0 : decode cX8_copy 0 = .ok (.iconst 0, 1) := by decide +kernel
theorem dX8_copy_1 : decode cX8_copy 1 = .ok (.istore_n 2, 1) := by decide +kernel
theorem dX8_copy_2 : decode cX8_copy 2 = .ok (.iload_n 2, 1) := by decide +kernel
theorem dX8_copy_3 : decode cX8_copy 3 = .ok (.aload_n 0, 1) := by decide +kernel
theorem dX8_copy_4 : decode cX8_copy 4 = .ok (.arraylength, 1) := by decide +kernel
theorem dX8_copy_5 : decode cX8_copy 5 = .ok (.if_icmp .ge 15, 3) := by decide +kernel
theorem dX8_copy_8 : decode cX8_copy 8 = .ok (.aload_n 1, 1) := by decide +kernel
theorem dX8_copy_9 : decode cX8_copy 9 = .ok (.iload_n 2, 1) := by decide +kernel
theorem dX8_copy_10 : decode cX8_copy 10 = .ok (.aload_n 0, 1) := by decide +kernel
theorem dX8_copy_11 : decode cX8_copy 11 = .ok (.iload_n 2, 1) := by decide +kernel
theorem dX8_copy_12 : decode cX8_copy 12 = .ok (.iaload, 1) := by decide +kernel
theorem dX8_copy_13 : decode cX8_copy 13 = .ok (.iastore, 1) := by decide +kernel
theorem dX8_copy_14 : decode cX8_copy 14 = .ok (.iinc 2 1, 3) := by decide +kernel
theorem dX8_copy_17 : decode cX8_copy 17 = .ok (.goto (-15), 3) := by decide +kernel
theorem dX8_copy_20 : decode cX8_copy 20 = .ok (.return_, 1) := by decide +kernel
theorem dX8_letter_0 : decode cX8_letter 0 = .ok (.iload_n 1, 1) := by decide +kernel
theorem dX8_letter_1 : decode cX8_letter 1 = .ok (.i2l, 1) := by decide +kernel
theorem dX8_letter_2 : decode cX8_letter 2 = .ok (.lconst 1, 1) := by decide +kernel
theorem dX8_letter_3 : decode cX8_letter 3 = .ok (.ldc2_w 50, 3) := by decide +kernel
theorem dX8_letter_6 : decode cX8_letter 6 = .ok (.invokestatic 52, 3) := by decide +kernel
theorem dX8_letter_9 : decode cX8_letter 9 = .ok (.ifCond .ne 6, 3) := by decide +kernel
theorem dX8_letter_12 : decode cX8_letter 12 = .ok (.bipush (-102), 2) := by decide +kernel
theorem dX8_letter_14 : decode cX8_letter 14 = .ok (.ireturn, 1) := by decide +kernel
theorem dX8_letter_15 : decode cX8_letter 15 = .ok (.aload_n 0, 1) := by decide +kernel
theorem dX8_letter_16 : decode cX8_letter 16 = .ok (.getfield 56, 3) := by decide +kernel
theorem dX8_letter_19 : decode cX8_letter 19 = .ok (.bipush 12, 2) := by decide +kernel
theorem dX8_letter_21 : decode cX8_letter 21 = .ok (.if_icmp .ne 6, 3) := by decide +kernel
theorem dX8_letter_24 : decode cX8_letter 24 = .ok (.bipush (-104), 2) := by decide +kernel
theorem dX8_letter_26 : decode cX8_letter 26 = .ok (.ireturn, 1) := by decide +kernel
theorem dX8_letter_27 : decode cX8_letter 27 = .ok (.aload_n 0, 1) := by decide +kernel
theorem dX8_letter_28 : decode cX8_letter 28 = .ok (.getfield 7, 3) := by decide +kernel
theorem dX8_letter_31 : decode cX8_letter 31 = .ok (.aload_n 0, 1) := by decide +kernel
theorem dX8_letter_32 : decode cX8_letter 32 = .ok (.getfield 56, 3) := by decide +kernel
theorem dX8_letter_35 : decode cX8_letter 35 = .ok (.iload_n 1, 1) := by decide +kernel
theorem dX8_letter_36 : decode cX8_letter 36 = .ok (.iastore, 1) := by decide +kernel
theorem dX8_letter_37 : decode cX8_letter 37 = .ok (.aload_n 0, 1) := by decide +kernel
theorem dX8_letter_38 : decode cX8_letter 38 = .ok (.dup, 1) := by decide +kernel
theorem dX8_letter_39 : decode cX8_letter 39 = .ok (.getfield 56, 3) := by decide +kernel
theorem dX8_letter_42 : decode cX8_letter 42 = .ok (.iconst 1, 1) := by decide +kernel
theorem dX8_letter_43 : decode cX8_letter 43 = .ok (.iadd, 1) := by decide +kernel
theorem dX8_letter_44 : decode cX8_letter 44 = .ok (.putfield 56, 3) := by decide +kernel
theorem dX8_letter_47 : decode cX8_letter 47 = .ok (.aload_n 0, 1) := by decide +kernel
theorem dX8_letter_48 : decode cX8_letter 48 = .ok (.getfield 56, 3) := by decide +kernel
theorem dX8_letter_51 : decode cX8_letter 51 = .ok (.ireturn, 1) := by decide +kernel
theorem dX8_blank_0 : decode cX8_blank 0 = .ok (.aload_n 0, 1) := by decide +kernel
theorem dX8_blank_1 : decode cX8_blank 1 = .ok (.getfield 56, 3) := by decide +kernel
theorem dX8_blank_4 : decode cX8_blank 4 = .ok (.istore_n 1, 1) := by decide +kernel
theorem dX8_blank_5 : decode cX8_blank 5 = .ok (.aload_n 0, 1) := by decide +kernel
theorem dX8_blank_6 : decode cX8_blank 6 = .ok (.iconst 0, 1) := by decide +kernel
theorem dX8_blank_7 : decode cX8_blank 7 = .ok (.putfield 56, 3) := by decide +kernel
theorem dX8_blank_10 : decode cX8_blank 10 = .ok (.iload_n 1, 1) := by decide +kernel
theorem dX8_blank_11 : decode cX8_blank 11 = .ok (.ireturn, 1) := by decide +kernel
theorem dX8_isGood_0 : decode cX8_isGood 0 = .ok (.iload_n 1, 1) := by decide +kernel
theorem dX8_isGood_1 : decode cX8_isGood 1 = .ok (.bipush 48, 2) := by decide +kernel
theorem dX8_isGood_3 : decode cX8_isGood 3 = .ok (.isub, 1) := by decide +kernel
theorem dX8_isGood_4 : decode cX8_isGood 4 = .ok (.istore_n 2, 1) := by decide +kernel
theorem dX8_isGood_5 : decode cX8_isGood 5 = .ok (.iload_n 0, 1) := by decide +kernel
theorem dX8_isGood_6 : decode cX8_isGood 6 = .ok (.bipush 6, 2) := by decide +kernel
theorem dX8_isGood_8 : decode cX8_isGood 8 = .ok (.if_icmp .ne 17, 3) := by decide +kernel
theorem dX8_isGood_11 : decode cX8_isGood 11 = .ok (.iload_n 1, 1) := by decide +kernel
theorem dX8_isGood_12 : decode cX8_isGood 12 = .ok (.bipush 59, 2) := by decide +kernel
theorem dX8_isGood_14 : decode cX8_isGood 14 = .ok (.if_icmp .ne 7, 3) := by decide +kernel
theorem dX8_isGood_17 : decode cX8_isGood 17 = .ok (.iconst 1, 1) := by decide +kernel
theorem dX8_isGood_18 : decode cX8_isGood 18 = .ok (.goto 48, 3) := by decide +kernel
theorem dX8_isGood_21 : decode cX8_isGood 21 = .ok (.iconst 0, 1) := by decide +kernel
theorem dX8_isGood_22 : decode cX8_isGood 22 = .ok (.goto 44, 3) := by decide +kernel
theorem dX8_isGood_25 : decode cX8_isGood 25 = .ok (.iload_n 0, 1) := by decide +kernel
theorem dX8_isGood_26 : decode cX8_isGood 26 = .ok (.bipush 8, 2) := by decide +kernel
theorem dX8_isGood_28 : decode cX8_isGood 28 = .ok (.if_icmp .ne 15, 3) := by decide +kernel
theorem dX8_isGood_31 : decode cX8_isGood 31 = .ok (.iload_n 2, 1) := by decide +kernel
theorem dX8_isGood_32 : decode cX8_isGood 32 = .ok (.i2l, 1) := by decide +kernel
theorem dX8_isGood_33 : decode cX8_isGood 33 = .ok (.lconst 1, 1) := by decide +kernel
theorem dX8_isGood_34 : decode cX8_isGood 34 = .ok (.ldc2_w 59, 3) := by decide +kernel
theorem dX8_isGood_37 : decode cX8_isGood 37 = .ok (.invokestatic 52, 3) := by decide +kernel
theorem dX8_isGood_40 : decode cX8_isGood 40 = .ok (.goto 26, 3) := by decide +kernel
theorem dX8_isGood_43 : decode cX8_isGood 43 = .ok (.iload_n 0, 1) := by decide +kernel
theorem dX8_isGood_44 : decode cX8_isGood 44 = .ok (.bipush 8, 2) := by decide +kernel
theorem dX8_isGood_46 : decode cX8_isGood 46 = .ok (.if_icmp .ge 19, 3) := by decide +kernel
theorem dX8_isGood_49 : decode cX8_isGood 49 = .ok (.iload_n 2, 1) := by decide +kernel
theorem dX8_isGood_50 : decode cX8_isGood 50 = .ok (.i2l, 1) := by decide +kernel
theorem dX8_isGood_51 : decode cX8_isGood 51 = .ok (.lconst 0, 1) := by decide +kernel
theorem dX8_isGood_52 : decode cX8_isGood 52 = .ok (.ldc2_w 59, 3) := by decide +kernel
theorem dX8_isGood_55 : decode cX8_isGood 55 = .ok (.invokestatic 52, 3) := by decide +kernel
theorem dX8_isGood_58 : decode cX8_isGood 58 = .ok (.ifCond .eq 7, 3) := by decide +kernel
theorem dX8_isGood_61 : decode cX8_isGood 61 = .ok (.iconst 1, 1) := by decide +kernel
theorem dX8_isGood_62 : decode cX8_isGood 62 = .ok (.goto 4, 3) := by decide +kernel
theorem dX8_isGood_65 : decode cX8_isGood 65 = .ok (.iconst 0, 1) := by decide +kernel
theorem dX8_isGood_66 : decode cX8_isGood 66 = .ok (.ireturn, 1) := by decide +kernel
theorem dX8_faultOf_0 : decode cX8_faultOf 0 = .ok (.iconst 0, 1) := by decide +kernel
theorem dX8_faultOf_1 : decode cX8_faultOf 1 = .ok (.istore_n 1, 1) := by decide +kernel
theorem dX8_faultOf_2 : decode cX8_faultOf 2 = .ok (.iload_n 1, 1) := by decide +kernel
theorem dX8_faultOf_3 : decode cX8_faultOf 3 = .ok (.aload_n 0, 1) := by decide +kernel
theorem dX8_faultOf_4 : decode cX8_faultOf 4 = .ok (.getfield 56, 3) := by decide +kernel
theorem dX8_faultOf_7 : decode cX8_faultOf 7 = .ok (.if_icmp .ge 22, 3) := by decide +kernel
theorem dX8_faultOf_10 : decode cX8_faultOf 10 = .ok (.iload_n 1, 1) := by decide +kernel
theorem dX8_faultOf_11 : decode cX8_faultOf 11 = .ok (.aload_n 0, 1) := by decide +kernel
theorem dX8_faultOf_12 : decode cX8_faultOf 12 = .ok (.getfield 7, 3) := by decide +kernel
theorem dX8_faultOf_15 : decode cX8_faultOf 15 = .ok (.iload_n 1, 1) := by decide +kernel
theorem dX8_faultOf_16 : decode cX8_faultOf 16 = .ok (.iaload, 1) := by decide +kernel
theorem dX8_faultOf_17 : decode cX8_faultOf 17 = .ok (.invokestatic 61, 3) := by decide +kernel
theorem dX8_faultOf_20 : decode cX8_faultOf 20 = .ok (.ifCond .eq 9, 3) := by decide +kernel
theorem dX8_faultOf_23 : decode cX8_faultOf 23 = .ok (.iinc 1 1, 3) := by decide +kernel
theorem dX8_faultOf_26 : decode cX8_faultOf 26 = .ok (.goto (-24), 3) := by decide +kernel
theorem dX8_faultOf_29 : decode cX8_faultOf 29 = .ok (.iload_n 1, 1) := by decide +kernel
theorem dX8_faultOf_30 : decode cX8_faultOf 30 = .ok (.ireturn, 1) := by decide +kernel
theorem dX8_fault_0 : decode cX8_fault 0 = .ok (.aload_n 0, 1) := by decide +kernel
theorem dX8_fault_1 : decode cX8_fault 1 = .ok (.invokevirtual 65, 3) := by decide +kernel
theorem dX8_fault_4 : decode cX8_fault 4 = .ok (.ireturn, 1) := by decide +kernel
theorem dX8_standing_0 : decode cX8_standing 0 = .ok (.iconst 0, 1) := by decide +kernel
theorem dX8_standing_1 : decode cX8_standing 1 = .ok (.istore_n 1, 1) := by decide +kernel
theorem dX8_standing_2 : decode cX8_standing 2 = .ok (.iconst 0, 1) := by decide +kernel
theorem dX8_standing_3 : decode cX8_standing 3 = .ok (.istore_n 2, 1) := by decide +kernel
theorem dX8_standing_4 : decode cX8_standing 4 = .ok (.iload_n 2, 1) := by decide +kernel
theorem dX8_standing_5 : decode cX8_standing 5 = .ok (.bipush 6, 2) := by decide +kernel
theorem dX8_standing_7 : decode cX8_standing 7 = .ok (.if_icmp .ge 26, 3) := by decide +kernel
theorem dX8_standing_10 : decode cX8_standing 10 = .ok (.iload_n 1, 1) := by decide +kernel
theorem dX8_standing_11 : decode cX8_standing 11 = .ok (.aload_n 0, 1) := by decide +kernel
theorem dX8_standing_12 : decode cX8_standing 12 = .ok (.getfield 13, 3) := by decide +kernel
theorem dX8_standing_15 : decode cX8_standing 15 = .ok (.iload_n 2, 1) := by decide +kernel
theorem dX8_standing_16 : decode cX8_standing 16 = .ok (.iaload, 1) := by decide +kernel
theorem dX8_standing_17 : decode cX8_standing 17 = .ok (.ifCond .le 7, 3) := by decide +kernel
theorem dX8_standing_20 : decode cX8_standing 20 = .ok (.iconst 1, 1) := by decide +kernel
theorem dX8_standing_21 : decode cX8_standing 21 = .ok (.goto 4, 3) := by decide +kernel
theorem dX8_standing_24 : decode cX8_standing 24 = .ok (.iconst 0, 1) := by decide +kernel
theorem dX8_standing_25 : decode cX8_standing 25 = .ok (.iadd, 1) := by decide +kernel
theorem dX8_standing_26 : decode cX8_standing 26 = .ok (.istore_n 1, 1) := by decide +kernel
theorem dX8_standing_27 : decode cX8_standing 27 = .ok (.iinc 2 1, 3) := by decide +kernel
theorem dX8_standing_30 : decode cX8_standing 30 = .ok (.goto (-26), 3) := by decide +kernel
theorem dX8_standing_33 : decode cX8_standing 33 = .ok (.iload_n 1, 1) := by decide +kernel
theorem dX8_standing_34 : decode cX8_standing 34 = .ok (.ireturn, 1) := by decide +kernel
theorem dX8_gallery_0 : decode cX8_gallery 0 = .ok (.aload_n 0, 1) := by decide +kernel
theorem dX8_gallery_1 : decode cX8_gallery 1 = .ok (.getfield 56, 3) := by decide +kernel
theorem dX8_gallery_4 : decode cX8_gallery 4 = .ok (.bipush 9, 2) := by decide +kernel
theorem dX8_gallery_6 : decode cX8_gallery 6 = .ok (.if_icmp .ne 12, 3) := by decide +kernel
theorem dX8_gallery_9 : decode cX8_gallery 9 = .ok (.aload_n 0, 1) := by decide +kernel
theorem dX8_gallery_10 : decode cX8_gallery 10 = .ok (.invokevirtual 65, 3) := by decide +kernel
theorem dX8_gallery_13 : decode cX8_gallery 13 = .ok (.bipush 9, 2) := by decide +kernel
theorem dX8_gallery_15 : decode cX8_gallery 15 = .ok (.if_icmp .ge 6, 3) := by decide +kernel
theorem dX8_gallery_18 : decode cX8_gallery 18 = .ok (.bipush (-103), 2) := by decide +kernel
theorem dX8_gallery_20 : decode cX8_gallery 20 = .ok (.ireturn, 1) := by decide +kernel
theorem dX8_gallery_21 : decode cX8_gallery 21 = .ok (.iconst 0, 1) := by decide +kernel
theorem dX8_gallery_22 : decode cX8_gallery 22 = .ok (.istore_n 1, 1) := by decide +kernel
theorem dX8_gallery_23 : decode cX8_gallery 23 = .ok (.iload_n 1, 1) := by decide +kernel
theorem dX8_gallery_24 : decode cX8_gallery 24 = .ok (.bipush 6, 2) := by decide +kernel
theorem dX8_gallery_26 : decode cX8_gallery 26 = .ok (.if_icmp .ge 24, 3) := by decide +kernel
theorem dX8_gallery_29 : decode cX8_gallery 29 = .ok (.aload_n 0, 1) := by decide +kernel
theorem dX8_gallery_30 : decode cX8_gallery 30 = .ok (.getfield 13, 3) := by decide +kernel
theorem dX8_gallery_33 : decode cX8_gallery 33 = .ok (.iload_n 1, 1) := by decide +kernel
theorem dX8_gallery_34 : decode cX8_gallery 34 = .ok (.aload_n 0, 1) := by decide +kernel
theorem dX8_gallery_35 : decode cX8_gallery 35 = .ok (.getfield 7, 3) := by decide +kernel
theorem dX8_gallery_38 : decode cX8_gallery 38 = .ok (.iload_n 1, 1) := by decide +kernel
theorem dX8_gallery_39 : decode cX8_gallery 39 = .ok (.iaload, 1) := by decide +kernel
theorem dX8_gallery_40 : decode cX8_gallery 40 = .ok (.bipush 48, 2) := by decide +kernel
theorem dX8_gallery_42 : decode cX8_gallery 42 = .ok (.isub, 1) := by decide +kernel
theorem dX8_gallery_43 : decode cX8_gallery 43 = .ok (.iastore, 1) := by decide +kernel
theorem dX8_gallery_44 : decode cX8_gallery 44 = .ok (.iinc 1 1, 3) := by decide +kernel
theorem dX8_gallery_47 : decode cX8_gallery 47 = .ok (.goto (-24), 3) := by decide +kernel
theorem dX8_gallery_50 : decode cX8_gallery 50 = .ok (.aload_n 0, 1) := by decide +kernel
theorem dX8_gallery_51 : decode cX8_gallery 51 = .ok (.aload_n 0, 1) := by decide +kernel
theorem dX8_gallery_52 : decode cX8_gallery 52 = .ok (.getfield 7, 3) := by decide +kernel
theorem dX8_gallery_55 : decode cX8_gallery 55 = .ok (.bipush 7, 2) := by decide +kernel
theorem dX8_gallery_57 : decode cX8_gallery 57 = .ok (.iaload, 1) := by decide +kernel
theorem dX8_gallery_58 : decode cX8_gallery 58 = .ok (.bipush 48, 2) := by decide +kernel
theorem dX8_gallery_60 : decode cX8_gallery 60 = .ok (.isub, 1) := by decide +kernel
theorem dX8_gallery_61 : decode cX8_gallery 61 = .ok (.putfield 69, 3) := by decide +kernel
theorem dX8_gallery_64 : decode cX8_gallery 64 = .ok (.aload_n 0, 1) := by decide +kernel
theorem dX8_gallery_65 : decode cX8_gallery 65 = .ok (.aload_n 0, 1) := by decide +kernel
theorem dX8_gallery_66 : decode cX8_gallery 66 = .ok (.getfield 7, 3) := by decide +kernel
theorem dX8_gallery_69 : decode cX8_gallery 69 = .ok (.bipush 8, 2) := by decide +kernel
theorem dX8_gallery_71 : decode cX8_gallery 71 = .ok (.iaload, 1) := by decide +kernel
theorem dX8_gallery_72 : decode cX8_gallery 72 = .ok (.bipush 48, 2) := by decide +kernel
theorem dX8_gallery_74 : decode cX8_gallery 74 = .ok (.isub, 1) := by decide +kernel
theorem dX8_gallery_75 : decode cX8_gallery 75 = .ok (.putfield 72, 3) := by decide +kernel
theorem dX8_gallery_78 : decode cX8_gallery 78 = .ok (.aload_n 0, 1) := by decide +kernel
theorem dX8_gallery_79 : decode cX8_gallery 79 = .ok (.iconst 0, 1) := by decide +kernel
theorem dX8_gallery_80 : decode cX8_gallery 80 = .ok (.putfield 75, 3) := by decide +kernel
theorem dX8_gallery_83 : decode cX8_gallery 83 = .ok (.aload_n 0, 1) := by decide +kernel
theorem dX8_gallery_84 : decode cX8_gallery 84 = .ok (.iconst 0, 1) := by decide +kernel
theorem dX8_gallery_85 : decode cX8_gallery 85 = .ok (.putfield 78, 3) := by decide +kernel
theorem dX8_gallery_88 : decode cX8_gallery 88 = .ok (.aload_n 0, 1) := by decide +kernel
theorem dX8_gallery_89 : decode cX8_gallery 89 = .ok (.iconst 0, 1) := by decide +kernel
theorem dX8_gallery_90 : decode cX8_gallery 90 = .ok (.putfield 81, 3) := by decide +kernel
theorem dX8_gallery_93 : decode cX8_gallery 93 = .ok (.aload_n 0, 1) := by decide +kernel
theorem dX8_gallery_94 : decode cX8_gallery 94 = .ok (.iconst 0, 1) := by decide +kernel
theorem dX8_gallery_95 : decode cX8_gallery 95 = .ok (.putfield 84, 3) := by decide +kernel
theorem dX8_gallery_98 : decode cX8_gallery 98 = .ok (.aload_n 0, 1) := by decide +kernel
theorem dX8_gallery_99 : decode cX8_gallery 99 = .ok (.iconst 0, 1) := by decide +kernel
theorem dX8_gallery_100 : decode cX8_gallery 100 = .ok (.putfield 87, 3) := by decide +kernel
theorem dX8_gallery_103 : decode cX8_gallery 103 = .ok (.aload_n 0, 1) := by decide +kernel
theorem dX8_gallery_104 : decode cX8_gallery 104 = .ok (.dup, 1) := by decide +kernel
theorem dX8_gallery_105 : decode cX8_gallery 105 = .ok (.getfield 90, 3) := by decide +kernel
theorem dX8_gallery_108 : decode cX8_gallery 108 = .ok (.iconst 1, 1) := by decide +kernel
theorem dX8_gallery_109 : decode cX8_gallery 109 = .ok (.iadd, 1) := by decide +kernel
theorem dX8_gallery_110 : decode cX8_gallery 110 = .ok (.putfield 90, 3) := by decide +kernel
theorem dX8_gallery_113 : decode cX8_gallery 113 = .ok (.aload_n 0, 1) := by decide +kernel
theorem dX8_gallery_114 : decode cX8_gallery 114 = .ok (.iconst 0, 1) := by decide +kernel
theorem dX8_gallery_115 : decode cX8_gallery 115 = .ok (.putfield 56, 3) := by decide +kernel
theorem dX8_gallery_118 : decode cX8_gallery 118 = .ok (.aload_n 0, 1) := by decide +kernel
theorem dX8_gallery_119 : decode cX8_gallery 119 = .ok (.invokevirtual 93, 3) := by decide +kernel
theorem dX8_gallery_122 : decode cX8_gallery 122 = .ok (.ireturn, 1) := by decide +kernel
theorem dX8_lacks_0 : decode cX8_lacks 0 = .ok (.aload_n 0, 1) := by decide +kernel
theorem dX8_lacks_1 : decode cX8_lacks 1 = .ok (.getfield 72, 3) := by decide +kernel
theorem dX8_lacks_4 : decode cX8_lacks 4 = .ok (.ifCond .ne 7, 3) := by decide +kernel
theorem dX8_lacks_7 : decode cX8_lacks 7 = .ok (.iconst 1, 1) := by decide +kernel
theorem dX8_lacks_8 : decode cX8_lacks 8 = .ok (.goto 4, 3) := by decide +kernel
theorem dX8_lacks_11 : decode cX8_lacks 11 = .ok (.iconst 0, 1) := by decide +kernel
theorem dX8_lacks_12 : decode cX8_lacks 12 = .ok (.ireturn, 1) := by decide +kernel
theorem dX8_isPlace_0 : decode cX8_isPlace 0 = .ok (.aload_n 0, 1) := by decide +kernel
theorem dX8_isPlace_1 : decode cX8_isPlace 1 = .ok (.invokevirtual 96, 3) := by decide +kernel
theorem dX8_isPlace_4 : decode cX8_isPlace 4 = .ok (.ifCond .ne 19, 3) := by decide +kernel
theorem dX8_isPlace_7 : decode cX8_isPlace 7 = .ok (.iload_n 1, 1) := by decide +kernel
theorem dX8_isPlace_8 : decode cX8_isPlace 8 = .ok (.i2l, 1) := by decide +kernel
theorem dX8_isPlace_9 : decode cX8_isPlace 9 = .ok (.lconst 0, 1) := by decide +kernel
theorem dX8_isPlace_10 : decode cX8_isPlace 10 = .ok (.ldc2_w 100, 3) := by decide +kernel
theorem dX8_isPlace_13 : decode cX8_isPlace 13 = .ok (.invokestatic 52, 3) := by decide +kernel
theorem dX8_isPlace_16 : decode cX8_isPlace 16 = .ok (.ifCond .eq 7, 3) := by decide +kernel
theorem dX8_isPlace_19 : decode cX8_isPlace 19 = .ok (.iconst 1, 1) := by decide +kernel
theorem dX8_isPlace_20 : decode cX8_isPlace 20 = .ok (.goto 4, 3) := by decide +kernel
theorem dX8_isPlace_23 : decode cX8_isPlace 23 = .ok (.iconst 0, 1) := by decide +kernel
theorem dX8_isPlace_24 : decode cX8_isPlace 24 = .ok (.ireturn, 1) := by decide +kernel
theorem dX8_isTenant_0 : decode cX8_isTenant 0 = .ok (.iload_n 1, 1) := by decide +kernel
theorem dX8_isTenant_1 : decode cX8_isTenant 1 = .ok (.i2l, 1) := by decide +kernel
theorem dX8_isTenant_2 : decode cX8_isTenant 2 = .ok (.lconst 0, 1) := by decide +kernel
theorem dX8_isTenant_3 : decode cX8_isTenant 3 = .ok (.aload_n 0, 1) := by decide +kernel
theorem dX8_isTenant_4 : decode cX8_isTenant 4 = .ok (.getfield 84, 3) := by decide +kernel
theorem dX8_isTenant_7 : decode cX8_isTenant 7 = .ok (.iconst 1, 1) := by decide +kernel
theorem dX8_isTenant_8 : decode cX8_isTenant 8 = .ok (.isub, 1) := by decide +kernel
theorem dX8_isTenant_9 : decode cX8_isTenant 9 = .ok (.i2l, 1) := by decide +kernel
theorem dX8_isTenant_10 : decode cX8_isTenant 10 = .ok (.invokestatic 52, 3) := by decide +kernel
theorem dX8_isTenant_13 : decode cX8_isTenant 13 = .ok (.ireturn, 1) := by decide +kernel
theorem dX8_weightBy_0 : decode cX8_weightBy 0 = .ok (.iload_n 0, 1) := by decide +kernel
theorem dX8_weightBy_1 : decode cX8_weightBy 1 = .ok (.iconst 1, 1) := by decide +kernel
theorem dX8_weightBy_2 : decode cX8_weightBy 2 = .ok (.if_icmp .ne 7, 3) := by decide +kernel
theorem dX8_weightBy_5 : decode cX8_weightBy 5 = .ok (.iconst 2, 1) := by decide +kernel
theorem dX8_weightBy_6 : decode cX8_weightBy 6 = .ok (.goto 22, 3) := by decide +kernel
theorem dX8_weightBy_9 : decode cX8_weightBy 9 = .ok (.iload_n 0, 1) := by decide +kernel
theorem dX8_weightBy_10 : decode cX8_weightBy 10 = .ok (.iconst 2, 1) := by decide +kernel
theorem dX8_weightBy_11 : decode cX8_weightBy 11 = .ok (.if_icmp .ne 7, 3) := by decide +kernel
theorem dX8_weightBy_14 : decode cX8_weightBy 14 = .ok (.iconst 0, 1) := by decide +kernel
theorem dX8_weightBy_15 : decode cX8_weightBy 15 = .ok (.goto 13, 3) := by decide +kernel
theorem dX8_weightBy_18 : decode cX8_weightBy 18 = .ok (.iload_n 0, 1) := by decide +kernel
theorem dX8_weightBy_19 : decode cX8_weightBy 19 = .ok (.iconst 4, 1) := by decide +kernel
theorem dX8_weightBy_20 : decode cX8_weightBy 20 = .ok (.if_icmp .ne 7, 3) := by decide +kernel
theorem dX8_weightBy_23 : decode cX8_weightBy 23 = .ok (.iconst 4, 1) := by decide +kernel
theorem dX8_weightBy_24 : decode cX8_weightBy 24 = .ok (.goto 4, 3) := by decide +kernel
theorem dX8_weightBy_27 : decode cX8_weightBy 27 = .ok (.iconst 1, 1) := by decide +kernel
theorem dX8_weightBy_28 : decode cX8_weightBy 28 = .ok (.ireturn, 1) := by decide +kernel
theorem dX8_breathBy_0 : decode cX8_breathBy 0 = .ok (.iload_n 0, 1) := by decide +kernel
theorem dX8_breathBy_1 : decode cX8_breathBy 1 = .ok (.iconst 1, 1) := by decide +kernel
theorem dX8_breathBy_2 : decode cX8_breathBy 2 = .ok (.if_icmp .eq 8, 3) := by decide +kernel
theorem dX8_breathBy_5 : decode cX8_breathBy 5 = .ok (.iload_n 0, 1) := by decide +kernel
theorem dX8_breathBy_6 : decode cX8_breathBy 6 = .ok (.iconst 4, 1) := by decide +kernel
theorem dX8_breathBy_7 : decode cX8_breathBy 7 = .ok (.if_icmp .ne 7, 3) := by decide +kernel
theorem dX8_breathBy_10 : decode cX8_breathBy 10 = .ok (.iconst 3, 1) := by decide +kernel
theorem dX8_breathBy_11 : decode cX8_breathBy 11 = .ok (.goto 13, 3) := by decide +kernel
theorem dX8_breathBy_14 : decode cX8_breathBy 14 = .ok (.iload_n 0, 1) := by decide +kernel
theorem dX8_breathBy_15 : decode cX8_breathBy 15 = .ok (.iconst 3, 1) := by decide +kernel
theorem dX8_breathBy_16 : decode cX8_breathBy 16 = .ok (.if_icmp .ne 7, 3) := by decide +kernel
theorem dX8_breathBy_19 : decode cX8_breathBy 19 = .ok (.iconst 2, 1) := by decide +kernel
theorem dX8_breathBy_20 : decode cX8_breathBy 20 = .ok (.goto 4, 3) := by decide +kernel
theorem dX8_breathBy_23 : decode cX8_breathBy 23 = .ok (.iconst 1, 1) := by decide +kernel
theorem dX8_breathBy_24 : decode cX8_breathBy 24 = .ok (.ireturn, 1) := by decide +kernel
theorem dX8_asItIs_0 : decode cX8_asItIs 0 = .ok (.aload_n 0, 1) := by decide +kernel
theorem dX8_asItIs_1 : decode cX8_asItIs 1 = .ok (.getfield 13, 3) := by decide +kernel
theorem dX8_asItIs_4 : decode cX8_asItIs 4 = .ok (.aload_n 0, 1) := by decide +kernel
theorem dX8_asItIs_5 : decode cX8_asItIs 5 = .ok (.getfield 22, 3) := by decide +kernel
theorem dX8_asItIs_8 : decode cX8_asItIs 8 = .ok (.invokestatic 102, 3) := by decide +kernel
theorem dX8_asItIs_11 : decode cX8_asItIs 11 = .ok (.iconst 0, 1) := by decide +kernel
theorem dX8_asItIs_12 : decode cX8_asItIs 12 = .ok (.istore_n 1, 1) := by decide +kernel
theorem dX8_asItIs_13 : decode cX8_asItIs 13 = .ok (.iload_n 1, 1) := by decide +kernel
theorem dX8_asItIs_14 : decode cX8_asItIs 14 = .ok (.aload_n 0, 1) := by decide +kernel
theorem dX8_asItIs_15 : decode cX8_asItIs 15 = .ok (.getfield 84, 3) := by decide +kernel
theorem dX8_asItIs_18 : decode cX8_asItIs 18 = .ok (.if_icmp .ge 25, 3) := by decide +kernel
theorem dX8_asItIs_21 : decode cX8_asItIs 21 = .ok (.aload_n 0, 1) := by decide +kernel
theorem dX8_asItIs_22 : decode cX8_asItIs 22 = .ok (.getfield 19, 3) := by decide +kernel
theorem dX8_asItIs_25 : decode cX8_asItIs 25 = .ok (.iload_n 1, 1) := by decide +kernel
theorem dX8_asItIs_26 : decode cX8_asItIs 26 = .ok (.aload_n 0, 1) := by decide +kernel
theorem dX8_asItIs_27 : decode cX8_asItIs 27 = .ok (.getfield 16, 3) := by decide +kernel
theorem dX8_asItIs_30 : decode cX8_asItIs 30 = .ok (.iconst 2, 1) := by decide +kernel
theorem dX8_asItIs_31 : decode cX8_asItIs 31 = .ok (.iload_n 1, 1) := by decide +kernel
theorem dX8_asItIs_32 : decode cX8_asItIs 32 = .ok (.imul, 1) := by decide +kernel
theorem dX8_asItIs_33 : decode cX8_asItIs 33 = .ok (.iconst 1, 1) := by decide +kernel
theorem dX8_asItIs_34 : decode cX8_asItIs 34 = .ok (.iadd, 1) := by decide +kernel
theorem dX8_asItIs_35 : decode cX8_asItIs 35 = .ok (.iaload, 1) := by decide +kernel
theorem dX8_asItIs_36 : decode cX8_asItIs 36 = .ok (.iastore, 1) := by decide +kernel
theorem dX8_asItIs_37 : decode cX8_asItIs 37 = .ok (.iinc 1 1, 3) := by decide +kernel
theorem dX8_asItIs_40 : decode cX8_asItIs 40 = .ok (.goto (-27), 3) := by decide +kernel
theorem dX8_asItIs_43 : decode cX8_asItIs 43 = .ok (.return_, 1) := by decide +kernel
theorem dX8_weightIn_0 : decode cX8_weightIn 0 = .ok (.iconst 0, 1) := by decide +kernel
theorem dX8_weightIn_1 : decode cX8_weightIn 1 = .ok (.istore_n 2, 1) := by decide +kernel
theorem dX8_weightIn_2 : decode cX8_weightIn 2 = .ok (.iconst 0, 1) := by decide +kernel
theorem dX8_weightIn_3 : decode cX8_weightIn 3 = .ok (.istore_n 3, 1) := by decide +kernel
theorem dX8_weightIn_4 : decode cX8_weightIn 4 = .ok (.iload_n 3, 1) := by decide +kernel
theorem dX8_weightIn_5 : decode cX8_weightIn 5 = .ok (.aload_n 0, 1) := by decide +kernel
theorem dX8_weightIn_6 : decode cX8_weightIn 6 = .ok (.getfield 84, 3) := by decide +kernel
theorem dX8_weightIn_9 : decode cX8_weightIn 9 = .ok (.if_icmp .ge 37, 3) := by decide +kernel
theorem dX8_weightIn_12 : decode cX8_weightIn 12 = .ok (.iload_n 2, 1) := by decide +kernel
theorem dX8_weightIn_13 : decode cX8_weightIn 13 = .ok (.aload_n 0, 1) := by decide +kernel
theorem dX8_weightIn_14 : decode cX8_weightIn 14 = .ok (.getfield 19, 3) := by decide +kernel
theorem dX8_weightIn_17 : decode cX8_weightIn 17 = .ok (.iload_n 3, 1) := by decide +kernel
theorem dX8_weightIn_18 : decode cX8_weightIn 18 = .ok (.iaload, 1) := by decide +kernel
theorem dX8_weightIn_19 : decode cX8_weightIn 19 = .ok (.iload_n 1, 1) := by decide +kernel
theorem dX8_weightIn_20 : decode cX8_weightIn 20 = .ok (.if_icmp .ne 17, 3) := by decide +kernel
theorem dX8_weightIn_23 : decode cX8_weightIn 23 = .ok (.aload_n 0, 1) := by decide +kernel
theorem dX8_weightIn_24 : decode cX8_weightIn 24 = .ok (.getfield 16, 3) := by decide +kernel
theorem dX8_weightIn_27 : decode cX8_weightIn 27 = .ok (.iconst 2, 1) := by decide +kernel
theorem dX8_weightIn_28 : decode cX8_weightIn 28 = .ok (.iload_n 3, 1) := by decide +kernel
theorem dX8_weightIn_29 : decode cX8_weightIn 29 = .ok (.imul, 1) := by decide +kernel
theorem dX8_weightIn_30 : decode cX8_weightIn 30 = .ok (.iaload, 1) := by decide +kernel
theorem dX8_weightIn_31 : decode cX8_weightIn 31 = .ok (.invokestatic 106, 3) := by decide +kernel
theorem dX8_weightIn_34 : decode cX8_weightIn 34 = .ok (.goto 4, 3) := by decide +kernel
theorem dX8_weightIn_37 : decode cX8_weightIn 37 = .ok (.iconst 0, 1) := by decide +kernel
theorem dX8_weightIn_38 : decode cX8_weightIn 38 = .ok (.iadd, 1) := by decide +kernel
theorem dX8_weightIn_39 : decode cX8_weightIn 39 = .ok (.istore_n 2, 1) := by decide +kernel
theorem dX8_weightIn_40 : decode cX8_weightIn 40 = .ok (.iinc 3 1, 3) := by decide +kernel
theorem dX8_weightIn_43 : decode cX8_weightIn 43 = .ok (.goto (-39), 3) := by decide +kernel
theorem dX8_weightIn_46 : decode cX8_weightIn 46 = .ok (.iload_n 2, 1) := by decide +kernel
theorem dX8_weightIn_47 : decode cX8_weightIn 47 = .ok (.ireturn, 1) := by decide +kernel
theorem dX8_hasFallen_0 : decode cX8_hasFallen 0 = .ok (.iload_n 1, 1) := by decide +kernel
theorem dX8_hasFallen_1 : decode cX8_hasFallen 1 = .ok (.i2l, 1) := by decide +kernel
theorem dX8_hasFallen_2 : decode cX8_hasFallen 2 = .ok (.lconst 0, 1) := by decide +kernel
theorem dX8_hasFallen_3 : decode cX8_hasFallen 3 = .ok (.ldc2_w 100, 3) := by decide +kernel
theorem dX8_hasFallen_6 : decode cX8_hasFallen 6 = .ok (.invokestatic 52, 3) := by decide +kernel
theorem dX8_hasFallen_9 : decode cX8_hasFallen 9 = .ok (.ifCond .eq 13, 3) := by decide +kernel
theorem dX8_hasFallen_12 : decode cX8_hasFallen 12 = .ok (.aload_n 0, 1) := by decide +kernel
theorem dX8_hasFallen_13 : decode cX8_hasFallen 13 = .ok (.iload_n 1, 1) := by decide +kernel
theorem dX8_hasFallen_14 : decode cX8_hasFallen 14 = .ok (.iaload, 1) := by decide +kernel
theorem dX8_hasFallen_15 : decode cX8_hasFallen 15 = .ok (.ifCond .ne 7, 3) := by decide +kernel
theorem dX8_hasFallen_18 : decode cX8_hasFallen 18 = .ok (.iconst 1, 1) := by decide +kernel
theorem dX8_hasFallen_19 : decode cX8_hasFallen 19 = .ok (.goto 4, 3) := by decide +kernel
theorem dX8_hasFallen_22 : decode cX8_hasFallen 22 = .ok (.iconst 0, 1) := by decide +kernel
theorem dX8_hasFallen_23 : decode cX8_hasFallen 23 = .ok (.ireturn, 1) := by decide +kernel
theorem dX8_lessOf_0 : decode cX8_lessOf 0 = .ok (.aload_n 0, 1) := by decide +kernel
theorem dX8_lessOf_1 : decode cX8_lessOf 1 = .ok (.iload_n 1, 1) := by decide +kernel
theorem dX8_lessOf_2 : decode cX8_lessOf 2 = .ok (.invokevirtual 110, 3) := by decide +kernel
theorem dX8_lessOf_5 : decode cX8_lessOf 5 = .ok (.aload_n 2, 1) := by decide +kernel
theorem dX8_lessOf_6 : decode cX8_lessOf 6 = .ok (.iload_n 1, 1) := by decide +kernel
theorem dX8_lessOf_7 : decode cX8_lessOf 7 = .ok (.iconst 1, 1) := by decide +kernel
theorem dX8_lessOf_8 : decode cX8_lessOf 8 = .ok (.isub, 1) := by decide +kernel
theorem dX8_lessOf_9 : decode cX8_lessOf 9 = .ok (.invokestatic 113, 3) := by decide +kernel
theorem dX8_lessOf_12 : decode cX8_lessOf 12 = .ok (.ifCond .ne 13, 3) := by decide +kernel
theorem dX8_lessOf_15 : decode cX8_lessOf 15 = .ok (.aload_n 2, 1) := by decide +kernel
theorem dX8_lessOf_16 : decode cX8_lessOf 16 = .ok (.iload_n 1, 1) := by decide +kernel
theorem dX8_lessOf_17 : decode cX8_lessOf 17 = .ok (.iconst 1, 1) := by decide +kernel
theorem dX8_lessOf_18 : decode cX8_lessOf 18 = .ok (.iadd, 1) := by decide +kernel
theorem dX8_lessOf_19 : decode cX8_lessOf 19 = .ok (.invokestatic 113, 3) := by decide +kernel
theorem dX8_lessOf_22 : decode cX8_lessOf 22 = .ok (.ifCond .eq 7, 3) := by decide +kernel
theorem dX8_lessOf_25 : decode cX8_lessOf 25 = .ok (.iconst 1, 1) := by decide +kernel
theorem dX8_lessOf_26 : decode cX8_lessOf 26 = .ok (.goto 4, 3) := by decide +kernel
theorem dX8_lessOf_29 : decode cX8_lessOf 29 = .ok (.iconst 0, 1) := by decide +kernel
theorem dX8_lessOf_30 : decode cX8_lessOf 30 = .ok (.iadd, 1) := by decide +kernel
theorem dX8_lessOf_31 : decode cX8_lessOf 31 = .ok (.ireturn, 1) := by decide +kernel
theorem dX8_goesBy_0 : decode cX8_goesBy 0 = .ok (.aload_n 0, 1) := by decide +kernel
theorem dX8_goesBy_1 : decode cX8_goesBy 1 = .ok (.getfield 22, 3) := by decide +kernel
theorem dX8_goesBy_4 : decode cX8_goesBy 4 = .ok (.aload_n 0, 1) := by decide +kernel
theorem dX8_goesBy_5 : decode cX8_goesBy 5 = .ok (.getfield 25, 3) := by decide +kernel
theorem dX8_goesBy_8 : decode cX8_goesBy 8 = .ok (.invokestatic 102, 3) := by decide +kernel
theorem dX8_goesBy_11 : decode cX8_goesBy 11 = .ok (.iconst 0, 1) := by decide +kernel
theorem dX8_goesBy_12 : decode cX8_goesBy 12 = .ok (.istore_n 1, 1) := by decide +kernel
theorem dX8_goesBy_13 : decode cX8_goesBy 13 = .ok (.iconst 0, 1) := by decide +kernel
theorem dX8_goesBy_14 : decode cX8_goesBy 14 = .ok (.istore_n 2, 1) := by decide +kernel
theorem dX8_goesBy_15 : decode cX8_goesBy 15 = .ok (.iload_n 2, 1) := by decide +kernel
theorem dX8_goesBy_16 : decode cX8_goesBy 16 = .ok (.bipush 6, 2) := by decide +kernel
theorem dX8_goesBy_18 : decode cX8_goesBy 18 = .ok (.if_icmp .ge 62, 3) := by decide +kernel
theorem dX8_goesBy_21 : decode cX8_goesBy 21 = .ok (.aload_n 0, 1) := by decide +kernel
theorem dX8_goesBy_22 : decode cX8_goesBy 22 = .ok (.getfield 25, 3) := by decide +kernel
theorem dX8_goesBy_25 : decode cX8_goesBy 25 = .ok (.iload_n 2, 1) := by decide +kernel
theorem dX8_goesBy_26 : decode cX8_goesBy 26 = .ok (.iaload, 1) := by decide +kernel
theorem dX8_goesBy_27 : decode cX8_goesBy 27 = .ok (.ifCond .le 47, 3) := by decide +kernel
theorem dX8_goesBy_30 : decode cX8_goesBy 30 = .ok (.aload_n 0, 1) := by decide +kernel
theorem dX8_goesBy_31 : decode cX8_goesBy 31 = .ok (.getfield 25, 3) := by decide +kernel
theorem dX8_goesBy_34 : decode cX8_goesBy 34 = .ok (.iload_n 2, 1) := by decide +kernel
theorem dX8_goesBy_35 : decode cX8_goesBy 35 = .ok (.iaload, 1) := by decide +kernel
theorem dX8_goesBy_36 : decode cX8_goesBy 36 = .ok (.aload_n 0, 1) := by decide +kernel
theorem dX8_goesBy_37 : decode cX8_goesBy 37 = .ok (.iload_n 2, 1) := by decide +kernel
theorem dX8_goesBy_38 : decode cX8_goesBy 38 = .ok (.aload_n 0, 1) := by decide +kernel
theorem dX8_goesBy_39 : decode cX8_goesBy 39 = .ok (.getfield 25, 3) := by decide +kernel
theorem dX8_goesBy_42 : decode cX8_goesBy 42 = .ok (.invokevirtual 117, 3) := by decide +kernel
theorem dX8_goesBy_45 : decode cX8_goesBy 45 = .ok (.isub, 1) := by decide +kernel
theorem dX8_goesBy_46 : decode cX8_goesBy 46 = .ok (.istore_n 3, 1) := by decide +kernel
theorem dX8_goesBy_47 : decode cX8_goesBy 47 = .ok (.aload_n 0, 1) := by decide +kernel
theorem dX8_goesBy_48 : decode cX8_goesBy 48 = .ok (.getfield 22, 3) := by decide +kernel
theorem dX8_goesBy_51 : decode cX8_goesBy 51 = .ok (.iload_n 2, 1) := by decide +kernel
theorem dX8_goesBy_52 : decode cX8_goesBy 52 = .ok (.iload_n 3, 1) := by decide +kernel
theorem dX8_goesBy_53 : decode cX8_goesBy 53 = .ok (.ifCond .le 7, 3) := by decide +kernel
end
section
theorem dX8_goesBy_56 : decode cX8_goesBy 56 = .ok (.iload_n 3, 1) := by decide +kernel
theorem dX8_goesBy_57 : decode cX8_goesBy 57 = .ok (.goto 4, 3) := by decide +kernel
theorem dX8_goesBy_60 : decode cX8_goesBy 60 = .ok (.iconst 0, 1) := by decide +kernel
theorem dX8_goesBy_61 : decode cX8_goesBy 61 = .ok (.iastore, 1) := by decide +kernel
theorem dX8_goesBy_62 : decode cX8_goesBy 62 = .ok (.iload_n 1, 1) := by decide +kernel
theorem dX8_goesBy_63 : decode cX8_goesBy 63 = .ok (.iload_n 3, 1) := by decide +kernel
theorem dX8_goesBy_64 : decode cX8_goesBy 64 = .ok (.ifCond .le 7, 3) := by decide +kernel
theorem dX8_goesBy_67 : decode cX8_goesBy 67 = .ok (.iconst 0, 1) := by decide +kernel
theorem dX8_goesBy_68 : decode cX8_goesBy 68 = .ok (.goto 4, 3) := by decide +kernel
theorem dX8_goesBy_71 : decode cX8_goesBy 71 = .ok (.iconst 1, 1) := by decide +kernel
theorem dX8_goesBy_72 : decode cX8_goesBy 72 = .ok (.iadd, 1) := by decide +kernel
theorem dX8_goesBy_73 : decode cX8_goesBy 73 = .ok (.istore_n 1, 1) := by decide +kernel
theorem dX8_goesBy_74 : decode cX8_goesBy 74 = .ok (.iinc 2 1, 3) := by decide +kernel
theorem dX8_goesBy_77 : decode cX8_goesBy 77 = .ok (.goto (-62), 3) := by decide +kernel
theorem dX8_goesBy_80 : decode cX8_goesBy 80 = .ok (.iload_n 1, 1) := by decide +kernel
theorem dX8_goesBy_81 : decode cX8_goesBy 81 = .ok (.ireturn, 1) := by decide +kernel
theorem dX8_whoIn_0 : decode cX8_whoIn 0 = .ok (.iconst 0, 1) := by decide +kernel
theorem dX8_whoIn_1 : decode cX8_whoIn 1 = .ok (.istore_n 2, 1) := by decide +kernel
theorem dX8_whoIn_2 : decode cX8_whoIn 2 = .ok (.iconst 0, 1) := by decide +kernel
theorem dX8_whoIn_3 : decode cX8_whoIn 3 = .ok (.istore_n 3, 1) := by decide +kernel
theorem dX8_whoIn_4 : decode cX8_whoIn 4 = .ok (.iload_n 3, 1) := by decide +kernel
theorem dX8_whoIn_5 : decode cX8_whoIn 5 = .ok (.aload_n 0, 1) := by decide +kernel
theorem dX8_whoIn_6 : decode cX8_whoIn 6 = .ok (.getfield 84, 3) := by decide +kernel
theorem dX8_whoIn_9 : decode cX8_whoIn 9 = .ok (.if_icmp .ge 33, 3) := by decide +kernel
theorem dX8_whoIn_12 : decode cX8_whoIn 12 = .ok (.iload_n 2, 1) := by decide +kernel
theorem dX8_whoIn_13 : decode cX8_whoIn 13 = .ok (.aload_n 0, 1) := by decide +kernel
theorem dX8_whoIn_14 : decode cX8_whoIn 14 = .ok (.getfield 16, 3) := by decide +kernel
theorem dX8_whoIn_17 : decode cX8_whoIn 17 = .ok (.iconst 2, 1) := by decide +kernel
theorem dX8_whoIn_18 : decode cX8_whoIn 18 = .ok (.iload_n 3, 1) := by decide +kernel
theorem dX8_whoIn_19 : decode cX8_whoIn 19 = .ok (.imul, 1) := by decide +kernel
theorem dX8_whoIn_20 : decode cX8_whoIn 20 = .ok (.iconst 1, 1) := by decide +kernel
theorem dX8_whoIn_21 : decode cX8_whoIn 21 = .ok (.iadd, 1) := by decide +kernel
theorem dX8_whoIn_22 : decode cX8_whoIn 22 = .ok (.iaload, 1) := by decide +kernel
theorem dX8_whoIn_23 : decode cX8_whoIn 23 = .ok (.iload_n 1, 1) := by decide +kernel
theorem dX8_whoIn_24 : decode cX8_whoIn 24 = .ok (.if_icmp .ne 9, 3) := by decide +kernel
theorem dX8_whoIn_27 : decode cX8_whoIn 27 = .ok (.iconst 1, 1) := by decide +kernel
theorem dX8_whoIn_28 : decode cX8_whoIn 28 = .ok (.iload_n 3, 1) := by decide +kernel
theorem dX8_whoIn_29 : decode cX8_whoIn 29 = .ok (.ishl, 1) := by decide +kernel
theorem dX8_whoIn_30 : decode cX8_whoIn 30 = .ok (.goto 4, 3) := by decide +kernel
theorem dX8_whoIn_33 : decode cX8_whoIn 33 = .ok (.iconst 0, 1) := by decide +kernel
theorem dX8_whoIn_34 : decode cX8_whoIn 34 = .ok (.ior, 1) := by decide +kernel
theorem dX8_whoIn_35 : decode cX8_whoIn 35 = .ok (.istore_n 2, 1) := by decide +kernel
theorem dX8_whoIn_36 : decode cX8_whoIn 36 = .ok (.iinc 3 1, 3) := by decide +kernel
theorem dX8_whoIn_39 : decode cX8_whoIn 39 = .ok (.goto (-35), 3) := by decide +kernel
theorem dX8_whoIn_42 : decode cX8_whoIn 42 = .ok (.iload_n 2, 1) := by decide +kernel
theorem dX8_whoIn_43 : decode cX8_whoIn 43 = .ok (.ireturn, 1) := by decide +kernel
theorem dX8_tellPlace_0 : decode cX8_tellPlace 0 = .ok (.iload_n 2, 1) := by decide +kernel
theorem dX8_tellPlace_1 : decode cX8_tellPlace 1 = .ok (.tableswitch 115 0 5 #[39, 46, 56, 62, 103, 109], 39) := by decide +kernel
theorem dX8_tellPlace_40 : decode cX8_tellPlace 40 = .ok (.aload_n 0, 1) := by decide +kernel
theorem dX8_tellPlace_41 : decode cX8_tellPlace 41 = .ok (.getfield 13, 3) := by decide +kernel
theorem dX8_tellPlace_44 : decode cX8_tellPlace 44 = .ok (.iload_n 1, 1) := by decide +kernel
theorem dX8_tellPlace_45 : decode cX8_tellPlace 45 = .ok (.iaload, 1) := by decide +kernel
theorem dX8_tellPlace_46 : decode cX8_tellPlace 46 = .ok (.ireturn, 1) := by decide +kernel
theorem dX8_tellPlace_47 : decode cX8_tellPlace 47 = .ok (.aload_n 0, 1) := by decide +kernel
theorem dX8_tellPlace_48 : decode cX8_tellPlace 48 = .ok (.invokevirtual 121, 3) := by decide +kernel
theorem dX8_tellPlace_51 : decode cX8_tellPlace 51 = .ok (.aload_n 0, 1) := by decide +kernel
theorem dX8_tellPlace_52 : decode cX8_tellPlace 52 = .ok (.iload_n 1, 1) := by decide +kernel
theorem dX8_tellPlace_53 : decode cX8_tellPlace 53 = .ok (.invokevirtual 110, 3) := by decide +kernel
theorem dX8_tellPlace_56 : decode cX8_tellPlace 56 = .ok (.ireturn, 1) := by decide +kernel
theorem dX8_tellPlace_57 : decode cX8_tellPlace 57 = .ok (.aload_n 0, 1) := by decide +kernel
theorem dX8_tellPlace_58 : decode cX8_tellPlace 58 = .ok (.iload_n 1, 1) := by decide +kernel
theorem dX8_tellPlace_59 : decode cX8_tellPlace 59 = .ok (.invokevirtual 124, 3) := by decide +kernel
theorem dX8_tellPlace_62 : decode cX8_tellPlace 62 = .ok (.ireturn, 1) := by decide +kernel
theorem dX8_tellPlace_63 : decode cX8_tellPlace 63 = .ok (.aload_n 0, 1) := by decide +kernel
theorem dX8_tellPlace_64 : decode cX8_tellPlace 64 = .ok (.invokevirtual 121, 3) := by decide +kernel
theorem dX8_tellPlace_67 : decode cX8_tellPlace 67 = .ok (.aload_n 0, 1) := by decide +kernel
theorem dX8_tellPlace_68 : decode cX8_tellPlace 68 = .ok (.getfield 13, 3) := by decide +kernel
theorem dX8_tellPlace_71 : decode cX8_tellPlace 71 = .ok (.iload_n 1, 1) := by decide +kernel
theorem dX8_tellPlace_72 : decode cX8_tellPlace 72 = .ok (.iaload, 1) := by decide +kernel
theorem dX8_tellPlace_73 : decode cX8_tellPlace 73 = .ok (.aload_n 0, 1) := by decide +kernel
theorem dX8_tellPlace_74 : decode cX8_tellPlace 74 = .ok (.iload_n 1, 1) := by decide +kernel
theorem dX8_tellPlace_75 : decode cX8_tellPlace 75 = .ok (.aload_n 0, 1) := by decide +kernel
theorem dX8_tellPlace_76 : decode cX8_tellPlace 76 = .ok (.getfield 22, 3) := by decide +kernel
theorem dX8_tellPlace_79 : decode cX8_tellPlace 79 = .ok (.invokevirtual 117, 3) := by decide +kernel
theorem dX8_tellPlace_82 : decode cX8_tellPlace 82 = .ok (.if_icmp .ge 12, 3) := by decide +kernel
theorem dX8_tellPlace_85 : decode cX8_tellPlace 85 = .ok (.aload_n 0, 1) := by decide +kernel
theorem dX8_tellPlace_86 : decode cX8_tellPlace 86 = .ok (.getfield 13, 3) := by decide +kernel
theorem dX8_tellPlace_89 : decode cX8_tellPlace 89 = .ok (.iload_n 1, 1) := by decide +kernel
theorem dX8_tellPlace_90 : decode cX8_tellPlace 90 = .ok (.iaload, 1) := by decide +kernel
theorem dX8_tellPlace_91 : decode cX8_tellPlace 91 = .ok (.goto 12, 3) := by decide +kernel
theorem dX8_tellPlace_94 : decode cX8_tellPlace 94 = .ok (.aload_n 0, 1) := by decide +kernel
theorem dX8_tellPlace_95 : decode cX8_tellPlace 95 = .ok (.iload_n 1, 1) := by decide +kernel
theorem dX8_tellPlace_96 : decode cX8_tellPlace 96 = .ok (.aload_n 0, 1) := by decide +kernel
theorem dX8_tellPlace_97 : decode cX8_tellPlace 97 = .ok (.getfield 22, 3) := by decide +kernel
theorem dX8_tellPlace_100 : decode cX8_tellPlace 100 = .ok (.invokevirtual 117, 3) := by decide +kernel
theorem dX8_tellPlace_103 : decode cX8_tellPlace 103 = .ok (.ireturn, 1) := by decide +kernel
theorem dX8_tellPlace_104 : decode cX8_tellPlace 104 = .ok (.aload_n 0, 1) := by decide +kernel
theorem dX8_tellPlace_105 : decode cX8_tellPlace 105 = .ok (.iload_n 1, 1) := by decide +kernel
theorem dX8_tellPlace_106 : decode cX8_tellPlace 106 = .ok (.invokevirtual 127, 3) := by decide +kernel
theorem dX8_tellPlace_109 : decode cX8_tellPlace 109 = .ok (.ireturn, 1) := by decide +kernel
theorem dX8_tellPlace_110 : decode cX8_tellPlace 110 = .ok (.aload_n 0, 1) := by decide +kernel
theorem dX8_tellPlace_111 : decode cX8_tellPlace 111 = .ok (.iload_n 1, 1) := by decide +kernel
theorem dX8_tellPlace_112 : decode cX8_tellPlace 112 = .ok (.invokevirtual 130, 3) := by decide +kernel
theorem dX8_tellPlace_115 : decode cX8_tellPlace 115 = .ok (.ireturn, 1) := by decide +kernel
theorem dX8_tellPlace_116 : decode cX8_tellPlace 116 = .ok (.bipush (-102), 2) := by decide +kernel
theorem dX8_tellPlace_118 : decode cX8_tellPlace 118 = .ok (.ireturn, 1) := by decide +kernel
theorem dX8_place_0 : decode cX8_place 0 = .ok (.aload_n 0, 1) := by decide +kernel
theorem dX8_place_1 : decode cX8_place 1 = .ok (.iload_n 1, 1) := by decide +kernel
theorem dX8_place_2 : decode cX8_place 2 = .ok (.invokevirtual 133, 3) := by decide +kernel
theorem dX8_place_5 : decode cX8_place 5 = .ok (.ifCond .eq 12, 3) := by decide +kernel
theorem dX8_place_8 : decode cX8_place 8 = .ok (.aload_n 0, 1) := by decide +kernel
theorem dX8_place_9 : decode cX8_place 9 = .ok (.iload_n 1, 1) := by decide +kernel
theorem dX8_place_10 : decode cX8_place 10 = .ok (.iload_n 2, 1) := by decide +kernel
theorem dX8_place_11 : decode cX8_place 11 = .ok (.invokevirtual 137, 3) := by decide +kernel
theorem dX8_place_14 : decode cX8_place 14 = .ok (.goto 5, 3) := by decide +kernel
theorem dX8_place_17 : decode cX8_place 17 = .ok (.bipush (-101), 2) := by decide +kernel
theorem dX8_place_19 : decode cX8_place 19 = .ok (.ireturn, 1) := by decide +kernel
theorem dX8_prop_0 : decode cX8_prop 0 = .ok (.aload_n 0, 1) := by decide +kernel
theorem dX8_prop_1 : decode cX8_prop 1 = .ok (.iload_n 1, 1) := by decide +kernel
theorem dX8_prop_2 : decode cX8_prop 2 = .ok (.invokevirtual 133, 3) := by decide +kernel
theorem dX8_prop_5 : decode cX8_prop 5 = .ok (.ifCond .ne 6, 3) := by decide +kernel
theorem dX8_prop_8 : decode cX8_prop 8 = .ok (.bipush (-101), 2) := by decide +kernel
theorem dX8_prop_10 : decode cX8_prop 10 = .ok (.ireturn, 1) := by decide +kernel
theorem dX8_prop_11 : decode cX8_prop 11 = .ok (.aload_n 0, 1) := by decide +kernel
theorem dX8_prop_12 : decode cX8_prop 12 = .ok (.getfield 13, 3) := by decide +kernel
theorem dX8_prop_15 : decode cX8_prop 15 = .ok (.iload_n 1, 1) := by decide +kernel
theorem dX8_prop_16 : decode cX8_prop 16 = .ok (.iaload, 1) := by decide +kernel
theorem dX8_prop_17 : decode cX8_prop 17 = .ok (.ifCond .eq 16, 3) := by decide +kernel
theorem dX8_prop_20 : decode cX8_prop 20 = .ok (.aload_n 0, 1) := by decide +kernel
theorem dX8_prop_21 : decode cX8_prop 21 = .ok (.getfield 13, 3) := by decide +kernel
theorem dX8_prop_24 : decode cX8_prop 24 = .ok (.iload_n 1, 1) := by decide +kernel
theorem dX8_prop_25 : decode cX8_prop 25 = .ok (.iaload, 1) := by decide +kernel
theorem dX8_prop_26 : decode cX8_prop 26 = .ok (.iconst 3, 1) := by decide +kernel
theorem dX8_prop_27 : decode cX8_prop 27 = .ok (.iadd, 1) := by decide +kernel
theorem dX8_prop_28 : decode cX8_prop 28 = .ok (.bipush 20, 2) := by decide +kernel
theorem dX8_prop_30 : decode cX8_prop 30 = .ok (.if_icmp .le 6, 3) := by decide +kernel
theorem dX8_prop_33 : decode cX8_prop 33 = .ok (.bipush (-103), 2) := by decide +kernel
theorem dX8_prop_35 : decode cX8_prop 35 = .ok (.ireturn, 1) := by decide +kernel
theorem dX8_prop_36 : decode cX8_prop 36 = .ok (.aload_n 0, 1) := by decide +kernel
theorem dX8_prop_37 : decode cX8_prop 37 = .ok (.getfield 13, 3) := by decide +kernel
theorem dX8_prop_40 : decode cX8_prop 40 = .ok (.iload_n 1, 1) := by decide +kernel
theorem dX8_prop_41 : decode cX8_prop 41 = .ok (.dup2, 1) := by decide +kernel
theorem dX8_prop_42 : decode cX8_prop 42 = .ok (.iaload, 1) := by decide +kernel
theorem dX8_prop_43 : decode cX8_prop 43 = .ok (.iconst 3, 1) := by decide +kernel
theorem dX8_prop_44 : decode cX8_prop 44 = .ok (.iadd, 1) := by decide +kernel
theorem dX8_prop_45 : decode cX8_prop 45 = .ok (.iastore, 1) := by decide +kernel
theorem dX8_prop_46 : decode cX8_prop 46 = .ok (.aload_n 0, 1) := by decide +kernel
theorem dX8_prop_47 : decode cX8_prop 47 = .ok (.dup, 1) := by decide +kernel
theorem dX8_prop_48 : decode cX8_prop 48 = .ok (.getfield 81, 3) := by decide +kernel
theorem dX8_prop_51 : decode cX8_prop 51 = .ok (.iconst 1, 1) := by decide +kernel
theorem dX8_prop_52 : decode cX8_prop 52 = .ok (.iadd, 1) := by decide +kernel
theorem dX8_prop_53 : decode cX8_prop 53 = .ok (.putfield 81, 3) := by decide +kernel
theorem dX8_prop_56 : decode cX8_prop 56 = .ok (.aload_n 0, 1) := by decide +kernel
theorem dX8_prop_57 : decode cX8_prop 57 = .ok (.getfield 13, 3) := by decide +kernel
theorem dX8_prop_60 : decode cX8_prop 60 = .ok (.iload_n 1, 1) := by decide +kernel
theorem dX8_prop_61 : decode cX8_prop 61 = .ok (.iaload, 1) := by decide +kernel
theorem dX8_prop_62 : decode cX8_prop 62 = .ok (.ireturn, 1) := by decide +kernel
theorem dX8_tenant_0 : decode cX8_tenant 0 = .ok (.iload_n 1, 1) := by decide +kernel
theorem dX8_tenant_1 : decode cX8_tenant 1 = .ok (.i2l, 1) := by decide +kernel
theorem dX8_tenant_2 : decode cX8_tenant 2 = .ok (.lconst 0, 1) := by decide +kernel
theorem dX8_tenant_3 : decode cX8_tenant 3 = .ok (.ldc2_w 141, 3) := by decide +kernel
theorem dX8_tenant_6 : decode cX8_tenant 6 = .ok (.invokestatic 52, 3) := by decide +kernel
theorem dX8_tenant_9 : decode cX8_tenant 9 = .ok (.ifCond .ne 6, 3) := by decide +kernel
theorem dX8_tenant_12 : decode cX8_tenant 12 = .ok (.bipush (-102), 2) := by decide +kernel
theorem dX8_tenant_14 : decode cX8_tenant 14 = .ok (.ireturn, 1) := by decide +kernel
theorem dX8_tenant_15 : decode cX8_tenant 15 = .ok (.aload_n 0, 1) := by decide +kernel
theorem dX8_tenant_16 : decode cX8_tenant 16 = .ok (.iload_n 2, 1) := by decide +kernel
theorem dX8_tenant_17 : decode cX8_tenant 17 = .ok (.invokevirtual 133, 3) := by decide +kernel
theorem dX8_tenant_20 : decode cX8_tenant 20 = .ok (.ifCond .ne 6, 3) := by decide +kernel
theorem dX8_tenant_23 : decode cX8_tenant 23 = .ok (.bipush (-101), 2) := by decide +kernel
theorem dX8_tenant_25 : decode cX8_tenant 25 = .ok (.ireturn, 1) := by decide +kernel
theorem dX8_tenant_26 : decode cX8_tenant 26 = .ok (.aload_n 0, 1) := by decide +kernel
theorem dX8_tenant_27 : decode cX8_tenant 27 = .ok (.getfield 13, 3) := by decide +kernel
theorem dX8_tenant_30 : decode cX8_tenant 30 = .ok (.iload_n 2, 1) := by decide +kernel
theorem dX8_tenant_31 : decode cX8_tenant 31 = .ok (.iaload, 1) := by decide +kernel
theorem dX8_tenant_32 : decode cX8_tenant 32 = .ok (.ifCond .ne 6, 3) := by decide +kernel
theorem dX8_tenant_35 : decode cX8_tenant 35 = .ok (.bipush (-103), 2) := by decide +kernel
theorem dX8_tenant_37 : decode cX8_tenant 37 = .ok (.ireturn, 1) := by decide +kernel
theorem dX8_tenant_38 : decode cX8_tenant 38 = .ok (.aload_n 0, 1) := by decide +kernel
theorem dX8_tenant_39 : decode cX8_tenant 39 = .ok (.getfield 84, 3) := by decide +kernel
theorem dX8_tenant_42 : decode cX8_tenant 42 = .ok (.iconst 5, 1) := by decide +kernel
theorem dX8_tenant_43 : decode cX8_tenant 43 = .ok (.if_icmp .ne 6, 3) := by decide +kernel
theorem dX8_tenant_46 : decode cX8_tenant 46 = .ok (.bipush (-104), 2) := by decide +kernel
theorem dX8_tenant_48 : decode cX8_tenant 48 = .ok (.ireturn, 1) := by decide +kernel
theorem dX8_tenant_49 : decode cX8_tenant 49 = .ok (.aload_n 0, 1) := by decide +kernel
theorem dX8_tenant_50 : decode cX8_tenant 50 = .ok (.getfield 16, 3) := by decide +kernel
theorem dX8_tenant_53 : decode cX8_tenant 53 = .ok (.iconst 2, 1) := by decide +kernel
theorem dX8_tenant_54 : decode cX8_tenant 54 = .ok (.aload_n 0, 1) := by decide +kernel
theorem dX8_tenant_55 : decode cX8_tenant 55 = .ok (.getfield 84, 3) := by decide +kernel
theorem dX8_tenant_58 : decode cX8_tenant 58 = .ok (.imul, 1) := by decide +kernel
theorem dX8_tenant_59 : decode cX8_tenant 59 = .ok (.iload_n 1, 1) := by decide +kernel
theorem dX8_tenant_60 : decode cX8_tenant 60 = .ok (.iastore, 1) := by decide +kernel
theorem dX8_tenant_61 : decode cX8_tenant 61 = .ok (.aload_n 0, 1) := by decide +kernel
theorem dX8_tenant_62 : decode cX8_tenant 62 = .ok (.getfield 16, 3) := by decide +kernel
theorem dX8_tenant_65 : decode cX8_tenant 65 = .ok (.iconst 2, 1) := by decide +kernel
theorem dX8_tenant_66 : decode cX8_tenant 66 = .ok (.aload_n 0, 1) := by decide +kernel
theorem dX8_tenant_67 : decode cX8_tenant 67 = .ok (.getfield 84, 3) := by decide +kernel
theorem dX8_tenant_70 : decode cX8_tenant 70 = .ok (.imul, 1) := by decide +kernel
theorem dX8_tenant_71 : decode cX8_tenant 71 = .ok (.iconst 1, 1) := by decide +kernel
theorem dX8_tenant_72 : decode cX8_tenant 72 = .ok (.iadd, 1) := by decide +kernel
theorem dX8_tenant_73 : decode cX8_tenant 73 = .ok (.iload_n 2, 1) := by decide +kernel
theorem dX8_tenant_74 : decode cX8_tenant 74 = .ok (.iastore, 1) := by decide +kernel
theorem dX8_tenant_75 : decode cX8_tenant 75 = .ok (.aload_n 0, 1) := by decide +kernel
theorem dX8_tenant_76 : decode cX8_tenant 76 = .ok (.dup, 1) := by decide +kernel
theorem dX8_tenant_77 : decode cX8_tenant 77 = .ok (.getfield 84, 3) := by decide +kernel
theorem dX8_tenant_80 : decode cX8_tenant 80 = .ok (.iconst 1, 1) := by decide +kernel
theorem dX8_tenant_81 : decode cX8_tenant 81 = .ok (.iadd, 1) := by decide +kernel
theorem dX8_tenant_82 : decode cX8_tenant 82 = .ok (.putfield 84, 3) := by decide +kernel
theorem dX8_tenant_85 : decode cX8_tenant 85 = .ok (.aload_n 0, 1) := by decide +kernel
theorem dX8_tenant_86 : decode cX8_tenant 86 = .ok (.getfield 84, 3) := by decide +kernel
theorem dX8_tenant_89 : decode cX8_tenant 89 = .ok (.iconst 1, 1) := by decide +kernel
theorem dX8_tenant_90 : decode cX8_tenant 90 = .ok (.isub, 1) := by decide +kernel
theorem dX8_tenant_91 : decode cX8_tenant 91 = .ok (.ireturn, 1) := by decide +kernel
theorem dX8_isCutOff_0 : decode cX8_isCutOff 0 = .ok (.iconst 0, 1) := by decide +kernel
theorem dX8_isCutOff_1 : decode cX8_isCutOff 1 = .ok (.istore_n 2, 1) := by decide +kernel
theorem dX8_isCutOff_2 : decode cX8_isCutOff 2 = .ok (.iconst 0, 1) := by decide +kernel
theorem dX8_isCutOff_3 : decode cX8_isCutOff 3 = .ok (.istore_n 3, 1) := by decide +kernel
theorem dX8_isCutOff_4 : decode cX8_isCutOff 4 = .ok (.iload_n 3, 1) := by decide +kernel
theorem dX8_isCutOff_5 : decode cX8_isCutOff 5 = .ok (.aload_n 0, 1) := by decide +kernel
theorem dX8_isCutOff_6 : decode cX8_isCutOff 6 = .ok (.getfield 19, 3) := by decide +kernel
theorem dX8_isCutOff_9 : decode cX8_isCutOff 9 = .ok (.iload_n 1, 1) := by decide +kernel
theorem dX8_isCutOff_10 : decode cX8_isCutOff 10 = .ok (.iaload, 1) := by decide +kernel
theorem dX8_isCutOff_11 : decode cX8_isCutOff 11 = .ok (.if_icmp .gt 28, 3) := by decide +kernel
theorem dX8_isCutOff_14 : decode cX8_isCutOff 14 = .ok (.iload_n 2, 1) := by decide +kernel
theorem dX8_isCutOff_15 : decode cX8_isCutOff 15 = .ok (.ifCond .ne 12, 3) := by decide +kernel
theorem dX8_isCutOff_18 : decode cX8_isCutOff 18 = .ok (.aload_n 0, 1) := by decide +kernel
theorem dX8_isCutOff_19 : decode cX8_isCutOff 19 = .ok (.getfield 22, 3) := by decide +kernel
theorem dX8_isCutOff_22 : decode cX8_isCutOff 22 = .ok (.iload_n 3, 1) := by decide +kernel
theorem dX8_isCutOff_23 : decode cX8_isCutOff 23 = .ok (.iaload, 1) := by decide +kernel
theorem dX8_isCutOff_24 : decode cX8_isCutOff 24 = .ok (.ifCond .ne 7, 3) := by decide +kernel
theorem dX8_isCutOff_27 : decode cX8_isCutOff 27 = .ok (.iconst 1, 1) := by decide +kernel
theorem dX8_isCutOff_28 : decode cX8_isCutOff 28 = .ok (.goto 4, 3) := by decide +kernel
theorem dX8_isCutOff_31 : decode cX8_isCutOff 31 = .ok (.iconst 0, 1) := by decide +kernel
theorem dX8_isCutOff_32 : decode cX8_isCutOff 32 = .ok (.istore_n 2, 1) := by decide +kernel
theorem dX8_isCutOff_33 : decode cX8_isCutOff 33 = .ok (.iinc 3 1, 3) := by decide +kernel
theorem dX8_isCutOff_36 : decode cX8_isCutOff 36 = .ok (.goto (-32), 3) := by decide +kernel
theorem dX8_isCutOff_39 : decode cX8_isCutOff 39 = .ok (.iload_n 2, 1) := by decide +kernel
theorem dX8_isCutOff_40 : decode cX8_isCutOff 40 = .ok (.ireturn, 1) := by decide +kernel
theorem dX8_gasping_0 : decode cX8_gasping 0 = .ok (.aload_n 0, 1) := by decide +kernel
theorem dX8_gasping_1 : decode cX8_gasping 1 = .ok (.getfield 69, 3) := by decide +kernel
theorem dX8_gasping_4 : decode cX8_gasping 4 = .ok (.istore_n 1, 1) := by decide +kernel
theorem dX8_gasping_5 : decode cX8_gasping 5 = .ok (.iconst 0, 1) := by decide +kernel
theorem dX8_gasping_6 : decode cX8_gasping 6 = .ok (.istore_n 2, 1) := by decide +kernel
theorem dX8_gasping_7 : decode cX8_gasping 7 = .ok (.iconst 0, 1) := by decide +kernel
theorem dX8_gasping_8 : decode cX8_gasping 8 = .ok (.istore_n 3, 1) := by decide +kernel
theorem dX8_gasping_9 : decode cX8_gasping 9 = .ok (.iload_n 3, 1) := by decide +kernel
theorem dX8_gasping_10 : decode cX8_gasping 10 = .ok (.bipush 6, 2) := by decide +kernel
theorem dX8_gasping_12 : decode cX8_gasping 12 = .ok (.if_icmp .ge 104, 3) := by decide +kernel
theorem dX8_gasping_15 : decode cX8_gasping 15 = .ok (.iconst 0, 1) := by decide +kernel
theorem dX8_gasping_16 : decode cX8_gasping 16 = .ok (.istore 4, 2) := by decide +kernel
theorem dX8_gasping_18 : decode cX8_gasping 18 = .ok (.iload 4, 2) := by decide +kernel
theorem dX8_gasping_20 : decode cX8_gasping 20 = .ok (.aload_n 0, 1) := by decide +kernel
theorem dX8_gasping_21 : decode cX8_gasping 21 = .ok (.getfield 84, 3) := by decide +kernel
theorem dX8_gasping_24 : decode cX8_gasping 24 = .ok (.if_icmp .ge 86, 3) := by decide +kernel
theorem dX8_gasping_27 : decode cX8_gasping 27 = .ok (.aload_n 0, 1) := by decide +kernel
theorem dX8_gasping_28 : decode cX8_gasping 28 = .ok (.getfield 19, 3) := by decide +kernel
theorem dX8_gasping_31 : decode cX8_gasping 31 = .ok (.iload 4, 2) := by decide +kernel
theorem dX8_gasping_33 : decode cX8_gasping 33 = .ok (.iaload, 1) := by decide +kernel
theorem dX8_gasping_34 : decode cX8_gasping 34 = .ok (.iload_n 3, 1) := by decide +kernel
theorem dX8_gasping_35 : decode cX8_gasping 35 = .ok (.if_icmp .ne 69, 3) := by decide +kernel
theorem dX8_gasping_38 : decode cX8_gasping 38 = .ok (.aload_n 0, 1) := by decide +kernel
theorem dX8_gasping_39 : decode cX8_gasping 39 = .ok (.getfield 16, 3) := by decide +kernel
theorem dX8_gasping_42 : decode cX8_gasping 42 = .ok (.iconst 2, 1) := by decide +kernel
theorem dX8_gasping_43 : decode cX8_gasping 43 = .ok (.iload 4, 2) := by decide +kernel
theorem dX8_gasping_45 : decode cX8_gasping 45 = .ok (.imul, 1) := by decide +kernel
theorem dX8_gasping_46 : decode cX8_gasping 46 = .ok (.iaload, 1) := by decide +kernel
theorem dX8_gasping_47 : decode cX8_gasping 47 = .ok (.invokestatic 143, 3) := by decide +kernel
theorem dX8_gasping_50 : decode cX8_gasping 50 = .ok (.istore 5, 2) := by decide +kernel
theorem dX8_gasping_52 : decode cX8_gasping 52 = .ok (.aload_n 0, 1) := by decide +kernel
theorem dX8_gasping_53 : decode cX8_gasping 53 = .ok (.iload 4, 2) := by decide +kernel
theorem dX8_gasping_55 : decode cX8_gasping 55 = .ok (.invokevirtual 146, 3) := by decide +kernel
theorem dX8_gasping_58 : decode cX8_gasping 58 = .ok (.ifCond .ne 9, 3) := by decide +kernel
theorem dX8_gasping_61 : decode cX8_gasping 61 = .ok (.iload 5, 2) := by decide +kernel
theorem dX8_gasping_63 : decode cX8_gasping 63 = .ok (.iload_n 1, 1) := by decide +kernel
theorem dX8_gasping_64 : decode cX8_gasping 64 = .ok (.if_icmp .le 7, 3) := by decide +kernel
theorem dX8_gasping_67 : decode cX8_gasping 67 = .ok (.iconst 1, 1) := by decide +kernel
theorem dX8_gasping_68 : decode cX8_gasping 68 = .ok (.goto 4, 3) := by decide +kernel
theorem dX8_gasping_71 : decode cX8_gasping 71 = .ok (.iconst 0, 1) := by decide +kernel
theorem dX8_gasping_72 : decode cX8_gasping 72 = .ok (.istore 6, 2) := by decide +kernel
theorem dX8_gasping_74 : decode cX8_gasping 74 = .ok (.iload_n 1, 1) := by decide +kernel
theorem dX8_gasping_75 : decode cX8_gasping 75 = .ok (.iload 6, 2) := by decide +kernel
theorem dX8_gasping_77 : decode cX8_gasping 77 = .ok (.ifCond .eq 7, 3) := by decide +kernel
theorem dX8_gasping_80 : decode cX8_gasping 80 = .ok (.iconst 0, 1) := by decide +kernel
theorem dX8_gasping_81 : decode cX8_gasping 81 = .ok (.goto 5, 3) := by decide +kernel
theorem dX8_gasping_84 : decode cX8_gasping 84 = .ok (.iload 5, 2) := by decide +kernel
theorem dX8_gasping_86 : decode cX8_gasping 86 = .ok (.isub, 1) := by decide +kernel
theorem dX8_gasping_87 : decode cX8_gasping 87 = .ok (.istore_n 1, 1) := by decide +kernel
theorem dX8_gasping_88 : decode cX8_gasping 88 = .ok (.iload_n 2, 1) := by decide +kernel
theorem dX8_gasping_89 : decode cX8_gasping 89 = .ok (.iload 6, 2) := by decide +kernel
theorem dX8_gasping_91 : decode cX8_gasping 91 = .ok (.ifCond .eq 10, 3) := by decide +kernel
theorem dX8_gasping_94 : decode cX8_gasping 94 = .ok (.iconst 1, 1) := by decide +kernel
theorem dX8_gasping_95 : decode cX8_gasping 95 = .ok (.iload 4, 2) := by decide +kernel
theorem dX8_gasping_97 : decode cX8_gasping 97 = .ok (.ishl, 1) := by decide +kernel
theorem dX8_gasping_98 : decode cX8_gasping 98 = .ok (.goto 4, 3) := by decide +kernel
theorem dX8_gasping_101 : decode cX8_gasping 101 = .ok (.iconst 0, 1) := by decide +kernel
theorem dX8_gasping_102 : decode cX8_gasping 102 = .ok (.ior, 1) := by decide +kernel
theorem dX8_gasping_103 : decode cX8_gasping 103 = .ok (.istore_n 2, 1) := by decide +kernel
theorem dX8_gasping_104 : decode cX8_gasping 104 = .ok (.iinc 4 1, 3) := by decide +kernel
theorem dX8_gasping_107 : decode cX8_gasping 107 = .ok (.goto (-89), 3) := by decide +kernel
theorem dX8_gasping_110 : decode cX8_gasping 110 = .ok (.iinc 3 1, 3) := by decide +kernel
theorem dX8_gasping_113 : decode cX8_gasping 113 = .ok (.goto (-104), 3) := by decide +kernel
theorem dX8_gasping_116 : decode cX8_gasping 116 = .ok (.iload_n 2, 1) := by decide +kernel
theorem dX8_gasping_117 : decode cX8_gasping 117 = .ok (.ireturn, 1) := by decide +kernel
theorem dX8_tell_0 : decode cX8_tell 0 = .ok (.aload_n 0, 1) := by decide +kernel
theorem dX8_tell_1 : decode cX8_tell 1 = .ok (.invokevirtual 121, 3) := by decide +kernel
theorem dX8_tell_4 : decode cX8_tell 4 = .ok (.iload_n 2, 1) := by decide +kernel
theorem dX8_tell_5 : decode cX8_tell 5 = .ok (.tableswitch 97 0 5 #[39, 39, 50, 62, 74, 88], 39) := by decide +kernel
theorem dX8_tell_44 : decode cX8_tell 44 = .ok (.aload_n 0, 1) := by decide +kernel
theorem dX8_tell_45 : decode cX8_tell 45 = .ok (.getfield 16, 3) := by decide +kernel
theorem dX8_tell_48 : decode cX8_tell 48 = .ok (.iconst 2, 1) := by decide +kernel
theorem dX8_tell_49 : decode cX8_tell 49 = .ok (.iload_n 1, 1) := by decide +kernel
theorem dX8_tell_50 : decode cX8_tell 50 = .ok (.imul, 1) := by decide +kernel
theorem dX8_tell_51 : decode cX8_tell 51 = .ok (.iload_n 2, 1) := by decide +kernel
theorem dX8_tell_52 : decode cX8_tell 52 = .ok (.iadd, 1) := by decide +kernel
theorem dX8_tell_53 : decode cX8_tell 53 = .ok (.iaload, 1) := by decide +kernel
theorem dX8_tell_54 : decode cX8_tell 54 = .ok (.ireturn, 1) := by decide +kernel
theorem dX8_tell_55 : decode cX8_tell 55 = .ok (.aload_n 0, 1) := by decide +kernel
theorem dX8_tell_56 : decode cX8_tell 56 = .ok (.getfield 16, 3) := by decide +kernel
theorem dX8_tell_59 : decode cX8_tell 59 = .ok (.iconst 2, 1) := by decide +kernel
theorem dX8_tell_60 : decode cX8_tell 60 = .ok (.iload_n 1, 1) := by decide +kernel
theorem dX8_tell_61 : decode cX8_tell 61 = .ok (.imul, 1) := by decide +kernel
theorem dX8_tell_62 : decode cX8_tell 62 = .ok (.iaload, 1) := by decide +kernel
theorem dX8_tell_63 : decode cX8_tell 63 = .ok (.invokestatic 106, 3) := by decide +kernel
theorem dX8_tell_66 : decode cX8_tell 66 = .ok (.ireturn, 1) := by decide +kernel
theorem dX8_tell_67 : decode cX8_tell 67 = .ok (.aload_n 0, 1) := by decide +kernel
theorem dX8_tell_68 : decode cX8_tell 68 = .ok (.getfield 16, 3) := by decide +kernel
theorem dX8_tell_71 : decode cX8_tell 71 = .ok (.iconst 2, 1) := by decide +kernel
theorem dX8_tell_72 : decode cX8_tell 72 = .ok (.iload_n 1, 1) := by decide +kernel
theorem dX8_tell_73 : decode cX8_tell 73 = .ok (.imul, 1) := by decide +kernel
theorem dX8_tell_74 : decode cX8_tell 74 = .ok (.iaload, 1) := by decide +kernel
theorem dX8_tell_75 : decode cX8_tell 75 = .ok (.invokestatic 143, 3) := by decide +kernel
theorem dX8_tell_78 : decode cX8_tell 78 = .ok (.ireturn, 1) := by decide +kernel
theorem dX8_tell_79 : decode cX8_tell 79 = .ok (.aload_n 0, 1) := by decide +kernel
theorem dX8_tell_80 : decode cX8_tell 80 = .ok (.iload_n 1, 1) := by decide +kernel
theorem dX8_tell_81 : decode cX8_tell 81 = .ok (.invokevirtual 146, 3) := by decide +kernel
theorem dX8_tell_84 : decode cX8_tell 84 = .ok (.ifCond .eq 7, 3) := by decide +kernel
theorem dX8_tell_87 : decode cX8_tell 87 = .ok (.iconst 1, 1) := by decide +kernel
theorem dX8_tell_88 : decode cX8_tell 88 = .ok (.goto 4, 3) := by decide +kernel
theorem dX8_tell_91 : decode cX8_tell 91 = .ok (.iconst 0, 1) := by decide +kernel
theorem dX8_tell_92 : decode cX8_tell 92 = .ok (.ireturn, 1) := by decide +kernel
theorem dX8_tell_93 : decode cX8_tell 93 = .ok (.aload_n 0, 1) := by decide +kernel
theorem dX8_tell_94 : decode cX8_tell 94 = .ok (.invokevirtual 149, 3) := by decide +kernel
theorem dX8_tell_97 : decode cX8_tell 97 = .ok (.iload_n 1, 1) := by decide +kernel
theorem dX8_tell_98 : decode cX8_tell 98 = .ok (.ishr, 1) := by decide +kernel
theorem dX8_tell_99 : decode cX8_tell 99 = .ok (.iconst 1, 1) := by decide +kernel
theorem dX8_tell_100 : decode cX8_tell 100 = .ok (.iand, 1) := by decide +kernel
theorem dX8_tell_101 : decode cX8_tell 101 = .ok (.ireturn, 1) := by decide +kernel
theorem dX8_tell_102 : decode cX8_tell 102 = .ok (.bipush (-102), 2) := by decide +kernel
theorem dX8_tell_104 : decode cX8_tell 104 = .ok (.ireturn, 1) := by decide +kernel
theorem dX8_about_0 : decode cX8_about 0 = .ok (.aload_n 0, 1) := by decide +kernel
theorem dX8_about_1 : decode cX8_about 1 = .ok (.iload_n 1, 1) := by decide +kernel
theorem dX8_about_2 : decode cX8_about 2 = .ok (.invokevirtual 152, 3) := by decide +kernel
theorem dX8_about_5 : decode cX8_about 5 = .ok (.ifCond .eq 12, 3) := by decide +kernel
theorem dX8_about_8 : decode cX8_about 8 = .ok (.aload_n 0, 1) := by decide +kernel
theorem dX8_about_9 : decode cX8_about 9 = .ok (.iload_n 1, 1) := by decide +kernel
theorem dX8_about_10 : decode cX8_about 10 = .ok (.iload_n 2, 1) := by decide +kernel
theorem dX8_about_11 : decode cX8_about 11 = .ok (.invokevirtual 155, 3) := by decide +kernel
theorem dX8_about_14 : decode cX8_about 14 = .ok (.goto 5, 3) := by decide +kernel
theorem dX8_about_17 : decode cX8_about 17 = .ok (.bipush (-101), 2) := by decide +kernel
theorem dX8_about_19 : decode cX8_about 19 = .ok (.ireturn, 1) := by decide +kernel
theorem dX8_as_0 : decode cX8_as 0 = .ok (.aload_n 0, 1) := by decide +kernel
theorem dX8_as_1 : decode cX8_as 1 = .ok (.iload_n 1, 1) := by decide +kernel
theorem dX8_as_2 : decode cX8_as 2 = .ok (.invokevirtual 152, 3) := by decide +kernel
theorem dX8_as_5 : decode cX8_as 5 = .ok (.ifCond .ne 6, 3) := by decide +kernel
theorem dX8_as_8 : decode cX8_as 8 = .ok (.bipush (-101), 2) := by decide +kernel
theorem dX8_as_10 : decode cX8_as 10 = .ok (.ireturn, 1) := by decide +kernel
theorem dX8_as_11 : decode cX8_as 11 = .ok (.iload_n 2, 1) := by decide +kernel
theorem dX8_as_12 : decode cX8_as 12 = .ok (.i2l, 1) := by decide +kernel
theorem dX8_as_13 : decode cX8_as 13 = .ok (.lconst 0, 1) := by decide +kernel
theorem dX8_as_14 : decode cX8_as 14 = .ok (.ldc2_w 141, 3) := by decide +kernel
theorem dX8_as_17 : decode cX8_as 17 = .ok (.invokestatic 52, 3) := by decide +kernel
theorem dX8_as_20 : decode cX8_as 20 = .ok (.ifCond .ne 6, 3) := by decide +kernel
theorem dX8_as_23 : decode cX8_as 23 = .ok (.bipush (-102), 2) := by decide +kernel
theorem dX8_as_25 : decode cX8_as 25 = .ok (.ireturn, 1) := by decide +kernel
theorem dX8_as_26 : decode cX8_as 26 = .ok (.aload_n 0, 1) := by decide +kernel
theorem dX8_as_27 : decode cX8_as 27 = .ok (.getfield 16, 3) := by decide +kernel
theorem dX8_as_30 : decode cX8_as 30 = .ok (.iconst 2, 1) := by decide +kernel
theorem dX8_as_31 : decode cX8_as 31 = .ok (.iload_n 1, 1) := by decide +kernel
theorem dX8_as_32 : decode cX8_as 32 = .ok (.imul, 1) := by decide +kernel
theorem dX8_as_33 : decode cX8_as 33 = .ok (.iaload, 1) := by decide +kernel
theorem dX8_as_34 : decode cX8_as 34 = .ok (.istore_n 3, 1) := by decide +kernel
theorem dX8_as_35 : decode cX8_as 35 = .ok (.iload_n 2, 1) := by decide +kernel
theorem dX8_as_36 : decode cX8_as 36 = .ok (.ifCond .eq 18, 3) := by decide +kernel
theorem dX8_as_39 : decode cX8_as 39 = .ok (.iload_n 2, 1) := by decide +kernel
theorem dX8_as_40 : decode cX8_as 40 = .ok (.iload_n 3, 1) := by decide +kernel
theorem dX8_as_41 : decode cX8_as 41 = .ok (.if_icmp .eq 13, 3) := by decide +kernel
theorem dX8_as_44 : decode cX8_as 44 = .ok (.iload_n 2, 1) := by decide +kernel
theorem dX8_as_45 : decode cX8_as 45 = .ok (.iconst 1, 1) := by decide +kernel
theorem dX8_as_46 : decode cX8_as 46 = .ok (.if_icmp .ne 12, 3) := by decide +kernel
theorem dX8_as_49 : decode cX8_as 49 = .ok (.iload_n 3, 1) := by decide +kernel
theorem dX8_as_50 : decode cX8_as 50 = .ok (.iconst 4, 1) := by decide +kernel
theorem dX8_as_51 : decode cX8_as 51 = .ok (.if_icmp .ne 7, 3) := by decide +kernel
theorem dX8_as_54 : decode cX8_as 54 = .ok (.iconst 1, 1) := by decide +kernel
theorem dX8_as_55 : decode cX8_as 55 = .ok (.goto 4, 3) := by decide +kernel
theorem dX8_as_58 : decode cX8_as 58 = .ok (.iconst 0, 1) := by decide +kernel
theorem dX8_as_59 : decode cX8_as 59 = .ok (.istore 4, 2) := by decide +kernel
theorem dX8_as_61 : decode cX8_as 61 = .ok (.iload 4, 2) := by decide +kernel
theorem dX8_as_63 : decode cX8_as 63 = .ok (.ifCond .eq 7, 3) := by decide +kernel
theorem dX8_as_66 : decode cX8_as 66 = .ok (.iload_n 1, 1) := by decide +kernel
theorem dX8_as_67 : decode cX8_as 67 = .ok (.goto 4, 3) := by decide +kernel
theorem dX8_as_70 : decode cX8_as 70 = .ok (.iconst (-1), 1) := by decide +kernel
theorem dX8_as_71 : decode cX8_as 71 = .ok (.ireturn, 1) := by decide +kernel
theorem dX8_move_0 : decode cX8_move 0 = .ok (.aload_n 0, 1) := by decide +kernel
theorem dX8_move_1 : decode cX8_move 1 = .ok (.iload_n 1, 1) := by decide +kernel
theorem dX8_move_2 : decode cX8_move 2 = .ok (.invokevirtual 152, 3) := by decide +kernel
theorem dX8_move_5 : decode cX8_move 5 = .ok (.ifCond .eq 11, 3) := by decide +kernel
theorem dX8_move_8 : decode cX8_move 8 = .ok (.aload_n 0, 1) := by decide +kernel
theorem dX8_move_9 : decode cX8_move 9 = .ok (.iload_n 2, 1) := by decide +kernel
theorem dX8_move_10 : decode cX8_move 10 = .ok (.invokevirtual 133, 3) := by decide +kernel
theorem dX8_move_13 : decode cX8_move 13 = .ok (.ifCond .ne 6, 3) := by decide +kernel
theorem dX8_move_16 : decode cX8_move 16 = .ok (.bipush (-101), 2) := by decide +kernel
theorem dX8_move_18 : decode cX8_move 18 = .ok (.ireturn, 1) := by decide +kernel
theorem dX8_move_19 : decode cX8_move 19 = .ok (.aload_n 0, 1) := by decide +kernel
theorem dX8_move_20 : decode cX8_move 20 = .ok (.invokevirtual 121, 3) := by decide +kernel
theorem dX8_move_23 : decode cX8_move 23 = .ok (.aload_n 0, 1) := by decide +kernel
theorem dX8_move_24 : decode cX8_move 24 = .ok (.getfield 13, 3) := by decide +kernel
theorem dX8_move_27 : decode cX8_move 27 = .ok (.iload_n 2, 1) := by decide +kernel
theorem dX8_move_28 : decode cX8_move 28 = .ok (.iaload, 1) := by decide +kernel
theorem dX8_move_29 : decode cX8_move 29 = .ok (.ifCond .eq 11, 3) := by decide +kernel
theorem dX8_move_32 : decode cX8_move 32 = .ok (.aload_n 0, 1) := by decide +kernel
theorem dX8_move_33 : decode cX8_move 33 = .ok (.iload_n 1, 1) := by decide +kernel
theorem dX8_move_34 : decode cX8_move 34 = .ok (.invokevirtual 146, 3) := by decide +kernel
theorem dX8_move_37 : decode cX8_move 37 = .ok (.ifCond .eq 6, 3) := by decide +kernel
theorem dX8_move_40 : decode cX8_move 40 = .ok (.bipush (-103), 2) := by decide +kernel
theorem dX8_move_42 : decode cX8_move 42 = .ok (.ireturn, 1) := by decide +kernel
theorem dX8_move_43 : decode cX8_move 43 = .ok (.aload_n 0, 1) := by decide +kernel
theorem dX8_move_44 : decode cX8_move 44 = .ok (.getfield 16, 3) := by decide +kernel
theorem dX8_move_47 : decode cX8_move 47 = .ok (.iconst 2, 1) := by decide +kernel
theorem dX8_move_48 : decode cX8_move 48 = .ok (.iload_n 1, 1) := by decide +kernel
theorem dX8_move_49 : decode cX8_move 49 = .ok (.imul, 1) := by decide +kernel
theorem dX8_move_50 : decode cX8_move 50 = .ok (.iconst 1, 1) := by decide +kernel
theorem dX8_move_51 : decode cX8_move 51 = .ok (.iadd, 1) := by decide +kernel
theorem dX8_move_52 : decode cX8_move 52 = .ok (.iload_n 2, 1) := by decide +kernel
theorem dX8_move_53 : decode cX8_move 53 = .ok (.iastore, 1) := by decide +kernel
theorem dX8_move_54 : decode cX8_move 54 = .ok (.aload_n 0, 1) := by decide +kernel
theorem dX8_move_55 : decode cX8_move 55 = .ok (.getfield 19, 3) := by decide +kernel
theorem dX8_move_58 : decode cX8_move 58 = .ok (.iload_n 1, 1) := by decide +kernel
theorem dX8_move_59 : decode cX8_move 59 = .ok (.iaload, 1) := by decide +kernel
theorem dX8_move_60 : decode cX8_move 60 = .ok (.ireturn, 1) := by decide +kernel
theorem dX8_day_0 : decode cX8_day 0 = .ok (.aload_n 0, 1) := by decide +kernel
theorem dX8_day_1 : decode cX8_day 1 = .ok (.invokevirtual 96, 3) := by decide +kernel
theorem dX8_day_4 : decode cX8_day 4 = .ok (.ifCond .eq 6, 3) := by decide +kernel
theorem dX8_day_7 : decode cX8_day 7 = .ok (.bipush (-103), 2) := by decide +kernel
theorem dX8_day_9 : decode cX8_day 9 = .ok (.ireturn, 1) := by decide +kernel
theorem dX8_day_10 : decode cX8_day 10 = .ok (.aload_n 0, 1) := by decide +kernel
theorem dX8_day_11 : decode cX8_day 11 = .ok (.invokevirtual 121, 3) := by decide +kernel
theorem dX8_day_14 : decode cX8_day 14 = .ok (.aload_n 0, 1) := by decide +kernel
theorem dX8_day_15 : decode cX8_day 15 = .ok (.invokevirtual 158, 3) := by decide +kernel
theorem dX8_day_18 : decode cX8_day 18 = .ok (.istore_n 1, 1) := by decide +kernel
theorem dX8_day_19 : decode cX8_day 19 = .ok (.aload_n 0, 1) := by decide +kernel
theorem dX8_day_20 : decode cX8_day 20 = .ok (.getfield 22, 3) := by decide +kernel
theorem dX8_day_23 : decode cX8_day 23 = .ok (.aload_n 0, 1) := by decide +kernel
theorem dX8_day_24 : decode cX8_day 24 = .ok (.getfield 13, 3) := by decide +kernel
theorem dX8_day_27 : decode cX8_day 27 = .ok (.invokestatic 102, 3) := by decide +kernel
theorem dX8_day_30 : decode cX8_day 30 = .ok (.aload_n 0, 1) := by decide +kernel
theorem dX8_day_31 : decode cX8_day 31 = .ok (.dup, 1) := by decide +kernel
theorem dX8_day_32 : decode cX8_day 32 = .ok (.getfield 75, 3) := by decide +kernel
theorem dX8_day_35 : decode cX8_day 35 = .ok (.iconst 1, 1) := by decide +kernel
theorem dX8_day_36 : decode cX8_day 36 = .ok (.iadd, 1) := by decide +kernel
theorem dX8_day_37 : decode cX8_day 37 = .ok (.putfield 75, 3) := by decide +kernel
theorem dX8_day_40 : decode cX8_day 40 = .ok (.aload_n 0, 1) := by decide +kernel
theorem dX8_day_41 : decode cX8_day 41 = .ok (.dup, 1) := by decide +kernel
theorem dX8_day_42 : decode cX8_day 42 = .ok (.getfield 78, 3) := by decide +kernel
theorem dX8_day_45 : decode cX8_day 45 = .ok (.iload_n 1, 1) := by decide +kernel
theorem dX8_day_46 : decode cX8_day 46 = .ok (.iadd, 1) := by decide +kernel
theorem dX8_day_47 : decode cX8_day 47 = .ok (.putfield 78, 3) := by decide +kernel
theorem dX8_day_50 : decode cX8_day 50 = .ok (.iload_n 1, 1) := by decide +kernel
theorem dX8_day_51 : decode cX8_day 51 = .ok (.ireturn, 1) := by decide +kernel
theorem dX8_holdsThen_0 : decode cX8_holdsThen 0 = .ok (.iconst 1, 1) := by decide +kernel
theorem dX8_holdsThen_1 : decode cX8_holdsThen 1 = .ok (.istore_n 1, 1) := by decide +kernel
theorem dX8_holdsThen_2 : decode cX8_holdsThen 2 = .ok (.iload_n 1, 1) := by decide +kernel
theorem dX8_holdsThen_3 : decode cX8_holdsThen 3 = .ok (.bipush 41, 2) := by decide +kernel
theorem dX8_holdsThen_5 : decode cX8_holdsThen 5 = .ok (.if_icmp .ge 16, 3) := by decide +kernel
theorem dX8_holdsThen_8 : decode cX8_holdsThen 8 = .ok (.aload_n 0, 1) := by decide +kernel
theorem dX8_holdsThen_9 : decode cX8_holdsThen 9 = .ok (.invokevirtual 158, 3) := by decide +kernel
theorem dX8_holdsThen_12 : decode cX8_holdsThen 12 = .ok (.ifCond .ne 9, 3) := by decide +kernel
theorem dX8_holdsThen_15 : decode cX8_holdsThen 15 = .ok (.iinc 1 1, 3) := by decide +kernel
theorem dX8_holdsThen_18 : decode cX8_holdsThen 18 = .ok (.goto (-16), 3) := by decide +kernel
theorem dX8_holdsThen_21 : decode cX8_holdsThen 21 = .ok (.iload_n 1, 1) := by decide +kernel
theorem dX8_holdsThen_22 : decode cX8_holdsThen 22 = .ok (.ireturn, 1) := by decide +kernel
theorem dX8_holdsOf_0 : decode cX8_holdsOf 0 = .ok (.aload_n 0, 1) := by decide +kernel
theorem dX8_holdsOf_1 : decode cX8_holdsOf 1 = .ok (.invokevirtual 121, 3) := by decide +kernel
theorem dX8_holdsOf_4 : decode cX8_holdsOf 4 = .ok (.aload_n 0, 1) := by decide +kernel
theorem dX8_holdsOf_5 : decode cX8_holdsOf 5 = .ok (.invokevirtual 161, 3) := by decide +kernel
theorem dX8_holdsOf_8 : decode cX8_holdsOf 8 = .ok (.istore_n 1, 1) := by decide +kernel
theorem dX8_holdsOf_9 : decode cX8_holdsOf 9 = .ok (.iload_n 1, 1) := by decide +kernel
theorem dX8_holdsOf_10 : decode cX8_holdsOf 10 = .ok (.bipush 41, 2) := by decide +kernel
theorem dX8_holdsOf_12 : decode cX8_holdsOf 12 = .ok (.if_icmp .ne 7, 3) := by decide +kernel
theorem dX8_holdsOf_15 : decode cX8_holdsOf 15 = .ok (.iconst (-1), 1) := by decide +kernel
theorem dX8_holdsOf_16 : decode cX8_holdsOf 16 = .ok (.goto 4, 3) := by decide +kernel
theorem dX8_holdsOf_19 : decode cX8_holdsOf 19 = .ok (.iload_n 1, 1) := by decide +kernel
theorem dX8_holdsOf_20 : decode cX8_holdsOf 20 = .ok (.ireturn, 1) := by decide +kernel
theorem dX8_holds_0 : decode cX8_holds 0 = .ok (.aload_n 0, 1) := by decide +kernel
theorem dX8_holds_1 : decode cX8_holds 1 = .ok (.invokevirtual 96, 3) := by decide +kernel
theorem dX8_holds_4 : decode cX8_holds 4 = .ok (.ifCond .eq 8, 3) := by decide +kernel
theorem dX8_holds_7 : decode cX8_holds 7 = .ok (.bipush (-103), 2) := by decide +kernel
theorem dX8_holds_9 : decode cX8_holds 9 = .ok (.goto 7, 3) := by decide +kernel
theorem dX8_holds_12 : decode cX8_holds 12 = .ok (.aload_n 0, 1) := by decide +kernel
theorem dX8_holds_13 : decode cX8_holds 13 = .ok (.invokevirtual 164, 3) := by decide +kernel
theorem dX8_holds_16 : decode cX8_holds 16 = .ok (.ireturn, 1) := by decide +kernel
theorem dX8_layWhere_0 : decode cX8_layWhere 0 = .ok (.iconst 1, 1) := by decide +kernel
theorem dX8_layWhere_1 : decode cX8_layWhere 1 = .ok (.istore_n 1, 1) := by decide +kernel
theorem dX8_layWhere_2 : decode cX8_layWhere 2 = .ok (.iconst 0, 1) := by decide +kernel
theorem dX8_layWhere_3 : decode cX8_layWhere 3 = .ok (.istore_n 2, 1) := by decide +kernel
theorem dX8_layWhere_4 : decode cX8_layWhere 4 = .ok (.iload_n 2, 1) := by decide +kernel
theorem dX8_layWhere_5 : decode cX8_layWhere 5 = .ok (.aload_n 0, 1) := by decide +kernel
theorem dX8_layWhere_6 : decode cX8_layWhere 6 = .ok (.getfield 84, 3) := by decide +kernel
theorem dX8_layWhere_9 : decode cX8_layWhere 9 = .ok (.if_icmp .ge 14, 3) := by decide +kernel
theorem dX8_layWhere_12 : decode cX8_layWhere 12 = .ok (.iload_n 1, 1) := by decide +kernel
theorem dX8_layWhere_13 : decode cX8_layWhere 13 = .ok (.bipush 6, 2) := by decide +kernel
theorem dX8_layWhere_15 : decode cX8_layWhere 15 = .ok (.imul, 1) := by decide +kernel
theorem dX8_layWhere_16 : decode cX8_layWhere 16 = .ok (.istore_n 1, 1) := by decide +kernel
theorem dX8_layWhere_17 : decode cX8_layWhere 17 = .ok (.iinc 2 1, 3) := by decide +kernel
theorem dX8_layWhere_20 : decode cX8_layWhere 20 = .ok (.goto (-16), 3) := by decide +kernel
theorem dX8_layWhere_23 : decode cX8_layWhere 23 = .ok (.iconst (-1), 1) := by decide +kernel
theorem dX8_layWhere_24 : decode cX8_layWhere 24 = .ok (.istore_n 2, 1) := by decide +kernel
theorem dX8_layWhere_25 : decode cX8_layWhere 25 = .ok (.iconst 0, 1) := by decide +kernel
theorem dX8_layWhere_26 : decode cX8_layWhere 26 = .ok (.istore_n 3, 1) := by decide +kernel
theorem dX8_layWhere_27 : decode cX8_layWhere 27 = .ok (.iload_n 3, 1) := by decide +kernel
theorem dX8_layWhere_28 : decode cX8_layWhere 28 = .ok (.iload_n 1, 1) := by decide +kernel
theorem dX8_layWhere_29 : decode cX8_layWhere 29 = .ok (.if_icmp .ge 150, 3) := by decide +kernel
theorem dX8_layWhere_32 : decode cX8_layWhere 32 = .ok (.aload_n 0, 1) := by decide +kernel
theorem dX8_layWhere_33 : decode cX8_layWhere 33 = .ok (.invokevirtual 121, 3) := by decide +kernel
theorem dX8_layWhere_36 : decode cX8_layWhere 36 = .ok (.iload_n 3, 1) := by decide +kernel
theorem dX8_layWhere_37 : decode cX8_layWhere 37 = .ok (.istore 4, 2) := by decide +kernel
theorem dX8_layWhere_39 : decode cX8_layWhere 39 = .ok (.iconst 1, 1) := by decide +kernel
theorem dX8_layWhere_40 : decode cX8_layWhere 40 = .ok (.istore 5, 2) := by decide +kernel
theorem dX8_layWhere_42 : decode cX8_layWhere 42 = .ok (.aload_n 0, 1) := by decide +kernel
theorem dX8_layWhere_43 : decode cX8_layWhere 43 = .ok (.getfield 84, 3) := by decide +kernel
theorem dX8_layWhere_46 : decode cX8_layWhere 46 = .ok (.iconst 1, 1) := by decide +kernel
theorem dX8_layWhere_47 : decode cX8_layWhere 47 = .ok (.isub, 1) := by decide +kernel
theorem dX8_layWhere_48 : decode cX8_layWhere 48 = .ok (.istore 6, 2) := by decide +kernel
theorem dX8_layWhere_50 : decode cX8_layWhere 50 = .ok (.iload 6, 2) := by decide +kernel
theorem dX8_layWhere_52 : decode cX8_layWhere 52 = .ok (.ifCond .lt 55, 3) := by decide +kernel
theorem dX8_layWhere_55 : decode cX8_layWhere 55 = .ok (.aload_n 0, 1) := by decide +kernel
theorem dX8_layWhere_56 : decode cX8_layWhere 56 = .ok (.getfield 19, 3) := by decide +kernel
theorem dX8_layWhere_59 : decode cX8_layWhere 59 = .ok (.iload 6, 2) := by decide +kernel
theorem dX8_layWhere_61 : decode cX8_layWhere 61 = .ok (.iload 4, 2) := by decide +kernel
theorem dX8_layWhere_63 : decode cX8_layWhere 63 = .ok (.bipush 6, 2) := by decide +kernel
theorem dX8_layWhere_65 : decode cX8_layWhere 65 = .ok (.irem, 1) := by decide +kernel
theorem dX8_layWhere_66 : decode cX8_layWhere 66 = .ok (.iastore, 1) := by decide +kernel
theorem dX8_layWhere_67 : decode cX8_layWhere 67 = .ok (.iload 4, 2) := by decide +kernel
theorem dX8_layWhere_69 : decode cX8_layWhere 69 = .ok (.bipush 6, 2) := by decide +kernel
theorem dX8_layWhere_71 : decode cX8_layWhere 71 = .ok (.idiv, 1) := by decide +kernel
theorem dX8_layWhere_72 : decode cX8_layWhere 72 = .ok (.istore 4, 2) := by decide +kernel
theorem dX8_layWhere_74 : decode cX8_layWhere 74 = .ok (.iload 5, 2) := by decide +kernel
theorem dX8_layWhere_76 : decode cX8_layWhere 76 = .ok (.ifCond .eq 22, 3) := by decide +kernel
theorem dX8_layWhere_79 : decode cX8_layWhere 79 = .ok (.aload_n 0, 1) := by decide +kernel
theorem dX8_layWhere_80 : decode cX8_layWhere 80 = .ok (.getfield 13, 3) := by decide +kernel
theorem dX8_layWhere_83 : decode cX8_layWhere 83 = .ok (.aload_n 0, 1) := by decide +kernel
theorem dX8_layWhere_84 : decode cX8_layWhere 84 = .ok (.getfield 19, 3) := by decide +kernel
theorem dX8_layWhere_87 : decode cX8_layWhere 87 = .ok (.iload 6, 2) := by decide +kernel
theorem dX8_layWhere_89 : decode cX8_layWhere 89 = .ok (.iaload, 1) := by decide +kernel
theorem dX8_layWhere_90 : decode cX8_layWhere 90 = .ok (.iaload, 1) := by decide +kernel
theorem dX8_layWhere_91 : decode cX8_layWhere 91 = .ok (.ifCond .le 7, 3) := by decide +kernel
theorem dX8_layWhere_94 : decode cX8_layWhere 94 = .ok (.iconst 1, 1) := by decide +kernel
theorem dX8_layWhere_95 : decode cX8_layWhere 95 = .ok (.goto 4, 3) := by decide +kernel
theorem dX8_layWhere_98 : decode cX8_layWhere 98 = .ok (.iconst 0, 1) := by decide +kernel
theorem dX8_layWhere_99 : decode cX8_layWhere 99 = .ok (.istore 5, 2) := by decide +kernel
theorem dX8_layWhere_101 : decode cX8_layWhere 101 = .ok (.iinc 6 (-1), 3) := by decide +kernel
theorem dX8_layWhere_104 : decode cX8_layWhere 104 = .ok (.goto (-54), 3) := by decide +kernel
theorem dX8_layWhere_107 : decode cX8_layWhere 107 = .ok (.iload 5, 2) := by decide +kernel
theorem dX8_layWhere_109 : decode cX8_layWhere 109 = .ok (.ifCond .eq 10, 3) := by decide +kernel
theorem dX8_layWhere_112 : decode cX8_layWhere 112 = .ok (.aload_n 0, 1) := by decide +kernel
theorem dX8_layWhere_113 : decode cX8_layWhere 113 = .ok (.invokevirtual 161, 3) := by decide +kernel
theorem dX8_layWhere_116 : decode cX8_layWhere 116 = .ok (.goto 4, 3) := by decide +kernel
theorem dX8_layWhere_119 : decode cX8_layWhere 119 = .ok (.iconst (-1), 1) := by decide +kernel
theorem dX8_layWhere_120 : decode cX8_layWhere 120 = .ok (.istore 6, 2) := by decide +kernel
theorem dX8_layWhere_122 : decode cX8_layWhere 122 = .ok (.iload 6, 2) := by decide +kernel
theorem dX8_layWhere_124 : decode cX8_layWhere 124 = .ok (.iload_n 2, 1) := by decide +kernel
theorem dX8_layWhere_125 : decode cX8_layWhere 125 = .ok (.if_icmp .le 48, 3) := by decide +kernel
theorem dX8_layWhere_128 : decode cX8_layWhere 128 = .ok (.iload 6, 2) := by decide +kernel
theorem dX8_layWhere_130 : decode cX8_layWhere 130 = .ok (.istore_n 2, 1) := by decide +kernel
theorem dX8_layWhere_131 : decode cX8_layWhere 131 = .ok (.iconst 0, 1) := by decide +kernel
theorem dX8_layWhere_132 : decode cX8_layWhere 132 = .ok (.istore 7, 2) := by decide +kernel
theorem dX8_layWhere_134 : decode cX8_layWhere 134 = .ok (.iload 7, 2) := by decide +kernel
theorem dX8_layWhere_136 : decode cX8_layWhere 136 = .ok (.aload_n 0, 1) := by decide +kernel
theorem dX8_layWhere_137 : decode cX8_layWhere 137 = .ok (.getfield 84, 3) := by decide +kernel
theorem dX8_layWhere_140 : decode cX8_layWhere 140 = .ok (.if_icmp .ge 33, 3) := by decide +kernel
theorem dX8_layWhere_143 : decode cX8_layWhere 143 = .ok (.aload_n 0, 1) := by decide +kernel
theorem dX8_layWhere_144 : decode cX8_layWhere 144 = .ok (.getfield 28, 3) := by decide +kernel
theorem dX8_layWhere_147 : decode cX8_layWhere 147 = .ok (.iload 7, 2) := by decide +kernel
theorem dX8_layWhere_149 : decode cX8_layWhere 149 = .ok (.iload_n 3, 1) := by decide +kernel
theorem dX8_layWhere_150 : decode cX8_layWhere 150 = .ok (.aload_n 0, 1) := by decide +kernel
theorem dX8_layWhere_151 : decode cX8_layWhere 151 = .ok (.getfield 84, 3) := by decide +kernel
theorem dX8_layWhere_154 : decode cX8_layWhere 154 = .ok (.iconst 1, 1) := by decide +kernel
theorem dX8_layWhere_155 : decode cX8_layWhere 155 = .ok (.isub, 1) := by decide +kernel
theorem dX8_layWhere_156 : decode cX8_layWhere 156 = .ok (.iload 7, 2) := by decide +kernel
theorem dX8_layWhere_158 : decode cX8_layWhere 158 = .ok (.isub, 1) := by decide +kernel
theorem dX8_layWhere_159 : decode cX8_layWhere 159 = .ok (.invokestatic 167, 3) := by decide +kernel
theorem dX8_layWhere_162 : decode cX8_layWhere 162 = .ok (.idiv, 1) := by decide +kernel
theorem dX8_layWhere_163 : decode cX8_layWhere 163 = .ok (.bipush 6, 2) := by decide +kernel
theorem dX8_layWhere_165 : decode cX8_layWhere 165 = .ok (.irem, 1) := by decide +kernel
theorem dX8_layWhere_166 : decode cX8_layWhere 166 = .ok (.iastore, 1) := by decide +kernel
theorem dX8_layWhere_167 : decode cX8_layWhere 167 = .ok (.iinc 7 1, 3) := by decide +kernel
theorem dX8_layWhere_170 : decode cX8_layWhere 170 = .ok (.goto (-36), 3) := by decide +kernel
theorem dX8_layWhere_173 : decode cX8_layWhere 173 = .ok (.iinc 3 1, 3) := by decide +kernel
theorem dX8_layWhere_176 : decode cX8_layWhere 176 = .ok (.goto (-149), 3) := by decide +kernel
theorem dX8_layWhere_179 : decode cX8_layWhere 179 = .ok (.iload_n 2, 1) := by decide +kernel
theorem dX8_layWhere_180 : decode cX8_layWhere 180 = .ok (.ireturn, 1) := by decide +kernel
theorem dX8_power_0 : decode cX8_power 0 = .ok (.iconst 1, 1) := by decide +kernel
theorem dX8_power_1 : decode cX8_power 1 = .ok (.istore_n 1, 1) := by decide +kernel
theorem dX8_power_2 : decode cX8_power 2 = .ok (.iconst 0, 1) := by decide +kernel
theorem dX8_power_3 : decode cX8_power 3 = .ok (.istore_n 2, 1) := by decide +kernel
theorem dX8_power_4 : decode cX8_power 4 = .ok (.iload_n 2, 1) := by decide +kernel
theorem dX8_power_5 : decode cX8_power 5 = .ok (.iload_n 0, 1) := by decide +kernel
theorem dX8_power_6 : decode cX8_power 6 = .ok (.if_icmp .ge 14, 3) := by decide +kernel
theorem dX8_power_9 : decode cX8_power 9 = .ok (.iload_n 1, 1) := by decide +kernel
theorem dX8_power_10 : decode cX8_power 10 = .ok (.bipush 6, 2) := by decide +kernel
theorem dX8_power_12 : decode cX8_power 12 = .ok (.imul, 1) := by decide +kernel
theorem dX8_power_13 : decode cX8_power 13 = .ok (.istore_n 1, 1) := by decide +kernel
theorem dX8_power_14 : decode cX8_power 14 = .ok (.iinc 2 1, 3) := by decide +kernel
theorem dX8_power_17 : decode cX8_power 17 = .ok (.goto (-13), 3) := by decide +kernel
theorem dX8_power_20 : decode cX8_power 20 = .ok (.iload_n 1, 1) := by decide +kernel
theorem dX8_power_21 : decode cX8_power 21 = .ok (.ireturn, 1) := by decide +kernel
theorem dX8_where_0 : decode cX8_where 0 = .ok (.iload_n 1, 1) := by decide +kernel
theorem dX8_where_1 : decode cX8_where 1 = .ok (.ifCond .eq 20, 3) := by decide +kernel
theorem dX8_where_4 : decode cX8_where 4 = .ok (.iload_n 1, 1) := by decide +kernel
theorem dX8_where_5 : decode cX8_where 5 = .ok (.i2l, 1) := by decide +kernel
theorem dX8_where_6 : decode cX8_where 6 = .ok (.ldc2_w 170, 3) := by decide +kernel
theorem dX8_where_9 : decode cX8_where 9 = .ok (.ldc2_w 172, 3) := by decide +kernel
theorem dX8_where_12 : decode cX8_where 12 = .ok (.invokestatic 52, 3) := by decide +kernel
theorem dX8_where_15 : decode cX8_where 15 = .ok (.ifCond .ne 6, 3) := by decide +kernel
theorem dX8_where_18 : decode cX8_where 18 = .ok (.bipush (-102), 2) := by decide +kernel
theorem dX8_where_20 : decode cX8_where 20 = .ok (.ireturn, 1) := by decide +kernel
theorem dX8_where_21 : decode cX8_where 21 = .ok (.aload_n 0, 1) := by decide +kernel
theorem dX8_where_22 : decode cX8_where 22 = .ok (.invokevirtual 96, 3) := by decide +kernel
theorem dX8_where_25 : decode cX8_where 25 = .ok (.ifCond .ne 12, 3) := by decide +kernel
theorem dX8_where_28 : decode cX8_where 28 = .ok (.aload_n 0, 1) := by decide +kernel
theorem dX8_where_29 : decode cX8_where 29 = .ok (.getfield 174, 3) := by decide +kernel
theorem dX8_where_32 : decode cX8_where 32 = .ok (.bipush 12, 2) := by decide +kernel
theorem dX8_where_34 : decode cX8_where 34 = .ok (.if_icmp .ne 6, 3) := by decide +kernel
theorem dX8_where_37 : decode cX8_where 37 = .ok (.bipush (-103), 2) := by decide +kernel
theorem dX8_where_39 : decode cX8_where 39 = .ok (.ireturn, 1) := by decide +kernel
theorem dX8_where_40 : decode cX8_where 40 = .ok (.aload_n 0, 1) := by decide +kernel
theorem dX8_where_41 : decode cX8_where 41 = .ok (.dup, 1) := by decide +kernel
theorem dX8_where_42 : decode cX8_where 42 = .ok (.getfield 174, 3) := by decide +kernel
theorem dX8_where_45 : decode cX8_where 45 = .ok (.iconst 1, 1) := by decide +kernel
theorem dX8_where_46 : decode cX8_where 46 = .ok (.iadd, 1) := by decide +kernel
theorem dX8_where_47 : decode cX8_where 47 = .ok (.putfield 174, 3) := by decide +kernel
theorem dX8_where_50 : decode cX8_where 50 = .ok (.aload_n 0, 1) := by decide +kernel
theorem dX8_where_51 : decode cX8_where 51 = .ok (.invokevirtual 177, 3) := by decide +kernel
theorem dX8_where_54 : decode cX8_where 54 = .ok (.istore_n 2, 1) := by decide +kernel
theorem dX8_where_55 : decode cX8_where 55 = .ok (.iload_n 1, 1) := by decide +kernel
theorem dX8_where_56 : decode cX8_where 56 = .ok (.ifCond .ne 15, 3) := by decide +kernel
theorem dX8_where_59 : decode cX8_where 59 = .ok (.iload_n 2, 1) := by decide +kernel
theorem dX8_where_60 : decode cX8_where 60 = .ok (.bipush 41, 2) := by decide +kernel
theorem dX8_where_62 : decode cX8_where 62 = .ok (.if_icmp .ne 7, 3) := by decide +kernel
theorem dX8_where_65 : decode cX8_where 65 = .ok (.iconst (-1), 1) := by decide +kernel
theorem dX8_where_66 : decode cX8_where 66 = .ok (.goto 4, 3) := by decide +kernel
theorem dX8_where_69 : decode cX8_where 69 = .ok (.iload_n 2, 1) := by decide +kernel
theorem dX8_where_70 : decode cX8_where 70 = .ok (.ireturn, 1) := by decide +kernel
theorem dX8_where_71 : decode cX8_where 71 = .ok (.iload_n 2, 1) := by decide +kernel
theorem dX8_where_72 : decode cX8_where 72 = .ok (.iconst (-1), 1) := by decide +kernel
theorem dX8_where_73 : decode cX8_where 73 = .ok (.if_icmp .eq 14, 3) := by decide +kernel
theorem dX8_where_76 : decode cX8_where 76 = .ok (.iload_n 1, 1) := by decide +kernel
theorem dX8_where_77 : decode cX8_where 77 = .ok (.bipush 10, 2) := by decide +kernel
theorem dX8_where_79 : decode cX8_where 79 = .ok (.isub, 1) := by decide +kernel
theorem dX8_where_80 : decode cX8_where 80 = .ok (.aload_n 0, 1) := by decide +kernel
theorem dX8_where_81 : decode cX8_where 81 = .ok (.getfield 84, 3) := by decide +kernel
theorem dX8_where_84 : decode cX8_where 84 = .ok (.if_icmp .lt 7, 3) := by decide +kernel
theorem dX8_where_87 : decode cX8_where 87 = .ok (.iconst (-1), 1) := by decide +kernel
theorem dX8_where_88 : decode cX8_where 88 = .ok (.goto 12, 3) := by decide +kernel
theorem dX8_where_91 : decode cX8_where 91 = .ok (.aload_n 0, 1) := by decide +kernel
theorem dX8_where_92 : decode cX8_where 92 = .ok (.getfield 28, 3) := by decide +kernel
theorem dX8_where_95 : decode cX8_where 95 = .ok (.iload_n 1, 1) := by decide +kernel
theorem dX8_where_96 : decode cX8_where 96 = .ok (.bipush 10, 2) := by decide +kernel
theorem dX8_where_98 : decode cX8_where 98 = .ok (.isub, 1) := by decide +kernel
theorem dX8_where_99 : decode cX8_where 99 = .ok (.iaload, 1) := by decide +kernel
theorem dX8_where_100 : decode cX8_where 100 = .ok (.ireturn, 1) := by decide +kernel
theorem dX8_propsIn_0 : decode cX8_propsIn 0 = .ok (.aload_n 0, 1) := by decide +kernel
theorem dX8_propsIn_1 : decode cX8_propsIn 1 = .ok (.invokevirtual 121, 3) := by decide +kernel
theorem dX8_propsIn_4 : decode cX8_propsIn 4 = .ok (.iconst 0, 1) := by decide +kernel
theorem dX8_propsIn_5 : decode cX8_propsIn 5 = .ok (.istore_n 3, 1) := by decide +kernel
theorem dX8_propsIn_6 : decode cX8_propsIn 6 = .ok (.aload_n 0, 1) := by decide +kernel
theorem dX8_propsIn_7 : decode cX8_propsIn 7 = .ok (.getfield 13, 3) := by decide +kernel
theorem dX8_propsIn_10 : decode cX8_propsIn 10 = .ok (.iload_n 1, 1) := by decide +kernel
theorem dX8_propsIn_11 : decode cX8_propsIn 11 = .ok (.iaload, 1) := by decide +kernel
theorem dX8_propsIn_12 : decode cX8_propsIn 12 = .ok (.ifCond .le 33, 3) := by decide +kernel
theorem dX8_propsIn_15 : decode cX8_propsIn 15 = .ok (.aload_n 0, 1) := by decide +kernel
theorem dX8_propsIn_16 : decode cX8_propsIn 16 = .ok (.getfield 13, 3) := by decide +kernel
theorem dX8_propsIn_19 : decode cX8_propsIn 19 = .ok (.iload_n 1, 1) := by decide +kernel
theorem dX8_propsIn_20 : decode cX8_propsIn 20 = .ok (.iaload, 1) := by decide +kernel
theorem dX8_propsIn_21 : decode cX8_propsIn 21 = .ok (.iconst 3, 1) := by decide +kernel
theorem dX8_propsIn_22 : decode cX8_propsIn 22 = .ok (.iload_n 3, 1) := by decide +kernel
theorem dX8_propsIn_23 : decode cX8_propsIn 23 = .ok (.imul, 1) := by decide +kernel
theorem dX8_propsIn_24 : decode cX8_propsIn 24 = .ok (.iadd, 1) := by decide +kernel
theorem dX8_propsIn_25 : decode cX8_propsIn 25 = .ok (.iload_n 2, 1) := by decide +kernel
theorem dX8_propsIn_26 : decode cX8_propsIn 26 = .ok (.aload_n 0, 1) := by decide +kernel
theorem dX8_propsIn_27 : decode cX8_propsIn 27 = .ok (.iload_n 1, 1) := by decide +kernel
theorem dX8_propsIn_28 : decode cX8_propsIn 28 = .ok (.aload_n 0, 1) := by decide +kernel
theorem dX8_propsIn_29 : decode cX8_propsIn 29 = .ok (.getfield 22, 3) := by decide +kernel
theorem dX8_propsIn_32 : decode cX8_propsIn 32 = .ok (.invokevirtual 117, 3) := by decide +kernel
theorem dX8_propsIn_35 : decode cX8_propsIn 35 = .ok (.imul, 1) := by decide +kernel
theorem dX8_propsIn_36 : decode cX8_propsIn 36 = .ok (.if_icmp .gt 9, 3) := by decide +kernel
theorem dX8_propsIn_39 : decode cX8_propsIn 39 = .ok (.iinc 3 1, 3) := by decide +kernel
theorem dX8_propsIn_42 : decode cX8_propsIn 42 = .ok (.goto (-36), 3) := by decide +kernel
theorem dX8_propsIn_45 : decode cX8_propsIn 45 = .ok (.aload_n 0, 1) := by decide +kernel
theorem dX8_propsIn_46 : decode cX8_propsIn 46 = .ok (.getfield 13, 3) := by decide +kernel
theorem dX8_propsIn_49 : decode cX8_propsIn 49 = .ok (.iload_n 1, 1) := by decide +kernel
theorem dX8_propsIn_50 : decode cX8_propsIn 50 = .ok (.iaload, 1) := by decide +kernel
theorem dX8_propsIn_51 : decode cX8_propsIn 51 = .ok (.iconst 3, 1) := by decide +kernel
theorem dX8_propsIn_52 : decode cX8_propsIn 52 = .ok (.iload_n 3, 1) := by decide +kernel
theorem dX8_propsIn_53 : decode cX8_propsIn 53 = .ok (.imul, 1) := by decide +kernel
theorem dX8_propsIn_54 : decode cX8_propsIn 54 = .ok (.iadd, 1) := by decide +kernel
theorem dX8_propsIn_55 : decode cX8_propsIn 55 = .ok (.bipush 20, 2) := by decide +kernel
theorem dX8_propsIn_57 : decode cX8_propsIn 57 = .ok (.if_icmp .le 11, 3) := by decide +kernel
theorem dX8_propsIn_60 : decode cX8_propsIn 60 = .ok (.iload_n 3, 1) := by decide +kernel
theorem dX8_propsIn_61 : decode cX8_propsIn 61 = .ok (.ifCond .le 7, 3) := by decide +kernel
theorem dX8_propsIn_64 : decode cX8_propsIn 64 = .ok (.iconst (-1), 1) := by decide +kernel
theorem dX8_propsIn_65 : decode cX8_propsIn 65 = .ok (.goto 4, 3) := by decide +kernel
theorem dX8_propsIn_68 : decode cX8_propsIn 68 = .ok (.iload_n 3, 1) := by decide +kernel
theorem dX8_propsIn_69 : decode cX8_propsIn 69 = .ok (.ireturn, 1) := by decide +kernel
theorem dX8_propsOf_0 : decode cX8_propsOf 0 = .ok (.iconst 0, 1) := by decide +kernel
theorem dX8_propsOf_1 : decode cX8_propsOf 1 = .ok (.istore_n 3, 1) := by decide +kernel
theorem dX8_propsOf_2 : decode cX8_propsOf 2 = .ok (.iconst 1, 1) := by decide +kernel
theorem dX8_propsOf_3 : decode cX8_propsOf 3 = .ok (.istore 4, 2) := by decide +kernel
theorem dX8_propsOf_5 : decode cX8_propsOf 5 = .ok (.iconst 0, 1) := by decide +kernel
theorem dX8_propsOf_6 : decode cX8_propsOf 6 = .ok (.istore 5, 2) := by decide +kernel
theorem dX8_propsOf_8 : decode cX8_propsOf 8 = .ok (.iload 5, 2) := by decide +kernel
theorem dX8_propsOf_10 : decode cX8_propsOf 10 = .ok (.bipush 6, 2) := by decide +kernel
theorem dX8_propsOf_12 : decode cX8_propsOf 12 = .ok (.if_icmp .ge 41, 3) := by decide +kernel
theorem dX8_propsOf_15 : decode cX8_propsOf 15 = .ok (.aload_n 0, 1) := by decide +kernel
theorem dX8_propsOf_16 : decode cX8_propsOf 16 = .ok (.iload 5, 2) := by decide +kernel
theorem dX8_propsOf_18 : decode cX8_propsOf 18 = .ok (.iload_n 1, 1) := by decide +kernel
theorem dX8_propsOf_19 : decode cX8_propsOf 19 = .ok (.invokevirtual 180, 3) := by decide +kernel
theorem dX8_propsOf_22 : decode cX8_propsOf 22 = .ok (.istore 6, 2) := by decide +kernel
theorem dX8_propsOf_24 : decode cX8_propsOf 24 = .ok (.iload 4, 2) := by decide +kernel
theorem dX8_propsOf_26 : decode cX8_propsOf 26 = .ok (.ifCond .eq 13, 3) := by decide +kernel
theorem dX8_propsOf_29 : decode cX8_propsOf 29 = .ok (.iload 6, 2) := by decide +kernel
theorem dX8_propsOf_31 : decode cX8_propsOf 31 = .ok (.iconst (-1), 1) := by decide +kernel
theorem dX8_propsOf_32 : decode cX8_propsOf 32 = .ok (.if_icmp .eq 7, 3) := by decide +kernel
theorem dX8_propsOf_35 : decode cX8_propsOf 35 = .ok (.iconst 1, 1) := by decide +kernel
theorem dX8_propsOf_36 : decode cX8_propsOf 36 = .ok (.goto 4, 3) := by decide +kernel
theorem dX8_propsOf_39 : decode cX8_propsOf 39 = .ok (.iconst 0, 1) := by decide +kernel
theorem dX8_propsOf_40 : decode cX8_propsOf 40 = .ok (.istore 4, 2) := by decide +kernel
theorem dX8_propsOf_42 : decode cX8_propsOf 42 = .ok (.iload_n 3, 1) := by decide +kernel
theorem dX8_propsOf_43 : decode cX8_propsOf 43 = .ok (.iload 6, 2) := by decide +kernel
theorem dX8_propsOf_45 : decode cX8_propsOf 45 = .ok (.iadd, 1) := by decide +kernel
theorem dX8_propsOf_46 : decode cX8_propsOf 46 = .ok (.istore_n 3, 1) := by decide +kernel
theorem dX8_propsOf_47 : decode cX8_propsOf 47 = .ok (.iinc 5 1, 3) := by decide +kernel
theorem dX8_propsOf_50 : decode cX8_propsOf 50 = .ok (.goto (-42), 3) := by decide +kernel
theorem dX8_propsOf_53 : decode cX8_propsOf 53 = .ok (.iload 4, 2) := by decide +kernel
theorem dX8_propsOf_55 : decode cX8_propsOf 55 = .ok (.ifCond .ne 7, 3) := by decide +kernel
theorem dX8_propsOf_58 : decode cX8_propsOf 58 = .ok (.iconst (-1), 1) := by decide +kernel
theorem dX8_propsOf_59 : decode cX8_propsOf 59 = .ok (.goto 20, 3) := by decide +kernel
theorem dX8_propsOf_62 : decode cX8_propsOf 62 = .ok (.iload_n 2, 1) := by decide +kernel
theorem dX8_propsOf_63 : decode cX8_propsOf 63 = .ok (.ifCond .ne 7, 3) := by decide +kernel
theorem dX8_propsOf_66 : decode cX8_propsOf 66 = .ok (.iload_n 3, 1) := by decide +kernel
theorem dX8_propsOf_67 : decode cX8_propsOf 67 = .ok (.goto 12, 3) := by decide +kernel
theorem dX8_propsOf_70 : decode cX8_propsOf 70 = .ok (.aload_n 0, 1) := by decide +kernel
theorem dX8_propsOf_71 : decode cX8_propsOf 71 = .ok (.iload_n 2, 1) := by decide +kernel
theorem dX8_propsOf_72 : decode cX8_propsOf 72 = .ok (.bipush 10, 2) := by decide +kernel
theorem dX8_propsOf_74 : decode cX8_propsOf 74 = .ok (.isub, 1) := by decide +kernel
theorem dX8_propsOf_75 : decode cX8_propsOf 75 = .ok (.iload_n 1, 1) := by decide +kernel
theorem dX8_propsOf_76 : decode cX8_propsOf 76 = .ok (.invokevirtual 180, 3) := by decide +kernel
theorem dX8_propsOf_79 : decode cX8_propsOf 79 = .ok (.ireturn, 1) := by decide +kernel
theorem dX8_props_0 : decode cX8_props 0 = .ok (.iload_n 1, 1) := by decide +kernel
theorem dX8_props_1 : decode cX8_props 1 = .ok (.i2l, 1) := by decide +kernel
theorem dX8_props_2 : decode cX8_props 2 = .ok (.lconst 1, 1) := by decide +kernel
theorem dX8_props_3 : decode cX8_props 3 = .ok (.ldc2_w 183, 3) := by decide +kernel
theorem dX8_props_6 : decode cX8_props 6 = .ok (.invokestatic 52, 3) := by decide +kernel
theorem dX8_props_9 : decode cX8_props 9 = .ok (.ifCond .eq 21, 3) := by decide +kernel
theorem dX8_props_12 : decode cX8_props 12 = .ok (.iload_n 2, 1) := by decide +kernel
theorem dX8_props_13 : decode cX8_props 13 = .ok (.ifCond .eq 20, 3) := by decide +kernel
theorem dX8_props_16 : decode cX8_props 16 = .ok (.iload_n 2, 1) := by decide +kernel
theorem dX8_props_17 : decode cX8_props 17 = .ok (.i2l, 1) := by decide +kernel
theorem dX8_props_18 : decode cX8_props 18 = .ok (.ldc2_w 170, 3) := by decide +kernel
theorem dX8_props_21 : decode cX8_props 21 = .ok (.ldc2_w 185, 3) := by decide +kernel
theorem dX8_props_24 : decode cX8_props 24 = .ok (.invokestatic 52, 3) := by decide +kernel
theorem dX8_props_27 : decode cX8_props 27 = .ok (.ifCond .ne 6, 3) := by decide +kernel
theorem dX8_props_30 : decode cX8_props 30 = .ok (.bipush (-102), 2) := by decide +kernel
theorem dX8_props_32 : decode cX8_props 32 = .ok (.ireturn, 1) := by decide +kernel
theorem dX8_props_33 : decode cX8_props 33 = .ok (.aload_n 0, 1) := by decide +kernel
theorem dX8_props_34 : decode cX8_props 34 = .ok (.invokevirtual 96, 3) := by decide +kernel
theorem dX8_props_37 : decode cX8_props 37 = .ok (.ifCond .eq 8, 3) := by decide +kernel
theorem dX8_props_40 : decode cX8_props 40 = .ok (.bipush (-103), 2) := by decide +kernel
theorem dX8_props_42 : decode cX8_props 42 = .ok (.goto 9, 3) := by decide +kernel
theorem dX8_props_45 : decode cX8_props 45 = .ok (.aload_n 0, 1) := by decide +kernel
theorem dX8_props_46 : decode cX8_props 46 = .ok (.iload_n 1, 1) := by decide +kernel
theorem dX8_props_47 : decode cX8_props 47 = .ok (.iload_n 2, 1) := by decide +kernel
theorem dX8_props_48 : decode cX8_props 48 = .ok (.invokevirtual 187, 3) := by decide +kernel
theorem dX8_props_51 : decode cX8_props 51 = .ok (.ireturn, 1) := by decide +kernel
theorem dX8_outOf_0 : decode cX8_outOf 0 = .ok (.aload_n 0, 1) := by decide +kernel
theorem dX8_outOf_1 : decode cX8_outOf 1 = .ok (.invokevirtual 121, 3) := by decide +kernel
theorem dX8_outOf_4 : decode cX8_outOf 4 = .ok (.iconst 0, 1) := by decide +kernel
theorem dX8_outOf_5 : decode cX8_outOf 5 = .ok (.istore_n 1, 1) := by decide +kernel
theorem dX8_outOf_6 : decode cX8_outOf 6 = .ok (.iconst 0, 1) := by decide +kernel
theorem dX8_outOf_7 : decode cX8_outOf 7 = .ok (.istore_n 2, 1) := by decide +kernel
theorem dX8_outOf_8 : decode cX8_outOf 8 = .ok (.iload_n 2, 1) := by decide +kernel
theorem dX8_outOf_9 : decode cX8_outOf 9 = .ok (.aload_n 0, 1) := by decide +kernel
theorem dX8_outOf_10 : decode cX8_outOf 10 = .ok (.getfield 84, 3) := by decide +kernel
theorem dX8_outOf_13 : decode cX8_outOf 13 = .ok (.if_icmp .ge 25, 3) := by decide +kernel
theorem dX8_outOf_16 : decode cX8_outOf 16 = .ok (.iload_n 1, 1) := by decide +kernel
theorem dX8_outOf_17 : decode cX8_outOf 17 = .ok (.aload_n 0, 1) := by decide +kernel
theorem dX8_outOf_18 : decode cX8_outOf 18 = .ok (.iload_n 2, 1) := by decide +kernel
theorem dX8_outOf_19 : decode cX8_outOf 19 = .ok (.invokevirtual 146, 3) := by decide +kernel
theorem dX8_outOf_22 : decode cX8_outOf 22 = .ok (.ifCond .eq 7, 3) := by decide +kernel
theorem dX8_outOf_25 : decode cX8_outOf 25 = .ok (.iconst 0, 1) := by decide +kernel
theorem dX8_outOf_26 : decode cX8_outOf 26 = .ok (.goto 4, 3) := by decide +kernel
theorem dX8_outOf_29 : decode cX8_outOf 29 = .ok (.iconst 1, 1) := by decide +kernel
theorem dX8_outOf_30 : decode cX8_outOf 30 = .ok (.iadd, 1) := by decide +kernel
theorem dX8_outOf_31 : decode cX8_outOf 31 = .ok (.istore_n 1, 1) := by decide +kernel
theorem dX8_outOf_32 : decode cX8_outOf 32 = .ok (.iinc 2 1, 3) := by decide +kernel
theorem dX8_outOf_35 : decode cX8_outOf 35 = .ok (.goto (-27), 3) := by decide +kernel
theorem dX8_outOf_38 : decode cX8_outOf 38 = .ok (.iconst 0, 1) := by decide +kernel
theorem dX8_outOf_39 : decode cX8_outOf 39 = .ok (.istore_n 2, 1) := by decide +kernel
theorem dX8_outOf_40 : decode cX8_outOf 40 = .ok (.iconst 0, 1) := by decide +kernel
theorem dX8_outOf_41 : decode cX8_outOf 41 = .ok (.istore_n 3, 1) := by decide +kernel
theorem dX8_outOf_42 : decode cX8_outOf 42 = .ok (.iload_n 1, 1) := by decide +kernel
theorem dX8_outOf_43 : decode cX8_outOf 43 = .ok (.ifCond .le 85, 3) := by decide +kernel
theorem dX8_outOf_46 : decode cX8_outOf 46 = .ok (.iinc 2 1, 3) := by decide +kernel
theorem dX8_outOf_49 : decode cX8_outOf 49 = .ok (.iload_n 3, 1) := by decide +kernel
theorem dX8_outOf_50 : decode cX8_outOf 50 = .ok (.aload_n 0, 1) := by decide +kernel
theorem dX8_outOf_51 : decode cX8_outOf 51 = .ok (.getfield 72, 3) := by decide +kernel
theorem dX8_outOf_54 : decode cX8_outOf 54 = .ok (.if_icmp .ge 7, 3) := by decide +kernel
theorem dX8_outOf_57 : decode cX8_outOf 57 = .ok (.iload_n 3, 1) := by decide +kernel
theorem dX8_outOf_58 : decode cX8_outOf 58 = .ok (.goto 7, 3) := by decide +kernel
theorem dX8_outOf_61 : decode cX8_outOf 61 = .ok (.aload_n 0, 1) := by decide +kernel
theorem dX8_outOf_62 : decode cX8_outOf 62 = .ok (.getfield 72, 3) := by decide +kernel
theorem dX8_outOf_65 : decode cX8_outOf 65 = .ok (.istore 4, 2) := by decide +kernel
theorem dX8_outOf_67 : decode cX8_outOf 67 = .ok (.iload_n 3, 1) := by decide +kernel
theorem dX8_outOf_68 : decode cX8_outOf 68 = .ok (.iload 4, 2) := by decide +kernel
theorem dX8_outOf_70 : decode cX8_outOf 70 = .ok (.isub, 1) := by decide +kernel
theorem dX8_outOf_71 : decode cX8_outOf 71 = .ok (.istore_n 3, 1) := by decide +kernel
theorem dX8_outOf_72 : decode cX8_outOf 72 = .ok (.iload_n 1, 1) := by decide +kernel
theorem dX8_outOf_73 : decode cX8_outOf 73 = .ok (.iload 4, 2) := by decide +kernel
theorem dX8_outOf_75 : decode cX8_outOf 75 = .ok (.isub, 1) := by decide +kernel
theorem dX8_outOf_76 : decode cX8_outOf 76 = .ok (.istore_n 1, 1) := by decide +kernel
theorem dX8_outOf_77 : decode cX8_outOf 77 = .ok (.iconst 0, 1) := by decide +kernel
theorem dX8_outOf_78 : decode cX8_outOf 78 = .ok (.istore 5, 2) := by decide +kernel
theorem dX8_outOf_80 : decode cX8_outOf 80 = .ok (.iload 5, 2) := by decide +kernel
theorem dX8_outOf_82 : decode cX8_outOf 82 = .ok (.aload_n 0, 1) := by decide +kernel
theorem dX8_outOf_83 : decode cX8_outOf 83 = .ok (.getfield 84, 3) := by decide +kernel
theorem dX8_outOf_86 : decode cX8_outOf 86 = .ok (.if_icmp .ge 39, 3) := by decide +kernel
theorem dX8_outOf_89 : decode cX8_outOf 89 = .ok (.iload_n 3, 1) := by decide +kernel
theorem dX8_outOf_90 : decode cX8_outOf 90 = .ok (.aload_n 0, 1) := by decide +kernel
theorem dX8_outOf_91 : decode cX8_outOf 91 = .ok (.iload 5, 2) := by decide +kernel
theorem dX8_outOf_93 : decode cX8_outOf 93 = .ok (.invokevirtual 146, 3) := by decide +kernel
theorem dX8_outOf_96 : decode cX8_outOf 96 = .ok (.ifCond .ne 20, 3) := by decide +kernel
theorem dX8_outOf_99 : decode cX8_outOf 99 = .ok (.aload_n 0, 1) := by decide +kernel
theorem dX8_outOf_100 : decode cX8_outOf 100 = .ok (.getfield 19, 3) := by decide +kernel
theorem dX8_outOf_103 : decode cX8_outOf 103 = .ok (.iload 5, 2) := by decide +kernel
theorem dX8_outOf_105 : decode cX8_outOf 105 = .ok (.iaload, 1) := by decide +kernel
theorem dX8_outOf_106 : decode cX8_outOf 106 = .ok (.iconst 1, 1) := by decide +kernel
theorem dX8_outOf_107 : decode cX8_outOf 107 = .ok (.iadd, 1) := by decide +kernel
theorem dX8_outOf_108 : decode cX8_outOf 108 = .ok (.iload_n 2, 1) := by decide +kernel
theorem dX8_outOf_109 : decode cX8_outOf 109 = .ok (.if_icmp .ne 7, 3) := by decide +kernel
theorem dX8_outOf_112 : decode cX8_outOf 112 = .ok (.iconst 1, 1) := by decide +kernel
theorem dX8_outOf_113 : decode cX8_outOf 113 = .ok (.goto 4, 3) := by decide +kernel
theorem dX8_outOf_116 : decode cX8_outOf 116 = .ok (.iconst 0, 1) := by decide +kernel
theorem dX8_outOf_117 : decode cX8_outOf 117 = .ok (.iadd, 1) := by decide +kernel
theorem dX8_outOf_118 : decode cX8_outOf 118 = .ok (.istore_n 3, 1) := by decide +kernel
theorem dX8_outOf_119 : decode cX8_outOf 119 = .ok (.iinc 5 1, 3) := by decide +kernel
theorem dX8_outOf_122 : decode cX8_outOf 122 = .ok (.goto (-42), 3) := by decide +kernel
theorem dX8_outOf_125 : decode cX8_outOf 125 = .ok (.goto (-83), 3) := by decide +kernel
theorem dX8_outOf_128 : decode cX8_outOf 128 = .ok (.iload_n 2, 1) := by decide +kernel
theorem dX8_outOf_129 : decode cX8_outOf 129 = .ok (.ireturn, 1) := by decide +kernel
theorem dX8_out_0 : decode cX8_out 0 = .ok (.aload_n 0, 1) := by decide +kernel
theorem dX8_out_1 : decode cX8_out 1 = .ok (.invokevirtual 96, 3) := by decide +kernel
theorem dX8_out_4 : decode cX8_out 4 = .ok (.ifCond .eq 8, 3) := by decide +kernel
theorem dX8_out_7 : decode cX8_out 7 = .ok (.bipush (-103), 2) := by decide +kernel
theorem dX8_out_9 : decode cX8_out 9 = .ok (.goto 7, 3) := by decide +kernel
theorem dX8_out_12 : decode cX8_out 12 = .ok (.aload_n 0, 1) := by decide +kernel
theorem dX8_out_13 : decode cX8_out 13 = .ok (.invokevirtual 190, 3) := by decide +kernel
theorem dX8_out_16 : decode cX8_out 16 = .ok (.ireturn, 1) := by decide +kernel
theorem dX8_knock_0 : decode cX8_knock 0 = .ok (.aload_n 0, 1) := by decide +kernel
theorem dX8_knock_1 : decode cX8_knock 1 = .ok (.iload_n 1, 1) := by decide +kernel
theorem dX8_knock_2 : decode cX8_knock 2 = .ok (.invokevirtual 133, 3) := by decide +kernel
theorem dX8_knock_5 : decode cX8_knock 5 = .ok (.ifCond .ne 6, 3) := by decide +kernel
theorem dX8_knock_8 : decode cX8_knock 8 = .ok (.bipush (-101), 2) := by decide +kernel
theorem dX8_knock_10 : decode cX8_knock 10 = .ok (.ireturn, 1) := by decide +kernel
theorem dX8_knock_11 : decode cX8_knock 11 = .ok (.iload_n 2, 1) := by decide +kernel
theorem dX8_knock_12 : decode cX8_knock 12 = .ok (.i2l, 1) := by decide +kernel
theorem dX8_knock_13 : decode cX8_knock 13 = .ok (.lconst 0, 1) := by decide +kernel
theorem dX8_knock_14 : decode cX8_knock 14 = .ok (.ldc2_w 183, 3) := by decide +kernel
theorem dX8_knock_17 : decode cX8_knock 17 = .ok (.invokestatic 52, 3) := by decide +kernel
theorem dX8_knock_20 : decode cX8_knock 20 = .ok (.ifCond .ne 6, 3) := by decide +kernel
theorem dX8_knock_23 : decode cX8_knock 23 = .ok (.bipush (-102), 2) := by decide +kernel
theorem dX8_knock_25 : decode cX8_knock 25 = .ok (.ireturn, 1) := by decide +kernel
theorem dX8_knock_26 : decode cX8_knock 26 = .ok (.aload_n 0, 1) := by decide +kernel
theorem dX8_knock_27 : decode cX8_knock 27 = .ok (.getfield 87, 3) := by decide +kernel
theorem dX8_knock_30 : decode cX8_knock 30 = .ok (.bipush 8, 2) := by decide +kernel
theorem dX8_knock_32 : decode cX8_knock 32 = .ok (.if_icmp .ne 6, 3) := by decide +kernel
theorem dX8_knock_35 : decode cX8_knock 35 = .ok (.bipush (-104), 2) := by decide +kernel
theorem dX8_knock_37 : decode cX8_knock 37 = .ok (.ireturn, 1) := by decide +kernel
theorem dX8_knock_38 : decode cX8_knock 38 = .ok (.aload_n 0, 1) := by decide +kernel
theorem dX8_knock_39 : decode cX8_knock 39 = .ok (.getfield 31, 3) := by decide +kernel
theorem dX8_knock_42 : decode cX8_knock 42 = .ok (.iconst 3, 1) := by decide +kernel
theorem dX8_knock_43 : decode cX8_knock 43 = .ok (.aload_n 0, 1) := by decide +kernel
theorem dX8_knock_44 : decode cX8_knock 44 = .ok (.getfield 87, 3) := by decide +kernel
theorem dX8_knock_47 : decode cX8_knock 47 = .ok (.imul, 1) := by decide +kernel
theorem dX8_knock_48 : decode cX8_knock 48 = .ok (.iload_n 1, 1) := by decide +kernel
theorem dX8_knock_49 : decode cX8_knock 49 = .ok (.iastore, 1) := by decide +kernel
theorem dX8_knock_50 : decode cX8_knock 50 = .ok (.aload_n 0, 1) := by decide +kernel
theorem dX8_knock_51 : decode cX8_knock 51 = .ok (.getfield 31, 3) := by decide +kernel
theorem dX8_knock_54 : decode cX8_knock 54 = .ok (.iconst 3, 1) := by decide +kernel
theorem dX8_knock_55 : decode cX8_knock 55 = .ok (.aload_n 0, 1) := by decide +kernel
theorem dX8_knock_56 : decode cX8_knock 56 = .ok (.getfield 87, 3) := by decide +kernel
theorem dX8_knock_59 : decode cX8_knock 59 = .ok (.imul, 1) := by decide +kernel
theorem dX8_knock_60 : decode cX8_knock 60 = .ok (.iconst 1, 1) := by decide +kernel
theorem dX8_knock_61 : decode cX8_knock 61 = .ok (.iadd, 1) := by decide +kernel
theorem dX8_knock_62 : decode cX8_knock 62 = .ok (.iload_n 2, 1) := by decide +kernel
theorem dX8_knock_63 : decode cX8_knock 63 = .ok (.iastore, 1) := by decide +kernel
theorem dX8_knock_64 : decode cX8_knock 64 = .ok (.aload_n 0, 1) := by decide +kernel
theorem dX8_knock_65 : decode cX8_knock 65 = .ok (.getfield 31, 3) := by decide +kernel
theorem dX8_knock_68 : decode cX8_knock 68 = .ok (.iconst 3, 1) := by decide +kernel
theorem dX8_knock_69 : decode cX8_knock 69 = .ok (.aload_n 0, 1) := by decide +kernel
theorem dX8_knock_70 : decode cX8_knock 70 = .ok (.getfield 87, 3) := by decide +kernel
theorem dX8_knock_73 : decode cX8_knock 73 = .ok (.imul, 1) := by decide +kernel
end
section
theorem dX8_knock_74 : decode cX8_knock 74 = .ok (.iconst 2, 1) := by decide +kernel
theorem dX8_knock_75 : decode cX8_knock 75 = .ok (.iadd, 1) := by decide +kernel
theorem dX8_knock_76 : decode cX8_knock 76 = .ok (.iload_n 3, 1) := by decide +kernel
theorem dX8_knock_77 : decode cX8_knock 77 = .ok (.ifCond .eq 7, 3) := by decide +kernel
theorem dX8_knock_80 : decode cX8_knock 80 = .ok (.iconst 1, 1) := by decide +kernel
theorem dX8_knock_81 : decode cX8_knock 81 = .ok (.goto 4, 3) := by decide +kernel
theorem dX8_knock_84 : decode cX8_knock 84 = .ok (.iconst 0, 1) := by decide +kernel
theorem dX8_knock_85 : decode cX8_knock 85 = .ok (.iastore, 1) := by decide +kernel
theorem dX8_knock_86 : decode cX8_knock 86 = .ok (.aload_n 0, 1) := by decide +kernel
theorem dX8_knock_87 : decode cX8_knock 87 = .ok (.dup, 1) := by decide +kernel
theorem dX8_knock_88 : decode cX8_knock 88 = .ok (.getfield 87, 3) := by decide +kernel
theorem dX8_knock_91 : decode cX8_knock 91 = .ok (.iconst 1, 1) := by decide +kernel
theorem dX8_knock_92 : decode cX8_knock 92 = .ok (.iadd, 1) := by decide +kernel
theorem dX8_knock_93 : decode cX8_knock 93 = .ok (.putfield 87, 3) := by decide +kernel
theorem dX8_knock_96 : decode cX8_knock 96 = .ok (.aload_n 0, 1) := by decide +kernel
theorem dX8_knock_97 : decode cX8_knock 97 = .ok (.getfield 87, 3) := by decide +kernel
theorem dX8_knock_100 : decode cX8_knock 100 = .ok (.ireturn, 1) := by decide +kernel
theorem dX8_forget_0 : decode cX8_forget 0 = .ok (.aload_n 0, 1) := by decide +kernel
theorem dX8_forget_1 : decode cX8_forget 1 = .ok (.getfield 87, 3) := by decide +kernel
theorem dX8_forget_4 : decode cX8_forget 4 = .ok (.istore_n 1, 1) := by decide +kernel
theorem dX8_forget_5 : decode cX8_forget 5 = .ok (.aload_n 0, 1) := by decide +kernel
theorem dX8_forget_6 : decode cX8_forget 6 = .ok (.iconst 0, 1) := by decide +kernel
theorem dX8_forget_7 : decode cX8_forget 7 = .ok (.putfield 87, 3) := by decide +kernel
theorem dX8_forget_10 : decode cX8_forget 10 = .ok (.iload_n 1, 1) := by decide +kernel
theorem dX8_forget_11 : decode cX8_forget 11 = .ok (.ireturn, 1) := by decide +kernel
theorem dX8_isKnocked_0 : decode cX8_isKnocked 0 = .ok (.aload_n 0, 1) := by decide +kernel
theorem dX8_isKnocked_1 : decode cX8_isKnocked 1 = .ok (.invokevirtual 121, 3) := by decide +kernel
theorem dX8_isKnocked_4 : decode cX8_isKnocked 4 = .ok (.aload_n 0, 1) := by decide +kernel
theorem dX8_isKnocked_5 : decode cX8_isKnocked 5 = .ok (.getfield 22, 3) := by decide +kernel
theorem dX8_isKnocked_8 : decode cX8_isKnocked 8 = .ok (.iload_n 1, 1) := by decide +kernel
theorem dX8_isKnocked_9 : decode cX8_isKnocked 9 = .ok (.iload_n 2, 1) := by decide +kernel
theorem dX8_isKnocked_10 : decode cX8_isKnocked 10 = .ok (.iastore, 1) := by decide +kernel
theorem dX8_isKnocked_11 : decode cX8_isKnocked 11 = .ok (.iconst 1, 1) := by decide +kernel
theorem dX8_isKnocked_12 : decode cX8_isKnocked 12 = .ok (.istore_n 3, 1) := by decide +kernel
theorem dX8_isKnocked_13 : decode cX8_isKnocked 13 = .ok (.iconst 0, 1) := by decide +kernel
theorem dX8_isKnocked_14 : decode cX8_isKnocked 14 = .ok (.istore 4, 2) := by decide +kernel
theorem dX8_isKnocked_16 : decode cX8_isKnocked 16 = .ok (.iload 4, 2) := by decide +kernel
theorem dX8_isKnocked_18 : decode cX8_isKnocked 18 = .ok (.bipush 21, 2) := by decide +kernel
theorem dX8_isKnocked_20 : decode cX8_isKnocked 20 = .ok (.if_icmp .ge 99, 3) := by decide +kernel
theorem dX8_isKnocked_23 : decode cX8_isKnocked 23 = .ok (.iconst 0, 1) := by decide +kernel
theorem dX8_isKnocked_24 : decode cX8_isKnocked 24 = .ok (.istore 5, 2) := by decide +kernel
theorem dX8_isKnocked_26 : decode cX8_isKnocked 26 = .ok (.iload 5, 2) := by decide +kernel
theorem dX8_isKnocked_28 : decode cX8_isKnocked 28 = .ok (.aload_n 0, 1) := by decide +kernel
theorem dX8_isKnocked_29 : decode cX8_isKnocked 29 = .ok (.getfield 87, 3) := by decide +kernel
theorem dX8_isKnocked_32 : decode cX8_isKnocked 32 = .ok (.if_icmp .ge 75, 3) := by decide +kernel
theorem dX8_isKnocked_35 : decode cX8_isKnocked 35 = .ok (.aload_n 0, 1) := by decide +kernel
theorem dX8_isKnocked_36 : decode cX8_isKnocked 36 = .ok (.getfield 22, 3) := by decide +kernel
theorem dX8_isKnocked_39 : decode cX8_isKnocked 39 = .ok (.aload_n 0, 1) := by decide +kernel
theorem dX8_isKnocked_40 : decode cX8_isKnocked 40 = .ok (.getfield 31, 3) := by decide +kernel
theorem dX8_isKnocked_43 : decode cX8_isKnocked 43 = .ok (.iconst 3, 1) := by decide +kernel
theorem dX8_isKnocked_44 : decode cX8_isKnocked 44 = .ok (.iload 5, 2) := by decide +kernel
theorem dX8_isKnocked_46 : decode cX8_isKnocked 46 = .ok (.imul, 1) := by decide +kernel
theorem dX8_isKnocked_47 : decode cX8_isKnocked 47 = .ok (.iaload, 1) := by decide +kernel
theorem dX8_isKnocked_48 : decode cX8_isKnocked 48 = .ok (.iaload, 1) := by decide +kernel
theorem dX8_isKnocked_49 : decode cX8_isKnocked 49 = .ok (.ifCond .le 7, 3) := by decide +kernel
theorem dX8_isKnocked_52 : decode cX8_isKnocked 52 = .ok (.iconst 1, 1) := by decide +kernel
theorem dX8_isKnocked_53 : decode cX8_isKnocked 53 = .ok (.goto 4, 3) := by decide +kernel
theorem dX8_isKnocked_56 : decode cX8_isKnocked 56 = .ok (.iconst 0, 1) := by decide +kernel
theorem dX8_isKnocked_57 : decode cX8_isKnocked 57 = .ok (.istore 6, 2) := by decide +kernel
theorem dX8_isKnocked_59 : decode cX8_isKnocked 59 = .ok (.iload_n 3, 1) := by decide +kernel
theorem dX8_isKnocked_60 : decode cX8_isKnocked 60 = .ok (.ifCond .eq 39, 3) := by decide +kernel
theorem dX8_isKnocked_63 : decode cX8_isKnocked 63 = .ok (.aload_n 0, 1) := by decide +kernel
theorem dX8_isKnocked_64 : decode cX8_isKnocked 64 = .ok (.getfield 31, 3) := by decide +kernel
theorem dX8_isKnocked_67 : decode cX8_isKnocked 67 = .ok (.iconst 3, 1) := by decide +kernel
theorem dX8_isKnocked_68 : decode cX8_isKnocked 68 = .ok (.iload 5, 2) := by decide +kernel
theorem dX8_isKnocked_70 : decode cX8_isKnocked 70 = .ok (.imul, 1) := by decide +kernel
theorem dX8_isKnocked_71 : decode cX8_isKnocked 71 = .ok (.iconst 1, 1) := by decide +kernel
theorem dX8_isKnocked_72 : decode cX8_isKnocked 72 = .ok (.iadd, 1) := by decide +kernel
theorem dX8_isKnocked_73 : decode cX8_isKnocked 73 = .ok (.iaload, 1) := by decide +kernel
theorem dX8_isKnocked_74 : decode cX8_isKnocked 74 = .ok (.iload 4, 2) := by decide +kernel
theorem dX8_isKnocked_76 : decode cX8_isKnocked 76 = .ok (.if_icmp .ne 19, 3) := by decide +kernel
theorem dX8_isKnocked_79 : decode cX8_isKnocked 79 = .ok (.iload 6, 2) := by decide +kernel
theorem dX8_isKnocked_81 : decode cX8_isKnocked 81 = .ok (.aload_n 0, 1) := by decide +kernel
theorem dX8_isKnocked_82 : decode cX8_isKnocked 82 = .ok (.getfield 31, 3) := by decide +kernel
theorem dX8_isKnocked_85 : decode cX8_isKnocked 85 = .ok (.iconst 3, 1) := by decide +kernel
theorem dX8_isKnocked_86 : decode cX8_isKnocked 86 = .ok (.iload 5, 2) := by decide +kernel
theorem dX8_isKnocked_88 : decode cX8_isKnocked 88 = .ok (.imul, 1) := by decide +kernel
theorem dX8_isKnocked_89 : decode cX8_isKnocked 89 = .ok (.iconst 2, 1) := by decide +kernel
theorem dX8_isKnocked_90 : decode cX8_isKnocked 90 = .ok (.iadd, 1) := by decide +kernel
theorem dX8_isKnocked_91 : decode cX8_isKnocked 91 = .ok (.iaload, 1) := by decide +kernel
theorem dX8_isKnocked_92 : decode cX8_isKnocked 92 = .ok (.if_icmp .ne 7, 3) := by decide +kernel
theorem dX8_isKnocked_95 : decode cX8_isKnocked 95 = .ok (.iconst 1, 1) := by decide +kernel
theorem dX8_isKnocked_96 : decode cX8_isKnocked 96 = .ok (.goto 4, 3) := by decide +kernel
theorem dX8_isKnocked_99 : decode cX8_isKnocked 99 = .ok (.iconst 0, 1) := by decide +kernel
theorem dX8_isKnocked_100 : decode cX8_isKnocked 100 = .ok (.istore_n 3, 1) := by decide +kernel
theorem dX8_isKnocked_101 : decode cX8_isKnocked 101 = .ok (.iinc 5 1, 3) := by decide +kernel
theorem dX8_isKnocked_104 : decode cX8_isKnocked 104 = .ok (.goto (-78), 3) := by decide +kernel
theorem dX8_isKnocked_107 : decode cX8_isKnocked 107 = .ok (.aload_n 0, 1) := by decide +kernel
theorem dX8_isKnocked_108 : decode cX8_isKnocked 108 = .ok (.invokevirtual 158, 3) := by decide +kernel
theorem dX8_isKnocked_111 : decode cX8_isKnocked 111 = .ok (.istore 5, 2) := by decide +kernel
theorem dX8_isKnocked_113 : decode cX8_isKnocked 113 = .ok (.iinc 4 1, 3) := by decide +kernel
theorem dX8_isKnocked_116 : decode cX8_isKnocked 116 = .ok (.goto (-100), 3) := by decide +kernel
theorem dX8_isKnocked_119 : decode cX8_isKnocked 119 = .ok (.iload_n 3, 1) := by decide +kernel
theorem dX8_isKnocked_120 : decode cX8_isKnocked 120 = .ok (.ireturn, 1) := by decide +kernel
theorem dX8_strongOf_0 : decode cX8_strongOf 0 = .ok (.iconst 0, 1) := by decide +kernel
theorem dX8_strongOf_1 : decode cX8_strongOf 1 = .ok (.istore_n 2, 1) := by decide +kernel
theorem dX8_strongOf_2 : decode cX8_strongOf 2 = .ok (.iconst 0, 1) := by decide +kernel
theorem dX8_strongOf_3 : decode cX8_strongOf 3 = .ok (.istore_n 3, 1) := by decide +kernel
theorem dX8_strongOf_4 : decode cX8_strongOf 4 = .ok (.iload_n 3, 1) := by decide +kernel
theorem dX8_strongOf_5 : decode cX8_strongOf 5 = .ok (.bipush 10, 2) := by decide +kernel
theorem dX8_strongOf_7 : decode cX8_strongOf 7 = .ok (.if_icmp .ge 28, 3) := by decide +kernel
theorem dX8_strongOf_10 : decode cX8_strongOf 10 = .ok (.iload_n 2, 1) := by decide +kernel
theorem dX8_strongOf_11 : decode cX8_strongOf 11 = .ok (.aload_n 0, 1) := by decide +kernel
theorem dX8_strongOf_12 : decode cX8_strongOf 12 = .ok (.iload_n 1, 1) := by decide +kernel
theorem dX8_strongOf_13 : decode cX8_strongOf 13 = .ok (.iload_n 3, 1) := by decide +kernel
theorem dX8_strongOf_14 : decode cX8_strongOf 14 = .ok (.invokevirtual 193, 3) := by decide +kernel
theorem dX8_strongOf_17 : decode cX8_strongOf 17 = .ok (.ifCond .eq 9, 3) := by decide +kernel
theorem dX8_strongOf_20 : decode cX8_strongOf 20 = .ok (.iconst 1, 1) := by decide +kernel
theorem dX8_strongOf_21 : decode cX8_strongOf 21 = .ok (.iload_n 3, 1) := by decide +kernel
theorem dX8_strongOf_22 : decode cX8_strongOf 22 = .ok (.ishl, 1) := by decide +kernel
theorem dX8_strongOf_23 : decode cX8_strongOf 23 = .ok (.goto 4, 3) := by decide +kernel
theorem dX8_strongOf_26 : decode cX8_strongOf 26 = .ok (.iconst 0, 1) := by decide +kernel
theorem dX8_strongOf_27 : decode cX8_strongOf 27 = .ok (.ior, 1) := by decide +kernel
theorem dX8_strongOf_28 : decode cX8_strongOf 28 = .ok (.istore_n 2, 1) := by decide +kernel
theorem dX8_strongOf_29 : decode cX8_strongOf 29 = .ok (.iinc 3 1, 3) := by decide +kernel
theorem dX8_strongOf_32 : decode cX8_strongOf 32 = .ok (.goto (-28), 3) := by decide +kernel
theorem dX8_strongOf_35 : decode cX8_strongOf 35 = .ok (.iload_n 2, 1) := by decide +kernel
theorem dX8_strongOf_36 : decode cX8_strongOf 36 = .ok (.ireturn, 1) := by decide +kernel
theorem dX8_knockOf_0 : decode cX8_knockOf 0 = .ok (.aload_n 0, 1) := by decide +kernel
theorem dX8_knockOf_1 : decode cX8_knockOf 1 = .ok (.iload_n 1, 1) := by decide +kernel
theorem dX8_knockOf_2 : decode cX8_knockOf 2 = .ok (.invokevirtual 127, 3) := by decide +kernel
theorem dX8_knockOf_5 : decode cX8_knockOf 5 = .ok (.istore_n 2, 1) := by decide +kernel
theorem dX8_knockOf_6 : decode cX8_knockOf 6 = .ok (.iconst 0, 1) := by decide +kernel
theorem dX8_knockOf_7 : decode cX8_knockOf 7 = .ok (.istore_n 3, 1) := by decide +kernel
theorem dX8_knockOf_8 : decode cX8_knockOf 8 = .ok (.iconst 0, 1) := by decide +kernel
theorem dX8_knockOf_9 : decode cX8_knockOf 9 = .ok (.istore 4, 2) := by decide +kernel
theorem dX8_knockOf_11 : decode cX8_knockOf 11 = .ok (.iload 4, 2) := by decide +kernel
theorem dX8_knockOf_13 : decode cX8_knockOf 13 = .ok (.bipush 11, 2) := by decide +kernel
theorem dX8_knockOf_15 : decode cX8_knockOf 15 = .ok (.if_icmp .ge 17, 3) := by decide +kernel
theorem dX8_knockOf_18 : decode cX8_knockOf 18 = .ok (.aload_n 0, 1) := by decide +kernel
theorem dX8_knockOf_19 : decode cX8_knockOf 19 = .ok (.getfield 34, 3) := by decide +kernel
theorem dX8_knockOf_22 : decode cX8_knockOf 22 = .ok (.iload 4, 2) := by decide +kernel
theorem dX8_knockOf_24 : decode cX8_knockOf 24 = .ok (.iconst 0, 1) := by decide +kernel
theorem dX8_knockOf_25 : decode cX8_knockOf 25 = .ok (.iastore, 1) := by decide +kernel
theorem dX8_knockOf_26 : decode cX8_knockOf 26 = .ok (.iinc 4 1, 3) := by decide +kernel
theorem dX8_knockOf_29 : decode cX8_knockOf 29 = .ok (.goto (-18), 3) := by decide +kernel
theorem dX8_knockOf_32 : decode cX8_knockOf 32 = .ok (.iconst 0, 1) := by decide +kernel
theorem dX8_knockOf_33 : decode cX8_knockOf 33 = .ok (.istore 4, 2) := by decide +kernel
theorem dX8_knockOf_35 : decode cX8_knockOf 35 = .ok (.iload 4, 2) := by decide +kernel
theorem dX8_knockOf_37 : decode cX8_knockOf 37 = .ok (.bipush 10, 2) := by decide +kernel
theorem dX8_knockOf_39 : decode cX8_knockOf 39 = .ok (.if_icmp .ge 80, 3) := by decide +kernel
theorem dX8_knockOf_42 : decode cX8_knockOf 42 = .ok (.iload_n 2, 1) := by decide +kernel
theorem dX8_knockOf_43 : decode cX8_knockOf 43 = .ok (.iload 4, 2) := by decide +kernel
theorem dX8_knockOf_45 : decode cX8_knockOf 45 = .ok (.ishr, 1) := by decide +kernel
theorem dX8_knockOf_46 : decode cX8_knockOf 46 = .ok (.iconst 1, 1) := by decide +kernel
theorem dX8_knockOf_47 : decode cX8_knockOf 47 = .ok (.iand, 1) := by decide +kernel
theorem dX8_knockOf_48 : decode cX8_knockOf 48 = .ok (.iconst 1, 1) := by decide +kernel
theorem dX8_knockOf_49 : decode cX8_knockOf 49 = .ok (.if_icmp .ne 64, 3) := by decide +kernel
theorem dX8_knockOf_52 : decode cX8_knockOf 52 = .ok (.iinc 3 1, 3) := by decide +kernel
theorem dX8_knockOf_55 : decode cX8_knockOf 55 = .ok (.aload_n 0, 1) := by decide +kernel
theorem dX8_knockOf_56 : decode cX8_knockOf 56 = .ok (.invokevirtual 121, 3) := by decide +kernel
theorem dX8_knockOf_59 : decode cX8_knockOf 59 = .ok (.aload_n 0, 1) := by decide +kernel
theorem dX8_knockOf_60 : decode cX8_knockOf 60 = .ok (.getfield 22, 3) := by decide +kernel
theorem dX8_knockOf_63 : decode cX8_knockOf 63 = .ok (.iload_n 1, 1) := by decide +kernel
theorem dX8_knockOf_64 : decode cX8_knockOf 64 = .ok (.iload 4, 2) := by decide +kernel
theorem dX8_knockOf_66 : decode cX8_knockOf 66 = .ok (.iastore, 1) := by decide +kernel
theorem dX8_knockOf_67 : decode cX8_knockOf 67 = .ok (.iconst 1, 1) := by decide +kernel
theorem dX8_knockOf_68 : decode cX8_knockOf 68 = .ok (.istore 5, 2) := by decide +kernel
theorem dX8_knockOf_70 : decode cX8_knockOf 70 = .ok (.iload 5, 2) := by decide +kernel
theorem dX8_knockOf_72 : decode cX8_knockOf 72 = .ok (.bipush 11, 2) := by decide +kernel
theorem dX8_knockOf_74 : decode cX8_knockOf 74 = .ok (.if_icmp .ge 39, 3) := by decide +kernel
theorem dX8_knockOf_77 : decode cX8_knockOf 77 = .ok (.aload_n 0, 1) := by decide +kernel
theorem dX8_knockOf_78 : decode cX8_knockOf 78 = .ok (.invokevirtual 158, 3) := by decide +kernel
theorem dX8_knockOf_81 : decode cX8_knockOf 81 = .ok (.istore 6, 2) := by decide +kernel
theorem dX8_knockOf_83 : decode cX8_knockOf 83 = .ok (.aload_n 0, 1) := by decide +kernel
theorem dX8_knockOf_84 : decode cX8_knockOf 84 = .ok (.getfield 34, 3) := by decide +kernel
theorem dX8_knockOf_87 : decode cX8_knockOf 87 = .ok (.iload 5, 2) := by decide +kernel
theorem dX8_knockOf_89 : decode cX8_knockOf 89 = .ok (.dup2, 1) := by decide +kernel
theorem dX8_knockOf_90 : decode cX8_knockOf 90 = .ok (.iaload, 1) := by decide +kernel
theorem dX8_knockOf_91 : decode cX8_knockOf 91 = .ok (.aload_n 0, 1) := by decide +kernel
theorem dX8_knockOf_92 : decode cX8_knockOf 92 = .ok (.getfield 22, 3) := by decide +kernel
theorem dX8_knockOf_95 : decode cX8_knockOf 95 = .ok (.iload_n 1, 1) := by decide +kernel
theorem dX8_knockOf_96 : decode cX8_knockOf 96 = .ok (.iaload, 1) := by decide +kernel
theorem dX8_knockOf_97 : decode cX8_knockOf 97 = .ok (.ifCond .le 7, 3) := by decide +kernel
theorem dX8_knockOf_100 : decode cX8_knockOf 100 = .ok (.iconst 1, 1) := by decide +kernel
theorem dX8_knockOf_101 : decode cX8_knockOf 101 = .ok (.goto 4, 3) := by decide +kernel
theorem dX8_knockOf_104 : decode cX8_knockOf 104 = .ok (.iconst 0, 1) := by decide +kernel
theorem dX8_knockOf_105 : decode cX8_knockOf 105 = .ok (.iadd, 1) := by decide +kernel
theorem dX8_knockOf_106 : decode cX8_knockOf 106 = .ok (.iastore, 1) := by decide +kernel
theorem dX8_knockOf_107 : decode cX8_knockOf 107 = .ok (.iinc 5 1, 3) := by decide +kernel
theorem dX8_knockOf_110 : decode cX8_knockOf 110 = .ok (.goto (-40), 3) := by decide +kernel
theorem dX8_knockOf_113 : decode cX8_knockOf 113 = .ok (.iinc 4 1, 3) := by decide +kernel
theorem dX8_knockOf_116 : decode cX8_knockOf 116 = .ok (.goto (-81), 3) := by decide +kernel
theorem dX8_knockOf_119 : decode cX8_knockOf 119 = .ok (.iconst (-1), 1) := by decide +kernel
theorem dX8_knockOf_120 : decode cX8_knockOf 120 = .ok (.istore 4, 2) := by decide +kernel
theorem dX8_knockOf_122 : decode cX8_knockOf 122 = .ok (.bipush 11, 2) := by decide +kernel
theorem dX8_knockOf_124 : decode cX8_knockOf 124 = .ok (.istore 5, 2) := by decide +kernel
theorem dX8_knockOf_126 : decode cX8_knockOf 126 = .ok (.iconst 1, 1) := by decide +kernel
theorem dX8_knockOf_127 : decode cX8_knockOf 127 = .ok (.istore 6, 2) := by decide +kernel
theorem dX8_knockOf_129 : decode cX8_knockOf 129 = .ok (.iload 6, 2) := by decide +kernel
theorem dX8_knockOf_131 : decode cX8_knockOf 131 = .ok (.bipush 11, 2) := by decide +kernel
theorem dX8_knockOf_133 : decode cX8_knockOf 133 = .ok (.if_icmp .ge 85, 3) := by decide +kernel
theorem dX8_knockOf_136 : decode cX8_knockOf 136 = .ok (.iload_n 3, 1) := by decide +kernel
theorem dX8_knockOf_137 : decode cX8_knockOf 137 = .ok (.ifCond .le 81, 3) := by decide +kernel
theorem dX8_knockOf_140 : decode cX8_knockOf 140 = .ok (.aload_n 0, 1) := by decide +kernel
theorem dX8_knockOf_141 : decode cX8_knockOf 141 = .ok (.getfield 34, 3) := by decide +kernel
theorem dX8_knockOf_144 : decode cX8_knockOf 144 = .ok (.iload 6, 2) := by decide +kernel
theorem dX8_knockOf_146 : decode cX8_knockOf 146 = .ok (.iaload, 1) := by decide +kernel
theorem dX8_knockOf_147 : decode cX8_knockOf 147 = .ok (.iload_n 3, 1) := by decide +kernel
theorem dX8_knockOf_148 : decode cX8_knockOf 148 = .ok (.aload_n 0, 1) := by decide +kernel
theorem dX8_knockOf_149 : decode cX8_knockOf 149 = .ok (.getfield 34, 3) := by decide +kernel
theorem dX8_knockOf_152 : decode cX8_knockOf 152 = .ok (.iload 6, 2) := by decide +kernel
theorem dX8_knockOf_154 : decode cX8_knockOf 154 = .ok (.iaload, 1) := by decide +kernel
theorem dX8_knockOf_155 : decode cX8_knockOf 155 = .ok (.isub, 1) := by decide +kernel
theorem dX8_knockOf_156 : decode cX8_knockOf 156 = .ok (.if_icmp .le 13, 3) := by decide +kernel
theorem dX8_knockOf_159 : decode cX8_knockOf 159 = .ok (.aload_n 0, 1) := by decide +kernel
theorem dX8_knockOf_160 : decode cX8_knockOf 160 = .ok (.getfield 34, 3) := by decide +kernel
theorem dX8_knockOf_163 : decode cX8_knockOf 163 = .ok (.iload 6, 2) := by decide +kernel
theorem dX8_knockOf_165 : decode cX8_knockOf 165 = .ok (.iaload, 1) := by decide +kernel
theorem dX8_knockOf_166 : decode cX8_knockOf 166 = .ok (.goto 12, 3) := by decide +kernel
theorem dX8_knockOf_169 : decode cX8_knockOf 169 = .ok (.iload_n 3, 1) := by decide +kernel
theorem dX8_knockOf_170 : decode cX8_knockOf 170 = .ok (.aload_n 0, 1) := by decide +kernel
theorem dX8_knockOf_171 : decode cX8_knockOf 171 = .ok (.getfield 34, 3) := by decide +kernel
theorem dX8_knockOf_174 : decode cX8_knockOf 174 = .ok (.iload 6, 2) := by decide +kernel
theorem dX8_knockOf_176 : decode cX8_knockOf 176 = .ok (.iaload, 1) := by decide +kernel
theorem dX8_knockOf_177 : decode cX8_knockOf 177 = .ok (.isub, 1) := by decide +kernel
theorem dX8_knockOf_178 : decode cX8_knockOf 178 = .ok (.istore 7, 2) := by decide +kernel
theorem dX8_knockOf_180 : decode cX8_knockOf 180 = .ok (.iload 7, 2) := by decide +kernel
theorem dX8_knockOf_182 : decode cX8_knockOf 182 = .ok (.iload 5, 2) := by decide +kernel
theorem dX8_knockOf_184 : decode cX8_knockOf 184 = .ok (.if_icmp .ge 8, 3) := by decide +kernel
theorem dX8_knockOf_187 : decode cX8_knockOf 187 = .ok (.iload 6, 2) := by decide +kernel
theorem dX8_knockOf_189 : decode cX8_knockOf 189 = .ok (.goto 5, 3) := by decide +kernel
theorem dX8_knockOf_192 : decode cX8_knockOf 192 = .ok (.iload 4, 2) := by decide +kernel
theorem dX8_knockOf_194 : decode cX8_knockOf 194 = .ok (.istore 4, 2) := by decide +kernel
theorem dX8_knockOf_196 : decode cX8_knockOf 196 = .ok (.iload 7, 2) := by decide +kernel
theorem dX8_knockOf_198 : decode cX8_knockOf 198 = .ok (.iload 5, 2) := by decide +kernel
theorem dX8_knockOf_200 : decode cX8_knockOf 200 = .ok (.if_icmp .ge 8, 3) := by decide +kernel
theorem dX8_knockOf_203 : decode cX8_knockOf 203 = .ok (.iload 7, 2) := by decide +kernel
theorem dX8_knockOf_205 : decode cX8_knockOf 205 = .ok (.goto 5, 3) := by decide +kernel
theorem dX8_knockOf_208 : decode cX8_knockOf 208 = .ok (.iload 5, 2) := by decide +kernel
theorem dX8_knockOf_210 : decode cX8_knockOf 210 = .ok (.istore 5, 2) := by decide +kernel
theorem dX8_knockOf_212 : decode cX8_knockOf 212 = .ok (.iinc 6 1, 3) := by decide +kernel
theorem dX8_knockOf_215 : decode cX8_knockOf 215 = .ok (.goto (-86), 3) := by decide +kernel
theorem dX8_knockOf_218 : decode cX8_knockOf 218 = .ok (.iload 4, 2) := by decide +kernel
theorem dX8_knockOf_220 : decode cX8_knockOf 220 = .ok (.ireturn, 1) := by decide +kernel
theorem dX8_draw_0 : decode cX8_draw 0 = .ok (.aload_n 0, 1) := by decide +kernel
theorem dX8_draw_1 : decode cX8_draw 1 = .ok (.ldc2_w 196, 3) := by decide +kernel
theorem dX8_draw_4 : decode cX8_draw 4 = .ok (.aload_n 0, 1) := by decide +kernel
theorem dX8_draw_5 : decode cX8_draw 5 = .ok (.getfield 198, 3) := by decide +kernel
theorem dX8_draw_8 : decode cX8_draw 8 = .ok (.i2l, 1) := by decide +kernel
theorem dX8_draw_9 : decode cX8_draw 9 = .ok (.lmul, 1) := by decide +kernel
theorem dX8_draw_10 : decode cX8_draw 10 = .ok (.ldc2_w 201, 3) := by decide +kernel
theorem dX8_draw_13 : decode cX8_draw 13 = .ok (.ladd, 1) := by decide +kernel
theorem dX8_draw_14 : decode cX8_draw 14 = .ok (.ldc2_w 203, 3) := by decide +kernel
theorem dX8_draw_17 : decode cX8_draw 17 = .ok (.land, 1) := by decide +kernel
theorem dX8_draw_18 : decode cX8_draw 18 = .ok (.l2i, 1) := by decide +kernel
theorem dX8_draw_19 : decode cX8_draw 19 = .ok (.putfield 198, 3) := by decide +kernel
theorem dX8_draw_22 : decode cX8_draw 22 = .ok (.aload_n 0, 1) := by decide +kernel
theorem dX8_draw_23 : decode cX8_draw 23 = .ok (.getfield 198, 3) := by decide +kernel
theorem dX8_draw_26 : decode cX8_draw 26 = .ok (.ldc 205, 2) := by decide +kernel
theorem dX8_draw_28 : decode cX8_draw 28 = .ok (.idiv, 1) := by decide +kernel
theorem dX8_draw_29 : decode cX8_draw 29 = .ok (.iload_n 1, 1) := by decide +kernel
theorem dX8_draw_30 : decode cX8_draw 30 = .ok (.irem, 1) := by decide +kernel
theorem dX8_draw_31 : decode cX8_draw 31 = .ok (.ireturn, 1) := by decide +kernel
theorem dX8_years_0 : decode cX8_years 0 = .ok (.iload_n 1, 1) := by decide +kernel
theorem dX8_years_1 : decode cX8_years 1 = .ok (.i2l, 1) := by decide +kernel
theorem dX8_years_2 : decode cX8_years 2 = .ok (.lconst 1, 1) := by decide +kernel
theorem dX8_years_3 : decode cX8_years 3 = .ok (.ldc2_w 206, 3) := by decide +kernel
theorem dX8_years_6 : decode cX8_years 6 = .ok (.invokestatic 52, 3) := by decide +kernel
theorem dX8_years_9 : decode cX8_years 9 = .ok (.ifCond .eq 19, 3) := by decide +kernel
theorem dX8_years_12 : decode cX8_years 12 = .ok (.iload_n 2, 1) := by decide +kernel
theorem dX8_years_13 : decode cX8_years 13 = .ok (.ifCond .lt 15, 3) := by decide +kernel
theorem dX8_years_16 : decode cX8_years 16 = .ok (.iload_n 3, 1) := by decide +kernel
theorem dX8_years_17 : decode cX8_years 17 = .ok (.i2l, 1) := by decide +kernel
theorem dX8_years_18 : decode cX8_years 18 = .ok (.lconst 0, 1) := by decide +kernel
theorem dX8_years_19 : decode cX8_years 19 = .ok (.ldc2_w 208, 3) := by decide +kernel
theorem dX8_years_22 : decode cX8_years 22 = .ok (.invokestatic 52, 3) := by decide +kernel
theorem dX8_years_25 : decode cX8_years 25 = .ok (.ifCond .ne 6, 3) := by decide +kernel
theorem dX8_years_28 : decode cX8_years 28 = .ok (.bipush (-102), 2) := by decide +kernel
theorem dX8_years_30 : decode cX8_years 30 = .ok (.ireturn, 1) := by decide +kernel
theorem dX8_years_31 : decode cX8_years 31 = .ok (.aload_n 0, 1) := by decide +kernel
theorem dX8_years_32 : decode cX8_years 32 = .ok (.getfield 84, 3) := by decide +kernel
theorem dX8_years_35 : decode cX8_years 35 = .ok (.ifCond .ne 6, 3) := by decide +kernel
theorem dX8_years_38 : decode cX8_years 38 = .ok (.bipush (-103), 2) := by decide +kernel
theorem dX8_years_40 : decode cX8_years 40 = .ok (.ireturn, 1) := by decide +kernel
theorem dX8_years_41 : decode cX8_years 41 = .ok (.aload_n 0, 1) := by decide +kernel
theorem dX8_years_42 : decode cX8_years 42 = .ok (.invokevirtual 121, 3) := by decide +kernel
theorem dX8_years_45 : decode cX8_years 45 = .ok (.aload_n 0, 1) := by decide +kernel
theorem dX8_years_46 : decode cX8_years 46 = .ok (.iload_n 2, 1) := by decide +kernel
theorem dX8_years_47 : decode cX8_years 47 = .ok (.putfield 198, 3) := by decide +kernel
theorem dX8_years_50 : decode cX8_years 50 = .ok (.iconst 0, 1) := by decide +kernel
theorem dX8_years_51 : decode cX8_years 51 = .ok (.istore 4, 2) := by decide +kernel
theorem dX8_years_53 : decode cX8_years 53 = .ok (.iconst 0, 1) := by decide +kernel
theorem dX8_years_54 : decode cX8_years 54 = .ok (.istore 5, 2) := by decide +kernel
theorem dX8_years_56 : decode cX8_years 56 = .ok (.iload 5, 2) := by decide +kernel
theorem dX8_years_58 : decode cX8_years 58 = .ok (.iload_n 1, 1) := by decide +kernel
theorem dX8_years_59 : decode cX8_years 59 = .ok (.if_icmp .ge 74, 3) := by decide +kernel
theorem dX8_years_62 : decode cX8_years 62 = .ok (.aload_n 0, 1) := by decide +kernel
theorem dX8_years_63 : decode cX8_years 63 = .ok (.aload_n 0, 1) := by decide +kernel
theorem dX8_years_64 : decode cX8_years 64 = .ok (.getfield 84, 3) := by decide +kernel
theorem dX8_years_67 : decode cX8_years 67 = .ok (.invokevirtual 210, 3) := by decide +kernel
theorem dX8_years_70 : decode cX8_years 70 = .ok (.istore 6, 2) := by decide +kernel
theorem dX8_years_72 : decode cX8_years 72 = .ok (.aload_n 0, 1) := by decide +kernel
theorem dX8_years_73 : decode cX8_years 73 = .ok (.bipush 6, 2) := by decide +kernel
theorem dX8_years_75 : decode cX8_years 75 = .ok (.invokevirtual 210, 3) := by decide +kernel
theorem dX8_years_78 : decode cX8_years 78 = .ok (.istore 7, 2) := by decide +kernel
theorem dX8_years_80 : decode cX8_years 80 = .ok (.aload_n 0, 1) := by decide +kernel
theorem dX8_years_81 : decode cX8_years 81 = .ok (.getfield 19, 3) := by decide +kernel
theorem dX8_years_84 : decode cX8_years 84 = .ok (.iload 6, 2) := by decide +kernel
theorem dX8_years_86 : decode cX8_years 86 = .ok (.aload_n 0, 1) := by decide +kernel
theorem dX8_years_87 : decode cX8_years 87 = .ok (.getfield 22, 3) := by decide +kernel
theorem dX8_years_90 : decode cX8_years 90 = .ok (.iload 7, 2) := by decide +kernel
theorem dX8_years_92 : decode cX8_years 92 = .ok (.iaload, 1) := by decide +kernel
theorem dX8_years_93 : decode cX8_years 93 = .ok (.ifCond .le 17, 3) := by decide +kernel
theorem dX8_years_96 : decode cX8_years 96 = .ok (.aload_n 0, 1) := by decide +kernel
theorem dX8_years_97 : decode cX8_years 97 = .ok (.iload 6, 2) := by decide +kernel
theorem dX8_years_99 : decode cX8_years 99 = .ok (.invokevirtual 146, 3) := by decide +kernel
theorem dX8_years_102 : decode cX8_years 102 = .ok (.ifCond .ne 8, 3) := by decide +kernel
theorem dX8_years_105 : decode cX8_years 105 = .ok (.iload 7, 2) := by decide +kernel
theorem dX8_years_107 : decode cX8_years 107 = .ok (.goto 10, 3) := by decide +kernel
theorem dX8_years_110 : decode cX8_years 110 = .ok (.aload_n 0, 1) := by decide +kernel
theorem dX8_years_111 : decode cX8_years 111 = .ok (.getfield 19, 3) := by decide +kernel
theorem dX8_years_114 : decode cX8_years 114 = .ok (.iload 6, 2) := by decide +kernel
theorem dX8_years_116 : decode cX8_years 116 = .ok (.iaload, 1) := by decide +kernel
theorem dX8_years_117 : decode cX8_years 117 = .ok (.iastore, 1) := by decide +kernel
theorem dX8_years_118 : decode cX8_years 118 = .ok (.iload 4, 2) := by decide +kernel
theorem dX8_years_120 : decode cX8_years 120 = .ok (.aload_n 0, 1) := by decide +kernel
theorem dX8_years_121 : decode cX8_years 121 = .ok (.invokevirtual 158, 3) := by decide +kernel
theorem dX8_years_124 : decode cX8_years 124 = .ok (.iadd, 1) := by decide +kernel
theorem dX8_years_125 : decode cX8_years 125 = .ok (.istore 4, 2) := by decide +kernel
theorem dX8_years_127 : decode cX8_years 127 = .ok (.iinc 5 1, 3) := by decide +kernel
theorem dX8_years_130 : decode cX8_years 130 = .ok (.goto (-74), 3) := by decide +kernel
theorem dX8_years_133 : decode cX8_years 133 = .ok (.aload_n 0, 1) := by decide +kernel
theorem dX8_years_134 : decode cX8_years 134 = .ok (.invokevirtual 149, 3) := by decide +kernel
theorem dX8_years_137 : decode cX8_years 137 = .ok (.istore 5, 2) := by decide +kernel
theorem dX8_years_139 : decode cX8_years 139 = .ok (.iconst 0, 1) := by decide +kernel
theorem dX8_years_140 : decode cX8_years 140 = .ok (.istore 6, 2) := by decide +kernel
theorem dX8_years_142 : decode cX8_years 142 = .ok (.iconst 0, 1) := by decide +kernel
theorem dX8_years_143 : decode cX8_years 143 = .ok (.istore 7, 2) := by decide +kernel
theorem dX8_years_145 : decode cX8_years 145 = .ok (.iload 7, 2) := by decide +kernel
theorem dX8_years_147 : decode cX8_years 147 = .ok (.aload_n 0, 1) := by decide +kernel
theorem dX8_years_148 : decode cX8_years 148 = .ok (.getfield 84, 3) := by decide +kernel
theorem dX8_years_151 : decode cX8_years 151 = .ok (.if_icmp .ge 21, 3) := by decide +kernel
theorem dX8_years_154 : decode cX8_years 154 = .ok (.iload 6, 2) := by decide +kernel
theorem dX8_years_156 : decode cX8_years 156 = .ok (.iload 5, 2) := by decide +kernel
theorem dX8_years_158 : decode cX8_years 158 = .ok (.iload 7, 2) := by decide +kernel
theorem dX8_years_160 : decode cX8_years 160 = .ok (.ishr, 1) := by decide +kernel
theorem dX8_years_161 : decode cX8_years 161 = .ok (.iconst 1, 1) := by decide +kernel
theorem dX8_years_162 : decode cX8_years 162 = .ok (.iand, 1) := by decide +kernel
theorem dX8_years_163 : decode cX8_years 163 = .ok (.iadd, 1) := by decide +kernel
theorem dX8_years_164 : decode cX8_years 164 = .ok (.istore 6, 2) := by decide +kernel
theorem dX8_years_166 : decode cX8_years 166 = .ok (.iinc 7 1, 3) := by decide +kernel
theorem dX8_years_169 : decode cX8_years 169 = .ok (.goto (-24), 3) := by decide +kernel
theorem dX8_years_172 : decode cX8_years 172 = .ok (.iload_n 3, 1) := by decide +kernel
theorem dX8_years_173 : decode cX8_years 173 = .ok (.ifCond .ne 8, 3) := by decide +kernel
theorem dX8_years_176 : decode cX8_years 176 = .ok (.iload 4, 2) := by decide +kernel
theorem dX8_years_178 : decode cX8_years 178 = .ok (.goto 17, 3) := by decide +kernel
theorem dX8_years_181 : decode cX8_years 181 = .ok (.iload_n 3, 1) := by decide +kernel
theorem dX8_years_182 : decode cX8_years 182 = .ok (.iconst 1, 1) := by decide +kernel
theorem dX8_years_183 : decode cX8_years 183 = .ok (.if_icmp .ne 8, 3) := by decide +kernel
theorem dX8_years_186 : decode cX8_years 186 = .ok (.iload 6, 2) := by decide +kernel
theorem dX8_years_188 : decode cX8_years 188 = .ok (.goto 7, 3) := by decide +kernel
theorem dX8_years_191 : decode cX8_years 191 = .ok (.aload_n 0, 1) := by decide +kernel
theorem dX8_years_192 : decode cX8_years 192 = .ok (.getfield 198, 3) := by decide +kernel
theorem dX8_years_195 : decode cX8_years 195 = .ok (.ireturn, 1) := by decide +kernel
theorem dX8_image_0 : decode cX8_image 0 = .ok (.aload_n 0, 1) := by decide +kernel
theorem dX8_image_1 : decode cX8_image 1 = .ok (.invokevirtual 96, 3) := by decide +kernel
theorem dX8_image_4 : decode cX8_image 4 = .ok (.ifCond .eq 6, 3) := by decide +kernel
theorem dX8_image_7 : decode cX8_image 7 = .ok (.bipush (-103), 2) := by decide +kernel
theorem dX8_image_9 : decode cX8_image 9 = .ok (.ireturn, 1) := by decide +kernel
theorem dX8_image_10 : decode cX8_image 10 = .ok (.aload_n 0, 1) := by decide +kernel
theorem dX8_image_11 : decode cX8_image 11 = .ok (.getfield 13, 3) := by decide +kernel
theorem dX8_image_14 : decode cX8_image 14 = .ok (.aload_n 0, 1) := by decide +kernel
theorem dX8_image_15 : decode cX8_image 15 = .ok (.getfield 37, 3) := by decide +kernel
theorem dX8_image_18 : decode cX8_image 18 = .ok (.invokestatic 102, 3) := by decide +kernel
theorem dX8_image_21 : decode cX8_image 21 = .ok (.aload_n 0, 1) := by decide +kernel
theorem dX8_image_22 : decode cX8_image 22 = .ok (.getfield 16, 3) := by decide +kernel
theorem dX8_image_25 : decode cX8_image 25 = .ok (.aload_n 0, 1) := by decide +kernel
theorem dX8_image_26 : decode cX8_image 26 = .ok (.getfield 40, 3) := by decide +kernel
theorem dX8_image_29 : decode cX8_image 29 = .ok (.invokestatic 102, 3) := by decide +kernel
theorem dX8_image_32 : decode cX8_image 32 = .ok (.aload_n 0, 1) := by decide +kernel
theorem dX8_image_33 : decode cX8_image 33 = .ok (.getfield 31, 3) := by decide +kernel
theorem dX8_image_36 : decode cX8_image 36 = .ok (.aload_n 0, 1) := by decide +kernel
theorem dX8_image_37 : decode cX8_image 37 = .ok (.getfield 43, 3) := by decide +kernel
theorem dX8_image_40 : decode cX8_image 40 = .ok (.invokestatic 102, 3) := by decide +kernel
theorem dX8_image_43 : decode cX8_image 43 = .ok (.aload_n 0, 1) := by decide +kernel
theorem dX8_image_44 : decode cX8_image 44 = .ok (.aload_n 0, 1) := by decide +kernel
theorem dX8_image_45 : decode cX8_image 45 = .ok (.getfield 84, 3) := by decide +kernel
theorem dX8_image_48 : decode cX8_image 48 = .ok (.putfield 213, 3) := by decide +kernel
theorem dX8_image_51 : decode cX8_image 51 = .ok (.aload_n 0, 1) := by decide +kernel
theorem dX8_image_52 : decode cX8_image 52 = .ok (.aload_n 0, 1) := by decide +kernel
theorem dX8_image_53 : decode cX8_image 53 = .ok (.getfield 75, 3) := by decide +kernel
theorem dX8_image_56 : decode cX8_image 56 = .ok (.putfield 216, 3) := by decide +kernel
theorem dX8_image_59 : decode cX8_image 59 = .ok (.aload_n 0, 1) := by decide +kernel
theorem dX8_image_60 : decode cX8_image 60 = .ok (.aload_n 0, 1) := by decide +kernel
theorem dX8_image_61 : decode cX8_image 61 = .ok (.getfield 78, 3) := by decide +kernel
theorem dX8_image_64 : decode cX8_image 64 = .ok (.putfield 219, 3) := by decide +kernel
theorem dX8_image_67 : decode cX8_image 67 = .ok (.aload_n 0, 1) := by decide +kernel
theorem dX8_image_68 : decode cX8_image 68 = .ok (.aload_n 0, 1) := by decide +kernel
theorem dX8_image_69 : decode cX8_image 69 = .ok (.getfield 81, 3) := by decide +kernel
theorem dX8_image_72 : decode cX8_image 72 = .ok (.putfield 222, 3) := by decide +kernel
theorem dX8_image_75 : decode cX8_image 75 = .ok (.aload_n 0, 1) := by decide +kernel
theorem dX8_image_76 : decode cX8_image 76 = .ok (.aload_n 0, 1) := by decide +kernel
theorem dX8_image_77 : decode cX8_image 77 = .ok (.getfield 87, 3) := by decide +kernel
theorem dX8_image_80 : decode cX8_image 80 = .ok (.putfield 225, 3) := by decide +kernel
theorem dX8_image_83 : decode cX8_image 83 = .ok (.aload_n 0, 1) := by decide +kernel
theorem dX8_image_84 : decode cX8_image 84 = .ok (.aload_n 0, 1) := by decide +kernel
theorem dX8_image_85 : decode cX8_image 85 = .ok (.getfield 90, 3) := by decide +kernel
theorem dX8_image_88 : decode cX8_image 88 = .ok (.putfield 46, 3) := by decide +kernel
theorem dX8_image_91 : decode cX8_image 91 = .ok (.aload_n 0, 1) := by decide +kernel
theorem dX8_image_92 : decode cX8_image 92 = .ok (.getfield 75, 3) := by decide +kernel
theorem dX8_image_95 : decode cX8_image 95 = .ok (.ireturn, 1) := by decide +kernel
theorem dX8_restore_0 : decode cX8_restore 0 = .ok (.aload_n 0, 1) := by decide +kernel
theorem dX8_restore_1 : decode cX8_restore 1 = .ok (.getfield 46, 3) := by decide +kernel
theorem dX8_restore_4 : decode cX8_restore 4 = .ok (.aload_n 0, 1) := by decide +kernel
theorem dX8_restore_5 : decode cX8_restore 5 = .ok (.getfield 90, 3) := by decide +kernel
theorem dX8_restore_8 : decode cX8_restore 8 = .ok (.if_icmp .eq 6, 3) := by decide +kernel
theorem dX8_restore_11 : decode cX8_restore 11 = .ok (.bipush (-103), 2) := by decide +kernel
theorem dX8_restore_13 : decode cX8_restore 13 = .ok (.ireturn, 1) := by decide +kernel
theorem dX8_restore_14 : decode cX8_restore 14 = .ok (.aload_n 0, 1) := by decide +kernel
theorem dX8_restore_15 : decode cX8_restore 15 = .ok (.getfield 37, 3) := by decide +kernel
theorem dX8_restore_18 : decode cX8_restore 18 = .ok (.aload_n 0, 1) := by decide +kernel
theorem dX8_restore_19 : decode cX8_restore 19 = .ok (.getfield 13, 3) := by decide +kernel
theorem dX8_restore_22 : decode cX8_restore 22 = .ok (.invokestatic 102, 3) := by decide +kernel
theorem dX8_restore_25 : decode cX8_restore 25 = .ok (.aload_n 0, 1) := by decide +kernel
theorem dX8_restore_26 : decode cX8_restore 26 = .ok (.getfield 40, 3) := by decide +kernel
theorem dX8_restore_29 : decode cX8_restore 29 = .ok (.aload_n 0, 1) := by decide +kernel
theorem dX8_restore_30 : decode cX8_restore 30 = .ok (.getfield 16, 3) := by decide +kernel
theorem dX8_restore_33 : decode cX8_restore 33 = .ok (.invokestatic 102, 3) := by decide +kernel
theorem dX8_restore_36 : decode cX8_restore 36 = .ok (.aload_n 0, 1) := by decide +kernel
theorem dX8_restore_37 : decode cX8_restore 37 = .ok (.getfield 43, 3) := by decide +kernel
theorem dX8_restore_40 : decode cX8_restore 40 = .ok (.aload_n 0, 1) := by decide +kernel
theorem dX8_restore_41 : decode cX8_restore 41 = .ok (.getfield 31, 3) := by decide +kernel
theorem dX8_restore_44 : decode cX8_restore 44 = .ok (.invokestatic 102, 3) := by decide +kernel
theorem dX8_restore_47 : decode cX8_restore 47 = .ok (.aload_n 0, 1) := by decide +kernel
theorem dX8_restore_48 : decode cX8_restore 48 = .ok (.aload_n 0, 1) := by decide +kernel
theorem dX8_restore_49 : decode cX8_restore 49 = .ok (.getfield 213, 3) := by decide +kernel
theorem dX8_restore_52 : decode cX8_restore 52 = .ok (.putfield 84, 3) := by decide +kernel
theorem dX8_restore_55 : decode cX8_restore 55 = .ok (.aload_n 0, 1) := by decide +kernel
theorem dX8_restore_56 : decode cX8_restore 56 = .ok (.aload_n 0, 1) := by decide +kernel
theorem dX8_restore_57 : decode cX8_restore 57 = .ok (.getfield 216, 3) := by decide +kernel
theorem dX8_restore_60 : decode cX8_restore 60 = .ok (.putfield 75, 3) := by decide +kernel
theorem dX8_restore_63 : decode cX8_restore 63 = .ok (.aload_n 0, 1) := by decide +kernel
theorem dX8_restore_64 : decode cX8_restore 64 = .ok (.aload_n 0, 1) := by decide +kernel
theorem dX8_restore_65 : decode cX8_restore 65 = .ok (.getfield 219, 3) := by decide +kernel
theorem dX8_restore_68 : decode cX8_restore 68 = .ok (.putfield 78, 3) := by decide +kernel
theorem dX8_restore_71 : decode cX8_restore 71 = .ok (.aload_n 0, 1) := by decide +kernel
theorem dX8_restore_72 : decode cX8_restore 72 = .ok (.aload_n 0, 1) := by decide +kernel
theorem dX8_restore_73 : decode cX8_restore 73 = .ok (.getfield 222, 3) := by decide +kernel
theorem dX8_restore_76 : decode cX8_restore 76 = .ok (.putfield 81, 3) := by decide +kernel
theorem dX8_restore_79 : decode cX8_restore 79 = .ok (.aload_n 0, 1) := by decide +kernel
theorem dX8_restore_80 : decode cX8_restore 80 = .ok (.aload_n 0, 1) := by decide +kernel
theorem dX8_restore_81 : decode cX8_restore 81 = .ok (.getfield 225, 3) := by decide +kernel
theorem dX8_restore_84 : decode cX8_restore 84 = .ok (.putfield 87, 3) := by decide +kernel
theorem dX8_restore_87 : decode cX8_restore 87 = .ok (.aload_n 0, 1) := by decide +kernel
theorem dX8_restore_88 : decode cX8_restore 88 = .ok (.getfield 75, 3) := by decide +kernel
theorem dX8_restore_91 : decode cX8_restore 91 = .ok (.ireturn, 1) := by decide +kernel
theorem dX8_sumBy_0 : decode cX8_sumBy 0 = .ok (.iconst 0, 1) := by decide +kernel
theorem dX8_sumBy_1 : decode cX8_sumBy 1 = .ok (.istore_n 2, 1) := by decide +kernel
theorem dX8_sumBy_2 : decode cX8_sumBy 2 = .ok (.iconst 0, 1) := by decide +kernel
theorem dX8_sumBy_3 : decode cX8_sumBy 3 = .ok (.istore_n 3, 1) := by decide +kernel
theorem dX8_sumBy_4 : decode cX8_sumBy 4 = .ok (.iload_n 3, 1) := by decide +kernel
theorem dX8_sumBy_5 : decode cX8_sumBy 5 = .ok (.aload_n 0, 1) := by decide +kernel
theorem dX8_sumBy_6 : decode cX8_sumBy 6 = .ok (.getfield 84, 3) := by decide +kernel
theorem dX8_sumBy_9 : decode cX8_sumBy 9 = .ok (.if_icmp .ge 18, 3) := by decide +kernel
theorem dX8_sumBy_12 : decode cX8_sumBy 12 = .ok (.iload_n 2, 1) := by decide +kernel
theorem dX8_sumBy_13 : decode cX8_sumBy 13 = .ok (.aload_n 0, 1) := by decide +kernel
theorem dX8_sumBy_14 : decode cX8_sumBy 14 = .ok (.iload_n 3, 1) := by decide +kernel
theorem dX8_sumBy_15 : decode cX8_sumBy 15 = .ok (.iload_n 1, 1) := by decide +kernel
theorem dX8_sumBy_16 : decode cX8_sumBy 16 = .ok (.invokevirtual 155, 3) := by decide +kernel
theorem dX8_sumBy_19 : decode cX8_sumBy 19 = .ok (.iadd, 1) := by decide +kernel
theorem dX8_sumBy_20 : decode cX8_sumBy 20 = .ok (.istore_n 2, 1) := by decide +kernel
theorem dX8_sumBy_21 : decode cX8_sumBy 21 = .ok (.iinc 3 1, 3) := by decide +kernel
theorem dX8_sumBy_24 : decode cX8_sumBy 24 = .ok (.goto (-20), 3) := by decide +kernel
theorem dX8_sumBy_27 : decode cX8_sumBy 27 = .ok (.iload_n 2, 1) := by decide +kernel
theorem dX8_sumBy_28 : decode cX8_sumBy 28 = .ok (.ireturn, 1) := by decide +kernel
theorem dX8_countOf_0 : decode cX8_countOf 0 = .ok (.iload_n 1, 1) := by decide +kernel
theorem dX8_countOf_1 : decode cX8_countOf 1 = .ok (.tableswitch 134 0 12 #[67, 72, 77, 82, 87, 93, 99, 104, 109, 114, 119, 124, 129], 67) := by decide +kernel
theorem dX8_countOf_68 : decode cX8_countOf 68 = .ok (.aload_n 0, 1) := by decide +kernel
theorem dX8_countOf_69 : decode cX8_countOf 69 = .ok (.invokevirtual 93, 3) := by decide +kernel
theorem dX8_countOf_72 : decode cX8_countOf 72 = .ok (.ireturn, 1) := by decide +kernel
theorem dX8_countOf_73 : decode cX8_countOf 73 = .ok (.aload_n 0, 1) := by decide +kernel
theorem dX8_countOf_74 : decode cX8_countOf 74 = .ok (.getfield 69, 3) := by decide +kernel
theorem dX8_countOf_77 : decode cX8_countOf 77 = .ok (.ireturn, 1) := by decide +kernel
theorem dX8_countOf_78 : decode cX8_countOf 78 = .ok (.aload_n 0, 1) := by decide +kernel
theorem dX8_countOf_79 : decode cX8_countOf 79 = .ok (.getfield 72, 3) := by decide +kernel
theorem dX8_countOf_82 : decode cX8_countOf 82 = .ok (.ireturn, 1) := by decide +kernel
theorem dX8_countOf_83 : decode cX8_countOf 83 = .ok (.aload_n 0, 1) := by decide +kernel
theorem dX8_countOf_84 : decode cX8_countOf 84 = .ok (.getfield 84, 3) := by decide +kernel
theorem dX8_countOf_87 : decode cX8_countOf 87 = .ok (.ireturn, 1) := by decide +kernel
theorem dX8_countOf_88 : decode cX8_countOf 88 = .ok (.aload_n 0, 1) := by decide +kernel
theorem dX8_countOf_89 : decode cX8_countOf 89 = .ok (.iconst 4, 1) := by decide +kernel
theorem dX8_countOf_90 : decode cX8_countOf 90 = .ok (.invokevirtual 228, 3) := by decide +kernel
theorem dX8_countOf_93 : decode cX8_countOf 93 = .ok (.ireturn, 1) := by decide +kernel
theorem dX8_countOf_94 : decode cX8_countOf 94 = .ok (.aload_n 0, 1) := by decide +kernel
theorem dX8_countOf_95 : decode cX8_countOf 95 = .ok (.iconst 5, 1) := by decide +kernel
theorem dX8_countOf_96 : decode cX8_countOf 96 = .ok (.invokevirtual 228, 3) := by decide +kernel
theorem dX8_countOf_99 : decode cX8_countOf 99 = .ok (.ireturn, 1) := by decide +kernel
theorem dX8_countOf_100 : decode cX8_countOf 100 = .ok (.aload_n 0, 1) := by decide +kernel
theorem dX8_countOf_101 : decode cX8_countOf 101 = .ok (.getfield 75, 3) := by decide +kernel
theorem dX8_countOf_104 : decode cX8_countOf 104 = .ok (.ireturn, 1) := by decide +kernel
theorem dX8_countOf_105 : decode cX8_countOf 105 = .ok (.aload_n 0, 1) := by decide +kernel
theorem dX8_countOf_106 : decode cX8_countOf 106 = .ok (.getfield 78, 3) := by decide +kernel
theorem dX8_countOf_109 : decode cX8_countOf 109 = .ok (.ireturn, 1) := by decide +kernel
theorem dX8_countOf_110 : decode cX8_countOf 110 = .ok (.aload_n 0, 1) := by decide +kernel
theorem dX8_countOf_111 : decode cX8_countOf 111 = .ok (.getfield 81, 3) := by decide +kernel
theorem dX8_countOf_114 : decode cX8_countOf 114 = .ok (.ireturn, 1) := by decide +kernel
theorem dX8_countOf_115 : decode cX8_countOf 115 = .ok (.aload_n 0, 1) := by decide +kernel
theorem dX8_countOf_116 : decode cX8_countOf 116 = .ok (.getfield 87, 3) := by decide +kernel
theorem dX8_countOf_119 : decode cX8_countOf 119 = .ok (.ireturn, 1) := by decide +kernel
theorem dX8_countOf_120 : decode cX8_countOf 120 = .ok (.aload_n 0, 1) := by decide +kernel
theorem dX8_countOf_121 : decode cX8_countOf 121 = .ok (.getfield 56, 3) := by decide +kernel
theorem dX8_countOf_124 : decode cX8_countOf 124 = .ok (.ireturn, 1) := by decide +kernel
theorem dX8_countOf_125 : decode cX8_countOf 125 = .ok (.aload_n 0, 1) := by decide +kernel
theorem dX8_countOf_126 : decode cX8_countOf 126 = .ok (.getfield 90, 3) := by decide +kernel
theorem dX8_countOf_129 : decode cX8_countOf 129 = .ok (.ireturn, 1) := by decide +kernel
theorem dX8_countOf_130 : decode cX8_countOf 130 = .ok (.aload_n 0, 1) := by decide +kernel
theorem dX8_countOf_131 : decode cX8_countOf 131 = .ok (.getfield 174, 3) := by decide +kernel
theorem dX8_countOf_134 : decode cX8_countOf 134 = .ok (.ireturn, 1) := by decide +kernel
theorem dX8_countOf_135 : decode cX8_countOf 135 = .ok (.bipush (-102), 2) := by decide +kernel
theorem dX8_countOf_137 : decode cX8_countOf 137 = .ok (.ireturn, 1) := by decide +kernel
theorem dX8_count_0 : decode cX8_count 0 = .ok (.aload_n 0, 1) := by decide +kernel
theorem dX8_count_1 : decode cX8_count 1 = .ok (.iload_n 1, 1) := by decide +kernel
theorem dX8_count_2 : decode cX8_count 2 = .ok (.invokevirtual 231, 3) := by decide +kernel
theorem dX8_count_5 : decode cX8_count 5 = .ok (.ireturn, 1) := by decide +kernel
theorem dX8_say_0 : decode cX8_say 0 = .ok (.aload_n 0, 1) := by decide +kernel
theorem dX8_say_1 : decode cX8_say 1 = .ok (.ldc2_w 234, 3) := by decide +kernel
theorem dX8_say_4 : decode cX8_say 4 = .ok (.aload_n 0, 1) := by decide +kernel
theorem dX8_say_5 : decode cX8_say 5 = .ok (.getfield 236, 3) := by decide +kernel
theorem dX8_say_8 : decode cX8_say 8 = .ok (.lmul, 1) := by decide +kernel
theorem dX8_say_9 : decode cX8_say 9 = .ok (.lload_n 1, 1) := by decide +kernel
theorem dX8_say_10 : decode cX8_say 10 = .ok (.ladd, 1) := by decide +kernel
theorem dX8_say_11 : decode cX8_say 11 = .ok (.putfield 236, 3) := by decide +kernel
theorem dX8_say_14 : decode cX8_say 14 = .ok (.return_, 1) := by decide +kernel
theorem dX8_sayGallery_0 : decode cX8_sayGallery 0 = .ok (.aload_n 0, 1) := by decide +kernel
theorem dX8_sayGallery_1 : decode cX8_sayGallery 1 = .ok (.aload_n 0, 1) := by decide +kernel
theorem dX8_sayGallery_2 : decode cX8_sayGallery 2 = .ok (.invokevirtual 164, 3) := by decide +kernel
theorem dX8_sayGallery_5 : decode cX8_sayGallery 5 = .ok (.i2l, 1) := by decide +kernel
theorem dX8_sayGallery_6 : decode cX8_sayGallery 6 = .ok (.invokevirtual 240, 3) := by decide +kernel
theorem dX8_sayGallery_9 : decode cX8_sayGallery 9 = .ok (.aload_n 0, 1) := by decide +kernel
theorem dX8_sayGallery_10 : decode cX8_sayGallery 10 = .ok (.aload_n 0, 1) := by decide +kernel
theorem dX8_sayGallery_11 : decode cX8_sayGallery 11 = .ok (.invokevirtual 190, 3) := by decide +kernel
theorem dX8_sayGallery_14 : decode cX8_sayGallery 14 = .ok (.i2l, 1) := by decide +kernel
theorem dX8_sayGallery_15 : decode cX8_sayGallery 15 = .ok (.invokevirtual 240, 3) := by decide +kernel
theorem dX8_sayGallery_18 : decode cX8_sayGallery 18 = .ok (.aload_n 0, 1) := by decide +kernel
theorem dX8_sayGallery_19 : decode cX8_sayGallery 19 = .ok (.aload_n 0, 1) := by decide +kernel
theorem dX8_sayGallery_20 : decode cX8_sayGallery 20 = .ok (.iconst 5, 1) := by decide +kernel
theorem dX8_sayGallery_21 : decode cX8_sayGallery 21 = .ok (.iconst 0, 1) := by decide +kernel
theorem dX8_sayGallery_22 : decode cX8_sayGallery 22 = .ok (.invokevirtual 187, 3) := by decide +kernel
theorem dX8_sayGallery_25 : decode cX8_sayGallery 25 = .ok (.i2l, 1) := by decide +kernel
theorem dX8_sayGallery_26 : decode cX8_sayGallery 26 = .ok (.invokevirtual 240, 3) := by decide +kernel
theorem dX8_sayGallery_29 : decode cX8_sayGallery 29 = .ok (.bipush 10, 2) := by decide +kernel
theorem dX8_sayGallery_31 : decode cX8_sayGallery 31 = .ok (.istore_n 1, 1) := by decide +kernel
theorem dX8_sayGallery_32 : decode cX8_sayGallery 32 = .ok (.iload_n 1, 1) := by decide +kernel
theorem dX8_sayGallery_33 : decode cX8_sayGallery 33 = .ok (.bipush 16, 2) := by decide +kernel
theorem dX8_sayGallery_35 : decode cX8_sayGallery 35 = .ok (.if_icmp .ge 20, 3) := by decide +kernel
theorem dX8_sayGallery_38 : decode cX8_sayGallery 38 = .ok (.aload_n 0, 1) := by decide +kernel
theorem dX8_sayGallery_39 : decode cX8_sayGallery 39 = .ok (.aload_n 0, 1) := by decide +kernel
theorem dX8_sayGallery_40 : decode cX8_sayGallery 40 = .ok (.iconst 5, 1) := by decide +kernel
theorem dX8_sayGallery_41 : decode cX8_sayGallery 41 = .ok (.iload_n 1, 1) := by decide +kernel
theorem dX8_sayGallery_42 : decode cX8_sayGallery 42 = .ok (.invokevirtual 187, 3) := by decide +kernel
theorem dX8_sayGallery_45 : decode cX8_sayGallery 45 = .ok (.i2l, 1) := by decide +kernel
theorem dX8_sayGallery_46 : decode cX8_sayGallery 46 = .ok (.invokevirtual 240, 3) := by decide +kernel
theorem dX8_sayGallery_49 : decode cX8_sayGallery 49 = .ok (.iinc 1 1, 3) := by decide +kernel
theorem dX8_sayGallery_52 : decode cX8_sayGallery 52 = .ok (.goto (-20), 3) := by decide +kernel
theorem dX8_sayGallery_55 : decode cX8_sayGallery 55 = .ok (.return_, 1) := by decide +kernel
theorem dX8_digest_0 : decode cX8_digest 0 = .ok (.aload_n 0, 1) := by decide +kernel
theorem dX8_digest_1 : decode cX8_digest 1 = .ok (.ldc2_w 244, 3) := by decide +kernel
theorem dX8_digest_4 : decode cX8_digest 4 = .ok (.putfield 236, 3) := by decide +kernel
theorem dX8_digest_7 : decode cX8_digest 7 = .ok (.iconst 0, 1) := by decide +kernel
theorem dX8_digest_8 : decode cX8_digest 8 = .ok (.istore_n 1, 1) := by decide +kernel
theorem dX8_digest_9 : decode cX8_digest 9 = .ok (.iload_n 1, 1) := by decide +kernel
theorem dX8_digest_10 : decode cX8_digest 10 = .ok (.bipush 6, 2) := by decide +kernel
theorem dX8_digest_12 : decode cX8_digest 12 = .ok (.if_icmp .ge 41, 3) := by decide +kernel
theorem dX8_digest_15 : decode cX8_digest 15 = .ok (.aload_n 0, 1) := by decide +kernel
theorem dX8_digest_16 : decode cX8_digest 16 = .ok (.invokevirtual 96, 3) := by decide +kernel
theorem dX8_digest_19 : decode cX8_digest 19 = .ok (.ifCond .ne 34, 3) := by decide +kernel
theorem dX8_digest_22 : decode cX8_digest 22 = .ok (.iconst 0, 1) := by decide +kernel
theorem dX8_digest_23 : decode cX8_digest 23 = .ok (.istore_n 2, 1) := by decide +kernel
theorem dX8_digest_24 : decode cX8_digest 24 = .ok (.iload_n 2, 1) := by decide +kernel
theorem dX8_digest_25 : decode cX8_digest 25 = .ok (.bipush 6, 2) := by decide +kernel
theorem dX8_digest_27 : decode cX8_digest 27 = .ok (.if_icmp .ge 20, 3) := by decide +kernel
theorem dX8_digest_30 : decode cX8_digest 30 = .ok (.aload_n 0, 1) := by decide +kernel
theorem dX8_digest_31 : decode cX8_digest 31 = .ok (.aload_n 0, 1) := by decide +kernel
theorem dX8_digest_32 : decode cX8_digest 32 = .ok (.iload_n 1, 1) := by decide +kernel
theorem dX8_digest_33 : decode cX8_digest 33 = .ok (.iload_n 2, 1) := by decide +kernel
theorem dX8_digest_34 : decode cX8_digest 34 = .ok (.invokevirtual 137, 3) := by decide +kernel
theorem dX8_digest_37 : decode cX8_digest 37 = .ok (.i2l, 1) := by decide +kernel
theorem dX8_digest_38 : decode cX8_digest 38 = .ok (.invokevirtual 240, 3) := by decide +kernel
theorem dX8_digest_41 : decode cX8_digest 41 = .ok (.iinc 2 1, 3) := by decide +kernel
theorem dX8_digest_44 : decode cX8_digest 44 = .ok (.goto (-20), 3) := by decide +kernel
theorem dX8_digest_47 : decode cX8_digest 47 = .ok (.iinc 1 1, 3) := by decide +kernel
theorem dX8_digest_50 : decode cX8_digest 50 = .ok (.goto (-41), 3) := by decide +kernel
theorem dX8_digest_53 : decode cX8_digest 53 = .ok (.iconst 0, 1) := by decide +kernel
theorem dX8_digest_54 : decode cX8_digest 54 = .ok (.istore_n 1, 1) := by decide +kernel
theorem dX8_digest_55 : decode cX8_digest 55 = .ok (.iload_n 1, 1) := by decide +kernel
theorem dX8_digest_56 : decode cX8_digest 56 = .ok (.aload_n 0, 1) := by decide +kernel
theorem dX8_digest_57 : decode cX8_digest 57 = .ok (.getfield 84, 3) := by decide +kernel
theorem dX8_digest_60 : decode cX8_digest 60 = .ok (.if_icmp .ge 34, 3) := by decide +kernel
theorem dX8_digest_63 : decode cX8_digest 63 = .ok (.iconst 0, 1) := by decide +kernel
theorem dX8_digest_64 : decode cX8_digest 64 = .ok (.istore_n 2, 1) := by decide +kernel
theorem dX8_digest_65 : decode cX8_digest 65 = .ok (.iload_n 2, 1) := by decide +kernel
theorem dX8_digest_66 : decode cX8_digest 66 = .ok (.bipush 6, 2) := by decide +kernel
theorem dX8_digest_68 : decode cX8_digest 68 = .ok (.if_icmp .ge 20, 3) := by decide +kernel
theorem dX8_digest_71 : decode cX8_digest 71 = .ok (.aload_n 0, 1) := by decide +kernel
theorem dX8_digest_72 : decode cX8_digest 72 = .ok (.aload_n 0, 1) := by decide +kernel
theorem dX8_digest_73 : decode cX8_digest 73 = .ok (.iload_n 1, 1) := by decide +kernel
theorem dX8_digest_74 : decode cX8_digest 74 = .ok (.iload_n 2, 1) := by decide +kernel
theorem dX8_digest_75 : decode cX8_digest 75 = .ok (.invokevirtual 155, 3) := by decide +kernel
theorem dX8_digest_78 : decode cX8_digest 78 = .ok (.i2l, 1) := by decide +kernel
theorem dX8_digest_79 : decode cX8_digest 79 = .ok (.invokevirtual 240, 3) := by decide +kernel
theorem dX8_digest_82 : decode cX8_digest 82 = .ok (.iinc 2 1, 3) := by decide +kernel
theorem dX8_digest_85 : decode cX8_digest 85 = .ok (.goto (-20), 3) := by decide +kernel
theorem dX8_digest_88 : decode cX8_digest 88 = .ok (.iinc 1 1, 3) := by decide +kernel
theorem dX8_digest_91 : decode cX8_digest 91 = .ok (.goto (-36), 3) := by decide +kernel
theorem dX8_digest_94 : decode cX8_digest 94 = .ok (.aload_n 0, 1) := by decide +kernel
theorem dX8_digest_95 : decode cX8_digest 95 = .ok (.invokevirtual 96, 3) := by decide +kernel
theorem dX8_digest_98 : decode cX8_digest 98 = .ok (.ifCond .ne 7, 3) := by decide +kernel
theorem dX8_digest_101 : decode cX8_digest 101 = .ok (.aload_n 0, 1) := by decide +kernel
theorem dX8_digest_102 : decode cX8_digest 102 = .ok (.invokevirtual 246, 3) := by decide +kernel
theorem dX8_digest_105 : decode cX8_digest 105 = .ok (.iconst 0, 1) := by decide +kernel
theorem dX8_digest_106 : decode cX8_digest 106 = .ok (.istore_n 1, 1) := by decide +kernel
theorem dX8_digest_107 : decode cX8_digest 107 = .ok (.iload_n 1, 1) := by decide +kernel
theorem dX8_digest_108 : decode cX8_digest 108 = .ok (.aload_n 0, 1) := by decide +kernel
theorem dX8_digest_109 : decode cX8_digest 109 = .ok (.getfield 56, 3) := by decide +kernel
theorem dX8_digest_112 : decode cX8_digest 112 = .ok (.if_icmp .ge 20, 3) := by decide +kernel
theorem dX8_digest_115 : decode cX8_digest 115 = .ok (.aload_n 0, 1) := by decide +kernel
theorem dX8_digest_116 : decode cX8_digest 116 = .ok (.aload_n 0, 1) := by decide +kernel
theorem dX8_digest_117 : decode cX8_digest 117 = .ok (.getfield 7, 3) := by decide +kernel
theorem dX8_digest_120 : decode cX8_digest 120 = .ok (.iload_n 1, 1) := by decide +kernel
theorem dX8_digest_121 : decode cX8_digest 121 = .ok (.iaload, 1) := by decide +kernel
theorem dX8_digest_122 : decode cX8_digest 122 = .ok (.i2l, 1) := by decide +kernel
theorem dX8_digest_123 : decode cX8_digest 123 = .ok (.invokevirtual 240, 3) := by decide +kernel
theorem dX8_digest_126 : decode cX8_digest 126 = .ok (.iinc 1 1, 3) := by decide +kernel
theorem dX8_digest_129 : decode cX8_digest 129 = .ok (.goto (-22), 3) := by decide +kernel
theorem dX8_digest_132 : decode cX8_digest 132 = .ok (.iconst 0, 1) := by decide +kernel
theorem dX8_digest_133 : decode cX8_digest 133 = .ok (.istore_n 1, 1) := by decide +kernel
theorem dX8_digest_134 : decode cX8_digest 134 = .ok (.iload_n 1, 1) := by decide +kernel
theorem dX8_digest_135 : decode cX8_digest 135 = .ok (.bipush 13, 2) := by decide +kernel
theorem dX8_digest_137 : decode cX8_digest 137 = .ok (.if_icmp .ge 19, 3) := by decide +kernel
theorem dX8_digest_140 : decode cX8_digest 140 = .ok (.aload_n 0, 1) := by decide +kernel
theorem dX8_digest_141 : decode cX8_digest 141 = .ok (.aload_n 0, 1) := by decide +kernel
theorem dX8_digest_142 : decode cX8_digest 142 = .ok (.iload_n 1, 1) := by decide +kernel
theorem dX8_digest_143 : decode cX8_digest 143 = .ok (.invokevirtual 231, 3) := by decide +kernel
theorem dX8_digest_146 : decode cX8_digest 146 = .ok (.i2l, 1) := by decide +kernel
theorem dX8_digest_147 : decode cX8_digest 147 = .ok (.invokevirtual 240, 3) := by decide +kernel
theorem dX8_digest_150 : decode cX8_digest 150 = .ok (.iinc 1 1, 3) := by decide +kernel
theorem dX8_digest_153 : decode cX8_digest 153 = .ok (.goto (-19), 3) := by decide +kernel
theorem dX8_digest_156 : decode cX8_digest 156 = .ok (.aload_n 0, 1) := by decide +kernel
theorem dX8_digest_157 : decode cX8_digest 157 = .ok (.getfield 236, 3) := by decide +kernel
theorem dX8_digest_160 : decode cX8_digest 160 = .ok (.lreturn, 1) := by decide +kernel
theorem dJ6_bitCount_0f7a4_0 : decode cJ6_bitCount_0f7a4 0 = .ok (.iload_n 0, 1) := by decide +kernel
theorem dJ6_bitCount_0f7a4_1 : decode cJ6_bitCount_0f7a4 1 = .ok (.iload_n 0, 1) := by decide +kernel
theorem dJ6_bitCount_0f7a4_2 : decode cJ6_bitCount_0f7a4 2 = .ok (.iconst 1, 1) := by decide +kernel
theorem dJ6_bitCount_0f7a4_3 : decode cJ6_bitCount_0f7a4 3 = .ok (.iushr, 1) := by decide +kernel
theorem dJ6_bitCount_0f7a4_4 : decode cJ6_bitCount_0f7a4 4 = .ok (.ldc_w 265, 3) := by decide +kernel
theorem dJ6_bitCount_0f7a4_7 : decode cJ6_bitCount_0f7a4 7 = .ok (.iand, 1) := by decide +kernel
theorem dJ6_bitCount_0f7a4_8 : decode cJ6_bitCount_0f7a4 8 = .ok (.isub, 1) := by decide +kernel
theorem dJ6_bitCount_0f7a4_9 : decode cJ6_bitCount_0f7a4 9 = .ok (.istore_n 0, 1) := by decide +kernel
theorem dJ6_bitCount_0f7a4_10 : decode cJ6_bitCount_0f7a4 10 = .ok (.iload_n 0, 1) := by decide +kernel
theorem dJ6_bitCount_0f7a4_11 : decode cJ6_bitCount_0f7a4 11 = .ok (.ldc_w 266, 3) := by decide +kernel
theorem dJ6_bitCount_0f7a4_14 : decode cJ6_bitCount_0f7a4 14 = .ok (.iand, 1) := by decide +kernel
theorem dJ6_bitCount_0f7a4_15 : decode cJ6_bitCount_0f7a4 15 = .ok (.iload_n 0, 1) := by decide +kernel
theorem dJ6_bitCount_0f7a4_16 : decode cJ6_bitCount_0f7a4 16 = .ok (.iconst 2, 1) := by decide +kernel
theorem dJ6_bitCount_0f7a4_17 : decode cJ6_bitCount_0f7a4 17 = .ok (.iushr, 1) := by decide +kernel
theorem dJ6_bitCount_0f7a4_18 : decode cJ6_bitCount_0f7a4 18 = .ok (.ldc_w 266, 3) := by decide +kernel
theorem dJ6_bitCount_0f7a4_21 : decode cJ6_bitCount_0f7a4 21 = .ok (.iand, 1) := by decide +kernel
theorem dJ6_bitCount_0f7a4_22 : decode cJ6_bitCount_0f7a4 22 = .ok (.iadd, 1) := by decide +kernel
theorem dJ6_bitCount_0f7a4_23 : decode cJ6_bitCount_0f7a4 23 = .ok (.istore_n 0, 1) := by decide +kernel
theorem dJ6_bitCount_0f7a4_24 : decode cJ6_bitCount_0f7a4 24 = .ok (.iload_n 0, 1) := by decide +kernel
theorem dJ6_bitCount_0f7a4_25 : decode cJ6_bitCount_0f7a4 25 = .ok (.iload_n 0, 1) := by decide +kernel
theorem dJ6_bitCount_0f7a4_26 : decode cJ6_bitCount_0f7a4 26 = .ok (.iconst 4, 1) := by decide +kernel
theorem dJ6_bitCount_0f7a4_27 : decode cJ6_bitCount_0f7a4 27 = .ok (.iushr, 1) := by decide +kernel
theorem dJ6_bitCount_0f7a4_28 : decode cJ6_bitCount_0f7a4 28 = .ok (.iadd, 1) := by decide +kernel
theorem dJ6_bitCount_0f7a4_29 : decode cJ6_bitCount_0f7a4 29 = .ok (.ldc_w 267, 3) := by decide +kernel
theorem dJ6_bitCount_0f7a4_32 : decode cJ6_bitCount_0f7a4 32 = .ok (.iand, 1) := by decide +kernel
theorem dJ6_bitCount_0f7a4_33 : decode cJ6_bitCount_0f7a4 33 = .ok (.istore_n 0, 1) := by decide +kernel
theorem dJ6_bitCount_0f7a4_34 : decode cJ6_bitCount_0f7a4 34 = .ok (.iload_n 0, 1) := by decide +kernel
theorem dJ6_bitCount_0f7a4_35 : decode cJ6_bitCount_0f7a4 35 = .ok (.iload_n 0, 1) := by decide +kernel
theorem dJ6_bitCount_0f7a4_36 : decode cJ6_bitCount_0f7a4 36 = .ok (.bipush 8, 2) := by decide +kernel
theorem dJ6_bitCount_0f7a4_38 : decode cJ6_bitCount_0f7a4 38 = .ok (.iushr, 1) := by decide +kernel
theorem dJ6_bitCount_0f7a4_39 : decode cJ6_bitCount_0f7a4 39 = .ok (.iadd, 1) := by decide +kernel
theorem dJ6_bitCount_0f7a4_40 : decode cJ6_bitCount_0f7a4 40 = .ok (.istore_n 0, 1) := by decide +kernel
theorem dJ6_bitCount_0f7a4_41 : decode cJ6_bitCount_0f7a4 41 = .ok (.iload_n 0, 1) := by decide +kernel
theorem dJ6_bitCount_0f7a4_42 : decode cJ6_bitCount_0f7a4 42 = .ok (.iload_n 0, 1) := by decide +kernel
theorem dJ6_bitCount_0f7a4_43 : decode cJ6_bitCount_0f7a4 43 = .ok (.bipush 16, 2) := by decide +kernel
theorem dJ6_bitCount_0f7a4_45 : decode cJ6_bitCount_0f7a4 45 = .ok (.iushr, 1) := by decide +kernel
theorem dJ6_bitCount_0f7a4_46 : decode cJ6_bitCount_0f7a4 46 = .ok (.iadd, 1) := by decide +kernel
theorem dJ6_bitCount_0f7a4_47 : decode cJ6_bitCount_0f7a4 47 = .ok (.istore_n 0, 1) := by decide +kernel
theorem dJ6_bitCount_0f7a4_48 : decode cJ6_bitCount_0f7a4 48 = .ok (.iload_n 0, 1) := by decide +kernel
theorem dJ6_bitCount_0f7a4_49 : decode cJ6_bitCount_0f7a4 49 = .ok (.bipush 63, 2) := by decide +kernel
theorem dJ6_bitCount_0f7a4_51 : decode cJ6_bitCount_0f7a4 51 = .ok (.iand, 1) := by decide +kernel
theorem dJ6_bitCount_0f7a4_52 : decode cJ6_bitCount_0f7a4 52 = .ok (.ireturn, 1) := by decide +kernel
theorem dJ9_max_7cf53_0 : decode cJ9_max_7cf53 0 = .ok (.iload_n 0, 1) := by decide +kernel
theorem dJ9_max_7cf53_1 : decode cJ9_max_7cf53 1 = .ok (.iload_n 1, 1) := by decide +kernel
theorem dJ9_max_7cf53_2 : decode cJ9_max_7cf53 2 = .ok (.if_icmp .lt 7, 3) := by decide +kernel
theorem dJ9_max_7cf53_5 : decode cJ9_max_7cf53 5 = .ok (.iload_n 0, 1) := by decide +kernel
theorem dJ9_max_7cf53_6 : decode cJ9_max_7cf53 6 = .ok (.goto 4, 3) := by decide +kernel
theorem dJ9_max_7cf53_9 : decode cJ9_max_7cf53 9 = .ok (.iload_n 1, 1) := by decide +kernel
theorem dJ9_max_7cf53_10 : decode cJ9_max_7cf53 10 = .ok (.ireturn, 1) := by decide +kernel
theorem dJ9_min_7cf53_0 : decode cJ9_min_7cf53 0 = .ok (.iload_n 0, 1) := by decide +kernel
theorem dJ9_min_7cf53_1 : decode cJ9_min_7cf53 1 = .ok (.iload_n 1, 1) := by decide +kernel
theorem dJ9_min_7cf53_2 : decode cJ9_min_7cf53 2 = .ok (.if_icmp .gt 7, 3) := by decide +kernel
theorem dJ9_min_7cf53_5 : decode cJ9_min_7cf53 5 = .ok (.iload_n 0, 1) := by decide +kernel
theorem dJ9_min_7cf53_6 : decode cJ9_min_7cf53 6 = .ok (.goto 4, 3) := by decide +kernel
theorem dJ9_min_7cf53_9 : decode cJ9_min_7cf53 9 = .ok (.iload_n 1, 1) := by decide +kernel
theorem dJ9_min_7cf53_10 : decode cJ9_min_7cf53 10 = .ok (.ireturn, 1) := by decide +kernel
theorem dJ7_fill_53178_0 : decode cJ7_fill_53178 0 = .ok (.iconst 0, 1) := by decide +kernel
theorem dJ7_fill_53178_1 : decode cJ7_fill_53178 1 = .ok (.istore_n 2, 1) := by decide +kernel
theorem dJ7_fill_53178_2 : decode cJ7_fill_53178 2 = .ok (.aload_n 0, 1) := by decide +kernel
theorem dJ7_fill_53178_3 : decode cJ7_fill_53178 3 = .ok (.arraylength, 1) := by decide +kernel
theorem dJ7_fill_53178_4 : decode cJ7_fill_53178 4 = .ok (.istore_n 3, 1) := by decide +kernel
theorem dJ7_fill_53178_5 : decode cJ7_fill_53178 5 = .ok (.iload_n 2, 1) := by decide +kernel
theorem dJ7_fill_53178_6 : decode cJ7_fill_53178 6 = .ok (.iload_n 3, 1) := by decide +kernel
theorem dJ7_fill_53178_7 : decode cJ7_fill_53178 7 = .ok (.if_icmp .ge 13, 3) := by decide +kernel
theorem dJ7_fill_53178_10 : decode cJ7_fill_53178 10 = .ok (.aload_n 0, 1) := by decide +kernel
theorem dJ7_fill_53178_11 : decode cJ7_fill_53178 11 = .ok (.iload_n 2, 1) := by decide +kernel
theorem dJ7_fill_53178_12 : decode cJ7_fill_53178 12 = .ok (.iload_n 1, 1) := by decide +kernel
theorem dJ7_fill_53178_13 : decode cJ7_fill_53178 13 = .ok (.iastore, 1) := by decide +kernel
theorem dJ7_fill_53178_14 : decode cJ7_fill_53178 14 = .ok (.iinc 2 1, 3) := by decide +kernel
theorem dJ7_fill_53178_17 : decode cJ7_fill_53178 17 = .ok (.goto (-12), 3) := by decide +kernel
theorem dJ7_fill_53178_20 : decode cJ7_fill_53178 20 = .ok (.return_, 1) := by decide +kernel
theorem dL_law_0 : decode cL_law 0 = .ok (.new 7, 3) := by decide +kernel
theorem dL_law_3 : decode cL_law 3 = .ok (.dup, 1) := by decide +kernel
theorem dL_law_4 : decode cL_law 4 = .ok (.invokespecial 9, 3) := by decide +kernel
theorem dL_law_7 : decode cL_law 7 = .ok (.astore_n 1, 1) := by decide +kernel
theorem dL_law_8 : decode cL_law 8 = .ok (.new 10, 3) := by decide +kernel
theorem dL_law_11 : decode cL_law 11 = .ok (.dup, 1) := by decide +kernel
theorem dL_law_12 : decode cL_law 12 = .ok (.invokespecial 12, 3) := by decide +kernel
theorem dL_law_15 : decode cL_law 15 = .ok (.astore_n 2, 1) := by decide +kernel
theorem dL_law_16 : decode cL_law 16 = .ok (.iconst 0, 1) := by decide +kernel
theorem dL_law_17 : decode cL_law 17 = .ok (.istore_n 3, 1) := by decide +kernel
theorem dL_law_18 : decode cL_law 18 = .ok (.iload_n 3, 1) := by decide +kernel
theorem dL_law_19 : decode cL_law 19 = .ok (.aload_n 0, 1) := by decide +kernel
theorem dL_law_20 : decode cL_law 20 = .ok (.arraylength, 1) := by decide +kernel
theorem dL_law_21 : decode cL_law 21 = .ok (.iconst 4, 1) := by decide +kernel
theorem dL_law_22 : decode cL_law 22 = .ok (.isub, 1) := by decide +kernel
theorem dL_law_23 : decode cL_law 23 = .ok (.if_icmp .gt 642, 3) := by decide +kernel
theorem dL_law_26 : decode cL_law 26 = .ok (.aload_n 0, 1) := by decide +kernel
theorem dL_law_27 : decode cL_law 27 = .ok (.iload_n 3, 1) := by decide +kernel
theorem dL_law_28 : decode cL_law 28 = .ok (.iaload, 1) := by decide +kernel
theorem dL_law_29 : decode cL_law 29 = .ok (.bipush 31, 2) := by decide +kernel
theorem dL_law_31 : decode cL_law 31 = .ok (.iand, 1) := by decide +kernel
theorem dL_law_32 : decode cL_law 32 = .ok (.tableswitch 627 0 21 #[104, 127, 140, 153, 166, 199, 222, 255, 288, 321, 354, 367, 380, 403, 436, 449, 508, 521, 564, 577, 590, 613], 104) := by decide +kernel
theorem dL_law_136 : decode cL_law 136 = .ok (.aload_n 1, 1) := by decide +kernel
theorem dL_law_137 : decode cL_law 137 = .ok (.aload_n 0, 1) := by decide +kernel
theorem dL_law_138 : decode cL_law 138 = .ok (.iload_n 3, 1) := by decide +kernel
theorem dL_law_139 : decode cL_law 139 = .ok (.iconst 1, 1) := by decide +kernel
theorem dL_law_140 : decode cL_law 140 = .ok (.iadd, 1) := by decide +kernel
theorem dL_law_141 : decode cL_law 141 = .ok (.iaload, 1) := by decide +kernel
theorem dL_law_142 : decode cL_law 142 = .ok (.invokevirtual 13, 3) := by decide +kernel
theorem dL_law_145 : decode cL_law 145 = .ok (.aload_n 2, 1) := by decide +kernel
theorem dL_law_146 : decode cL_law 146 = .ok (.aload_n 0, 1) := by decide +kernel
theorem dL_law_147 : decode cL_law 147 = .ok (.iload_n 3, 1) := by decide +kernel
theorem dL_law_148 : decode cL_law 148 = .ok (.iconst 1, 1) := by decide +kernel
theorem dL_law_149 : decode cL_law 149 = .ok (.iadd, 1) := by decide +kernel
theorem dL_law_150 : decode cL_law 150 = .ok (.iaload, 1) := by decide +kernel
theorem dL_law_151 : decode cL_law 151 = .ok (.invokevirtual 17, 3) := by decide +kernel
theorem dL_law_154 : decode cL_law 154 = .ok (.if_icmp .eq 505, 3) := by decide +kernel
theorem dL_law_157 : decode cL_law 157 = .ok (.iconst 0, 1) := by decide +kernel
theorem dL_law_158 : decode cL_law 158 = .ok (.ireturn, 1) := by decide +kernel
theorem dL_law_159 : decode cL_law 159 = .ok (.aload_n 1, 1) := by decide +kernel
theorem dL_law_160 : decode cL_law 160 = .ok (.invokevirtual 18, 3) := by decide +kernel
theorem dL_law_163 : decode cL_law 163 = .ok (.aload_n 2, 1) := by decide +kernel
theorem dL_law_164 : decode cL_law 164 = .ok (.invokevirtual 22, 3) := by decide +kernel
theorem dL_law_167 : decode cL_law 167 = .ok (.if_icmp .eq 492, 3) := by decide +kernel
theorem dL_law_170 : decode cL_law 170 = .ok (.iconst 0, 1) := by decide +kernel
theorem dL_law_171 : decode cL_law 171 = .ok (.ireturn, 1) := by decide +kernel
theorem dL_law_172 : decode cL_law 172 = .ok (.aload_n 1, 1) := by decide +kernel
theorem dL_law_173 : decode cL_law 173 = .ok (.invokevirtual 23, 3) := by decide +kernel
theorem dL_law_176 : decode cL_law 176 = .ok (.aload_n 2, 1) := by decide +kernel
theorem dL_law_177 : decode cL_law 177 = .ok (.invokevirtual 26, 3) := by decide +kernel
theorem dL_law_180 : decode cL_law 180 = .ok (.if_icmp .eq 479, 3) := by decide +kernel
theorem dL_law_183 : decode cL_law 183 = .ok (.iconst 0, 1) := by decide +kernel
theorem dL_law_184 : decode cL_law 184 = .ok (.ireturn, 1) := by decide +kernel
theorem dL_law_185 : decode cL_law 185 = .ok (.aload_n 1, 1) := by decide +kernel
theorem dL_law_186 : decode cL_law 186 = .ok (.invokevirtual 27, 3) := by decide +kernel
theorem dL_law_189 : decode cL_law 189 = .ok (.aload_n 2, 1) := by decide +kernel
theorem dL_law_190 : decode cL_law 190 = .ok (.invokevirtual 30, 3) := by decide +kernel
theorem dL_law_193 : decode cL_law 193 = .ok (.if_icmp .eq 466, 3) := by decide +kernel
theorem dL_law_196 : decode cL_law 196 = .ok (.iconst 0, 1) := by decide +kernel
theorem dL_law_197 : decode cL_law 197 = .ok (.ireturn, 1) := by decide +kernel
theorem dL_law_198 : decode cL_law 198 = .ok (.aload_n 1, 1) := by decide +kernel
theorem dL_law_199 : decode cL_law 199 = .ok (.aload_n 0, 1) := by decide +kernel
theorem dL_law_200 : decode cL_law 200 = .ok (.iload_n 3, 1) := by decide +kernel
theorem dL_law_201 : decode cL_law 201 = .ok (.iconst 1, 1) := by decide +kernel
theorem dL_law_202 : decode cL_law 202 = .ok (.iadd, 1) := by decide +kernel
theorem dL_law_203 : decode cL_law 203 = .ok (.iaload, 1) := by decide +kernel
theorem dL_law_204 : decode cL_law 204 = .ok (.aload_n 0, 1) := by decide +kernel
theorem dL_law_205 : decode cL_law 205 = .ok (.iload_n 3, 1) := by decide +kernel
theorem dL_law_206 : decode cL_law 206 = .ok (.iconst 2, 1) := by decide +kernel
theorem dL_law_207 : decode cL_law 207 = .ok (.iadd, 1) := by decide +kernel
theorem dL_law_208 : decode cL_law 208 = .ok (.iaload, 1) := by decide +kernel
theorem dL_law_209 : decode cL_law 209 = .ok (.invokevirtual 31, 3) := by decide +kernel
theorem dL_law_212 : decode cL_law 212 = .ok (.aload_n 2, 1) := by decide +kernel
theorem dL_law_213 : decode cL_law 213 = .ok (.aload_n 0, 1) := by decide +kernel
theorem dL_law_214 : decode cL_law 214 = .ok (.iload_n 3, 1) := by decide +kernel
theorem dL_law_215 : decode cL_law 215 = .ok (.iconst 1, 1) := by decide +kernel
theorem dL_law_216 : decode cL_law 216 = .ok (.iadd, 1) := by decide +kernel
theorem dL_law_217 : decode cL_law 217 = .ok (.iaload, 1) := by decide +kernel
theorem dL_law_218 : decode cL_law 218 = .ok (.aload_n 0, 1) := by decide +kernel
theorem dL_law_219 : decode cL_law 219 = .ok (.iload_n 3, 1) := by decide +kernel
theorem dL_law_220 : decode cL_law 220 = .ok (.iconst 2, 1) := by decide +kernel
theorem dL_law_221 : decode cL_law 221 = .ok (.iadd, 1) := by decide +kernel
theorem dL_law_222 : decode cL_law 222 = .ok (.iaload, 1) := by decide +kernel
theorem dL_law_223 : decode cL_law 223 = .ok (.invokevirtual 35, 3) := by decide +kernel
theorem dL_law_226 : decode cL_law 226 = .ok (.if_icmp .eq 433, 3) := by decide +kernel
theorem dL_law_229 : decode cL_law 229 = .ok (.iconst 0, 1) := by decide +kernel
theorem dL_law_230 : decode cL_law 230 = .ok (.ireturn, 1) := by decide +kernel
theorem dL_law_231 : decode cL_law 231 = .ok (.aload_n 1, 1) := by decide +kernel
theorem dL_law_232 : decode cL_law 232 = .ok (.aload_n 0, 1) := by decide +kernel
theorem dL_law_233 : decode cL_law 233 = .ok (.iload_n 3, 1) := by decide +kernel
theorem dL_law_234 : decode cL_law 234 = .ok (.iconst 1, 1) := by decide +kernel
theorem dL_law_235 : decode cL_law 235 = .ok (.iadd, 1) := by decide +kernel
theorem dL_law_236 : decode cL_law 236 = .ok (.iaload, 1) := by decide +kernel
theorem dL_law_237 : decode cL_law 237 = .ok (.invokevirtual 36, 3) := by decide +kernel
theorem dL_law_240 : decode cL_law 240 = .ok (.aload_n 2, 1) := by decide +kernel
theorem dL_law_241 : decode cL_law 241 = .ok (.aload_n 0, 1) := by decide +kernel
theorem dL_law_242 : decode cL_law 242 = .ok (.iload_n 3, 1) := by decide +kernel
theorem dL_law_243 : decode cL_law 243 = .ok (.iconst 1, 1) := by decide +kernel
theorem dL_law_244 : decode cL_law 244 = .ok (.iadd, 1) := by decide +kernel
theorem dL_law_245 : decode cL_law 245 = .ok (.iaload, 1) := by decide +kernel
theorem dL_law_246 : decode cL_law 246 = .ok (.invokevirtual 39, 3) := by decide +kernel
theorem dL_law_249 : decode cL_law 249 = .ok (.if_icmp .eq 410, 3) := by decide +kernel
theorem dL_law_252 : decode cL_law 252 = .ok (.iconst 0, 1) := by decide +kernel
theorem dL_law_253 : decode cL_law 253 = .ok (.ireturn, 1) := by decide +kernel
theorem dL_law_254 : decode cL_law 254 = .ok (.aload_n 1, 1) := by decide +kernel
theorem dL_law_255 : decode cL_law 255 = .ok (.aload_n 0, 1) := by decide +kernel
theorem dL_law_256 : decode cL_law 256 = .ok (.iload_n 3, 1) := by decide +kernel
theorem dL_law_257 : decode cL_law 257 = .ok (.iconst 1, 1) := by decide +kernel
theorem dL_law_258 : decode cL_law 258 = .ok (.iadd, 1) := by decide +kernel
theorem dL_law_259 : decode cL_law 259 = .ok (.iaload, 1) := by decide +kernel
theorem dL_law_260 : decode cL_law 260 = .ok (.aload_n 0, 1) := by decide +kernel
theorem dL_law_261 : decode cL_law 261 = .ok (.iload_n 3, 1) := by decide +kernel
theorem dL_law_262 : decode cL_law 262 = .ok (.iconst 2, 1) := by decide +kernel
theorem dL_law_263 : decode cL_law 263 = .ok (.iadd, 1) := by decide +kernel
theorem dL_law_264 : decode cL_law 264 = .ok (.iaload, 1) := by decide +kernel
theorem dL_law_265 : decode cL_law 265 = .ok (.invokevirtual 40, 3) := by decide +kernel
theorem dL_law_268 : decode cL_law 268 = .ok (.aload_n 2, 1) := by decide +kernel
theorem dL_law_269 : decode cL_law 269 = .ok (.aload_n 0, 1) := by decide +kernel
theorem dL_law_270 : decode cL_law 270 = .ok (.iload_n 3, 1) := by decide +kernel
theorem dL_law_271 : decode cL_law 271 = .ok (.iconst 1, 1) := by decide +kernel
theorem dL_law_272 : decode cL_law 272 = .ok (.iadd, 1) := by decide +kernel
theorem dL_law_273 : decode cL_law 273 = .ok (.iaload, 1) := by decide +kernel
theorem dL_law_274 : decode cL_law 274 = .ok (.aload_n 0, 1) := by decide +kernel
theorem dL_law_275 : decode cL_law 275 = .ok (.iload_n 3, 1) := by decide +kernel
theorem dL_law_276 : decode cL_law 276 = .ok (.iconst 2, 1) := by decide +kernel
theorem dL_law_277 : decode cL_law 277 = .ok (.iadd, 1) := by decide +kernel
theorem dL_law_278 : decode cL_law 278 = .ok (.iaload, 1) := by decide +kernel
theorem dL_law_279 : decode cL_law 279 = .ok (.invokevirtual 43, 3) := by decide +kernel
theorem dL_law_282 : decode cL_law 282 = .ok (.if_icmp .eq 377, 3) := by decide +kernel
theorem dL_law_285 : decode cL_law 285 = .ok (.iconst 0, 1) := by decide +kernel
theorem dL_law_286 : decode cL_law 286 = .ok (.ireturn, 1) := by decide +kernel
theorem dL_law_287 : decode cL_law 287 = .ok (.aload_n 1, 1) := by decide +kernel
theorem dL_law_288 : decode cL_law 288 = .ok (.aload_n 0, 1) := by decide +kernel
theorem dL_law_289 : decode cL_law 289 = .ok (.iload_n 3, 1) := by decide +kernel
theorem dL_law_290 : decode cL_law 290 = .ok (.iconst 1, 1) := by decide +kernel
theorem dL_law_291 : decode cL_law 291 = .ok (.iadd, 1) := by decide +kernel
theorem dL_law_292 : decode cL_law 292 = .ok (.iaload, 1) := by decide +kernel
theorem dL_law_293 : decode cL_law 293 = .ok (.aload_n 0, 1) := by decide +kernel
theorem dL_law_294 : decode cL_law 294 = .ok (.iload_n 3, 1) := by decide +kernel
theorem dL_law_295 : decode cL_law 295 = .ok (.iconst 2, 1) := by decide +kernel
theorem dL_law_296 : decode cL_law 296 = .ok (.iadd, 1) := by decide +kernel
theorem dL_law_297 : decode cL_law 297 = .ok (.iaload, 1) := by decide +kernel
theorem dL_law_298 : decode cL_law 298 = .ok (.invokevirtual 44, 3) := by decide +kernel
theorem dL_law_301 : decode cL_law 301 = .ok (.aload_n 2, 1) := by decide +kernel
theorem dL_law_302 : decode cL_law 302 = .ok (.aload_n 0, 1) := by decide +kernel
theorem dL_law_303 : decode cL_law 303 = .ok (.iload_n 3, 1) := by decide +kernel
theorem dL_law_304 : decode cL_law 304 = .ok (.iconst 1, 1) := by decide +kernel
theorem dL_law_305 : decode cL_law 305 = .ok (.iadd, 1) := by decide +kernel
theorem dL_law_306 : decode cL_law 306 = .ok (.iaload, 1) := by decide +kernel
theorem dL_law_307 : decode cL_law 307 = .ok (.aload_n 0, 1) := by decide +kernel
theorem dL_law_308 : decode cL_law 308 = .ok (.iload_n 3, 1) := by decide +kernel
theorem dL_law_309 : decode cL_law 309 = .ok (.iconst 2, 1) := by decide +kernel
theorem dL_law_310 : decode cL_law 310 = .ok (.iadd, 1) := by decide +kernel
theorem dL_law_311 : decode cL_law 311 = .ok (.iaload, 1) := by decide +kernel
theorem dL_law_312 : decode cL_law 312 = .ok (.invokevirtual 47, 3) := by decide +kernel
theorem dL_law_315 : decode cL_law 315 = .ok (.if_icmp .eq 344, 3) := by decide +kernel
theorem dL_law_318 : decode cL_law 318 = .ok (.iconst 0, 1) := by decide +kernel
theorem dL_law_319 : decode cL_law 319 = .ok (.ireturn, 1) := by decide +kernel
theorem dL_law_320 : decode cL_law 320 = .ok (.aload_n 1, 1) := by decide +kernel
theorem dL_law_321 : decode cL_law 321 = .ok (.aload_n 0, 1) := by decide +kernel
theorem dL_law_322 : decode cL_law 322 = .ok (.iload_n 3, 1) := by decide +kernel
theorem dL_law_323 : decode cL_law 323 = .ok (.iconst 1, 1) := by decide +kernel
theorem dL_law_324 : decode cL_law 324 = .ok (.iadd, 1) := by decide +kernel
theorem dL_law_325 : decode cL_law 325 = .ok (.iaload, 1) := by decide +kernel
theorem dL_law_326 : decode cL_law 326 = .ok (.aload_n 0, 1) := by decide +kernel
theorem dL_law_327 : decode cL_law 327 = .ok (.iload_n 3, 1) := by decide +kernel
theorem dL_law_328 : decode cL_law 328 = .ok (.iconst 2, 1) := by decide +kernel
theorem dL_law_329 : decode cL_law 329 = .ok (.iadd, 1) := by decide +kernel
theorem dL_law_330 : decode cL_law 330 = .ok (.iaload, 1) := by decide +kernel
theorem dL_law_331 : decode cL_law 331 = .ok (.invokevirtual 48, 3) := by decide +kernel
theorem dL_law_334 : decode cL_law 334 = .ok (.aload_n 2, 1) := by decide +kernel
theorem dL_law_335 : decode cL_law 335 = .ok (.aload_n 0, 1) := by decide +kernel
theorem dL_law_336 : decode cL_law 336 = .ok (.iload_n 3, 1) := by decide +kernel
theorem dL_law_337 : decode cL_law 337 = .ok (.iconst 1, 1) := by decide +kernel
theorem dL_law_338 : decode cL_law 338 = .ok (.iadd, 1) := by decide +kernel
theorem dL_law_339 : decode cL_law 339 = .ok (.iaload, 1) := by decide +kernel
theorem dL_law_340 : decode cL_law 340 = .ok (.aload_n 0, 1) := by decide +kernel
theorem dL_law_341 : decode cL_law 341 = .ok (.iload_n 3, 1) := by decide +kernel
theorem dL_law_342 : decode cL_law 342 = .ok (.iconst 2, 1) := by decide +kernel
theorem dL_law_343 : decode cL_law 343 = .ok (.iadd, 1) := by decide +kernel
theorem dL_law_344 : decode cL_law 344 = .ok (.iaload, 1) := by decide +kernel
theorem dL_law_345 : decode cL_law 345 = .ok (.invokevirtual 51, 3) := by decide +kernel
theorem dL_law_348 : decode cL_law 348 = .ok (.if_icmp .eq 311, 3) := by decide +kernel
theorem dL_law_351 : decode cL_law 351 = .ok (.iconst 0, 1) := by decide +kernel
theorem dL_law_352 : decode cL_law 352 = .ok (.ireturn, 1) := by decide +kernel
theorem dL_law_353 : decode cL_law 353 = .ok (.aload_n 1, 1) := by decide +kernel
theorem dL_law_354 : decode cL_law 354 = .ok (.aload_n 0, 1) := by decide +kernel
theorem dL_law_355 : decode cL_law 355 = .ok (.iload_n 3, 1) := by decide +kernel
end
section
theorem dL_law_356 : decode cL_law 356 = .ok (.iconst 1, 1) := by decide +kernel
theorem dL_law_357 : decode cL_law 357 = .ok (.iadd, 1) := by decide +kernel
theorem dL_law_358 : decode cL_law 358 = .ok (.iaload, 1) := by decide +kernel
theorem dL_law_359 : decode cL_law 359 = .ok (.aload_n 0, 1) := by decide +kernel
theorem dL_law_360 : decode cL_law 360 = .ok (.iload_n 3, 1) := by decide +kernel
theorem dL_law_361 : decode cL_law 361 = .ok (.iconst 2, 1) := by decide +kernel
theorem dL_law_362 : decode cL_law 362 = .ok (.iadd, 1) := by decide +kernel
theorem dL_law_363 : decode cL_law 363 = .ok (.iaload, 1) := by decide +kernel
theorem dL_law_364 : decode cL_law 364 = .ok (.invokevirtual 52, 3) := by decide +kernel
theorem dL_law_367 : decode cL_law 367 = .ok (.aload_n 2, 1) := by decide +kernel
theorem dL_law_368 : decode cL_law 368 = .ok (.aload_n 0, 1) := by decide +kernel
theorem dL_law_369 : decode cL_law 369 = .ok (.iload_n 3, 1) := by decide +kernel
theorem dL_law_370 : decode cL_law 370 = .ok (.iconst 1, 1) := by decide +kernel
theorem dL_law_371 : decode cL_law 371 = .ok (.iadd, 1) := by decide +kernel
theorem dL_law_372 : decode cL_law 372 = .ok (.iaload, 1) := by decide +kernel
theorem dL_law_373 : decode cL_law 373 = .ok (.aload_n 0, 1) := by decide +kernel
theorem dL_law_374 : decode cL_law 374 = .ok (.iload_n 3, 1) := by decide +kernel
theorem dL_law_375 : decode cL_law 375 = .ok (.iconst 2, 1) := by decide +kernel
theorem dL_law_376 : decode cL_law 376 = .ok (.iadd, 1) := by decide +kernel
theorem dL_law_377 : decode cL_law 377 = .ok (.iaload, 1) := by decide +kernel
theorem dL_law_378 : decode cL_law 378 = .ok (.invokevirtual 55, 3) := by decide +kernel
theorem dL_law_381 : decode cL_law 381 = .ok (.if_icmp .eq 278, 3) := by decide +kernel
theorem dL_law_384 : decode cL_law 384 = .ok (.iconst 0, 1) := by decide +kernel
theorem dL_law_385 : decode cL_law 385 = .ok (.ireturn, 1) := by decide +kernel
theorem dL_law_386 : decode cL_law 386 = .ok (.aload_n 1, 1) := by decide +kernel
theorem dL_law_387 : decode cL_law 387 = .ok (.invokevirtual 56, 3) := by decide +kernel
theorem dL_law_390 : decode cL_law 390 = .ok (.aload_n 2, 1) := by decide +kernel
theorem dL_law_391 : decode cL_law 391 = .ok (.invokevirtual 59, 3) := by decide +kernel
theorem dL_law_394 : decode cL_law 394 = .ok (.if_icmp .eq 265, 3) := by decide +kernel
theorem dL_law_397 : decode cL_law 397 = .ok (.iconst 0, 1) := by decide +kernel
theorem dL_law_398 : decode cL_law 398 = .ok (.ireturn, 1) := by decide +kernel
theorem dL_law_399 : decode cL_law 399 = .ok (.aload_n 1, 1) := by decide +kernel
theorem dL_law_400 : decode cL_law 400 = .ok (.invokevirtual 60, 3) := by decide +kernel
theorem dL_law_403 : decode cL_law 403 = .ok (.aload_n 2, 1) := by decide +kernel
theorem dL_law_404 : decode cL_law 404 = .ok (.invokevirtual 63, 3) := by decide +kernel
theorem dL_law_407 : decode cL_law 407 = .ok (.if_icmp .eq 252, 3) := by decide +kernel
theorem dL_law_410 : decode cL_law 410 = .ok (.iconst 0, 1) := by decide +kernel
theorem dL_law_411 : decode cL_law 411 = .ok (.ireturn, 1) := by decide +kernel
theorem dL_law_412 : decode cL_law 412 = .ok (.aload_n 1, 1) := by decide +kernel
theorem dL_law_413 : decode cL_law 413 = .ok (.aload_n 0, 1) := by decide +kernel
theorem dL_law_414 : decode cL_law 414 = .ok (.iload_n 3, 1) := by decide +kernel
theorem dL_law_415 : decode cL_law 415 = .ok (.iconst 1, 1) := by decide +kernel
theorem dL_law_416 : decode cL_law 416 = .ok (.iadd, 1) := by decide +kernel
theorem dL_law_417 : decode cL_law 417 = .ok (.iaload, 1) := by decide +kernel
theorem dL_law_418 : decode cL_law 418 = .ok (.invokevirtual 64, 3) := by decide +kernel
theorem dL_law_421 : decode cL_law 421 = .ok (.aload_n 2, 1) := by decide +kernel
theorem dL_law_422 : decode cL_law 422 = .ok (.aload_n 0, 1) := by decide +kernel
theorem dL_law_423 : decode cL_law 423 = .ok (.iload_n 3, 1) := by decide +kernel
theorem dL_law_424 : decode cL_law 424 = .ok (.iconst 1, 1) := by decide +kernel
theorem dL_law_425 : decode cL_law 425 = .ok (.iadd, 1) := by decide +kernel
theorem dL_law_426 : decode cL_law 426 = .ok (.iaload, 1) := by decide +kernel
theorem dL_law_427 : decode cL_law 427 = .ok (.invokevirtual 67, 3) := by decide +kernel
theorem dL_law_430 : decode cL_law 430 = .ok (.if_icmp .eq 229, 3) := by decide +kernel
theorem dL_law_433 : decode cL_law 433 = .ok (.iconst 0, 1) := by decide +kernel
theorem dL_law_434 : decode cL_law 434 = .ok (.ireturn, 1) := by decide +kernel
theorem dL_law_435 : decode cL_law 435 = .ok (.aload_n 1, 1) := by decide +kernel
theorem dL_law_436 : decode cL_law 436 = .ok (.aload_n 0, 1) := by decide +kernel
theorem dL_law_437 : decode cL_law 437 = .ok (.iload_n 3, 1) := by decide +kernel
theorem dL_law_438 : decode cL_law 438 = .ok (.iconst 1, 1) := by decide +kernel
theorem dL_law_439 : decode cL_law 439 = .ok (.iadd, 1) := by decide +kernel
theorem dL_law_440 : decode cL_law 440 = .ok (.iaload, 1) := by decide +kernel
theorem dL_law_441 : decode cL_law 441 = .ok (.aload_n 0, 1) := by decide +kernel
theorem dL_law_442 : decode cL_law 442 = .ok (.iload_n 3, 1) := by decide +kernel
theorem dL_law_443 : decode cL_law 443 = .ok (.iconst 2, 1) := by decide +kernel
theorem dL_law_444 : decode cL_law 444 = .ok (.iadd, 1) := by decide +kernel
theorem dL_law_445 : decode cL_law 445 = .ok (.iaload, 1) := by decide +kernel
theorem dL_law_446 : decode cL_law 446 = .ok (.invokevirtual 68, 3) := by decide +kernel
theorem dL_law_449 : decode cL_law 449 = .ok (.aload_n 2, 1) := by decide +kernel
theorem dL_law_450 : decode cL_law 450 = .ok (.aload_n 0, 1) := by decide +kernel
theorem dL_law_451 : decode cL_law 451 = .ok (.iload_n 3, 1) := by decide +kernel
theorem dL_law_452 : decode cL_law 452 = .ok (.iconst 1, 1) := by decide +kernel
theorem dL_law_453 : decode cL_law 453 = .ok (.iadd, 1) := by decide +kernel
theorem dL_law_454 : decode cL_law 454 = .ok (.iaload, 1) := by decide +kernel
theorem dL_law_455 : decode cL_law 455 = .ok (.aload_n 0, 1) := by decide +kernel
theorem dL_law_456 : decode cL_law 456 = .ok (.iload_n 3, 1) := by decide +kernel
theorem dL_law_457 : decode cL_law 457 = .ok (.iconst 2, 1) := by decide +kernel
theorem dL_law_458 : decode cL_law 458 = .ok (.iadd, 1) := by decide +kernel
theorem dL_law_459 : decode cL_law 459 = .ok (.iaload, 1) := by decide +kernel
theorem dL_law_460 : decode cL_law 460 = .ok (.invokevirtual 71, 3) := by decide +kernel
theorem dL_law_463 : decode cL_law 463 = .ok (.if_icmp .eq 196, 3) := by decide +kernel
theorem dL_law_466 : decode cL_law 466 = .ok (.iconst 0, 1) := by decide +kernel
theorem dL_law_467 : decode cL_law 467 = .ok (.ireturn, 1) := by decide +kernel
theorem dL_law_468 : decode cL_law 468 = .ok (.aload_n 1, 1) := by decide +kernel
theorem dL_law_469 : decode cL_law 469 = .ok (.invokevirtual 72, 3) := by decide +kernel
theorem dL_law_472 : decode cL_law 472 = .ok (.aload_n 2, 1) := by decide +kernel
theorem dL_law_473 : decode cL_law 473 = .ok (.invokevirtual 75, 3) := by decide +kernel
theorem dL_law_476 : decode cL_law 476 = .ok (.if_icmp .eq 183, 3) := by decide +kernel
theorem dL_law_479 : decode cL_law 479 = .ok (.iconst 0, 1) := by decide +kernel
theorem dL_law_480 : decode cL_law 480 = .ok (.ireturn, 1) := by decide +kernel
theorem dL_law_481 : decode cL_law 481 = .ok (.aload_n 1, 1) := by decide +kernel
theorem dL_law_482 : decode cL_law 482 = .ok (.aload_n 0, 1) := by decide +kernel
theorem dL_law_483 : decode cL_law 483 = .ok (.iload_n 3, 1) := by decide +kernel
theorem dL_law_484 : decode cL_law 484 = .ok (.iconst 1, 1) := by decide +kernel
theorem dL_law_485 : decode cL_law 485 = .ok (.iadd, 1) := by decide +kernel
theorem dL_law_486 : decode cL_law 486 = .ok (.iaload, 1) := by decide +kernel
theorem dL_law_487 : decode cL_law 487 = .ok (.aload_n 0, 1) := by decide +kernel
theorem dL_law_488 : decode cL_law 488 = .ok (.iload_n 3, 1) := by decide +kernel
theorem dL_law_489 : decode cL_law 489 = .ok (.iconst 2, 1) := by decide +kernel
theorem dL_law_490 : decode cL_law 490 = .ok (.iadd, 1) := by decide +kernel
theorem dL_law_491 : decode cL_law 491 = .ok (.iaload, 1) := by decide +kernel
theorem dL_law_492 : decode cL_law 492 = .ok (.aload_n 0, 1) := by decide +kernel
theorem dL_law_493 : decode cL_law 493 = .ok (.iload_n 3, 1) := by decide +kernel
theorem dL_law_494 : decode cL_law 494 = .ok (.iconst 3, 1) := by decide +kernel
theorem dL_law_495 : decode cL_law 495 = .ok (.iadd, 1) := by decide +kernel
theorem dL_law_496 : decode cL_law 496 = .ok (.iaload, 1) := by decide +kernel
theorem dL_law_497 : decode cL_law 497 = .ok (.ifCond .eq 7, 3) := by decide +kernel
theorem dL_law_500 : decode cL_law 500 = .ok (.iconst 1, 1) := by decide +kernel
theorem dL_law_501 : decode cL_law 501 = .ok (.goto 4, 3) := by decide +kernel
theorem dL_law_504 : decode cL_law 504 = .ok (.iconst 0, 1) := by decide +kernel
theorem dL_law_505 : decode cL_law 505 = .ok (.invokevirtual 76, 3) := by decide +kernel
theorem dL_law_508 : decode cL_law 508 = .ok (.aload_n 2, 1) := by decide +kernel
theorem dL_law_509 : decode cL_law 509 = .ok (.aload_n 0, 1) := by decide +kernel
theorem dL_law_510 : decode cL_law 510 = .ok (.iload_n 3, 1) := by decide +kernel
theorem dL_law_511 : decode cL_law 511 = .ok (.iconst 1, 1) := by decide +kernel
theorem dL_law_512 : decode cL_law 512 = .ok (.iadd, 1) := by decide +kernel
theorem dL_law_513 : decode cL_law 513 = .ok (.iaload, 1) := by decide +kernel
theorem dL_law_514 : decode cL_law 514 = .ok (.aload_n 0, 1) := by decide +kernel
theorem dL_law_515 : decode cL_law 515 = .ok (.iload_n 3, 1) := by decide +kernel
theorem dL_law_516 : decode cL_law 516 = .ok (.iconst 2, 1) := by decide +kernel
theorem dL_law_517 : decode cL_law 517 = .ok (.iadd, 1) := by decide +kernel
theorem dL_law_518 : decode cL_law 518 = .ok (.iaload, 1) := by decide +kernel
theorem dL_law_519 : decode cL_law 519 = .ok (.aload_n 0, 1) := by decide +kernel
theorem dL_law_520 : decode cL_law 520 = .ok (.iload_n 3, 1) := by decide +kernel
theorem dL_law_521 : decode cL_law 521 = .ok (.iconst 3, 1) := by decide +kernel
theorem dL_law_522 : decode cL_law 522 = .ok (.iadd, 1) := by decide +kernel
theorem dL_law_523 : decode cL_law 523 = .ok (.iaload, 1) := by decide +kernel
theorem dL_law_524 : decode cL_law 524 = .ok (.ifCond .eq 7, 3) := by decide +kernel
theorem dL_law_527 : decode cL_law 527 = .ok (.iconst 1, 1) := by decide +kernel
theorem dL_law_528 : decode cL_law 528 = .ok (.goto 4, 3) := by decide +kernel
theorem dL_law_531 : decode cL_law 531 = .ok (.iconst 0, 1) := by decide +kernel
theorem dL_law_532 : decode cL_law 532 = .ok (.invokevirtual 80, 3) := by decide +kernel
theorem dL_law_535 : decode cL_law 535 = .ok (.if_icmp .eq 124, 3) := by decide +kernel
theorem dL_law_538 : decode cL_law 538 = .ok (.iconst 0, 1) := by decide +kernel
theorem dL_law_539 : decode cL_law 539 = .ok (.ireturn, 1) := by decide +kernel
theorem dL_law_540 : decode cL_law 540 = .ok (.aload_n 1, 1) := by decide +kernel
theorem dL_law_541 : decode cL_law 541 = .ok (.invokevirtual 81, 3) := by decide +kernel
theorem dL_law_544 : decode cL_law 544 = .ok (.aload_n 2, 1) := by decide +kernel
theorem dL_law_545 : decode cL_law 545 = .ok (.invokevirtual 84, 3) := by decide +kernel
theorem dL_law_548 : decode cL_law 548 = .ok (.if_icmp .eq 111, 3) := by decide +kernel
theorem dL_law_551 : decode cL_law 551 = .ok (.iconst 0, 1) := by decide +kernel
theorem dL_law_552 : decode cL_law 552 = .ok (.ireturn, 1) := by decide +kernel
theorem dL_law_553 : decode cL_law 553 = .ok (.aload_n 1, 1) := by decide +kernel
theorem dL_law_554 : decode cL_law 554 = .ok (.aload_n 0, 1) := by decide +kernel
theorem dL_law_555 : decode cL_law 555 = .ok (.iload_n 3, 1) := by decide +kernel
theorem dL_law_556 : decode cL_law 556 = .ok (.iconst 1, 1) := by decide +kernel
theorem dL_law_557 : decode cL_law 557 = .ok (.iadd, 1) := by decide +kernel
theorem dL_law_558 : decode cL_law 558 = .ok (.iaload, 1) := by decide +kernel
theorem dL_law_559 : decode cL_law 559 = .ok (.aload_n 0, 1) := by decide +kernel
theorem dL_law_560 : decode cL_law 560 = .ok (.iload_n 3, 1) := by decide +kernel
theorem dL_law_561 : decode cL_law 561 = .ok (.iconst 2, 1) := by decide +kernel
theorem dL_law_562 : decode cL_law 562 = .ok (.iadd, 1) := by decide +kernel
theorem dL_law_563 : decode cL_law 563 = .ok (.iaload, 1) := by decide +kernel
theorem dL_law_564 : decode cL_law 564 = .ok (.aload_n 0, 1) := by decide +kernel
theorem dL_law_565 : decode cL_law 565 = .ok (.iload_n 3, 1) := by decide +kernel
theorem dL_law_566 : decode cL_law 566 = .ok (.iconst 3, 1) := by decide +kernel
theorem dL_law_567 : decode cL_law 567 = .ok (.iadd, 1) := by decide +kernel
theorem dL_law_568 : decode cL_law 568 = .ok (.iaload, 1) := by decide +kernel
theorem dL_law_569 : decode cL_law 569 = .ok (.invokevirtual 85, 3) := by decide +kernel
theorem dL_law_572 : decode cL_law 572 = .ok (.aload_n 2, 1) := by decide +kernel
theorem dL_law_573 : decode cL_law 573 = .ok (.aload_n 0, 1) := by decide +kernel
theorem dL_law_574 : decode cL_law 574 = .ok (.iload_n 3, 1) := by decide +kernel
theorem dL_law_575 : decode cL_law 575 = .ok (.iconst 1, 1) := by decide +kernel
theorem dL_law_576 : decode cL_law 576 = .ok (.iadd, 1) := by decide +kernel
theorem dL_law_577 : decode cL_law 577 = .ok (.iaload, 1) := by decide +kernel
theorem dL_law_578 : decode cL_law 578 = .ok (.aload_n 0, 1) := by decide +kernel
theorem dL_law_579 : decode cL_law 579 = .ok (.iload_n 3, 1) := by decide +kernel
theorem dL_law_580 : decode cL_law 580 = .ok (.iconst 2, 1) := by decide +kernel
theorem dL_law_581 : decode cL_law 581 = .ok (.iadd, 1) := by decide +kernel
theorem dL_law_582 : decode cL_law 582 = .ok (.iaload, 1) := by decide +kernel
theorem dL_law_583 : decode cL_law 583 = .ok (.aload_n 0, 1) := by decide +kernel
theorem dL_law_584 : decode cL_law 584 = .ok (.iload_n 3, 1) := by decide +kernel
theorem dL_law_585 : decode cL_law 585 = .ok (.iconst 3, 1) := by decide +kernel
theorem dL_law_586 : decode cL_law 586 = .ok (.iadd, 1) := by decide +kernel
theorem dL_law_587 : decode cL_law 587 = .ok (.iaload, 1) := by decide +kernel
theorem dL_law_588 : decode cL_law 588 = .ok (.invokevirtual 89, 3) := by decide +kernel
theorem dL_law_591 : decode cL_law 591 = .ok (.if_icmp .eq 68, 3) := by decide +kernel
theorem dL_law_594 : decode cL_law 594 = .ok (.iconst 0, 1) := by decide +kernel
theorem dL_law_595 : decode cL_law 595 = .ok (.ireturn, 1) := by decide +kernel
theorem dL_law_596 : decode cL_law 596 = .ok (.aload_n 1, 1) := by decide +kernel
theorem dL_law_597 : decode cL_law 597 = .ok (.invokevirtual 90, 3) := by decide +kernel
theorem dL_law_600 : decode cL_law 600 = .ok (.aload_n 2, 1) := by decide +kernel
theorem dL_law_601 : decode cL_law 601 = .ok (.invokevirtual 93, 3) := by decide +kernel
theorem dL_law_604 : decode cL_law 604 = .ok (.if_icmp .eq 55, 3) := by decide +kernel
theorem dL_law_607 : decode cL_law 607 = .ok (.iconst 0, 1) := by decide +kernel
theorem dL_law_608 : decode cL_law 608 = .ok (.ireturn, 1) := by decide +kernel
theorem dL_law_609 : decode cL_law 609 = .ok (.aload_n 1, 1) := by decide +kernel
theorem dL_law_610 : decode cL_law 610 = .ok (.invokevirtual 94, 3) := by decide +kernel
theorem dL_law_613 : decode cL_law 613 = .ok (.aload_n 2, 1) := by decide +kernel
theorem dL_law_614 : decode cL_law 614 = .ok (.invokevirtual 97, 3) := by decide +kernel
theorem dL_law_617 : decode cL_law 617 = .ok (.if_icmp .eq 42, 3) := by decide +kernel
theorem dL_law_620 : decode cL_law 620 = .ok (.iconst 0, 1) := by decide +kernel
theorem dL_law_621 : decode cL_law 621 = .ok (.ireturn, 1) := by decide +kernel
theorem dL_law_622 : decode cL_law 622 = .ok (.aload_n 1, 1) := by decide +kernel
theorem dL_law_623 : decode cL_law 623 = .ok (.aload_n 0, 1) := by decide +kernel
theorem dL_law_624 : decode cL_law 624 = .ok (.iload_n 3, 1) := by decide +kernel
theorem dL_law_625 : decode cL_law 625 = .ok (.iconst 1, 1) := by decide +kernel
theorem dL_law_626 : decode cL_law 626 = .ok (.iadd, 1) := by decide +kernel
theorem dL_law_627 : decode cL_law 627 = .ok (.iaload, 1) := by decide +kernel
theorem dL_law_628 : decode cL_law 628 = .ok (.invokevirtual 98, 3) := by decide +kernel
theorem dL_law_631 : decode cL_law 631 = .ok (.aload_n 2, 1) := by decide +kernel
theorem dL_law_632 : decode cL_law 632 = .ok (.aload_n 0, 1) := by decide +kernel
theorem dL_law_633 : decode cL_law 633 = .ok (.iload_n 3, 1) := by decide +kernel
theorem dL_law_634 : decode cL_law 634 = .ok (.iconst 1, 1) := by decide +kernel
theorem dL_law_635 : decode cL_law 635 = .ok (.iadd, 1) := by decide +kernel
theorem dL_law_636 : decode cL_law 636 = .ok (.iaload, 1) := by decide +kernel
theorem dL_law_637 : decode cL_law 637 = .ok (.invokevirtual 101, 3) := by decide +kernel
theorem dL_law_640 : decode cL_law 640 = .ok (.if_icmp .eq 19, 3) := by decide +kernel
theorem dL_law_643 : decode cL_law 643 = .ok (.iconst 0, 1) := by decide +kernel
theorem dL_law_644 : decode cL_law 644 = .ok (.ireturn, 1) := by decide +kernel
theorem dL_law_645 : decode cL_law 645 = .ok (.aload_n 1, 1) := by decide +kernel
theorem dL_law_646 : decode cL_law 646 = .ok (.invokevirtual 102, 3) := by decide +kernel
theorem dL_law_649 : decode cL_law 649 = .ok (.aload_n 2, 1) := by decide +kernel
theorem dL_law_650 : decode cL_law 650 = .ok (.invokevirtual 106, 3) := by decide +kernel
theorem dL_law_653 : decode cL_law 653 = .ok (.lcmp, 1) := by decide +kernel
theorem dL_law_654 : decode cL_law 654 = .ok (.ifCond .eq 5, 3) := by decide +kernel
theorem dL_law_657 : decode cL_law 657 = .ok (.iconst 0, 1) := by decide +kernel
theorem dL_law_658 : decode cL_law 658 = .ok (.ireturn, 1) := by decide +kernel
theorem dL_law_659 : decode cL_law 659 = .ok (.iinc 3 4, 3) := by decide +kernel
theorem dL_law_662 : decode cL_law 662 = .ok (.goto (-644), 3) := by decide +kernel
theorem dL_law_665 : decode cL_law 665 = .ok (.iconst 1, 1) := by decide +kernel
theorem dL_law_666 : decode cL_law 666 = .ok (.ireturn, 1) := by decide +kernel
end
section
/-! the world: objects by their place in the graph, memory of whole numbers -/
abbrev Mem : Type := Nat → Nat → Int
/-- the child at field k of the object o -/
def ch (o k : Nat) : Nat := 40 * o + k + 3
def lk : List (Nat × Nat) → Nat → Nat
  | [], _ => 999
  | p :: t, o => if o = p.1 then p.2 else lk t o
theorem lk_mem : ∀ (t : List (Nat × Nat)) (o c : Nat), lk t o = c → c ≠ 999 → (o, c) ∈ t
  | [], _, _, h, hc => absurd h.symm hc
  | p :: t, o, c, h, hc => by
    unfold lk at h
    split at h
    · rename_i e
      subst e; subst h
      exact List.mem_cons_self
    · exact List.mem_cons_of_mem _ (lk_mem t o c h hc)
def ktab : List (Nat × Nat) := [(1, 7), (43, 2), (1723, 112), (44, 6), (1763, 3), (70523, 106), (70524, 106), (70525, 106), (1764, 105), (1765, 105), (45, 1), (1803, 108), (1804, 108), (1805, 108), (46, 6), (1843, 3), (73723, 106), (73724, 106), (73725, 106), (1844, 105), (1845, 105), (47, 1), (1883, 108), (1884, 108), (1885, 108), (48, 6), (1923, 3), (76923, 106), (76924, 106), (76925, 106), (1924, 105), (1925, 105), (49, 4), (1963, 3), (78523, 106), (78524, 106), (78525, 106), (1964, 105), (1965, 105), (50, 5), (2003, 3), (80123, 106), (80124, 106), (80125, 106), (2004, 106), (2005, 110), (51, 0), (2, 8), (83, 112), (91, 106), (93, 110), (94, 105), (95, 106), (96, 106), (98, 105), (100, 124), (101, 111), (109, 106), (110, 110), (111, 124)]
theorem ktab_small : ktab.all (fun p => decide (p.2 < 999)) = true := by decide +kernel
def kd (o : Nat) : Nat := lk ktab o
def ids : List Nat := ktab.map (fun p => p.1)
theorem ids_nd : va_nd ids = true := by decide +kernel
theorem kd_in {o c : Nat} (h : kd o = c) (hc : c ≠ 999) : o ∈ ids := List.mem_map.mpr ⟨(o, c), lk_mem _ _ _ h hc, rfl⟩
theorem kd_ch (c k c' : Nat) (h : ktab.all (fun p => !(p.2 == c) || kd (ch p.1 k) == c') = true) (hc : c ≠ 999) {o : Nat} (ho : kd o = c) : kd (ch o k) = c' := by
  have h1 := List.all_eq_true.mp h (o, c) (lk_mem _ _ _ ho hc)
  simpa using h1
abbrev inR (x : Int) : Prop := -2147483648 ≤ x ∧ x ≤ 2147483647
abbrev inL (x : Int) : Prop := -9223372036854775808 ≤ x ∧ x ≤ 9223372036854775807
def iI (x : Int) : Value := .int (Int32.ofInt x)
def lI (x : Int) : Value := .long (Int64.ofInt x)
/-- a step that the walk allows only under c -/
def gd {α : Type} (c : Prop) [Decidable c] (k : Option α) : Option α := if c then k else none
def bnd {α β : Type} (x : Option (α × Mem)) (k : α → Mem → Option β) : Option β := match x with
  | some p => k p.1 p.2
  | none => none
def bnv {β : Type} (x : Option Mem) (k : Mem → Option β) : Option β := match x with
  | some p => k p
  | none => none
def st (M : Mem) (o k : Nat) (v : Int) : Mem := fun a => if a = o then fun j => if j = k then v else M a j else M a
def cpy (M : Mem) (a b n : Nat) : Mem := fun x => if x = b then fun j => if j < n then M a j else M b j else M x
theorem st_same (M : Mem) (o k : Nat) (v : Int) : st M o k v o = fun j => if j = k then v else M o j := by unfold st; rw [if_pos rfl]
theorem st_ne (M : Mem) (o k : Nat) (v : Int) {a : Nat} (h : a ≠ o) : st M o k v a = M a := by unfold st; rw [if_neg h]
theorem cpy_same (M : Mem) (a b n : Nat) : cpy M a b n b = fun j => if j < n then M a j else M b j := by unfold cpy; rw [if_pos rfl]
theorem cpy_ne (M : Mem) (a b n : Nat) {x : Nat} (h : x ≠ b) : cpy M a b n x = M x := by unfold cpy; rw [if_neg h]
/-- the tables' classes and slots, the addresses of the objects, the arrays' class, the two static tables -/
abbrev GP : Type := va_G × (Nat → Nat) × ClassId × Nat × Nat
def rI (g : GP) (o : Nat) : Value := .ref (g.2.1 o)
abbrev vwCl : List vw_C := [(RX0, TX0, 1), (RX1, TX1, 4), (RX2, TX2, 2), (RX3, TX3, 3), (RX4, TX4, 5), (RX5, TX5, 4), (RX6, TX6, 9), (RX7, TX7, 13), (RX8, TX8, 30)]
def entR (g : GP) (o : Nat) (r : Nat → Int) : va_E :=
  if kd o = 0 then .inr (0, [iI (r 0)]) else if kd o = 1 then .inr (1, [rI g (ch o 0), rI g (ch o 1), rI g (ch o 2), iI (r 3)]) else if kd o = 2 then .inr (2, [rI g (ch o 0), iI (r 1)]) else if kd o = 3 then .inr (3, [rI g (ch o 0), rI g (ch o 1), rI g (ch o 2)]) else if kd o = 4 then .inr (4, [rI g (ch o 0), rI g (ch o 1), rI g (ch o 2), iI (r 3), iI (r 4)]) else if kd o = 5 then .inr (5, [rI g (ch o 0), rI g (ch o 1), rI g (ch o 2), iI (r 3)]) else if kd o = 6 then .inr (6, [rI g (ch o 0), rI g (ch o 1), rI g (ch o 2), iI (r 3), iI (r 4), iI (r 5), iI (r 6), iI (r 7), iI (r 8)]) else if kd o = 7 then .inr (7, [rI g (ch o 0), rI g (ch o 1), rI g (ch o 2), rI g (ch o 3), rI g (ch o 4), rI g (ch o 5), rI g (ch o 6), rI g (ch o 7), rI g (ch o 8), iI (r 9), iI (r 10), iI (r 11), iI (r 12)]) else if kd o = 8 then .inr (8, [rI g (ch o 0), iI (r 1), iI (r 2), iI (r 3), iI (r 4), iI (r 5), iI (r 6), iI (r 7), rI g (ch o 8), iI (r 9), rI g (ch o 10), rI g (ch o 11), rI g (ch o 12), rI g (ch o 13), iI (r 14), rI g (ch o 15), iI (r 16), rI g (ch o 17), rI g (ch o 18), iI (r 19), iI (r 20), iI (r 21), iI (r 22), iI (r 23), iI (r 24), iI (r 25), rI g (ch o 26), rI g (ch o 27), rI g (ch o 28), lI (r 29)]) else .inl (g.2.2.1, kd o - 100, .inl (fun j => Int32.ofInt (r j)))
theorem ent_0 {g : GP} {o : Nat} {r : Nat → Int} (h : kd o = 0) : entR g o r = .inr (0, [iI (r 0)]) := by simp [entR, h]
theorem ent_1 {g : GP} {o : Nat} {r : Nat → Int} (h : kd o = 1) : entR g o r = .inr (1, [rI g (ch o 0), rI g (ch o 1), rI g (ch o 2), iI (r 3)]) := by simp [entR, h]
theorem ent_2 {g : GP} {o : Nat} {r : Nat → Int} (h : kd o = 2) : entR g o r = .inr (2, [rI g (ch o 0), iI (r 1)]) := by simp [entR, h]
theorem ent_3 {g : GP} {o : Nat} {r : Nat → Int} (h : kd o = 3) : entR g o r = .inr (3, [rI g (ch o 0), rI g (ch o 1), rI g (ch o 2)]) := by simp [entR, h]
theorem ent_4 {g : GP} {o : Nat} {r : Nat → Int} (h : kd o = 4) : entR g o r = .inr (4, [rI g (ch o 0), rI g (ch o 1), rI g (ch o 2), iI (r 3), iI (r 4)]) := by simp [entR, h]
theorem ent_5 {g : GP} {o : Nat} {r : Nat → Int} (h : kd o = 5) : entR g o r = .inr (5, [rI g (ch o 0), rI g (ch o 1), rI g (ch o 2), iI (r 3)]) := by simp [entR, h]
theorem ent_6 {g : GP} {o : Nat} {r : Nat → Int} (h : kd o = 6) : entR g o r = .inr (6, [rI g (ch o 0), rI g (ch o 1), rI g (ch o 2), iI (r 3), iI (r 4), iI (r 5), iI (r 6), iI (r 7), iI (r 8)]) := by simp [entR, h]
theorem ent_7 {g : GP} {o : Nat} {r : Nat → Int} (h : kd o = 7) : entR g o r = .inr (7, [rI g (ch o 0), rI g (ch o 1), rI g (ch o 2), rI g (ch o 3), rI g (ch o 4), rI g (ch o 5), rI g (ch o 6), rI g (ch o 7), rI g (ch o 8), iI (r 9), iI (r 10), iI (r 11), iI (r 12)]) := by simp [entR, h]
theorem ent_8 {g : GP} {o : Nat} {r : Nat → Int} (h : kd o = 8) : entR g o r = .inr (8, [rI g (ch o 0), iI (r 1), iI (r 2), iI (r 3), iI (r 4), iI (r 5), iI (r 6), iI (r 7), rI g (ch o 8), iI (r 9), rI g (ch o 10), rI g (ch o 11), rI g (ch o 12), rI g (ch o 13), iI (r 14), rI g (ch o 15), iI (r 16), rI g (ch o 17), rI g (ch o 18), iI (r 19), iI (r 20), iI (r 21), iI (r 22), iI (r 23), iI (r 24), iI (r 25), rI g (ch o 26), rI g (ch o 27), rI g (ch o 28), lI (r 29)]) := by simp [entR, h]
theorem ent_A {g : GP} {o n : Nat} {r : Nat → Int} (h : kd o = n + 100) : entR g o r = .inl (g.2.2.1, n, .inl (fun j => Int32.ofInt (r j))) := by
  unfold entR
  rw [h, if_neg (by omega), if_neg (by omega), if_neg (by omega), if_neg (by omega), if_neg (by omega), if_neg (by omega), if_neg (by omega), if_neg (by omega), if_neg (by omega), Nat.add_sub_cancel]
theorem kd_small (o : Nat) : kd o ≤ 999 := by
  by_cases h : kd o = 999
  · omega
  · have h1 := List.all_eq_true.mp ktab_small _ (lk_mem _ _ _ (rfl : kd o = kd o) h)
    have h2 : kd o < 999 := by simpa using h1
    omega
def cw (g : GP) (M : Mem) : va_W := ids.map (fun o => (g.2.1 o, entR g o (M o)))
theorem cw_get {g : GP} {M : Mem} {o q0 : Nat} (h : ids[q0]? = some o) : (cw g M)[q0]? = some (g.2.1 o, entR g o (M o)) := by
  unfold cw
  rw [List.getElem?_map, h]
  rfl
theorem cw_set {g : GP} {M M' : Mem} {o q0 : Nat} {e : va_E} (h : ids[q0]? = some o) (h1 : entR g o (M' o) = e) (h2 : ∀ x, x ≠ o → M' x = M x) : (cw g M).set q0 (g.2.1 o, e) = cw g M' := by
  apply List.ext_getElem?
  intro i
  by_cases hi : i = q0
  · subst hi
    rw [List.getElem?_set_self (List.getElem?_eq_some_iff.mp (cw_get (g := g) (M := M) h)).1, cw_get h, h1]
  · rw [List.getElem?_set_ne (Ne.symm hi)]
    unfold cw
    rw [List.getElem?_map, List.getElem?_map]
    cases hx : ids[i]? with
    | none => rfl
    | some x =>
      have hne : x ≠ o := fun e => hi (va_nd_inj ids ids_nd i q0 o (by rw [hx, e]) h)
      simp only [Option.map_some, h2 x hne]
/-- the cells of the system -/
def Ad (g : GP) : Nat → Prop := fun q => ∃ o ∈ ids, g.2.1 o = q
abbrev Inj (g : GP) : Prop := ∀ o ∈ ids, ∀ o' ∈ ids, g.2.1 o = g.2.1 o' → o = o'
theorem cw_key {g : GP} {M : Mem} (k : Nat) (q : Nat × va_E) (h : (cw g M)[k]? = some q) : ∃ o, ids[k]? = some o ∧ q.1 = g.2.1 o := by
  unfold cw at h
  rw [List.getElem?_map] at h
  cases hx : ids[k]? with
  | none => rw [hx] at h; cases h
  | some x => rw [hx] at h; cases h; exact ⟨x, rfl, rfl⟩
theorem cw_D {g : GP} {M : Mem} (hj : Inj g) : va_D (Ad g) (cw g M) := by
  refine ⟨fun i j p q hi hj' hpq => ?_, fun k q hk => ?_⟩
  · obtain ⟨a, h1, h2⟩ := cw_key i p hi
    obtain ⟨b, h3, h4⟩ := cw_key j q hj'
    have hab : a = b := hj a (List.mem_of_getElem? h1) b (List.mem_of_getElem? h3) (by rw [← h2, ← h4, hpq])
    subst hab
    exact va_nd_inj ids ids_nd i j a h1 h3
  · obtain ⟨a, h1, h2⟩ := cw_key k q hk
    exact ⟨a, List.mem_of_getElem? h1, h2.symm⟩
def wts (i : Int) : Int := if i = 0 then 1 else if i = 1 then 2 else if i = 2 then 0 else if i = 3 then 1 else 4
def brs (i : Int) : Int := if i = 0 then 1 else if i = 1 then 3 else if i = 2 then 1 else if i = 3 then 2 else 3
def NWs : List Cond := [.methodLinkNest "LentGallery" 11 yX2_init "LentGallery", .methodLinkNest "LentGallery" 18 yX6_init "LentGallery", .methodLinkNest "LentGallery$Street" 11 yX3_init "LentGallery", .methodLinkNest "LentGallery" 25 yX1_init "LentGallery", .methodLinkNest "LentGallery" 41 yX4_init "LentGallery", .methodLinkNest "LentGallery$Settling" 11 yX3_init "LentGallery", .methodLinkNest "LentGallery" 48 yX5_init "LentGallery", .methodLinkNest "LentGallery$Sounding" 11 yX3_init "LentGallery", .methodLinkNest "LentGallery" 55 yX0_init "LentGallery", .methodLinkNest "LentGallery$Street" 66 yX7_isKind "LentGallery", .fieldLinkNest "LentGallery$Street" 73 "LentGallery" "WEIGHTS" "[I" "LentGallery", .fieldLinkNest "LentGallery$Street" 89 "LentGallery" "BREATHS" "[I" "LentGallery"]
def nwOK : Cond → Bool
  | .methodLinkNest _ _ _ _ => true
  | .fieldLinkNest _ _ _ _ _ _ => true
  | _ => false
theorem nws_ok : ∀ w ∈ NWs, nwOK w = true := by
  intro w hw
  have h : NWs.all nwOK = true := rfl
  exact List.all_eq_true.mp h w hw
theorem nw_warm {w : Cond} (h : nwOK w = true) {s U : State} (hW : s.WarmedH U.vm) (hZ : va_Nw w s) : va_Nw w U := by
  cases w <;> first | (exact va_Nw.warmM hW hZ) | (exact va_Nw.warmF hW hZ) | (cases h)
theorem nw_tabs {w : Cond} (h : nwOK w = true) : w.onTables = true := by
  cases w <;> first | rfl | (cases h)
/-- what is known of the tables and of the static arrays -/
def GL (g : GP) (U : State) : Prop :=
  va_K g.1 vwCl [(g.2.2.1, .int)] U ∧ (∀ w ∈ NWs, va_Nw w U) ∧ va_Z "LentGallery" "WEIGHTS" "[I" (.ref g.2.2.2.1) (Ad g) U U.heap ∧ va_Z "LentGallery" "BREATHS" "[I" (.ref g.2.2.2.2) (Ad g) U U.heap ∧
  va_T .int g.2.2.2.1 5 (fun j => iI (wts (j : Int))) (Ad g) U U.heap ∧ va_T .int g.2.2.2.2 5 (fun j => iI (brs (j : Int))) (Ad g) U U.heap
theorem GL.call {g : GP} {s U : State} {H : Heap} {locs : List Loc} (h : GL g s) (hW : s.WarmedH U.vm) (hH : U.heap = H) (hS : va_S (Ad g) s.heap H locs) : GL g U := by
  obtain ⟨h1, h2, h3, h4, h5, h6⟩ := h
  subst hH
  exact ⟨va_K.moved hW.alike h1, fun w hw => nw_warm (nws_ok w hw) hW (h2 w hw), (va_Z.moved hW.alike h3).kept hS.2.1, (va_Z.moved hW.alike h4).kept hS.2.1, (va_T.moved hW.alike h5).kept hS.2.1, (va_T.moved hW.alike h6).kept hS.2.1⟩
theorem GL.blind {g : GP} {U : State} {gf : JFrame} {mk : MethodId} {a : Array Value} (h : GL g U) : GL g (U.calling gf mk a) := by
  obtain ⟨h1, h2, h3, h4, h5, h6⟩ := h
  have hvm : U.vm.Alike (U.calling gf mk a).vm := Vm.Alike.refl U.vm
  exact ⟨va_K.moved hvm h1, fun w hw => va_Nw.same (nw_tabs (nws_ok w hw)) (show U.vm = (U.calling gf mk a).vm from rfl) (h2 w hw), va_Z.moved hvm h3, va_Z.moved hvm h4, va_T.moved hvm h5, va_T.moved hvm h6⟩
def Inv (g : GP) (s : State) (M : Mem) (H : Heap) (locs : List Loc) : Prop := va_P g.1 vwCl (cw g M) H ∧ va_S (Ad g) s.heap H locs
def Cx (g : GP) (p : Program) (s : State) (m : MethodId) (args : Array Value) (c : Code) (cc : ByteArray) (nL : Nat) (own : String) : Prop :=
  p.tables.exec = Jvm.exec ∧ c.code = cc ∧ c.maxLocals = nL ∧ s.vm.findClass own = some m.cls ∧ (∀ w ∈ TB, w.before args s = true) ∧ GL g s ∧ Inj g
def PreW (g : GP) (M : Mem) (As : List Value) : Array Value → State → Prop := va_Pc As (fun U => va_P g.1 vwCl (cw g M) U.heap ∧ GL g U)
def PostI (g : GP) (r : Int) (M : Mem) : Array Value → State → Outcome → State → Prop := va_Qi (fun (v : Int32) (_ : Unit) => v = Int32.ofInt r) (fun _ t => va_P g.1 vwCl (cw g M) t.heap) (Ad g)
def PostL (g : GP) (r : Int) (M : Mem) : Array Value → State → Outcome → State → Prop := va_Ql (fun (v : Int64) (_ : Unit) => v = Int64.ofInt r) (fun _ t => va_P g.1 vwCl (cw g M) t.heap) (Ad g)
def PostV (g : GP) (M : Mem) : Array Value → State → Outcome → State → Prop := va_Qv (fun (_ : Unit) => True) (fun _ t => va_P g.1 vwCl (cw g M) t.heap) (Ad g)
def rmK (a b : Nat) : Room := { frames := a, cells := 0, slots := 0, locals := b }
/-! numbers -/
theorem oi_t {x : Int} (h : inR x) : (Int32.ofInt x).toInt = x := Int32.toInt_ofInt_of_le (by omega) (by omega)
theorem ol_t {x : Int} (h : inL x) : (Int64.ofInt x).toInt = x := Int64.toInt_ofInt_of_le (by omega) (by omega)
theorem oi_le {x y : Int} (hx : inR x) (hy : inR y) : Int32.ofInt x ≤ Int32.ofInt y ↔ x ≤ y := by rw [Int32.le_iff_toInt_le, oi_t hx, oi_t hy]
theorem oi_lt {x y : Int} (hx : inR x) (hy : inR y) : Int32.ofInt x < Int32.ofInt y ↔ x < y := by rw [Int32.lt_iff_toInt_lt, oi_t hx, oi_t hy]
theorem oi_eq {x y : Int} (hx : inR x) (hy : inR y) : Int32.ofInt x = Int32.ofInt y ↔ x = y := by rw [← Int32.toInt_inj, oi_t hx, oi_t hy]
theorem inR_t (z : Int32) : inR z.toInt := ⟨by have := z.le_toInt; omega, by have := z.toInt_lt; omega⟩
theorem inL_t (z : Int64) : inL z.toInt := ⟨by have := z.le_toInt; omega, by have := z.toInt_lt; omega⟩
theorem oi_n {i : Int} {n : Nat} (hn : n < 2 ^ 31) (h : 0 ≤ i ∧ i < (n : Int)) : vp_in (Int32.ofInt i) n ∧ (Int32.ofInt i).toNatClampNeg = i.toNat := by
  have hr : inR i := ⟨by omega, by omega⟩
  refine ⟨vp_in_iff.mpr ?_, ?_⟩
  · rw [oi_t hr]; exact h
  · exact Int32.toNatClampNeg_ofInt_of_le (by omega) (by omega)
def i_and (x y : Int) : Int := (Int32.ofInt x &&& Int32.ofInt y).toInt
def i_or (x y : Int) : Int := (Int32.ofInt x ||| Int32.ofInt y).toInt
def i_shl (x y : Int) : Int := (Int32.ofInt x <<< (Int32.ofInt y &&& 31)).toInt
def i_shr (x y : Int) : Int := (Int32.ofInt x >>> (Int32.ofInt y &&& 31)).toInt
def i_ushr (x y : Int) : Int := ((Int32.ofInt x).toUInt32 >>> ((Int32.ofInt y).toUInt32 &&& Int32.toUInt32 31)).toInt32.toInt
def i_div (x y : Int) : Int := (Int32.ofInt x / Int32.ofInt y).toInt
def i_rem (x y : Int) : Int := (Int32.ofInt x - Int32.ofInt x / Int32.ofInt y * Int32.ofInt y).toInt
def l_and (x y : Int) : Int := (Int64.ofInt x &&& Int64.ofInt y).toInt
def l_rem (x y : Int) : Int := (Int64.ofInt x - Int64.ofInt x / Int64.ofInt y * Int64.ofInt y).toInt
def l_cmp (x y : Int) : Int := if x < y then -1 else if x = y then 0 else 1
theorem inR_cmp (x y : Int) : inR (l_cmp x y) := by unfold l_cmp; split <;> (try split) <;> decide
def al (a : Nat) : Int := ((kd a - 100 : Nat) : Int)
abbrev isA (a : Nat) : Prop := 100 ≤ kd a ∧ kd a < 200
theorem isA_k {a n : Nat} (h : kd a = n) (h1 : 100 ≤ n) (h2 : n < 200) : isA a := by unfold isA; omega
theorem isA_eq {a : Nat} (h : isA a) : kd a = (kd a - 100) + 100 := by unfold isA at h; omega
theorem inR_al {a : Nat} (h : isA a) : inR (al a) := by unfold isA at h; unfold al; omega
theorem al_k {a n : Nat} (h : kd a = n + 100) : al a = (n : Int) := by unfold al; rw [h]; simp
end
section
section RW
variable {g : GP} {p : Program} {l : Launch} {e : Env} {R : Room} {s : State} {m : MethodId} {args : Array Value} {below : List Frame} {meth : Method} {c : Code} {H : Heap} {locs : List Loc} {cells slots : Nat} {Q : State → Prop}
variable {cc : ByteArray} {nL : Nat} {own : String} {pc : Nat} {ls : Array Slot} {rest : List Value} {M : Mem} {lv : List (Nat × Value)} {β : Type} {res : β}
theorem r_gd {c : Prop} {dc : Decidable c} {k : Option β} {G : Prop} (h : @gd β c dc k = some res) (kk : c → k = some res → G) : G := by
  unfold gd at h
  by_cases hc : c
  · rw [if_pos hc] at h; exact kk hc h
  · rw [if_neg hc] at h; cases h
theorem r_if {c : Prop} {dc : Decidable c} {A B : Option β} {G : Prop} (h : (@ite (Option β) c dc A B) = some res) (kt : c → A = some res → G) (kf : ¬ c → B = some res → G) : G := by
  by_cases hc : c
  · rw [if_pos hc] at h; exact kt hc h
  · rw [if_neg hc] at h; exact kf hc h
theorem r_iconst (C : Cx g p s m args c cc nL own) {n : Int} (hd : decode cc pc = .ok (.iconst n, 1)) (k : W p l e R s m args below meth c H locs cells slots Q (F0 m (pc + 1) ls (iI n :: rest))) : W p l e R s m args below meth c H locs cells slots Q (F0 m pc ls rest) :=
  lv_iconst C.1 C.2.1 hd rfl k
theorem r_bipush (C : Cx g p s m args c cc nL own) {n : Int} (hd : decode cc pc = .ok (.bipush n, 2)) (hn : (Int8.ofInt n).toInt32 = Int32.ofInt n) (k : W p l e R s m args below meth c H locs cells slots Q (F0 m (pc + 2) ls (iI n :: rest))) : W p l e R s m args below meth c H locs cells slots Q (F0 m pc ls rest) :=
  lv_bipush C.1 C.2.1 hd hn k
theorem r_sipush (C : Cx g p s m args c cc nL own) {n : Int} (hd : decode cc pc = .ok (.sipush n, 3)) (hn : (Int16.ofInt n).toInt32 = Int32.ofInt n) (k : W p l e R s m args below meth c H locs cells slots Q (F0 m (pc + 3) ls (iI n :: rest))) : W p l e R s m args below meth c H locs cells slots Q (F0 m pc ls rest) :=
  lv_sipush C.1 C.2.1 hd hn k
theorem r_lconst (C : Cx g p s m args c cc nL own) {n : Fin 2} {v : Int} (hd : decode cc pc = .ok (.lconst n, 1)) (hv : Int64.ofNat (n : Nat) = Int64.ofInt v) (k : W p l e R s m args below meth c H locs cells slots Q (F0 m (pc + 1) ls (lI v :: rest))) : W p l e R s m args below meth c H locs cells slots Q (F0 m pc ls rest) :=
  lv_lconst C.1 C.2.1 hd hv k
theorem r_ldc (C : Cx g p s m args c cc nL own) {index : Nat} {v : Int32} {n : Int} (hw : Cond.constant own index v ∈ TB) (hv : v = Int32.ofInt n) (hd : decode cc pc = .ok (.ldc index, 2)) (k : W p l e R s m args below meth c H locs cells slots Q (F0 m (pc + 2) ls (iI n :: rest))) : W p l e R s m args below meth c H locs cells slots Q (F0 m pc ls rest) := by
  subst hv
  exact lv_ldc C.1 C.2.1 C.2.2.2.1 (C.2.2.2.2.1 _ hw) hd k
theorem r_ldcw (C : Cx g p s m args c cc nL own) {index : Nat} {v : Int32} {n : Int} (hw : Cond.constant own index v ∈ TB) (hv : v = Int32.ofInt n) (hd : decode cc pc = .ok (.ldc_w index, 3)) (k : W p l e R s m args below meth c H locs cells slots Q (F0 m (pc + 3) ls (iI n :: rest))) : W p l e R s m args below meth c H locs cells slots Q (F0 m pc ls rest) := by
  subst hv
  exact lv_ldcw C.1 C.2.1 C.2.2.2.1 (C.2.2.2.2.1 _ hw) hd k
theorem r_ldc2 (C : Cx g p s m args c cc nL own) {index : Nat} {v : Int64} {n : Int} (hw : Cond.constantLong own index v ∈ TB) (hv : v = Int64.ofInt n) (hd : decode cc pc = .ok (.ldc2_w index, 3)) (k : W p l e R s m args below meth c H locs cells slots Q (F0 m (pc + 3) ls (lI n :: rest))) : W p l e R s m args below meth c H locs cells slots Q (F0 m pc ls rest) := by
  subst hv
  exact lv_ldc2 C.1 C.2.1 C.2.2.2.1 (C.2.2.2.2.1 _ hw) hd k
theorem r_iload_n (C : Cx g p s m args c cc nL own) (hl : lv_has ls nL lv) {k : Fin 4} {i : Nat} {x : Int} (j : Nat) (hd : decode cc pc = .ok (.iload_n k, 1)) (hi : (k : Nat) = i) (hj : lv[j]? = some (i, iI x)) (kk : W p l e R s m args below meth c H locs cells slots Q (F0 m (pc + 1) ls (iI x :: rest))) : W p l e R s m args below meth c H locs cells slots Q (F0 m pc ls rest) :=
  lv_iload_n C.1 C.2.1 hd hi (lv_at hl j hj) kk
theorem r_iload (C : Cx g p s m args c cc nL own) (hl : lv_has ls nL lv) {i : Nat} {x : Int} (j : Nat) (hd : decode cc pc = .ok (.iload i, 2)) (hj : lv[j]? = some (i, iI x)) (kk : W p l e R s m args below meth c H locs cells slots Q (F0 m (pc + 2) ls (iI x :: rest))) : W p l e R s m args below meth c H locs cells slots Q (F0 m pc ls rest) :=
  lv_iload C.1 C.2.1 hd (lv_at hl j hj) kk
theorem r_lload_n (C : Cx g p s m args c cc nL own) (hl : lv_has ls nL lv) {k : Fin 4} {i : Nat} {x : Int} (j : Nat) (hd : decode cc pc = .ok (.lload_n k, 1)) (hi : (k : Nat) = i) (hj : lv[j]? = some (i, lI x)) (kk : W p l e R s m args below meth c H locs cells slots Q (F0 m (pc + 1) ls (lI x :: rest))) : W p l e R s m args below meth c H locs cells slots Q (F0 m pc ls rest) :=
  lv_lload_n C.1 C.2.1 hd hi (lv_at hl j hj) kk
theorem r_lload (C : Cx g p s m args c cc nL own) (hl : lv_has ls nL lv) {i : Nat} {x : Int} (j : Nat) (hd : decode cc pc = .ok (.lload i, 2)) (hj : lv[j]? = some (i, lI x)) (kk : W p l e R s m args below meth c H locs cells slots Q (F0 m (pc + 2) ls (lI x :: rest))) : W p l e R s m args below meth c H locs cells slots Q (F0 m pc ls rest) :=
  lv_lload C.1 C.2.1 hd (lv_at hl j hj) kk
theorem r_aload_n (C : Cx g p s m args c cc nL own) (hl : lv_has ls nL lv) {k : Fin 4} {i o : Nat} (j : Nat) (hd : decode cc pc = .ok (.aload_n k, 1)) (hi : (k : Nat) = i) (hj : lv[j]? = some (i, rI g o)) (kk : W p l e R s m args below meth c H locs cells slots Q (F0 m (pc + 1) ls (rI g o :: rest))) : W p l e R s m args below meth c H locs cells slots Q (F0 m pc ls rest) :=
  lv_aload_n C.1 C.2.1 hd hi (lv_at hl j hj) kk
theorem r_istore_n (C : Cx g p s m args c cc nL own) (hl : lv_has ls nL lv) {k : Fin 4} {i : Nat} {x : Int} {lv' : List (Nat × Value)} (hd : decode cc pc = .ok (.istore_n k, 1)) (hi : (k : Nat) = i) (hn : i < nL) (hv : (i, iI x) :: lv.filter (fun q => !(q.1 == i) && !(q.1 + 1 == i && q.2.category == 2)) = lv') (kk : ∀ ls' : Array Slot, lv_has ls' nL lv' → W p l e R s m args below meth c H locs cells slots Q (F0 m (pc + 1) ls' rest)) : W p l e R s m args below meth c H locs cells slots Q (F0 m pc ls (iI x :: rest)) :=
  lv_istore_n C.1 C.2.1 hd hi hl hn hv kk
theorem r_istore (C : Cx g p s m args c cc nL own) (hl : lv_has ls nL lv) {i : Nat} {x : Int} {lv' : List (Nat × Value)} (hd : decode cc pc = .ok (.istore i, 2)) (hn : i < nL) (hv : (i, iI x) :: lv.filter (fun q => !(q.1 == i) && !(q.1 + 1 == i && q.2.category == 2)) = lv') (kk : ∀ ls' : Array Slot, lv_has ls' nL lv' → W p l e R s m args below meth c H locs cells slots Q (F0 m (pc + 2) ls' rest)) : W p l e R s m args below meth c H locs cells slots Q (F0 m pc ls (iI x :: rest)) :=
  lv_istore C.1 C.2.1 hd hl hn hv kk
theorem r_lstore_n (C : Cx g p s m args c cc nL own) (hl : lv_has ls nL lv) {k : Fin 4} {i : Nat} {x : Int} {lv' : List (Nat × Value)} (hd : decode cc pc = .ok (.lstore_n k, 1)) (hi : (k : Nat) = i) (hn : i + 1 < nL) (hv : (i, lI x) :: lv.filter (fun q => !(q.1 == i) && (!(q.1 == i + 1) && !(q.1 + 1 == i && q.2.category == 2))) = lv') (kk : ∀ ls' : Array Slot, lv_has ls' nL lv' → W p l e R s m args below meth c H locs cells slots Q (F0 m (pc + 1) ls' rest)) : W p l e R s m args below meth c H locs cells slots Q (F0 m pc ls (lI x :: rest)) :=
  lv_lstore_n C.1 C.2.1 hd hi hl hn hv kk
theorem r_lstore (C : Cx g p s m args c cc nL own) (hl : lv_has ls nL lv) {i : Nat} {x : Int} {lv' : List (Nat × Value)} (hd : decode cc pc = .ok (.lstore i, 2)) (hn : i + 1 < nL) (hv : (i, lI x) :: lv.filter (fun q => !(q.1 == i) && (!(q.1 == i + 1) && !(q.1 + 1 == i && q.2.category == 2))) = lv') (kk : ∀ ls' : Array Slot, lv_has ls' nL lv' → W p l e R s m args below meth c H locs cells slots Q (F0 m (pc + 2) ls' rest)) : W p l e R s m args below meth c H locs cells slots Q (F0 m pc ls (lI x :: rest)) :=
  lv_lstore C.1 C.2.1 hd hl hn hv kk
theorem r_iinc (C : Cx g p s m args c cc nL own) (hl : lv_has ls nL lv) {i : Nat} {n x : Int} {lv' : List (Nat × Value)} (j : Nat) (hd : decode cc pc = .ok (.iinc i n, 3)) (hj : lv[j]? = some (i, iI x)) (hn : i < nL) (hv : (i, iI (x + n)) :: lv.filter (fun q => !(q.1 == i) && !(q.1 + 1 == i && q.2.category == 2)) = lv') (kk : ∀ ls' : Array Slot, lv_has ls' nL lv' → W p l e R s m args below meth c H locs cells slots Q (F0 m (pc + 3) ls' rest)) : W p l e R s m args below meth c H locs cells slots Q (F0 m pc ls rest) :=
  lv_iinc C.1 C.2.1 hd hl (k := j) hj (Int32.ofInt_add x n).symm hn hv kk
theorem r_iadd (C : Cx g p s m args c cc nL own) {x y : Int} (hd : decode cc pc = .ok (.iadd, 1)) (k : W p l e R s m args below meth c H locs cells slots Q (F0 m (pc + 1) ls (iI (x + y) :: rest))) : W p l e R s m args below meth c H locs cells slots Q (F0 m pc ls (iI y :: iI x :: rest)) :=
  lv_iadd C.1 C.2.1 hd (by rw [← Int32.ofInt_add]; exact k)
theorem r_isub (C : Cx g p s m args c cc nL own) {x y : Int} (hd : decode cc pc = .ok (.isub, 1)) (k : W p l e R s m args below meth c H locs cells slots Q (F0 m (pc + 1) ls (iI (x - y) :: rest))) : W p l e R s m args below meth c H locs cells slots Q (F0 m pc ls (iI y :: iI x :: rest)) :=
  lv_isub C.1 C.2.1 hd (by rw [← Int32.ofInt_sub]; exact k)
theorem r_imul (C : Cx g p s m args c cc nL own) {x y : Int} (hd : decode cc pc = .ok (.imul, 1)) (k : W p l e R s m args below meth c H locs cells slots Q (F0 m (pc + 1) ls (iI (x * y) :: rest))) : W p l e R s m args below meth c H locs cells slots Q (F0 m pc ls (iI y :: iI x :: rest)) :=
  lv_imul C.1 C.2.1 hd (by rw [← Int32.ofInt_mul]; exact k)
theorem r_iand (C : Cx g p s m args c cc nL own) {x y : Int} (hd : decode cc pc = .ok (.iand, 1)) (k : W p l e R s m args below meth c H locs cells slots Q (F0 m (pc + 1) ls (iI (i_and x y) :: rest))) : W p l e R s m args below meth c H locs cells slots Q (F0 m pc ls (iI y :: iI x :: rest)) :=
  lv_iand C.1 C.2.1 hd (by unfold iI i_and at k; rw [Int32.ofInt_toInt] at k; exact k)
theorem r_ior (C : Cx g p s m args c cc nL own) {x y : Int} (hd : decode cc pc = .ok (.ior, 1)) (k : W p l e R s m args below meth c H locs cells slots Q (F0 m (pc + 1) ls (iI (i_or x y) :: rest))) : W p l e R s m args below meth c H locs cells slots Q (F0 m pc ls (iI y :: iI x :: rest)) :=
  lv_ior C.1 C.2.1 hd (by unfold iI i_or at k; rw [Int32.ofInt_toInt] at k; exact k)
theorem r_ishl (C : Cx g p s m args c cc nL own) {x y : Int} (hd : decode cc pc = .ok (.ishl, 1)) (k : W p l e R s m args below meth c H locs cells slots Q (F0 m (pc + 1) ls (iI (i_shl x y) :: rest))) : W p l e R s m args below meth c H locs cells slots Q (F0 m pc ls (iI y :: iI x :: rest)) :=
  lv_ishl C.1 C.2.1 hd (by unfold iI i_shl at k; rw [Int32.ofInt_toInt] at k; exact k)
theorem r_ishr (C : Cx g p s m args c cc nL own) {x y : Int} (hd : decode cc pc = .ok (.ishr, 1)) (k : W p l e R s m args below meth c H locs cells slots Q (F0 m (pc + 1) ls (iI (i_shr x y) :: rest))) : W p l e R s m args below meth c H locs cells slots Q (F0 m pc ls (iI y :: iI x :: rest)) :=
  lv_ishr C.1 C.2.1 hd (by unfold iI i_shr at k; rw [Int32.ofInt_toInt] at k; exact k)
theorem r_iushr (C : Cx g p s m args c cc nL own) {x y : Int} (hd : decode cc pc = .ok (.iushr, 1)) (k : W p l e R s m args below meth c H locs cells slots Q (F0 m (pc + 1) ls (iI (i_ushr x y) :: rest))) : W p l e R s m args below meth c H locs cells slots Q (F0 m pc ls (iI y :: iI x :: rest)) :=
  lv_iushr C.1 C.2.1 hd rfl (by unfold iI i_ushr at k; rw [Int32.ofInt_toInt] at k; exact k)
theorem r_idiv (C : Cx g p s m args c cc nL own) {x y : Int} (hy : inR y ∧ y ≠ 0) (hd : decode cc pc = .ok (.idiv, 1)) (k : W p l e R s m args below meth c H locs cells slots Q (F0 m (pc + 1) ls (iI (i_div x y) :: rest))) : W p l e R s m args below meth c H locs cells slots Q (F0 m pc ls (iI y :: iI x :: rest)) :=
  lv_idiv C.1 C.2.1 hd (fun h => hy.2 ((oi_eq hy.1 (by decide)).mp h)) (by unfold iI i_div at k; rw [Int32.ofInt_toInt] at k; exact k)
theorem r_irem (C : Cx g p s m args c cc nL own) {x y : Int} (hy : inR y ∧ y ≠ 0) (hd : decode cc pc = .ok (.irem, 1)) (k : W p l e R s m args below meth c H locs cells slots Q (F0 m (pc + 1) ls (iI (i_rem x y) :: rest))) : W p l e R s m args below meth c H locs cells slots Q (F0 m pc ls (iI y :: iI x :: rest)) :=
  lv_irem C.1 C.2.1 hd (fun h => hy.2 ((oi_eq hy.1 (by decide)).mp h)) (by unfold iI i_rem at k; rw [Int32.ofInt_toInt] at k; exact k)
theorem r_ladd (C : Cx g p s m args c cc nL own) {x y : Int} (hd : decode cc pc = .ok (.ladd, 1)) (k : W p l e R s m args below meth c H locs cells slots Q (F0 m (pc + 1) ls (lI (x + y) :: rest))) : W p l e R s m args below meth c H locs cells slots Q (F0 m pc ls (lI y :: lI x :: rest)) :=
  lv_ladd C.1 C.2.1 hd (by rw [← Int64.ofInt_add]; exact k)
theorem r_lmul (C : Cx g p s m args c cc nL own) {x y : Int} (hd : decode cc pc = .ok (.lmul, 1)) (k : W p l e R s m args below meth c H locs cells slots Q (F0 m (pc + 1) ls (lI (x * y) :: rest))) : W p l e R s m args below meth c H locs cells slots Q (F0 m pc ls (lI y :: lI x :: rest)) :=
  lv_lmul C.1 C.2.1 hd (by rw [← Int64.ofInt_mul]; exact k)
theorem r_land (C : Cx g p s m args c cc nL own) {x y : Int} (hd : decode cc pc = .ok (.land, 1)) (k : W p l e R s m args below meth c H locs cells slots Q (F0 m (pc + 1) ls (lI (l_and x y) :: rest))) : W p l e R s m args below meth c H locs cells slots Q (F0 m pc ls (lI y :: lI x :: rest)) :=
  lv_land C.1 C.2.1 hd (by unfold lI l_and at k; rw [Int64.ofInt_toInt] at k; exact k)
theorem r_lrem (C : Cx g p s m args c cc nL own) {x y : Int} (hy : inL y ∧ y ≠ 0) (hd : decode cc pc = .ok (.lrem, 1)) (k : W p l e R s m args below meth c H locs cells slots Q (F0 m (pc + 1) ls (lI (l_rem x y) :: rest))) : W p l e R s m args below meth c H locs cells slots Q (F0 m pc ls (lI y :: lI x :: rest)) :=
  lv_lrem C.1 C.2.1 hd (fun h => hy.2 (by have h1 := congrArg Int64.toInt h; rw [ol_t hy.1] at h1; exact h1)) (by unfold lI l_rem at k; rw [Int64.ofInt_toInt] at k; exact k)
theorem r_i2l (C : Cx g p s m args c cc nL own) {x : Int} (hx : inR x) (hd : decode cc pc = .ok (.i2l, 1)) (k : W p l e R s m args below meth c H locs cells slots Q (F0 m (pc + 1) ls (lI x :: rest))) : W p l e R s m args below meth c H locs cells slots Q (F0 m pc ls (iI x :: rest)) :=
  lv_i2l C.1 C.2.1 hd (Int32.toInt64_ofInt hx.1 hx.2) k
theorem r_l2i (C : Cx g p s m args c cc nL own) {x : Int} (hd : decode cc pc = .ok (.l2i, 1)) (k : W p l e R s m args below meth c H locs cells slots Q (F0 m (pc + 1) ls (iI x :: rest))) : W p l e R s m args below meth c H locs cells slots Q (F0 m pc ls (lI x :: rest)) :=
  lv_l2i C.1 C.2.1 hd Int64.toInt32_ofInt k
theorem lcmp_eq {x y : Int} (h : x = y ∨ (inL x ∧ inL y)) : lg_cmp (Int64.ofInt x) (Int64.ofInt y) = Int32.ofInt (l_cmp x y) := by
  rcases h with rfl | ⟨hx, hy⟩
  · simp [lg_cmp, l_cmp]
  · unfold lg_cmp l_cmp
    simp only [gt_iff_lt, Int64.lt_iff_toInt_lt, ← Int64.toInt_inj, ol_t hx, ol_t hy]
    by_cases h1 : x < y
    · rw [if_neg (by omega), if_neg (by omega), if_pos h1]; rfl
    · by_cases h2 : x = y
      · rw [if_neg (by omega), if_pos h2, if_neg h1, if_pos h2]; rfl
      · rw [if_pos (by omega), if_neg h1, if_neg h2]; rfl
theorem r_lcmp (C : Cx g p s m args c cc nL own) {x y : Int} (h : x = y ∨ (inL x ∧ inL y)) (hd : decode cc pc = .ok (.lcmp, 1)) (k : W p l e R s m args below meth c H locs cells slots Q (F0 m (pc + 1) ls (iI (l_cmp x y) :: rest))) : W p l e R s m args below meth c H locs cells slots Q (F0 m pc ls (lI y :: lI x :: rest)) :=
  W.lcmp C.1 C.2.1 hd (by rw [lcmp_eq h]; exact k)
theorem r_dup (C : Cx g p s m args c cc nL own) {va : Value} (hd : decode cc pc = .ok (.dup, 1)) (hva : va.category = 1) (k : W p l e R s m args below meth c H locs cells slots Q (F0 m (pc + 1) ls (va :: va :: rest))) : W p l e R s m args below meth c H locs cells slots Q (F0 m pc ls (va :: rest)) := lv_dup C.1 C.2.1 hd hva k
theorem r_pop (C : Cx g p s m args c cc nL own) {va : Value} (hd : decode cc pc = .ok (.pop, 1)) (hva : va.category = 1) (k : W p l e R s m args below meth c H locs cells slots Q (F0 m (pc + 1) ls rest)) : W p l e R s m args below meth c H locs cells slots Q (F0 m pc ls (va :: rest)) := lv_pop C.1 C.2.1 hd hva k
theorem r_dup2 (C : Cx g p s m args c cc nL own) {va vb : Value} (hd : decode cc pc = .ok (.dup2, 1)) (hva : va.category = 1) (hvb : vb.category = 1) (k : W p l e R s m args below meth c H locs cells slots Q (F0 m (pc + 1) ls (va :: vb :: va :: vb :: rest))) : W p l e R s m args below meth c H locs cells slots Q (F0 m pc ls (va :: vb :: rest)) := lv_dup2_11 C.1 C.2.1 hd hva hvb k
theorem r_goto (C : Cx g p s m args c cc nL own) {off : Int} {tgt : Nat} (hd : decode cc pc = .ok (.goto off, 3)) (ht : (pc : Int) + off = (tgt : Int)) (k : W p l e R s m args below meth c H locs cells slots Q (F0 m tgt ls rest)) : W p l e R s m args below meth c H locs cells slots Q (F0 m pc ls rest) := lv_goto C.1 C.2.1 hd ht k
theorem r_ic_ge (C : Cx g p s m args c cc nL own) {x y : Int} (hx : inR x) (hy : inR y) {off : Int} {tgt : Nat} (hd : decode cc pc = .ok (.if_icmp .ge off, 3)) (ht : (pc : Int) + off = (tgt : Int)) {A B : Option β} (hf : (if y ≤ x then A else B) = some res) (kt : A = some res → W p l e R s m args below meth c H locs cells slots Q (F0 m tgt ls rest)) (kf : B = some res → W p l e R s m args below meth c H locs cells slots Q (F0 m (pc + 3) ls rest)) : W p l e R s m args below meth c H locs cells slots Q (F0 m pc ls (iI y :: iI x :: rest)) := by
  exact lv_icmp_ge C.1 C.2.1 hd ht (fun h => kt (by rw [if_pos ((oi_le hy hx).mp h)] at hf; exact hf)) (fun h => kf (by rw [if_neg (fun q => h ((oi_le hy hx).mpr q))] at hf; exact hf))
theorem r_if_ge (C : Cx g p s m args c cc nL own) {x : Int} (hx : inR x) {off : Int} {tgt : Nat} (hd : decode cc pc = .ok (.ifCond .ge off, 3)) (ht : (pc : Int) + off = (tgt : Int)) {A B : Option β} (hf : (if 0 ≤ x then A else B) = some res) (kt : A = some res → W p l e R s m args below meth c H locs cells slots Q (F0 m tgt ls rest)) (kf : B = some res → W p l e R s m args below meth c H locs cells slots Q (F0 m (pc + 3) ls rest)) : W p l e R s m args below meth c H locs cells slots Q (F0 m pc ls (iI x :: rest)) := by
  exact lv_if_ge C.1 C.2.1 hd ht (fun h => kt (by rw [if_pos ((oi_le (show inR 0 by decide) hx).mp h)] at hf; exact hf)) (fun h => kf (by rw [if_neg (fun q => h ((oi_le (show inR 0 by decide) hx).mpr q))] at hf; exact hf))
theorem r_ic_lt (C : Cx g p s m args c cc nL own) {x y : Int} (hx : inR x) (hy : inR y) {off : Int} {tgt : Nat} (hd : decode cc pc = .ok (.if_icmp .lt off, 3)) (ht : (pc : Int) + off = (tgt : Int)) {A B : Option β} (hf : (if x < y then A else B) = some res) (kt : A = some res → W p l e R s m args below meth c H locs cells slots Q (F0 m tgt ls rest)) (kf : B = some res → W p l e R s m args below meth c H locs cells slots Q (F0 m (pc + 3) ls rest)) : W p l e R s m args below meth c H locs cells slots Q (F0 m pc ls (iI y :: iI x :: rest)) := by
  exact lv_icmp_lt C.1 C.2.1 hd ht (fun h => kt (by rw [if_pos ((oi_lt hx hy).mp h)] at hf; exact hf)) (fun h => kf (by rw [if_neg (fun q => h ((oi_lt hx hy).mpr q))] at hf; exact hf))
theorem r_if_lt (C : Cx g p s m args c cc nL own) {x : Int} (hx : inR x) {off : Int} {tgt : Nat} (hd : decode cc pc = .ok (.ifCond .lt off, 3)) (ht : (pc : Int) + off = (tgt : Int)) {A B : Option β} (hf : (if x < 0 then A else B) = some res) (kt : A = some res → W p l e R s m args below meth c H locs cells slots Q (F0 m tgt ls rest)) (kf : B = some res → W p l e R s m args below meth c H locs cells slots Q (F0 m (pc + 3) ls rest)) : W p l e R s m args below meth c H locs cells slots Q (F0 m pc ls (iI x :: rest)) := by
  exact lv_if_lt C.1 C.2.1 hd ht (fun h => kt (by rw [if_pos ((oi_lt hx (show inR 0 by decide)).mp h)] at hf; exact hf)) (fun h => kf (by rw [if_neg (fun q => h ((oi_lt hx (show inR 0 by decide)).mpr q))] at hf; exact hf))
theorem r_ic_gt (C : Cx g p s m args c cc nL own) {x y : Int} (hx : inR x) (hy : inR y) {off : Int} {tgt : Nat} (hd : decode cc pc = .ok (.if_icmp .gt off, 3)) (ht : (pc : Int) + off = (tgt : Int)) {A B : Option β} (hf : (if y < x then A else B) = some res) (kt : A = some res → W p l e R s m args below meth c H locs cells slots Q (F0 m tgt ls rest)) (kf : B = some res → W p l e R s m args below meth c H locs cells slots Q (F0 m (pc + 3) ls rest)) : W p l e R s m args below meth c H locs cells slots Q (F0 m pc ls (iI y :: iI x :: rest)) := by
  exact lv_icmp_gt C.1 C.2.1 hd ht (fun h => kt (by rw [if_pos ((oi_lt hy hx).mp h)] at hf; exact hf)) (fun h => kf (by rw [if_neg (fun q => h ((oi_lt hy hx).mpr q))] at hf; exact hf))
theorem r_if_gt (C : Cx g p s m args c cc nL own) {x : Int} (hx : inR x) {off : Int} {tgt : Nat} (hd : decode cc pc = .ok (.ifCond .gt off, 3)) (ht : (pc : Int) + off = (tgt : Int)) {A B : Option β} (hf : (if 0 < x then A else B) = some res) (kt : A = some res → W p l e R s m args below meth c H locs cells slots Q (F0 m tgt ls rest)) (kf : B = some res → W p l e R s m args below meth c H locs cells slots Q (F0 m (pc + 3) ls rest)) : W p l e R s m args below meth c H locs cells slots Q (F0 m pc ls (iI x :: rest)) := by
  exact lv_if_gt C.1 C.2.1 hd ht (fun h => kt (by rw [if_pos ((oi_lt (show inR 0 by decide) hx).mp h)] at hf; exact hf)) (fun h => kf (by rw [if_neg (fun q => h ((oi_lt (show inR 0 by decide) hx).mpr q))] at hf; exact hf))
theorem r_ic_le (C : Cx g p s m args c cc nL own) {x y : Int} (hx : inR x) (hy : inR y) {off : Int} {tgt : Nat} (hd : decode cc pc = .ok (.if_icmp .le off, 3)) (ht : (pc : Int) + off = (tgt : Int)) {A B : Option β} (hf : (if x ≤ y then A else B) = some res) (kt : A = some res → W p l e R s m args below meth c H locs cells slots Q (F0 m tgt ls rest)) (kf : B = some res → W p l e R s m args below meth c H locs cells slots Q (F0 m (pc + 3) ls rest)) : W p l e R s m args below meth c H locs cells slots Q (F0 m pc ls (iI y :: iI x :: rest)) := by
  exact lv_icmp_le C.1 C.2.1 hd ht (fun h => kt (by rw [if_pos ((oi_le hx hy).mp h)] at hf; exact hf)) (fun h => kf (by rw [if_neg (fun q => h ((oi_le hx hy).mpr q))] at hf; exact hf))
theorem r_if_le (C : Cx g p s m args c cc nL own) {x : Int} (hx : inR x) {off : Int} {tgt : Nat} (hd : decode cc pc = .ok (.ifCond .le off, 3)) (ht : (pc : Int) + off = (tgt : Int)) {A B : Option β} (hf : (if x ≤ 0 then A else B) = some res) (kt : A = some res → W p l e R s m args below meth c H locs cells slots Q (F0 m tgt ls rest)) (kf : B = some res → W p l e R s m args below meth c H locs cells slots Q (F0 m (pc + 3) ls rest)) : W p l e R s m args below meth c H locs cells slots Q (F0 m pc ls (iI x :: rest)) := by
  exact lv_if_le C.1 C.2.1 hd ht (fun h => kt (by rw [if_pos ((oi_le hx (show inR 0 by decide)).mp h)] at hf; exact hf)) (fun h => kf (by rw [if_neg (fun q => h ((oi_le hx (show inR 0 by decide)).mpr q))] at hf; exact hf))
theorem r_ic_eq (C : Cx g p s m args c cc nL own) {x y : Int} (hx : inR x) (hy : inR y) {off : Int} {tgt : Nat} (hd : decode cc pc = .ok (.if_icmp .eq off, 3)) (ht : (pc : Int) + off = (tgt : Int)) {A B : Option β} (hf : (if x = y then A else B) = some res) (kt : A = some res → W p l e R s m args below meth c H locs cells slots Q (F0 m tgt ls rest)) (kf : B = some res → W p l e R s m args below meth c H locs cells slots Q (F0 m (pc + 3) ls rest)) : W p l e R s m args below meth c H locs cells slots Q (F0 m pc ls (iI y :: iI x :: rest)) := by
  exact lv_icmp_eq C.1 C.2.1 hd ht (fun h => kt (by rw [if_pos ((oi_eq hx hy).mp h)] at hf; exact hf)) (fun h => kf (by rw [if_neg (fun q => h ((oi_eq hx hy).mpr q))] at hf; exact hf))
theorem r_if_eq (C : Cx g p s m args c cc nL own) {x : Int} (hx : inR x) {off : Int} {tgt : Nat} (hd : decode cc pc = .ok (.ifCond .eq off, 3)) (ht : (pc : Int) + off = (tgt : Int)) {A B : Option β} (hf : (if x = 0 then A else B) = some res) (kt : A = some res → W p l e R s m args below meth c H locs cells slots Q (F0 m tgt ls rest)) (kf : B = some res → W p l e R s m args below meth c H locs cells slots Q (F0 m (pc + 3) ls rest)) : W p l e R s m args below meth c H locs cells slots Q (F0 m pc ls (iI x :: rest)) := by
  exact lv_if_eq C.1 C.2.1 hd ht (fun h => kt (by rw [if_pos ((oi_eq hx (show inR 0 by decide)).mp h)] at hf; exact hf)) (fun h => kf (by rw [if_neg (fun q => h ((oi_eq hx (show inR 0 by decide)).mpr q))] at hf; exact hf))
theorem r_ic_ne (C : Cx g p s m args c cc nL own) {x y : Int} (hx : inR x) (hy : inR y) {off : Int} {tgt : Nat} (hd : decode cc pc = .ok (.if_icmp .ne off, 3)) (ht : (pc : Int) + off = (tgt : Int)) {A B : Option β} (hf : (if x = y then A else B) = some res) (kt : B = some res → W p l e R s m args below meth c H locs cells slots Q (F0 m tgt ls rest)) (kf : A = some res → W p l e R s m args below meth c H locs cells slots Q (F0 m (pc + 3) ls rest)) : W p l e R s m args below meth c H locs cells slots Q (F0 m pc ls (iI y :: iI x :: rest)) := by
  exact lv_icmp_ne C.1 C.2.1 hd ht (fun h => kt (by rw [if_neg (fun q => h ((oi_eq hx hy).mpr q))] at hf; exact hf)) (fun h => kf (by rw [if_pos ((oi_eq hx hy).mp h)] at hf; exact hf))
theorem r_if_ne (C : Cx g p s m args c cc nL own) {x : Int} (hx : inR x) {off : Int} {tgt : Nat} (hd : decode cc pc = .ok (.ifCond .ne off, 3)) (ht : (pc : Int) + off = (tgt : Int)) {A B : Option β} (hf : (if x = 0 then A else B) = some res) (kt : B = some res → W p l e R s m args below meth c H locs cells slots Q (F0 m tgt ls rest)) (kf : A = some res → W p l e R s m args below meth c H locs cells slots Q (F0 m (pc + 3) ls rest)) : W p l e R s m args below meth c H locs cells slots Q (F0 m pc ls (iI x :: rest)) := by
  exact lv_if_ne C.1 C.2.1 hd ht (fun h => kt (by rw [if_neg (fun q => h ((oi_eq hx (show inR 0 by decide)).mpr q))] at hf; exact hf)) (fun h => kf (by rw [if_pos ((oi_eq hx (show inR 0 by decide)).mp h)] at hf; exact hf))
theorem r_tabIn (C : Cx g p s m args c cc nL own) {x : Int} (k : Int) (hx : x = k) (hk : inR k) {dflt lo hi : Int} {offs : Array Int} {len : Nat} {off : Int} {tgt : Nat} (hd : decode cc pc = .ok (.tableswitch dflt lo hi offs, len)) (h1 : ¬ k < lo) (h2 : ¬ hi < k) (ho : offs[(k - lo).toNat]? = some off) (ht : (pc : Int) + off = (tgt : Int)) (kk : W p l e R s m args below meth c H locs cells slots Q (F0 m tgt ls rest)) : W p l e R s m args below meth c H locs cells slots Q (F0 m pc ls (iI x :: rest)) := by
  subst hx
  exact lv_tableIn C.1 C.2.1 hd (by rw [oi_t hk]; exact h1) (by rw [oi_t hk]; exact h2) (by rw [oi_t hk]; exact ho) ht kk
theorem r_tabOut (C : Cx g p s m args c cc nL own) {x : Int} (hk : inR x) {dflt lo hi : Int} {offs : Array Int} {len : Nat} {tgt : Nat} (hd : decode cc pc = .ok (.tableswitch dflt lo hi offs, len)) (h : x < lo ∨ hi < x) (ht : (pc : Int) + dflt = (tgt : Int)) (kk : W p l e R s m args below meth c H locs cells slots Q (F0 m tgt ls rest)) : W p l e R s m args below meth c H locs cells slots Q (F0 m pc ls (iI x :: rest)) :=
  lv_tableOut C.1 C.2.1 hd (by rw [oi_t hk]; exact h) ht kk
/-! the heap -/
theorem r_getf (C : Cx g p s m args c cc nL own) (hI : Inv g s M H locs) {o ci index k N : Nat} {Cn ref : String} {T : u_T} {fs : List Value} (ho : o ∈ ids) (he : entR g o (M o) = .inr (ci, fs)) (hc : vwCl[ci]? = some (Cn, T, N)) (hin : ∀ w ∈ u_ws Cn T N, w ∈ TB) (hk : k < N) (hlink : Cond.fieldLink own index ref (T k).2.1 (T k).2.2.1 ∈ TB) (hr : (T k).1 = ref) {v : Value} (hv : fs[k]? = some v) (hd : decode cc pc = .ok (.getfield index, 3)) (kk : W p l e R s m args below meth c H locs cells slots Q (F0 m (pc + 3) ls (v :: rest))) : W p l e R s m args below meth c H locs cells slots Q (F0 m pc ls (rI g o :: rest)) := by
  obtain ⟨q0, hq⟩ := List.getElem?_of_mem ho
  subst hr
  exact va_get C.1 C.2.1 C.2.2.2.2.1 hin C.2.2.2.1 C.2.2.2.2.2.1.1 hI.1 q0 (by rw [cw_get hq, he]) hc k hk (C.2.2.2.2.1 _ hlink) (fun _ h => h) hv hd kk
theorem r_putf (C : Cx g p s m args c cc nL own) (hI : Inv g s M H locs) {o ci index k N : Nat} {Cn ref : String} {T : u_T} {fs : List Value} (ho : o ∈ ids) (he : entR g o (M o) = .inr (ci, fs)) (hc : vwCl[ci]? = some (Cn, T, N)) (hin : ∀ w ∈ u_ws Cn T N, w ∈ TB) (ty0 : Nat → FieldType) (hty : ∀ k, k < N → parseFieldDescriptor (T k).2.2.1 = some (ty0 k)) (hnm : ∀ a, a < N → ∀ b, b < N → a ≠ b → (T a).2.1 ≠ (T b).2.1) (hk : k < N) (hlink : Cond.fieldLink own index ref (T k).2.1 (T k).2.2.1 ∈ TB) (hr : (T k).1 = ref) (hfin : (T k).2.2.2 = false) {v : Value} (hn : narrow (ty0 k) v = v) (hfit : fits (ty0 k) v = true) (hl : k < fs.length) {x : Int} (hs : entR g o (st M o k x o) = .inr (ci, fs.set k v)) (hd : decode cc pc = .ok (.putfield index, 3)) (kk : ∀ (H1 : Heap) (locs1 : List Loc), Inv g s (st M o k x) H1 locs1 → W p l e R s m args below meth c H1 locs1 cells slots Q (F0 m (pc + 3) ls rest)) : W p l e R s m args below meth c H locs cells slots Q (F0 m pc ls (v :: rI g o :: rest)) := by
  obtain ⟨q0, hq⟩ := List.getElem?_of_mem ho
  subst hr
  refine va_put C.1 C.2.1 C.2.2.2.2.1 hin ty0 hty hnm C.2.2.2.1 C.2.2.2.2.2.1.1 hI.1 (cw_D C.2.2.2.2.2.2) hI.2 q0 (by rw [cw_get hq, he]) hc k hk (C.2.2.2.2.1 _ hlink) (fun _ h => h) hfin (hty k hk) hn hfit hl hd (fun H1 locs1 h1 _ h3 => kk H1 locs1 ⟨?_, h3⟩)
  rwa [cw_set hq hs (fun x hx => st_ne _ _ _ _ hx)] at h1
theorem r_iald (C : Cx g p s m args c cc nL own) (hI : Inv g s M H locs) {a n : Nat} {i : Int} (z : Int) (ha : kd a = n + 100) (hn : n < 800) (hz : z = (n : Int)) (hi : 0 ≤ i ∧ i < z) (hd : decode cc pc = .ok (.iaload, 1)) (kk : W p l e R s m args below meth c H locs cells slots Q (F0 m (pc + 1) ls (iI (M a i.toNat) :: rest))) : W p l e R s m args below meth c H locs cells slots Q (F0 m pc ls (iI i :: rI g a :: rest)) := by
  subst hz
  obtain ⟨q0, hq⟩ := List.getElem?_of_mem (kd_in ha (by omega))
  obtain ⟨h1, h2⟩ := oi_n (by omega) hi
  refine va_iald C.1 C.2.1 C.2.2.2.2.2.1.1 hI.1 q0 0 (by rw [cw_get hq, ent_A ha]) rfl h1 hd ?_
  rw [h2]
  exact kk
theorem r_iast (C : Cx g p s m args c cc nL own) (hI : Inv g s M H locs) {a n : Nat} {i x : Int} (z : Int) (ha : kd a = n + 100) (hn : n < 800) (hz : z = (n : Int)) (hi : 0 ≤ i ∧ i < z) (hd : decode cc pc = .ok (.iastore, 1)) (kk : ∀ (H1 : Heap) (locs1 : List Loc), Inv g s (st M a i.toNat x) H1 locs1 → W p l e R s m args below meth c H1 locs1 cells slots Q (F0 m (pc + 1) ls rest)) : W p l e R s m args below meth c H locs cells slots Q (F0 m pc ls (iI x :: iI i :: rI g a :: rest)) := by
  subst hz
  obtain ⟨q0, hq⟩ := List.getElem?_of_mem (kd_in ha (by omega))
  obtain ⟨h1, h2⟩ := oi_n (by omega) hi
  refine va_iast C.1 C.2.1 C.2.2.2.2.2.1.1 hI.1 (cw_D C.2.2.2.2.2.2) hI.2 q0 0 (by rw [cw_get hq, ent_A ha]) rfl h1 hd (fun H1 locs1 g1 _ g3 => kk H1 locs1 ⟨?_, g3⟩)
  rw [h2] at g1
  rwa [cw_set (M' := st M a i.toNat x) hq (by
    rw [ent_A ha, st_same]
    congr 4
    funext j
    by_cases hj : j = i.toNat <;> simp [hj, upd]) (fun x hx => st_ne _ _ _ _ hx)] at g1
theorem r_alen (C : Cx g p s m args c cc nL own) (hI : Inv g s M H locs) {a n : Nat} (z : Int) (ha : kd a = n + 100) (hn : n < 800) (hz : z = (n : Int)) (hd : decode cc pc = .ok (.arraylength, 1)) (kk : W p l e R s m args below meth c H locs cells slots Q (F0 m (pc + 1) ls (iI z :: rest))) : W p l e R s m args below meth c H locs cells slots Q (F0 m pc ls (rI g a :: rest)) := by
  subst hz
  obtain ⟨q0, hq⟩ := List.getElem?_of_mem (kd_in ha (by omega))
  exact va_alen C.1 C.2.1 C.2.2.2.2.2.1.1 hI.1 q0 0 (by rw [cw_get hq, ent_A ha]) (ty := .int) rfl (v := Int32.ofInt (n : Int)) (Int32.ofInt_eq_ofNat).symm hd kk
theorem r_acopy (C : Cx g p s m args c cc nL own) (hI : Inv g s M H locs) (hml : ls.size = nL) {a b n1 n2 index : Nat} (n : Nat) {z : Int} (hz : z = (n : Int)) (ha : kd a = n1 + 100) (hb : kd b = n2 + 100) (k1 : n1 < 800) (k2 : n2 < 800) (h1 : n ≤ n1) (h2 : n ≤ n2) (hl : Cond.methodLink own index arraycopyName ∈ TB) (hnat : Cond.native arraycopyName ∈ TB) (hst : Cond.static arraycopyName ∈ TB) (hini : Cond.initialized "java/lang/System" ∈ TB) (hfr : 1 ≤ R.frames) (hlo : (rest.map fun v => v.category).sum + (nativeFrameWords "java/lang/System" "arraycopy" 5 + 11) ≤ R.locals) (hd : decode cc pc = .ok (.invokestatic index, 3)) (kk : ∀ (H1 : Heap) (locs1 : List Loc), Inv g s (cpy M a b n) H1 locs1 → W p l e R s m args below meth c H1 locs1 cells slots Q (F0 m (pc + 3) ls rest)) : W p l e R s m args below meth c H locs cells slots Q (F0 m pc ls (iI z :: iI 0 :: rI g b :: iI 0 :: rI g a :: rest)) := by
  subst hz
  obtain ⟨q0, hq0⟩ := List.getElem?_of_mem (kd_in ha (by omega))
  obtain ⟨q1, hq1⟩ := List.getElem?_of_mem (kd_in hb (by omega))
  have hr : inR (n : Int) := ⟨by omega, by omega⟩
  have hN : (Int32.ofInt (n : Int)).toNatClampNeg = n := by rw [Int32.ofInt_eq_ofNat]; exact Int32.toNatClampNeg_ofNat_of_lt (by omega)
  have h0 : (Int32.ofInt 0).toNatClampNeg = 0 := rfl
  refine va_copyi C.1 C.2.1 (by rw [C.2.2.1, hml]) C.2.2.2.1 (C.2.2.2.2.1 _ hl) (C.2.2.2.2.1 _ hnat) (C.2.2.2.2.1 _ hst) (C.2.2.2.2.1 _ hini) C.2.2.2.2.2.1.1 hI.1 (cw_D C.2.2.2.2.2.2) hI.2 q0 q1 0 0 (ty := .int) (by rw [cw_get hq0, ent_A ha]) (by rw [cw_get hq1, ent_A hb]) rfl rfl rfl (sp := Int32.ofInt 0) (dp := Int32.ofInt 0) (by decide) (by decide) (fun h => by have h5 := (oi_lt hr (y := 0) (by decide)).mp h; omega) (by rw [hN, h0]; omega) (by rw [hN, h0]; omega) (fun i hi => rfl) hfr hlo hd (fun H1 locs1 g1 _ g3 => kk H1 locs1 ⟨?_, g3⟩)
  rw [hN, h0] at g1
  rwa [cw_set (M' := cpy M a b n) hq1 (by
    rw [ent_A hb, cpy_same]
    congr 4
    funext j
    by_cases hj : j < n <;> simp [hj, va_cpy]) (fun x hx => cpy_ne _ _ _ _ hx)] at g1
/-! the static tables -/
theorem r_stld (C : Cx g p s m args c cc nL own) (hI : Inv g s M H locs) {i : Int} {t : Nat} (f : Int → Int) (hT : va_T .int t 5 (fun j => iI (f (j : Int))) (Ad g) s s.heap) (hi : 0 ≤ i ∧ i < 5) (hd : decode cc pc = .ok (.iaload, 1)) (kk : W p l e R s m args below meth c H locs cells slots Q (F0 m (pc + 1) ls (iI (f i) :: rest))) : W p l e R s m args below meth c H locs cells slots Q (F0 m pc ls (iI i :: .ref t :: rest)) := by
  obtain ⟨h1, h2⟩ := oi_n (n := 5) (by omega) hi
  refine va_ti C.1 C.2.1 hT hI.2 h1 (v := iI (f i)) ?_ hd kk
  rw [h2]
  show iI (f ((i.toNat : Nat) : Int)) = iI (f i)
  rw [Int.toNat_of_nonneg hi.1]
theorem r_stlen (C : Cx g p s m args c cc nL own) (hI : Inv g s M H locs) {t : Nat} {f : Nat → Value} (hT : va_T .int t 5 f (Ad g) s s.heap) (hd : decode cc pc = .ok (.arraylength, 1)) (kk : W p l e R s m args below meth c H locs cells slots Q (F0 m (pc + 1) ls (iI 5 :: rest))) : W p l e R s m args below meth c H locs cells slots Q (F0 m pc ls (.ref t :: rest)) :=
  va_tlen C.1 C.2.1 hT hI.2 (v := Int32.ofInt 5) rfl hd kk
/-! calls -/
def CalF (y : MethodName) (bytes : ByteArray) (maxL : Nat) (ret : Option FieldType) (n : Nat) : Prop :=
  Cond.code y bytes maxL ret ∈ TB ∧ Cond.initialized y.cls ∈ TB ∧ (y.cls ≠ "java/lang/invoke/MethodHandle" ∧ y.cls ≠ "java/lang/invoke/VarHandle" ∧ (parseMethodDescriptor y.desc).map (fun d => d.parameters.length) = some n)
theorem pre_blind {M : Mem} {As : List Value} : FrameBlind (PreW g M As) := fun _ _ _ _ q => ⟨q.1, q.2.1, q.2.2.blind⟩
theorem pre_here (C : Cx g p s m args c cc nL own) (hI : Inv g s M H locs) {As : List Value} : ∀ U : State, U.heap = H → s.WarmedH U.vm → PreW g M As As.toArray U := fun U hU hW => ⟨rfl, by rw [hU]; exact hI.1, C.2.2.2.2.2.1.call hW hU hI.2⟩
theorem callB_TB (C : Cx g p s m args c cc nL own) {y : MethodName} {bytes : ByteArray} {maxL n index a b : Nat} {ret : Option FieldType} (F : CalF y bytes maxL ret n) (hl : Cond.methodLink own index y ∈ TB) (hR : a + 1 ≤ R.frames ∧ 8 + (maxL + 11) + b ≤ R.locals) : CallB R s args own index y bytes maxL ret (Cond.code y bytes maxL ret :: TB) (rmK a b) 0 0 n :=
  callB_of n C.2.2.2.2.1 (tb_goodIn F.1) rfl rfl rfl (C.2.2.2.2.1 _ F.2.1) (C.2.2.2.2.1 _ hl) F.2.2 hR
theorem run_V (C : Cx g p s m args c cc nL own) (hI : Inv g s M H locs) {y : MethodName} {bytes : ByteArray} {maxL n index a b o ci N : Nat} {ret : Option FieldType} {Cn : String} {T : u_T} (F : CalF y bytes maxL ret n) (wi : Cond.instanceMethod y ∈ TB) (wsl : Cond.selects Cn y y ∈ TB) (hl : Cond.methodLink own index y ∈ TB) (hR : (a + 1 ≤ R.frames ∧ 8 + (maxL + 11) + b ≤ R.locals) ∧ cells ≤ R.cells ∧ slots ≤ R.slots) (ho : o ∈ ids) (he : ∃ fs, entR g o (M o) = .inr (ci, fs)) (hc : vwCl[ci]? = some (Cn, T, N)) (hls : lv_has ls nL lv) (hd : decode cc pc = .ok (.invokevirtual index, 3)) (As : List Value) (hn : As.length = n) {stk : List Value} (hst : stk = As.reverse ++ rI g o :: rest) (hrest : (rest.map fun v => v.category).sum ≤ 8) {Qc : Array Value → State → Outcome → State → Prop} (hM : Met l y (Cond.code y bytes maxL ret :: TB) (rmK a b) (PreW g M (rI g o :: As)) Qc 0 0 (Ad g)) :
    va_Run p l e R s m args below meth c H locs cells slots 0 0 (F0 m pc ls stk) rest (Qc (rI g o :: As).toArray) (Ad g) := by
  obtain ⟨q0, hq⟩ := List.getElem?_of_mem ho
  obtain ⟨fs, he⟩ := he
  exact va_runV ⟨C.1, C.2.1, C.2.2.1, C.2.2.2.1, C.2.2.2.2.1⟩ hM ⟨callB_TB C F hl hR.1, C.2.2.2.2.1 _ wi, C.2.2.2.2.1 _ wsl⟩ ⟨pre_blind, va_recv C.2.2.2.2.2.1.1 hI.1 hc (q0 := q0) (by rw [cw_get hq, he]), pre_here C hI⟩ rfl hn hls.1 hst (lv_room hrest) hd hR.2
theorem run_S (C : Cx g p s m args c cc nL own) (hI : Inv g s M H locs) {y : MethodName} {bytes : ByteArray} {maxL n index a b : Nat} {ret : Option FieldType} (F : CalF y bytes maxL ret n) (wi : Cond.static y ∈ TB) (hl : Cond.methodLink own index y ∈ TB) (hR : (a + 1 ≤ R.frames ∧ 8 + (maxL + 11) + b ≤ R.locals) ∧ cells ≤ R.cells ∧ slots ≤ R.slots) (hls : lv_has ls nL lv) (hd : decode cc pc = .ok (.invokestatic index, 3)) (As : List Value) (hn : As.length = n) {stk : List Value} (hst : stk = As.reverse ++ rest) (hrest : (rest.map fun v => v.category).sum ≤ 8) {Qc : Array Value → State → Outcome → State → Prop} (hM : Met l y (Cond.code y bytes maxL ret :: TB) (rmK a b) (PreW g M As) Qc 0 0 (Ad g)) :
    va_Run p l e R s m args below meth c H locs cells slots 0 0 (F0 m pc ls stk) rest (Qc As.toArray) (Ad g) :=
  va_runS ⟨C.1, C.2.1, C.2.2.1, C.2.2.2.1, C.2.2.2.2.1⟩ hM ⟨callB_TB C F hl hR.1, C.2.2.2.2.1 _ wi⟩ ⟨pre_blind, pre_here C hI⟩ rfl hn hls.1 hst (lv_room hrest) hd hR.2
theorem run_N (C : Cx g p s m args c cc nL own) (hI : Inv g s M H locs) {y : MethodName} {bytes : ByteArray} {maxL n index a b : Nat} {ret : Option FieldType} {host : String} (F : CalF y bytes maxL ret n) (wi : Cond.static y ∈ TB) (hl : Cond.methodLinkNest own index y host ∈ NWs) (hR : (a + 1 ≤ R.frames ∧ 8 + (maxL + 11) + b ≤ R.locals) ∧ cells ≤ R.cells ∧ slots ≤ R.slots) (hls : lv_has ls nL lv) (hd : decode cc pc = .ok (.invokestatic index, 3)) (As : List Value) (hn : As.length = n) {stk : List Value} (hst : stk = As.reverse ++ rest) (hrest : (rest.map fun v => v.category).sum ≤ 8) {Qc : Array Value → State → Outcome → State → Prop} (hM : Met l y (Cond.code y bytes maxL ret :: TB) (rmK a b) (PreW g M As) Qc 0 0 (Ad g)) :
    va_Run p l e R s m args below meth c H locs cells slots 0 0 (F0 m pc ls stk) rest (Qc As.toArray) (Ad g) :=
  va_runSN ⟨C.1, C.2.1, C.2.2.1, C.2.2.2.1, C.2.2.2.2.1⟩ hM ⟨va_cnB n C.2.2.2.2.1 (tb_goodIn F.1) rfl rfl rfl (C.2.2.2.2.2.1.2.1 _ hl) (C.2.2.2.2.1 _ F.2.1) F.2.2 hR.1, C.2.2.2.2.1 _ wi, trivial⟩ ⟨pre_blind, pre_here C hI⟩ rfl hn hls.1 hst (lv_room hrest) hd hR.2
theorem r_calli {st0 : List Value} {a : Array Value} {f : Option (Int × Mem)} {kf : Int → Mem → Option β} (hI : Inv g s M H locs) (hf : bnd f kf = some res) (hr : ∀ r M', f = some (r, M') → va_Run p l e R s m args below meth c H locs cells slots 0 0 (F0 m pc ls st0) rest (PostI g r M' a) (Ad g)) (kk : ∀ (r : Int) (M' : Mem) (H' : Heap) (locs' : List Loc), Inv g s M' H' locs' → kf r M' = some res → W p l e R s m args below meth c H' locs' cells slots Q (F0 m (pc + 3) ls (iI r :: rest))) : W p l e R s m args below meth c H locs cells slots Q (F0 m pc ls st0) := by
  cases f with
  | none => cases hf
  | some q =>
    obtain ⟨r, M'⟩ := q
    refine va_calli (hr r M' rfl) hI.2 (fun _ _ h => h) (fun _ h => h) (fun v u t H1 locs1 ht hvm hv hB _ _ hS => ?_)
    subst hv
    exact kk r M' H1 locs1 ⟨by rw [← ht]; exact hB, hS⟩ hf
theorem r_calll {st0 : List Value} {a : Array Value} {f : Option (Int × Mem)} {kf : Int → Mem → Option β} (hI : Inv g s M H locs) (hf : bnd f kf = some res) (hr : ∀ r M', f = some (r, M') → va_Run p l e R s m args below meth c H locs cells slots 0 0 (F0 m pc ls st0) rest (PostL g r M' a) (Ad g)) (kk : ∀ (r : Int) (M' : Mem) (H' : Heap) (locs' : List Loc), Inv g s M' H' locs' → kf r M' = some res → W p l e R s m args below meth c H' locs' cells slots Q (F0 m (pc + 3) ls (lI r :: rest))) : W p l e R s m args below meth c H locs cells slots Q (F0 m pc ls st0) := by
  cases f with
  | none => cases hf
  | some q =>
    obtain ⟨r, M'⟩ := q
    refine va_calll (hr r M' rfl) hI.2 (fun _ _ h => h) (fun _ h => h) (fun v u t H1 locs1 ht hvm hv hB _ _ hS => ?_)
    subst hv
    exact kk r M' H1 locs1 ⟨by rw [← ht]; exact hB, hS⟩ hf
theorem r_callv {st0 : List Value} {a : Array Value} {f : Option Mem} {kf : Mem → Option β} (hI : Inv g s M H locs) (hf : bnv f kf = some res) (hr : ∀ M', f = some M' → va_Run p l e R s m args below meth c H locs cells slots 0 0 (F0 m pc ls st0) rest (PostV g M' a) (Ad g)) (kk : ∀ (M' : Mem) (H' : Heap) (locs' : List Loc), Inv g s M' H' locs' → kf M' = some res → W p l e R s m args below meth c H' locs' cells slots Q (F0 m (pc + 3) ls rest)) : W p l e R s m args below meth c H locs cells slots Q (F0 m pc ls st0) := by
  cases f with
  | none => cases hf
  | some M' =>
    refine va_callv (hr M' rfl) hI.2 (fun _ _ h => h) (fun _ h => h) (fun u t H1 locs1 ht hvm hv hB _ _ hS => ?_)
    exact kk M' H1 locs1 ⟨by rw [← ht]; exact hB, hS⟩ hf
/-! returns -/
def RetI (g : GP) (p : Program) (l : Launch) (e : Env) (R : Room) (s : State) (m : MethodId) (args : Array Value) (below : List Frame) (meth : Method) (c : Code) (cc : ByteArray) (r : Int × Mem) (Q : State → Prop) : Prop :=
  ∀ (H : Heap) (locs : List Loc) (pc : Nat) (ls : Array Slot), Inv g s r.2 H locs → decode cc pc = .ok (.ireturn, 1) → W p l e R s m args below meth c H locs 0 0 Q (F0 m pc ls [iI r.1])
def RetL (g : GP) (p : Program) (l : Launch) (e : Env) (R : Room) (s : State) (m : MethodId) (args : Array Value) (below : List Frame) (meth : Method) (c : Code) (cc : ByteArray) (r : Int × Mem) (Q : State → Prop) : Prop :=
  ∀ (H : Heap) (locs : List Loc) (pc : Nat) (ls : Array Slot), Inv g s r.2 H locs → decode cc pc = .ok (.lreturn, 1) → W p l e R s m args below meth c H locs 0 0 Q (F0 m pc ls [lI r.1])
def RetV (g : GP) (p : Program) (l : Launch) (e : Env) (R : Room) (s : State) (m : MethodId) (args : Array Value) (below : List Frame) (meth : Method) (c : Code) (cc : ByteArray) (r : Mem) (Q : State → Prop) : Prop :=
  ∀ (H : Heap) (locs : List Loc) (pc : Nat) (ls : Array Slot), Inv g s r H locs → decode cc pc = .ok (.return_, 1) → W p l e R s m args below meth c H locs 0 0 Q (F0 m pc ls [])
theorem r_iret {x : Int} {r : Int × Mem} (hQ : RetI g p l e R s m args below meth c cc r Q) (hf : some (x, M) = some r) (hI : Inv g s M H locs) (hd : decode cc pc = .ok (.ireturn, 1)) : W p l e R s m args below meth c H locs 0 0 Q (F0 m pc ls [iI x]) := by
  cases hf
  exact hQ H locs pc ls hI hd
theorem r_lret {x : Int} {r : Int × Mem} (hQ : RetL g p l e R s m args below meth c cc r Q) (hf : some (x, M) = some r) (hI : Inv g s M H locs) (hd : decode cc pc = .ok (.lreturn, 1)) : W p l e R s m args below meth c H locs 0 0 Q (F0 m pc ls [lI x]) := by
  cases hf
  exact hQ H locs pc ls hI hd
theorem r_vret {r : Mem} (hQ : RetV g p l e R s m args below meth c cc r Q) (hf : some M = some r) (hI : Inv g s M H locs) (hd : decode cc pc = .ok (.return_, 1)) : W p l e R s m args below meth c H locs 0 0 Q (F0 m pc ls []) := by
  cases hf
  exact hQ H locs pc ls hI hd
theorem nar_i (x : Int32) : narrow .int (.int x) = .int x := vp_nar_int x
theorem nar_z {x : Int} (h : x = 0 ∨ x = 1) : narrow .boolean (.int (Int32.ofInt x)) = .int (Int32.ofInt x) := by
  rcases h with rfl | rfl <;> rfl
theorem ret_i {r : Int × Mem} {ty : FieldType} (C : Cx g p s m args c cc nL own) (hr : meth.sig.returnType = some ty) (hlk : meth.locks = false) (hn : narrow ty (.int (Int32.ofInt r.1)) = .int (Int32.ofInt r.1)) : RetI g p l e R s m args below meth c cc r (MQ below (PostI g r.1 r.2) args s 0 0 (Ad g)) := by
  intro H locs pc ls hI hd
  exact W.zret C.1 C.2.1 hr hn (fun t ht hW => ⟨⟨Int32.ofInt r.1, (), rfl, rfl, by show va_P g.1 vwCl (cw g r.2) t.heap; rw [ht]; exact hI.1⟩, hI.2.F ht⟩) hI.2.2.2 hd hlk
theorem ret_l {r : Int × Mem} (C : Cx g p s m args c cc nL own) (hr : meth.sig.returnType = some .long) (hlk : meth.locks = false) : RetL g p l e R s m args below meth c cc r (MQ below (PostL g r.1 r.2) args s 0 0 (Ad g)) := by
  intro H locs pc ls hI hd
  exact W.lret C.1 C.2.1 hr (fun t ht hW => ⟨⟨Int64.ofInt r.1, (), rfl, rfl, by show va_P g.1 vwCl (cw g r.2) t.heap; rw [ht]; exact hI.1⟩, hI.2.F ht⟩) hI.2.2.2 hd
theorem ret_v {r : Mem} (C : Cx g p s m args c cc nL own) (hr : meth.sig.returnType = none) (hlk : meth.locks = false) : RetV g p l e R s m args below meth c cc r (MQ below (PostV g r) args s 0 0 (Ad g)) := by
  intro H locs pc ls hI hd
  exact W.vret C.1 C.2.1 hr (fun t ht hW => ⟨⟨(), rfl, trivial, by show va_P g.1 vwCl (cw g r) t.heap; rw [ht]; exact hI.1⟩, hI.2.F ht⟩) hI.2.2.2 hd hlk
/-- a contract out of the walk of the body -/
theorem met_of {y : MethodName} {ret : Option FieldType} {rm : Room} {As : List Value} {Qc : Array Value → State → Outcome → State → Prop} (hy : plainName y.cls = true) (hj : Inj g) (hAs : (lg_sl As).length ≤ nL)
    (body : ∀ (p : Program) (e : Env) (s : State) (m : MethodId) (below : List Frame) (meth : Method) (c : Code) (ls : Array Slot), Cx g p s m As.toArray c cc nL y.cls → meth.sig.returnType = ret → meth.locks = false → Inv g s M s.heap [] → lv_has ls nL (lv_args 0 As) → W p l e rm s m As.toArray below meth c s.heap [] 0 0 (MQ below Qc As.toArray s 0 0 (Ad g)) (F0 m 0 ls [])) :
    Met l y (Cond.code y cc nL ret :: TB) rm (PreW g M As) Qc 0 0 (Ad g) := by
  refine Met.ofW (cc := cc) (maxL := nL) (ret := ret) hy rfl ?_
  intro p e s m args below meth c s₁ B hml hv
  obtain ⟨rfl, hP, hG⟩ := hv
  have hts := atoms_spec (ws := Cond.code y cc nL ret :: TB) B.pre
  have hown : s.vm.findClass y.cls = some m.cls := findClass_of_methodNamed B.named
  have hl := lv_entry As (n := nL) hAs
  rw [lg_entry_eq]
  exact body p e s m below meth c _ ⟨B.exec, B.bytes, hml, hown, fun w hw => hts w (List.mem_cons_of_mem _ hw), hG, hj⟩ B.returns B.notSynchronized ⟨hP, va_S.rf⟩ hl
end RW
end
section
theorem iX0 : ∀ w ∈ u_ws RX0 TX0 1, w ∈ TB := by
  show ∀ w ∈ [Cond.lays "LentGallery$Draws" "LentGallery$Draws" "seed" "I"], w ∈ TB
  exact List.forall_mem_cons.mpr ⟨w_182, fun _ h => absurd h List.not_mem_nil⟩
theorem oX0 {g : GP} {o : Nat} {r : Nat → Int} (h : kd o = 0) : ∃ fs, entR g o r = .inr (0, fs) := ⟨_, ent_0 h⟩
theorem zX0 {o : Nat} (h : kd o = 0) : o ∈ ids := kd_in h (by decide)
theorem iX1 : ∀ w ∈ u_ws RX1 TX1 4, w ∈ TB := by
  show ∀ w ∈ [Cond.laysFinal "LentGallery$Knocks" "LentGallery$Knocks" "places" "[I", Cond.laysFinal "LentGallery$Knocks" "LentGallery$Knocks" "days" "[I", Cond.laysFinal "LentGallery$Knocks" "LentGallery$Knocks" "stood" "[I", Cond.lays "LentGallery$Knocks" "LentGallery$Knocks" "size" "I"], w ∈ TB
  exact List.forall_mem_cons.mpr ⟨w_116, List.forall_mem_cons.mpr ⟨w_118, List.forall_mem_cons.mpr ⟨w_120, List.forall_mem_cons.mpr ⟨w_122, fun _ h => absurd h List.not_mem_nil⟩⟩⟩⟩
theorem oX1 {g : GP} {o : Nat} {r : Nat → Int} (h : kd o = 1) : ∃ fs, entR g o r = .inr (1, fs) := ⟨_, ent_1 h⟩
theorem zX1 {o : Nat} (h : kd o = 1) : o ∈ ids := kd_in h (by decide)
theorem iX2 : ∀ w ∈ u_ws RX2 TX2 2, w ∈ TB := by
  show ∀ w ∈ [Cond.laysFinal "LentGallery$Page" "LentGallery$Page" "letters" "[I", Cond.lays "LentGallery$Page" "LentGallery$Page" "length" "I"], w ∈ TB
  exact List.forall_mem_cons.mpr ⟨w_32, List.forall_mem_cons.mpr ⟨w_34, fun _ h => absurd h List.not_mem_nil⟩⟩
theorem oX2 {g : GP} {o : Nat} {r : Nat → Int} (h : kd o = 2) : ∃ fs, entR g o r = .inr (2, fs) := ⟨_, ent_2 h⟩
theorem zX2 {o : Nat} (h : kd o = 2) : o ∈ ids := kd_in h (by decide)
theorem iX3 : ∀ w ∈ u_ws RX3 TX3 3, w ∈ TB := by
  show ∀ w ∈ [Cond.laysFinal "LentGallery$Roof" "LentGallery$Roof" "strong" "[I", Cond.laysFinal "LentGallery$Roof" "LentGallery$Roof" "load" "[I", Cond.laysFinal "LentGallery$Roof" "LentGallery$Roof" "losses" "[I"], w ∈ TB
  exact List.forall_mem_cons.mpr ⟨w_59, List.forall_mem_cons.mpr ⟨w_61, List.forall_mem_cons.mpr ⟨w_63, fun _ h => absurd h List.not_mem_nil⟩⟩⟩
theorem oX3 {g : GP} {o : Nat} {r : Nat → Int} (h : kd o = 3) : ∃ fs, entR g o r = .inr (3, fs) := ⟨_, ent_3 h⟩
theorem zX3 {o : Nat} (h : kd o = 3) : o ∈ ids := kd_in h (by decide)
theorem iX4 : ∀ w ∈ u_ws RX4 TX4 5, w ∈ TB := by
  show ∀ w ∈ [Cond.laysFinal "LentGallery$Settling" "LentGallery$Settling" "roof" "LLentGallery$Roof;", Cond.laysFinal "LentGallery$Settling" "LentGallery$Settling" "homes" "[I", Cond.laysFinal "LentGallery$Settling" "LentGallery$Settling" "bestHomes" "[I", Cond.lays "LentGallery$Settling" "LentGallery$Settling" "bestHold" "I", Cond.lays "LentGallery$Settling" "LentGallery$Settling" "found" "Z"], w ∈ TB
  exact List.forall_mem_cons.mpr ⟨w_141, List.forall_mem_cons.mpr ⟨w_143, List.forall_mem_cons.mpr ⟨w_145, List.forall_mem_cons.mpr ⟨w_147, List.forall_mem_cons.mpr ⟨w_149, fun _ h => absurd h List.not_mem_nil⟩⟩⟩⟩⟩
theorem oX4 {g : GP} {o : Nat} {r : Nat → Int} (h : kd o = 4) : ∃ fs, entR g o r = .inr (4, fs) := ⟨_, ent_4 h⟩
theorem zX4 {o : Nat} (h : kd o = 4) : o ∈ ids := kd_in h (by decide)
theorem iX5 : ∀ w ∈ u_ws RX5 TX5 4, w ∈ TB := by
  show ∀ w ∈ [Cond.laysFinal "LentGallery$Sounding" "LentGallery$Sounding" "trial" "LLentGallery$Roof;", Cond.laysFinal "LentGallery$Sounding" "LentGallery$Sounding" "fallenBy" "[I", Cond.laysFinal "LentGallery$Sounding" "LentGallery$Sounding" "guessFallenBy" "[I", Cond.lays "LentGallery$Sounding" "LentGallery$Sounding" "possible" "I"], w ∈ TB
  exact List.forall_mem_cons.mpr ⟨w_165, List.forall_mem_cons.mpr ⟨w_167, List.forall_mem_cons.mpr ⟨w_169, List.forall_mem_cons.mpr ⟨w_171, fun _ h => absurd h List.not_mem_nil⟩⟩⟩⟩
theorem oX5 {g : GP} {o : Nat} {r : Nat → Int} (h : kd o = 5) : ∃ fs, entR g o r = .inr (5, fs) := ⟨_, ent_5 h⟩
theorem zX5 {o : Nat} (h : kd o = 5) : o ∈ ids := kd_in h (by decide)
theorem iX6 : ∀ w ∈ u_ws RX6 TX6 9, w ∈ TB := by
  show ∀ w ∈ [Cond.laysFinal "LentGallery$Street" "LentGallery$Street" "roof" "LLentGallery$Roof;", Cond.laysFinal "LentGallery$Street" "LentGallery$Street" "kinds" "[I", Cond.laysFinal "LentGallery$Street" "LentGallery$Street" "homes" "[I", Cond.lays "LentGallery$Street" "LentGallery$Street" "tenants" "I", Cond.lays "LentGallery$Street" "LentGallery$Street" "air" "I", Cond.lays "LentGallery$Street" "LentGallery$Street" "cage" "I", Cond.lays "LentGallery$Street" "LentGallery$Street" "days" "I", Cond.lays "LentGallery$Street" "LentGallery$Street" "falls" "I", Cond.lays "LentGallery$Street" "LentGallery$Street" "props" "I"], w ∈ TB
  exact List.forall_mem_cons.mpr ⟨w_86, List.forall_mem_cons.mpr ⟨w_88, List.forall_mem_cons.mpr ⟨w_90, List.forall_mem_cons.mpr ⟨w_92, List.forall_mem_cons.mpr ⟨w_94, List.forall_mem_cons.mpr ⟨w_96, List.forall_mem_cons.mpr ⟨w_98, List.forall_mem_cons.mpr ⟨w_100, List.forall_mem_cons.mpr ⟨w_102, fun _ h => absurd h List.not_mem_nil⟩⟩⟩⟩⟩⟩⟩⟩⟩
theorem oX6 {g : GP} {o : Nat} {r : Nat → Int} (h : kd o = 6) : ∃ fs, entR g o r = .inr (6, fs) := ⟨_, ent_6 h⟩
theorem zX6 {o : Nat} (h : kd o = 6) : o ∈ ids := kd_in h (by decide)
theorem iX7 : ∀ w ∈ u_ws RX7 TX7 13, w ∈ TB := by
  show ∀ w ∈ [Cond.laysFinal "LentGallery" "LentGallery" "page" "LLentGallery$Page;", Cond.laysFinal "LentGallery" "LentGallery" "street" "LLentGallery$Street;", Cond.laysFinal "LentGallery" "LentGallery" "knocks" "LLentGallery$Knocks;", Cond.laysFinal "LentGallery" "LentGallery" "keptStreet" "LLentGallery$Street;", Cond.laysFinal "LentGallery" "LentGallery" "keptKnocks" "LLentGallery$Knocks;", Cond.laysFinal "LentGallery" "LentGallery" "wouldBe" "LLentGallery$Street;", Cond.laysFinal "LentGallery" "LentGallery" "settling" "LLentGallery$Settling;", Cond.laysFinal "LentGallery" "LentGallery" "sounding" "LLentGallery$Sounding;", Cond.laysFinal "LentGallery" "LentGallery" "draws" "LLentGallery$Draws;", Cond.lays "LentGallery" "LentGallery" "hasGallery" "Z", Cond.lays "LentGallery" "LentGallery" "hasImage" "Z", Cond.lays "LentGallery" "LentGallery" "galleriesRead" "I", Cond.lays "LentGallery" "LentGallery" "whereDone" "I"], w ∈ TB
  exact List.forall_mem_cons.mpr ⟨w_198, List.forall_mem_cons.mpr ⟨w_200, List.forall_mem_cons.mpr ⟨w_202, List.forall_mem_cons.mpr ⟨w_204, List.forall_mem_cons.mpr ⟨w_206, List.forall_mem_cons.mpr ⟨w_208, List.forall_mem_cons.mpr ⟨w_210, List.forall_mem_cons.mpr ⟨w_212, List.forall_mem_cons.mpr ⟨w_214, List.forall_mem_cons.mpr ⟨w_216, List.forall_mem_cons.mpr ⟨w_218, List.forall_mem_cons.mpr ⟨w_220, List.forall_mem_cons.mpr ⟨w_222, fun _ h => absurd h List.not_mem_nil⟩⟩⟩⟩⟩⟩⟩⟩⟩⟩⟩⟩⟩
theorem oX7 {g : GP} {o : Nat} {r : Nat → Int} (h : kd o = 7) : ∃ fs, entR g o r = .inr (7, fs) := ⟨_, ent_7 h⟩
theorem zX7 {o : Nat} (h : kd o = 7) : o ∈ ids := kd_in h (by decide)
theorem iX8 : ∀ w ∈ u_ws RX8 TX8 30, w ∈ TB := by
  show ∀ w ∈ [Cond.laysFinal "LentGalleryModel" "LentGalleryModel" "page" "[I", Cond.lays "LentGalleryModel" "LentGalleryModel" "pageMany" "I", Cond.lays "LentGalleryModel" "LentGalleryModel" "air" "I", Cond.lays "LentGalleryModel" "LentGalleryModel" "cage" "I", Cond.lays "LentGalleryModel" "LentGalleryModel" "daysNow" "I", Cond.lays "LentGalleryModel" "LentGalleryModel" "fallsNow" "I", Cond.lays "LentGalleryModel" "LentGalleryModel" "propsNow" "I", Cond.lays "LentGalleryModel" "LentGalleryModel" "galleriesRead" "I", Cond.laysFinal "LentGalleryModel" "LentGalleryModel" "strong" "[I", Cond.lays "LentGalleryModel" "LentGalleryModel" "tenants" "I", Cond.laysFinal "LentGalleryModel" "LentGalleryModel" "rows" "[I", Cond.laysFinal "LentGalleryModel" "LentGalleryModel" "homes" "[I", Cond.laysFinal "LentGalleryModel" "LentGalleryModel" "now" "[I", Cond.laysFinal "LentGalleryModel" "LentGalleryModel" "ahead" "[I", Cond.lays "LentGalleryModel" "LentGalleryModel" "whereMany" "I", Cond.laysFinal "LentGalleryModel" "LentGalleryModel" "bestHomes" "[I", Cond.lays "LentGalleryModel" "LentGalleryModel" "knockMany" "I", Cond.laysFinal "LentGalleryModel" "LentGalleryModel" "knocks" "[I", Cond.laysFinal "LentGalleryModel" "LentGalleryModel" "stand" "[I", Cond.lays "LentGalleryModel" "LentGalleryModel" "seedNow" "I", Cond.lays "LentGalleryModel" "LentGalleryModel" "keptGallery" "I", Cond.lays "LentGalleryModel" "LentGalleryModel" "keptTenants" "I", Cond.lays "LentGalleryModel" "LentGalleryModel" "keptDays" "I", Cond.lays "LentGalleryModel" "LentGalleryModel" "keptFalls" "I", Cond.lays "LentGalleryModel" "LentGalleryModel" "keptProps" "I", Cond.lays "LentGalleryModel" "LentGalleryModel" "keptKnockMany" "I", Cond.laysFinal "LentGalleryModel" "LentGalleryModel" "keptStrong" "[I", Cond.laysFinal "LentGalleryModel" "LentGalleryModel" "keptRows" "[I", Cond.laysFinal "LentGalleryModel" "LentGalleryModel" "keptKnocks" "[I", Cond.lays "LentGalleryModel" "LentGalleryModel" "hash" "J"], w ∈ TB
  exact List.forall_mem_cons.mpr ⟨w_592, List.forall_mem_cons.mpr ⟨w_594, List.forall_mem_cons.mpr ⟨w_596, List.forall_mem_cons.mpr ⟨w_598, List.forall_mem_cons.mpr ⟨w_600, List.forall_mem_cons.mpr ⟨w_602, List.forall_mem_cons.mpr ⟨w_604, List.forall_mem_cons.mpr ⟨w_606, List.forall_mem_cons.mpr ⟨w_608, List.forall_mem_cons.mpr ⟨w_610, List.forall_mem_cons.mpr ⟨w_612, List.forall_mem_cons.mpr ⟨w_614, List.forall_mem_cons.mpr ⟨w_616, List.forall_mem_cons.mpr ⟨w_618, List.forall_mem_cons.mpr ⟨w_620, List.forall_mem_cons.mpr ⟨w_622, List.forall_mem_cons.mpr ⟨w_624, List.forall_mem_cons.mpr ⟨w_626, List.forall_mem_cons.mpr ⟨w_628, List.forall_mem_cons.mpr ⟨w_630, List.forall_mem_cons.mpr ⟨w_632, List.forall_mem_cons.mpr ⟨w_634, List.forall_mem_cons.mpr ⟨w_636, List.forall_mem_cons.mpr ⟨w_638, List.forall_mem_cons.mpr ⟨w_640, List.forall_mem_cons.mpr ⟨w_642, List.forall_mem_cons.mpr ⟨w_644, List.forall_mem_cons.mpr ⟨w_646, List.forall_mem_cons.mpr ⟨w_648, List.forall_mem_cons.mpr ⟨w_650, fun _ h => absurd h List.not_mem_nil⟩⟩⟩⟩⟩⟩⟩⟩⟩⟩⟩⟩⟩⟩⟩⟩⟩⟩⟩⟩⟩⟩⟩⟩⟩⟩⟩⟩⟩⟩
theorem oX8 {g : GP} {o : Nat} {r : Nat → Int} (h : kd o = 8) : ∃ fs, entR g o r = .inr (8, fs) := ⟨_, ent_8 h⟩
theorem zX8 {o : Nat} (h : kd o = 8) : o ∈ ids := kd_in h (by decide)
section FD
variable {g : GP} {p : Program} {l : Launch} {e : Env} {R : Room} {s : State} {m : MethodId} {args : Array Value} {below : List Frame} {meth : Method} {c : Code} {H : Heap} {locs : List Loc} {cells slots : Nat} {Q : State → Prop} {cc : ByteArray} {nL : Nat} {own : String} {pc : Nat} {ls : Array Slot} {rest : List Value} {M : Mem} {o index : Nat}
theorem g_0_0 (C : Cx g p s m args c cc nL own) (hI : Inv g s M H locs) (ho : kd o = 0) (hl : Cond.fieldLink own index "LentGallery$Draws" "seed" "I" ∈ TB) (hd : decode cc pc = .ok (.getfield index, 3)) (kk : W p l e R s m args below meth c H locs cells slots Q (F0 m (pc + 3) ls (iI (M o 0) :: rest))) : W p l e R s m args below meth c H locs cells slots Q (F0 m pc ls (rI g o :: rest)) :=
  r_getf C hI (k := 0) (zX0 ho) (ent_0 ho) rfl iX0 (by decide) hl rfl rfl hd kk
theorem p_0_0 (C : Cx g p s m args c cc nL own) (hI : Inv g s M H locs) (ho : kd o = 0) {x : Int} (hl : Cond.fieldLink own index "LentGallery$Draws" "seed" "I" ∈ TB) (hd : decode cc pc = .ok (.putfield index, 3)) (kk : ∀ (H1 : Heap) (locs1 : List Loc), Inv g s (st M o 0 x) H1 locs1 → W p l e R s m args below meth c H1 locs1 cells slots Q (F0 m (pc + 3) ls rest)) : W p l e R s m args below meth c H locs cells slots Q (F0 m pc ls (iI x :: rI g o :: rest)) :=
  r_putf C hI (k := 0) (zX0 ho) (ent_0 ho) rfl iX0 tyX0 tyX0_ok nmX0 (by decide) hl rfl rfl (nar_i _) rfl (Nat.le_of_ble_eq_true rfl) (x := x) (by rw [ent_0 ho, st_same]; rfl) hd kk
theorem g_1_0 (C : Cx g p s m args c cc nL own) (hI : Inv g s M H locs) (ho : kd o = 1) (hl : Cond.fieldLink own index "LentGallery$Knocks" "places" "[I" ∈ TB) (hd : decode cc pc = .ok (.getfield index, 3)) (kk : W p l e R s m args below meth c H locs cells slots Q (F0 m (pc + 3) ls (rI g (ch o 0) :: rest))) : W p l e R s m args below meth c H locs cells slots Q (F0 m pc ls (rI g o :: rest)) :=
  r_getf C hI (k := 0) (zX1 ho) (ent_1 ho) rfl iX1 (by decide) hl rfl rfl hd kk
theorem k_1_0 {o : Nat} (h : kd o = 1) : kd (ch o 0) = 108 := kd_ch 1 0 108 (by decide +kernel) (by decide) h
theorem g_1_1 (C : Cx g p s m args c cc nL own) (hI : Inv g s M H locs) (ho : kd o = 1) (hl : Cond.fieldLink own index "LentGallery$Knocks" "days" "[I" ∈ TB) (hd : decode cc pc = .ok (.getfield index, 3)) (kk : W p l e R s m args below meth c H locs cells slots Q (F0 m (pc + 3) ls (rI g (ch o 1) :: rest))) : W p l e R s m args below meth c H locs cells slots Q (F0 m pc ls (rI g o :: rest)) :=
  r_getf C hI (k := 1) (zX1 ho) (ent_1 ho) rfl iX1 (by decide) hl rfl rfl hd kk
theorem k_1_1 {o : Nat} (h : kd o = 1) : kd (ch o 1) = 108 := kd_ch 1 1 108 (by decide +kernel) (by decide) h
theorem g_1_2 (C : Cx g p s m args c cc nL own) (hI : Inv g s M H locs) (ho : kd o = 1) (hl : Cond.fieldLink own index "LentGallery$Knocks" "stood" "[I" ∈ TB) (hd : decode cc pc = .ok (.getfield index, 3)) (kk : W p l e R s m args below meth c H locs cells slots Q (F0 m (pc + 3) ls (rI g (ch o 2) :: rest))) : W p l e R s m args below meth c H locs cells slots Q (F0 m pc ls (rI g o :: rest)) :=
  r_getf C hI (k := 2) (zX1 ho) (ent_1 ho) rfl iX1 (by decide) hl rfl rfl hd kk
theorem k_1_2 {o : Nat} (h : kd o = 1) : kd (ch o 2) = 108 := kd_ch 1 2 108 (by decide +kernel) (by decide) h
theorem g_1_3 (C : Cx g p s m args c cc nL own) (hI : Inv g s M H locs) (ho : kd o = 1) (hl : Cond.fieldLink own index "LentGallery$Knocks" "size" "I" ∈ TB) (hd : decode cc pc = .ok (.getfield index, 3)) (kk : W p l e R s m args below meth c H locs cells slots Q (F0 m (pc + 3) ls (iI (M o 3) :: rest))) : W p l e R s m args below meth c H locs cells slots Q (F0 m pc ls (rI g o :: rest)) :=
  r_getf C hI (k := 3) (zX1 ho) (ent_1 ho) rfl iX1 (by decide) hl rfl rfl hd kk
theorem p_1_3 (C : Cx g p s m args c cc nL own) (hI : Inv g s M H locs) (ho : kd o = 1) {x : Int} (hl : Cond.fieldLink own index "LentGallery$Knocks" "size" "I" ∈ TB) (hd : decode cc pc = .ok (.putfield index, 3)) (kk : ∀ (H1 : Heap) (locs1 : List Loc), Inv g s (st M o 3 x) H1 locs1 → W p l e R s m args below meth c H1 locs1 cells slots Q (F0 m (pc + 3) ls rest)) : W p l e R s m args below meth c H locs cells slots Q (F0 m pc ls (iI x :: rI g o :: rest)) :=
  r_putf C hI (k := 3) (zX1 ho) (ent_1 ho) rfl iX1 tyX1 tyX1_ok nmX1 (by decide) hl rfl rfl (nar_i _) rfl (Nat.le_of_ble_eq_true rfl) (x := x) (by rw [ent_1 ho, st_same]; rfl) hd kk
theorem g_2_0 (C : Cx g p s m args c cc nL own) (hI : Inv g s M H locs) (ho : kd o = 2) (hl : Cond.fieldLink own index "LentGallery$Page" "letters" "[I" ∈ TB) (hd : decode cc pc = .ok (.getfield index, 3)) (kk : W p l e R s m args below meth c H locs cells slots Q (F0 m (pc + 3) ls (rI g (ch o 0) :: rest))) : W p l e R s m args below meth c H locs cells slots Q (F0 m pc ls (rI g o :: rest)) :=
  r_getf C hI (k := 0) (zX2 ho) (ent_2 ho) rfl iX2 (by decide) hl rfl rfl hd kk
theorem k_2_0 {o : Nat} (h : kd o = 2) : kd (ch o 0) = 112 := kd_ch 2 0 112 (by decide +kernel) (by decide) h
theorem g_2_1 (C : Cx g p s m args c cc nL own) (hI : Inv g s M H locs) (ho : kd o = 2) (hl : Cond.fieldLink own index "LentGallery$Page" "length" "I" ∈ TB) (hd : decode cc pc = .ok (.getfield index, 3)) (kk : W p l e R s m args below meth c H locs cells slots Q (F0 m (pc + 3) ls (iI (M o 1) :: rest))) : W p l e R s m args below meth c H locs cells slots Q (F0 m pc ls (rI g o :: rest)) :=
  r_getf C hI (k := 1) (zX2 ho) (ent_2 ho) rfl iX2 (by decide) hl rfl rfl hd kk
theorem p_2_1 (C : Cx g p s m args c cc nL own) (hI : Inv g s M H locs) (ho : kd o = 2) {x : Int} (hl : Cond.fieldLink own index "LentGallery$Page" "length" "I" ∈ TB) (hd : decode cc pc = .ok (.putfield index, 3)) (kk : ∀ (H1 : Heap) (locs1 : List Loc), Inv g s (st M o 1 x) H1 locs1 → W p l e R s m args below meth c H1 locs1 cells slots Q (F0 m (pc + 3) ls rest)) : W p l e R s m args below meth c H locs cells slots Q (F0 m pc ls (iI x :: rI g o :: rest)) :=
  r_putf C hI (k := 1) (zX2 ho) (ent_2 ho) rfl iX2 tyX2 tyX2_ok nmX2 (by decide) hl rfl rfl (nar_i _) rfl (Nat.le_of_ble_eq_true rfl) (x := x) (by rw [ent_2 ho, st_same]; rfl) hd kk
theorem g_3_0 (C : Cx g p s m args c cc nL own) (hI : Inv g s M H locs) (ho : kd o = 3) (hl : Cond.fieldLink own index "LentGallery$Roof" "strong" "[I" ∈ TB) (hd : decode cc pc = .ok (.getfield index, 3)) (kk : W p l e R s m args below meth c H locs cells slots Q (F0 m (pc + 3) ls (rI g (ch o 0) :: rest))) : W p l e R s m args below meth c H locs cells slots Q (F0 m pc ls (rI g o :: rest)) :=
  r_getf C hI (k := 0) (zX3 ho) (ent_3 ho) rfl iX3 (by decide) hl rfl rfl hd kk
theorem k_3_0 {o : Nat} (h : kd o = 3) : kd (ch o 0) = 106 := kd_ch 3 0 106 (by decide +kernel) (by decide) h
theorem g_3_1 (C : Cx g p s m args c cc nL own) (hI : Inv g s M H locs) (ho : kd o = 3) (hl : Cond.fieldLink own index "LentGallery$Roof" "load" "[I" ∈ TB) (hd : decode cc pc = .ok (.getfield index, 3)) (kk : W p l e R s m args below meth c H locs cells slots Q (F0 m (pc + 3) ls (rI g (ch o 1) :: rest))) : W p l e R s m args below meth c H locs cells slots Q (F0 m pc ls (rI g o :: rest)) :=
  r_getf C hI (k := 1) (zX3 ho) (ent_3 ho) rfl iX3 (by decide) hl rfl rfl hd kk
theorem k_3_1 {o : Nat} (h : kd o = 3) : kd (ch o 1) = 106 := kd_ch 3 1 106 (by decide +kernel) (by decide) h
theorem g_3_2 (C : Cx g p s m args c cc nL own) (hI : Inv g s M H locs) (ho : kd o = 3) (hl : Cond.fieldLink own index "LentGallery$Roof" "losses" "[I" ∈ TB) (hd : decode cc pc = .ok (.getfield index, 3)) (kk : W p l e R s m args below meth c H locs cells slots Q (F0 m (pc + 3) ls (rI g (ch o 2) :: rest))) : W p l e R s m args below meth c H locs cells slots Q (F0 m pc ls (rI g o :: rest)) :=
  r_getf C hI (k := 2) (zX3 ho) (ent_3 ho) rfl iX3 (by decide) hl rfl rfl hd kk
theorem k_3_2 {o : Nat} (h : kd o = 3) : kd (ch o 2) = 106 := kd_ch 3 2 106 (by decide +kernel) (by decide) h
theorem g_4_0 (C : Cx g p s m args c cc nL own) (hI : Inv g s M H locs) (ho : kd o = 4) (hl : Cond.fieldLink own index "LentGallery$Settling" "roof" "LLentGallery$Roof;" ∈ TB) (hd : decode cc pc = .ok (.getfield index, 3)) (kk : W p l e R s m args below meth c H locs cells slots Q (F0 m (pc + 3) ls (rI g (ch o 0) :: rest))) : W p l e R s m args below meth c H locs cells slots Q (F0 m pc ls (rI g o :: rest)) :=
  r_getf C hI (k := 0) (zX4 ho) (ent_4 ho) rfl iX4 (by decide) hl rfl rfl hd kk
theorem k_4_0 {o : Nat} (h : kd o = 4) : kd (ch o 0) = 3 := kd_ch 4 0 3 (by decide +kernel) (by decide) h
theorem g_4_1 (C : Cx g p s m args c cc nL own) (hI : Inv g s M H locs) (ho : kd o = 4) (hl : Cond.fieldLink own index "LentGallery$Settling" "homes" "[I" ∈ TB) (hd : decode cc pc = .ok (.getfield index, 3)) (kk : W p l e R s m args below meth c H locs cells slots Q (F0 m (pc + 3) ls (rI g (ch o 1) :: rest))) : W p l e R s m args below meth c H locs cells slots Q (F0 m pc ls (rI g o :: rest)) :=
  r_getf C hI (k := 1) (zX4 ho) (ent_4 ho) rfl iX4 (by decide) hl rfl rfl hd kk
theorem k_4_1 {o : Nat} (h : kd o = 4) : kd (ch o 1) = 105 := kd_ch 4 1 105 (by decide +kernel) (by decide) h
theorem g_4_2 (C : Cx g p s m args c cc nL own) (hI : Inv g s M H locs) (ho : kd o = 4) (hl : Cond.fieldLink own index "LentGallery$Settling" "bestHomes" "[I" ∈ TB) (hd : decode cc pc = .ok (.getfield index, 3)) (kk : W p l e R s m args below meth c H locs cells slots Q (F0 m (pc + 3) ls (rI g (ch o 2) :: rest))) : W p l e R s m args below meth c H locs cells slots Q (F0 m pc ls (rI g o :: rest)) :=
  r_getf C hI (k := 2) (zX4 ho) (ent_4 ho) rfl iX4 (by decide) hl rfl rfl hd kk
theorem k_4_2 {o : Nat} (h : kd o = 4) : kd (ch o 2) = 105 := kd_ch 4 2 105 (by decide +kernel) (by decide) h
theorem g_4_3 (C : Cx g p s m args c cc nL own) (hI : Inv g s M H locs) (ho : kd o = 4) (hl : Cond.fieldLink own index "LentGallery$Settling" "bestHold" "I" ∈ TB) (hd : decode cc pc = .ok (.getfield index, 3)) (kk : W p l e R s m args below meth c H locs cells slots Q (F0 m (pc + 3) ls (iI (M o 3) :: rest))) : W p l e R s m args below meth c H locs cells slots Q (F0 m pc ls (rI g o :: rest)) :=
  r_getf C hI (k := 3) (zX4 ho) (ent_4 ho) rfl iX4 (by decide) hl rfl rfl hd kk
theorem p_4_3 (C : Cx g p s m args c cc nL own) (hI : Inv g s M H locs) (ho : kd o = 4) {x : Int} (hl : Cond.fieldLink own index "LentGallery$Settling" "bestHold" "I" ∈ TB) (hd : decode cc pc = .ok (.putfield index, 3)) (kk : ∀ (H1 : Heap) (locs1 : List Loc), Inv g s (st M o 3 x) H1 locs1 → W p l e R s m args below meth c H1 locs1 cells slots Q (F0 m (pc + 3) ls rest)) : W p l e R s m args below meth c H locs cells slots Q (F0 m pc ls (iI x :: rI g o :: rest)) :=
  r_putf C hI (k := 3) (zX4 ho) (ent_4 ho) rfl iX4 tyX4 tyX4_ok nmX4 (by decide) hl rfl rfl (nar_i _) rfl (Nat.le_of_ble_eq_true rfl) (x := x) (by rw [ent_4 ho, st_same]; rfl) hd kk
theorem g_4_4 (C : Cx g p s m args c cc nL own) (hI : Inv g s M H locs) (ho : kd o = 4) (hl : Cond.fieldLink own index "LentGallery$Settling" "found" "Z" ∈ TB) (hd : decode cc pc = .ok (.getfield index, 3)) (kk : W p l e R s m args below meth c H locs cells slots Q (F0 m (pc + 3) ls (iI (M o 4) :: rest))) : W p l e R s m args below meth c H locs cells slots Q (F0 m pc ls (rI g o :: rest)) :=
  r_getf C hI (k := 4) (zX4 ho) (ent_4 ho) rfl iX4 (by decide) hl rfl rfl hd kk
theorem p_4_4 (C : Cx g p s m args c cc nL own) (hI : Inv g s M H locs) (ho : kd o = 4) {x : Int} (hx : x = 0 ∨ x = 1) (hl : Cond.fieldLink own index "LentGallery$Settling" "found" "Z" ∈ TB) (hd : decode cc pc = .ok (.putfield index, 3)) (kk : ∀ (H1 : Heap) (locs1 : List Loc), Inv g s (st M o 4 x) H1 locs1 → W p l e R s m args below meth c H1 locs1 cells slots Q (F0 m (pc + 3) ls rest)) : W p l e R s m args below meth c H locs cells slots Q (F0 m pc ls (iI x :: rI g o :: rest)) :=
  r_putf C hI (k := 4) (zX4 ho) (ent_4 ho) rfl iX4 tyX4 tyX4_ok nmX4 (by decide) hl rfl rfl (nar_z hx) (by rcases hx with rfl | rfl <;> rfl) (Nat.le_of_ble_eq_true rfl) (x := x) (by rw [ent_4 ho, st_same]; rfl) hd kk
theorem g_5_0 (C : Cx g p s m args c cc nL own) (hI : Inv g s M H locs) (ho : kd o = 5) (hl : Cond.fieldLink own index "LentGallery$Sounding" "trial" "LLentGallery$Roof;" ∈ TB) (hd : decode cc pc = .ok (.getfield index, 3)) (kk : W p l e R s m args below meth c H locs cells slots Q (F0 m (pc + 3) ls (rI g (ch o 0) :: rest))) : W p l e R s m args below meth c H locs cells slots Q (F0 m pc ls (rI g o :: rest)) :=
  r_getf C hI (k := 0) (zX5 ho) (ent_5 ho) rfl iX5 (by decide) hl rfl rfl hd kk
theorem k_5_0 {o : Nat} (h : kd o = 5) : kd (ch o 0) = 3 := kd_ch 5 0 3 (by decide +kernel) (by decide) h
theorem g_5_1 (C : Cx g p s m args c cc nL own) (hI : Inv g s M H locs) (ho : kd o = 5) (hl : Cond.fieldLink own index "LentGallery$Sounding" "fallenBy" "[I" ∈ TB) (hd : decode cc pc = .ok (.getfield index, 3)) (kk : W p l e R s m args below meth c H locs cells slots Q (F0 m (pc + 3) ls (rI g (ch o 1) :: rest))) : W p l e R s m args below meth c H locs cells slots Q (F0 m pc ls (rI g o :: rest)) :=
  r_getf C hI (k := 1) (zX5 ho) (ent_5 ho) rfl iX5 (by decide) hl rfl rfl hd kk
theorem k_5_1 {o : Nat} (h : kd o = 5) : kd (ch o 1) = 106 := kd_ch 5 1 106 (by decide +kernel) (by decide) h
theorem g_5_2 (C : Cx g p s m args c cc nL own) (hI : Inv g s M H locs) (ho : kd o = 5) (hl : Cond.fieldLink own index "LentGallery$Sounding" "guessFallenBy" "[I" ∈ TB) (hd : decode cc pc = .ok (.getfield index, 3)) (kk : W p l e R s m args below meth c H locs cells slots Q (F0 m (pc + 3) ls (rI g (ch o 2) :: rest))) : W p l e R s m args below meth c H locs cells slots Q (F0 m pc ls (rI g o :: rest)) :=
  r_getf C hI (k := 2) (zX5 ho) (ent_5 ho) rfl iX5 (by decide) hl rfl rfl hd kk
theorem k_5_2 {o : Nat} (h : kd o = 5) : kd (ch o 2) = 110 := kd_ch 5 2 110 (by decide +kernel) (by decide) h
theorem g_5_3 (C : Cx g p s m args c cc nL own) (hI : Inv g s M H locs) (ho : kd o = 5) (hl : Cond.fieldLink own index "LentGallery$Sounding" "possible" "I" ∈ TB) (hd : decode cc pc = .ok (.getfield index, 3)) (kk : W p l e R s m args below meth c H locs cells slots Q (F0 m (pc + 3) ls (iI (M o 3) :: rest))) : W p l e R s m args below meth c H locs cells slots Q (F0 m pc ls (rI g o :: rest)) :=
  r_getf C hI (k := 3) (zX5 ho) (ent_5 ho) rfl iX5 (by decide) hl rfl rfl hd kk
theorem p_5_3 (C : Cx g p s m args c cc nL own) (hI : Inv g s M H locs) (ho : kd o = 5) {x : Int} (hl : Cond.fieldLink own index "LentGallery$Sounding" "possible" "I" ∈ TB) (hd : decode cc pc = .ok (.putfield index, 3)) (kk : ∀ (H1 : Heap) (locs1 : List Loc), Inv g s (st M o 3 x) H1 locs1 → W p l e R s m args below meth c H1 locs1 cells slots Q (F0 m (pc + 3) ls rest)) : W p l e R s m args below meth c H locs cells slots Q (F0 m pc ls (iI x :: rI g o :: rest)) :=
  r_putf C hI (k := 3) (zX5 ho) (ent_5 ho) rfl iX5 tyX5 tyX5_ok nmX5 (by decide) hl rfl rfl (nar_i _) rfl (Nat.le_of_ble_eq_true rfl) (x := x) (by rw [ent_5 ho, st_same]; rfl) hd kk
theorem g_6_0 (C : Cx g p s m args c cc nL own) (hI : Inv g s M H locs) (ho : kd o = 6) (hl : Cond.fieldLink own index "LentGallery$Street" "roof" "LLentGallery$Roof;" ∈ TB) (hd : decode cc pc = .ok (.getfield index, 3)) (kk : W p l e R s m args below meth c H locs cells slots Q (F0 m (pc + 3) ls (rI g (ch o 0) :: rest))) : W p l e R s m args below meth c H locs cells slots Q (F0 m pc ls (rI g o :: rest)) :=
  r_getf C hI (k := 0) (zX6 ho) (ent_6 ho) rfl iX6 (by decide) hl rfl rfl hd kk
theorem k_6_0 {o : Nat} (h : kd o = 6) : kd (ch o 0) = 3 := kd_ch 6 0 3 (by decide +kernel) (by decide) h
theorem g_6_1 (C : Cx g p s m args c cc nL own) (hI : Inv g s M H locs) (ho : kd o = 6) (hl : Cond.fieldLink own index "LentGallery$Street" "kinds" "[I" ∈ TB) (hd : decode cc pc = .ok (.getfield index, 3)) (kk : W p l e R s m args below meth c H locs cells slots Q (F0 m (pc + 3) ls (rI g (ch o 1) :: rest))) : W p l e R s m args below meth c H locs cells slots Q (F0 m pc ls (rI g o :: rest)) :=
  r_getf C hI (k := 1) (zX6 ho) (ent_6 ho) rfl iX6 (by decide) hl rfl rfl hd kk
theorem k_6_1 {o : Nat} (h : kd o = 6) : kd (ch o 1) = 105 := kd_ch 6 1 105 (by decide +kernel) (by decide) h
theorem g_6_2 (C : Cx g p s m args c cc nL own) (hI : Inv g s M H locs) (ho : kd o = 6) (hl : Cond.fieldLink own index "LentGallery$Street" "homes" "[I" ∈ TB) (hd : decode cc pc = .ok (.getfield index, 3)) (kk : W p l e R s m args below meth c H locs cells slots Q (F0 m (pc + 3) ls (rI g (ch o 2) :: rest))) : W p l e R s m args below meth c H locs cells slots Q (F0 m pc ls (rI g o :: rest)) :=
  r_getf C hI (k := 2) (zX6 ho) (ent_6 ho) rfl iX6 (by decide) hl rfl rfl hd kk
theorem k_6_2 {o : Nat} (h : kd o = 6) : kd (ch o 2) = 105 := kd_ch 6 2 105 (by decide +kernel) (by decide) h
theorem g_6_3 (C : Cx g p s m args c cc nL own) (hI : Inv g s M H locs) (ho : kd o = 6) (hl : Cond.fieldLink own index "LentGallery$Street" "tenants" "I" ∈ TB) (hd : decode cc pc = .ok (.getfield index, 3)) (kk : W p l e R s m args below meth c H locs cells slots Q (F0 m (pc + 3) ls (iI (M o 3) :: rest))) : W p l e R s m args below meth c H locs cells slots Q (F0 m pc ls (rI g o :: rest)) :=
  r_getf C hI (k := 3) (zX6 ho) (ent_6 ho) rfl iX6 (by decide) hl rfl rfl hd kk
theorem p_6_3 (C : Cx g p s m args c cc nL own) (hI : Inv g s M H locs) (ho : kd o = 6) {x : Int} (hl : Cond.fieldLink own index "LentGallery$Street" "tenants" "I" ∈ TB) (hd : decode cc pc = .ok (.putfield index, 3)) (kk : ∀ (H1 : Heap) (locs1 : List Loc), Inv g s (st M o 3 x) H1 locs1 → W p l e R s m args below meth c H1 locs1 cells slots Q (F0 m (pc + 3) ls rest)) : W p l e R s m args below meth c H locs cells slots Q (F0 m pc ls (iI x :: rI g o :: rest)) :=
  r_putf C hI (k := 3) (zX6 ho) (ent_6 ho) rfl iX6 tyX6 tyX6_ok nmX6 (by decide) hl rfl rfl (nar_i _) rfl (Nat.le_of_ble_eq_true rfl) (x := x) (by rw [ent_6 ho, st_same]; rfl) hd kk
theorem g_6_4 (C : Cx g p s m args c cc nL own) (hI : Inv g s M H locs) (ho : kd o = 6) (hl : Cond.fieldLink own index "LentGallery$Street" "air" "I" ∈ TB) (hd : decode cc pc = .ok (.getfield index, 3)) (kk : W p l e R s m args below meth c H locs cells slots Q (F0 m (pc + 3) ls (iI (M o 4) :: rest))) : W p l e R s m args below meth c H locs cells slots Q (F0 m pc ls (rI g o :: rest)) :=
  r_getf C hI (k := 4) (zX6 ho) (ent_6 ho) rfl iX6 (by decide) hl rfl rfl hd kk
theorem p_6_4 (C : Cx g p s m args c cc nL own) (hI : Inv g s M H locs) (ho : kd o = 6) {x : Int} (hl : Cond.fieldLink own index "LentGallery$Street" "air" "I" ∈ TB) (hd : decode cc pc = .ok (.putfield index, 3)) (kk : ∀ (H1 : Heap) (locs1 : List Loc), Inv g s (st M o 4 x) H1 locs1 → W p l e R s m args below meth c H1 locs1 cells slots Q (F0 m (pc + 3) ls rest)) : W p l e R s m args below meth c H locs cells slots Q (F0 m pc ls (iI x :: rI g o :: rest)) :=
  r_putf C hI (k := 4) (zX6 ho) (ent_6 ho) rfl iX6 tyX6 tyX6_ok nmX6 (by decide) hl rfl rfl (nar_i _) rfl (Nat.le_of_ble_eq_true rfl) (x := x) (by rw [ent_6 ho, st_same]; rfl) hd kk
theorem g_6_5 (C : Cx g p s m args c cc nL own) (hI : Inv g s M H locs) (ho : kd o = 6) (hl : Cond.fieldLink own index "LentGallery$Street" "cage" "I" ∈ TB) (hd : decode cc pc = .ok (.getfield index, 3)) (kk : W p l e R s m args below meth c H locs cells slots Q (F0 m (pc + 3) ls (iI (M o 5) :: rest))) : W p l e R s m args below meth c H locs cells slots Q (F0 m pc ls (rI g o :: rest)) :=
  r_getf C hI (k := 5) (zX6 ho) (ent_6 ho) rfl iX6 (by decide) hl rfl rfl hd kk
theorem p_6_5 (C : Cx g p s m args c cc nL own) (hI : Inv g s M H locs) (ho : kd o = 6) {x : Int} (hl : Cond.fieldLink own index "LentGallery$Street" "cage" "I" ∈ TB) (hd : decode cc pc = .ok (.putfield index, 3)) (kk : ∀ (H1 : Heap) (locs1 : List Loc), Inv g s (st M o 5 x) H1 locs1 → W p l e R s m args below meth c H1 locs1 cells slots Q (F0 m (pc + 3) ls rest)) : W p l e R s m args below meth c H locs cells slots Q (F0 m pc ls (iI x :: rI g o :: rest)) :=
  r_putf C hI (k := 5) (zX6 ho) (ent_6 ho) rfl iX6 tyX6 tyX6_ok nmX6 (by decide) hl rfl rfl (nar_i _) rfl (Nat.le_of_ble_eq_true rfl) (x := x) (by rw [ent_6 ho, st_same]; rfl) hd kk
theorem g_6_6 (C : Cx g p s m args c cc nL own) (hI : Inv g s M H locs) (ho : kd o = 6) (hl : Cond.fieldLink own index "LentGallery$Street" "days" "I" ∈ TB) (hd : decode cc pc = .ok (.getfield index, 3)) (kk : W p l e R s m args below meth c H locs cells slots Q (F0 m (pc + 3) ls (iI (M o 6) :: rest))) : W p l e R s m args below meth c H locs cells slots Q (F0 m pc ls (rI g o :: rest)) :=
  r_getf C hI (k := 6) (zX6 ho) (ent_6 ho) rfl iX6 (by decide) hl rfl rfl hd kk
theorem p_6_6 (C : Cx g p s m args c cc nL own) (hI : Inv g s M H locs) (ho : kd o = 6) {x : Int} (hl : Cond.fieldLink own index "LentGallery$Street" "days" "I" ∈ TB) (hd : decode cc pc = .ok (.putfield index, 3)) (kk : ∀ (H1 : Heap) (locs1 : List Loc), Inv g s (st M o 6 x) H1 locs1 → W p l e R s m args below meth c H1 locs1 cells slots Q (F0 m (pc + 3) ls rest)) : W p l e R s m args below meth c H locs cells slots Q (F0 m pc ls (iI x :: rI g o :: rest)) :=
  r_putf C hI (k := 6) (zX6 ho) (ent_6 ho) rfl iX6 tyX6 tyX6_ok nmX6 (by decide) hl rfl rfl (nar_i _) rfl (Nat.le_of_ble_eq_true rfl) (x := x) (by rw [ent_6 ho, st_same]; rfl) hd kk
theorem g_6_7 (C : Cx g p s m args c cc nL own) (hI : Inv g s M H locs) (ho : kd o = 6) (hl : Cond.fieldLink own index "LentGallery$Street" "falls" "I" ∈ TB) (hd : decode cc pc = .ok (.getfield index, 3)) (kk : W p l e R s m args below meth c H locs cells slots Q (F0 m (pc + 3) ls (iI (M o 7) :: rest))) : W p l e R s m args below meth c H locs cells slots Q (F0 m pc ls (rI g o :: rest)) :=
  r_getf C hI (k := 7) (zX6 ho) (ent_6 ho) rfl iX6 (by decide) hl rfl rfl hd kk
theorem p_6_7 (C : Cx g p s m args c cc nL own) (hI : Inv g s M H locs) (ho : kd o = 6) {x : Int} (hl : Cond.fieldLink own index "LentGallery$Street" "falls" "I" ∈ TB) (hd : decode cc pc = .ok (.putfield index, 3)) (kk : ∀ (H1 : Heap) (locs1 : List Loc), Inv g s (st M o 7 x) H1 locs1 → W p l e R s m args below meth c H1 locs1 cells slots Q (F0 m (pc + 3) ls rest)) : W p l e R s m args below meth c H locs cells slots Q (F0 m pc ls (iI x :: rI g o :: rest)) :=
  r_putf C hI (k := 7) (zX6 ho) (ent_6 ho) rfl iX6 tyX6 tyX6_ok nmX6 (by decide) hl rfl rfl (nar_i _) rfl (Nat.le_of_ble_eq_true rfl) (x := x) (by rw [ent_6 ho, st_same]; rfl) hd kk
theorem g_6_8 (C : Cx g p s m args c cc nL own) (hI : Inv g s M H locs) (ho : kd o = 6) (hl : Cond.fieldLink own index "LentGallery$Street" "props" "I" ∈ TB) (hd : decode cc pc = .ok (.getfield index, 3)) (kk : W p l e R s m args below meth c H locs cells slots Q (F0 m (pc + 3) ls (iI (M o 8) :: rest))) : W p l e R s m args below meth c H locs cells slots Q (F0 m pc ls (rI g o :: rest)) :=
  r_getf C hI (k := 8) (zX6 ho) (ent_6 ho) rfl iX6 (by decide) hl rfl rfl hd kk
theorem p_6_8 (C : Cx g p s m args c cc nL own) (hI : Inv g s M H locs) (ho : kd o = 6) {x : Int} (hl : Cond.fieldLink own index "LentGallery$Street" "props" "I" ∈ TB) (hd : decode cc pc = .ok (.putfield index, 3)) (kk : ∀ (H1 : Heap) (locs1 : List Loc), Inv g s (st M o 8 x) H1 locs1 → W p l e R s m args below meth c H1 locs1 cells slots Q (F0 m (pc + 3) ls rest)) : W p l e R s m args below meth c H locs cells slots Q (F0 m pc ls (iI x :: rI g o :: rest)) :=
  r_putf C hI (k := 8) (zX6 ho) (ent_6 ho) rfl iX6 tyX6 tyX6_ok nmX6 (by decide) hl rfl rfl (nar_i _) rfl (Nat.le_of_ble_eq_true rfl) (x := x) (by rw [ent_6 ho, st_same]; rfl) hd kk
theorem g_7_0 (C : Cx g p s m args c cc nL own) (hI : Inv g s M H locs) (ho : kd o = 7) (hl : Cond.fieldLink own index "LentGallery" "page" "LLentGallery$Page;" ∈ TB) (hd : decode cc pc = .ok (.getfield index, 3)) (kk : W p l e R s m args below meth c H locs cells slots Q (F0 m (pc + 3) ls (rI g (ch o 0) :: rest))) : W p l e R s m args below meth c H locs cells slots Q (F0 m pc ls (rI g o :: rest)) :=
  r_getf C hI (k := 0) (zX7 ho) (ent_7 ho) rfl iX7 (by decide) hl rfl rfl hd kk
theorem k_7_0 {o : Nat} (h : kd o = 7) : kd (ch o 0) = 2 := kd_ch 7 0 2 (by decide +kernel) (by decide) h
theorem g_7_1 (C : Cx g p s m args c cc nL own) (hI : Inv g s M H locs) (ho : kd o = 7) (hl : Cond.fieldLink own index "LentGallery" "street" "LLentGallery$Street;" ∈ TB) (hd : decode cc pc = .ok (.getfield index, 3)) (kk : W p l e R s m args below meth c H locs cells slots Q (F0 m (pc + 3) ls (rI g (ch o 1) :: rest))) : W p l e R s m args below meth c H locs cells slots Q (F0 m pc ls (rI g o :: rest)) :=
  r_getf C hI (k := 1) (zX7 ho) (ent_7 ho) rfl iX7 (by decide) hl rfl rfl hd kk
theorem k_7_1 {o : Nat} (h : kd o = 7) : kd (ch o 1) = 6 := kd_ch 7 1 6 (by decide +kernel) (by decide) h
theorem g_7_2 (C : Cx g p s m args c cc nL own) (hI : Inv g s M H locs) (ho : kd o = 7) (hl : Cond.fieldLink own index "LentGallery" "knocks" "LLentGallery$Knocks;" ∈ TB) (hd : decode cc pc = .ok (.getfield index, 3)) (kk : W p l e R s m args below meth c H locs cells slots Q (F0 m (pc + 3) ls (rI g (ch o 2) :: rest))) : W p l e R s m args below meth c H locs cells slots Q (F0 m pc ls (rI g o :: rest)) :=
  r_getf C hI (k := 2) (zX7 ho) (ent_7 ho) rfl iX7 (by decide) hl rfl rfl hd kk
theorem k_7_2 {o : Nat} (h : kd o = 7) : kd (ch o 2) = 1 := kd_ch 7 2 1 (by decide +kernel) (by decide) h
theorem g_7_3 (C : Cx g p s m args c cc nL own) (hI : Inv g s M H locs) (ho : kd o = 7) (hl : Cond.fieldLink own index "LentGallery" "keptStreet" "LLentGallery$Street;" ∈ TB) (hd : decode cc pc = .ok (.getfield index, 3)) (kk : W p l e R s m args below meth c H locs cells slots Q (F0 m (pc + 3) ls (rI g (ch o 3) :: rest))) : W p l e R s m args below meth c H locs cells slots Q (F0 m pc ls (rI g o :: rest)) :=
  r_getf C hI (k := 3) (zX7 ho) (ent_7 ho) rfl iX7 (by decide) hl rfl rfl hd kk
theorem k_7_3 {o : Nat} (h : kd o = 7) : kd (ch o 3) = 6 := kd_ch 7 3 6 (by decide +kernel) (by decide) h
theorem g_7_4 (C : Cx g p s m args c cc nL own) (hI : Inv g s M H locs) (ho : kd o = 7) (hl : Cond.fieldLink own index "LentGallery" "keptKnocks" "LLentGallery$Knocks;" ∈ TB) (hd : decode cc pc = .ok (.getfield index, 3)) (kk : W p l e R s m args below meth c H locs cells slots Q (F0 m (pc + 3) ls (rI g (ch o 4) :: rest))) : W p l e R s m args below meth c H locs cells slots Q (F0 m pc ls (rI g o :: rest)) :=
  r_getf C hI (k := 4) (zX7 ho) (ent_7 ho) rfl iX7 (by decide) hl rfl rfl hd kk
theorem k_7_4 {o : Nat} (h : kd o = 7) : kd (ch o 4) = 1 := kd_ch 7 4 1 (by decide +kernel) (by decide) h
theorem g_7_5 (C : Cx g p s m args c cc nL own) (hI : Inv g s M H locs) (ho : kd o = 7) (hl : Cond.fieldLink own index "LentGallery" "wouldBe" "LLentGallery$Street;" ∈ TB) (hd : decode cc pc = .ok (.getfield index, 3)) (kk : W p l e R s m args below meth c H locs cells slots Q (F0 m (pc + 3) ls (rI g (ch o 5) :: rest))) : W p l e R s m args below meth c H locs cells slots Q (F0 m pc ls (rI g o :: rest)) :=
  r_getf C hI (k := 5) (zX7 ho) (ent_7 ho) rfl iX7 (by decide) hl rfl rfl hd kk
theorem k_7_5 {o : Nat} (h : kd o = 7) : kd (ch o 5) = 6 := kd_ch 7 5 6 (by decide +kernel) (by decide) h
theorem g_7_6 (C : Cx g p s m args c cc nL own) (hI : Inv g s M H locs) (ho : kd o = 7) (hl : Cond.fieldLink own index "LentGallery" "settling" "LLentGallery$Settling;" ∈ TB) (hd : decode cc pc = .ok (.getfield index, 3)) (kk : W p l e R s m args below meth c H locs cells slots Q (F0 m (pc + 3) ls (rI g (ch o 6) :: rest))) : W p l e R s m args below meth c H locs cells slots Q (F0 m pc ls (rI g o :: rest)) :=
  r_getf C hI (k := 6) (zX7 ho) (ent_7 ho) rfl iX7 (by decide) hl rfl rfl hd kk
theorem k_7_6 {o : Nat} (h : kd o = 7) : kd (ch o 6) = 4 := kd_ch 7 6 4 (by decide +kernel) (by decide) h
theorem g_7_7 (C : Cx g p s m args c cc nL own) (hI : Inv g s M H locs) (ho : kd o = 7) (hl : Cond.fieldLink own index "LentGallery" "sounding" "LLentGallery$Sounding;" ∈ TB) (hd : decode cc pc = .ok (.getfield index, 3)) (kk : W p l e R s m args below meth c H locs cells slots Q (F0 m (pc + 3) ls (rI g (ch o 7) :: rest))) : W p l e R s m args below meth c H locs cells slots Q (F0 m pc ls (rI g o :: rest)) :=
  r_getf C hI (k := 7) (zX7 ho) (ent_7 ho) rfl iX7 (by decide) hl rfl rfl hd kk
theorem k_7_7 {o : Nat} (h : kd o = 7) : kd (ch o 7) = 5 := kd_ch 7 7 5 (by decide +kernel) (by decide) h
theorem g_7_8 (C : Cx g p s m args c cc nL own) (hI : Inv g s M H locs) (ho : kd o = 7) (hl : Cond.fieldLink own index "LentGallery" "draws" "LLentGallery$Draws;" ∈ TB) (hd : decode cc pc = .ok (.getfield index, 3)) (kk : W p l e R s m args below meth c H locs cells slots Q (F0 m (pc + 3) ls (rI g (ch o 8) :: rest))) : W p l e R s m args below meth c H locs cells slots Q (F0 m pc ls (rI g o :: rest)) :=
  r_getf C hI (k := 8) (zX7 ho) (ent_7 ho) rfl iX7 (by decide) hl rfl rfl hd kk
theorem k_7_8 {o : Nat} (h : kd o = 7) : kd (ch o 8) = 0 := kd_ch 7 8 0 (by decide +kernel) (by decide) h
theorem g_7_9 (C : Cx g p s m args c cc nL own) (hI : Inv g s M H locs) (ho : kd o = 7) (hl : Cond.fieldLink own index "LentGallery" "hasGallery" "Z" ∈ TB) (hd : decode cc pc = .ok (.getfield index, 3)) (kk : W p l e R s m args below meth c H locs cells slots Q (F0 m (pc + 3) ls (iI (M o 9) :: rest))) : W p l e R s m args below meth c H locs cells slots Q (F0 m pc ls (rI g o :: rest)) :=
  r_getf C hI (k := 9) (zX7 ho) (ent_7 ho) rfl iX7 (by decide) hl rfl rfl hd kk
theorem p_7_9 (C : Cx g p s m args c cc nL own) (hI : Inv g s M H locs) (ho : kd o = 7) {x : Int} (hx : x = 0 ∨ x = 1) (hl : Cond.fieldLink own index "LentGallery" "hasGallery" "Z" ∈ TB) (hd : decode cc pc = .ok (.putfield index, 3)) (kk : ∀ (H1 : Heap) (locs1 : List Loc), Inv g s (st M o 9 x) H1 locs1 → W p l e R s m args below meth c H1 locs1 cells slots Q (F0 m (pc + 3) ls rest)) : W p l e R s m args below meth c H locs cells slots Q (F0 m pc ls (iI x :: rI g o :: rest)) :=
  r_putf C hI (k := 9) (zX7 ho) (ent_7 ho) rfl iX7 tyX7 tyX7_ok nmX7 (by decide) hl rfl rfl (nar_z hx) (by rcases hx with rfl | rfl <;> rfl) (Nat.le_of_ble_eq_true rfl) (x := x) (by rw [ent_7 ho, st_same]; rfl) hd kk
theorem g_7_10 (C : Cx g p s m args c cc nL own) (hI : Inv g s M H locs) (ho : kd o = 7) (hl : Cond.fieldLink own index "LentGallery" "hasImage" "Z" ∈ TB) (hd : decode cc pc = .ok (.getfield index, 3)) (kk : W p l e R s m args below meth c H locs cells slots Q (F0 m (pc + 3) ls (iI (M o 10) :: rest))) : W p l e R s m args below meth c H locs cells slots Q (F0 m pc ls (rI g o :: rest)) :=
  r_getf C hI (k := 10) (zX7 ho) (ent_7 ho) rfl iX7 (by decide) hl rfl rfl hd kk
theorem p_7_10 (C : Cx g p s m args c cc nL own) (hI : Inv g s M H locs) (ho : kd o = 7) {x : Int} (hx : x = 0 ∨ x = 1) (hl : Cond.fieldLink own index "LentGallery" "hasImage" "Z" ∈ TB) (hd : decode cc pc = .ok (.putfield index, 3)) (kk : ∀ (H1 : Heap) (locs1 : List Loc), Inv g s (st M o 10 x) H1 locs1 → W p l e R s m args below meth c H1 locs1 cells slots Q (F0 m (pc + 3) ls rest)) : W p l e R s m args below meth c H locs cells slots Q (F0 m pc ls (iI x :: rI g o :: rest)) :=
  r_putf C hI (k := 10) (zX7 ho) (ent_7 ho) rfl iX7 tyX7 tyX7_ok nmX7 (by decide) hl rfl rfl (nar_z hx) (by rcases hx with rfl | rfl <;> rfl) (Nat.le_of_ble_eq_true rfl) (x := x) (by rw [ent_7 ho, st_same]; rfl) hd kk
theorem g_7_11 (C : Cx g p s m args c cc nL own) (hI : Inv g s M H locs) (ho : kd o = 7) (hl : Cond.fieldLink own index "LentGallery" "galleriesRead" "I" ∈ TB) (hd : decode cc pc = .ok (.getfield index, 3)) (kk : W p l e R s m args below meth c H locs cells slots Q (F0 m (pc + 3) ls (iI (M o 11) :: rest))) : W p l e R s m args below meth c H locs cells slots Q (F0 m pc ls (rI g o :: rest)) :=
  r_getf C hI (k := 11) (zX7 ho) (ent_7 ho) rfl iX7 (by decide) hl rfl rfl hd kk
theorem p_7_11 (C : Cx g p s m args c cc nL own) (hI : Inv g s M H locs) (ho : kd o = 7) {x : Int} (hl : Cond.fieldLink own index "LentGallery" "galleriesRead" "I" ∈ TB) (hd : decode cc pc = .ok (.putfield index, 3)) (kk : ∀ (H1 : Heap) (locs1 : List Loc), Inv g s (st M o 11 x) H1 locs1 → W p l e R s m args below meth c H1 locs1 cells slots Q (F0 m (pc + 3) ls rest)) : W p l e R s m args below meth c H locs cells slots Q (F0 m pc ls (iI x :: rI g o :: rest)) :=
  r_putf C hI (k := 11) (zX7 ho) (ent_7 ho) rfl iX7 tyX7 tyX7_ok nmX7 (by decide) hl rfl rfl (nar_i _) rfl (Nat.le_of_ble_eq_true rfl) (x := x) (by rw [ent_7 ho, st_same]; rfl) hd kk
theorem g_7_12 (C : Cx g p s m args c cc nL own) (hI : Inv g s M H locs) (ho : kd o = 7) (hl : Cond.fieldLink own index "LentGallery" "whereDone" "I" ∈ TB) (hd : decode cc pc = .ok (.getfield index, 3)) (kk : W p l e R s m args below meth c H locs cells slots Q (F0 m (pc + 3) ls (iI (M o 12) :: rest))) : W p l e R s m args below meth c H locs cells slots Q (F0 m pc ls (rI g o :: rest)) :=
  r_getf C hI (k := 12) (zX7 ho) (ent_7 ho) rfl iX7 (by decide) hl rfl rfl hd kk
theorem p_7_12 (C : Cx g p s m args c cc nL own) (hI : Inv g s M H locs) (ho : kd o = 7) {x : Int} (hl : Cond.fieldLink own index "LentGallery" "whereDone" "I" ∈ TB) (hd : decode cc pc = .ok (.putfield index, 3)) (kk : ∀ (H1 : Heap) (locs1 : List Loc), Inv g s (st M o 12 x) H1 locs1 → W p l e R s m args below meth c H1 locs1 cells slots Q (F0 m (pc + 3) ls rest)) : W p l e R s m args below meth c H locs cells slots Q (F0 m pc ls (iI x :: rI g o :: rest)) :=
  r_putf C hI (k := 12) (zX7 ho) (ent_7 ho) rfl iX7 tyX7 tyX7_ok nmX7 (by decide) hl rfl rfl (nar_i _) rfl (Nat.le_of_ble_eq_true rfl) (x := x) (by rw [ent_7 ho, st_same]; rfl) hd kk
theorem g_8_0 (C : Cx g p s m args c cc nL own) (hI : Inv g s M H locs) (ho : kd o = 8) (hl : Cond.fieldLink own index "LentGalleryModel" "page" "[I" ∈ TB) (hd : decode cc pc = .ok (.getfield index, 3)) (kk : W p l e R s m args below meth c H locs cells slots Q (F0 m (pc + 3) ls (rI g (ch o 0) :: rest))) : W p l e R s m args below meth c H locs cells slots Q (F0 m pc ls (rI g o :: rest)) :=
  r_getf C hI (k := 0) (zX8 ho) (ent_8 ho) rfl iX8 (by decide) hl rfl rfl hd kk
theorem k_8_0 {o : Nat} (h : kd o = 8) : kd (ch o 0) = 112 := kd_ch 8 0 112 (by decide +kernel) (by decide) h
theorem g_8_1 (C : Cx g p s m args c cc nL own) (hI : Inv g s M H locs) (ho : kd o = 8) (hl : Cond.fieldLink own index "LentGalleryModel" "pageMany" "I" ∈ TB) (hd : decode cc pc = .ok (.getfield index, 3)) (kk : W p l e R s m args below meth c H locs cells slots Q (F0 m (pc + 3) ls (iI (M o 1) :: rest))) : W p l e R s m args below meth c H locs cells slots Q (F0 m pc ls (rI g o :: rest)) :=
  r_getf C hI (k := 1) (zX8 ho) (ent_8 ho) rfl iX8 (by decide) hl rfl rfl hd kk
theorem p_8_1 (C : Cx g p s m args c cc nL own) (hI : Inv g s M H locs) (ho : kd o = 8) {x : Int} (hl : Cond.fieldLink own index "LentGalleryModel" "pageMany" "I" ∈ TB) (hd : decode cc pc = .ok (.putfield index, 3)) (kk : ∀ (H1 : Heap) (locs1 : List Loc), Inv g s (st M o 1 x) H1 locs1 → W p l e R s m args below meth c H1 locs1 cells slots Q (F0 m (pc + 3) ls rest)) : W p l e R s m args below meth c H locs cells slots Q (F0 m pc ls (iI x :: rI g o :: rest)) :=
  r_putf C hI (k := 1) (zX8 ho) (ent_8 ho) rfl iX8 tyX8 tyX8_ok nmX8 (by decide) hl rfl rfl (nar_i _) rfl (Nat.le_of_ble_eq_true rfl) (x := x) (by rw [ent_8 ho, st_same]; rfl) hd kk
theorem g_8_2 (C : Cx g p s m args c cc nL own) (hI : Inv g s M H locs) (ho : kd o = 8) (hl : Cond.fieldLink own index "LentGalleryModel" "air" "I" ∈ TB) (hd : decode cc pc = .ok (.getfield index, 3)) (kk : W p l e R s m args below meth c H locs cells slots Q (F0 m (pc + 3) ls (iI (M o 2) :: rest))) : W p l e R s m args below meth c H locs cells slots Q (F0 m pc ls (rI g o :: rest)) :=
  r_getf C hI (k := 2) (zX8 ho) (ent_8 ho) rfl iX8 (by decide) hl rfl rfl hd kk
theorem p_8_2 (C : Cx g p s m args c cc nL own) (hI : Inv g s M H locs) (ho : kd o = 8) {x : Int} (hl : Cond.fieldLink own index "LentGalleryModel" "air" "I" ∈ TB) (hd : decode cc pc = .ok (.putfield index, 3)) (kk : ∀ (H1 : Heap) (locs1 : List Loc), Inv g s (st M o 2 x) H1 locs1 → W p l e R s m args below meth c H1 locs1 cells slots Q (F0 m (pc + 3) ls rest)) : W p l e R s m args below meth c H locs cells slots Q (F0 m pc ls (iI x :: rI g o :: rest)) :=
  r_putf C hI (k := 2) (zX8 ho) (ent_8 ho) rfl iX8 tyX8 tyX8_ok nmX8 (by decide) hl rfl rfl (nar_i _) rfl (Nat.le_of_ble_eq_true rfl) (x := x) (by rw [ent_8 ho, st_same]; rfl) hd kk
theorem g_8_3 (C : Cx g p s m args c cc nL own) (hI : Inv g s M H locs) (ho : kd o = 8) (hl : Cond.fieldLink own index "LentGalleryModel" "cage" "I" ∈ TB) (hd : decode cc pc = .ok (.getfield index, 3)) (kk : W p l e R s m args below meth c H locs cells slots Q (F0 m (pc + 3) ls (iI (M o 3) :: rest))) : W p l e R s m args below meth c H locs cells slots Q (F0 m pc ls (rI g o :: rest)) :=
  r_getf C hI (k := 3) (zX8 ho) (ent_8 ho) rfl iX8 (by decide) hl rfl rfl hd kk
theorem p_8_3 (C : Cx g p s m args c cc nL own) (hI : Inv g s M H locs) (ho : kd o = 8) {x : Int} (hl : Cond.fieldLink own index "LentGalleryModel" "cage" "I" ∈ TB) (hd : decode cc pc = .ok (.putfield index, 3)) (kk : ∀ (H1 : Heap) (locs1 : List Loc), Inv g s (st M o 3 x) H1 locs1 → W p l e R s m args below meth c H1 locs1 cells slots Q (F0 m (pc + 3) ls rest)) : W p l e R s m args below meth c H locs cells slots Q (F0 m pc ls (iI x :: rI g o :: rest)) :=
  r_putf C hI (k := 3) (zX8 ho) (ent_8 ho) rfl iX8 tyX8 tyX8_ok nmX8 (by decide) hl rfl rfl (nar_i _) rfl (Nat.le_of_ble_eq_true rfl) (x := x) (by rw [ent_8 ho, st_same]; rfl) hd kk
theorem g_8_4 (C : Cx g p s m args c cc nL own) (hI : Inv g s M H locs) (ho : kd o = 8) (hl : Cond.fieldLink own index "LentGalleryModel" "daysNow" "I" ∈ TB) (hd : decode cc pc = .ok (.getfield index, 3)) (kk : W p l e R s m args below meth c H locs cells slots Q (F0 m (pc + 3) ls (iI (M o 4) :: rest))) : W p l e R s m args below meth c H locs cells slots Q (F0 m pc ls (rI g o :: rest)) :=
  r_getf C hI (k := 4) (zX8 ho) (ent_8 ho) rfl iX8 (by decide) hl rfl rfl hd kk
theorem p_8_4 (C : Cx g p s m args c cc nL own) (hI : Inv g s M H locs) (ho : kd o = 8) {x : Int} (hl : Cond.fieldLink own index "LentGalleryModel" "daysNow" "I" ∈ TB) (hd : decode cc pc = .ok (.putfield index, 3)) (kk : ∀ (H1 : Heap) (locs1 : List Loc), Inv g s (st M o 4 x) H1 locs1 → W p l e R s m args below meth c H1 locs1 cells slots Q (F0 m (pc + 3) ls rest)) : W p l e R s m args below meth c H locs cells slots Q (F0 m pc ls (iI x :: rI g o :: rest)) :=
  r_putf C hI (k := 4) (zX8 ho) (ent_8 ho) rfl iX8 tyX8 tyX8_ok nmX8 (by decide) hl rfl rfl (nar_i _) rfl (Nat.le_of_ble_eq_true rfl) (x := x) (by rw [ent_8 ho, st_same]; rfl) hd kk
theorem g_8_5 (C : Cx g p s m args c cc nL own) (hI : Inv g s M H locs) (ho : kd o = 8) (hl : Cond.fieldLink own index "LentGalleryModel" "fallsNow" "I" ∈ TB) (hd : decode cc pc = .ok (.getfield index, 3)) (kk : W p l e R s m args below meth c H locs cells slots Q (F0 m (pc + 3) ls (iI (M o 5) :: rest))) : W p l e R s m args below meth c H locs cells slots Q (F0 m pc ls (rI g o :: rest)) :=
  r_getf C hI (k := 5) (zX8 ho) (ent_8 ho) rfl iX8 (by decide) hl rfl rfl hd kk
theorem p_8_5 (C : Cx g p s m args c cc nL own) (hI : Inv g s M H locs) (ho : kd o = 8) {x : Int} (hl : Cond.fieldLink own index "LentGalleryModel" "fallsNow" "I" ∈ TB) (hd : decode cc pc = .ok (.putfield index, 3)) (kk : ∀ (H1 : Heap) (locs1 : List Loc), Inv g s (st M o 5 x) H1 locs1 → W p l e R s m args below meth c H1 locs1 cells slots Q (F0 m (pc + 3) ls rest)) : W p l e R s m args below meth c H locs cells slots Q (F0 m pc ls (iI x :: rI g o :: rest)) :=
  r_putf C hI (k := 5) (zX8 ho) (ent_8 ho) rfl iX8 tyX8 tyX8_ok nmX8 (by decide) hl rfl rfl (nar_i _) rfl (Nat.le_of_ble_eq_true rfl) (x := x) (by rw [ent_8 ho, st_same]; rfl) hd kk
theorem g_8_6 (C : Cx g p s m args c cc nL own) (hI : Inv g s M H locs) (ho : kd o = 8) (hl : Cond.fieldLink own index "LentGalleryModel" "propsNow" "I" ∈ TB) (hd : decode cc pc = .ok (.getfield index, 3)) (kk : W p l e R s m args below meth c H locs cells slots Q (F0 m (pc + 3) ls (iI (M o 6) :: rest))) : W p l e R s m args below meth c H locs cells slots Q (F0 m pc ls (rI g o :: rest)) :=
  r_getf C hI (k := 6) (zX8 ho) (ent_8 ho) rfl iX8 (by decide) hl rfl rfl hd kk
theorem p_8_6 (C : Cx g p s m args c cc nL own) (hI : Inv g s M H locs) (ho : kd o = 8) {x : Int} (hl : Cond.fieldLink own index "LentGalleryModel" "propsNow" "I" ∈ TB) (hd : decode cc pc = .ok (.putfield index, 3)) (kk : ∀ (H1 : Heap) (locs1 : List Loc), Inv g s (st M o 6 x) H1 locs1 → W p l e R s m args below meth c H1 locs1 cells slots Q (F0 m (pc + 3) ls rest)) : W p l e R s m args below meth c H locs cells slots Q (F0 m pc ls (iI x :: rI g o :: rest)) :=
  r_putf C hI (k := 6) (zX8 ho) (ent_8 ho) rfl iX8 tyX8 tyX8_ok nmX8 (by decide) hl rfl rfl (nar_i _) rfl (Nat.le_of_ble_eq_true rfl) (x := x) (by rw [ent_8 ho, st_same]; rfl) hd kk
theorem g_8_7 (C : Cx g p s m args c cc nL own) (hI : Inv g s M H locs) (ho : kd o = 8) (hl : Cond.fieldLink own index "LentGalleryModel" "galleriesRead" "I" ∈ TB) (hd : decode cc pc = .ok (.getfield index, 3)) (kk : W p l e R s m args below meth c H locs cells slots Q (F0 m (pc + 3) ls (iI (M o 7) :: rest))) : W p l e R s m args below meth c H locs cells slots Q (F0 m pc ls (rI g o :: rest)) :=
  r_getf C hI (k := 7) (zX8 ho) (ent_8 ho) rfl iX8 (by decide) hl rfl rfl hd kk
theorem p_8_7 (C : Cx g p s m args c cc nL own) (hI : Inv g s M H locs) (ho : kd o = 8) {x : Int} (hl : Cond.fieldLink own index "LentGalleryModel" "galleriesRead" "I" ∈ TB) (hd : decode cc pc = .ok (.putfield index, 3)) (kk : ∀ (H1 : Heap) (locs1 : List Loc), Inv g s (st M o 7 x) H1 locs1 → W p l e R s m args below meth c H1 locs1 cells slots Q (F0 m (pc + 3) ls rest)) : W p l e R s m args below meth c H locs cells slots Q (F0 m pc ls (iI x :: rI g o :: rest)) :=
  r_putf C hI (k := 7) (zX8 ho) (ent_8 ho) rfl iX8 tyX8 tyX8_ok nmX8 (by decide) hl rfl rfl (nar_i _) rfl (Nat.le_of_ble_eq_true rfl) (x := x) (by rw [ent_8 ho, st_same]; rfl) hd kk
theorem g_8_8 (C : Cx g p s m args c cc nL own) (hI : Inv g s M H locs) (ho : kd o = 8) (hl : Cond.fieldLink own index "LentGalleryModel" "strong" "[I" ∈ TB) (hd : decode cc pc = .ok (.getfield index, 3)) (kk : W p l e R s m args below meth c H locs cells slots Q (F0 m (pc + 3) ls (rI g (ch o 8) :: rest))) : W p l e R s m args below meth c H locs cells slots Q (F0 m pc ls (rI g o :: rest)) :=
  r_getf C hI (k := 8) (zX8 ho) (ent_8 ho) rfl iX8 (by decide) hl rfl rfl hd kk
theorem k_8_8 {o : Nat} (h : kd o = 8) : kd (ch o 8) = 106 := kd_ch 8 8 106 (by decide +kernel) (by decide) h
theorem g_8_9 (C : Cx g p s m args c cc nL own) (hI : Inv g s M H locs) (ho : kd o = 8) (hl : Cond.fieldLink own index "LentGalleryModel" "tenants" "I" ∈ TB) (hd : decode cc pc = .ok (.getfield index, 3)) (kk : W p l e R s m args below meth c H locs cells slots Q (F0 m (pc + 3) ls (iI (M o 9) :: rest))) : W p l e R s m args below meth c H locs cells slots Q (F0 m pc ls (rI g o :: rest)) :=
  r_getf C hI (k := 9) (zX8 ho) (ent_8 ho) rfl iX8 (by decide) hl rfl rfl hd kk
theorem p_8_9 (C : Cx g p s m args c cc nL own) (hI : Inv g s M H locs) (ho : kd o = 8) {x : Int} (hl : Cond.fieldLink own index "LentGalleryModel" "tenants" "I" ∈ TB) (hd : decode cc pc = .ok (.putfield index, 3)) (kk : ∀ (H1 : Heap) (locs1 : List Loc), Inv g s (st M o 9 x) H1 locs1 → W p l e R s m args below meth c H1 locs1 cells slots Q (F0 m (pc + 3) ls rest)) : W p l e R s m args below meth c H locs cells slots Q (F0 m pc ls (iI x :: rI g o :: rest)) :=
  r_putf C hI (k := 9) (zX8 ho) (ent_8 ho) rfl iX8 tyX8 tyX8_ok nmX8 (by decide) hl rfl rfl (nar_i _) rfl (Nat.le_of_ble_eq_true rfl) (x := x) (by rw [ent_8 ho, st_same]; rfl) hd kk
theorem g_8_10 (C : Cx g p s m args c cc nL own) (hI : Inv g s M H locs) (ho : kd o = 8) (hl : Cond.fieldLink own index "LentGalleryModel" "rows" "[I" ∈ TB) (hd : decode cc pc = .ok (.getfield index, 3)) (kk : W p l e R s m args below meth c H locs cells slots Q (F0 m (pc + 3) ls (rI g (ch o 10) :: rest))) : W p l e R s m args below meth c H locs cells slots Q (F0 m pc ls (rI g o :: rest)) :=
  r_getf C hI (k := 10) (zX8 ho) (ent_8 ho) rfl iX8 (by decide) hl rfl rfl hd kk
theorem k_8_10 {o : Nat} (h : kd o = 8) : kd (ch o 10) = 110 := kd_ch 8 10 110 (by decide +kernel) (by decide) h
theorem g_8_11 (C : Cx g p s m args c cc nL own) (hI : Inv g s M H locs) (ho : kd o = 8) (hl : Cond.fieldLink own index "LentGalleryModel" "homes" "[I" ∈ TB) (hd : decode cc pc = .ok (.getfield index, 3)) (kk : W p l e R s m args below meth c H locs cells slots Q (F0 m (pc + 3) ls (rI g (ch o 11) :: rest))) : W p l e R s m args below meth c H locs cells slots Q (F0 m pc ls (rI g o :: rest)) :=
  r_getf C hI (k := 11) (zX8 ho) (ent_8 ho) rfl iX8 (by decide) hl rfl rfl hd kk
theorem k_8_11 {o : Nat} (h : kd o = 8) : kd (ch o 11) = 105 := kd_ch 8 11 105 (by decide +kernel) (by decide) h
theorem g_8_12 (C : Cx g p s m args c cc nL own) (hI : Inv g s M H locs) (ho : kd o = 8) (hl : Cond.fieldLink own index "LentGalleryModel" "now" "[I" ∈ TB) (hd : decode cc pc = .ok (.getfield index, 3)) (kk : W p l e R s m args below meth c H locs cells slots Q (F0 m (pc + 3) ls (rI g (ch o 12) :: rest))) : W p l e R s m args below meth c H locs cells slots Q (F0 m pc ls (rI g o :: rest)) :=
  r_getf C hI (k := 12) (zX8 ho) (ent_8 ho) rfl iX8 (by decide) hl rfl rfl hd kk
theorem k_8_12 {o : Nat} (h : kd o = 8) : kd (ch o 12) = 106 := kd_ch 8 12 106 (by decide +kernel) (by decide) h
theorem g_8_13 (C : Cx g p s m args c cc nL own) (hI : Inv g s M H locs) (ho : kd o = 8) (hl : Cond.fieldLink own index "LentGalleryModel" "ahead" "[I" ∈ TB) (hd : decode cc pc = .ok (.getfield index, 3)) (kk : W p l e R s m args below meth c H locs cells slots Q (F0 m (pc + 3) ls (rI g (ch o 13) :: rest))) : W p l e R s m args below meth c H locs cells slots Q (F0 m pc ls (rI g o :: rest)) :=
  r_getf C hI (k := 13) (zX8 ho) (ent_8 ho) rfl iX8 (by decide) hl rfl rfl hd kk
theorem k_8_13 {o : Nat} (h : kd o = 8) : kd (ch o 13) = 106 := kd_ch 8 13 106 (by decide +kernel) (by decide) h
theorem g_8_14 (C : Cx g p s m args c cc nL own) (hI : Inv g s M H locs) (ho : kd o = 8) (hl : Cond.fieldLink own index "LentGalleryModel" "whereMany" "I" ∈ TB) (hd : decode cc pc = .ok (.getfield index, 3)) (kk : W p l e R s m args below meth c H locs cells slots Q (F0 m (pc + 3) ls (iI (M o 14) :: rest))) : W p l e R s m args below meth c H locs cells slots Q (F0 m pc ls (rI g o :: rest)) :=
  r_getf C hI (k := 14) (zX8 ho) (ent_8 ho) rfl iX8 (by decide) hl rfl rfl hd kk
theorem p_8_14 (C : Cx g p s m args c cc nL own) (hI : Inv g s M H locs) (ho : kd o = 8) {x : Int} (hl : Cond.fieldLink own index "LentGalleryModel" "whereMany" "I" ∈ TB) (hd : decode cc pc = .ok (.putfield index, 3)) (kk : ∀ (H1 : Heap) (locs1 : List Loc), Inv g s (st M o 14 x) H1 locs1 → W p l e R s m args below meth c H1 locs1 cells slots Q (F0 m (pc + 3) ls rest)) : W p l e R s m args below meth c H locs cells slots Q (F0 m pc ls (iI x :: rI g o :: rest)) :=
  r_putf C hI (k := 14) (zX8 ho) (ent_8 ho) rfl iX8 tyX8 tyX8_ok nmX8 (by decide) hl rfl rfl (nar_i _) rfl (Nat.le_of_ble_eq_true rfl) (x := x) (by rw [ent_8 ho, st_same]; rfl) hd kk
theorem g_8_15 (C : Cx g p s m args c cc nL own) (hI : Inv g s M H locs) (ho : kd o = 8) (hl : Cond.fieldLink own index "LentGalleryModel" "bestHomes" "[I" ∈ TB) (hd : decode cc pc = .ok (.getfield index, 3)) (kk : W p l e R s m args below meth c H locs cells slots Q (F0 m (pc + 3) ls (rI g (ch o 15) :: rest))) : W p l e R s m args below meth c H locs cells slots Q (F0 m pc ls (rI g o :: rest)) :=
  r_getf C hI (k := 15) (zX8 ho) (ent_8 ho) rfl iX8 (by decide) hl rfl rfl hd kk
theorem k_8_15 {o : Nat} (h : kd o = 8) : kd (ch o 15) = 105 := kd_ch 8 15 105 (by decide +kernel) (by decide) h
theorem g_8_16 (C : Cx g p s m args c cc nL own) (hI : Inv g s M H locs) (ho : kd o = 8) (hl : Cond.fieldLink own index "LentGalleryModel" "knockMany" "I" ∈ TB) (hd : decode cc pc = .ok (.getfield index, 3)) (kk : W p l e R s m args below meth c H locs cells slots Q (F0 m (pc + 3) ls (iI (M o 16) :: rest))) : W p l e R s m args below meth c H locs cells slots Q (F0 m pc ls (rI g o :: rest)) :=
  r_getf C hI (k := 16) (zX8 ho) (ent_8 ho) rfl iX8 (by decide) hl rfl rfl hd kk
theorem p_8_16 (C : Cx g p s m args c cc nL own) (hI : Inv g s M H locs) (ho : kd o = 8) {x : Int} (hl : Cond.fieldLink own index "LentGalleryModel" "knockMany" "I" ∈ TB) (hd : decode cc pc = .ok (.putfield index, 3)) (kk : ∀ (H1 : Heap) (locs1 : List Loc), Inv g s (st M o 16 x) H1 locs1 → W p l e R s m args below meth c H1 locs1 cells slots Q (F0 m (pc + 3) ls rest)) : W p l e R s m args below meth c H locs cells slots Q (F0 m pc ls (iI x :: rI g o :: rest)) :=
  r_putf C hI (k := 16) (zX8 ho) (ent_8 ho) rfl iX8 tyX8 tyX8_ok nmX8 (by decide) hl rfl rfl (nar_i _) rfl (Nat.le_of_ble_eq_true rfl) (x := x) (by rw [ent_8 ho, st_same]; rfl) hd kk
theorem g_8_17 (C : Cx g p s m args c cc nL own) (hI : Inv g s M H locs) (ho : kd o = 8) (hl : Cond.fieldLink own index "LentGalleryModel" "knocks" "[I" ∈ TB) (hd : decode cc pc = .ok (.getfield index, 3)) (kk : W p l e R s m args below meth c H locs cells slots Q (F0 m (pc + 3) ls (rI g (ch o 17) :: rest))) : W p l e R s m args below meth c H locs cells slots Q (F0 m pc ls (rI g o :: rest)) :=
  r_getf C hI (k := 17) (zX8 ho) (ent_8 ho) rfl iX8 (by decide) hl rfl rfl hd kk
theorem k_8_17 {o : Nat} (h : kd o = 8) : kd (ch o 17) = 124 := kd_ch 8 17 124 (by decide +kernel) (by decide) h
theorem g_8_18 (C : Cx g p s m args c cc nL own) (hI : Inv g s M H locs) (ho : kd o = 8) (hl : Cond.fieldLink own index "LentGalleryModel" "stand" "[I" ∈ TB) (hd : decode cc pc = .ok (.getfield index, 3)) (kk : W p l e R s m args below meth c H locs cells slots Q (F0 m (pc + 3) ls (rI g (ch o 18) :: rest))) : W p l e R s m args below meth c H locs cells slots Q (F0 m pc ls (rI g o :: rest)) :=
  r_getf C hI (k := 18) (zX8 ho) (ent_8 ho) rfl iX8 (by decide) hl rfl rfl hd kk
theorem k_8_18 {o : Nat} (h : kd o = 8) : kd (ch o 18) = 111 := kd_ch 8 18 111 (by decide +kernel) (by decide) h
theorem g_8_19 (C : Cx g p s m args c cc nL own) (hI : Inv g s M H locs) (ho : kd o = 8) (hl : Cond.fieldLink own index "LentGalleryModel" "seedNow" "I" ∈ TB) (hd : decode cc pc = .ok (.getfield index, 3)) (kk : W p l e R s m args below meth c H locs cells slots Q (F0 m (pc + 3) ls (iI (M o 19) :: rest))) : W p l e R s m args below meth c H locs cells slots Q (F0 m pc ls (rI g o :: rest)) :=
  r_getf C hI (k := 19) (zX8 ho) (ent_8 ho) rfl iX8 (by decide) hl rfl rfl hd kk
theorem p_8_19 (C : Cx g p s m args c cc nL own) (hI : Inv g s M H locs) (ho : kd o = 8) {x : Int} (hl : Cond.fieldLink own index "LentGalleryModel" "seedNow" "I" ∈ TB) (hd : decode cc pc = .ok (.putfield index, 3)) (kk : ∀ (H1 : Heap) (locs1 : List Loc), Inv g s (st M o 19 x) H1 locs1 → W p l e R s m args below meth c H1 locs1 cells slots Q (F0 m (pc + 3) ls rest)) : W p l e R s m args below meth c H locs cells slots Q (F0 m pc ls (iI x :: rI g o :: rest)) :=
  r_putf C hI (k := 19) (zX8 ho) (ent_8 ho) rfl iX8 tyX8 tyX8_ok nmX8 (by decide) hl rfl rfl (nar_i _) rfl (Nat.le_of_ble_eq_true rfl) (x := x) (by rw [ent_8 ho, st_same]; rfl) hd kk
theorem g_8_20 (C : Cx g p s m args c cc nL own) (hI : Inv g s M H locs) (ho : kd o = 8) (hl : Cond.fieldLink own index "LentGalleryModel" "keptGallery" "I" ∈ TB) (hd : decode cc pc = .ok (.getfield index, 3)) (kk : W p l e R s m args below meth c H locs cells slots Q (F0 m (pc + 3) ls (iI (M o 20) :: rest))) : W p l e R s m args below meth c H locs cells slots Q (F0 m pc ls (rI g o :: rest)) :=
  r_getf C hI (k := 20) (zX8 ho) (ent_8 ho) rfl iX8 (by decide) hl rfl rfl hd kk
theorem p_8_20 (C : Cx g p s m args c cc nL own) (hI : Inv g s M H locs) (ho : kd o = 8) {x : Int} (hl : Cond.fieldLink own index "LentGalleryModel" "keptGallery" "I" ∈ TB) (hd : decode cc pc = .ok (.putfield index, 3)) (kk : ∀ (H1 : Heap) (locs1 : List Loc), Inv g s (st M o 20 x) H1 locs1 → W p l e R s m args below meth c H1 locs1 cells slots Q (F0 m (pc + 3) ls rest)) : W p l e R s m args below meth c H locs cells slots Q (F0 m pc ls (iI x :: rI g o :: rest)) :=
  r_putf C hI (k := 20) (zX8 ho) (ent_8 ho) rfl iX8 tyX8 tyX8_ok nmX8 (by decide) hl rfl rfl (nar_i _) rfl (Nat.le_of_ble_eq_true rfl) (x := x) (by rw [ent_8 ho, st_same]; rfl) hd kk
theorem g_8_21 (C : Cx g p s m args c cc nL own) (hI : Inv g s M H locs) (ho : kd o = 8) (hl : Cond.fieldLink own index "LentGalleryModel" "keptTenants" "I" ∈ TB) (hd : decode cc pc = .ok (.getfield index, 3)) (kk : W p l e R s m args below meth c H locs cells slots Q (F0 m (pc + 3) ls (iI (M o 21) :: rest))) : W p l e R s m args below meth c H locs cells slots Q (F0 m pc ls (rI g o :: rest)) :=
  r_getf C hI (k := 21) (zX8 ho) (ent_8 ho) rfl iX8 (by decide) hl rfl rfl hd kk
theorem p_8_21 (C : Cx g p s m args c cc nL own) (hI : Inv g s M H locs) (ho : kd o = 8) {x : Int} (hl : Cond.fieldLink own index "LentGalleryModel" "keptTenants" "I" ∈ TB) (hd : decode cc pc = .ok (.putfield index, 3)) (kk : ∀ (H1 : Heap) (locs1 : List Loc), Inv g s (st M o 21 x) H1 locs1 → W p l e R s m args below meth c H1 locs1 cells slots Q (F0 m (pc + 3) ls rest)) : W p l e R s m args below meth c H locs cells slots Q (F0 m pc ls (iI x :: rI g o :: rest)) :=
  r_putf C hI (k := 21) (zX8 ho) (ent_8 ho) rfl iX8 tyX8 tyX8_ok nmX8 (by decide) hl rfl rfl (nar_i _) rfl (Nat.le_of_ble_eq_true rfl) (x := x) (by rw [ent_8 ho, st_same]; rfl) hd kk
theorem g_8_22 (C : Cx g p s m args c cc nL own) (hI : Inv g s M H locs) (ho : kd o = 8) (hl : Cond.fieldLink own index "LentGalleryModel" "keptDays" "I" ∈ TB) (hd : decode cc pc = .ok (.getfield index, 3)) (kk : W p l e R s m args below meth c H locs cells slots Q (F0 m (pc + 3) ls (iI (M o 22) :: rest))) : W p l e R s m args below meth c H locs cells slots Q (F0 m pc ls (rI g o :: rest)) :=
  r_getf C hI (k := 22) (zX8 ho) (ent_8 ho) rfl iX8 (by decide) hl rfl rfl hd kk
theorem p_8_22 (C : Cx g p s m args c cc nL own) (hI : Inv g s M H locs) (ho : kd o = 8) {x : Int} (hl : Cond.fieldLink own index "LentGalleryModel" "keptDays" "I" ∈ TB) (hd : decode cc pc = .ok (.putfield index, 3)) (kk : ∀ (H1 : Heap) (locs1 : List Loc), Inv g s (st M o 22 x) H1 locs1 → W p l e R s m args below meth c H1 locs1 cells slots Q (F0 m (pc + 3) ls rest)) : W p l e R s m args below meth c H locs cells slots Q (F0 m pc ls (iI x :: rI g o :: rest)) :=
  r_putf C hI (k := 22) (zX8 ho) (ent_8 ho) rfl iX8 tyX8 tyX8_ok nmX8 (by decide) hl rfl rfl (nar_i _) rfl (Nat.le_of_ble_eq_true rfl) (x := x) (by rw [ent_8 ho, st_same]; rfl) hd kk
theorem g_8_23 (C : Cx g p s m args c cc nL own) (hI : Inv g s M H locs) (ho : kd o = 8) (hl : Cond.fieldLink own index "LentGalleryModel" "keptFalls" "I" ∈ TB) (hd : decode cc pc = .ok (.getfield index, 3)) (kk : W p l e R s m args below meth c H locs cells slots Q (F0 m (pc + 3) ls (iI (M o 23) :: rest))) : W p l e R s m args below meth c H locs cells slots Q (F0 m pc ls (rI g o :: rest)) :=
  r_getf C hI (k := 23) (zX8 ho) (ent_8 ho) rfl iX8 (by decide) hl rfl rfl hd kk
theorem p_8_23 (C : Cx g p s m args c cc nL own) (hI : Inv g s M H locs) (ho : kd o = 8) {x : Int} (hl : Cond.fieldLink own index "LentGalleryModel" "keptFalls" "I" ∈ TB) (hd : decode cc pc = .ok (.putfield index, 3)) (kk : ∀ (H1 : Heap) (locs1 : List Loc), Inv g s (st M o 23 x) H1 locs1 → W p l e R s m args below meth c H1 locs1 cells slots Q (F0 m (pc + 3) ls rest)) : W p l e R s m args below meth c H locs cells slots Q (F0 m pc ls (iI x :: rI g o :: rest)) :=
  r_putf C hI (k := 23) (zX8 ho) (ent_8 ho) rfl iX8 tyX8 tyX8_ok nmX8 (by decide) hl rfl rfl (nar_i _) rfl (Nat.le_of_ble_eq_true rfl) (x := x) (by rw [ent_8 ho, st_same]; rfl) hd kk
theorem g_8_24 (C : Cx g p s m args c cc nL own) (hI : Inv g s M H locs) (ho : kd o = 8) (hl : Cond.fieldLink own index "LentGalleryModel" "keptProps" "I" ∈ TB) (hd : decode cc pc = .ok (.getfield index, 3)) (kk : W p l e R s m args below meth c H locs cells slots Q (F0 m (pc + 3) ls (iI (M o 24) :: rest))) : W p l e R s m args below meth c H locs cells slots Q (F0 m pc ls (rI g o :: rest)) :=
  r_getf C hI (k := 24) (zX8 ho) (ent_8 ho) rfl iX8 (by decide) hl rfl rfl hd kk
theorem p_8_24 (C : Cx g p s m args c cc nL own) (hI : Inv g s M H locs) (ho : kd o = 8) {x : Int} (hl : Cond.fieldLink own index "LentGalleryModel" "keptProps" "I" ∈ TB) (hd : decode cc pc = .ok (.putfield index, 3)) (kk : ∀ (H1 : Heap) (locs1 : List Loc), Inv g s (st M o 24 x) H1 locs1 → W p l e R s m args below meth c H1 locs1 cells slots Q (F0 m (pc + 3) ls rest)) : W p l e R s m args below meth c H locs cells slots Q (F0 m pc ls (iI x :: rI g o :: rest)) :=
  r_putf C hI (k := 24) (zX8 ho) (ent_8 ho) rfl iX8 tyX8 tyX8_ok nmX8 (by decide) hl rfl rfl (nar_i _) rfl (Nat.le_of_ble_eq_true rfl) (x := x) (by rw [ent_8 ho, st_same]; rfl) hd kk
theorem g_8_25 (C : Cx g p s m args c cc nL own) (hI : Inv g s M H locs) (ho : kd o = 8) (hl : Cond.fieldLink own index "LentGalleryModel" "keptKnockMany" "I" ∈ TB) (hd : decode cc pc = .ok (.getfield index, 3)) (kk : W p l e R s m args below meth c H locs cells slots Q (F0 m (pc + 3) ls (iI (M o 25) :: rest))) : W p l e R s m args below meth c H locs cells slots Q (F0 m pc ls (rI g o :: rest)) :=
  r_getf C hI (k := 25) (zX8 ho) (ent_8 ho) rfl iX8 (by decide) hl rfl rfl hd kk
theorem p_8_25 (C : Cx g p s m args c cc nL own) (hI : Inv g s M H locs) (ho : kd o = 8) {x : Int} (hl : Cond.fieldLink own index "LentGalleryModel" "keptKnockMany" "I" ∈ TB) (hd : decode cc pc = .ok (.putfield index, 3)) (kk : ∀ (H1 : Heap) (locs1 : List Loc), Inv g s (st M o 25 x) H1 locs1 → W p l e R s m args below meth c H1 locs1 cells slots Q (F0 m (pc + 3) ls rest)) : W p l e R s m args below meth c H locs cells slots Q (F0 m pc ls (iI x :: rI g o :: rest)) :=
  r_putf C hI (k := 25) (zX8 ho) (ent_8 ho) rfl iX8 tyX8 tyX8_ok nmX8 (by decide) hl rfl rfl (nar_i _) rfl (Nat.le_of_ble_eq_true rfl) (x := x) (by rw [ent_8 ho, st_same]; rfl) hd kk
theorem g_8_26 (C : Cx g p s m args c cc nL own) (hI : Inv g s M H locs) (ho : kd o = 8) (hl : Cond.fieldLink own index "LentGalleryModel" "keptStrong" "[I" ∈ TB) (hd : decode cc pc = .ok (.getfield index, 3)) (kk : W p l e R s m args below meth c H locs cells slots Q (F0 m (pc + 3) ls (rI g (ch o 26) :: rest))) : W p l e R s m args below meth c H locs cells slots Q (F0 m pc ls (rI g o :: rest)) :=
  r_getf C hI (k := 26) (zX8 ho) (ent_8 ho) rfl iX8 (by decide) hl rfl rfl hd kk
theorem k_8_26 {o : Nat} (h : kd o = 8) : kd (ch o 26) = 106 := kd_ch 8 26 106 (by decide +kernel) (by decide) h
theorem g_8_27 (C : Cx g p s m args c cc nL own) (hI : Inv g s M H locs) (ho : kd o = 8) (hl : Cond.fieldLink own index "LentGalleryModel" "keptRows" "[I" ∈ TB) (hd : decode cc pc = .ok (.getfield index, 3)) (kk : W p l e R s m args below meth c H locs cells slots Q (F0 m (pc + 3) ls (rI g (ch o 27) :: rest))) : W p l e R s m args below meth c H locs cells slots Q (F0 m pc ls (rI g o :: rest)) :=
  r_getf C hI (k := 27) (zX8 ho) (ent_8 ho) rfl iX8 (by decide) hl rfl rfl hd kk
theorem k_8_27 {o : Nat} (h : kd o = 8) : kd (ch o 27) = 110 := kd_ch 8 27 110 (by decide +kernel) (by decide) h
theorem g_8_28 (C : Cx g p s m args c cc nL own) (hI : Inv g s M H locs) (ho : kd o = 8) (hl : Cond.fieldLink own index "LentGalleryModel" "keptKnocks" "[I" ∈ TB) (hd : decode cc pc = .ok (.getfield index, 3)) (kk : W p l e R s m args below meth c H locs cells slots Q (F0 m (pc + 3) ls (rI g (ch o 28) :: rest))) : W p l e R s m args below meth c H locs cells slots Q (F0 m pc ls (rI g o :: rest)) :=
  r_getf C hI (k := 28) (zX8 ho) (ent_8 ho) rfl iX8 (by decide) hl rfl rfl hd kk
theorem k_8_28 {o : Nat} (h : kd o = 8) : kd (ch o 28) = 124 := kd_ch 8 28 124 (by decide +kernel) (by decide) h
theorem g_8_29 (C : Cx g p s m args c cc nL own) (hI : Inv g s M H locs) (ho : kd o = 8) (hl : Cond.fieldLink own index "LentGalleryModel" "hash" "J" ∈ TB) (hd : decode cc pc = .ok (.getfield index, 3)) (kk : W p l e R s m args below meth c H locs cells slots Q (F0 m (pc + 3) ls (lI (M o 29) :: rest))) : W p l e R s m args below meth c H locs cells slots Q (F0 m pc ls (rI g o :: rest)) :=
  r_getf C hI (k := 29) (zX8 ho) (ent_8 ho) rfl iX8 (by decide) hl rfl rfl hd kk
theorem p_8_29 (C : Cx g p s m args c cc nL own) (hI : Inv g s M H locs) (ho : kd o = 8) {x : Int} (hl : Cond.fieldLink own index "LentGalleryModel" "hash" "J" ∈ TB) (hd : decode cc pc = .ok (.putfield index, 3)) (kk : ∀ (H1 : Heap) (locs1 : List Loc), Inv g s (st M o 29 x) H1 locs1 → W p l e R s m args below meth c H1 locs1 cells slots Q (F0 m (pc + 3) ls rest)) : W p l e R s m args below meth c H locs cells slots Q (F0 m pc ls (lI x :: rI g o :: rest)) :=
  r_putf C hI (k := 29) (zX8 ho) (ent_8 ho) rfl iX8 tyX8 tyX8_ok nmX8 (by decide) hl rfl rfl (rfl) rfl (Nat.le_of_ble_eq_true rfl) (x := x) (by rw [ent_8 ho, st_same]; rfl) hd kk
end FD
end
