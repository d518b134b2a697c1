section
-- ===== PART A: goes FIRST, ahead of the names: the tables' words, and 'selects' of the private methods out of them =====
/-- a private method of a class that the tables say can be made, by its rows of tables_1 -/
def lw_okq (q : MethodName × Nat) : Prop := (q.1.cls ≠ "java/lang/invoke/MethodHandle" ∧ q.1.cls ≠ "java/lang/invoke/VarHandle") ∧ Cond.instantiable q.1.cls q.2 ∈ tables_1 ∧ Cond.privateMethod q.1 ∈ tables_1 ∧ Cond.instanceMethod q.1 ∈ tables_1
theorem lw_p0 : lw_okq (⟨"GarmentMarker", "sideOrError", "(III)I"⟩, 5) := ⟨⟨by decide +kernel, by decide +kernel⟩, List.mem_of_getElem? (i := 11) (by decide +kernel), List.mem_of_getElem? (i := 270) (by decide +kernel), List.mem_of_getElem? (i := 271) (by decide +kernel)⟩
theorem lw_p1 : lw_okq (⟨"GarmentMarker", "placeOrError", "(I)I"⟩, 5) := ⟨⟨by decide +kernel, by decide +kernel⟩, List.mem_of_getElem? (i := 11) (by decide +kernel), List.mem_of_getElem? (i := 391) (by decide +kernel), List.mem_of_getElem? (i := 392) (by decide +kernel)⟩
theorem lw_p2 : lw_okq (⟨"GarmentMarker", "lengthFor", "([I)I"⟩, 5) := ⟨⟨by decide +kernel, by decide +kernel⟩, List.mem_of_getElem? (i := 11) (by decide +kernel), List.mem_of_getElem? (i := 458) (by decide +kernel), List.mem_of_getElem? (i := 459) (by decide +kernel)⟩
theorem lw_p3 : lw_okq (⟨"GarmentMarker", "findBestPacking", "()I"⟩, 5) := ⟨⟨by decide +kernel, by decide +kernel⟩, List.mem_of_getElem? (i := 11) (by decide +kernel), List.mem_of_getElem? (i := 478) (by decide +kernel), List.mem_of_getElem? (i := 479) (by decide +kernel)⟩
theorem lw_p4 : lw_okq (⟨"GarmentMarker", "lookAtMix", "(I)V"⟩, 5) := ⟨⟨by decide +kernel, by decide +kernel⟩, List.mem_of_getElem? (i := 11) (by decide +kernel), List.mem_of_getElem? (i := 516) (by decide +kernel), List.mem_of_getElem? (i := 517) (by decide +kernel)⟩
theorem lw_p5 : lw_okq (⟨"GarmentMarker", "findBestMix", "()I"⟩, 5) := ⟨⟨by decide +kernel, by decide +kernel⟩, List.mem_of_getElem? (i := 11) (by decide +kernel), List.mem_of_getElem? (i := 524) (by decide +kernel), List.mem_of_getElem? (i := 525) (by decide +kernel)⟩
theorem lw_p6 : lw_okq (⟨"GarmentMarkerModel", "isPiece", "(I)Z"⟩, 23) := ⟨⟨by decide +kernel, by decide +kernel⟩, List.mem_of_getElem? (i := 556) (by decide +kernel), List.mem_of_getElem? (i := 643) (by decide +kernel), List.mem_of_getElem? (i := 644) (by decide +kernel)⟩
theorem lw_p7 : lw_okq (⟨"GarmentMarkerModel", "dropSeam", "(I)V"⟩, 23) := ⟨⟨by decide +kernel, by decide +kernel⟩, List.mem_of_getElem? (i := 556) (by decide +kernel), List.mem_of_getElem? (i := 647) (by decide +kernel), List.mem_of_getElem? (i := 648) (by decide +kernel)⟩
theorem lw_p8 : lw_okq (⟨"GarmentMarkerModel", "widthOf", "(II)I"⟩, 23) := ⟨⟨by decide +kernel, by decide +kernel⟩, List.mem_of_getElem? (i := 556) (by decide +kernel), List.mem_of_getElem? (i := 658) (by decide +kernel), List.mem_of_getElem? (i := 659) (by decide +kernel)⟩
theorem lw_p9 : lw_okq (⟨"GarmentMarkerModel", "lengthOf", "(II)I"⟩, 23) := ⟨⟨by decide +kernel, by decide +kernel⟩, List.mem_of_getElem? (i := 556) (by decide +kernel), List.mem_of_getElem? (i := 666) (by decide +kernel), List.mem_of_getElem? (i := 667) (by decide +kernel)⟩
theorem lw_p10 : lw_okq (⟨"GarmentMarkerModel", "differenceOf", "(II)I"⟩, 23) := ⟨⟨by decide +kernel, by decide +kernel⟩, List.mem_of_getElem? (i := 556) (by decide +kernel), List.mem_of_getElem? (i := 682) (by decide +kernel), List.mem_of_getElem? (i := 683) (by decide +kernel)⟩
theorem lw_p11 : lw_okq (⟨"GarmentMarkerModel", "sideOf", "(III)I"⟩, 23) := ⟨⟨by decide +kernel, by decide +kernel⟩, List.mem_of_getElem? (i := 556) (by decide +kernel), List.mem_of_getElem? (i := 686) (by decide +kernel), List.mem_of_getElem? (i := 687) (by decide +kernel)⟩
theorem lw_p12 : lw_okq (⟨"GarmentMarkerModel", "matches", "(I)Z"⟩, 23) := ⟨⟨by decide +kernel, by decide +kernel⟩, List.mem_of_getElem? (i := 556) (by decide +kernel), List.mem_of_getElem? (i := 694) (by decide +kernel), List.mem_of_getElem? (i := 695) (by decide +kernel)⟩
theorem lw_p13 : lw_okq (⟨"GarmentMarkerModel", "set", "(II)I"⟩, 23) := ⟨⟨by decide +kernel, by decide +kernel⟩, List.mem_of_getElem? (i := 556) (by decide +kernel), List.mem_of_getElem? (i := 706) (by decide +kernel), List.mem_of_getElem? (i := 707) (by decide +kernel)⟩
theorem lw_p14 : lw_okq (⟨"GarmentMarkerModel", "layParts", "()V"⟩, 23) := ⟨⟨by decide +kernel, by decide +kernel⟩, List.mem_of_getElem? (i := 556) (by decide +kernel), List.mem_of_getElem? (i := 737) (by decide +kernel), List.mem_of_getElem? (i := 738) (by decide +kernel)⟩
theorem lw_p15 : lw_okq (⟨"GarmentMarkerModel", "addPart", "(II)V"⟩, 23) := ⟨⟨by decide +kernel, by decide +kernel⟩, List.mem_of_getElem? (i := 556) (by decide +kernel), List.mem_of_getElem? (i := 741) (by decide +kernel), List.mem_of_getElem? (i := 742) (by decide +kernel)⟩
def lw_privs_1 : List (MethodName × Nat) := [(⟨"GarmentMarker", "sideOrError", "(III)I"⟩, 5), (⟨"GarmentMarker", "placeOrError", "(I)I"⟩, 5), (⟨"GarmentMarker", "lengthFor", "([I)I"⟩, 5), (⟨"GarmentMarker", "findBestPacking", "()I"⟩, 5), (⟨"GarmentMarker", "lookAtMix", "(I)V"⟩, 5), (⟨"GarmentMarker", "findBestMix", "()I"⟩, 5), (⟨"GarmentMarkerModel", "isPiece", "(I)Z"⟩, 23), (⟨"GarmentMarkerModel", "dropSeam", "(I)V"⟩, 23), (⟨"GarmentMarkerModel", "widthOf", "(II)I"⟩, 23), (⟨"GarmentMarkerModel", "lengthOf", "(II)I"⟩, 23), (⟨"GarmentMarkerModel", "differenceOf", "(II)I"⟩, 23), (⟨"GarmentMarkerModel", "sideOf", "(III)I"⟩, 23), (⟨"GarmentMarkerModel", "matches", "(I)Z"⟩, 23), (⟨"GarmentMarkerModel", "set", "(II)I"⟩, 23), (⟨"GarmentMarkerModel", "layParts", "()V"⟩, 23), (⟨"GarmentMarkerModel", "addPart", "(II)V"⟩, 23)]
theorem lw_r1 : ∀ q ∈ lw_privs_1, lw_okq q := List.forall_mem_cons.mpr ⟨lw_p0, List.forall_mem_cons.mpr ⟨lw_p1, List.forall_mem_cons.mpr ⟨lw_p2, List.forall_mem_cons.mpr ⟨lw_p3, List.forall_mem_cons.mpr ⟨lw_p4, List.forall_mem_cons.mpr ⟨lw_p5, List.forall_mem_cons.mpr ⟨lw_p6, List.forall_mem_cons.mpr ⟨lw_p7, List.forall_mem_cons.mpr ⟨lw_p8, List.forall_mem_cons.mpr ⟨lw_p9, List.forall_mem_cons.mpr ⟨lw_p10, List.forall_mem_cons.mpr ⟨lw_p11, List.forall_mem_cons.mpr ⟨lw_p12, List.forall_mem_cons.mpr ⟨lw_p13, List.forall_mem_cons.mpr ⟨lw_p14, List.forall_mem_cons.mpr ⟨lw_p15, fun _ h => absurd h List.not_mem_nil⟩⟩⟩⟩⟩⟩⟩⟩⟩⟩⟩⟩⟩⟩⟩⟩
theorem lw_p16 : lw_okq (⟨"GarmentMarkerModel", "stripWidth", "()I"⟩, 23) := ⟨⟨by decide +kernel, by decide +kernel⟩, List.mem_of_getElem? (i := 556) (by decide +kernel), List.mem_of_getElem? (i := 745) (by decide +kernel), List.mem_of_getElem? (i := 746) (by decide +kernel)⟩
theorem lw_p17 : lw_okq (⟨"GarmentMarkerModel", "isPart", "(I)Z"⟩, 23) := ⟨⟨by decide +kernel, by decide +kernel⟩, List.mem_of_getElem? (i := 556) (by decide +kernel), List.mem_of_getElem? (i := 757) (by decide +kernel), List.mem_of_getElem? (i := 758) (by decide +kernel)⟩
theorem lw_p18 : lw_okq (⟨"GarmentMarkerModel", "packNow", "()Z"⟩, 23) := ⟨⟨by decide +kernel, by decide +kernel⟩, List.mem_of_getElem? (i := 556) (by decide +kernel), List.mem_of_getElem? (i := 769) (by decide +kernel), List.mem_of_getElem? (i := 770) (by decide +kernel)⟩
theorem lw_p19 : lw_okq (⟨"GarmentMarkerModel", "pack", "(II)Z"⟩, 23) := ⟨⟨by decide +kernel, by decide +kernel⟩, List.mem_of_getElem? (i := 556) (by decide +kernel), List.mem_of_getElem? (i := 773) (by decide +kernel), List.mem_of_getElem? (i := 774) (by decide +kernel)⟩
theorem lw_p20 : lw_okq (⟨"GarmentMarkerModel", "layOrder", "(I)V"⟩, 23) := ⟨⟨by decide +kernel, by decide +kernel⟩, List.mem_of_getElem? (i := 556) (by decide +kernel), List.mem_of_getElem? (i := 777) (by decide +kernel), List.mem_of_getElem? (i := 778) (by decide +kernel)⟩
theorem lw_p21 : lw_okq (⟨"GarmentMarkerModel", "keyOf", "(II)I"⟩, 23) := ⟨⟨by decide +kernel, by decide +kernel⟩, List.mem_of_getElem? (i := 556) (by decide +kernel), List.mem_of_getElem? (i := 781) (by decide +kernel), List.mem_of_getElem? (i := 782) (by decide +kernel)⟩
theorem lw_p22 : lw_okq (⟨"GarmentMarkerModel", "packShelves", "(I)V"⟩, 23) := ⟨⟨by decide +kernel, by decide +kernel⟩, List.mem_of_getElem? (i := 556) (by decide +kernel), List.mem_of_getElem? (i := 785) (by decide +kernel), List.mem_of_getElem? (i := 786) (by decide +kernel)⟩
theorem lw_p23 : lw_okq (⟨"GarmentMarkerModel", "shelfFor", "(II)I"⟩, 23) := ⟨⟨by decide +kernel, by decide +kernel⟩, List.mem_of_getElem? (i := 556) (by decide +kernel), List.mem_of_getElem? (i := 789) (by decide +kernel), List.mem_of_getElem? (i := 790) (by decide +kernel)⟩
theorem lw_p24 : lw_okq (⟨"GarmentMarkerModel", "packFree", "(I)V"⟩, 23) := ⟨⟨by decide +kernel, by decide +kernel⟩, List.mem_of_getElem? (i := 556) (by decide +kernel), List.mem_of_getElem? (i := 793) (by decide +kernel), List.mem_of_getElem? (i := 794) (by decide +kernel)⟩
theorem lw_p25 : lw_okq (⟨"GarmentMarkerModel", "freeAt", "(III)I"⟩, 23) := ⟨⟨by decide +kernel, by decide +kernel⟩, List.mem_of_getElem? (i := 556) (by decide +kernel), List.mem_of_getElem? (i := 797) (by decide +kernel), List.mem_of_getElem? (i := 798) (by decide +kernel)⟩
theorem lw_p26 : lw_okq (⟨"GarmentMarkerModel", "takenFrom", "(II)I"⟩, 23) := ⟨⟨by decide +kernel, by decide +kernel⟩, List.mem_of_getElem? (i := 556) (by decide +kernel), List.mem_of_getElem? (i := 801) (by decide +kernel), List.mem_of_getElem? (i := 802) (by decide +kernel)⟩
theorem lw_p27 : lw_okq (⟨"GarmentMarkerModel", "lengthNow", "()I"⟩, 23) := ⟨⟨by decide +kernel, by decide +kernel⟩, List.mem_of_getElem? (i := 556) (by decide +kernel), List.mem_of_getElem? (i := 821) (by decide +kernel), List.mem_of_getElem? (i := 822) (by decide +kernel)⟩
theorem lw_p28 : lw_okq (⟨"GarmentMarkerModel", "lengthBy", "(II)I"⟩, 23) := ⟨⟨by decide +kernel, by decide +kernel⟩, List.mem_of_getElem? (i := 556) (by decide +kernel), List.mem_of_getElem? (i := 825) (by decide +kernel), List.mem_of_getElem? (i := 826) (by decide +kernel)⟩
theorem lw_p29 : lw_okq (⟨"GarmentMarkerModel", "packedLength", "()I"⟩, 23) := ⟨⟨by decide +kernel, by decide +kernel⟩, List.mem_of_getElem? (i := 556) (by decide +kernel), List.mem_of_getElem? (i := 829) (by decide +kernel), List.mem_of_getElem? (i := 830) (by decide +kernel)⟩
theorem lw_p30 : lw_okq (⟨"GarmentMarkerModel", "findBest", "()I"⟩, 23) := ⟨⟨by decide +kernel, by decide +kernel⟩, List.mem_of_getElem? (i := 556) (by decide +kernel), List.mem_of_getElem? (i := 845) (by decide +kernel), List.mem_of_getElem? (i := 846) (by decide +kernel)⟩
theorem lw_p31 : lw_okq (⟨"GarmentMarkerModel", "pliesNow", "()I"⟩, 23) := ⟨⟨by decide +kernel, by decide +kernel⟩, List.mem_of_getElem? (i := 556) (by decide +kernel), List.mem_of_getElem? (i := 861) (by decide +kernel), List.mem_of_getElem? (i := 862) (by decide +kernel)⟩
def lw_privs_2 : List (MethodName × Nat) := [(⟨"GarmentMarkerModel", "stripWidth", "()I"⟩, 23), (⟨"GarmentMarkerModel", "isPart", "(I)Z"⟩, 23), (⟨"GarmentMarkerModel", "packNow", "()Z"⟩, 23), (⟨"GarmentMarkerModel", "pack", "(II)Z"⟩, 23), (⟨"GarmentMarkerModel", "layOrder", "(I)V"⟩, 23), (⟨"GarmentMarkerModel", "keyOf", "(II)I"⟩, 23), (⟨"GarmentMarkerModel", "packShelves", "(I)V"⟩, 23), (⟨"GarmentMarkerModel", "shelfFor", "(II)I"⟩, 23), (⟨"GarmentMarkerModel", "packFree", "(I)V"⟩, 23), (⟨"GarmentMarkerModel", "freeAt", "(III)I"⟩, 23), (⟨"GarmentMarkerModel", "takenFrom", "(II)I"⟩, 23), (⟨"GarmentMarkerModel", "lengthNow", "()I"⟩, 23), (⟨"GarmentMarkerModel", "lengthBy", "(II)I"⟩, 23), (⟨"GarmentMarkerModel", "packedLength", "()I"⟩, 23), (⟨"GarmentMarkerModel", "findBest", "()I"⟩, 23), (⟨"GarmentMarkerModel", "pliesNow", "()I"⟩, 23)]
theorem lw_r2 : ∀ q ∈ lw_privs_2, lw_okq q := List.forall_mem_cons.mpr ⟨lw_p16, List.forall_mem_cons.mpr ⟨lw_p17, List.forall_mem_cons.mpr ⟨lw_p18, List.forall_mem_cons.mpr ⟨lw_p19, List.forall_mem_cons.mpr ⟨lw_p20, List.forall_mem_cons.mpr ⟨lw_p21, List.forall_mem_cons.mpr ⟨lw_p22, List.forall_mem_cons.mpr ⟨lw_p23, List.forall_mem_cons.mpr ⟨lw_p24, List.forall_mem_cons.mpr ⟨lw_p25, List.forall_mem_cons.mpr ⟨lw_p26, List.forall_mem_cons.mpr ⟨lw_p27, List.forall_mem_cons.mpr ⟨lw_p28, List.forall_mem_cons.mpr ⟨lw_p29, List.forall_mem_cons.mpr ⟨lw_p30, List.forall_mem_cons.mpr ⟨lw_p31, fun _ h => absurd h List.not_mem_nil⟩⟩⟩⟩⟩⟩⟩⟩⟩⟩⟩⟩⟩⟩⟩⟩
theorem lw_p32 : lw_okq (⟨"GarmentMarkerModel", "clothNow", "()I"⟩, 23) := ⟨⟨by decide +kernel, by decide +kernel⟩, List.mem_of_getElem? (i := 556) (by decide +kernel), List.mem_of_getElem? (i := 869) (by decide +kernel), List.mem_of_getElem? (i := 870) (by decide +kernel)⟩
theorem lw_p33 : lw_okq (⟨"GarmentMarkerModel", "surplusNow", "()I"⟩, 23) := ⟨⟨by decide +kernel, by decide +kernel⟩, List.mem_of_getElem? (i := 556) (by decide +kernel), List.mem_of_getElem? (i := 877) (by decide +kernel), List.mem_of_getElem? (i := 878) (by decide +kernel)⟩
theorem lw_p34 : lw_okq (⟨"GarmentMarkerModel", "findMix", "()V"⟩, 23) := ⟨⟨by decide +kernel, by decide +kernel⟩, List.mem_of_getElem? (i := 556) (by decide +kernel), List.mem_of_getElem? (i := 885) (by decide +kernel), List.mem_of_getElem? (i := 886) (by decide +kernel)⟩
theorem lw_p35 : lw_okq (⟨"GarmentMarkerModel", "tryMix", "(I)V"⟩, 23) := ⟨⟨by decide +kernel, by decide +kernel⟩, List.mem_of_getElem? (i := 556) (by decide +kernel), List.mem_of_getElem? (i := 889) (by decide +kernel), List.mem_of_getElem? (i := 890) (by decide +kernel)⟩
theorem lw_p36 : lw_okq (⟨"GarmentMarkerModel", "setMix", "(I)V"⟩, 23) := ⟨⟨by decide +kernel, by decide +kernel⟩, List.mem_of_getElem? (i := 556) (by decide +kernel), List.mem_of_getElem? (i := 893) (by decide +kernel), List.mem_of_getElem? (i := 894) (by decide +kernel)⟩
def lw_privs_3 : List (MethodName × Nat) := [(⟨"GarmentMarkerModel", "clothNow", "()I"⟩, 23), (⟨"GarmentMarkerModel", "surplusNow", "()I"⟩, 23), (⟨"GarmentMarkerModel", "findMix", "()V"⟩, 23), (⟨"GarmentMarkerModel", "tryMix", "(I)V"⟩, 23), (⟨"GarmentMarkerModel", "setMix", "(I)V"⟩, 23)]
theorem lw_r3 : ∀ q ∈ lw_privs_3, lw_okq q := List.forall_mem_cons.mpr ⟨lw_p32, List.forall_mem_cons.mpr ⟨lw_p33, List.forall_mem_cons.mpr ⟨lw_p34, List.forall_mem_cons.mpr ⟨lw_p35, List.forall_mem_cons.mpr ⟨lw_p36, fun _ h => absurd h List.not_mem_nil⟩⟩⟩⟩⟩
def lw_privs : List (MethodName × Nat) := lw_privs_1 ++ (lw_privs_2 ++ (lw_privs_3))
def lw_tbl : List Cond := k2_sels lw_privs ++ tables_1
theorem lw_privs_ok : ∀ q ∈ lw_privs, lw_okq q := by
  show ∀ q ∈ lw_privs_1 ++ (lw_privs_2 ++ (lw_privs_3)), lw_okq q
  exact List.forall_mem_append.mpr ⟨lw_r1, List.forall_mem_append.mpr ⟨lw_r2, lw_r3⟩⟩
-- ===== end of PART A; then your names; then what follows =====
/-! class tables -/
def gmR0 : String := "GarmentMarker$Marker"
def gmT0 : u_T := fun k => match k with
  | 0 => ("GarmentMarker$Marker", "parts", "[LGarmentMarker$Part;", true)
  | 1 => ("GarmentMarker$Marker", "total", "I", false)
  | 2 => ("GarmentMarker$Marker", "stripWidth", "I", false)
  | 3 => ("GarmentMarker$Marker", "sequence", "[I", true)
  | 4 => ("GarmentMarker$Marker", "shelfStart", "[I", true)
  | 5 => ("GarmentMarker$Marker", "shelfDepth", "[I", true)
  | _ => ("GarmentMarker$Marker", "shelfUsed", "[I", true)
def gmR1 : String := "GarmentMarker$Part"
def gmT1 : u_T := fun k => match k with
  | 0 => ("GarmentMarker$Part", "size", "I", false)
  | 1 => ("GarmentMarker$Part", "piece", "I", false)
  | 2 => ("GarmentMarker$Part", "fold", "Z", false)
  | 3 => ("GarmentMarker$Part", "alongExtent", "I", false)
  | 4 => ("GarmentMarker$Part", "acrossExtent", "I", false)
  | 5 => ("GarmentMarker$Part", "along", "I", false)
  | 6 => ("GarmentMarker$Part", "across", "I", false)
  | 7 => ("GarmentMarker$Part", "alongEnd", "I", false)
  | _ => ("GarmentMarker$Part", "acrossBits", "I", false)
def gmR2 : String := "GarmentMarker$Piece"
def gmT2 : u_T := fun k => match k with
  | 0 => ("GarmentMarker$Piece", "defined", "Z", false)
  | 1 => ("GarmentMarker$Piece", "width", "I", false)
  | 2 => ("GarmentMarker$Piece", "length", "I", false)
  | 3 => ("GarmentMarker$Piece", "widthGrowth", "I", false)
  | 4 => ("GarmentMarker$Piece", "lengthGrowth", "I", false)
  | _ => ("GarmentMarker$Piece", "copies", "I", false)
def gmR3 : String := "GarmentMarker$Seam"
def gmT3 : u_T := fun k => match k with
  | 0 => ("GarmentMarker$Seam", "firstPiece", "I", false)
  | 1 => ("GarmentMarker$Seam", "firstSide", "I", false)
  | 2 => ("GarmentMarker$Seam", "secondPiece", "I", false)
  | 3 => ("GarmentMarker$Seam", "secondSide", "I", false)
  | _ => ("GarmentMarker$Seam", "ease", "I", false)
def gmR4 : String := "GarmentMarker$State"
def gmT4 : u_T := fun k => match k with
  | 0 => ("GarmentMarker$State", "pieces", "[LGarmentMarker$Piece;", true)
  | 1 => ("GarmentMarker$State", "seams", "[LGarmentMarker$Seam;", true)
  | 2 => ("GarmentMarker$State", "seamTotal", "I", false)
  | 3 => ("GarmentMarker$State", "ratios", "[I", true)
  | 4 => ("GarmentMarker$State", "ordered", "[I", true)
  | 5 => ("GarmentMarker$State", "clothWidth", "I", false)
  | 6 => ("GarmentMarker$State", "folded", "Z", false)
  | 7 => ("GarmentMarker$State", "rotation", "Z", false)
  | 8 => ("GarmentMarker$State", "method", "I", false)
  | _ => ("GarmentMarker$State", "order", "I", false)
def gmR5 : String := "GarmentMarker"
def gmT5 : u_T := fun k => match k with
  | 0 => ("GarmentMarker", "now", "LGarmentMarker$State;", true)
  | 1 => ("GarmentMarker", "slots", "[LGarmentMarker$State;", true)
  | 2 => ("GarmentMarker", "saved", "[Z", true)
  | 3 => ("GarmentMarker", "marker", "LGarmentMarker$Marker;", true)
  | _ => ("GarmentMarker", "mix", "[I", true)
def gmR6 : String := "GarmentMarkerModel"
def gmT6 : u_T := fun k => match k with
  | 0 => ("GarmentMarkerModel", "state", "[I", true)
  | 1 => ("GarmentMarkerModel", "slots", "[I", true)
  | 2 => ("GarmentMarkerModel", "isSaved", "[Z", true)
  | 3 => ("GarmentMarkerModel", "size", "[I", true)
  | 4 => ("GarmentMarkerModel", "piece", "[I", true)
  | 5 => ("GarmentMarkerModel", "across", "[I", true)
  | 6 => ("GarmentMarkerModel", "along", "[I", true)
  | 7 => ("GarmentMarkerModel", "isFold", "[Z", true)
  | 8 => ("GarmentMarkerModel", "parts", "I", false)
  | 9 => ("GarmentMarkerModel", "order", "[I", true)
  | 10 => ("GarmentMarkerModel", "atAlong", "[I", true)
  | 11 => ("GarmentMarkerModel", "atAcross", "[I", true)
  | 12 => ("GarmentMarkerModel", "shelfStart", "[I", true)
  | 13 => ("GarmentMarkerModel", "shelfDepth", "[I", true)
  | 14 => ("GarmentMarkerModel", "shelfUsed", "[I", true)
  | 15 => ("GarmentMarkerModel", "shelves", "I", false)
  | 16 => ("GarmentMarkerModel", "taken", "[I", true)
  | 17 => ("GarmentMarkerModel", "bestNumber", "I", false)
  | 18 => ("GarmentMarkerModel", "had", "[I", true)
  | 19 => ("GarmentMarkerModel", "good", "I", false)
  | 20 => ("GarmentMarkerModel", "bestMix", "I", false)
  | 21 => ("GarmentMarkerModel", "bestCloth", "I", false)
  | _ => ("GarmentMarkerModel", "bestSurplus", "I", false)
def gmC (ci : Nat) : vw_C := match ci with
  | 0 => (gmR0, gmT0, 7)
  | 1 => (gmR1, gmT1, 9)
  | 2 => (gmR2, gmT2, 6)
  | 3 => (gmR3, gmT3, 5)
  | 4 => (gmR4, gmT4, 10)
  | 5 => (gmR5, gmT5, 5)
  | _ => (gmR6, gmT6, 23)
abbrev gmCl : List vw_C := [gmC 0, gmC 1, gmC 2, gmC 3, gmC 4, gmC 5, gmC 6]
theorem gmCl_at : ∀ {ci : Nat}, ci < 7 → gmCl[ci]? = some (gmC ci)
  | 0, _ => rfl
  | 1, _ => rfl
  | 2, _ => rfl
  | 3, _ => rfl
  | 4, _ => rfl
  | 5, _ => rfl
  | 6, _ => rfl
  | n + 7, h => absurd h (by omega)
def gmTy0 (ci i : Nat) : FieldType := (parseFieldDescriptor ((gmC ci).2.1 i).2.2.1).getD .int
theorem gmTy0_ok : ∀ ci, ci < 7 → ∀ k, k < (gmC ci).2.2 → parseFieldDescriptor ((gmC ci).2.1 k).2.2.1 = some (gmTy0 ci k) := by decide +kernel
theorem gmNm_ok : ∀ ci, ci < 7 → ∀ a, a < (gmC ci).2.2 → ∀ b, b < (gmC ci).2.2 → a ≠ b → ((gmC ci).2.1 a).2.1 ≠ ((gmC ci).2.1 b).2.1 := by decide +kernel
/-- the words that pass from a method to its callees -/
def gmT : List Cond := lw_tbl.filter goodWord
theorem gmT_good : ∀ w ∈ gmT, goodWord w = true := fun _ h => (List.mem_filter.mp h).2
theorem gm_mem (p : Nat) {w : Cond} (h : tables_1[p]? = some w) (hg : goodWord w = true) : w ∈ gmT := List.mem_filter.mpr ⟨List.mem_append_right _ (List.mem_of_getElem? h), hg⟩
theorem gm_memS {q : MethodName × Nat} (h : q ∈ lw_privs) (hg : goodWord (Cond.selects q.1.cls q.1 q.1) = true) : Cond.selects q.1.cls q.1 q.1 ∈ gmT := List.mem_filter.mpr ⟨List.mem_append_left _ (List.mem_map.mpr ⟨q, h, rfl⟩), hg⟩
theorem gmU0 : ∀ w ∈ u_ws (gmC 0).1 (gmC 0).2.1 (gmC 0).2.2, w ∈ gmT := by
  intro w hw
  obtain ⟨i, hi, rfl⟩ := List.mem_map.mp hw
  have hi := List.mem_range.mp hi
  match i, hi with
  | 0, _ => exact gm_mem 202 (by decide +kernel) (by decide +kernel)
  | 1, _ => exact gm_mem 204 (by decide +kernel) (by decide +kernel)
  | 2, _ => exact gm_mem 206 (by decide +kernel) (by decide +kernel)
  | 3, _ => exact gm_mem 208 (by decide +kernel) (by decide +kernel)
  | 4, _ => exact gm_mem 210 (by decide +kernel) (by decide +kernel)
  | 5, _ => exact gm_mem 212 (by decide +kernel) (by decide +kernel)
  | 6, _ => exact gm_mem 214 (by decide +kernel) (by decide +kernel)
  | n + 7, h => exact absurd h (by show ¬ n + 7 < 7; omega)
theorem gmU1 : ∀ w ∈ u_ws (gmC 1).1 (gmC 1).2.1 (gmC 1).2.2, w ∈ gmT := by
  intro w hw
  obtain ⟨i, hi, rfl⟩ := List.mem_map.mp hw
  have hi := List.mem_range.mp hi
  match i, hi with
  | 0, _ => exact gm_mem 172 (by decide +kernel) (by decide +kernel)
  | 1, _ => exact gm_mem 174 (by decide +kernel) (by decide +kernel)
  | 2, _ => exact gm_mem 176 (by decide +kernel) (by decide +kernel)
  | 3, _ => exact gm_mem 178 (by decide +kernel) (by decide +kernel)
  | 4, _ => exact gm_mem 180 (by decide +kernel) (by decide +kernel)
  | 5, _ => exact gm_mem 182 (by decide +kernel) (by decide +kernel)
  | 6, _ => exact gm_mem 184 (by decide +kernel) (by decide +kernel)
  | 7, _ => exact gm_mem 186 (by decide +kernel) (by decide +kernel)
  | 8, _ => exact gm_mem 188 (by decide +kernel) (by decide +kernel)
  | n + 9, h => exact absurd h (by show ¬ n + 9 < 9; omega)
theorem gmU2 : ∀ w ∈ u_ws (gmC 2).1 (gmC 2).2.1 (gmC 2).2.2, w ∈ gmT := by
  intro w hw
  obtain ⟨i, hi, rfl⟩ := List.mem_map.mp hw
  have hi := List.mem_range.mp hi
  match i, hi with
  | 0, _ => exact gm_mem 46 (by decide +kernel) (by decide +kernel)
  | 1, _ => exact gm_mem 48 (by decide +kernel) (by decide +kernel)
  | 2, _ => exact gm_mem 50 (by decide +kernel) (by decide +kernel)
  | 3, _ => exact gm_mem 52 (by decide +kernel) (by decide +kernel)
  | 4, _ => exact gm_mem 54 (by decide +kernel) (by decide +kernel)
  | 5, _ => exact gm_mem 56 (by decide +kernel) (by decide +kernel)
  | n + 6, h => exact absurd h (by show ¬ n + 6 < 6; omega)
theorem gmU3 : ∀ w ∈ u_ws (gmC 3).1 (gmC 3).2.1 (gmC 3).2.2, w ∈ gmT := by
  intro w hw
  obtain ⟨i, hi, rfl⟩ := List.mem_map.mp hw
  have hi := List.mem_range.mp hi
  match i, hi with
  | 0, _ => exact gm_mem 81 (by decide +kernel) (by decide +kernel)
  | 1, _ => exact gm_mem 83 (by decide +kernel) (by decide +kernel)
  | 2, _ => exact gm_mem 85 (by decide +kernel) (by decide +kernel)
  | 3, _ => exact gm_mem 87 (by decide +kernel) (by decide +kernel)
  | 4, _ => exact gm_mem 89 (by decide +kernel) (by decide +kernel)
  | n + 5, h => exact absurd h (by show ¬ n + 5 < 5; omega)
theorem gmU4 : ∀ w ∈ u_ws (gmC 4).1 (gmC 4).2.1 (gmC 4).2.2, w ∈ gmT := by
  intro w hw
  obtain ⟨i, hi, rfl⟩ := List.mem_map.mp hw
  have hi := List.mem_range.mp hi
  match i, hi with
  | 0, _ => exact gm_mem 116 (by decide +kernel) (by decide +kernel)
  | 1, _ => exact gm_mem 118 (by decide +kernel) (by decide +kernel)
  | 2, _ => exact gm_mem 120 (by decide +kernel) (by decide +kernel)
  | 3, _ => exact gm_mem 122 (by decide +kernel) (by decide +kernel)
  | 4, _ => exact gm_mem 124 (by decide +kernel) (by decide +kernel)
  | 5, _ => exact gm_mem 126 (by decide +kernel) (by decide +kernel)
  | 6, _ => exact gm_mem 128 (by decide +kernel) (by decide +kernel)
  | 7, _ => exact gm_mem 130 (by decide +kernel) (by decide +kernel)
  | 8, _ => exact gm_mem 132 (by decide +kernel) (by decide +kernel)
  | 9, _ => exact gm_mem 134 (by decide +kernel) (by decide +kernel)
  | n + 10, h => exact absurd h (by show ¬ n + 10 < 10; omega)
theorem gmU5 : ∀ w ∈ u_ws (gmC 5).1 (gmC 5).2.1 (gmC 5).2.2, w ∈ gmT := by
  intro w hw
  obtain ⟨i, hi, rfl⟩ := List.mem_map.mp hw
  have hi := List.mem_range.mp hi
  match i, hi with
  | 0, _ => exact gm_mem 222 (by decide +kernel) (by decide +kernel)
  | 1, _ => exact gm_mem 224 (by decide +kernel) (by decide +kernel)
  | 2, _ => exact gm_mem 226 (by decide +kernel) (by decide +kernel)
  | 3, _ => exact gm_mem 228 (by decide +kernel) (by decide +kernel)
  | 4, _ => exact gm_mem 230 (by decide +kernel) (by decide +kernel)
  | n + 5, h => exact absurd h (by show ¬ n + 5 < 5; omega)
theorem gmU6 : ∀ w ∈ u_ws (gmC 6).1 (gmC 6).2.1 (gmC 6).2.2, w ∈ gmT := by
  intro w hw
  obtain ⟨i, hi, rfl⟩ := List.mem_map.mp hw
  have hi := List.mem_range.mp hi
  match i, hi with
  | 0, _ => exact gm_mem 584 (by decide +kernel) (by decide +kernel)
  | 1, _ => exact gm_mem 586 (by decide +kernel) (by decide +kernel)
  | 2, _ => exact gm_mem 588 (by decide +kernel) (by decide +kernel)
  | 3, _ => exact gm_mem 590 (by decide +kernel) (by decide +kernel)
  | 4, _ => exact gm_mem 592 (by decide +kernel) (by decide +kernel)
  | 5, _ => exact gm_mem 594 (by decide +kernel) (by decide +kernel)
  | 6, _ => exact gm_mem 596 (by decide +kernel) (by decide +kernel)
  | 7, _ => exact gm_mem 598 (by decide +kernel) (by decide +kernel)
  | 8, _ => exact gm_mem 600 (by decide +kernel) (by decide +kernel)
  | 9, _ => exact gm_mem 602 (by decide +kernel) (by decide +kernel)
  | 10, _ => exact gm_mem 604 (by decide +kernel) (by decide +kernel)
  | 11, _ => exact gm_mem 606 (by decide +kernel) (by decide +kernel)
  | 12, _ => exact gm_mem 608 (by decide +kernel) (by decide +kernel)
  | 13, _ => exact gm_mem 610 (by decide +kernel) (by decide +kernel)
  | 14, _ => exact gm_mem 612 (by decide +kernel) (by decide +kernel)
  | 15, _ => exact gm_mem 614 (by decide +kernel) (by decide +kernel)
  | 16, _ => exact gm_mem 616 (by decide +kernel) (by decide +kernel)
  | 17, _ => exact gm_mem 618 (by decide +kernel) (by decide +kernel)
  | 18, _ => exact gm_mem 620 (by decide +kernel) (by decide +kernel)
  | 19, _ => exact gm_mem 622 (by decide +kernel) (by decide +kernel)
  | 20, _ => exact gm_mem 624 (by decide +kernel) (by decide +kernel)
  | 21, _ => exact gm_mem 626 (by decide +kernel) (by decide +kernel)
  | 22, _ => exact gm_mem 628 (by decide +kernel) (by decide +kernel)
  | n + 23, h => exact absurd h (by show ¬ n + 23 < 23; omega)
theorem gmU : ∀ {ci : Nat}, ci < 7 → ∀ w ∈ u_ws (gmC ci).1 (gmC ci).2.1 (gmC ci).2.2, w ∈ gmT
  | 0, _ => gmU0
  | 1, _ => gmU1
  | 2, _ => gmU2
  | 3, _ => gmU3
  | 4, _ => gmU4
  | 5, _ => gmU5
  | 6, _ => gmU6
  | n + 7, h => absurd h (by omega)
/-- a field link: pool entry idx of class own is field i of class ci -/
def gmFL (own : String) (idx ci i : Nat) : Prop := ci < 7 ∧ i < (gmC ci).2.2 ∧ Cond.fieldLink own idx ((gmC ci).2.1 i).1 ((gmC ci).2.1 i).2.1 ((gmC ci).2.1 i).2.2.1 ∈ gmT
theorem gmF_5_12 : gmFL "GarmentMarker" 12 5 0 := ⟨by decide, by decide, gm_mem 217 (by decide +kernel) (by decide +kernel)⟩
theorem gmF_5_16 : gmFL "GarmentMarker" 16 5 1 := ⟨by decide, by decide, gm_mem 218 (by decide +kernel) (by decide +kernel)⟩
theorem gmF_5_20 : gmFL "GarmentMarker" 20 5 2 := ⟨by decide, by decide, gm_mem 219 (by decide +kernel) (by decide +kernel)⟩
theorem gmF_5_27 : gmFL "GarmentMarker" 27 5 3 := ⟨by decide, by decide, gm_mem 220 (by decide +kernel) (by decide +kernel)⟩
theorem gmF_5_31 : gmFL "GarmentMarker" 31 5 4 := ⟨by decide, by decide, gm_mem 221 (by decide +kernel) (by decide +kernel)⟩
theorem gmF_5_39 : gmFL "GarmentMarker" 39 4 0 := ⟨by decide, by decide, gm_mem 93 (by decide +kernel) (by decide +kernel)⟩
theorem gmF_5_43 : gmFL "GarmentMarker" 43 2 0 := ⟨by decide, by decide, gm_mem 32 (by decide +kernel) (by decide +kernel)⟩
theorem gmF_5_49 : gmFL "GarmentMarker" 49 2 1 := ⟨by decide, by decide, gm_mem 36 (by decide +kernel) (by decide +kernel)⟩
theorem gmF_5_53 : gmFL "GarmentMarker" 53 2 2 := ⟨by decide, by decide, gm_mem 38 (by decide +kernel) (by decide +kernel)⟩
theorem gmF_5_56 : gmFL "GarmentMarker" 56 2 3 := ⟨by decide, by decide, gm_mem 40 (by decide +kernel) (by decide +kernel)⟩
theorem gmF_5_59 : gmFL "GarmentMarker" 59 2 4 := ⟨by decide, by decide, gm_mem 42 (by decide +kernel) (by decide +kernel)⟩
theorem gmF_5_62 : gmFL "GarmentMarker" 62 2 5 := ⟨by decide, by decide, gm_mem 44 (by decide +kernel) (by decide +kernel)⟩
theorem gmF_5_77 : gmFL "GarmentMarker" 77 4 2 := ⟨by decide, by decide, gm_mem 98 (by decide +kernel) (by decide +kernel)⟩
theorem gmF_5_84 : gmFL "GarmentMarker" 84 4 1 := ⟨by decide, by decide, gm_mem 96 (by decide +kernel) (by decide +kernel)⟩
theorem gmF_5_88 : gmFL "GarmentMarker" 88 3 0 := ⟨by decide, by decide, gm_mem 68 (by decide +kernel) (by decide +kernel)⟩
theorem gmF_5_93 : gmFL "GarmentMarker" 93 3 1 := ⟨by decide, by decide, gm_mem 71 (by decide +kernel) (by decide +kernel)⟩
theorem gmF_5_96 : gmFL "GarmentMarker" 96 3 2 := ⟨by decide, by decide, gm_mem 74 (by decide +kernel) (by decide +kernel)⟩
theorem gmF_5_99 : gmFL "GarmentMarker" 99 3 3 := ⟨by decide, by decide, gm_mem 77 (by decide +kernel) (by decide +kernel)⟩
theorem gmF_5_102 : gmFL "GarmentMarker" 102 3 4 := ⟨by decide, by decide, gm_mem 80 (by decide +kernel) (by decide +kernel)⟩
theorem gmF_5_116 : gmFL "GarmentMarker" 116 4 3 := ⟨by decide, by decide, gm_mem 100 (by decide +kernel) (by decide +kernel)⟩
theorem gmF_5_119 : gmFL "GarmentMarker" 119 4 5 := ⟨by decide, by decide, gm_mem 105 (by decide +kernel) (by decide +kernel)⟩
theorem gmF_5_122 : gmFL "GarmentMarker" 122 4 6 := ⟨by decide, by decide, gm_mem 108 (by decide +kernel) (by decide +kernel)⟩
theorem gmF_5_125 : gmFL "GarmentMarker" 125 4 7 := ⟨by decide, by decide, gm_mem 111 (by decide +kernel) (by decide +kernel)⟩
theorem gmF_5_132 : gmFL "GarmentMarker" 132 4 8 := ⟨by decide, by decide, gm_mem 113 (by decide +kernel) (by decide +kernel)⟩
theorem gmF_5_135 : gmFL "GarmentMarker" 135 4 9 := ⟨by decide, by decide, gm_mem 115 (by decide +kernel) (by decide +kernel)⟩
theorem gmF_5_146 : gmFL "GarmentMarker" 146 0 1 := ⟨by decide, by decide, gm_mem 195 (by decide +kernel) (by decide +kernel)⟩
theorem gmF_5_155 : gmFL "GarmentMarker" 155 0 0 := ⟨by decide, by decide, gm_mem 193 (by decide +kernel) (by decide +kernel)⟩
theorem gmF_5_159 : gmFL "GarmentMarker" 159 1 0 := ⟨by decide, by decide, gm_mem 153 (by decide +kernel) (by decide +kernel)⟩
theorem gmF_5_164 : gmFL "GarmentMarker" 164 1 1 := ⟨by decide, by decide, gm_mem 155 (by decide +kernel) (by decide +kernel)⟩
theorem gmF_5_171 : gmFL "GarmentMarker" 171 1 5 := ⟨by decide, by decide, gm_mem 165 (by decide +kernel) (by decide +kernel)⟩
theorem gmF_5_174 : gmFL "GarmentMarker" 174 1 6 := ⟨by decide, by decide, gm_mem 167 (by decide +kernel) (by decide +kernel)⟩
theorem gmF_5_177 : gmFL "GarmentMarker" 177 1 3 := ⟨by decide, by decide, gm_mem 159 (by decide +kernel) (by decide +kernel)⟩
theorem gmF_5_180 : gmFL "GarmentMarker" 180 1 4 := ⟨by decide, by decide, gm_mem 162 (by decide +kernel) (by decide +kernel)⟩
theorem gmF_5_187 : gmFL "GarmentMarker" 187 0 2 := ⟨by decide, by decide, gm_mem 197 (by decide +kernel) (by decide +kernel)⟩
theorem gmF_5_199 : gmFL "GarmentMarker" 199 4 4 := ⟨by decide, by decide, gm_mem 102 (by decide +kernel) (by decide +kernel)⟩
theorem gmF_0_11 : gmFL "GarmentMarker$Marker" 11 0 0 := ⟨by decide, by decide, gm_mem 192 (by decide +kernel) (by decide +kernel)⟩
theorem gmF_0_18 : gmFL "GarmentMarker$Marker" 18 0 3 := ⟨by decide, by decide, gm_mem 198 (by decide +kernel) (by decide +kernel)⟩
theorem gmF_0_22 : gmFL "GarmentMarker$Marker" 22 0 4 := ⟨by decide, by decide, gm_mem 199 (by decide +kernel) (by decide +kernel)⟩
theorem gmF_0_25 : gmFL "GarmentMarker$Marker" 25 0 5 := ⟨by decide, by decide, gm_mem 200 (by decide +kernel) (by decide +kernel)⟩
theorem gmF_0_28 : gmFL "GarmentMarker$Marker" 28 0 6 := ⟨by decide, by decide, gm_mem 201 (by decide +kernel) (by decide +kernel)⟩
theorem gmF_0_31 : gmFL "GarmentMarker$Marker" 31 4 6 := ⟨by decide, by decide, gm_mem 106 (by decide +kernel) (by decide +kernel)⟩
theorem gmF_0_37 : gmFL "GarmentMarker$Marker" 37 4 5 := ⟨by decide, by decide, gm_mem 104 (by decide +kernel) (by decide +kernel)⟩
theorem gmF_0_41 : gmFL "GarmentMarker$Marker" 41 0 2 := ⟨by decide, by decide, gm_mem 196 (by decide +kernel) (by decide +kernel)⟩
theorem gmF_0_44 : gmFL "GarmentMarker$Marker" 44 0 1 := ⟨by decide, by decide, gm_mem 194 (by decide +kernel) (by decide +kernel)⟩
theorem gmF_0_51 : gmFL "GarmentMarker$Marker" 51 4 0 := ⟨by decide, by decide, gm_mem 94 (by decide +kernel) (by decide +kernel)⟩
theorem gmF_0_55 : gmFL "GarmentMarker$Marker" 55 2 0 := ⟨by decide, by decide, gm_mem 33 (by decide +kernel) (by decide +kernel)⟩
theorem gmF_0_60 : gmFL "GarmentMarker$Marker" 60 2 5 := ⟨by decide, by decide, gm_mem 45 (by decide +kernel) (by decide +kernel)⟩
theorem gmF_0_71 : gmFL "GarmentMarker$Marker" 71 1 0 := ⟨by decide, by decide, gm_mem 152 (by decide +kernel) (by decide +kernel)⟩
theorem gmF_0_74 : gmFL "GarmentMarker$Marker" 74 1 1 := ⟨by decide, by decide, gm_mem 154 (by decide +kernel) (by decide +kernel)⟩
theorem gmF_0_77 : gmFL "GarmentMarker$Marker" 77 1 2 := ⟨by decide, by decide, gm_mem 156 (by decide +kernel) (by decide +kernel)⟩
theorem gmF_0_80 : gmFL "GarmentMarker$Marker" 80 1 4 := ⟨by decide, by decide, gm_mem 161 (by decide +kernel) (by decide +kernel)⟩
theorem gmF_0_83 : gmFL "GarmentMarker$Marker" 83 1 3 := ⟨by decide, by decide, gm_mem 158 (by decide +kernel) (by decide +kernel)⟩
theorem gmF_0_86 : gmFL "GarmentMarker$Marker" 86 4 7 := ⟨by decide, by decide, gm_mem 110 (by decide +kernel) (by decide +kernel)⟩
theorem gmF_0_111 : gmFL "GarmentMarker$Marker" 111 1 7 := ⟨by decide, by decide, gm_mem 169 (by decide +kernel) (by decide +kernel)⟩
theorem gmF_0_142 : gmFL "GarmentMarker$Marker" 142 1 5 := ⟨by decide, by decide, gm_mem 164 (by decide +kernel) (by decide +kernel)⟩
theorem gmF_0_145 : gmFL "GarmentMarker$Marker" 145 1 8 := ⟨by decide, by decide, gm_mem 171 (by decide +kernel) (by decide +kernel)⟩
theorem gmF_1_9 : gmFL "GarmentMarker$Part" 9 1 5 := ⟨by decide, by decide, gm_mem 163 (by decide +kernel) (by decide +kernel)⟩
theorem gmF_1_15 : gmFL "GarmentMarker$Part" 15 1 6 := ⟨by decide, by decide, gm_mem 166 (by decide +kernel) (by decide +kernel)⟩
theorem gmF_1_18 : gmFL "GarmentMarker$Part" 18 1 3 := ⟨by decide, by decide, gm_mem 157 (by decide +kernel) (by decide +kernel)⟩
theorem gmF_1_21 : gmFL "GarmentMarker$Part" 21 1 7 := ⟨by decide, by decide, gm_mem 168 (by decide +kernel) (by decide +kernel)⟩
theorem gmF_1_24 : gmFL "GarmentMarker$Part" 24 1 4 := ⟨by decide, by decide, gm_mem 160 (by decide +kernel) (by decide +kernel)⟩
theorem gmF_1_27 : gmFL "GarmentMarker$Part" 27 1 8 := ⟨by decide, by decide, gm_mem 170 (by decide +kernel) (by decide +kernel)⟩
theorem gmF_2_9 : gmFL "GarmentMarker$Piece" 9 2 0 := ⟨by decide, by decide, gm_mem 31 (by decide +kernel) (by decide +kernel)⟩
theorem gmF_2_15 : gmFL "GarmentMarker$Piece" 15 2 1 := ⟨by decide, by decide, gm_mem 35 (by decide +kernel) (by decide +kernel)⟩
theorem gmF_2_19 : gmFL "GarmentMarker$Piece" 19 2 2 := ⟨by decide, by decide, gm_mem 37 (by decide +kernel) (by decide +kernel)⟩
theorem gmF_2_22 : gmFL "GarmentMarker$Piece" 22 2 3 := ⟨by decide, by decide, gm_mem 39 (by decide +kernel) (by decide +kernel)⟩
theorem gmF_2_25 : gmFL "GarmentMarker$Piece" 25 2 4 := ⟨by decide, by decide, gm_mem 41 (by decide +kernel) (by decide +kernel)⟩
theorem gmF_2_28 : gmFL "GarmentMarker$Piece" 28 2 5 := ⟨by decide, by decide, gm_mem 43 (by decide +kernel) (by decide +kernel)⟩
theorem gmF_3_7 : gmFL "GarmentMarker$Seam" 7 3 0 := ⟨by decide, by decide, gm_mem 66 (by decide +kernel) (by decide +kernel)⟩
theorem gmF_3_13 : gmFL "GarmentMarker$Seam" 13 3 1 := ⟨by decide, by decide, gm_mem 69 (by decide +kernel) (by decide +kernel)⟩
theorem gmF_3_16 : gmFL "GarmentMarker$Seam" 16 3 2 := ⟨by decide, by decide, gm_mem 72 (by decide +kernel) (by decide +kernel)⟩
theorem gmF_3_19 : gmFL "GarmentMarker$Seam" 19 3 3 := ⟨by decide, by decide, gm_mem 75 (by decide +kernel) (by decide +kernel)⟩
theorem gmF_3_22 : gmFL "GarmentMarker$Seam" 22 3 4 := ⟨by decide, by decide, gm_mem 78 (by decide +kernel) (by decide +kernel)⟩
theorem gmF_4_11 : gmFL "GarmentMarker$State" 11 4 0 := ⟨by decide, by decide, gm_mem 92 (by decide +kernel) (by decide +kernel)⟩
theorem gmF_4_20 : gmFL "GarmentMarker$State" 20 4 1 := ⟨by decide, by decide, gm_mem 95 (by decide +kernel) (by decide +kernel)⟩
theorem gmF_4_25 : gmFL "GarmentMarker$State" 25 4 3 := ⟨by decide, by decide, gm_mem 99 (by decide +kernel) (by decide +kernel)⟩
theorem gmF_4_29 : gmFL "GarmentMarker$State" 29 4 4 := ⟨by decide, by decide, gm_mem 101 (by decide +kernel) (by decide +kernel)⟩
theorem gmF_4_32 : gmFL "GarmentMarker$State" 32 4 5 := ⟨by decide, by decide, gm_mem 103 (by decide +kernel) (by decide +kernel)⟩
theorem gmF_4_36 : gmFL "GarmentMarker$State" 36 4 8 := ⟨by decide, by decide, gm_mem 112 (by decide +kernel) (by decide +kernel)⟩
theorem gmF_4_39 : gmFL "GarmentMarker$State" 39 4 9 := ⟨by decide, by decide, gm_mem 114 (by decide +kernel) (by decide +kernel)⟩
theorem gmF_4_49 : gmFL "GarmentMarker$State" 49 4 2 := ⟨by decide, by decide, gm_mem 97 (by decide +kernel) (by decide +kernel)⟩
theorem gmF_4_58 : gmFL "GarmentMarker$State" 58 4 6 := ⟨by decide, by decide, gm_mem 107 (by decide +kernel) (by decide +kernel)⟩
theorem gmF_4_62 : gmFL "GarmentMarker$State" 62 4 7 := ⟨by decide, by decide, gm_mem 109 (by decide +kernel) (by decide +kernel)⟩
theorem gmF_4_69 : gmFL "GarmentMarker$State" 69 2 0 := ⟨by decide, by decide, gm_mem 34 (by decide +kernel) (by decide +kernel)⟩
theorem gmF_4_76 : gmFL "GarmentMarker$State" 76 3 0 := ⟨by decide, by decide, gm_mem 67 (by decide +kernel) (by decide +kernel)⟩
theorem gmF_4_79 : gmFL "GarmentMarker$State" 79 3 1 := ⟨by decide, by decide, gm_mem 70 (by decide +kernel) (by decide +kernel)⟩
theorem gmF_4_86 : gmFL "GarmentMarker$State" 86 3 2 := ⟨by decide, by decide, gm_mem 73 (by decide +kernel) (by decide +kernel)⟩
theorem gmF_4_89 : gmFL "GarmentMarker$State" 89 3 3 := ⟨by decide, by decide, gm_mem 76 (by decide +kernel) (by decide +kernel)⟩
theorem gmF_4_92 : gmFL "GarmentMarker$State" 92 3 4 := ⟨by decide, by decide, gm_mem 79 (by decide +kernel) (by decide +kernel)⟩
theorem gmF_6_7 : gmFL "GarmentMarkerModel" 7 6 0 := ⟨by decide, by decide, gm_mem 561 (by decide +kernel) (by decide +kernel)⟩
theorem gmF_6_13 : gmFL "GarmentMarkerModel" 13 6 1 := ⟨by decide, by decide, gm_mem 562 (by decide +kernel) (by decide +kernel)⟩
theorem gmF_6_16 : gmFL "GarmentMarkerModel" 16 6 2 := ⟨by decide, by decide, gm_mem 563 (by decide +kernel) (by decide +kernel)⟩
theorem gmF_6_20 : gmFL "GarmentMarkerModel" 20 6 3 := ⟨by decide, by decide, gm_mem 564 (by decide +kernel) (by decide +kernel)⟩
theorem gmF_6_23 : gmFL "GarmentMarkerModel" 23 6 4 := ⟨by decide, by decide, gm_mem 565 (by decide +kernel) (by decide +kernel)⟩
theorem gmF_6_26 : gmFL "GarmentMarkerModel" 26 6 5 := ⟨by decide, by decide, gm_mem 566 (by decide +kernel) (by decide +kernel)⟩
theorem gmF_6_29 : gmFL "GarmentMarkerModel" 29 6 6 := ⟨by decide, by decide, gm_mem 567 (by decide +kernel) (by decide +kernel)⟩
theorem gmF_6_32 : gmFL "GarmentMarkerModel" 32 6 7 := ⟨by decide, by decide, gm_mem 568 (by decide +kernel) (by decide +kernel)⟩
theorem gmF_6_35 : gmFL "GarmentMarkerModel" 35 6 9 := ⟨by decide, by decide, gm_mem 570 (by decide +kernel) (by decide +kernel)⟩
theorem gmF_6_38 : gmFL "GarmentMarkerModel" 38 6 10 := ⟨by decide, by decide, gm_mem 571 (by decide +kernel) (by decide +kernel)⟩
theorem gmF_6_41 : gmFL "GarmentMarkerModel" 41 6 11 := ⟨by decide, by decide, gm_mem 572 (by decide +kernel) (by decide +kernel)⟩
theorem gmF_6_44 : gmFL "GarmentMarkerModel" 44 6 12 := ⟨by decide, by decide, gm_mem 573 (by decide +kernel) (by decide +kernel)⟩
theorem gmF_6_47 : gmFL "GarmentMarkerModel" 47 6 13 := ⟨by decide, by decide, gm_mem 574 (by decide +kernel) (by decide +kernel)⟩
theorem gmF_6_50 : gmFL "GarmentMarkerModel" 50 6 14 := ⟨by decide, by decide, gm_mem 575 (by decide +kernel) (by decide +kernel)⟩
theorem gmF_6_53 : gmFL "GarmentMarkerModel" 53 6 16 := ⟨by decide, by decide, gm_mem 577 (by decide +kernel) (by decide +kernel)⟩
theorem gmF_6_56 : gmFL "GarmentMarkerModel" 56 6 18 := ⟨by decide, by decide, gm_mem 579 (by decide +kernel) (by decide +kernel)⟩
theorem gmF_6_102 : gmFL "GarmentMarkerModel" 102 6 8 := ⟨by decide, by decide, gm_mem 569 (by decide +kernel) (by decide +kernel)⟩
theorem gmF_6_119 : gmFL "GarmentMarkerModel" 119 6 15 := ⟨by decide, by decide, gm_mem 576 (by decide +kernel) (by decide +kernel)⟩
theorem gmF_6_156 : gmFL "GarmentMarkerModel" 156 6 17 := ⟨by decide, by decide, gm_mem 578 (by decide +kernel) (by decide +kernel)⟩
theorem gmF_6_174 : gmFL "GarmentMarkerModel" 174 6 19 := ⟨by decide, by decide, gm_mem 580 (by decide +kernel) (by decide +kernel)⟩
theorem gmF_6_177 : gmFL "GarmentMarkerModel" 177 6 20 := ⟨by decide, by decide, gm_mem 581 (by decide +kernel) (by decide +kernel)⟩
theorem gmF_6_180 : gmFL "GarmentMarkerModel" 180 6 21 := ⟨by decide, by decide, gm_mem 582 (by decide +kernel) (by decide +kernel)⟩
theorem gmF_6_183 : gmFL "GarmentMarkerModel" 183 6 22 := ⟨by decide, by decide, gm_mem 583 (by decide +kernel) (by decide +kernel)⟩
/-- method links: the words of a call, the name, the code -/
def gmMV (own : String) (idx : Nat) (y : MethodName) (bc : ByteArray) (nL : Nat) (ret : Option FieldType) (n ci : Nat) : Prop := ci < 7 ∧ y.cls = (gmC ci).1 ∧ Cond.methodLink own idx y ∈ gmT ∧ Cond.instanceMethod y ∈ gmT ∧ Cond.selects y.cls y y ∈ gmT ∧ Cond.initialized y.cls ∈ gmT ∧ Cond.code y bc nL ret ∈ gmT ∧ (y.cls ≠ "java/lang/invoke/MethodHandle" ∧ y.cls ≠ "java/lang/invoke/VarHandle" ∧ (parseMethodDescriptor y.desc).map (fun d => d.parameters.length) = some n)
def gmMS (own : String) (idx : Nat) (y : MethodName) (bc : ByteArray) (nL : Nat) (ret : Option FieldType) (n : Nat) : Prop := y.cls = own ∧ Cond.methodLink own idx y ∈ gmT ∧ Cond.static y ∈ gmT ∧ Cond.initialized y.cls ∈ gmT ∧ Cond.code y bc nL ret ∈ gmT ∧ (y.cls ≠ "java/lang/invoke/MethodHandle" ∧ y.cls ≠ "java/lang/invoke/VarHandle" ∧ (parseMethodDescriptor y.desc).map (fun d => d.parameters.length) = some n)
abbrev gmNestL : List (String × Nat × MethodName × String) := [("GarmentMarker$State", 17, ⟨"GarmentMarker$Piece", "<init>", "()V"⟩, "GarmentMarker"), ("GarmentMarker$State", 24, ⟨"GarmentMarker$Seam", "<init>", "()V"⟩, "GarmentMarker"), ("GarmentMarker$Marker", 17, ⟨"GarmentMarker$Part", "<init>", "()V"⟩, "GarmentMarker"), ("GarmentMarker$State", 65, ⟨"GarmentMarker", "isWithin", "(III)Z"⟩, "GarmentMarker"), ("GarmentMarker$Marker", 93, ⟨"GarmentMarker", "isWithin", "(III)Z"⟩, "GarmentMarker")]
def gmMN (own : String) (idx : Nat) (y : MethodName) (host : String) (bc : ByteArray) (nL : Nat) (ret : Option FieldType) (n : Nat) : Prop := (own, idx, y, host) ∈ gmNestL ∧ Cond.static y ∈ gmT ∧ Cond.initialized y.cls ∈ gmT ∧ Cond.code y bc nL ret ∈ gmT ∧ (y.cls ≠ "java/lang/invoke/MethodHandle" ∧ y.cls ≠ "java/lang/invoke/VarHandle" ∧ (parseMethodDescriptor y.desc).map (fun d => d.parameters.length) = some n)
def gmY0_init : MethodName := ⟨"GarmentMarker$Marker", "<init>", "()V"⟩
def gmY0_makeParts : MethodName := ⟨"GarmentMarker$Marker", "makeParts", "(LGarmentMarker$State;[I)V"⟩
def gmY0_makeGarment : MethodName := ⟨"GarmentMarker$Marker", "makeGarment", "(LGarmentMarker$State;I)V"⟩
def gmY0_makePart : MethodName := ⟨"GarmentMarker$Marker", "makePart", "(LGarmentMarker$State;II)V"⟩
def gmY0_isBetterTurned : MethodName := ⟨"GarmentMarker$Marker", "isBetterTurned", "(II)Z"⟩
def gmY0_has : MethodName := ⟨"GarmentMarker$Marker", "has", "(I)Z"⟩
def gmY0_foldParts : MethodName := ⟨"GarmentMarker$Marker", "foldParts", "()I"⟩
def gmY0_partsArea : MethodName := ⟨"GarmentMarker$Marker", "partsArea", "()I"⟩
def gmY0_hasLayout : MethodName := ⟨"GarmentMarker$Marker", "hasLayout", "()Z"⟩
def gmY0_lengthPacked : MethodName := ⟨"GarmentMarker$Marker", "lengthPacked", "(II)I"⟩
def gmY0_sortParts : MethodName := ⟨"GarmentMarker$Marker", "sortParts", "(I)V"⟩
def gmY0_packShelves : MethodName := ⟨"GarmentMarker$Marker", "packShelves", "()V"⟩
def gmY0_firstShelfFor : MethodName := ⟨"GarmentMarker$Marker", "firstShelfFor", "(LGarmentMarker$Part;I)I"⟩
def gmY0_packFirstFree : MethodName := ⟨"GarmentMarker$Marker", "packFirstFree", "()V"⟩
def gmY0_placeFirstFree : MethodName := ⟨"GarmentMarker$Marker", "placeFirstFree", "(LGarmentMarker$Part;I)V"⟩
def gmY0_takenBits : MethodName := ⟨"GarmentMarker$Marker", "takenBits", "(LGarmentMarker$Part;II)I"⟩
def gmY0_firstGap : MethodName := ⟨"GarmentMarker$Marker", "firstGap", "(LGarmentMarker$Part;I)I"⟩
def gmY1_init : MethodName := ⟨"GarmentMarker$Part", "<init>", "()V"⟩
def gmY1_placeAt : MethodName := ⟨"GarmentMarker$Part", "placeAt", "(II)V"⟩
def gmY1_sortKey : MethodName := ⟨"GarmentMarker$Part", "sortKey", "(I)I"⟩
def gmY2_init : MethodName := ⟨"GarmentMarker$Piece", "<init>", "()V"⟩
def gmY2_copyFrom : MethodName := ⟨"GarmentMarker$Piece", "copyFrom", "(LGarmentMarker$Piece;)V"⟩
def gmY2_sideIn : MethodName := ⟨"GarmentMarker$Piece", "sideIn", "(II)I"⟩
def gmY3_init : MethodName := ⟨"GarmentMarker$Seam", "<init>", "()V"⟩
def gmY3_copyFrom : MethodName := ⟨"GarmentMarker$Seam", "copyFrom", "(LGarmentMarker$Seam;)V"⟩
def gmY3_uses : MethodName := ⟨"GarmentMarker$Seam", "uses", "(I)Z"⟩
def gmY4_init : MethodName := ⟨"GarmentMarker$State", "<init>", "()V"⟩
def gmY4_copyFrom : MethodName := ⟨"GarmentMarker$State", "copyFrom", "(LGarmentMarker$State;)V"⟩
def gmY4_isDefined : MethodName := ⟨"GarmentMarker$State", "isDefined", "(I)Z"⟩
def gmY4_definedPieces : MethodName := ⟨"GarmentMarker$State", "definedPieces", "()I"⟩
def gmY4_removeSeamsOf : MethodName := ⟨"GarmentMarker$State", "removeSeamsOf", "(I)V"⟩
def gmY4_differenceOf : MethodName := ⟨"GarmentMarker$State", "differenceOf", "(LGarmentMarker$Seam;I)I"⟩
def gmY4_matchesInAllSizes : MethodName := ⟨"GarmentMarker$State", "matchesInAllSizes", "(LGarmentMarker$Seam;)Z"⟩
def gmY4_pliesFor : MethodName := ⟨"GarmentMarker$State", "pliesFor", "([I)I"⟩
def gmY4_surplusFor : MethodName := ⟨"GarmentMarker$State", "surplusFor", "([II)I"⟩
def gmY5_init : MethodName := ⟨"GarmentMarker", "<init>", "()V"⟩
def gmY5_definePiece : MethodName := ⟨"GarmentMarker", "definePiece", "(IIIIII)I"⟩
def gmY5_removePiece : MethodName := ⟨"GarmentMarker", "removePiece", "(I)I"⟩
def gmY5_pieceWidth : MethodName := ⟨"GarmentMarker", "pieceWidth", "(II)I"⟩
def gmY5_pieceLength : MethodName := ⟨"GarmentMarker", "pieceLength", "(II)I"⟩
def gmY5_addSeam : MethodName := ⟨"GarmentMarker", "addSeam", "(IIIII)I"⟩
def gmY5_seamCount : MethodName := ⟨"GarmentMarker", "seamCount", "()I"⟩
def gmY5_seamDifference : MethodName := ⟨"GarmentMarker", "seamDifference", "(II)I"⟩
def gmY5_matchingSeams : MethodName := ⟨"GarmentMarker", "matchingSeams", "()I"⟩
def gmY5_firstMismatch : MethodName := ⟨"GarmentMarker", "firstMismatch", "()I"⟩
def gmY5_setRatio : MethodName := ⟨"GarmentMarker", "setRatio", "(II)I"⟩
def gmY5_ratio : MethodName := ⟨"GarmentMarker", "ratio", "(I)I"⟩
def gmY5_setClothWidth : MethodName := ⟨"GarmentMarker", "setClothWidth", "(I)I"⟩
def gmY5_setFolded : MethodName := ⟨"GarmentMarker", "setFolded", "(Z)Z"⟩
def gmY5_setRotation : MethodName := ⟨"GarmentMarker", "setRotation", "(Z)Z"⟩
def gmY5_setPacking : MethodName := ⟨"GarmentMarker", "setPacking", "(II)I"⟩
def gmY5_partCount : MethodName := ⟨"GarmentMarker", "partCount", "()I"⟩
def gmY5_foldPartCount : MethodName := ⟨"GarmentMarker", "foldPartCount", "()I"⟩
def gmY5_partSize : MethodName := ⟨"GarmentMarker", "partSize", "(I)I"⟩
def gmY5_partPiece : MethodName := ⟨"GarmentMarker", "partPiece", "(I)I"⟩
def gmY5_partAlong : MethodName := ⟨"GarmentMarker", "partAlong", "(I)I"⟩
def gmY5_partAcross : MethodName := ⟨"GarmentMarker", "partAcross", "(I)I"⟩
def gmY5_partAlongExtent : MethodName := ⟨"GarmentMarker", "partAlongExtent", "(I)I"⟩
def gmY5_partAcrossExtent : MethodName := ⟨"GarmentMarker", "partAcrossExtent", "(I)I"⟩
def gmY5_markerLength : MethodName := ⟨"GarmentMarker", "markerLength", "()I"⟩
def gmY5_wastedArea : MethodName := ⟨"GarmentMarker", "wastedArea", "()I"⟩
def gmY5_markerLengthWith : MethodName := ⟨"GarmentMarker", "markerLengthWith", "(II)I"⟩
def gmY5_bestLength : MethodName := ⟨"GarmentMarker", "bestLength", "()I"⟩
def gmY5_bestPacking : MethodName := ⟨"GarmentMarker", "bestPacking", "()I"⟩
def gmY5_setOrdered : MethodName := ⟨"GarmentMarker", "setOrdered", "(II)I"⟩
def gmY5_plies : MethodName := ⟨"GarmentMarker", "plies", "()I"⟩
def gmY5_clothLength : MethodName := ⟨"GarmentMarker", "clothLength", "()I"⟩
def gmY5_surplus : MethodName := ⟨"GarmentMarker", "surplus", "()I"⟩
def gmY5_goodMixes : MethodName := ⟨"GarmentMarker", "goodMixes", "()I"⟩
def gmY5_bestMix : MethodName := ⟨"GarmentMarker", "bestMix", "()I"⟩
def gmY5_bestMixCloth : MethodName := ⟨"GarmentMarker", "bestMixCloth", "()I"⟩
def gmY5_applyBestMix : MethodName := ⟨"GarmentMarker", "applyBestMix", "()I"⟩
def gmY5_save : MethodName := ⟨"GarmentMarker", "save", "(I)I"⟩
def gmY5_restore : MethodName := ⟨"GarmentMarker", "restore", "(I)I"⟩
def gmY5_isWithin : MethodName := ⟨"GarmentMarker", "isWithin", "(III)Z"⟩
def gmY5_isSize : MethodName := ⟨"GarmentMarker", "isSize", "(I)Z"⟩
def gmY5_isPacking : MethodName := ⟨"GarmentMarker", "isPacking", "(II)Z"⟩
def gmY5_packingNumber : MethodName := ⟨"GarmentMarker", "packingNumber", "(II)I"⟩
def gmY5_sideOrError : MethodName := ⟨"GarmentMarker", "sideOrError", "(III)I"⟩
def gmY5_placeOrError : MethodName := ⟨"GarmentMarker", "placeOrError", "(I)I"⟩
def gmY5_lengthFor : MethodName := ⟨"GarmentMarker", "lengthFor", "([I)I"⟩
def gmY5_findBestPacking : MethodName := ⟨"GarmentMarker", "findBestPacking", "()I"⟩
def gmY5_lookAtMix : MethodName := ⟨"GarmentMarker", "lookAtMix", "(I)V"⟩
def gmY5_findBestMix : MethodName := ⟨"GarmentMarker", "findBestMix", "()I"⟩
def gmY6_init : MethodName := ⟨"GarmentMarkerModel", "<init>", "()V"⟩
def gmY6_in : MethodName := ⟨"GarmentMarkerModel", "in", "(III)Z"⟩
def gmY6_isPiece : MethodName := ⟨"GarmentMarkerModel", "isPiece", "(I)Z"⟩
def gmY6_isSize : MethodName := ⟨"GarmentMarkerModel", "isSize", "(I)Z"⟩
def gmY6_widthOf : MethodName := ⟨"GarmentMarkerModel", "widthOf", "(II)I"⟩
def gmY6_lengthOf : MethodName := ⟨"GarmentMarkerModel", "lengthOf", "(II)I"⟩
def gmY6_definePiece : MethodName := ⟨"GarmentMarkerModel", "definePiece", "(IIIIII)I"⟩
def gmY6_dropSeam : MethodName := ⟨"GarmentMarkerModel", "dropSeam", "(I)V"⟩
def gmY6_removePiece : MethodName := ⟨"GarmentMarkerModel", "removePiece", "(I)I"⟩
def gmY6_pieceWidth : MethodName := ⟨"GarmentMarkerModel", "pieceWidth", "(II)I"⟩
def gmY6_pieceLength : MethodName := ⟨"GarmentMarkerModel", "pieceLength", "(II)I"⟩
def gmY6_addSeam : MethodName := ⟨"GarmentMarkerModel", "addSeam", "(IIIII)I"⟩
def gmY6_seamCount : MethodName := ⟨"GarmentMarkerModel", "seamCount", "()I"⟩
def gmY6_sideOf : MethodName := ⟨"GarmentMarkerModel", "sideOf", "(III)I"⟩
def gmY6_differenceOf : MethodName := ⟨"GarmentMarkerModel", "differenceOf", "(II)I"⟩
def gmY6_seamDifference : MethodName := ⟨"GarmentMarkerModel", "seamDifference", "(II)I"⟩
def gmY6_matches : MethodName := ⟨"GarmentMarkerModel", "matches", "(I)Z"⟩
def gmY6_matchingSeams : MethodName := ⟨"GarmentMarkerModel", "matchingSeams", "()I"⟩
def gmY6_firstMismatch : MethodName := ⟨"GarmentMarkerModel", "firstMismatch", "()I"⟩
def gmY6_set : MethodName := ⟨"GarmentMarkerModel", "set", "(II)I"⟩
def gmY6_setRatio : MethodName := ⟨"GarmentMarkerModel", "setRatio", "(II)I"⟩
def gmY6_ratio : MethodName := ⟨"GarmentMarkerModel", "ratio", "(I)I"⟩
def gmY6_setClothWidth : MethodName := ⟨"GarmentMarkerModel", "setClothWidth", "(I)I"⟩
def gmY6_setFolded : MethodName := ⟨"GarmentMarkerModel", "setFolded", "(Z)Z"⟩
def gmY6_setRotation : MethodName := ⟨"GarmentMarkerModel", "setRotation", "(Z)Z"⟩
def gmY6_isPacking : MethodName := ⟨"GarmentMarkerModel", "isPacking", "(II)Z"⟩
def gmY6_setPacking : MethodName := ⟨"GarmentMarkerModel", "setPacking", "(II)I"⟩
def gmY6_stripWidth : MethodName := ⟨"GarmentMarkerModel", "stripWidth", "()I"⟩
def gmY6_addPart : MethodName := ⟨"GarmentMarkerModel", "addPart", "(II)V"⟩
def gmY6_layParts : MethodName := ⟨"GarmentMarkerModel", "layParts", "()V"⟩
def gmY6_isPart : MethodName := ⟨"GarmentMarkerModel", "isPart", "(I)Z"⟩
def gmY6_partCount : MethodName := ⟨"GarmentMarkerModel", "partCount", "()I"⟩
def gmY6_foldPartCount : MethodName := ⟨"GarmentMarkerModel", "foldPartCount", "()I"⟩
def gmY6_partSize : MethodName := ⟨"GarmentMarkerModel", "partSize", "(I)I"⟩
def gmY6_partPiece : MethodName := ⟨"GarmentMarkerModel", "partPiece", "(I)I"⟩
def gmY6_keyOf : MethodName := ⟨"GarmentMarkerModel", "keyOf", "(II)I"⟩
def gmY6_layOrder : MethodName := ⟨"GarmentMarkerModel", "layOrder", "(I)V"⟩
def gmY6_shelfFor : MethodName := ⟨"GarmentMarkerModel", "shelfFor", "(II)I"⟩
def gmY6_packShelves : MethodName := ⟨"GarmentMarkerModel", "packShelves", "(I)V"⟩
def gmY6_takenFrom : MethodName := ⟨"GarmentMarkerModel", "takenFrom", "(II)I"⟩
def gmY6_freeAt : MethodName := ⟨"GarmentMarkerModel", "freeAt", "(III)I"⟩
def gmY6_packFree : MethodName := ⟨"GarmentMarkerModel", "packFree", "(I)V"⟩
def gmY6_pack : MethodName := ⟨"GarmentMarkerModel", "pack", "(II)Z"⟩
def gmY6_packNow : MethodName := ⟨"GarmentMarkerModel", "packNow", "()Z"⟩
def gmY6_packedLength : MethodName := ⟨"GarmentMarkerModel", "packedLength", "()I"⟩
def gmY6_lengthBy : MethodName := ⟨"GarmentMarkerModel", "lengthBy", "(II)I"⟩
def gmY6_lengthNow : MethodName := ⟨"GarmentMarkerModel", "lengthNow", "()I"⟩
def gmY6_partAlong : MethodName := ⟨"GarmentMarkerModel", "partAlong", "(I)I"⟩
def gmY6_partAcross : MethodName := ⟨"GarmentMarkerModel", "partAcross", "(I)I"⟩
def gmY6_partAlongExtent : MethodName := ⟨"GarmentMarkerModel", "partAlongExtent", "(I)I"⟩
def gmY6_partAcrossExtent : MethodName := ⟨"GarmentMarkerModel", "partAcrossExtent", "(I)I"⟩
def gmY6_markerLength : MethodName := ⟨"GarmentMarkerModel", "markerLength", "()I"⟩
def gmY6_wastedArea : MethodName := ⟨"GarmentMarkerModel", "wastedArea", "()I"⟩
def gmY6_markerLengthWith : MethodName := ⟨"GarmentMarkerModel", "markerLengthWith", "(II)I"⟩
def gmY6_findBest : MethodName := ⟨"GarmentMarkerModel", "findBest", "()I"⟩
def gmY6_bestLength : MethodName := ⟨"GarmentMarkerModel", "bestLength", "()I"⟩
def gmY6_bestPacking : MethodName := ⟨"GarmentMarkerModel", "bestPacking", "()I"⟩
def gmY6_setOrdered : MethodName := ⟨"GarmentMarkerModel", "setOrdered", "(II)I"⟩
def gmY6_pliesNow : MethodName := ⟨"GarmentMarkerModel", "pliesNow", "()I"⟩
def gmY6_plies : MethodName := ⟨"GarmentMarkerModel", "plies", "()I"⟩
def gmY6_clothNow : MethodName := ⟨"GarmentMarkerModel", "clothNow", "()I"⟩
def gmY6_clothLength : MethodName := ⟨"GarmentMarkerModel", "clothLength", "()I"⟩
def gmY6_surplusNow : MethodName := ⟨"GarmentMarkerModel", "surplusNow", "()I"⟩
def gmY6_surplus : MethodName := ⟨"GarmentMarkerModel", "surplus", "()I"⟩
def gmY6_setMix : MethodName := ⟨"GarmentMarkerModel", "setMix", "(I)V"⟩
def gmY6_tryMix : MethodName := ⟨"GarmentMarkerModel", "tryMix", "(I)V"⟩
def gmY6_findMix : MethodName := ⟨"GarmentMarkerModel", "findMix", "()V"⟩
def gmY6_goodMixes : MethodName := ⟨"GarmentMarkerModel", "goodMixes", "()I"⟩
def gmY6_bestMix : MethodName := ⟨"GarmentMarkerModel", "bestMix", "()I"⟩
def gmY6_bestMixCloth : MethodName := ⟨"GarmentMarkerModel", "bestMixCloth", "()I"⟩
def gmY6_applyBestMix : MethodName := ⟨"GarmentMarkerModel", "applyBestMix", "()I"⟩
def gmY6_save : MethodName := ⟨"GarmentMarkerModel", "save", "(I)I"⟩
def gmY6_restore : MethodName := ⟨"GarmentMarkerModel", "restore", "(I)I"⟩
theorem gmM_5_35 : gmMS "GarmentMarker" 35 gmY5_isWithin prog_1_method_40_code 3 (some .boolean) 3 := ⟨rfl, gm_mem 237 (by decide +kernel) (by decide +kernel), gm_mem 238 (by decide +kernel) (by decide +kernel), gm_mem 1 (by decide +kernel) (by decide +kernel), gm_mem 239 (by decide +kernel) (by decide +kernel), by decide +kernel⟩
theorem gmM_5_65 : gmMV "GarmentMarker" 65 gmY4_definedPieces prog_6_method_4_code 3 (some .int) 0 4 := ⟨by decide, rfl, gm_mem 240 (by decide +kernel) (by decide +kernel), gm_mem 241 (by decide +kernel) (by decide +kernel), gm_mem 242 (by decide +kernel) (by decide +kernel), gm_mem 2 (by decide +kernel) (by decide +kernel), gm_mem 243 (by decide +kernel) (by decide +kernel), by decide +kernel⟩
theorem gmM_5_69 : gmMV "GarmentMarker" 69 gmY4_isDefined prog_6_method_3_code 2 (some .boolean) 1 4 := ⟨by decide, rfl, gm_mem 248 (by decide +kernel) (by decide +kernel), gm_mem 249 (by decide +kernel) (by decide +kernel), gm_mem 250 (by decide +kernel) (by decide +kernel), gm_mem 2 (by decide +kernel) (by decide +kernel), gm_mem 251 (by decide +kernel) (by decide +kernel), by decide +kernel⟩
theorem gmM_5_73 : gmMV "GarmentMarker" 73 gmY4_removeSeamsOf prog_6_method_5_code 4 none 1 4 := ⟨by decide, rfl, gm_mem 253 (by decide +kernel) (by decide +kernel), gm_mem 254 (by decide +kernel) (by decide +kernel), gm_mem 255 (by decide +kernel) (by decide +kernel), gm_mem 2 (by decide +kernel) (by decide +kernel), gm_mem 256 (by decide +kernel) (by decide +kernel), by decide +kernel⟩
theorem gmM_5_80 : gmMV "GarmentMarker" 80 gmY5_sideOrError prog_1_method_44_code 4 (some .int) 3 5 := ⟨by decide, rfl, gm_mem 269 (by decide +kernel) (by decide +kernel), gm_mem 271 (by decide +kernel) (by decide +kernel), gm_memS (q := (gmY5_sideOrError, 5)) (by decide +kernel) (by decide +kernel), gm_mem 1 (by decide +kernel) (by decide +kernel), gm_mem 272 (by decide +kernel) (by decide +kernel), by decide +kernel⟩
theorem gmM_5_105 : gmMS "GarmentMarker" 105 gmY5_isSize prog_1_method_41_code 1 (some .boolean) 1 := ⟨rfl, gm_mem 273 (by decide +kernel) (by decide +kernel), gm_mem 274 (by decide +kernel) (by decide +kernel), gm_mem 1 (by decide +kernel) (by decide +kernel), gm_mem 275 (by decide +kernel) (by decide +kernel), by decide +kernel⟩
theorem gmM_5_108 : gmMV "GarmentMarker" 108 gmY4_differenceOf prog_6_method_6_code 5 (some .int) 2 4 := ⟨by decide, rfl, gm_mem 296 (by decide +kernel) (by decide +kernel), gm_mem 297 (by decide +kernel) (by decide +kernel), gm_mem 298 (by decide +kernel) (by decide +kernel), gm_mem 2 (by decide +kernel) (by decide +kernel), gm_mem 299 (by decide +kernel) (by decide +kernel), by decide +kernel⟩
theorem gmM_5_112 : gmMV "GarmentMarker" 112 gmY4_matchesInAllSizes prog_6_method_7_code 3 (some .boolean) 1 4 := ⟨by decide, rfl, gm_mem 305 (by decide +kernel) (by decide +kernel), gm_mem 306 (by decide +kernel) (by decide +kernel), gm_mem 307 (by decide +kernel) (by decide +kernel), gm_mem 2 (by decide +kernel) (by decide +kernel), gm_mem 308 (by decide +kernel) (by decide +kernel), by decide +kernel⟩
theorem gmM_5_128 : gmMS "GarmentMarker" 128 gmY5_isPacking prog_1_method_42_code 2 (some .boolean) 2 := ⟨rfl, gm_mem 338 (by decide +kernel) (by decide +kernel), gm_mem 339 (by decide +kernel) (by decide +kernel), gm_mem 1 (by decide +kernel) (by decide +kernel), gm_mem 340 (by decide +kernel) (by decide +kernel), by decide +kernel⟩
theorem gmM_5_138 : gmMS "GarmentMarker" 138 gmY5_packingNumber prog_1_method_43_code 2 (some .int) 2 := ⟨rfl, gm_mem 341 (by decide +kernel) (by decide +kernel), gm_mem 342 (by decide +kernel) (by decide +kernel), gm_mem 1 (by decide +kernel) (by decide +kernel), gm_mem 343 (by decide +kernel) (by decide +kernel), by decide +kernel⟩
theorem gmM_5_142 : gmMV "GarmentMarker" 142 gmY0_makeParts prog_2_method_2_code 5 none 2 0 := ⟨by decide, rfl, gm_mem 348 (by decide +kernel) (by decide +kernel), gm_mem 349 (by decide +kernel) (by decide +kernel), gm_mem 350 (by decide +kernel) (by decide +kernel), gm_mem 5 (by decide +kernel) (by decide +kernel), gm_mem 351 (by decide +kernel) (by decide +kernel), by decide +kernel⟩
theorem gmM_5_149 : gmMV "GarmentMarker" 149 gmY0_foldParts prog_2_method_7_code 3 (some .int) 0 0 := ⟨by decide, rfl, gm_mem 369 (by decide +kernel) (by decide +kernel), gm_mem 370 (by decide +kernel) (by decide +kernel), gm_mem 371 (by decide +kernel) (by decide +kernel), gm_mem 5 (by decide +kernel) (by decide +kernel), gm_mem 372 (by decide +kernel) (by decide +kernel), by decide +kernel⟩
theorem gmM_5_152 : gmMV "GarmentMarker" 152 gmY0_has prog_2_method_6_code 2 (some .boolean) 1 0 := ⟨by decide, rfl, gm_mem 377 (by decide +kernel) (by decide +kernel), gm_mem 378 (by decide +kernel) (by decide +kernel), gm_mem 379 (by decide +kernel) (by decide +kernel), gm_mem 5 (by decide +kernel) (by decide +kernel), gm_mem 380 (by decide +kernel) (by decide +kernel), by decide +kernel⟩
theorem gmM_5_167 : gmMV "GarmentMarker" 167 gmY5_placeOrError prog_1_method_45_code 2 (some .int) 1 5 := ⟨by decide, rfl, gm_mem 390 (by decide +kernel) (by decide +kernel), gm_mem 392 (by decide +kernel) (by decide +kernel), gm_memS (q := (gmY5_placeOrError, 5)) (by decide +kernel) (by decide +kernel), gm_mem 1 (by decide +kernel) (by decide +kernel), gm_mem 393 (by decide +kernel) (by decide +kernel), by decide +kernel⟩
theorem gmM_5_183 : gmMV "GarmentMarker" 183 gmY5_lengthFor prog_1_method_46_code 2 (some .int) 1 5 := ⟨by decide, rfl, gm_mem 457 (by decide +kernel) (by decide +kernel), gm_mem 459 (by decide +kernel) (by decide +kernel), gm_memS (q := (gmY5_lengthFor, 5)) (by decide +kernel) (by decide +kernel), gm_mem 1 (by decide +kernel) (by decide +kernel), gm_mem 460 (by decide +kernel) (by decide +kernel), by decide +kernel⟩
theorem gmM_5_190 : gmMV "GarmentMarker" 190 gmY0_partsArea prog_2_method_8_code 3 (some .int) 0 0 := ⟨by decide, rfl, gm_mem 465 (by decide +kernel) (by decide +kernel), gm_mem 466 (by decide +kernel) (by decide +kernel), gm_mem 467 (by decide +kernel) (by decide +kernel), gm_mem 5 (by decide +kernel) (by decide +kernel), gm_mem 468 (by decide +kernel) (by decide +kernel), by decide +kernel⟩
theorem gmM_5_193 : gmMV "GarmentMarker" 193 gmY0_lengthPacked prog_2_method_10_code 5 (some .int) 2 0 := ⟨by decide, rfl, gm_mem 394 (by decide +kernel) (by decide +kernel), gm_mem 395 (by decide +kernel) (by decide +kernel), gm_mem 396 (by decide +kernel) (by decide +kernel), gm_mem 5 (by decide +kernel) (by decide +kernel), gm_mem 397 (by decide +kernel) (by decide +kernel), by decide +kernel⟩
theorem gmM_5_196 : gmMV "GarmentMarker" 196 gmY5_findBestPacking prog_1_method_47_code 6 (some .int) 0 5 := ⟨by decide, rfl, gm_mem 477 (by decide +kernel) (by decide +kernel), gm_mem 479 (by decide +kernel) (by decide +kernel), gm_memS (q := (gmY5_findBestPacking, 5)) (by decide +kernel) (by decide +kernel), gm_mem 1 (by decide +kernel) (by decide +kernel), gm_mem 480 (by decide +kernel) (by decide +kernel), by decide +kernel⟩
theorem gmM_5_202 : gmMV "GarmentMarker" 202 gmY4_pliesFor prog_6_method_8_code 5 (some .int) 1 4 := ⟨by decide, rfl, gm_mem 494 (by decide +kernel) (by decide +kernel), gm_mem 495 (by decide +kernel) (by decide +kernel), gm_mem 496 (by decide +kernel) (by decide +kernel), gm_mem 2 (by decide +kernel) (by decide +kernel), gm_mem 497 (by decide +kernel) (by decide +kernel), by decide +kernel⟩
theorem gmM_5_205 : gmMV "GarmentMarker" 205 gmY4_surplusFor prog_6_method_9_code 5 (some .int) 2 4 := ⟨by decide, rfl, gm_mem 507 (by decide +kernel) (by decide +kernel), gm_mem 508 (by decide +kernel) (by decide +kernel), gm_mem 509 (by decide +kernel) (by decide +kernel), gm_mem 2 (by decide +kernel) (by decide +kernel), gm_mem 510 (by decide +kernel) (by decide +kernel), by decide +kernel⟩
theorem gmM_5_209 : gmMV "GarmentMarker" 209 gmY5_lookAtMix prog_1_method_48_code 2 none 1 5 := ⟨by decide, rfl, gm_mem 515 (by decide +kernel) (by decide +kernel), gm_mem 517 (by decide +kernel) (by decide +kernel), gm_memS (q := (gmY5_lookAtMix, 5)) (by decide +kernel) (by decide +kernel), gm_mem 1 (by decide +kernel) (by decide +kernel), gm_mem 518 (by decide +kernel) (by decide +kernel), by decide +kernel⟩
theorem gmM_5_212 : gmMV "GarmentMarker" 212 gmY0_hasLayout prog_2_method_9_code 2 (some .boolean) 0 0 := ⟨by decide, rfl, gm_mem 481 (by decide +kernel) (by decide +kernel), gm_mem 399 (by decide +kernel) (by decide +kernel), gm_mem 400 (by decide +kernel) (by decide +kernel), gm_mem 5 (by decide +kernel) (by decide +kernel), gm_mem 401 (by decide +kernel) (by decide +kernel), by decide +kernel⟩
theorem gmM_5_216 : gmMV "GarmentMarker" 216 gmY5_findBestMix prog_1_method_49_code 8 (some .int) 0 5 := ⟨by decide, rfl, gm_mem 523 (by decide +kernel) (by decide +kernel), gm_mem 525 (by decide +kernel) (by decide +kernel), gm_memS (q := (gmY5_findBestMix, 5)) (by decide +kernel) (by decide +kernel), gm_mem 1 (by decide +kernel) (by decide +kernel), gm_mem 526 (by decide +kernel) (by decide +kernel), by decide +kernel⟩
theorem gmM_5_225 : gmMV "GarmentMarker" 225 gmY4_copyFrom prog_6_method_2_code 3 none 1 4 := ⟨by decide, rfl, gm_mem 542 (by decide +kernel) (by decide +kernel), gm_mem 543 (by decide +kernel) (by decide +kernel), gm_mem 544 (by decide +kernel) (by decide +kernel), gm_mem 2 (by decide +kernel) (by decide +kernel), gm_mem 545 (by decide +kernel) (by decide +kernel), by decide +kernel⟩
theorem gmM_5_229 : gmMV "GarmentMarker" 229 gmY2_sideIn prog_4_method_3_code 3 (some .int) 2 2 := ⟨by decide, rfl, gm_mem 276 (by decide +kernel) (by decide +kernel), gm_mem 277 (by decide +kernel) (by decide +kernel), gm_mem 278 (by decide +kernel) (by decide +kernel), gm_mem 3 (by decide +kernel) (by decide +kernel), gm_mem 279 (by decide +kernel) (by decide +kernel), by decide +kernel⟩
theorem gmM_0_47 : gmMV "GarmentMarker$Marker" 47 gmY0_makeGarment prog_2_method_3_code 6 none 2 0 := ⟨by decide, rfl, gm_mem 352 (by decide +kernel) (by decide +kernel), gm_mem 353 (by decide +kernel) (by decide +kernel), gm_mem 354 (by decide +kernel) (by decide +kernel), gm_mem 5 (by decide +kernel) (by decide +kernel), gm_mem 355 (by decide +kernel) (by decide +kernel), by decide +kernel⟩
theorem gmM_0_63 : gmMV "GarmentMarker$Marker" 63 gmY0_makePart prog_2_method_4_code 9 none 3 0 := ⟨by decide, rfl, gm_mem 356 (by decide +kernel) (by decide +kernel), gm_mem 357 (by decide +kernel) (by decide +kernel), gm_mem 358 (by decide +kernel) (by decide +kernel), gm_mem 5 (by decide +kernel) (by decide +kernel), gm_mem 359 (by decide +kernel) (by decide +kernel), by decide +kernel⟩
theorem gmM_0_67 : gmMV "GarmentMarker$Marker" 67 gmY2_sideIn prog_4_method_3_code 3 (some .int) 2 2 := ⟨by decide, rfl, gm_mem 360 (by decide +kernel) (by decide +kernel), gm_mem 277 (by decide +kernel) (by decide +kernel), gm_mem 278 (by decide +kernel) (by decide +kernel), gm_mem 3 (by decide +kernel) (by decide +kernel), gm_mem 279 (by decide +kernel) (by decide +kernel), by decide +kernel⟩
theorem gmM_0_89 : gmMV "GarmentMarker$Marker" 89 gmY0_isBetterTurned prog_2_method_5_code 3 (some .boolean) 2 0 := ⟨by decide, rfl, gm_mem 361 (by decide +kernel) (by decide +kernel), gm_mem 362 (by decide +kernel) (by decide +kernel), gm_mem 363 (by decide +kernel) (by decide +kernel), gm_mem 5 (by decide +kernel) (by decide +kernel), gm_mem 364 (by decide +kernel) (by decide +kernel), by decide +kernel⟩
theorem gmM_0_97 : gmMV "GarmentMarker$Marker" 97 gmY0_hasLayout prog_2_method_9_code 2 (some .boolean) 0 0 := ⟨by decide, rfl, gm_mem 398 (by decide +kernel) (by decide +kernel), gm_mem 399 (by decide +kernel) (by decide +kernel), gm_mem 400 (by decide +kernel) (by decide +kernel), gm_mem 5 (by decide +kernel) (by decide +kernel), gm_mem 401 (by decide +kernel) (by decide +kernel), by decide +kernel⟩
theorem gmM_0_101 : gmMV "GarmentMarker$Marker" 101 gmY0_sortParts prog_2_method_11_code 5 none 1 0 := ⟨by decide, rfl, gm_mem 402 (by decide +kernel) (by decide +kernel), gm_mem 403 (by decide +kernel) (by decide +kernel), gm_mem 404 (by decide +kernel) (by decide +kernel), gm_mem 5 (by decide +kernel) (by decide +kernel), gm_mem 405 (by decide +kernel) (by decide +kernel), by decide +kernel⟩
theorem gmM_0_105 : gmMV "GarmentMarker$Marker" 105 gmY0_packShelves prog_2_method_12_code 6 none 0 0 := ⟨by decide, rfl, gm_mem 410 (by decide +kernel) (by decide +kernel), gm_mem 411 (by decide +kernel) (by decide +kernel), gm_mem 412 (by decide +kernel) (by decide +kernel), gm_mem 5 (by decide +kernel) (by decide +kernel), gm_mem 413 (by decide +kernel) (by decide +kernel), by decide +kernel⟩
theorem gmM_0_108 : gmMV "GarmentMarker$Marker" 108 gmY0_packFirstFree prog_2_method_14_code 2 none 0 0 := ⟨by decide, rfl, gm_mem 422 (by decide +kernel) (by decide +kernel), gm_mem 423 (by decide +kernel) (by decide +kernel), gm_mem 424 (by decide +kernel) (by decide +kernel), gm_mem 5 (by decide +kernel) (by decide +kernel), gm_mem 425 (by decide +kernel) (by decide +kernel), by decide +kernel⟩
theorem gmM_0_119 : gmMV "GarmentMarker$Marker" 119 gmY1_sortKey prog_3_method_3_code 2 (some .int) 1 1 := ⟨by decide, rfl, gm_mem 406 (by decide +kernel) (by decide +kernel), gm_mem 407 (by decide +kernel) (by decide +kernel), gm_mem 408 (by decide +kernel) (by decide +kernel), gm_mem 6 (by decide +kernel) (by decide +kernel), gm_mem 409 (by decide +kernel) (by decide +kernel), by decide +kernel⟩
theorem gmM_0_123 : gmMV "GarmentMarker$Marker" 123 gmY0_firstShelfFor prog_2_method_13_code 4 (some .int) 2 0 := ⟨by decide, rfl, gm_mem 414 (by decide +kernel) (by decide +kernel), gm_mem 415 (by decide +kernel) (by decide +kernel), gm_mem 416 (by decide +kernel) (by decide +kernel), gm_mem 5 (by decide +kernel) (by decide +kernel), gm_mem 417 (by decide +kernel) (by decide +kernel), by decide +kernel⟩
theorem gmM_0_127 : gmMV "GarmentMarker$Marker" 127 gmY1_placeAt prog_3_method_2_code 3 none 2 1 := ⟨by decide, rfl, gm_mem 418 (by decide +kernel) (by decide +kernel), gm_mem 419 (by decide +kernel) (by decide +kernel), gm_mem 420 (by decide +kernel) (by decide +kernel), gm_mem 6 (by decide +kernel) (by decide +kernel), gm_mem 421 (by decide +kernel) (by decide +kernel), by decide +kernel⟩
theorem gmM_0_131 : gmMV "GarmentMarker$Marker" 131 gmY0_placeFirstFree prog_2_method_15_code 8 none 2 0 := ⟨by decide, rfl, gm_mem 426 (by decide +kernel) (by decide +kernel), gm_mem 427 (by decide +kernel) (by decide +kernel), gm_mem 428 (by decide +kernel) (by decide +kernel), gm_mem 5 (by decide +kernel) (by decide +kernel), gm_mem 429 (by decide +kernel) (by decide +kernel), by decide +kernel⟩
theorem gmM_0_135 : gmMV "GarmentMarker$Marker" 135 gmY0_takenBits prog_2_method_16_code 8 (some .int) 3 0 := ⟨by decide, rfl, gm_mem 430 (by decide +kernel) (by decide +kernel), gm_mem 431 (by decide +kernel) (by decide +kernel), gm_mem 432 (by decide +kernel) (by decide +kernel), gm_mem 5 (by decide +kernel) (by decide +kernel), gm_mem 433 (by decide +kernel) (by decide +kernel), by decide +kernel⟩
theorem gmM_0_139 : gmMV "GarmentMarker$Marker" 139 gmY0_firstGap prog_2_method_17_code 6 (some .int) 2 0 := ⟨by decide, rfl, gm_mem 434 (by decide +kernel) (by decide +kernel), gm_mem 435 (by decide +kernel) (by decide +kernel), gm_mem 436 (by decide +kernel) (by decide +kernel), gm_mem 5 (by decide +kernel) (by decide +kernel), gm_mem 437 (by decide +kernel) (by decide +kernel), by decide +kernel⟩
theorem gmM_4_42 : gmMV "GarmentMarker$State" 42 gmY2_copyFrom prog_4_method_2_code 2 none 1 2 := ⟨by decide, rfl, gm_mem 546 (by decide +kernel) (by decide +kernel), gm_mem 547 (by decide +kernel) (by decide +kernel), gm_mem 548 (by decide +kernel) (by decide +kernel), gm_mem 3 (by decide +kernel) (by decide +kernel), gm_mem 549 (by decide +kernel) (by decide +kernel), by decide +kernel⟩
theorem gmM_4_46 : gmMV "GarmentMarker$State" 46 gmY3_copyFrom prog_5_method_2_code 2 none 1 3 := ⟨by decide, rfl, gm_mem 261 (by decide +kernel) (by decide +kernel), gm_mem 262 (by decide +kernel) (by decide +kernel), gm_mem 263 (by decide +kernel) (by decide +kernel), gm_mem 4 (by decide +kernel) (by decide +kernel), gm_mem 264 (by decide +kernel) (by decide +kernel), by decide +kernel⟩
theorem gmM_4_72 : gmMV "GarmentMarker$State" 72 gmY3_uses prog_5_method_3_code 2 (some .boolean) 1 3 := ⟨by decide, rfl, gm_mem 257 (by decide +kernel) (by decide +kernel), gm_mem 258 (by decide +kernel) (by decide +kernel), gm_mem 259 (by decide +kernel) (by decide +kernel), gm_mem 4 (by decide +kernel) (by decide +kernel), gm_mem 260 (by decide +kernel) (by decide +kernel), by decide +kernel⟩
theorem gmM_4_82 : gmMV "GarmentMarker$State" 82 gmY2_sideIn prog_4_method_3_code 3 (some .int) 2 2 := ⟨by decide, rfl, gm_mem 300 (by decide +kernel) (by decide +kernel), gm_mem 277 (by decide +kernel) (by decide +kernel), gm_mem 278 (by decide +kernel) (by decide +kernel), gm_mem 3 (by decide +kernel) (by decide +kernel), gm_mem 279 (by decide +kernel) (by decide +kernel), by decide +kernel⟩
theorem gmM_4_95 : gmMV "GarmentMarker$State" 95 gmY4_differenceOf prog_6_method_6_code 5 (some .int) 2 4 := ⟨by decide, rfl, gm_mem 309 (by decide +kernel) (by decide +kernel), gm_mem 297 (by decide +kernel) (by decide +kernel), gm_mem 298 (by decide +kernel) (by decide +kernel), gm_mem 2 (by decide +kernel) (by decide +kernel), gm_mem 299 (by decide +kernel) (by decide +kernel), by decide +kernel⟩
theorem gmM_L_13 : gmMV "GarmentMarkerLaw" 13 gmY5_definePiece prog_1_method_2_code 8 (some .int) 6 5 := ⟨by decide, rfl, gm_mem 233 (by decide +kernel) (by decide +kernel), gm_mem 234 (by decide +kernel) (by decide +kernel), gm_mem 235 (by decide +kernel) (by decide +kernel), gm_mem 1 (by decide +kernel) (by decide +kernel), gm_mem 236 (by decide +kernel) (by decide +kernel), by decide +kernel⟩
theorem gmM_L_17 : gmMV "GarmentMarkerLaw" 17 gmY6_definePiece prog_8_method_7_code 10 (some .int) 6 6 := ⟨by decide, rfl, gm_mem 631 (by decide +kernel) (by decide +kernel), gm_mem 632 (by decide +kernel) (by decide +kernel), gm_mem 633 (by decide +kernel) (by decide +kernel), gm_mem 7 (by decide +kernel) (by decide +kernel), gm_mem 634 (by decide +kernel) (by decide +kernel), by decide +kernel⟩
theorem gmM_L_18 : gmMV "GarmentMarkerLaw" 18 gmY5_removePiece prog_1_method_3_code 2 (some .int) 1 5 := ⟨by decide, rfl, gm_mem 244 (by decide +kernel) (by decide +kernel), gm_mem 245 (by decide +kernel) (by decide +kernel), gm_mem 246 (by decide +kernel) (by decide +kernel), gm_mem 1 (by decide +kernel) (by decide +kernel), gm_mem 247 (by decide +kernel) (by decide +kernel), by decide +kernel⟩
theorem gmM_L_22 : gmMV "GarmentMarkerLaw" 22 gmY6_removePiece prog_8_method_9_code 3 (some .int) 1 6 := ⟨by decide, rfl, gm_mem 638 (by decide +kernel) (by decide +kernel), gm_mem 639 (by decide +kernel) (by decide +kernel), gm_mem 640 (by decide +kernel) (by decide +kernel), gm_mem 7 (by decide +kernel) (by decide +kernel), gm_mem 641 (by decide +kernel) (by decide +kernel), by decide +kernel⟩
theorem gmM_L_23 : gmMV "GarmentMarkerLaw" 23 gmY5_pieceWidth prog_1_method_4_code 3 (some .int) 2 5 := ⟨by decide, rfl, gm_mem 265 (by decide +kernel) (by decide +kernel), gm_mem 266 (by decide +kernel) (by decide +kernel), gm_mem 267 (by decide +kernel) (by decide +kernel), gm_mem 1 (by decide +kernel) (by decide +kernel), gm_mem 268 (by decide +kernel) (by decide +kernel), by decide +kernel⟩
theorem gmM_L_27 : gmMV "GarmentMarkerLaw" 27 gmY6_pieceWidth prog_8_method_10_code 3 (some .int) 2 6 := ⟨by decide, rfl, gm_mem 650 (by decide +kernel) (by decide +kernel), gm_mem 651 (by decide +kernel) (by decide +kernel), gm_mem 652 (by decide +kernel) (by decide +kernel), gm_mem 7 (by decide +kernel) (by decide +kernel), gm_mem 653 (by decide +kernel) (by decide +kernel), by decide +kernel⟩
theorem gmM_L_28 : gmMV "GarmentMarkerLaw" 28 gmY5_pieceLength prog_1_method_5_code 3 (some .int) 2 5 := ⟨by decide, rfl, gm_mem 280 (by decide +kernel) (by decide +kernel), gm_mem 281 (by decide +kernel) (by decide +kernel), gm_mem 282 (by decide +kernel) (by decide +kernel), gm_mem 1 (by decide +kernel) (by decide +kernel), gm_mem 283 (by decide +kernel) (by decide +kernel), by decide +kernel⟩
theorem gmM_L_31 : gmMV "GarmentMarkerLaw" 31 gmY6_pieceLength prog_8_method_11_code 3 (some .int) 2 6 := ⟨by decide, rfl, gm_mem 661 (by decide +kernel) (by decide +kernel), gm_mem 662 (by decide +kernel) (by decide +kernel), gm_mem 663 (by decide +kernel) (by decide +kernel), gm_mem 7 (by decide +kernel) (by decide +kernel), gm_mem 664 (by decide +kernel) (by decide +kernel), by decide +kernel⟩
theorem gmM_L_32 : gmMV "GarmentMarkerLaw" 32 gmY5_addSeam prog_1_method_6_code 8 (some .int) 5 5 := ⟨by decide, rfl, gm_mem 284 (by decide +kernel) (by decide +kernel), gm_mem 285 (by decide +kernel) (by decide +kernel), gm_mem 286 (by decide +kernel) (by decide +kernel), gm_mem 1 (by decide +kernel) (by decide +kernel), gm_mem 287 (by decide +kernel) (by decide +kernel), by decide +kernel⟩
theorem gmM_L_36 : gmMV "GarmentMarkerLaw" 36 gmY6_addSeam prog_8_method_12_code 7 (some .int) 5 6 := ⟨by decide, rfl, gm_mem 669 (by decide +kernel) (by decide +kernel), gm_mem 670 (by decide +kernel) (by decide +kernel), gm_mem 671 (by decide +kernel) (by decide +kernel), gm_mem 7 (by decide +kernel) (by decide +kernel), gm_mem 672 (by decide +kernel) (by decide +kernel), by decide +kernel⟩
theorem gmM_L_37 : gmMV "GarmentMarkerLaw" 37 gmY5_seamCount prog_1_method_7_code 1 (some .int) 0 5 := ⟨by decide, rfl, gm_mem 288 (by decide +kernel) (by decide +kernel), gm_mem 289 (by decide +kernel) (by decide +kernel), gm_mem 290 (by decide +kernel) (by decide +kernel), gm_mem 1 (by decide +kernel) (by decide +kernel), gm_mem 291 (by decide +kernel) (by decide +kernel), by decide +kernel⟩
theorem gmM_L_41 : gmMV "GarmentMarkerLaw" 41 gmY6_seamCount prog_8_method_13_code 1 (some .int) 0 6 := ⟨by decide, rfl, gm_mem 673 (by decide +kernel) (by decide +kernel), gm_mem 674 (by decide +kernel) (by decide +kernel), gm_mem 675 (by decide +kernel) (by decide +kernel), gm_mem 7 (by decide +kernel) (by decide +kernel), gm_mem 676 (by decide +kernel) (by decide +kernel), by decide +kernel⟩
theorem gmM_L_42 : gmMV "GarmentMarkerLaw" 42 gmY5_seamDifference prog_1_method_8_code 3 (some .int) 2 5 := ⟨by decide, rfl, gm_mem 292 (by decide +kernel) (by decide +kernel), gm_mem 293 (by decide +kernel) (by decide +kernel), gm_mem 294 (by decide +kernel) (by decide +kernel), gm_mem 1 (by decide +kernel) (by decide +kernel), gm_mem 295 (by decide +kernel) (by decide +kernel), by decide +kernel⟩
theorem gmM_L_45 : gmMV "GarmentMarkerLaw" 45 gmY6_seamDifference prog_8_method_16_code 3 (some .int) 2 6 := ⟨by decide, rfl, gm_mem 677 (by decide +kernel) (by decide +kernel), gm_mem 678 (by decide +kernel) (by decide +kernel), gm_mem 679 (by decide +kernel) (by decide +kernel), gm_mem 7 (by decide +kernel) (by decide +kernel), gm_mem 680 (by decide +kernel) (by decide +kernel), by decide +kernel⟩
theorem gmM_L_46 : gmMV "GarmentMarkerLaw" 46 gmY5_matchingSeams prog_1_method_9_code 3 (some .int) 0 5 := ⟨by decide, rfl, gm_mem 301 (by decide +kernel) (by decide +kernel), gm_mem 302 (by decide +kernel) (by decide +kernel), gm_mem 303 (by decide +kernel) (by decide +kernel), gm_mem 1 (by decide +kernel) (by decide +kernel), gm_mem 304 (by decide +kernel) (by decide +kernel), by decide +kernel⟩
theorem gmM_L_49 : gmMV "GarmentMarkerLaw" 49 gmY6_matchingSeams prog_8_method_18_code 3 (some .int) 0 6 := ⟨by decide, rfl, gm_mem 689 (by decide +kernel) (by decide +kernel), gm_mem 690 (by decide +kernel) (by decide +kernel), gm_mem 691 (by decide +kernel) (by decide +kernel), gm_mem 7 (by decide +kernel) (by decide +kernel), gm_mem 692 (by decide +kernel) (by decide +kernel), by decide +kernel⟩
theorem gmM_L_50 : gmMV "GarmentMarkerLaw" 50 gmY5_firstMismatch prog_1_method_10_code 2 (some .int) 0 5 := ⟨by decide, rfl, gm_mem 310 (by decide +kernel) (by decide +kernel), gm_mem 311 (by decide +kernel) (by decide +kernel), gm_mem 312 (by decide +kernel) (by decide +kernel), gm_mem 1 (by decide +kernel) (by decide +kernel), gm_mem 313 (by decide +kernel) (by decide +kernel), by decide +kernel⟩
theorem gmM_L_53 : gmMV "GarmentMarkerLaw" 53 gmY6_firstMismatch prog_8_method_19_code 2 (some .int) 0 6 := ⟨by decide, rfl, gm_mem 697 (by decide +kernel) (by decide +kernel), gm_mem 698 (by decide +kernel) (by decide +kernel), gm_mem 699 (by decide +kernel) (by decide +kernel), gm_mem 7 (by decide +kernel) (by decide +kernel), gm_mem 700 (by decide +kernel) (by decide +kernel), by decide +kernel⟩
theorem gmM_L_54 : gmMV "GarmentMarkerLaw" 54 gmY5_setRatio prog_1_method_11_code 4 (some .int) 2 5 := ⟨by decide, rfl, gm_mem 314 (by decide +kernel) (by decide +kernel), gm_mem 315 (by decide +kernel) (by decide +kernel), gm_mem 316 (by decide +kernel) (by decide +kernel), gm_mem 1 (by decide +kernel) (by decide +kernel), gm_mem 317 (by decide +kernel) (by decide +kernel), by decide +kernel⟩
theorem gmM_L_57 : gmMV "GarmentMarkerLaw" 57 gmY6_setRatio prog_8_method_21_code 3 (some .int) 2 6 := ⟨by decide, rfl, gm_mem 701 (by decide +kernel) (by decide +kernel), gm_mem 702 (by decide +kernel) (by decide +kernel), gm_mem 703 (by decide +kernel) (by decide +kernel), gm_mem 7 (by decide +kernel) (by decide +kernel), gm_mem 704 (by decide +kernel) (by decide +kernel), by decide +kernel⟩
theorem gmM_L_58 : gmMV "GarmentMarkerLaw" 58 gmY5_ratio prog_1_method_12_code 2 (some .int) 1 5 := ⟨by decide, rfl, gm_mem 318 (by decide +kernel) (by decide +kernel), gm_mem 319 (by decide +kernel) (by decide +kernel), gm_mem 320 (by decide +kernel) (by decide +kernel), gm_mem 1 (by decide +kernel) (by decide +kernel), gm_mem 321 (by decide +kernel) (by decide +kernel), by decide +kernel⟩
theorem gmM_L_61 : gmMV "GarmentMarkerLaw" 61 gmY6_ratio prog_8_method_22_code 2 (some .int) 1 6 := ⟨by decide, rfl, gm_mem 709 (by decide +kernel) (by decide +kernel), gm_mem 710 (by decide +kernel) (by decide +kernel), gm_mem 711 (by decide +kernel) (by decide +kernel), gm_mem 7 (by decide +kernel) (by decide +kernel), gm_mem 712 (by decide +kernel) (by decide +kernel), by decide +kernel⟩
theorem gmM_L_62 : gmMV "GarmentMarkerLaw" 62 gmY5_setClothWidth prog_1_method_13_code 3 (some .int) 1 5 := ⟨by decide, rfl, gm_mem 322 (by decide +kernel) (by decide +kernel), gm_mem 323 (by decide +kernel) (by decide +kernel), gm_mem 324 (by decide +kernel) (by decide +kernel), gm_mem 1 (by decide +kernel) (by decide +kernel), gm_mem 325 (by decide +kernel) (by decide +kernel), by decide +kernel⟩
theorem gmM_L_65 : gmMV "GarmentMarkerLaw" 65 gmY6_setClothWidth prog_8_method_23_code 2 (some .int) 1 6 := ⟨by decide, rfl, gm_mem 713 (by decide +kernel) (by decide +kernel), gm_mem 714 (by decide +kernel) (by decide +kernel), gm_mem 715 (by decide +kernel) (by decide +kernel), gm_mem 7 (by decide +kernel) (by decide +kernel), gm_mem 716 (by decide +kernel) (by decide +kernel), by decide +kernel⟩
theorem gmM_L_66 : gmMV "GarmentMarkerLaw" 66 gmY5_setFolded prog_1_method_14_code 3 (some .boolean) 1 5 := ⟨by decide, rfl, gm_mem 326 (by decide +kernel) (by decide +kernel), gm_mem 327 (by decide +kernel) (by decide +kernel), gm_mem 328 (by decide +kernel) (by decide +kernel), gm_mem 1 (by decide +kernel) (by decide +kernel), gm_mem 329 (by decide +kernel) (by decide +kernel), by decide +kernel⟩
theorem gmM_L_70 : gmMV "GarmentMarkerLaw" 70 gmY6_setFolded prog_8_method_24_code 2 (some .boolean) 1 6 := ⟨by decide, rfl, gm_mem 717 (by decide +kernel) (by decide +kernel), gm_mem 718 (by decide +kernel) (by decide +kernel), gm_mem 719 (by decide +kernel) (by decide +kernel), gm_mem 7 (by decide +kernel) (by decide +kernel), gm_mem 720 (by decide +kernel) (by decide +kernel), by decide +kernel⟩
theorem gmM_L_71 : gmMV "GarmentMarkerLaw" 71 gmY5_setRotation prog_1_method_15_code 3 (some .boolean) 1 5 := ⟨by decide, rfl, gm_mem 330 (by decide +kernel) (by decide +kernel), gm_mem 331 (by decide +kernel) (by decide +kernel), gm_mem 332 (by decide +kernel) (by decide +kernel), gm_mem 1 (by decide +kernel) (by decide +kernel), gm_mem 333 (by decide +kernel) (by decide +kernel), by decide +kernel⟩
theorem gmM_L_74 : gmMV "GarmentMarkerLaw" 74 gmY6_setRotation prog_8_method_25_code 2 (some .boolean) 1 6 := ⟨by decide, rfl, gm_mem 721 (by decide +kernel) (by decide +kernel), gm_mem 722 (by decide +kernel) (by decide +kernel), gm_mem 723 (by decide +kernel) (by decide +kernel), gm_mem 7 (by decide +kernel) (by decide +kernel), gm_mem 724 (by decide +kernel) (by decide +kernel), by decide +kernel⟩
theorem gmM_L_75 : gmMV "GarmentMarkerLaw" 75 gmY5_setPacking prog_1_method_16_code 4 (some .int) 2 5 := ⟨by decide, rfl, gm_mem 334 (by decide +kernel) (by decide +kernel), gm_mem 335 (by decide +kernel) (by decide +kernel), gm_mem 336 (by decide +kernel) (by decide +kernel), gm_mem 1 (by decide +kernel) (by decide +kernel), gm_mem 337 (by decide +kernel) (by decide +kernel), by decide +kernel⟩
theorem gmM_L_78 : gmMV "GarmentMarkerLaw" 78 gmY6_setPacking prog_8_method_27_code 4 (some .int) 2 6 := ⟨by decide, rfl, gm_mem 725 (by decide +kernel) (by decide +kernel), gm_mem 726 (by decide +kernel) (by decide +kernel), gm_mem 727 (by decide +kernel) (by decide +kernel), gm_mem 7 (by decide +kernel) (by decide +kernel), gm_mem 728 (by decide +kernel) (by decide +kernel), by decide +kernel⟩
theorem gmM_L_79 : gmMV "GarmentMarkerLaw" 79 gmY5_partCount prog_1_method_17_code 1 (some .int) 0 5 := ⟨by decide, rfl, gm_mem 344 (by decide +kernel) (by decide +kernel), gm_mem 345 (by decide +kernel) (by decide +kernel), gm_mem 346 (by decide +kernel) (by decide +kernel), gm_mem 1 (by decide +kernel) (by decide +kernel), gm_mem 347 (by decide +kernel) (by decide +kernel), by decide +kernel⟩
theorem gmM_L_82 : gmMV "GarmentMarkerLaw" 82 gmY6_partCount prog_8_method_32_code 1 (some .int) 0 6 := ⟨by decide, rfl, gm_mem 732 (by decide +kernel) (by decide +kernel), gm_mem 733 (by decide +kernel) (by decide +kernel), gm_mem 734 (by decide +kernel) (by decide +kernel), gm_mem 7 (by decide +kernel) (by decide +kernel), gm_mem 735 (by decide +kernel) (by decide +kernel), by decide +kernel⟩
theorem gmM_L_83 : gmMV "GarmentMarkerLaw" 83 gmY5_foldPartCount prog_1_method_18_code 1 (some .int) 0 5 := ⟨by decide, rfl, gm_mem 365 (by decide +kernel) (by decide +kernel), gm_mem 366 (by decide +kernel) (by decide +kernel), gm_mem 367 (by decide +kernel) (by decide +kernel), gm_mem 1 (by decide +kernel) (by decide +kernel), gm_mem 368 (by decide +kernel) (by decide +kernel), by decide +kernel⟩
theorem gmM_L_86 : gmMV "GarmentMarkerLaw" 86 gmY6_foldPartCount prog_8_method_33_code 3 (some .int) 0 6 := ⟨by decide, rfl, gm_mem 748 (by decide +kernel) (by decide +kernel), gm_mem 749 (by decide +kernel) (by decide +kernel), gm_mem 750 (by decide +kernel) (by decide +kernel), gm_mem 7 (by decide +kernel) (by decide +kernel), gm_mem 751 (by decide +kernel) (by decide +kernel), by decide +kernel⟩
theorem gmM_L_87 : gmMV "GarmentMarkerLaw" 87 gmY5_partSize prog_1_method_19_code 2 (some .int) 1 5 := ⟨by decide, rfl, gm_mem 373 (by decide +kernel) (by decide +kernel), gm_mem 374 (by decide +kernel) (by decide +kernel), gm_mem 375 (by decide +kernel) (by decide +kernel), gm_mem 1 (by decide +kernel) (by decide +kernel), gm_mem 376 (by decide +kernel) (by decide +kernel), by decide +kernel⟩
theorem gmM_L_90 : gmMV "GarmentMarkerLaw" 90 gmY6_partSize prog_8_method_34_code 2 (some .int) 1 6 := ⟨by decide, rfl, gm_mem 752 (by decide +kernel) (by decide +kernel), gm_mem 753 (by decide +kernel) (by decide +kernel), gm_mem 754 (by decide +kernel) (by decide +kernel), gm_mem 7 (by decide +kernel) (by decide +kernel), gm_mem 755 (by decide +kernel) (by decide +kernel), by decide +kernel⟩
theorem gmM_L_91 : gmMV "GarmentMarkerLaw" 91 gmY5_partPiece prog_1_method_20_code 2 (some .int) 1 5 := ⟨by decide, rfl, gm_mem 382 (by decide +kernel) (by decide +kernel), gm_mem 383 (by decide +kernel) (by decide +kernel), gm_mem 384 (by decide +kernel) (by decide +kernel), gm_mem 1 (by decide +kernel) (by decide +kernel), gm_mem 385 (by decide +kernel) (by decide +kernel), by decide +kernel⟩
theorem gmM_L_94 : gmMV "GarmentMarkerLaw" 94 gmY6_partPiece prog_8_method_35_code 2 (some .int) 1 6 := ⟨by decide, rfl, gm_mem 760 (by decide +kernel) (by decide +kernel), gm_mem 761 (by decide +kernel) (by decide +kernel), gm_mem 762 (by decide +kernel) (by decide +kernel), gm_mem 7 (by decide +kernel) (by decide +kernel), gm_mem 763 (by decide +kernel) (by decide +kernel), by decide +kernel⟩
theorem gmM_L_95 : gmMV "GarmentMarkerLaw" 95 gmY5_partAlong prog_1_method_21_code 3 (some .int) 1 5 := ⟨by decide, rfl, gm_mem 386 (by decide +kernel) (by decide +kernel), gm_mem 387 (by decide +kernel) (by decide +kernel), gm_mem 388 (by decide +kernel) (by decide +kernel), gm_mem 1 (by decide +kernel) (by decide +kernel), gm_mem 389 (by decide +kernel) (by decide +kernel), by decide +kernel⟩
theorem gmM_L_98 : gmMV "GarmentMarkerLaw" 98 gmY6_partAlong prog_8_method_48_code 2 (some .int) 1 6 := ⟨by decide, rfl, gm_mem 764 (by decide +kernel) (by decide +kernel), gm_mem 765 (by decide +kernel) (by decide +kernel), gm_mem 766 (by decide +kernel) (by decide +kernel), gm_mem 7 (by decide +kernel) (by decide +kernel), gm_mem 767 (by decide +kernel) (by decide +kernel), by decide +kernel⟩
theorem gmM_L_99 : gmMV "GarmentMarkerLaw" 99 gmY5_partAcross prog_1_method_22_code 3 (some .int) 1 5 := ⟨by decide, rfl, gm_mem 441 (by decide +kernel) (by decide +kernel), gm_mem 442 (by decide +kernel) (by decide +kernel), gm_mem 443 (by decide +kernel) (by decide +kernel), gm_mem 1 (by decide +kernel) (by decide +kernel), gm_mem 444 (by decide +kernel) (by decide +kernel), by decide +kernel⟩
theorem gmM_L_102 : gmMV "GarmentMarkerLaw" 102 gmY6_partAcross prog_8_method_49_code 2 (some .int) 1 6 := ⟨by decide, rfl, gm_mem 804 (by decide +kernel) (by decide +kernel), gm_mem 805 (by decide +kernel) (by decide +kernel), gm_mem 806 (by decide +kernel) (by decide +kernel), gm_mem 7 (by decide +kernel) (by decide +kernel), gm_mem 807 (by decide +kernel) (by decide +kernel), by decide +kernel⟩
theorem gmM_L_103 : gmMV "GarmentMarkerLaw" 103 gmY5_partAlongExtent prog_1_method_23_code 2 (some .int) 1 5 := ⟨by decide, rfl, gm_mem 445 (by decide +kernel) (by decide +kernel), gm_mem 446 (by decide +kernel) (by decide +kernel), gm_mem 447 (by decide +kernel) (by decide +kernel), gm_mem 1 (by decide +kernel) (by decide +kernel), gm_mem 448 (by decide +kernel) (by decide +kernel), by decide +kernel⟩
theorem gmM_L_106 : gmMV "GarmentMarkerLaw" 106 gmY6_partAlongExtent prog_8_method_50_code 2 (some .int) 1 6 := ⟨by decide, rfl, gm_mem 808 (by decide +kernel) (by decide +kernel), gm_mem 809 (by decide +kernel) (by decide +kernel), gm_mem 810 (by decide +kernel) (by decide +kernel), gm_mem 7 (by decide +kernel) (by decide +kernel), gm_mem 811 (by decide +kernel) (by decide +kernel), by decide +kernel⟩
theorem gmM_L_107 : gmMV "GarmentMarkerLaw" 107 gmY5_partAcrossExtent prog_1_method_24_code 2 (some .int) 1 5 := ⟨by decide, rfl, gm_mem 449 (by decide +kernel) (by decide +kernel), gm_mem 450 (by decide +kernel) (by decide +kernel), gm_mem 451 (by decide +kernel) (by decide +kernel), gm_mem 1 (by decide +kernel) (by decide +kernel), gm_mem 452 (by decide +kernel) (by decide +kernel), by decide +kernel⟩
theorem gmM_L_110 : gmMV "GarmentMarkerLaw" 110 gmY6_partAcrossExtent prog_8_method_51_code 2 (some .int) 1 6 := ⟨by decide, rfl, gm_mem 812 (by decide +kernel) (by decide +kernel), gm_mem 813 (by decide +kernel) (by decide +kernel), gm_mem 814 (by decide +kernel) (by decide +kernel), gm_mem 7 (by decide +kernel) (by decide +kernel), gm_mem 815 (by decide +kernel) (by decide +kernel), by decide +kernel⟩
theorem gmM_L_111 : gmMV "GarmentMarkerLaw" 111 gmY5_markerLength prog_1_method_25_code 1 (some .int) 0 5 := ⟨by decide, rfl, gm_mem 453 (by decide +kernel) (by decide +kernel), gm_mem 454 (by decide +kernel) (by decide +kernel), gm_mem 455 (by decide +kernel) (by decide +kernel), gm_mem 1 (by decide +kernel) (by decide +kernel), gm_mem 456 (by decide +kernel) (by decide +kernel), by decide +kernel⟩
theorem gmM_L_114 : gmMV "GarmentMarkerLaw" 114 gmY6_markerLength prog_8_method_52_code 1 (some .int) 0 6 := ⟨by decide, rfl, gm_mem 816 (by decide +kernel) (by decide +kernel), gm_mem 817 (by decide +kernel) (by decide +kernel), gm_mem 818 (by decide +kernel) (by decide +kernel), gm_mem 7 (by decide +kernel) (by decide +kernel), gm_mem 819 (by decide +kernel) (by decide +kernel), by decide +kernel⟩
theorem gmM_L_115 : gmMV "GarmentMarkerLaw" 115 gmY5_wastedArea prog_1_method_26_code 2 (some .int) 0 5 := ⟨by decide, rfl, gm_mem 461 (by decide +kernel) (by decide +kernel), gm_mem 462 (by decide +kernel) (by decide +kernel), gm_mem 463 (by decide +kernel) (by decide +kernel), gm_mem 1 (by decide +kernel) (by decide +kernel), gm_mem 464 (by decide +kernel) (by decide +kernel), by decide +kernel⟩
theorem gmM_L_118 : gmMV "GarmentMarkerLaw" 118 gmY6_wastedArea prog_8_method_53_code 4 (some .int) 0 6 := ⟨by decide, rfl, gm_mem 832 (by decide +kernel) (by decide +kernel), gm_mem 833 (by decide +kernel) (by decide +kernel), gm_mem 834 (by decide +kernel) (by decide +kernel), gm_mem 7 (by decide +kernel) (by decide +kernel), gm_mem 835 (by decide +kernel) (by decide +kernel), by decide +kernel⟩
theorem gmM_L_119 : gmMV "GarmentMarkerLaw" 119 gmY5_markerLengthWith prog_1_method_27_code 3 (some .int) 2 5 := ⟨by decide, rfl, gm_mem 469 (by decide +kernel) (by decide +kernel), gm_mem 470 (by decide +kernel) (by decide +kernel), gm_mem 471 (by decide +kernel) (by decide +kernel), gm_mem 1 (by decide +kernel) (by decide +kernel), gm_mem 472 (by decide +kernel) (by decide +kernel), by decide +kernel⟩
theorem gmM_L_122 : gmMV "GarmentMarkerLaw" 122 gmY6_markerLengthWith prog_8_method_54_code 3 (some .int) 2 6 := ⟨by decide, rfl, gm_mem 836 (by decide +kernel) (by decide +kernel), gm_mem 837 (by decide +kernel) (by decide +kernel), gm_mem 838 (by decide +kernel) (by decide +kernel), gm_mem 7 (by decide +kernel) (by decide +kernel), gm_mem 839 (by decide +kernel) (by decide +kernel), by decide +kernel⟩
theorem gmM_L_123 : gmMV "GarmentMarkerLaw" 123 gmY5_bestLength prog_1_method_28_code 2 (some .int) 0 5 := ⟨by decide, rfl, gm_mem 473 (by decide +kernel) (by decide +kernel), gm_mem 474 (by decide +kernel) (by decide +kernel), gm_mem 475 (by decide +kernel) (by decide +kernel), gm_mem 1 (by decide +kernel) (by decide +kernel), gm_mem 476 (by decide +kernel) (by decide +kernel), by decide +kernel⟩
theorem gmM_L_126 : gmMV "GarmentMarkerLaw" 126 gmY6_bestLength prog_8_method_56_code 1 (some .int) 0 6 := ⟨by decide, rfl, gm_mem 840 (by decide +kernel) (by decide +kernel), gm_mem 841 (by decide +kernel) (by decide +kernel), gm_mem 842 (by decide +kernel) (by decide +kernel), gm_mem 7 (by decide +kernel) (by decide +kernel), gm_mem 843 (by decide +kernel) (by decide +kernel), by decide +kernel⟩
theorem gmM_L_127 : gmMV "GarmentMarkerLaw" 127 gmY5_bestPacking prog_1_method_29_code 1 (some .int) 0 5 := ⟨by decide, rfl, gm_mem 482 (by decide +kernel) (by decide +kernel), gm_mem 483 (by decide +kernel) (by decide +kernel), gm_mem 484 (by decide +kernel) (by decide +kernel), gm_mem 1 (by decide +kernel) (by decide +kernel), gm_mem 485 (by decide +kernel) (by decide +kernel), by decide +kernel⟩
theorem gmM_L_130 : gmMV "GarmentMarkerLaw" 130 gmY6_bestPacking prog_8_method_57_code 1 (some .int) 0 6 := ⟨by decide, rfl, gm_mem 848 (by decide +kernel) (by decide +kernel), gm_mem 849 (by decide +kernel) (by decide +kernel), gm_mem 850 (by decide +kernel) (by decide +kernel), gm_mem 7 (by decide +kernel) (by decide +kernel), gm_mem 851 (by decide +kernel) (by decide +kernel), by decide +kernel⟩
theorem gmM_L_131 : gmMV "GarmentMarkerLaw" 131 gmY5_setOrdered prog_1_method_30_code 4 (some .int) 2 5 := ⟨by decide, rfl, gm_mem 486 (by decide +kernel) (by decide +kernel), gm_mem 487 (by decide +kernel) (by decide +kernel), gm_mem 488 (by decide +kernel) (by decide +kernel), gm_mem 1 (by decide +kernel) (by decide +kernel), gm_mem 489 (by decide +kernel) (by decide +kernel), by decide +kernel⟩
theorem gmM_L_134 : gmMV "GarmentMarkerLaw" 134 gmY6_setOrdered prog_8_method_58_code 3 (some .int) 2 6 := ⟨by decide, rfl, gm_mem 852 (by decide +kernel) (by decide +kernel), gm_mem 853 (by decide +kernel) (by decide +kernel), gm_mem 854 (by decide +kernel) (by decide +kernel), gm_mem 7 (by decide +kernel) (by decide +kernel), gm_mem 855 (by decide +kernel) (by decide +kernel), by decide +kernel⟩
theorem gmM_L_135 : gmMV "GarmentMarkerLaw" 135 gmY5_plies prog_1_method_31_code 1 (some .int) 0 5 := ⟨by decide, rfl, gm_mem 490 (by decide +kernel) (by decide +kernel), gm_mem 491 (by decide +kernel) (by decide +kernel), gm_mem 492 (by decide +kernel) (by decide +kernel), gm_mem 1 (by decide +kernel) (by decide +kernel), gm_mem 493 (by decide +kernel) (by decide +kernel), by decide +kernel⟩
theorem gmM_L_138 : gmMV "GarmentMarkerLaw" 138 gmY6_plies prog_8_method_60_code 1 (some .int) 0 6 := ⟨by decide, rfl, gm_mem 856 (by decide +kernel) (by decide +kernel), gm_mem 857 (by decide +kernel) (by decide +kernel), gm_mem 858 (by decide +kernel) (by decide +kernel), gm_mem 7 (by decide +kernel) (by decide +kernel), gm_mem 859 (by decide +kernel) (by decide +kernel), by decide +kernel⟩
theorem gmM_L_139 : gmMV "GarmentMarkerLaw" 139 gmY5_clothLength prog_1_method_32_code 3 (some .int) 0 5 := ⟨by decide, rfl, gm_mem 499 (by decide +kernel) (by decide +kernel), gm_mem 500 (by decide +kernel) (by decide +kernel), gm_mem 501 (by decide +kernel) (by decide +kernel), gm_mem 1 (by decide +kernel) (by decide +kernel), gm_mem 502 (by decide +kernel) (by decide +kernel), by decide +kernel⟩
theorem gmM_L_142 : gmMV "GarmentMarkerLaw" 142 gmY6_clothLength prog_8_method_62_code 1 (some .int) 0 6 := ⟨by decide, rfl, gm_mem 864 (by decide +kernel) (by decide +kernel), gm_mem 865 (by decide +kernel) (by decide +kernel), gm_mem 866 (by decide +kernel) (by decide +kernel), gm_mem 7 (by decide +kernel) (by decide +kernel), gm_mem 867 (by decide +kernel) (by decide +kernel), by decide +kernel⟩
theorem gmM_L_143 : gmMV "GarmentMarkerLaw" 143 gmY5_surplus prog_1_method_33_code 2 (some .int) 0 5 := ⟨by decide, rfl, gm_mem 503 (by decide +kernel) (by decide +kernel), gm_mem 504 (by decide +kernel) (by decide +kernel), gm_mem 505 (by decide +kernel) (by decide +kernel), gm_mem 1 (by decide +kernel) (by decide +kernel), gm_mem 506 (by decide +kernel) (by decide +kernel), by decide +kernel⟩
theorem gmM_L_146 : gmMV "GarmentMarkerLaw" 146 gmY6_surplus prog_8_method_64_code 1 (some .int) 0 6 := ⟨by decide, rfl, gm_mem 872 (by decide +kernel) (by decide +kernel), gm_mem 873 (by decide +kernel) (by decide +kernel), gm_mem 874 (by decide +kernel) (by decide +kernel), gm_mem 7 (by decide +kernel) (by decide +kernel), gm_mem 875 (by decide +kernel) (by decide +kernel), by decide +kernel⟩
theorem gmM_L_147 : gmMV "GarmentMarkerLaw" 147 gmY5_goodMixes prog_1_method_34_code 3 (some .int) 0 5 := ⟨by decide, rfl, gm_mem 511 (by decide +kernel) (by decide +kernel), gm_mem 512 (by decide +kernel) (by decide +kernel), gm_mem 513 (by decide +kernel) (by decide +kernel), gm_mem 1 (by decide +kernel) (by decide +kernel), gm_mem 514 (by decide +kernel) (by decide +kernel), by decide +kernel⟩
theorem gmM_L_150 : gmMV "GarmentMarkerLaw" 150 gmY6_goodMixes prog_8_method_68_code 1 (some .int) 0 6 := ⟨by decide, rfl, gm_mem 880 (by decide +kernel) (by decide +kernel), gm_mem 881 (by decide +kernel) (by decide +kernel), gm_mem 882 (by decide +kernel) (by decide +kernel), gm_mem 7 (by decide +kernel) (by decide +kernel), gm_mem 883 (by decide +kernel) (by decide +kernel), by decide +kernel⟩
theorem gmM_L_151 : gmMV "GarmentMarkerLaw" 151 gmY5_bestMix prog_1_method_35_code 2 (some .int) 0 5 := ⟨by decide, rfl, gm_mem 519 (by decide +kernel) (by decide +kernel), gm_mem 520 (by decide +kernel) (by decide +kernel), gm_mem 521 (by decide +kernel) (by decide +kernel), gm_mem 1 (by decide +kernel) (by decide +kernel), gm_mem 522 (by decide +kernel) (by decide +kernel), by decide +kernel⟩
theorem gmM_L_154 : gmMV "GarmentMarkerLaw" 154 gmY6_bestMix prog_8_method_69_code 1 (some .int) 0 6 := ⟨by decide, rfl, gm_mem 896 (by decide +kernel) (by decide +kernel), gm_mem 897 (by decide +kernel) (by decide +kernel), gm_mem 898 (by decide +kernel) (by decide +kernel), gm_mem 7 (by decide +kernel) (by decide +kernel), gm_mem 899 (by decide +kernel) (by decide +kernel), by decide +kernel⟩
theorem gmM_L_155 : gmMV "GarmentMarkerLaw" 155 gmY5_bestMixCloth prog_1_method_36_code 2 (some .int) 0 5 := ⟨by decide, rfl, gm_mem 527 (by decide +kernel) (by decide +kernel), gm_mem 528 (by decide +kernel) (by decide +kernel), gm_mem 529 (by decide +kernel) (by decide +kernel), gm_mem 1 (by decide +kernel) (by decide +kernel), gm_mem 530 (by decide +kernel) (by decide +kernel), by decide +kernel⟩
theorem gmM_L_158 : gmMV "GarmentMarkerLaw" 158 gmY6_bestMixCloth prog_8_method_70_code 1 (some .int) 0 6 := ⟨by decide, rfl, gm_mem 900 (by decide +kernel) (by decide +kernel), gm_mem 901 (by decide +kernel) (by decide +kernel), gm_mem 902 (by decide +kernel) (by decide +kernel), gm_mem 7 (by decide +kernel) (by decide +kernel), gm_mem 903 (by decide +kernel) (by decide +kernel), by decide +kernel⟩
theorem gmM_L_159 : gmMV "GarmentMarkerLaw" 159 gmY5_applyBestMix prog_1_method_37_code 2 (some .int) 0 5 := ⟨by decide, rfl, gm_mem 531 (by decide +kernel) (by decide +kernel), gm_mem 532 (by decide +kernel) (by decide +kernel), gm_mem 533 (by decide +kernel) (by decide +kernel), gm_mem 1 (by decide +kernel) (by decide +kernel), gm_mem 534 (by decide +kernel) (by decide +kernel), by decide +kernel⟩
theorem gmM_L_162 : gmMV "GarmentMarkerLaw" 162 gmY6_applyBestMix prog_8_method_71_code 1 (some .int) 0 6 := ⟨by decide, rfl, gm_mem 904 (by decide +kernel) (by decide +kernel), gm_mem 905 (by decide +kernel) (by decide +kernel), gm_mem 906 (by decide +kernel) (by decide +kernel), gm_mem 7 (by decide +kernel) (by decide +kernel), gm_mem 907 (by decide +kernel) (by decide +kernel), by decide +kernel⟩
theorem gmM_L_163 : gmMV "GarmentMarkerLaw" 163 gmY5_save prog_1_method_38_code 2 (some .int) 1 5 := ⟨by decide, rfl, gm_mem 538 (by decide +kernel) (by decide +kernel), gm_mem 539 (by decide +kernel) (by decide +kernel), gm_mem 540 (by decide +kernel) (by decide +kernel), gm_mem 1 (by decide +kernel) (by decide +kernel), gm_mem 541 (by decide +kernel) (by decide +kernel), by decide +kernel⟩
theorem gmM_L_166 : gmMV "GarmentMarkerLaw" 166 gmY6_save prog_8_method_72_code 3 (some .int) 1 6 := ⟨by decide, rfl, gm_mem 908 (by decide +kernel) (by decide +kernel), gm_mem 909 (by decide +kernel) (by decide +kernel), gm_mem 910 (by decide +kernel) (by decide +kernel), gm_mem 7 (by decide +kernel) (by decide +kernel), gm_mem 911 (by decide +kernel) (by decide +kernel), by decide +kernel⟩
theorem gmM_L_167 : gmMV "GarmentMarkerLaw" 167 gmY5_restore prog_1_method_39_code 2 (some .int) 1 5 := ⟨by decide, rfl, gm_mem 551 (by decide +kernel) (by decide +kernel), gm_mem 552 (by decide +kernel) (by decide +kernel), gm_mem 553 (by decide +kernel) (by decide +kernel), gm_mem 1 (by decide +kernel) (by decide +kernel), gm_mem 554 (by decide +kernel) (by decide +kernel), by decide +kernel⟩
theorem gmM_L_170 : gmMV "GarmentMarkerLaw" 170 gmY6_restore prog_8_method_73_code 3 (some .int) 1 6 := ⟨by decide, rfl, gm_mem 912 (by decide +kernel) (by decide +kernel), gm_mem 913 (by decide +kernel) (by decide +kernel), gm_mem 914 (by decide +kernel) (by decide +kernel), gm_mem 7 (by decide +kernel) (by decide +kernel), gm_mem 915 (by decide +kernel) (by decide +kernel), by decide +kernel⟩
theorem gmM_6_59 : gmMS "GarmentMarkerModel" 59 gmY6_in prog_8_method_2_code 3 (some .boolean) 3 := ⟨rfl, gm_mem 635 (by decide +kernel) (by decide +kernel), gm_mem 636 (by decide +kernel) (by decide +kernel), gm_mem 7 (by decide +kernel) (by decide +kernel), gm_mem 637 (by decide +kernel) (by decide +kernel), by decide +kernel⟩
theorem gmM_6_63 : gmMV "GarmentMarkerModel" 63 gmY6_isPiece prog_8_method_3_code 2 (some .boolean) 1 6 := ⟨by decide, rfl, gm_mem 642 (by decide +kernel) (by decide +kernel), gm_mem 644 (by decide +kernel) (by decide +kernel), gm_memS (q := (gmY6_isPiece, 23)) (by decide +kernel) (by decide +kernel), gm_mem 7 (by decide +kernel) (by decide +kernel), gm_mem 645 (by decide +kernel) (by decide +kernel), by decide +kernel⟩
theorem gmM_6_67 : gmMV "GarmentMarkerModel" 67 gmY6_dropSeam prog_8_method_8_code 3 none 1 6 := ⟨by decide, rfl, gm_mem 646 (by decide +kernel) (by decide +kernel), gm_mem 648 (by decide +kernel) (by decide +kernel), gm_memS (q := (gmY6_dropSeam, 23)) (by decide +kernel) (by decide +kernel), gm_mem 7 (by decide +kernel) (by decide +kernel), gm_mem 649 (by decide +kernel) (by decide +kernel), by decide +kernel⟩
theorem gmM_6_71 : gmMS "GarmentMarkerModel" 71 gmY6_isSize prog_8_method_4_code 1 (some .boolean) 1 := ⟨rfl, gm_mem 654 (by decide +kernel) (by decide +kernel), gm_mem 655 (by decide +kernel) (by decide +kernel), gm_mem 7 (by decide +kernel) (by decide +kernel), gm_mem 656 (by decide +kernel) (by decide +kernel), by decide +kernel⟩
theorem gmM_6_74 : gmMV "GarmentMarkerModel" 74 gmY6_widthOf prog_8_method_5_code 3 (some .int) 2 6 := ⟨by decide, rfl, gm_mem 657 (by decide +kernel) (by decide +kernel), gm_mem 659 (by decide +kernel) (by decide +kernel), gm_memS (q := (gmY6_widthOf, 23)) (by decide +kernel) (by decide +kernel), gm_mem 7 (by decide +kernel) (by decide +kernel), gm_mem 660 (by decide +kernel) (by decide +kernel), by decide +kernel⟩
theorem gmM_6_78 : gmMV "GarmentMarkerModel" 78 gmY6_lengthOf prog_8_method_6_code 3 (some .int) 2 6 := ⟨by decide, rfl, gm_mem 665 (by decide +kernel) (by decide +kernel), gm_mem 667 (by decide +kernel) (by decide +kernel), gm_memS (q := (gmY6_lengthOf, 23)) (by decide +kernel) (by decide +kernel), gm_mem 7 (by decide +kernel) (by decide +kernel), gm_mem 668 (by decide +kernel) (by decide +kernel), by decide +kernel⟩
theorem gmM_6_81 : gmMV "GarmentMarkerModel" 81 gmY6_sideOf prog_8_method_14_code 4 (some .int) 3 6 := ⟨by decide, rfl, gm_mem 685 (by decide +kernel) (by decide +kernel), gm_mem 687 (by decide +kernel) (by decide +kernel), gm_memS (q := (gmY6_sideOf, 23)) (by decide +kernel) (by decide +kernel), gm_mem 7 (by decide +kernel) (by decide +kernel), gm_mem 688 (by decide +kernel) (by decide +kernel), by decide +kernel⟩
theorem gmM_6_85 : gmMV "GarmentMarkerModel" 85 gmY6_differenceOf prog_8_method_15_code 4 (some .int) 2 6 := ⟨by decide, rfl, gm_mem 681 (by decide +kernel) (by decide +kernel), gm_mem 683 (by decide +kernel) (by decide +kernel), gm_memS (q := (gmY6_differenceOf, 23)) (by decide +kernel) (by decide +kernel), gm_mem 7 (by decide +kernel) (by decide +kernel), gm_mem 684 (by decide +kernel) (by decide +kernel), by decide +kernel⟩
theorem gmM_6_88 : gmMV "GarmentMarkerModel" 88 gmY6_matches prog_8_method_17_code 2 (some .boolean) 1 6 := ⟨by decide, rfl, gm_mem 693 (by decide +kernel) (by decide +kernel), gm_mem 695 (by decide +kernel) (by decide +kernel), gm_memS (q := (gmY6_matches, 23)) (by decide +kernel) (by decide +kernel), gm_mem 7 (by decide +kernel) (by decide +kernel), gm_mem 696 (by decide +kernel) (by decide +kernel), by decide +kernel⟩
theorem gmM_6_91 : gmMV "GarmentMarkerModel" 91 gmY6_set prog_8_method_20_code 4 (some .int) 2 6 := ⟨by decide, rfl, gm_mem 705 (by decide +kernel) (by decide +kernel), gm_mem 707 (by decide +kernel) (by decide +kernel), gm_memS (q := (gmY6_set, 23)) (by decide +kernel) (by decide +kernel), gm_mem 7 (by decide +kernel) (by decide +kernel), gm_mem 708 (by decide +kernel) (by decide +kernel), by decide +kernel⟩
theorem gmM_6_94 : gmMS "GarmentMarkerModel" 94 gmY6_isPacking prog_8_method_26_code 2 (some .boolean) 2 := ⟨rfl, gm_mem 729 (by decide +kernel) (by decide +kernel), gm_mem 730 (by decide +kernel) (by decide +kernel), gm_mem 7 (by decide +kernel) (by decide +kernel), gm_mem 731 (by decide +kernel) (by decide +kernel), by decide +kernel⟩
theorem gmM_6_98 : gmMV "GarmentMarkerModel" 98 gmY6_stripWidth prog_8_method_28_code 1 (some .int) 0 6 := ⟨by decide, rfl, gm_mem 744 (by decide +kernel) (by decide +kernel), gm_mem 746 (by decide +kernel) (by decide +kernel), gm_memS (q := (gmY6_stripWidth, 23)) (by decide +kernel) (by decide +kernel), gm_mem 7 (by decide +kernel) (by decide +kernel), gm_mem 747 (by decide +kernel) (by decide +kernel), by decide +kernel⟩
theorem gmM_6_106 : gmMV "GarmentMarkerModel" 106 gmY6_addPart prog_8_method_29_code 8 none 2 6 := ⟨by decide, rfl, gm_mem 740 (by decide +kernel) (by decide +kernel), gm_mem 742 (by decide +kernel) (by decide +kernel), gm_memS (q := (gmY6_addPart, 23)) (by decide +kernel) (by decide +kernel), gm_mem 7 (by decide +kernel) (by decide +kernel), gm_mem 743 (by decide +kernel) (by decide +kernel), by decide +kernel⟩
theorem gmM_6_110 : gmMV "GarmentMarkerModel" 110 gmY6_layParts prog_8_method_30_code 6 none 0 6 := ⟨by decide, rfl, gm_mem 736 (by decide +kernel) (by decide +kernel), gm_mem 738 (by decide +kernel) (by decide +kernel), gm_memS (q := (gmY6_layParts, 23)) (by decide +kernel) (by decide +kernel), gm_mem 7 (by decide +kernel) (by decide +kernel), gm_mem 739 (by decide +kernel) (by decide +kernel), by decide +kernel⟩
theorem gmM_6_113 : gmMV "GarmentMarkerModel" 113 gmY6_isPart prog_8_method_31_code 2 (some .boolean) 1 6 := ⟨by decide, rfl, gm_mem 756 (by decide +kernel) (by decide +kernel), gm_mem 758 (by decide +kernel) (by decide +kernel), gm_memS (q := (gmY6_isPart, 23)) (by decide +kernel) (by decide +kernel), gm_mem 7 (by decide +kernel) (by decide +kernel), gm_mem 759 (by decide +kernel) (by decide +kernel), by decide +kernel⟩
theorem gmM_6_116 : gmMV "GarmentMarkerModel" 116 gmY6_keyOf prog_8_method_36_code 3 (some .int) 2 6 := ⟨by decide, rfl, gm_mem 780 (by decide +kernel) (by decide +kernel), gm_mem 782 (by decide +kernel) (by decide +kernel), gm_memS (q := (gmY6_keyOf, 23)) (by decide +kernel) (by decide +kernel), gm_mem 7 (by decide +kernel) (by decide +kernel), gm_mem 783 (by decide +kernel) (by decide +kernel), by decide +kernel⟩
theorem gmM_6_122 : gmMV "GarmentMarkerModel" 122 gmY6_shelfFor prog_8_method_38_code 4 (some .int) 2 6 := ⟨by decide, rfl, gm_mem 788 (by decide +kernel) (by decide +kernel), gm_mem 790 (by decide +kernel) (by decide +kernel), gm_memS (q := (gmY6_shelfFor, 23)) (by decide +kernel) (by decide +kernel), gm_mem 7 (by decide +kernel) (by decide +kernel), gm_mem 791 (by decide +kernel) (by decide +kernel), by decide +kernel⟩
theorem gmM_6_125 : gmMV "GarmentMarkerModel" 125 gmY6_takenFrom prog_8_method_40_code 5 (some .int) 2 6 := ⟨by decide, rfl, gm_mem 800 (by decide +kernel) (by decide +kernel), gm_mem 802 (by decide +kernel) (by decide +kernel), gm_memS (q := (gmY6_takenFrom, 23)) (by decide +kernel) (by decide +kernel), gm_mem 7 (by decide +kernel) (by decide +kernel), gm_mem 803 (by decide +kernel) (by decide +kernel), by decide +kernel⟩
theorem gmM_6_128 : gmMV "GarmentMarkerModel" 128 gmY6_freeAt prog_8_method_41_code 8 (some .int) 3 6 := ⟨by decide, rfl, gm_mem 796 (by decide +kernel) (by decide +kernel), gm_mem 798 (by decide +kernel) (by decide +kernel), gm_memS (q := (gmY6_freeAt, 23)) (by decide +kernel) (by decide +kernel), gm_mem 7 (by decide +kernel) (by decide +kernel), gm_mem 799 (by decide +kernel) (by decide +kernel), by decide +kernel⟩
theorem gmM_6_131 : gmMV "GarmentMarkerModel" 131 gmY6_layOrder prog_8_method_37_code 4 none 1 6 := ⟨by decide, rfl, gm_mem 776 (by decide +kernel) (by decide +kernel), gm_mem 778 (by decide +kernel) (by decide +kernel), gm_memS (q := (gmY6_layOrder, 23)) (by decide +kernel) (by decide +kernel), gm_mem 7 (by decide +kernel) (by decide +kernel), gm_mem 779 (by decide +kernel) (by decide +kernel), by decide +kernel⟩
theorem gmM_6_134 : gmMV "GarmentMarkerModel" 134 gmY6_packShelves prog_8_method_39_code 5 none 1 6 := ⟨by decide, rfl, gm_mem 784 (by decide +kernel) (by decide +kernel), gm_mem 786 (by decide +kernel) (by decide +kernel), gm_memS (q := (gmY6_packShelves, 23)) (by decide +kernel) (by decide +kernel), gm_mem 7 (by decide +kernel) (by decide +kernel), gm_mem 787 (by decide +kernel) (by decide +kernel), by decide +kernel⟩
theorem gmM_6_137 : gmMV "GarmentMarkerModel" 137 gmY6_packFree prog_8_method_42_code 7 none 1 6 := ⟨by decide, rfl, gm_mem 792 (by decide +kernel) (by decide +kernel), gm_mem 794 (by decide +kernel) (by decide +kernel), gm_memS (q := (gmY6_packFree, 23)) (by decide +kernel) (by decide +kernel), gm_mem 7 (by decide +kernel) (by decide +kernel), gm_mem 795 (by decide +kernel) (by decide +kernel), by decide +kernel⟩
theorem gmM_6_140 : gmMV "GarmentMarkerModel" 140 gmY6_pack prog_8_method_43_code 5 (some .boolean) 2 6 := ⟨by decide, rfl, gm_mem 772 (by decide +kernel) (by decide +kernel), gm_mem 774 (by decide +kernel) (by decide +kernel), gm_memS (q := (gmY6_pack, 23)) (by decide +kernel) (by decide +kernel), gm_mem 7 (by decide +kernel) (by decide +kernel), gm_mem 775 (by decide +kernel) (by decide +kernel), by decide +kernel⟩
theorem gmM_6_143 : gmMV "GarmentMarkerModel" 143 gmY6_packedLength prog_8_method_45_code 3 (some .int) 0 6 := ⟨by decide, rfl, gm_mem 828 (by decide +kernel) (by decide +kernel), gm_mem 830 (by decide +kernel) (by decide +kernel), gm_memS (q := (gmY6_packedLength, 23)) (by decide +kernel) (by decide +kernel), gm_mem 7 (by decide +kernel) (by decide +kernel), gm_mem 831 (by decide +kernel) (by decide +kernel), by decide +kernel⟩
theorem gmM_6_146 : gmMV "GarmentMarkerModel" 146 gmY6_lengthBy prog_8_method_46_code 3 (some .int) 2 6 := ⟨by decide, rfl, gm_mem 824 (by decide +kernel) (by decide +kernel), gm_mem 826 (by decide +kernel) (by decide +kernel), gm_memS (q := (gmY6_lengthBy, 23)) (by decide +kernel) (by decide +kernel), gm_mem 7 (by decide +kernel) (by decide +kernel), gm_mem 827 (by decide +kernel) (by decide +kernel), by decide +kernel⟩
theorem gmM_6_149 : gmMV "GarmentMarkerModel" 149 gmY6_packNow prog_8_method_44_code 1 (some .boolean) 0 6 := ⟨by decide, rfl, gm_mem 768 (by decide +kernel) (by decide +kernel), gm_mem 770 (by decide +kernel) (by decide +kernel), gm_memS (q := (gmY6_packNow, 23)) (by decide +kernel) (by decide +kernel), gm_mem 7 (by decide +kernel) (by decide +kernel), gm_mem 771 (by decide +kernel) (by decide +kernel), by decide +kernel⟩
theorem gmM_6_153 : gmMV "GarmentMarkerModel" 153 gmY6_lengthNow prog_8_method_47_code 1 (some .int) 0 6 := ⟨by decide, rfl, gm_mem 820 (by decide +kernel) (by decide +kernel), gm_mem 822 (by decide +kernel) (by decide +kernel), gm_memS (q := (gmY6_lengthNow, 23)) (by decide +kernel) (by decide +kernel), gm_mem 7 (by decide +kernel) (by decide +kernel), gm_mem 823 (by decide +kernel) (by decide +kernel), by decide +kernel⟩
theorem gmM_6_159 : gmMV "GarmentMarkerModel" 159 gmY6_findBest prog_8_method_55_code 4 (some .int) 0 6 := ⟨by decide, rfl, gm_mem 844 (by decide +kernel) (by decide +kernel), gm_mem 846 (by decide +kernel) (by decide +kernel), gm_memS (q := (gmY6_findBest, 23)) (by decide +kernel) (by decide +kernel), gm_mem 7 (by decide +kernel) (by decide +kernel), gm_mem 847 (by decide +kernel) (by decide +kernel), by decide +kernel⟩
theorem gmM_6_162 : gmMV "GarmentMarkerModel" 162 gmY6_pliesNow prog_8_method_59_code 6 (some .int) 0 6 := ⟨by decide, rfl, gm_mem 860 (by decide +kernel) (by decide +kernel), gm_mem 862 (by decide +kernel) (by decide +kernel), gm_memS (q := (gmY6_pliesNow, 23)) (by decide +kernel) (by decide +kernel), gm_mem 7 (by decide +kernel) (by decide +kernel), gm_mem 863 (by decide +kernel) (by decide +kernel), by decide +kernel⟩
theorem gmM_6_165 : gmMV "GarmentMarkerModel" 165 gmY6_clothNow prog_8_method_61_code 3 (some .int) 0 6 := ⟨by decide, rfl, gm_mem 868 (by decide +kernel) (by decide +kernel), gm_mem 870 (by decide +kernel) (by decide +kernel), gm_memS (q := (gmY6_clothNow, 23)) (by decide +kernel) (by decide +kernel), gm_mem 7 (by decide +kernel) (by decide +kernel), gm_mem 871 (by decide +kernel) (by decide +kernel), by decide +kernel⟩
theorem gmM_6_168 : gmMV "GarmentMarkerModel" 168 gmY6_surplusNow prog_8_method_63_code 4 (some .int) 0 6 := ⟨by decide, rfl, gm_mem 876 (by decide +kernel) (by decide +kernel), gm_mem 878 (by decide +kernel) (by decide +kernel), gm_memS (q := (gmY6_surplusNow, 23)) (by decide +kernel) (by decide +kernel), gm_mem 7 (by decide +kernel) (by decide +kernel), gm_mem 879 (by decide +kernel) (by decide +kernel), by decide +kernel⟩
theorem gmM_6_171 : gmMV "GarmentMarkerModel" 171 gmY6_setMix prog_8_method_65_code 2 none 1 6 := ⟨by decide, rfl, gm_mem 892 (by decide +kernel) (by decide +kernel), gm_mem 894 (by decide +kernel) (by decide +kernel), gm_memS (q := (gmY6_setMix, 23)) (by decide +kernel) (by decide +kernel), gm_mem 7 (by decide +kernel) (by decide +kernel), gm_mem 895 (by decide +kernel) (by decide +kernel), by decide +kernel⟩
theorem gmM_6_186 : gmMV "GarmentMarkerModel" 186 gmY6_tryMix prog_8_method_66_code 4 none 1 6 := ⟨by decide, rfl, gm_mem 888 (by decide +kernel) (by decide +kernel), gm_mem 890 (by decide +kernel) (by decide +kernel), gm_memS (q := (gmY6_tryMix, 23)) (by decide +kernel) (by decide +kernel), gm_mem 7 (by decide +kernel) (by decide +kernel), gm_mem 891 (by decide +kernel) (by decide +kernel), by decide +kernel⟩
theorem gmM_6_189 : gmMV "GarmentMarkerModel" 189 gmY6_findMix prog_8_method_67_code 2 none 0 6 := ⟨by decide, rfl, gm_mem 884 (by decide +kernel) (by decide +kernel), gm_mem 886 (by decide +kernel) (by decide +kernel), gm_memS (q := (gmY6_findMix, 23)) (by decide +kernel) (by decide +kernel), gm_mem 7 (by decide +kernel) (by decide +kernel), gm_mem 887 (by decide +kernel) (by decide +kernel), by decide +kernel⟩
theorem gmM_0_93 : gmMN "GarmentMarker$Marker" 93 gmY5_isWithin "GarmentMarker" prog_1_method_40_code 3 (some .boolean) 3 := ⟨by decide +kernel, gm_mem 238 (by decide +kernel) (by decide +kernel), gm_mem 1 (by decide +kernel) (by decide +kernel), gm_mem 239 (by decide +kernel) (by decide +kernel), by decide +kernel⟩
theorem gmM_4_65 : gmMN "GarmentMarker$State" 65 gmY5_isWithin "GarmentMarker" prog_1_method_40_code 3 (some .boolean) 3 := ⟨by decide +kernel, gm_mem 238 (by decide +kernel) (by decide +kernel), gm_mem 1 (by decide +kernel) (by decide +kernel), gm_mem 239 (by decide +kernel) (by decide +kernel), by decide +kernel⟩
end
section
/-! THE STORE: the cells of the class' object and of the reference's, once made, as numbers; references never change -/
abbrev AV : Type := Int ⊕ Nat
abbrev St : Type := Nat → Nat → Int
abbrev GG : Type := va_G × (Nat → Nat) × (Nat → ClassId)
abbrev gmR (x : Int) : Prop := -2147483648 ≤ x ∧ x < 2147483648
def gmV (G : GG) : AV → Value
  | .inl x => .int (Int32.ofInt x)
  | .inr k => .ref (G.2.1 k)
def gmUp (σ : St) (k i : Nat) (v : Int) : St := fun k' i' => if k' = k ∧ i' = i then v else σ k' i'
def gmKdL : List Nat := [5, 4, 12, 2, 2, 2, 2, 2, 2, 13, 3, 3, 3, 3, 3, 3, 10, 10, 4, 12, 2, 2, 2, 2, 2, 2, 13, 3, 3, 3, 3, 3, 3, 10, 10, 4, 12, 2, 2, 2, 2, 2, 2, 13, 3, 3, 3, 3, 3, 3, 10, 10, 14, 11, 0, 15, 1, 1, 1, 1, 1, 1, 1, 1, 1, 1, 1, 1, 1, 1, 1, 1, 1, 1, 1, 1, 1, 1, 1, 1, 1, 1, 1, 1, 1, 1, 1, 1, 1, 1, 1, 1, 1, 1, 1, 1, 1, 1, 1, 1, 1, 1, 1, 1, 1, 1, 1, 1, 1, 1, 1, 1, 1, 1, 1, 1, 1, 1, 1, 1, 1, 1, 1, 1, 1, 1, 1, 1, 10, 10, 10, 10, 10, 6, 10, 10, 11, 10, 10, 10, 10, 11, 10, 10, 10, 10, 10, 10, 10, 10]
def gmLnL : List Nat := [0, 0, 6, 0, 0, 0, 0, 0, 0, 6, 0, 0, 0, 0, 0, 0, 3, 3, 0, 6, 0, 0, 0, 0, 0, 0, 6, 0, 0, 0, 0, 0, 0, 3, 3, 0, 6, 0, 0, 0, 0, 0, 0, 6, 0, 0, 0, 0, 0, 0, 3, 3, 2, 2, 0, 72, 0, 0, 0, 0, 0, 0, 0, 0, 0, 0, 0, 0, 0, 0, 0, 0, 0, 0, 0, 0, 0, 0, 0, 0, 0, 0, 0, 0, 0, 0, 0, 0, 0, 0, 0, 0, 0, 0, 0, 0, 0, 0, 0, 0, 0, 0, 0, 0, 0, 0, 0, 0, 0, 0, 0, 0, 0, 0, 0, 0, 0, 0, 0, 0, 0, 0, 0, 0, 0, 0, 0, 0, 72, 72, 72, 72, 3, 0, 78, 156, 2, 72, 72, 72, 72, 72, 72, 72, 72, 72, 72, 72, 1400, 3]
def gmKd (k : Nat) : Nat := gmKdL.getD k 99
def gmLn (k : Nat) : Nat := gmLnL.getD k 0
def gmTg (k i : Nat) : Nat := if k = 52 then 18 + 17 * i else k + 1 + i
def gmFr (k i : Nat) : Option Nat :=
  if k = 0 then ([some 1, some 52, some 53, some 54, some 132] : List (Option Nat)).getD i none
  else if k = 1 ∨ k = 18 ∨ k = 35 then ([some (k + 1), some (k + 8), none, some (k + 15), some (k + 16)] : List (Option Nat)).getD i none
  else if k = 54 then ([some 55, none, none, some 128, some 129, some 130, some 131] : List (Option Nat)).getD i none
  else if k = 133 then ([some 134, some 135, some 136, some 137, some 138, some 139, some 140, some 141, none, some 142, some 143, some 144, some 145, some 146, some 147, none, some 148, none, some 149] : List (Option Nat)).getD i none
  else none
def gmFv (G : GG) (σ : St) (k i : Nat) : Value := match gmFr k i with
  | some t => .ref (G.2.1 t)
  | none => .int (Int32.ofInt (σ k i))
def gmE (G : GG) (σ : St) (k : Nat) : va_E :=
  if gmKd k < 7 then .inr (gmKd k, (List.range (gmC (gmKd k)).2.2).map (gmFv G σ k))
  else if gmKd k < 12 then .inl (G.2.2 (gmKd k), gmLn k, .inl (fun i => Int32.ofInt (σ k i)))
  else .inl (G.2.2 (gmKd k), gmLn k, .inr (.inr (.inr (.inr (fun i => some (G.2.1 (gmTg k i)))))))
def gmW (G : GG) (σ : St) : va_W := (List.range 150).map (fun k => (G.2.1 k, gmE G σ k))
def gmTyF (c : Nat) : FieldType := match c with
  | 0 => .int
  | 1 => .boolean
  | 2 => .object "GarmentMarker$Piece"
  | 3 => .object "GarmentMarker$Seam"
  | 4 => .object "GarmentMarker$State"
  | _ => .object "GarmentMarker$Part"
def gmTy (G : GG) : List (ClassId × FieldType) := (List.range 6).map (fun c => (G.2.2 (c + 10), gmTyF c))
theorem gmW_at (G : GG) (σ : St) {k : Nat} (h : k < 150) : (gmW G σ)[k]? = some (G.2.1 k, gmE G σ k) := by
  simp [gmW, h]
theorem gmTy_at (G : GG) {c : Nat} (h : c < 6) : (gmTy G)[c]? = some (G.2.2 (c + 10), gmTyF c) := by
  simp [gmTy, h]
theorem gmE_congr {G : GG} {σ σ' : St} {k : Nat} (h : ∀ i, σ k i = σ' k i) : gmE G σ k = gmE G σ' k := by
  have : σ k = σ' k := funext h
  have h2 : gmFv G σ k = gmFv G σ' k := by
    funext i
    simp only [gmFv, h i]
  unfold gmE
  rw [h2, this]
theorem gmW_set {G : GG} {σ σ' : St} {k : Nat} {e : va_E} (hk : k < 150) (he : e = gmE G σ' k) (ho : ∀ j i, j ≠ k → σ j i = σ' j i) : (gmW G σ).set k (G.2.1 k, e) = gmW G σ' := by
  subst he
  apply List.ext_getElem?
  intro j
  rw [List.getElem?_set]
  by_cases hj : k = j
  · subst hj
    have : k < (gmW G σ).length := by simp [gmW, hk]
    rw [if_pos rfl, if_pos this, gmW_at G σ' hk]
  · rw [if_neg hj]
    by_cases h150 : j < 150
    · rw [gmW_at G σ h150, gmW_at G σ' h150, gmE_congr (fun i => ho j i (Ne.symm hj))]
    · simp [gmW, h150]
theorem gmUp_ne {σ : St} {k i : Nat} {v : Int} : ∀ j i', j ≠ k → σ j i' = gmUp σ k i v j i' := by
  intro j i' h
  simp [gmUp, h]
/-- all addresses of the store are apart -/
theorem gmD_to {G : GG} {σ σ' : St} {A B : Nat → Prop} (h : va_D A (gmW G σ)) (hB : ∀ k, k < 150 → A (G.2.1 k) → B (G.2.1 k)) : va_D B (gmW G σ') := by
  have key : ∀ (τ : St) (i : Nat) (p : Nat × va_E), (gmW G τ)[i]? = some p → i < 150 ∧ p.1 = G.2.1 i := by
    intro τ i p hp
    by_cases h150 : i < 150
    · rw [gmW_at G τ h150] at hp
      cases hp
      exact ⟨h150, rfl⟩
    · simp [gmW, h150] at hp
  refine ⟨fun i j p q hi hj hpq => ?_, fun k q hq => ?_⟩
  · obtain ⟨a1, a2⟩ := key σ' i p hi
    obtain ⟨b1, b2⟩ := key σ' j q hj
    exact h.1 i j _ _ (gmW_at G σ a1) (gmW_at G σ b1) (by show G.2.1 i = G.2.1 j; rw [← a2, ← b2]; exact hpq)
  · obtain ⟨a1, a2⟩ := key σ' k q hq
    rw [a2]
    exact hB k a1 (h.2 k _ (gmW_at G σ a1))
/-- what a method may change: the cells of the store, and what is new -/
def gmA (G : GG) (sz : Nat) : Nat → Prop := fun q => (∃ k, k < 150 ∧ q = G.2.1 k) ∨ sz ≤ q
def gmOK (σ : St) : Prop := ∀ k i, gmR (σ k i)
def gmNw (U : State) : Prop := ∀ q ∈ gmNestL, va_Nw (.methodLinkNest q.1 q.2.1 q.2.2.1 q.2.2.2) U
def gmPre (G : GG) (σ : St) (sz : Nat) : State → Prop := fun U => U.heap.size = sz ∧ gmOK σ ∧ va_P G.1 gmCl (gmW G σ) U.heap ∧ va_K G.1 gmCl (gmTy G) U ∧ va_D (fun _ => True) (gmW G σ) ∧ gmNw U
def gmPost (G : GG) (r : Option Int) (σ' : St) (sz : Nat) : Array Value → State → Outcome → State → Prop := match r with
  | some v => va_Qi (S := Unit) (fun r' _ => r' = Int32.ofInt v ∧ gmR v ∧ gmOK σ') (fun _ t => va_P G.1 gmCl (gmW G σ') t.heap) (gmA G sz)
  | none => va_Qv (S := Unit) (fun _ => gmOK σ') (fun _ t => va_P G.1 gmCl (gmW G σ') t.heap) (gmA G sz)
/-- a method's contract: on the store σ with the arguments as it answers r and leaves σ' -/
def Ctr (y : MethodName) (bc : ByteArray) (nL : Nat) (ret : Option FieldType) (f lo : Nat) (as : List AV) (σ : St) (r : Option Int) (σ' : St) : Prop :=
  gmOK σ → ∀ (l : Launch) (G : GG) (sz : Nat), Met l y (.code y bc nL ret :: gmT) { frames := f, cells := 0, slots := 0, locals := lo } (va_Pc (as.map (gmV G)) (gmPre G σ sz)) (gmPost G r σ' sz) 0 0 (gmA G sz)
abbrev Fx : Type := Program × Launch × Env × Room × State × MethodId × Array Value × List Frame × Method × Code × (State → Prop) × GG × (Nat → Prop) × Nat × Nat × Nat
def gmWd (G : GG) (A : Nat → Prop) (H0 : Heap) (σ : St) (H : Heap) (locs : List Loc) : Prop := gmOK σ ∧ va_P G.1 gmCl (gmW G σ) H ∧ va_D A (gmW G σ) ∧ va_S A H0 H locs
def J (φ : Fx) (σ : St) (pc : Nat) (lv : List (Nat × AV)) (st : List AV) : Prop := match φ with
  | (p, l, e, R, s, m, args, below, meth, c, Q, G, A, cells, slots, nL) => ∀ (H : Heap) (locs : List Loc) (ls : Array Slot), gmWd G A s.heap σ H locs → lv_has ls nL (lv.map fun q => (q.1, gmV G q.2)) → W p l e R s m args below meth c H locs cells slots Q (F0 m pc ls (st.map (gmV G)))
def Good (φ : Fx) (own : String) (cc : ByteArray) (nl fr lo : Nat) : Prop := match φ with
  | (p, l, e, R, s, m, args, below, meth, c, Q, G, A, cells, slots, nL) => p.tables.exec = Jvm.exec ∧ c.code = cc ∧ c.maxLocals = nL ∧ s.vm.findClass own = some m.cls ∧ (∀ w ∈ gmT, w.before args s = true) ∧ va_K G.1 gmCl (gmTy G) s ∧ gmNw s ∧ (∀ q, s.heap.size ≤ q → A q) ∧ fr ≤ R.frames ∧ lo ≤ R.locals ∧ cells ≤ R.cells ∧ slots ≤ R.slots ∧ nL = nl
theorem gm_ty0 {k : Nat} : ∀ G, (gmV G (.inl k : AV)).category = 1 := fun _ => rfl
theorem gmV_cat (G : GG) (v : AV) : (gmV G v).category = 1 := by
  cases v <;> rfl
theorem gmR_toInt {x : Int} (h : gmR x) : (Int32.ofInt x).toInt = x := Int32.toInt_ofInt_of_le h.1 h.2
theorem gmR_inj {x y : Int} (hx : gmR x) (hy : gmR y) : Int32.ofInt x = Int32.ofInt y ↔ x = y := by
  rw [← Int32.toInt_inj, gmR_toInt hx, gmR_toInt hy]
theorem gmR_lt {x y : Int} (hx : gmR x) (hy : gmR y) : Int32.ofInt x < Int32.ofInt y ↔ x < y := by
  rw [Int32.lt_iff_toInt_lt, gmR_toInt hx, gmR_toInt hy]
theorem gmR_le {x y : Int} (hx : gmR x) (hy : gmR y) : Int32.ofInt x ≤ Int32.ofInt y ↔ x ≤ y := by
  rw [Int32.le_iff_toInt_le, gmR_toInt hx, gmR_toInt hy]
theorem gmR_0 : gmR 0 := by decide
theorem gmR_clamp {i : Int} {n : Nat} (h : 0 ≤ i ∧ i < n) (hn : n < 2147483648) : (Int32.ofInt i).toNatClampNeg = i.toNat := Int32.toNatClampNeg_ofInt_of_le (by omega) (by omega)
theorem gmR_in {i : Int} {n : Nat} (h : 0 ≤ i ∧ i < n) (hn : n < 2147483648) : vp_in (Int32.ofInt i) n := by
  have hr : gmR i := ⟨by omega, by omega⟩
  exact vp_in_iff.mpr (by rw [gmR_toInt hr]; exact h)
theorem gmLn_lt (k : Nat) : gmLn k < 2147483648 := by
  by_cases h : k < 150
  · have : ∀ k, k < 150 → gmLn k < 2147483648 := by decide +kernel
    exact this k h
  · have : gmLnL.length = 150 := by decide +kernel
    unfold gmLn
    rw [List.getD_eq_getElem?_getD, List.getElem?_eq_none (by omega)]
    decide
/-- guards, bindings -/
def gmG {α : Type} (c : Prop) [Decidable c] (t : Option α) : Option α := if c then t else none
def gmB {β : Type} (o : Option (Int × St)) (k : Int → St → Option β) : Option β := match o with
  | some (r, σ) => k r σ
  | none => none
def gmBv {β : Type} (o : Option St) (k : St → Option β) : Option β := match o with
  | some σ => k σ
  | none => none
def gmL {α β : Type} (v : α) (k : α → Option β) : Option β := k v
theorem gmG_of {α : Type} {c : Prop} [Decidable c] {t : Option α} {r : α} (h : gmG c t = some r) : c ∧ t = some r := by
  unfold gmG at h
  by_cases hc : c
  · rw [if_pos hc] at h
    exact ⟨hc, h⟩
  · rw [if_neg hc] at h
    cases h
theorem gmB_of {β : Type} {o : Option (Int × St)} {k : Int → St → Option β} {r : β} (h : gmB o k = some r) : ∃ v σ, o = some (v, σ) ∧ k v σ = some r := by
  match o, h with
  | some (v, σ), h => exact ⟨v, σ, rfl, h⟩
theorem gmBv_of {β : Type} {o : Option St} {k : St → Option β} {r : β} (h : gmBv o k = some r) : ∃ σ, o = some σ ∧ k σ = some r := by
  match o, h with
  | some σ, h => exact ⟨σ, rfl, h⟩
theorem gmL_of {α β : Type} {v : α} {k : α → Option β} {r : β} (h : gmL v k = some r) : ∃ x, x = v ∧ k x = some r := ⟨v, rfl, h⟩
def gmN : Nat := 1500
def gmSet (lv : List (Nat × AV)) (i : Nat) (v : AV) : List (Nat × AV) := (i, v) :: lv.filter (fun q => !(q.1 == i))
theorem gmSet_map (G : GG) (lv : List (Nat × AV)) (i : Nat) (v : AV) : (i, gmV G v) :: (lv.map fun q => (q.1, gmV G q.2)).filter (fun q => !(q.1 == i) && !(q.1 + 1 == i && q.2.category == 2)) = (gmSet lv i v).map fun q => (q.1, gmV G q.2) := by
  unfold gmSet
  rw [List.map_cons, List.filter_map]
  congr 2
  congr 1
  funext q
  simp [gmV_cat]
theorem gm_mapAt {G : GG} {lv : List (Nat × AV)} {k i : Nat} {v : AV} (h : lv[k]? = some (i, v)) : (lv.map fun q => (q.1, gmV G q.2))[k]? = some (i, gmV G v) := by
  rw [List.getElem?_map, h]; rfl
section GM
variable {φ : Fx} {own : String} {cc : ByteArray} {nl fr lo : Nat} {σ : St} {pc : Nat} {lv lv' : List (Nat × AV)} {st : List AV}
theorem gm_iconst (hG : Good φ own cc nl fr lo) {n : Int} (hd : decode cc pc = .ok (.iconst n, 1)) (k : J φ σ (pc + 1) lv (.inl n :: st)) : J φ σ pc lv st := by
  obtain ⟨p, l, e, R, s, m, args, below, meth, c, Q, G, A, cells, slots, nL⟩ := φ
  obtain ⟨hx, hb, -⟩ := hG
  intro H locs ls hW hl
  exact lv_iconst hx hb hd rfl (k H locs ls hW hl)
theorem gm_bipush (hG : Good φ own cc nl fr lo) {n : Int} (hd : decode cc pc = .ok (.bipush n, 2)) (hv : (Int8.ofInt n).toInt32 = Int32.ofInt n) (k : J φ σ (pc + 2) lv (.inl n :: st)) : J φ σ pc lv st := by
  obtain ⟨p, l, e, R, s, m, args, below, meth, c, Q, G, A, cells, slots, nL⟩ := φ
  obtain ⟨hx, hb, -⟩ := hG
  intro H locs ls hW hl
  exact lv_bipush hx hb hd hv (k H locs ls hW hl)
theorem gm_sipush (hG : Good φ own cc nl fr lo) {n : Int} (hd : decode cc pc = .ok (.sipush n, 3)) (hv : (Int16.ofInt n).toInt32 = Int32.ofInt n) (k : J φ σ (pc + 3) lv (.inl n :: st)) : J φ σ pc lv st := by
  obtain ⟨p, l, e, R, s, m, args, below, meth, c, Q, G, A, cells, slots, nL⟩ := φ
  obtain ⟨hx, hb, -⟩ := hG
  intro H locs ls hW hl
  exact lv_sipush hx hb hd hv (k H locs ls hW hl)
theorem gm_iload_n (hG : Good φ own cc nl fr lo) {f : Fin 4} {i : Nat} (j : Nat) {x : Int} (hd : decode cc pc = .ok (.iload_n f, 1)) (hi : (f : Nat) = i) (hl : lv[j]? = some (i, .inl x)) (k : J φ σ (pc + 1) lv (.inl x :: st)) : J φ σ pc lv st := by
  obtain ⟨p, l, e, R, s, m, args, below, meth, c, Q, G, A, cells, slots, nL⟩ := φ
  obtain ⟨hx, hb, -⟩ := hG
  intro H locs ls hW h
  exact lv_iload_n hx hb hd hi (lv_at h j (gm_mapAt hl)) (k H locs ls hW h)
theorem gm_iload (hG : Good φ own cc nl fr lo) {i : Nat} (j : Nat) {x : Int} (hd : decode cc pc = .ok (.iload i, 2)) (hl : lv[j]? = some (i, .inl x)) (k : J φ σ (pc + 2) lv (.inl x :: st)) : J φ σ pc lv st := by
  obtain ⟨p, l, e, R, s, m, args, below, meth, c, Q, G, A, cells, slots, nL⟩ := φ
  obtain ⟨hx, hb, -⟩ := hG
  intro H locs ls hW h
  exact lv_iload hx hb hd (lv_at h j (gm_mapAt hl)) (k H locs ls hW h)
theorem gm_aload_n (hG : Good φ own cc nl fr lo) {f : Fin 4} {i : Nat} (j : Nat) {x : Nat} (hd : decode cc pc = .ok (.aload_n f, 1)) (hi : (f : Nat) = i) (hl : lv[j]? = some (i, .inr x)) (k : J φ σ (pc + 1) lv (.inr x :: st)) : J φ σ pc lv st := by
  obtain ⟨p, l, e, R, s, m, args, below, meth, c, Q, G, A, cells, slots, nL⟩ := φ
  obtain ⟨hx, hb, -⟩ := hG
  intro H locs ls hW h
  exact lv_aload_n hx hb hd hi (lv_at h j (gm_mapAt hl)) (k H locs ls hW h)
theorem gm_aload (hG : Good φ own cc nl fr lo) {i : Nat} (j : Nat) {x : Nat} (hd : decode cc pc = .ok (.aload i, 2)) (hl : lv[j]? = some (i, .inr x)) (k : J φ σ (pc + 2) lv (.inr x :: st)) : J φ σ pc lv st := by
  obtain ⟨p, l, e, R, s, m, args, below, meth, c, Q, G, A, cells, slots, nL⟩ := φ
  obtain ⟨hx, hb, -⟩ := hG
  intro H locs ls hW h
  exact lv_aload hx hb hd (lv_at h j (gm_mapAt hl)) (k H locs ls hW h)
theorem gm_istore_n (hG : Good φ own cc nl fr lo) {f : Fin 4} {i : Nat} {x : Int} (hd : decode cc pc = .ok (.istore_n f, 1)) (hi : (f : Nat) = i) (hn : i < nl) (hl : gmSet lv i (.inl x) = lv') (k : J φ σ (pc + 1) lv' st) : J φ σ pc lv (.inl x :: st) := by
  obtain ⟨p, l, e, R, s, m, args, below, meth, c, Q, G, A, cells, slots, nL⟩ := φ
  obtain ⟨hx, hb, -, -, -, -, -, -, -, -, -, -, rfl⟩ := hG
  intro H locs ls hW h
  subst hl
  exact lv_istore_n (x := Int32.ofInt x) hx hb hd hi h hn (gmSet_map G lv i (.inl x)) (fun ls' h' => k H locs ls' hW h')
theorem gm_istore (hG : Good φ own cc nl fr lo) {i : Nat} {x : Int} (hd : decode cc pc = .ok (.istore i, 2)) (hn : i < nl) (hl : gmSet lv i (.inl x) = lv') (k : J φ σ (pc + 2) lv' st) : J φ σ pc lv (.inl x :: st) := by
  obtain ⟨p, l, e, R, s, m, args, below, meth, c, Q, G, A, cells, slots, nL⟩ := φ
  obtain ⟨hx, hb, -, -, -, -, -, -, -, -, -, -, rfl⟩ := hG
  intro H locs ls hW h
  subst hl
  exact lv_istore (x := Int32.ofInt x) hx hb hd h hn (gmSet_map G lv i (.inl x)) (fun ls' h' => k H locs ls' hW h')
theorem gm_astore_n (hG : Good φ own cc nl fr lo) {f : Fin 4} {i : Nat} {x : Nat} (hd : decode cc pc = .ok (.astore_n f, 1)) (hi : (f : Nat) = i) (hn : i < nl) (hl : gmSet lv i (.inr x) = lv') (k : J φ σ (pc + 1) lv' st) : J φ σ pc lv (.inr x :: st) := by
  obtain ⟨p, l, e, R, s, m, args, below, meth, c, Q, G, A, cells, slots, nL⟩ := φ
  obtain ⟨hx, hb, -, -, -, -, -, -, -, -, -, -, rfl⟩ := hG
  intro H locs ls hW h
  subst hl
  exact lv_astore_n (x := G.2.1 x) hx hb hd hi h hn (gmSet_map G lv i (.inr x)) (fun ls' h' => k H locs ls' hW h')
theorem gm_astore (hG : Good φ own cc nl fr lo) {i : Nat} {x : Nat} (hd : decode cc pc = .ok (.astore i, 2)) (hn : i < nl) (hl : gmSet lv i (.inr x) = lv') (k : J φ σ (pc + 2) lv' st) : J φ σ pc lv (.inr x :: st) := by
  obtain ⟨p, l, e, R, s, m, args, below, meth, c, Q, G, A, cells, slots, nL⟩ := φ
  obtain ⟨hx, hb, -, -, -, -, -, -, -, -, -, -, rfl⟩ := hG
  intro H locs ls hW h
  subst hl
  exact lv_astore (x := G.2.1 x) hx hb hd h hn (gmSet_map G lv i (.inr x)) (fun ls' h' => k H locs ls' hW h')
theorem gm_iinc (hG : Good φ own cc nl fr lo) {i : Nat} {n : Int} (j : Nat) {x : Int} (hd : decode cc pc = .ok (.iinc i n, 3)) (hj : lv[j]? = some (i, .inl x)) (hn : i < nl) (hl : gmSet lv i (.inl (x + n)) = lv') (k : J φ σ (pc + 3) lv' st) : J φ σ pc lv st := by
  obtain ⟨p, l, e, R, s, m, args, below, meth, c, Q, G, A, cells, slots, nL⟩ := φ
  obtain ⟨hx, hb, -, -, -, -, -, -, -, -, -, -, rfl⟩ := hG
  intro H locs ls hW h
  subst hl
  exact lv_iinc (x := Int32.ofInt x) (v := Int32.ofInt (x + n)) hx hb hd h (gm_mapAt hj) (Int32.ofInt_add x n).symm hn (gmSet_map G lv i (.inl (x + n))) (fun ls' h' => k H locs ls' hW h')
theorem gm_iadd (hG : Good φ own cc nl fr lo) {x y : Int} (hd : decode cc pc = .ok (.iadd, 1)) (k : J φ σ (pc + 1) lv (.inl (x + y) :: st)) : J φ σ pc lv (.inl y :: .inl x :: st) := by
  obtain ⟨p, l, e, R, s, m, args, below, meth, c, Q, G, A, cells, slots, nL⟩ := φ
  obtain ⟨hx, hb, -⟩ := hG
  intro H locs ls hW h
  refine lv_iadd (x := Int32.ofInt x) (y := Int32.ofInt y) hx hb hd ?_
  rw [← Int32.ofInt_add]
  exact k H locs ls hW h
theorem gm_isub (hG : Good φ own cc nl fr lo) {x y : Int} (hd : decode cc pc = .ok (.isub, 1)) (k : J φ σ (pc + 1) lv (.inl (x - y) :: st)) : J φ σ pc lv (.inl y :: .inl x :: st) := by
  obtain ⟨p, l, e, R, s, m, args, below, meth, c, Q, G, A, cells, slots, nL⟩ := φ
  obtain ⟨hx, hb, -⟩ := hG
  intro H locs ls hW h
  refine lv_isub (x := Int32.ofInt x) (y := Int32.ofInt y) hx hb hd ?_
  rw [← Int32.ofInt_sub]
  exact k H locs ls hW h
theorem gm_imul (hG : Good φ own cc nl fr lo) {x y : Int} (hd : decode cc pc = .ok (.imul, 1)) (k : J φ σ (pc + 1) lv (.inl (x * y) :: st)) : J φ σ pc lv (.inl y :: .inl x :: st) := by
  obtain ⟨p, l, e, R, s, m, args, below, meth, c, Q, G, A, cells, slots, nL⟩ := φ
  obtain ⟨hx, hb, -⟩ := hG
  intro H locs ls hW h
  refine lv_imul (x := Int32.ofInt x) (y := Int32.ofInt y) hx hb hd ?_
  rw [← Int32.ofInt_mul]
  exact k H locs ls hW h
theorem gm_quot {x y : Int} (hx : 0 ≤ x ∧ x < 2147483648) (hy : 0 < y ∧ y < 2147483648) : Int32.ofInt x / Int32.ofInt y = Int32.ofInt (x / y) := by
  have h1 : Int32.ofInt (x.tdiv y) = Int32.ofInt x / Int32.ofInt y := Int32.ofInt_tdiv (by show (-2147483648 : Int) ≤ x; omega) (by show x ≤ (2147483647 : Int); omega) (by show (-2147483648 : Int) ≤ y; omega) (by show y ≤ (2147483647 : Int); omega)
  rw [← h1, Int.tdiv_eq_ediv_of_nonneg hx.1]
theorem gm_ne0 {y : Int} (hy : 0 < y ∧ y < 2147483648) : ¬ Int32.ofInt y = 0 := by
  intro h
  have : y = 0 := (gmR_inj ⟨by omega, by omega⟩ gmR_0).mp h
  omega
theorem gm_idiv (hG : Good φ own cc nl fr lo) {x y : Int} (hd : decode cc pc = .ok (.idiv, 1)) (h1 : 0 ≤ x ∧ x < 2147483648) (h2 : 0 < y ∧ y < 2147483648) (k : gmR (x / y) → J φ σ (pc + 1) lv (.inl (x / y) :: st)) : J φ σ pc lv (.inl y :: .inl x :: st) := by
  obtain ⟨p, l, e, R, s, m, args, below, meth, c, Q, G, A, cells, slots, nL⟩ := φ
  obtain ⟨hx, hb, -⟩ := hG
  intro H locs ls hW h
  refine lv_idiv (x := Int32.ofInt x) (y := Int32.ofInt y) hx hb hd (gm_ne0 h2) ?_
  rw [gm_quot h1 h2]
  have a1 : 0 ≤ x / y := Int.ediv_nonneg h1.1 (by omega)
  have a2 : x / y ≤ x := Int.ediv_le_self _ h1.1
  exact k ⟨by omega, by omega⟩ H locs ls hW h
theorem gm_irem (hG : Good φ own cc nl fr lo) {x y : Int} (hd : decode cc pc = .ok (.irem, 1)) (h1 : 0 ≤ x ∧ x < 2147483648) (h2 : 0 < y ∧ y < 2147483648) (k : gmR (x % y) → J φ σ (pc + 1) lv (.inl (x % y) :: st)) : J φ σ pc lv (.inl y :: .inl x :: st) := by
  obtain ⟨p, l, e, R, s, m, args, below, meth, c, Q, G, A, cells, slots, nL⟩ := φ
  obtain ⟨hx, hb, -⟩ := hG
  intro H locs ls hW h
  refine lv_irem (x := Int32.ofInt x) (y := Int32.ofInt y) hx hb hd (gm_ne0 h2) ?_
  have e1 : Int32.ofInt x - Int32.ofInt x / Int32.ofInt y * Int32.ofInt y = Int32.ofInt (x % y) := by
    rw [gm_quot h1 h2, ← Int32.ofInt_mul, ← Int32.ofInt_sub, Int.emod_def, Int.mul_comm y]
  rw [e1]
  have a1 : 0 ≤ x % y := Int.emod_nonneg _ (by omega)
  have a2 : x % y < y := Int.emod_lt_of_pos _ h2.1
  exact k ⟨by omega, by omega⟩ H locs ls hW h
theorem gm_goto (hG : Good φ own cc nl fr lo) {off : Int} {tgt : Nat} (hd : decode cc pc = .ok (.goto off, 3)) (ht : (pc : Int) + off = (tgt : Int)) (k : J φ σ tgt lv st) : J φ σ pc lv st := by
  obtain ⟨p, l, e, R, s, m, args, below, meth, c, Q, G, A, cells, slots, nL⟩ := φ
  obtain ⟨hx, hb, -⟩ := hG
  intro H locs ls hW hl
  exact lv_goto hx hb hd ht (k H locs ls hW hl)
theorem gm_if_eq (hG : Good φ own cc nl fr lo) {x : Int} {off : Int} {tgt : Nat} (hd : decode cc pc = .ok (.ifCond .eq off, 3)) (ht : (pc : Int) + off = (tgt : Int)) (hr : gmR x) (kt : x = 0 → J φ σ tgt lv st) (kf : ¬ x = 0 → J φ σ (pc + 3) lv st) : J φ σ pc lv (.inl x :: st) := by
  obtain ⟨p, l, e, R, s, m, args, below, meth, c, Q, G, A, cells, slots, nL⟩ := φ
  obtain ⟨hx, hb, -⟩ := hG
  intro H locs ls hW hl
  exact lv_if_eq (x := Int32.ofInt x) hx hb hd ht (fun q => kt ((gmR_inj hr gmR_0).mp q) H locs ls hW hl) (fun q => kf (fun z => q ((gmR_inj hr gmR_0).mpr z)) H locs ls hW hl)
theorem gm_if_ne (hG : Good φ own cc nl fr lo) {x : Int} {off : Int} {tgt : Nat} (hd : decode cc pc = .ok (.ifCond .ne off, 3)) (ht : (pc : Int) + off = (tgt : Int)) (hr : gmR x) (kt : ¬ x = 0 → J φ σ tgt lv st) (kf : x = 0 → J φ σ (pc + 3) lv st) : J φ σ pc lv (.inl x :: st) := by
  obtain ⟨p, l, e, R, s, m, args, below, meth, c, Q, G, A, cells, slots, nL⟩ := φ
  obtain ⟨hx, hb, -⟩ := hG
  intro H locs ls hW hl
  exact lv_if_ne (x := Int32.ofInt x) hx hb hd ht (fun q => kt (fun z => q ((gmR_inj hr gmR_0).mpr z)) H locs ls hW hl) (fun q => kf ((gmR_inj hr gmR_0).mp q) H locs ls hW hl)
theorem gm_if_lt (hG : Good φ own cc nl fr lo) {x : Int} {off : Int} {tgt : Nat} (hd : decode cc pc = .ok (.ifCond .lt off, 3)) (ht : (pc : Int) + off = (tgt : Int)) (hr : gmR x) (kt : x < 0 → J φ σ tgt lv st) (kf : ¬ x < 0 → J φ σ (pc + 3) lv st) : J φ σ pc lv (.inl x :: st) := by
  obtain ⟨p, l, e, R, s, m, args, below, meth, c, Q, G, A, cells, slots, nL⟩ := φ
  obtain ⟨hx, hb, -⟩ := hG
  intro H locs ls hW hl
  exact lv_if_lt (x := Int32.ofInt x) hx hb hd ht (fun q => kt ((gmR_lt hr gmR_0).mp q) H locs ls hW hl) (fun q => kf (fun z => q ((gmR_lt hr gmR_0).mpr z)) H locs ls hW hl)
theorem gm_if_ge (hG : Good φ own cc nl fr lo) {x : Int} {off : Int} {tgt : Nat} (hd : decode cc pc = .ok (.ifCond .ge off, 3)) (ht : (pc : Int) + off = (tgt : Int)) (hr : gmR x) (kt : 0 ≤ x → J φ σ tgt lv st) (kf : ¬ 0 ≤ x → J φ σ (pc + 3) lv st) : J φ σ pc lv (.inl x :: st) := by
  obtain ⟨p, l, e, R, s, m, args, below, meth, c, Q, G, A, cells, slots, nL⟩ := φ
  obtain ⟨hx, hb, -⟩ := hG
  intro H locs ls hW hl
  exact lv_if_ge (x := Int32.ofInt x) hx hb hd ht (fun q => kt ((gmR_le gmR_0 hr).mp q) H locs ls hW hl) (fun q => kf (fun z => q ((gmR_le gmR_0 hr).mpr z)) H locs ls hW hl)
theorem gm_if_gt (hG : Good φ own cc nl fr lo) {x : Int} {off : Int} {tgt : Nat} (hd : decode cc pc = .ok (.ifCond .gt off, 3)) (ht : (pc : Int) + off = (tgt : Int)) (hr : gmR x) (kt : 0 < x → J φ σ tgt lv st) (kf : ¬ 0 < x → J φ σ (pc + 3) lv st) : J φ σ pc lv (.inl x :: st) := by
  obtain ⟨p, l, e, R, s, m, args, below, meth, c, Q, G, A, cells, slots, nL⟩ := φ
  obtain ⟨hx, hb, -⟩ := hG
  intro H locs ls hW hl
  exact lv_if_gt (x := Int32.ofInt x) hx hb hd ht (fun q => kt ((gmR_lt gmR_0 hr).mp q) H locs ls hW hl) (fun q => kf (fun z => q ((gmR_lt gmR_0 hr).mpr z)) H locs ls hW hl)
theorem gm_if_le (hG : Good φ own cc nl fr lo) {x : Int} {off : Int} {tgt : Nat} (hd : decode cc pc = .ok (.ifCond .le off, 3)) (ht : (pc : Int) + off = (tgt : Int)) (hr : gmR x) (kt : x ≤ 0 → J φ σ tgt lv st) (kf : ¬ x ≤ 0 → J φ σ (pc + 3) lv st) : J φ σ pc lv (.inl x :: st) := by
  obtain ⟨p, l, e, R, s, m, args, below, meth, c, Q, G, A, cells, slots, nL⟩ := φ
  obtain ⟨hx, hb, -⟩ := hG
  intro H locs ls hW hl
  exact lv_if_le (x := Int32.ofInt x) hx hb hd ht (fun q => kt ((gmR_le hr gmR_0).mp q) H locs ls hW hl) (fun q => kf (fun z => q ((gmR_le hr gmR_0).mpr z)) H locs ls hW hl)
theorem gm_icmp_eq (hG : Good φ own cc nl fr lo) {x y : Int} {off : Int} {tgt : Nat} (hd : decode cc pc = .ok (.if_icmp .eq off, 3)) (ht : (pc : Int) + off = (tgt : Int)) (hr : gmR x) (hr2 : gmR y) (kt : x = y → J φ σ tgt lv st) (kf : ¬ x = y → J φ σ (pc + 3) lv st) : J φ σ pc lv (.inl y :: .inl x :: st) := by
  obtain ⟨p, l, e, R, s, m, args, below, meth, c, Q, G, A, cells, slots, nL⟩ := φ
  obtain ⟨hx, hb, -⟩ := hG
  intro H locs ls hW hl
  exact lv_icmp_eq (x := Int32.ofInt x) (y := Int32.ofInt y) hx hb hd ht (fun q => kt ((gmR_inj hr hr2).mp q) H locs ls hW hl) (fun q => kf (fun z => q ((gmR_inj hr hr2).mpr z)) H locs ls hW hl)
theorem gm_icmp_ne (hG : Good φ own cc nl fr lo) {x y : Int} {off : Int} {tgt : Nat} (hd : decode cc pc = .ok (.if_icmp .ne off, 3)) (ht : (pc : Int) + off = (tgt : Int)) (hr : gmR x) (hr2 : gmR y) (kt : ¬ x = y → J φ σ tgt lv st) (kf : x = y → J φ σ (pc + 3) lv st) : J φ σ pc lv (.inl y :: .inl x :: st) := by
  obtain ⟨p, l, e, R, s, m, args, below, meth, c, Q, G, A, cells, slots, nL⟩ := φ
  obtain ⟨hx, hb, -⟩ := hG
  intro H locs ls hW hl
  exact lv_icmp_ne (x := Int32.ofInt x) (y := Int32.ofInt y) hx hb hd ht (fun q => kt (fun z => q ((gmR_inj hr hr2).mpr z)) H locs ls hW hl) (fun q => kf ((gmR_inj hr hr2).mp q) H locs ls hW hl)
theorem gm_icmp_lt (hG : Good φ own cc nl fr lo) {x y : Int} {off : Int} {tgt : Nat} (hd : decode cc pc = .ok (.if_icmp .lt off, 3)) (ht : (pc : Int) + off = (tgt : Int)) (hr : gmR x) (hr2 : gmR y) (kt : x < y → J φ σ tgt lv st) (kf : ¬ x < y → J φ σ (pc + 3) lv st) : J φ σ pc lv (.inl y :: .inl x :: st) := by
  obtain ⟨p, l, e, R, s, m, args, below, meth, c, Q, G, A, cells, slots, nL⟩ := φ
  obtain ⟨hx, hb, -⟩ := hG
  intro H locs ls hW hl
  exact lv_icmp_lt (x := Int32.ofInt x) (y := Int32.ofInt y) hx hb hd ht (fun q => kt ((gmR_lt hr hr2).mp q) H locs ls hW hl) (fun q => kf (fun z => q ((gmR_lt hr hr2).mpr z)) H locs ls hW hl)
theorem gm_icmp_ge (hG : Good φ own cc nl fr lo) {x y : Int} {off : Int} {tgt : Nat} (hd : decode cc pc = .ok (.if_icmp .ge off, 3)) (ht : (pc : Int) + off = (tgt : Int)) (hr : gmR x) (hr2 : gmR y) (kt : y ≤ x → J φ σ tgt lv st) (kf : ¬ y ≤ x → J φ σ (pc + 3) lv st) : J φ σ pc lv (.inl y :: .inl x :: st) := by
  obtain ⟨p, l, e, R, s, m, args, below, meth, c, Q, G, A, cells, slots, nL⟩ := φ
  obtain ⟨hx, hb, -⟩ := hG
  intro H locs ls hW hl
  exact lv_icmp_ge (x := Int32.ofInt x) (y := Int32.ofInt y) hx hb hd ht (fun q => kt ((gmR_le hr2 hr).mp q) H locs ls hW hl) (fun q => kf (fun z => q ((gmR_le hr2 hr).mpr z)) H locs ls hW hl)
theorem gm_icmp_gt (hG : Good φ own cc nl fr lo) {x y : Int} {off : Int} {tgt : Nat} (hd : decode cc pc = .ok (.if_icmp .gt off, 3)) (ht : (pc : Int) + off = (tgt : Int)) (hr : gmR x) (hr2 : gmR y) (kt : y < x → J φ σ tgt lv st) (kf : ¬ y < x → J φ σ (pc + 3) lv st) : J φ σ pc lv (.inl y :: .inl x :: st) := by
  obtain ⟨p, l, e, R, s, m, args, below, meth, c, Q, G, A, cells, slots, nL⟩ := φ
  obtain ⟨hx, hb, -⟩ := hG
  intro H locs ls hW hl
  exact lv_icmp_gt (x := Int32.ofInt x) (y := Int32.ofInt y) hx hb hd ht (fun q => kt ((gmR_lt hr2 hr).mp q) H locs ls hW hl) (fun q => kf (fun z => q ((gmR_lt hr2 hr).mpr z)) H locs ls hW hl)
theorem gm_icmp_le (hG : Good φ own cc nl fr lo) {x y : Int} {off : Int} {tgt : Nat} (hd : decode cc pc = .ok (.if_icmp .le off, 3)) (ht : (pc : Int) + off = (tgt : Int)) (hr : gmR x) (hr2 : gmR y) (kt : x ≤ y → J φ σ tgt lv st) (kf : ¬ x ≤ y → J φ σ (pc + 3) lv st) : J φ σ pc lv (.inl y :: .inl x :: st) := by
  obtain ⟨p, l, e, R, s, m, args, below, meth, c, Q, G, A, cells, slots, nL⟩ := φ
  obtain ⟨hx, hb, -⟩ := hG
  intro H locs ls hW hl
  exact lv_icmp_le (x := Int32.ofInt x) (y := Int32.ofInt y) hx hb hd ht (fun q => kt ((gmR_le hr hr2).mp q) H locs ls hW hl) (fun q => kf (fun z => q ((gmR_le hr hr2).mpr z)) H locs ls hW hl)
theorem gm_dup (hG : Good φ own cc nl fr lo) {v : AV} (hd : decode cc pc = .ok (.dup, 1)) (k : J φ σ (pc + 1) lv (v :: v :: st)) : J φ σ pc lv (v :: st) := by
  obtain ⟨p, l, e, R, s, m, args, below, meth, c, Q, G, A, cells, slots, nL⟩ := φ
  obtain ⟨hx, hb, -⟩ := hG
  intro H locs ls hW hl
  exact lv_dup hx hb hd (gmV_cat G v) (k H locs ls hW hl)
theorem gm_dup2 (hG : Good φ own cc nl fr lo) {v u : AV} (hd : decode cc pc = .ok (.dup2, 1)) (k : J φ σ (pc + 1) lv (v :: u :: v :: u :: st)) : J φ σ pc lv (v :: u :: st) := by
  obtain ⟨p, l, e, R, s, m, args, below, meth, c, Q, G, A, cells, slots, nL⟩ := φ
  obtain ⟨hx, hb, -⟩ := hG
  intro H locs ls hW hl
  exact lv_dup2_11 hx hb hd (gmV_cat G v) (gmV_cat G u) (k H locs ls hW hl)
theorem gm_sub (ks : List Nat) (hl : ks.filterMap (fun k => lv[k]?) = lv') (k : J φ σ pc lv' st) : J φ σ pc lv st := by
  obtain ⟨p, l, e, R, s, m, args, below, meth, c, Q, G, A, cells, slots, nL⟩ := φ
  intro H locs ls hW h
  refine k H locs ls hW (lv_sub h ks ?_)
  subst hl
  unfold lv_pick
  rw [List.map_filterMap]
  congr 1
  funext k
  simp
end GM
end
section
/-! HEAP ROWS, CALLS, ENTRY AND END, over the store -/
theorem gmKd_lt {k : Nat} (h : gmKd k < 99) : k < 150 := by
  by_cases h150 : k < 150
  · exact h150
  · exfalso
    have : gmKdL.length = 150 := by decide +kernel
    unfold gmKd at h
    rw [List.getD_eq_getElem?_getD, List.getElem?_eq_none (by omega)] at h
    exact absurd h (by decide)
theorem gmE_obj {G : GG} {σ : St} {k ci : Nat} (h : gmKd k = ci) (hc : ci < 7) : gmE G σ k = .inr (ci, (List.range (gmC ci).2.2).map (gmFv G σ k)) := by
  unfold gmE
  rw [if_pos (by omega), h]
theorem gmE_num {G : GG} {σ : St} {k c : Nat} (h : gmKd k = c + 10) (hc : c < 2) : gmE G σ k = .inl (G.2.2 (c + 10), gmLn k, .inl (fun i => Int32.ofInt (σ k i))) := by
  unfold gmE
  rw [if_neg (by omega), if_pos (by omega), h]
theorem gmE_ref {G : GG} {σ : St} {k c : Nat} (h : gmKd k = c + 10) (hc : 2 ≤ c) : gmE G σ k = .inl (G.2.2 (c + 10), gmLn k, .inr (.inr (.inr (.inr (fun i => some (G.2.1 (gmTg k i))))))) := by
  unfold gmE
  rw [if_neg (by omega), if_neg (by omega), h]
theorem gmUp_OK {σ : St} {k i : Nat} {v : Int} (hO : gmOK σ) (hR : gmR v) : gmOK (gmUp σ k i v) := by
  intro k' i'
  unfold gmUp
  by_cases h : k' = k ∧ i' = i
  · rw [if_pos h]; exact hR
  · rw [if_neg h]; exact hO k' i'
theorem gmFv_put {G : GG} {σ : St} {k i : Nat} {v : Int} {N : Nat} (hr : gmFr k i = none) : ((List.range N).map (gmFv G σ k)).set i (.int (Int32.ofInt v)) = (List.range N).map (gmFv G (gmUp σ k i v) k) := by
  apply List.ext_getElem?
  intro j
  rw [List.getElem?_set]
  by_cases hj : i = j
  · subst hj
    rw [if_pos rfl]
    by_cases hN : i < N
    · rw [if_pos (by simp [hN])]
      simp [hN, gmFv, hr, gmUp]
    · rw [if_neg (by simp [hN])]
      simp [hN]
  · rw [if_neg hj]
    by_cases hN : j < N
    · simp only [List.getElem?_map, List.getElem?_range hN, Option.map_some]
      unfold gmFv gmUp
      rw [if_neg (fun q => hj q.2.symm)]
    · simp [hN]
theorem gmUpd_put {σ : St} {k i : Nat} {v : Int} : upd (fun j => Int32.ofInt (σ k j)) i (Int32.ofInt v) = fun j => Int32.ofInt (gmUp σ k i v k j) := by
  funext j
  unfold upd gmUp
  by_cases h : j = i
  · rw [if_pos h, if_pos ⟨rfl, h⟩]
  · rw [if_neg h, if_neg (fun q => h q.2)]
theorem gm_01 {v : Int} (hv : v = 0 ∨ v = 1) : vp_nar .boolean (Int32.ofInt v) = Int32.ofInt v ∧ narrow .boolean (.int (Int32.ofInt v)) = .int (Int32.ofInt v) ∧ fits .boolean (.int (Int32.ofInt v)) = true := by
  rcases hv with rfl | rfl <;> exact ⟨by decide +kernel, by decide +kernel, by decide +kernel⟩
theorem gm_01R {v : Int} (hv : v = 0 ∨ v = 1) : gmR v := by
  rcases hv with rfl | rfl <;> decide
theorem gm_cat (G : GG) : ∀ st : List AV, ((st.map (gmV G)).map fun v => v.category).sum = st.length
  | [] => rfl
  | a :: t => by
    simp only [List.map_cons, List.sum_cons, gmV_cat, List.length_cons]
    have := gm_cat G t
    omega
section GH
variable {φ : Fx} {own : String} {cc : ByteArray} {nl fr lo : Nat} {σ σ' : St} {pc : Nat} {lv : List (Nat × AV)} {st : List AV}
theorem gm_getI (hG : Good φ own cc nl fr lo) {idx ci i k : Nat} (hf : gmFL own idx ci i) (hk : gmKd k = ci) (hr : gmFr k i = none) (hd : decode cc pc = .ok (.getfield idx, 3)) (kk : gmR (σ k i) → J φ σ (pc + 3) lv (.inl (σ k i) :: st)) : J φ σ pc lv (.inr k :: st) := by
  obtain ⟨p, l, e, R, s, m, args, below, meth, c, Q, G, A, cells, slots, nL⟩ := φ
  obtain ⟨hx, hb, hml, hown, hts, hK, -⟩ := hG
  obtain ⟨h7, hi, hl⟩ := hf
  intro H locs ls hW h
  obtain ⟨hO, hP, hD, hS⟩ := id hW
  have he := gmW_at G σ (gmKd_lt (by omega : gmKd k < 99))
  rw [gmE_obj hk h7] at he
  exact va_get (D := G.1) (cl := gmCl) (C := (gmC ci).1) (T := (gmC ci).2.1) (N := (gmC ci).2.2) (ci := ci) (v := .int (Int32.ofInt (σ k i))) hx hb hts (gmU h7) hown hK hP k he (gmCl_at h7) i hi (hts _ hl) (fun _ q => q) (by simp [hi, gmFv, hr]) hd (kk (hO k i) H locs ls hW h)
theorem gm_getR (hG : Good φ own cc nl fr lo) {idx ci i k t : Nat} (hf : gmFL own idx ci i) (hk : gmKd k = ci) (hr : gmFr k i = some t) (hd : decode cc pc = .ok (.getfield idx, 3)) (kk : J φ σ (pc + 3) lv (.inr t :: st)) : J φ σ pc lv (.inr k :: st) := by
  obtain ⟨p, l, e, R, s, m, args, below, meth, c, Q, G, A, cells, slots, nL⟩ := φ
  obtain ⟨hx, hb, hml, hown, hts, hK, -⟩ := hG
  obtain ⟨h7, hi, hl⟩ := hf
  intro H locs ls hW h
  obtain ⟨hO, hP, hD, hS⟩ := id hW
  have he := gmW_at G σ (gmKd_lt (by omega : gmKd k < 99))
  rw [gmE_obj hk h7] at he
  exact va_get (D := G.1) (cl := gmCl) (C := (gmC ci).1) (T := (gmC ci).2.1) (N := (gmC ci).2.2) (ci := ci) (v := .ref (G.2.1 t)) hx hb hts (gmU h7) hown hK hP k he (gmCl_at h7) i hi (hts _ hl) (fun _ q => q) (by simp [hi, gmFv, hr]) hd (kk H locs ls hW h)
theorem gm_putI (hG : Good φ own cc nl fr lo) {idx ci i k : Nat} {v : Int} (hf : gmFL own idx ci i) (hk : gmKd k = ci) (hr : gmFr k i = none) (hfin : ((gmC ci).2.1 i).2.2.2 = false) (hty : gmTy0 ci i = .int) (hR : gmR v) (e : σ' = gmUp σ k i v) (hd : decode cc pc = .ok (.putfield idx, 3)) (kk : J φ σ' (pc + 3) lv st) : J φ σ pc lv (.inl v :: .inr k :: st) := by
  obtain ⟨p, l, e0, R, s, m, args, below, meth, c, Q, G, A, cells, slots, nL⟩ := φ
  obtain ⟨hx, hb, hml, hown, hts, hK, -⟩ := hG
  obtain ⟨h7, hi, hl⟩ := hf
  subst e
  intro H locs ls hW h
  obtain ⟨hO, hP, hD, hS⟩ := id hW
  have hk1 := gmKd_lt (by omega : gmKd k < 99)
  have he := gmW_at G σ hk1
  rw [gmE_obj hk h7] at he
  have hd0 := gmTy0_ok ci h7 i hi
  rw [hty] at hd0
  refine va_put (D := G.1) (cl := gmCl) (C := (gmC ci).1) (T := (gmC ci).2.1) (N := (gmC ci).2.2) (ci := ci) (v := .int (Int32.ofInt v)) (ty := .int) hx hb hts (gmU h7) (gmTy0 ci) (gmTy0_ok ci h7) (gmNm_ok ci h7) hown hK hP hD hS k he (gmCl_at h7) i hi (hts _ hl) (fun _ q => q) hfin hd0 rfl rfl (by simp [hi]) hd (fun H1 locs1 hP1 hD1 hS1 => ?_)
  rw [gmFv_put hr, gmW_set hk1 (gmE_obj hk h7).symm gmUp_ne] at hP1 hD1
  exact kk H1 locs1 ls ⟨gmUp_OK hO hR, hP1, hD1, hS1⟩ h
theorem gm_putZ (hG : Good φ own cc nl fr lo) {idx ci i k : Nat} {v : Int} (hf : gmFL own idx ci i) (hk : gmKd k = ci) (hr : gmFr k i = none) (hfin : ((gmC ci).2.1 i).2.2.2 = false) (hty : gmTy0 ci i = .boolean) (hv : v = 0 ∨ v = 1) (e : σ' = gmUp σ k i v) (hd : decode cc pc = .ok (.putfield idx, 3)) (kk : J φ σ' (pc + 3) lv st) : J φ σ pc lv (.inl v :: .inr k :: st) := by
  obtain ⟨p, l, e0, R, s, m, args, below, meth, c, Q, G, A, cells, slots, nL⟩ := φ
  obtain ⟨hx, hb, hml, hown, hts, hK, -⟩ := hG
  obtain ⟨h7, hi, hl⟩ := hf
  subst e
  intro H locs ls hW h
  obtain ⟨hO, hP, hD, hS⟩ := id hW
  have hk1 := gmKd_lt (by omega : gmKd k < 99)
  have he := gmW_at G σ hk1
  rw [gmE_obj hk h7] at he
  have hd0 := gmTy0_ok ci h7 i hi
  rw [hty] at hd0
  refine va_put (D := G.1) (cl := gmCl) (C := (gmC ci).1) (T := (gmC ci).2.1) (N := (gmC ci).2.2) (ci := ci) (v := .int (Int32.ofInt v)) (ty := .boolean) hx hb hts (gmU h7) (gmTy0 ci) (gmTy0_ok ci h7) (gmNm_ok ci h7) hown hK hP hD hS k he (gmCl_at h7) i hi (hts _ hl) (fun _ q => q) hfin hd0 (gm_01 hv).2.1 (gm_01 hv).2.2 (by simp [hi]) hd (fun H1 locs1 hP1 hD1 hS1 => ?_)
  rw [gmFv_put hr, gmW_set hk1 (gmE_obj hk h7).symm gmUp_ne] at hP1 hD1
  exact kk H1 locs1 ls ⟨gmUp_OK hO (gm_01R hv), hP1, hD1, hS1⟩ h
theorem gm_iald (hG : Good φ own cc nl fr lo) {k : Nat} {i : Int} (hk : gmKd k = 10) {n : Int} {t : Nat} (hn : (gmLn k : Int) = n) (hi : 0 ≤ i ∧ i < n) (ht : i.toNat = t) (hd : decode cc pc = .ok (.iaload, 1)) (kk : gmR (σ k t) → J φ σ (pc + 1) lv (.inl (σ k t) :: st)) : J φ σ pc lv (.inl i :: .inr k :: st) := by
  subst hn
  subst ht
  obtain ⟨p, l, e, R, s, m, args, below, meth, c, Q, G, A, cells, slots, nL⟩ := φ
  obtain ⟨hx, hb, hml, hown, hts, hK, -⟩ := hG
  intro H locs ls hW h
  obtain ⟨hO, hP, hD, hS⟩ := id hW
  have he := gmW_at G σ (gmKd_lt (by omega : gmKd k < 99))
  rw [gmE_num (c := 0) hk (by decide)] at he
  refine va_iald (D := G.1) (cl := gmCl) hx hb hK hP k 0 he (gmTy_at G (by decide)) (gmR_in hi (gmLn_lt k)) hd ?_
  rw [gmR_clamp hi (gmLn_lt k)]
  exact kk (hO k _) H locs ls hW h
theorem gm_bald (hG : Good φ own cc nl fr lo) {k : Nat} {i : Int} (hk : gmKd k = 11) {n : Int} {t : Nat} (hn : (gmLn k : Int) = n) (hi : 0 ≤ i ∧ i < n) (ht : i.toNat = t) (hd : decode cc pc = .ok (.baload, 1)) (kk : gmR (σ k t) → J φ σ (pc + 1) lv (.inl (σ k t) :: st)) : J φ σ pc lv (.inl i :: .inr k :: st) := by
  subst hn
  subst ht
  obtain ⟨p, l, e, R, s, m, args, below, meth, c, Q, G, A, cells, slots, nL⟩ := φ
  obtain ⟨hx, hb, hml, hown, hts, hK, -⟩ := hG
  intro H locs ls hW h
  obtain ⟨hO, hP, hD, hS⟩ := id hW
  have he := gmW_at G σ (gmKd_lt (by omega : gmKd k < 99))
  rw [gmE_num (c := 1) hk (by decide)] at he
  refine va_zald (D := G.1) (cl := gmCl) hx hb hK hP k 1 he (gmTy_at G (by decide)) (gmR_in hi (gmLn_lt k)) hd ?_
  rw [gmR_clamp hi (gmLn_lt k)]
  exact kk (hO k _) H locs ls hW h
theorem gm_iast (hG : Good φ own cc nl fr lo) {k : Nat} {i v : Int} (hk : gmKd k = 10) {n : Int} {t : Nat} (hn : (gmLn k : Int) = n) (hi : 0 ≤ i ∧ i < n) (ht : i.toNat = t) (hR : gmR v) (e : σ' = gmUp σ k t v) (hd : decode cc pc = .ok (.iastore, 1)) (kk : J φ σ' (pc + 1) lv st) : J φ σ pc lv (.inl v :: .inl i :: .inr k :: st) := by
  subst hn
  subst ht
  obtain ⟨p, l, e0, R, s, m, args, below, meth, c, Q, G, A, cells, slots, nL⟩ := φ
  obtain ⟨hx, hb, hml, hown, hts, hK, -⟩ := hG
  subst e
  intro H locs ls hW h
  obtain ⟨hO, hP, hD, hS⟩ := id hW
  have hk1 := gmKd_lt (by omega : gmKd k < 99)
  have he := gmW_at G σ hk1
  rw [gmE_num (c := 0) hk (by decide)] at he
  refine va_iast (D := G.1) (cl := gmCl) (x := Int32.ofInt v) hx hb hK hP hD hS k 0 he (gmTy_at G (by decide)) (gmR_in hi (gmLn_lt k)) hd (fun H1 locs1 hP1 hD1 hS1 => ?_)
  rw [gmR_clamp hi (gmLn_lt k), gmUpd_put, gmW_set hk1 (gmE_num (c := 0) hk (by decide)).symm gmUp_ne] at hP1 hD1
  exact kk H1 locs1 ls ⟨gmUp_OK hO hR, hP1, hD1, hS1⟩ h
theorem gm_bast (hG : Good φ own cc nl fr lo) {k : Nat} {i v : Int} (hk : gmKd k = 11) {n : Int} {t : Nat} (hn : (gmLn k : Int) = n) (hi : 0 ≤ i ∧ i < n) (ht : i.toNat = t) (hv : v = 0 ∨ v = 1) (e : σ' = gmUp σ k t v) (hd : decode cc pc = .ok (.bastore, 1)) (kk : J φ σ' (pc + 1) lv st) : J φ σ pc lv (.inl v :: .inl i :: .inr k :: st) := by
  subst hn
  subst ht
  obtain ⟨p, l, e0, R, s, m, args, below, meth, c, Q, G, A, cells, slots, nL⟩ := φ
  obtain ⟨hx, hb, hml, hown, hts, hK, -⟩ := hG
  subst e
  intro H locs ls hW h
  obtain ⟨hO, hP, hD, hS⟩ := id hW
  have hk1 := gmKd_lt (by omega : gmKd k < 99)
  have he := gmW_at G σ hk1
  rw [gmE_num (c := 1) hk (by decide)] at he
  refine va_zast (D := G.1) (cl := gmCl) (x := Int32.ofInt v) hx hb hK hP hD hS k 1 he (gmTy_at G (by decide)) (gmR_in hi (gmLn_lt k)) hd (fun H1 locs1 hP1 hD1 hS1 => ?_)
  rw [gmR_clamp hi (gmLn_lt k), (gm_01 hv).1, gmUpd_put, gmW_set hk1 (gmE_num (c := 1) hk (by decide)).symm gmUp_ne] at hP1 hD1
  exact kk H1 locs1 ls ⟨gmUp_OK hO (gm_01R hv), hP1, hD1, hS1⟩ h
theorem gm_aald (hG : Good φ own cc nl fr lo) {k : Nat} (c0 : Nat) {C : String} {i : Int} (hk : gmKd k = c0 + 10) (h2 : 2 ≤ c0) (h6 : c0 < 6) (hC : gmTyF c0 = .object C) {n : Int} {t : Nat} (hn : (gmLn k : Int) = n) (hi : 0 ≤ i ∧ i < n) (ht : i.toNat = t) (hd : decode cc pc = .ok (.aaload, 1)) (kk : J φ σ (pc + 1) lv (.inr (gmTg k t) :: st)) : J φ σ pc lv (.inl i :: .inr k :: st) := by
  subst hn
  subst ht
  obtain ⟨p, l, e, R, s, m, args, below, meth, c, Q, G, A, cells, slots, nL⟩ := φ
  obtain ⟨hx, hb, hml, hown, hts, hK, -⟩ := hG
  intro H locs ls hW h
  obtain ⟨hO, hP, hD, hS⟩ := id hW
  have he := gmW_at G σ (gmKd_lt (by omega : gmKd k < 99))
  rw [gmE_ref hk h2] at he
  have ht := gmTy_at G h6
  rw [hC] at ht
  refine va_aldq (D := G.1) (cl := gmCl) hx hb hK hP k c0 he ht (gmR_in hi (gmLn_lt k)) hd ?_
  rw [gmR_clamp hi (gmLn_lt k)]
  exact kk H locs ls hW h
theorem gm_alen (hG : Good φ own cc nl fr lo) {k : Nat} (hk : gmKd k = 10) (hd : decode cc pc = .ok (.arraylength, 1)) (kk : J φ σ (pc + 1) lv (.inl (gmLn k) :: st)) : J φ σ pc lv (.inr k :: st) := by
  obtain ⟨p, l, e, R, s, m, args, below, meth, c, Q, G, A, cells, slots, nL⟩ := φ
  obtain ⟨hx, hb, hml, hown, hts, hK, -⟩ := hG
  intro H locs ls hW h
  obtain ⟨hO, hP, hD, hS⟩ := id hW
  have he := gmW_at G σ (gmKd_lt (by omega : gmKd k < 99))
  rw [gmE_num (c := 0) hk (by decide)] at he
  exact va_alen (D := G.1) (cl := gmCl) hx hb hK hP k 0 he (gmTy_at G (by decide)) (v := Int32.ofInt (gmLn k)) Int32.ofInt_eq_ofNat.symm hd (kk H locs ls hW h)
theorem gm_max (hG : Good φ own cc nl fr lo) {idx : Nat} {x y : Int} (hl : Cond.methodLink own idx Lib.Math.max.name ∈ gmT) (hs : Cond.static Lib.Math.max.name ∈ gmT) (hi : Cond.initialized "java/lang/Math" ∈ gmT) (hc : Cond.code Lib.Math.max.name Lib.Math.max.code 2 (some .int) ∈ gmT) (hR : 1 ≤ fr ∧ st.length + 13 ≤ lo) (h1 : gmR x) (h2 : gmR y) (hd : decode cc pc = .ok (.invokestatic idx, 3)) (kk : gmR (if x < y then y else x) → J φ σ (pc + 3) lv (.inl (if x < y then y else x) :: st)) : J φ σ pc lv (.inl y :: .inl x :: st) := by
  obtain ⟨p, l, e, R, s, m, args, below, meth, c, Q, G, A, cells, slots, nL⟩ := φ
  obtain ⟨hx, hb, hml, hown, hts, hK, hN, hA, hfr, hlo, hcl, hsl, rfl⟩ := hG
  intro H locs ls hW h
  have hcat := gm_cat G st
  have hb2 : gmR (if x < y then y else x) := by split <;> assumption
  refine va_mmax (x := Int32.ofInt x) (y := Int32.ofInt y) hx hb (hml.trans h.1.symm) hown (hts _ hl) (hts _ hs) (hts _ hi) (hts _ hc) (by omega) (by rw [hcat]; omega) hcl hsl hd ?_
  have e2 : (if Int32.ofInt x < Int32.ofInt y then Int32.ofInt y else Int32.ofInt x) = Int32.ofInt (if x < y then y else x) := by
    by_cases q : x < y
    · rw [if_pos q, if_pos ((gmR_lt h1 h2).mpr q)]
    · rw [if_neg q, if_neg (fun z => q ((gmR_lt h1 h2).mp z))]
  rw [e2]
  exact kk hb2 H locs ls hW h
/-- what a copy leaves -/
def gmCp (σ : St) (k0 k1 : Nat) (sp dp n : Int) : St := fun k i => if k = k1 ∧ dp.toNat ≤ i ∧ i < dp.toNat + n.toNat then σ k0 (sp.toNat + (i - dp.toNat)) else σ k i
theorem gm_copy (hG : Good φ own cc nl fr lo) {idx k0 k1 : Nat} {sp dp n : Int} (hl : Cond.methodLink own idx arraycopyName ∈ gmT) (hs : Cond.static arraycopyName ∈ gmT) (hn : Cond.native arraycopyName ∈ gmT) (hi : Cond.initialized "java/lang/System" ∈ gmT) (hR : 1 ≤ fr ∧ st.length + (nativeFrameWords "java/lang/System" "arraycopy" 5 + 11) ≤ lo) (hk0 : gmKd k0 = 10) (hk1 : gmKd k1 = 10) (h1 : 0 ≤ sp ∧ 0 ≤ n ∧ sp + n ≤ gmLn k0) (h2 : 0 ≤ dp ∧ dp + n ≤ gmLn k1) (e : σ' = gmCp σ k0 k1 sp dp n) (hd : decode cc pc = .ok (.invokestatic idx, 3)) (kk : J φ σ' (pc + 3) lv st) : J φ σ pc lv (.inl n :: .inl dp :: .inr k1 :: .inl sp :: .inr k0 :: st) := by
  obtain ⟨p, l, e0, R, s, m, args, below, meth, c, Q, G, A, cells, slots, nL⟩ := φ
  obtain ⟨hx, hb, hml, hown, hts, hK, hN, hA, hfr, hlo, hcl, hsl, rfl⟩ := hG
  subst e
  intro H locs ls hW h
  obtain ⟨hO, hP, hD, hS⟩ := id hW
  have q0 := gmKd_lt (by omega : gmKd k0 < 99)
  have q1 := gmKd_lt (by omega : gmKd k1 < 99)
  have he0 := gmW_at G σ q0
  have he1 := gmW_at G σ q1
  rw [gmE_num (c := 0) hk0 (by decide)] at he0
  rw [gmE_num (c := 0) hk1 (by decide)] at he1
  have l0 := gmLn_lt k0
  have l1 := gmLn_lt k1
  have hcat := gm_cat G st
  have nn : ∀ {x : Int}, 0 ≤ x → x < 2147483648 → ¬ Int32.ofInt x < 0 := by
    intro x a b z
    have := (gmR_lt ⟨by omega, b⟩ gmR_0).mp z
    omega
  have cl : ∀ {x : Int}, 0 ≤ x → x < 2147483648 → (Int32.ofInt x).toNatClampNeg = x.toNat := fun a b => Int32.toNatClampNeg_ofInt_of_le (by omega) (by omega)
  have c1 := cl h1.1 (by omega)
  have c2 := cl h2.1 (by omega)
  have c3 := cl h1.2.1 (by omega)
  refine va_copyi (D := G.1) (cl := gmCl) (sp := Int32.ofInt sp) (dp := Int32.ofInt dp) (n := Int32.ofInt n) (ty := .int) hx hb (hml.trans h.1.symm) hown (hts _ hl) (hts _ hn) (hts _ hs) (hts _ hi) hK hP hD hS k0 k1 0 0 he0 he1 (gmTy_at G (by decide)) (gmTy_at G (by decide)) rfl (nn h1.1 (by omega)) (nn h2.1 (by omega)) (nn h1.2.1 (by omega)) (by rw [c1, c3]; omega) (by rw [c2, c3]; omega) (fun _ _ => rfl) (by omega) (by rw [hcat]; omega) hd (fun H1 locs1 hP1 hD1 hS1 => ?_)
  have key : va_cpy (fun i => Int32.ofInt (σ k0 i)) (fun i => Int32.ofInt (σ k1 i)) sp.toNat dp.toNat n.toNat = fun i => Int32.ofInt (gmCp σ k0 k1 sp dp n k1 i) := by
    funext i
    unfold va_cpy gmCp
    by_cases q : dp.toNat ≤ i ∧ i < dp.toNat + n.toNat
    · rw [if_pos q, if_pos ⟨rfl, q⟩]
    · rw [if_neg q, if_neg (fun z => q z.2)]
  have hO' : gmOK (gmCp σ k0 k1 sp dp n) := by
    intro k i
    unfold gmCp
    split
    · exact hO _ _
    · exact hO _ _
  rw [c1, c2, c3, key, gmW_set q1 (gmE_num (c := 0) hk1 (by decide)).symm (fun j i hj => by unfold gmCp; rw [if_neg (fun z => hj z.1)])] at hP1 hD1
  exact kk H1 locs1 ls ⟨hO', hP1, hD1, hS1⟩ h
/-! calls -/
theorem gm_goodIn {y : MethodName} {bc : ByteArray} {nL : Nat} {ret : Option FieldType} (h : Cond.code y bc nL ret ∈ gmT) : GoodIn gmT (.code y bc nL ret :: gmT) := fun w hw => by
  have hm : w ∈ gmT := by
    rcases List.mem_cons.mp hw with q | q
    · rw [q]; exact h
    · exact q
  exact ⟨hm, good_of_word (gmT_good w hm)⟩
theorem gm_blind {as : List Value} {G : GG} {σ : St} {sz : Nat} : FrameBlind (va_Pc as (gmPre G σ sz)) := fun a U g mk q => by
  obtain ⟨q0, q1, q2, qP, qK, qD, qN⟩ := q
  exact ⟨q0, q1, q2, qP, va_K.moved (u := U) (U := U.calling g mk a) (Vm.Alike.refl U.vm) qK, qD, fun w hw => va_Nw.same (u := U) (U := U.calling g mk a) rfl rfl (qN w hw)⟩
theorem gm_pre {s U : State} {G : GG} {σ : St} {A : Nat → Prop} {H0 H : Heap} {locs : List Loc} {as : List Value} (hW : gmWd G A H0 σ H locs) (hK : va_K G.1 gmCl (gmTy G) s) (hN : gmNw s) (hU : U.heap = H) (hwm : s.WarmedH U.vm) : va_Pc as (gmPre G σ H.size) as.toArray U :=
  ⟨rfl, by rw [hU], hW.1, by rw [hU]; exact hW.2.1, va_K.moved hwm.alike hK, gmD_to hW.2.2.1 (fun _ _ _ => trivial), fun w hw => va_Nw.warmM hwm (hN w hw)⟩
theorem gm_free {G : GG} {σ : St} {A : Nat → Prop} {H0 H : Heap} {locs : List Loc} (hD : va_D A (gmW G σ)) (hS : va_S A H0 H locs) (hA : ∀ q, H0.size ≤ q → A q) : ∀ q, gmA G H.size q → A q := by
  intro q h
  rcases h with ⟨k, hk, rfl⟩ | h
  · exact hD.2 k _ (gmW_at G σ hk)
  · exact hA q (Nat.le_trans hS.1 h)
theorem gm_callVi (hG : Good φ own cc nl fr lo) {idx nL n ci k f lo' : Nat} {y : MethodName} {bc : ByteArray} {ret : Option FieldType} (as st : List AV) {stk : List AV} {v : Int} (hM : gmMV own idx y bc nL ret n ci) (hC : Ctr y bc nL ret f lo' (.inr k :: as) σ (some v) σ') (hk : gmKd k = ci) (hn : as.length = n) (hR : f + 1 ≤ fr ∧ 8 + (nL + 11) + lo' ≤ lo) (hst : st.length ≤ 8) (hstk : stk = as.reverse ++ .inr k :: st) (hd : decode cc pc = .ok (.invokevirtual idx, 3)) (kk : gmR v → J φ σ' (pc + 3) lv (.inl v :: st)) : J φ σ pc lv stk := by
  obtain ⟨p, l, e0, R, s, m, args, below, meth, c, Q, G, A, cells, slots, nL0⟩ := φ
  obtain ⟨hx, hb, hml, hown, hts, hK, hN, hA, hfr, hlo, hcl, hsl, rfl⟩ := hG
  obtain ⟨h7, hyc, w1, w2, w3, w4, w5, hy1, hy2, hy3⟩ := hM
  intro H locs ls hW h
  obtain ⟨hO, hP, hD, hS⟩ := id hW
  have hM' : Met l y (.code y bc nL ret :: gmT) { frames := f, cells := 0, slots := 0, locals := lo' } (va_Pc (.ref (G.2.1 k) :: as.map (gmV G)) (gmPre G σ H.size)) (va_Qi (S := Unit) (fun r' _ => r' = Int32.ofInt v ∧ gmR v ∧ gmOK σ') (fun _ t => va_P G.1 gmCl (gmW G σ') t.heap) (gmA G H.size)) 0 0 (gmA G H.size) := hC hO l G H.size
  have he := gmW_at G σ (gmKd_lt (by omega : gmKd k < 99))
  rw [gmE_obj hk h7] at he
  have cb : CallB R s args own idx y bc nL ret (.code y bc nL ret :: gmT) { frames := f, cells := 0, slots := 0, locals := lo' } 0 0 n := callB_of n hts (gm_goodIn w5) rfl rfl rfl (hts _ w4) (hts _ w1) ⟨hy1, hy2, hy3⟩ ⟨Nat.le_trans hR.1 hfr, Nat.le_trans hR.2 hlo⟩
  have cw : CallW R s args own y.cls idx y bc nL ret (.code y bc nL ret :: gmT) { frames := f, cells := 0, slots := 0, locals := lo' } 0 0 n := ⟨cb, hts _ w2, hts _ w3⟩
  have hrecv : ∃ cellB : Cell, H[G.2.1 k]? = some cellB ∧ cellB.vm.isStatics = false ∧ s.vm.findClass y.cls = some cellB.cls := by
    rw [hyc]
    exact va_recv hK hP (gmCl_at h7) he
  have hfree := gm_free hD hS hA
  have hcat := gm_cat G st
  refine va_calli (mc := 0) (ms := 0) (rest := st.map (gmV G)) (va_runV (As := as.map (gmV G)) (rest := st.map (gmV G)) ⟨hx, hb, hml, hown, hts⟩ hM' cw ⟨gm_blind, hrecv, fun U hU hwm => gm_pre hW hK hN hU hwm⟩ rfl (by rw [List.length_map]; exact hn) h.1 (by show stk.map (gmV G) = _; rw [hstk, List.map_append, List.map_reverse]; rfl) (lv_room (by rw [hcat]; exact hst)) hd ⟨hcl, hsl⟩) hS (fun q _ q2 => hfree q q2) hfree (fun r u t H1 locs1 ht hvm hw hB hz1 hk1 hS1 => ?_)
  obtain ⟨rfl, hv, hO'⟩ := hw
  rw [ht] at hB
  exact kk hv H1 locs1 ls ⟨hO', hB, gmD_to hD (fun _ _ q => q), hS1⟩ h
theorem gm_callVv (hG : Good φ own cc nl fr lo) {idx nL n ci k f lo' : Nat} {y : MethodName} {bc : ByteArray} (as st : List AV) {stk : List AV} (hM : gmMV own idx y bc nL none n ci) (hC : Ctr y bc nL none f lo' (.inr k :: as) σ none σ') (hk : gmKd k = ci) (hn : as.length = n) (hR : f + 1 ≤ fr ∧ 8 + (nL + 11) + lo' ≤ lo) (hst : st.length ≤ 8) (hstk : stk = as.reverse ++ .inr k :: st) (hd : decode cc pc = .ok (.invokevirtual idx, 3)) (kk : J φ σ' (pc + 3) lv st) : J φ σ pc lv stk := by
  obtain ⟨p, l, e0, R, s, m, args, below, meth, c, Q, G, A, cells, slots, nL0⟩ := φ
  obtain ⟨hx, hb, hml, hown, hts, hK, hN, hA, hfr, hlo, hcl, hsl, rfl⟩ := hG
  obtain ⟨h7, hyc, w1, w2, w3, w4, w5, hy1, hy2, hy3⟩ := hM
  intro H locs ls hW h
  obtain ⟨hO, hP, hD, hS⟩ := id hW
  have hM' : Met l y (.code y bc nL none :: gmT) { frames := f, cells := 0, slots := 0, locals := lo' } (va_Pc (.ref (G.2.1 k) :: as.map (gmV G)) (gmPre G σ H.size)) (va_Qv (S := Unit) (fun _ => gmOK σ') (fun _ t => va_P G.1 gmCl (gmW G σ') t.heap) (gmA G H.size)) 0 0 (gmA G H.size) := hC hO l G H.size
  have he := gmW_at G σ (gmKd_lt (by omega : gmKd k < 99))
  rw [gmE_obj hk h7] at he
  have cb : CallB R s args own idx y bc nL none (.code y bc nL none :: gmT) { frames := f, cells := 0, slots := 0, locals := lo' } 0 0 n := callB_of n hts (gm_goodIn w5) rfl rfl rfl (hts _ w4) (hts _ w1) ⟨hy1, hy2, hy3⟩ ⟨Nat.le_trans hR.1 hfr, Nat.le_trans hR.2 hlo⟩
  have cw : CallW R s args own y.cls idx y bc nL none (.code y bc nL none :: gmT) { frames := f, cells := 0, slots := 0, locals := lo' } 0 0 n := ⟨cb, hts _ w2, hts _ w3⟩
  have hrecv : ∃ cellB : Cell, H[G.2.1 k]? = some cellB ∧ cellB.vm.isStatics = false ∧ s.vm.findClass y.cls = some cellB.cls := by
    rw [hyc]
    exact va_recv hK hP (gmCl_at h7) he
  have hfree := gm_free hD hS hA
  have hcat := gm_cat G st
  refine va_callv (mc := 0) (ms := 0) (rest := st.map (gmV G)) (va_runV (As := as.map (gmV G)) (rest := st.map (gmV G)) ⟨hx, hb, hml, hown, hts⟩ hM' cw ⟨gm_blind, hrecv, fun U hU hwm => gm_pre hW hK hN hU hwm⟩ rfl (by rw [List.length_map]; exact hn) h.1 (by show stk.map (gmV G) = _; rw [hstk, List.map_append, List.map_reverse]; rfl) (lv_room (by rw [hcat]; exact hst)) hd ⟨hcl, hsl⟩) hS (fun q _ q2 => hfree q q2) hfree (fun u t H1 locs1 ht hvm hw hB hz1 hk1 hS1 => ?_)
  rw [ht] at hB
  exact kk H1 locs1 ls ⟨hw, hB, gmD_to hD (fun _ _ q => q), hS1⟩ h
theorem gm_callSi (hG : Good φ own cc nl fr lo) {idx nL n f lo' : Nat} {y : MethodName} {bc : ByteArray} {ret : Option FieldType} (as st : List AV) {stk : List AV} {v : Int} (hM : gmMS own idx y bc nL ret n) (hC : Ctr y bc nL ret f lo' as σ (some v) σ') (hn : as.length = n) (hR : f + 1 ≤ fr ∧ 8 + (nL + 11) + lo' ≤ lo) (hst : st.length ≤ 8) (hstk : stk = as.reverse ++ st) (hd : decode cc pc = .ok (.invokestatic idx, 3)) (kk : gmR v → J φ σ' (pc + 3) lv (.inl v :: st)) : J φ σ pc lv stk := by
  obtain ⟨p, l, e0, R, s, m, args, below, meth, c, Q, G, A, cells, slots, nL0⟩ := φ
  obtain ⟨hx, hb, hml, hown, hts, hK, hN, hA, hfr, hlo, hcl, hsl, rfl⟩ := hG
  obtain ⟨hyc, w1, w2, w4, w5, hy1, hy2, hy3⟩ := hM
  intro H locs ls hW h
  obtain ⟨hO, hP, hD, hS⟩ := id hW
  have hM' : Met l y (.code y bc nL ret :: gmT) { frames := f, cells := 0, slots := 0, locals := lo' } (va_Pc (as.map (gmV G)) (gmPre G σ H.size)) (va_Qi (S := Unit) (fun r' _ => r' = Int32.ofInt v ∧ gmR v ∧ gmOK σ') (fun _ t => va_P G.1 gmCl (gmW G σ') t.heap) (gmA G H.size)) 0 0 (gmA G H.size) := hC hO l G H.size
  have cb : CallB R s args own idx y bc nL ret (.code y bc nL ret :: gmT) { frames := f, cells := 0, slots := 0, locals := lo' } 0 0 n := callB_of n hts (gm_goodIn w5) rfl rfl rfl (hts _ w4) (hts _ w1) ⟨hy1, hy2, hy3⟩ ⟨Nat.le_trans hR.1 hfr, Nat.le_trans hR.2 hlo⟩
  have hfree := gm_free hD hS hA
  have hcat := gm_cat G st
  refine va_calli (mc := 0) (ms := 0) (rest := st.map (gmV G)) (va_runS (As := as.map (gmV G)) (rest := st.map (gmV G)) ⟨hx, hb, hml, hown, hts⟩ hM' ⟨cb, hts _ w2⟩ ⟨gm_blind, fun U hU hwm => gm_pre hW hK hN hU hwm⟩ rfl (by rw [List.length_map]; exact hn) h.1 (by show stk.map (gmV G) = _; rw [hstk, List.map_append, List.map_reverse]) (lv_room (by rw [hcat]; exact hst)) hd ⟨hcl, hsl⟩) hS (fun q _ q2 => hfree q q2) hfree (fun r u t H1 locs1 ht hvm hw hB hz1 hk1 hS1 => ?_)
  obtain ⟨rfl, hv, hO'⟩ := hw
  rw [ht] at hB
  exact kk hv H1 locs1 ls ⟨hO', hB, gmD_to hD (fun _ _ q => q), hS1⟩ h
theorem gm_callNi (hG : Good φ own cc nl fr lo) {idx nL n f lo' : Nat} {y : MethodName} {host : String} {bc : ByteArray} {ret : Option FieldType} (as st : List AV) {stk : List AV} {v : Int} (hM : gmMN own idx y host bc nL ret n) (hC : Ctr y bc nL ret f lo' as σ (some v) σ') (hn : as.length = n) (hR : f + 1 ≤ fr ∧ 8 + (nL + 11) + lo' ≤ lo) (hst : st.length ≤ 8) (hstk : stk = as.reverse ++ st) (hd : decode cc pc = .ok (.invokestatic idx, 3)) (kk : gmR v → J φ σ' (pc + 3) lv (.inl v :: st)) : J φ σ pc lv stk := by
  obtain ⟨p, l, e0, R, s, m, args, below, meth, c, Q, G, A, cells, slots, nL0⟩ := φ
  obtain ⟨hx, hb, hml, hown, hts, hK, hN, hA, hfr, hlo, hcl, hsl, rfl⟩ := hG
  obtain ⟨w1, w2, w4, w5, hy1, hy2, hy3⟩ := hM
  intro H locs ls hW h
  obtain ⟨hO, hP, hD, hS⟩ := id hW
  have hM' : Met l y (.code y bc nL ret :: gmT) { frames := f, cells := 0, slots := 0, locals := lo' } (va_Pc (as.map (gmV G)) (gmPre G σ H.size)) (va_Qi (S := Unit) (fun r' _ => r' = Int32.ofInt v ∧ gmR v ∧ gmOK σ') (fun _ t => va_P G.1 gmCl (gmW G σ') t.heap) (gmA G H.size)) 0 0 (gmA G H.size) := hC hO l G H.size
  have cn : va_CN R s args own idx y host bc nL ret (.code y bc nL ret :: gmT) { frames := f, cells := 0, slots := 0, locals := lo' } 0 0 n := va_cnB n hts (gm_goodIn w5) rfl rfl rfl (hN _ w1) (hts _ w4) ⟨hy1, hy2, hy3⟩ ⟨Nat.le_trans hR.1 hfr, Nat.le_trans hR.2 hlo⟩
  have hfree := gm_free hD hS hA
  have hcat := gm_cat G st
  refine va_calli (mc := 0) (ms := 0) (rest := st.map (gmV G)) (va_runSN (As := as.map (gmV G)) (rest := st.map (gmV G)) ⟨hx, hb, hml, hown, hts⟩ hM' ⟨cn, hts _ w2, trivial⟩ ⟨gm_blind, fun U hU hwm => gm_pre hW hK hN hU hwm⟩ rfl (by rw [List.length_map]; exact hn) h.1 (by show stk.map (gmV G) = _; rw [hstk, List.map_append, List.map_reverse]) (lv_room (by rw [hcat]; exact hst)) hd ⟨hcl, hsl⟩) hS (fun q _ q2 => hfree q q2) hfree (fun r u t H1 locs1 ht hvm hw hB hz1 hk1 hS1 => ?_)
  obtain ⟨rfl, hv, hO'⟩ := hw
  rw [ht] at hB
  exact kk hv H1 locs1 ls ⟨hO', hB, gmD_to hD (fun _ _ q => q), hS1⟩ h
end GH
/-! entry and end -/
def FinI (φ : Fx) (cc : ByteArray) (v : Int) (σ' : St) : Prop := match φ with
  | (p, l, e, R, s, m, args, below, meth, c, Q, G, A, cells, slots, nL) => ∀ (pc : Nat) (H : Heap) (locs : List Loc) (ls : Array Slot), decode cc pc = .ok (.ireturn, 1) → gmR v → gmWd G A s.heap σ' H locs → W p l e R s m args below meth c H locs cells slots Q (F0 m pc ls [.int (Int32.ofInt v)])
def FinZ (φ : Fx) (cc : ByteArray) (v : Int) (σ' : St) : Prop := match φ with
  | (p, l, e, R, s, m, args, below, meth, c, Q, G, A, cells, slots, nL) => ∀ (pc : Nat) (H : Heap) (locs : List Loc) (ls : Array Slot), decode cc pc = .ok (.ireturn, 1) → (v = 0 ∨ v = 1) → gmWd G A s.heap σ' H locs → W p l e R s m args below meth c H locs cells slots Q (F0 m pc ls [.int (Int32.ofInt v)])
def FinV (φ : Fx) (cc : ByteArray) (σ' : St) : Prop := match φ with
  | (p, l, e, R, s, m, args, below, meth, c, Q, G, A, cells, slots, nL) => ∀ (pc : Nat) (H : Heap) (locs : List Loc) (ls : Array Slot), decode cc pc = .ok (.return_, 1) → gmWd G A s.heap σ' H locs → W p l e R s m args below meth c H locs cells slots Q (F0 m pc ls [])
theorem gm_iret {φ : Fx} {cc : ByteArray} {v : Int} {σ : St} {pc : Nat} {lv : List (Nat × AV)} (hF : FinI φ cc v σ) (hR : gmR v) (hd : decode cc pc = .ok (.ireturn, 1)) : J φ σ pc lv [.inl v] := by
  obtain ⟨p, l, e0, R, s, m, args, below, meth, c, Q, G, A, cells, slots, nL0⟩ := φ
  intro H locs ls hW h
  exact hF pc H locs ls hd hR hW
theorem gm_zret {φ : Fx} {cc : ByteArray} {v : Int} {σ : St} {pc : Nat} {lv : List (Nat × AV)} (hF : FinZ φ cc v σ) (hR : v = 0 ∨ v = 1) (hd : decode cc pc = .ok (.ireturn, 1)) : J φ σ pc lv [.inl v] := by
  obtain ⟨p, l, e0, R, s, m, args, below, meth, c, Q, G, A, cells, slots, nL0⟩ := φ
  intro H locs ls hW h
  exact hF pc H locs ls hd hR hW
theorem gm_vret {φ : Fx} {cc : ByteArray} {σ : St} {pc : Nat} {lv : List (Nat × AV)} (hF : FinV φ cc σ) (hd : decode cc pc = .ok (.return_, 1)) : J φ σ pc lv [] := by
  obtain ⟨p, l, e0, R, s, m, args, below, meth, c, Q, G, A, cells, slots, nL0⟩ := φ
  intro H locs ls hW h
  exact hF pc H locs ls hd hW
def gmArgs : Nat → List AV → List (Nat × AV)
  | _, [] => []
  | i, v :: vs => (i, v) :: gmArgs (i + 1) vs
theorem gmArgs_lv (G : GG) : ∀ (as : List AV) (i : Nat), lv_args i (as.map (gmV G)) = (gmArgs i as).map fun q => (q.1, gmV G q.2)
  | [], _ => rfl
  | v :: vs, i => by
    show (i, gmV G v) :: lv_args (if (gmV G v).category = 2 then i + 2 else i + 1) (vs.map (gmV G)) = (i, gmV G v) :: _
    rw [if_neg (by rw [gmV_cat]; decide), gmArgs_lv G vs (i + 1)]
theorem gmSl_len (G : GG) : ∀ as : List AV, (lg_sl (as.map (gmV G))).length = as.length
  | [] => rfl
  | v :: vs => by
    have ih := gmSl_len G vs
    unfold lg_sl at ih ⊢
    rw [List.map_cons, List.flatMap_cons, if_neg (by rw [gmV_cat]; decide), List.length_append, ih]
    simp only [List.length_cons, List.length_nil]
    omega
theorem Ctr.ofI {y : MethodName} {bc : ByteArray} {nL f lo : Nat} {as : List AV} {σ σ' : St} {v : Int} {own : String} (hpl : plainName y.cls = true) (hown : y.cls = own) (hlen : as.length ≤ nL) (body : ∀ φ, Good φ own bc nL f lo → FinI φ bc v σ' → J φ σ 0 (gmArgs 0 as) []) : Ctr y bc nL (some .int) f lo as σ (some v) σ' := by
  intro hO l G sz
  refine Met.ofW (cc := bc) (maxL := nL) (ret := some .int) hpl rfl ?_
  intro p e s m args below meth c s₁ B hml hv
  obtain ⟨rfl, hsz, -, hP, hK, hD0, hN⟩ := hv
  subst hsz
  have hx := B.exec
  have hb := B.bytes
  have hr := B.returns
  have hts := atoms_spec (ws := .code y bc nL (some .int) :: gmT) B.pre
  have hown' : s.vm.findClass own = some m.cls := by rw [← hown]; exact findClass_of_methodNamed B.named
  have hlocks := B.notSynchronized
  have hl := lv_entry (as.map (gmV G)) (n := nL) (by rw [gmSl_len]; exact hlen)
  rw [gmArgs_lv] at hl
  rw [lg_entry_eq]
  exact body (p, l, e, { frames := f, cells := 0, slots := 0, locals := lo }, s, m, (as.map (gmV G)).toArray, below, meth, c, MQ below (gmPost G (some v) σ' s.heap.size) (as.map (gmV G)).toArray s 0 0 (gmA G s.heap.size), G, gmA G s.heap.size, 0, 0, nL)
    ⟨hx, hb, hml, hown', fun w hw => hts w (List.mem_cons_of_mem _ hw), hK, hN, fun q h => Or.inr h, Nat.le_refl _, Nat.le_refl _, Nat.le_refl _, Nat.le_refl _, rfl⟩
    (fun pc H locs ls hd hv hW => W.iret hx hb hr (fun t ht hwm => ⟨⟨Int32.ofInt v, (), rfl, ⟨rfl, hv, hW.1⟩, by show va_P G.1 gmCl (gmW G σ') t.heap; rw [ht]; exact hW.2.1⟩, hW.2.2.2.F ht⟩) hW.2.2.2.2.2 hd)
    s.heap [] _ ⟨hO, hP, gmD_to hD0 (fun k hk _ => Or.inl ⟨k, hk, rfl⟩), va_S.rf⟩ hl
theorem Ctr.ofZ {y : MethodName} {bc : ByteArray} {nL f lo : Nat} {as : List AV} {σ σ' : St} {v : Int} {own : String} (hpl : plainName y.cls = true) (hown : y.cls = own) (hlen : as.length ≤ nL) (body : ∀ φ, Good φ own bc nL f lo → FinZ φ bc v σ' → J φ σ 0 (gmArgs 0 as) []) : Ctr y bc nL (some .boolean) f lo as σ (some v) σ' := by
  intro hO l G sz
  refine Met.ofW (cc := bc) (maxL := nL) (ret := some .boolean) hpl rfl ?_
  intro p e s m args below meth c s₁ B hml hv
  obtain ⟨rfl, hsz, -, hP, hK, hD0, hN⟩ := hv
  subst hsz
  have hx := B.exec
  have hb := B.bytes
  have hr := B.returns
  have hts := atoms_spec (ws := .code y bc nL (some .boolean) :: gmT) B.pre
  have hown' : s.vm.findClass own = some m.cls := by rw [← hown]; exact findClass_of_methodNamed B.named
  have hlocks := B.notSynchronized
  have hl := lv_entry (as.map (gmV G)) (n := nL) (by rw [gmSl_len]; exact hlen)
  rw [gmArgs_lv] at hl
  rw [lg_entry_eq]
  exact body (p, l, e, { frames := f, cells := 0, slots := 0, locals := lo }, s, m, (as.map (gmV G)).toArray, below, meth, c, MQ below (gmPost G (some v) σ' s.heap.size) (as.map (gmV G)).toArray s 0 0 (gmA G s.heap.size), G, gmA G s.heap.size, 0, 0, nL)
    ⟨hx, hb, hml, hown', fun w hw => hts w (List.mem_cons_of_mem _ hw), hK, hN, fun q h => Or.inr h, Nat.le_refl _, Nat.le_refl _, Nat.le_refl _, Nat.le_refl _, rfl⟩
    (fun pc H locs ls hd hv hW => W.zret hx hb hr (gm_01 hv).2.1 (fun t ht hwm => ⟨⟨Int32.ofInt v, (), rfl, ⟨rfl, gm_01R hv, hW.1⟩, by show va_P G.1 gmCl (gmW G σ') t.heap; rw [ht]; exact hW.2.1⟩, hW.2.2.2.F ht⟩) hW.2.2.2.2.2 hd)
    s.heap [] _ ⟨hO, hP, gmD_to hD0 (fun k hk _ => Or.inl ⟨k, hk, rfl⟩), va_S.rf⟩ hl
theorem Ctr.ofV {y : MethodName} {bc : ByteArray} {nL f lo : Nat} {as : List AV} {σ σ' : St} {own : String} (hpl : plainName y.cls = true) (hown : y.cls = own) (hlen : as.length ≤ nL) (body : ∀ φ, Good φ own bc nL f lo → FinV φ bc σ' → J φ σ 0 (gmArgs 0 as) []) : Ctr y bc nL none f lo as σ none σ' := by
  intro hO l G sz
  refine Met.ofW (cc := bc) (maxL := nL) (ret := none) hpl rfl ?_
  intro p e s m args below meth c s₁ B hml hv
  obtain ⟨rfl, hsz, -, hP, hK, hD0, hN⟩ := hv
  subst hsz
  have hx := B.exec
  have hb := B.bytes
  have hr := B.returns
  have hts := atoms_spec (ws := .code y bc nL none :: gmT) B.pre
  have hown' : s.vm.findClass own = some m.cls := by rw [← hown]; exact findClass_of_methodNamed B.named
  have hlocks := B.notSynchronized
  have hl := lv_entry (as.map (gmV G)) (n := nL) (by rw [gmSl_len]; exact hlen)
  rw [gmArgs_lv] at hl
  rw [lg_entry_eq]
  exact body (p, l, e, { frames := f, cells := 0, slots := 0, locals := lo }, s, m, (as.map (gmV G)).toArray, below, meth, c, MQ below (gmPost G none σ' s.heap.size) (as.map (gmV G)).toArray s 0 0 (gmA G s.heap.size), G, gmA G s.heap.size, 0, 0, nL)
    ⟨hx, hb, hml, hown', fun w hw => hts w (List.mem_cons_of_mem _ hw), hK, hN, fun q h => Or.inr h, Nat.le_refl _, Nat.le_refl _, Nat.le_refl _, Nat.le_refl _, rfl⟩
    (fun pc H locs ls hd hW => W.vret hx hb hr (fun t ht hwm => ⟨⟨(), rfl, hW.1, by show va_P G.1 gmCl (gmW G σ') t.heap; rw [ht]; exact hW.2.1⟩, hW.2.2.2.F ht⟩) hW.2.2.2.2.2 hd)
    s.heap [] _ ⟨hO, hP, gmD_to hD0 (fun k hk _ => Or.inl ⟨k, hk, rfl⟩), va_S.rf⟩ hl
end
section
/-! BITS, SWITCHES, KINDS, SMALL LAWS FOR THE PRINTED WALKS -/
theorem gm_nI {x : Int} (h : 0 ≤ x) : Int32.ofInt x = nI x.toNat := by
  have : x = ((x.toNat : Nat) : Int) := (Int.toNat_of_nonneg h).symm
  rw [this, Int32.ofInt_eq_ofNat]
  rfl
theorem gm_nIo (n : Nat) : Int32.ofInt (n : Int) = nI n := Int32.ofInt_eq_ofNat
theorem gm_nand (a b : Nat) : nI a &&& nI b = nI (a &&& b) := by
  apply Int32.toBitVec_inj.1
  show BitVec.ofNat 32 a &&& BitVec.ofNat 32 b = BitVec.ofNat 32 (a &&& b)
  rw [BitVec.ofNat_and]
theorem gm_nor (a b : Nat) : nI a ||| nI b = nI (a ||| b) := by
  apply Int32.toBitVec_inj.1
  show BitVec.ofNat 32 a ||| BitVec.ofNat 32 b = BitVec.ofNat 32 (a ||| b)
  rw [BitVec.ofNat_or]
theorem gm_sl : ∀ n, n < 32 → ((nI n &&& 31).toBitVec.smod 32).toNat = n := by decide +kernel
theorem gm_b31 {n : Nat} (h : n < 2147483648) : gmR (n : Int) := ⟨by omega, by omega⟩
theorem gm_orlt {a b : Nat} (ha : a < 2147483648) (hb : b < 2147483648) : a ||| b < 2147483648 := Nat.or_lt_two_pow (n := 31) ha hb
theorem gm_andlt {a b : Nat} (ha : a < 2147483648) : a &&& b < 2147483648 := Nat.lt_of_le_of_lt Nat.and_le_left ha
section GB
variable {φ : Fx} {own : String} {cc : ByteArray} {nl fr lo : Nat} {σ σ' : St} {pc : Nat} {lv : List (Nat × AV)} {st : List AV}
theorem gm_iand (hG : Good φ own cc nl fr lo) {x y : Int} (hd : decode cc pc = .ok (.iand, 1)) (h1 : gmR x) (h2 : gmR y) (hg : 0 ≤ x ∧ 0 ≤ y) (k : gmR ((x.toNat &&& y.toNat : Nat) : Int) → J φ σ (pc + 1) lv (.inl ((x.toNat &&& y.toNat : Nat) : Int) :: st)) : J φ σ pc lv (.inl y :: .inl x :: st) := by
  obtain ⟨p, l, e, R, s, m, args, below, meth, c, Q, G, A, cells, slots, nL⟩ := φ
  obtain ⟨hx, hb, -⟩ := hG
  intro H locs ls hW h
  refine lv_iand (x := Int32.ofInt x) (y := Int32.ofInt y) hx hb hd ?_
  rw [gm_nI hg.1, gm_nI hg.2, gm_nand, ← gm_nIo]
  exact k (gm_b31 (gm_andlt (by omega))) H locs ls hW h
theorem gm_ior (hG : Good φ own cc nl fr lo) {x y : Int} (hd : decode cc pc = .ok (.ior, 1)) (h1 : gmR x) (h2 : gmR y) (hg : 0 ≤ x ∧ 0 ≤ y) (k : gmR ((x.toNat ||| y.toNat : Nat) : Int) → J φ σ (pc + 1) lv (.inl ((x.toNat ||| y.toNat : Nat) : Int) :: st)) : J φ σ pc lv (.inl y :: .inl x :: st) := by
  obtain ⟨p, l, e, R, s, m, args, below, meth, c, Q, G, A, cells, slots, nL⟩ := φ
  obtain ⟨hx, hb, -⟩ := hG
  intro H locs ls hW h
  refine lv_ior (x := Int32.ofInt x) (y := Int32.ofInt y) hx hb hd ?_
  rw [gm_nI hg.1, gm_nI hg.2, gm_nor, ← gm_nIo]
  exact k (gm_b31 (gm_orlt (by omega) (by omega))) H locs ls hW h
theorem gm_iand63 (hG : Good φ own cc nl fr lo) {x : Int} (hd : decode cc pc = .ok (.iand, 1)) (k : gmR (x % 64) → J φ σ (pc + 1) lv (.inl (x % 64) :: st)) : J φ σ pc lv (.inl 63 :: .inl x :: st) := by
  obtain ⟨p, l, e, R, s, m, args, below, meth, c, Q, G, A, cells, slots, nL⟩ := φ
  obtain ⟨hx, hb, -⟩ := hG
  intro H locs ls hW h
  refine lv_iand (x := Int32.ofInt x) (y := Int32.ofInt 63) hx hb hd ?_
  have e1 : (Int32.ofInt x).toBitVec.toNat % 2 ^ 6 = (x % 64).toNat := by
    have : (Int32.ofInt x).toBitVec = BitVec.ofInt 32 x := rfl
    rw [this, BitVec.toNat_ofInt]
    omega
  rw [pk_and (Int32.ofInt x) (m := Int32.ofInt 63) 6 (by decide +kernel), e1, ← gm_nI (Int.emod_nonneg _ (by decide))]
  have a1 := Int.emod_nonneg x (show (64 : Int) ≠ 0 by decide)
  have a2 := Int.emod_lt_of_pos x (show (0 : Int) < 64 by decide)
  exact k ⟨by omega, by omega⟩ H locs ls hW h
theorem gm_ishl (hG : Good φ own cc nl fr lo) {x y : Int} (hd : decode cc pc = .ok (.ishl, 1)) (hg : (0 ≤ x ∧ 0 ≤ y ∧ y < 32) ∧ x * 2 ^ y.toNat < 2147483648) (k : gmR (x * 2 ^ y.toNat) → J φ σ (pc + 1) lv (.inl (x * 2 ^ y.toNat) :: st)) : J φ σ pc lv (.inl y :: .inl x :: st) := by
  obtain ⟨p, l, e, R, s, m, args, below, meth, c, Q, G, A, cells, slots, nL⟩ := φ
  obtain ⟨hx, hb, -⟩ := hG
  intro H locs ls hW h
  refine lv_ishl (x := Int32.ofInt x) (y := Int32.ofInt y) hx hb hd ?_
  obtain ⟨⟨g1, g2, g3⟩, g4⟩ := hg
  have e1 : x = ((x.toNat : Nat) : Int) := (Int.toNat_of_nonneg g1).symm
  have e2 : x * 2 ^ y.toNat = ((x.toNat * 2 ^ y.toNat : Nat) : Int) := by
    rw [Int.natCast_mul, Int.natCast_pow, ← e1]; rfl
  have hlt : x.toNat * 2 ^ y.toNat < 2147483648 := by omega
  rw [gm_nI g1, gm_nI g2, pk_shlN (nI y.toNat &&& 31) y.toNat (gm_sl _ (by omega)) (by omega), ← gm_nIo, ← e2]
  exact k (by rw [e2]; exact gm_b31 hlt) H locs ls hW h
theorem gm_ishr (hG : Good φ own cc nl fr lo) {x y : Int} (hd : decode cc pc = .ok (.ishr, 1)) (h1 : gmR x) (hg : 0 ≤ x ∧ 0 ≤ y ∧ y < 32) (k : gmR (x / 2 ^ y.toNat) → J φ σ (pc + 1) lv (.inl (x / 2 ^ y.toNat) :: st)) : J φ σ pc lv (.inl y :: .inl x :: st) := by
  obtain ⟨p, l, e, R, s, m, args, below, meth, c, Q, G, A, cells, slots, nL⟩ := φ
  obtain ⟨hx, hb, -⟩ := hG
  intro H locs ls hW h
  refine lv_ishr (x := Int32.ofInt x) (y := Int32.ofInt y) hx hb hd ?_
  obtain ⟨g1, g2, g3⟩ := hg
  have e1 : x = ((x.toNat : Nat) : Int) := (Int.toNat_of_nonneg g1).symm
  have e2 : x / 2 ^ y.toNat = ((x.toNat / 2 ^ y.toNat : Nat) : Int) := by
    rw [Int.natCast_ediv, Int.natCast_pow, ← e1]; rfl
  have hlt : x.toNat / 2 ^ y.toNat < 2147483648 := Nat.lt_of_le_of_lt (Nat.div_le_self _ _) (by omega)
  rw [gm_nI g1, gm_nI g2, pk_shrN (by omega) (nI y.toNat &&& 31) y.toNat (gm_sl _ (by omega)), ← gm_nIo, ← e2]
  exact k (by rw [e2]; exact gm_b31 hlt) H locs ls hW h
theorem gm_tswIn (hG : Good φ own cc nl fr lo) {x a b d off : Int} {offs : Array Int} {len tgt : Nat} (j : Int) (hx : x = j) (hj : a ≤ j ∧ j ≤ b ∧ gmR j) (ho : offs[(j - a).toNat]? = some off) (hd : decode cc pc = .ok (.tableswitch d a b offs, len)) (ht : (pc : Int) + off = (tgt : Int)) (k : J φ σ tgt lv st) : J φ σ pc lv (.inl x :: st) := by
  obtain ⟨p, l, e, R, s, m, args, below, meth, c, Q, G, A, cells, slots, nL⟩ := φ
  obtain ⟨hx0, hb, -⟩ := hG
  intro H locs ls hW h
  subst hx
  have e1 := gmR_toInt hj.2.2
  exact lv_tableIn (x := Int32.ofInt x) hx0 hb hd (by rw [e1]; omega) (by rw [e1]; omega) (by rw [e1]; exact ho) ht (k H locs ls hW h)
theorem gm_tswOut (hG : Good φ own cc nl fr lo) {x a b d : Int} {offs : Array Int} {len tgt : Nat} (hr : gmR x) (hx : x < a ∨ b < x) (hd : decode cc pc = .ok (.tableswitch d a b offs, len)) (ht : (pc : Int) + d = (tgt : Int)) (k : J φ σ tgt lv st) : J φ σ pc lv (.inl x :: st) := by
  obtain ⟨p, l, e, R, s, m, args, below, meth, c, Q, G, A, cells, slots, nL⟩ := φ
  obtain ⟨hx0, hb, -⟩ := hG
  intro H locs ls hW h
  exact lv_tableOut (x := Int32.ofInt x) hx0 hb hd (by rw [gmR_toInt hr]; exact hx) ht (k H locs ls hW h)
theorem gm_ok (k : gmOK σ → J φ σ pc lv st) : J φ σ pc lv st := by
  obtain ⟨p, l, e, R, s, m, args, below, meth, c, Q, G, A, cells, slots, nL⟩ := φ
  intro H locs ls hW h
  exact k hW.1 H locs ls hW h
theorem gm_top {x y : Int} (e : x = y) (k : J φ σ pc lv (.inl x :: st)) : J φ σ pc lv (.inl y :: st) := e ▸ k
theorem gm_lv {l2 : List (Nat × AV)} (e : l2 = lv) (k : J φ σ pc l2 st) : J φ σ pc lv st := e ▸ k
theorem gm_sto {σ2 : St} (e : σ2 = σ) (k : J φ σ2 pc lv st) : J φ σ pc lv st := e ▸ k
end GB
theorem gmI_pos {α : Type} {c : Prop} [Decidable c] (hc : c) {a b r : α} (h : (if c then a else b) = r) : a = r := by rw [if_pos hc] at h; exact h
theorem gmI_neg {α : Type} {c : Prop} [Decidable c] (hc : ¬ c) {a b r : α} (h : (if c then a else b) = r) : b = r := by rw [if_neg hc] at h; exact h
theorem gm_iret' {φ : Fx} {cc : ByteArray} {v x : Int} {σ σ' : St} {pc : Nat} {lv : List (Nat × AV)} (hF : FinI φ cc v σ') (h : some (x, σ) = some (v, σ')) (hR : gmR x) (hd : decode cc pc = .ok (.ireturn, 1)) : J φ σ pc lv [.inl x] := by
  cases h
  exact gm_iret hF hR hd
theorem gm_zret' {φ : Fx} {cc : ByteArray} {v x : Int} {σ σ' : St} {pc : Nat} {lv : List (Nat × AV)} (hF : FinZ φ cc v σ') (h : some (x, σ) = some (v, σ')) (hR : x = 0 ∨ x = 1) (hd : decode cc pc = .ok (.ireturn, 1)) : J φ σ pc lv [.inl x] := by
  cases h
  exact gm_zret hF hR hd
theorem gm_vret' {φ : Fx} {cc : ByteArray} {σ σ' : St} {pc : Nat} {lv : List (Nat × AV)} (hF : FinV φ cc σ') (h : some σ = some σ') (hd : decode cc pc = .ok (.return_, 1)) : J φ σ pc lv [] := by
  cases h
  exact gm_vret hF hd
theorem gmR_ite {c : Prop} [Decidable c] {a b : Int} (h1 : c → gmR a) (h2 : ¬ c → gmR b) : gmR (if c then a else b) := by
  by_cases h : c
  · rw [if_pos h]; exact h1 h
  · rw [if_neg h]; exact h2 h
theorem gmZ_ite {c : Prop} [Decidable c] {a b : Int} (h1 : c → a = 0 ∨ a = 1) (h2 : ¬ c → b = 0 ∨ b = 1) : (if c then a else b) = 0 ∨ (if c then a else b) = 1 := by
  by_cases h : c
  · rw [if_pos h]; exact h1 h
  · rw [if_neg h]; exact h2 h
/-! kinds -/
theorem gmKtP {k : Nat} {i : Int} (hk : gmKd k = 12) (hi : 0 ≤ i ∧ i < (gmLn k : Int)) : gmKd (gmTg k i.toNat) = 2 := by
  have : ∀ k, k < 150 → gmKd k = 12 → ∀ i, i < gmLn k → gmKd (gmTg k i) = 2 := by decide +kernel
  exact this k (gmKd_lt (by omega)) hk _ (by omega)
theorem gmKtS {k : Nat} {i : Int} (hk : gmKd k = 13) (hi : 0 ≤ i ∧ i < (gmLn k : Int)) : gmKd (gmTg k i.toNat) = 3 := by
  have : ∀ k, k < 150 → gmKd k = 13 → ∀ i, i < gmLn k → gmKd (gmTg k i) = 3 := by decide +kernel
  exact this k (gmKd_lt (by omega)) hk _ (by omega)
theorem gmKtT {k : Nat} {i : Int} (hk : gmKd k = 14) (hi : 0 ≤ i ∧ i < (gmLn k : Int)) : gmKd (gmTg k i.toNat) = 4 := by
  have : ∀ k, k < 150 → gmKd k = 14 → ∀ i, i < gmLn k → gmKd (gmTg k i) = 4 := by decide +kernel
  exact this k (gmKd_lt (by omega)) hk _ (by omega)
theorem gmKtA {k : Nat} {i : Int} (hk : gmKd k = 15) (hi : 0 ≤ i ∧ i < (gmLn k : Int)) : gmKd (gmTg k i.toNat) = 1 := by
  have : ∀ k, k < 150 → gmKd k = 15 → ∀ i, i < gmLn k → gmKd (gmTg k i) = 1 := by decide +kernel
  exact this k (gmKd_lt (by omega)) hk _ (by omega)
/-- fields of a kind that are numbers -/
theorem gmFrN {k : Nat} (i : Nat) (hk : gmKd k = 1 ∨ gmKd k = 2 ∨ gmKd k = 3) : gmFr k i = none := by
  have h0 : ∀ k, k < 150 → (gmKd k = 1 ∨ gmKd k = 2 ∨ gmKd k = 3) → k ≠ 0 ∧ ¬ (k = 1 ∨ k = 18 ∨ k = 35) ∧ k ≠ 54 ∧ k ≠ 133 := by decide +kernel
  obtain ⟨a, b, c, d⟩ := h0 k (gmKd_lt (by omega)) hk
  unfold gmFr
  rw [if_neg a, if_neg b, if_neg c, if_neg d]
theorem gmS_at {k : Nat} (hk : gmKd k = 4) : k = 1 ∨ k = 18 ∨ k = 35 := by
  have h0 : ∀ k, k < 150 → gmKd k = 4 → k = 1 ∨ k = 18 ∨ k = 35 := by decide +kernel
  exact h0 k (gmKd_lt (by omega)) hk
theorem gmS_N {k : Nat} (hk : gmKd k = 4) : gmFr k 2 = none ∧ gmFr k 5 = none ∧ gmFr k 6 = none ∧ gmFr k 7 = none ∧ gmFr k 8 = none ∧ gmFr k 9 = none := by
  rcases gmS_at hk with rfl | rfl | rfl <;> decide
theorem gmS_R {k : Nat} (hk : gmKd k = 4) : gmFr k 0 = some (k + 1) ∧ gmFr k 1 = some (k + 8) ∧ gmFr k 3 = some (k + 15) ∧ gmFr k 4 = some (k + 16) := by
  rcases gmS_at hk with rfl | rfl | rfl <;> decide
theorem gmS_K {k : Nat} (hk : gmKd k = 4) : (gmKd (k + 1) = 12 ∧ (gmLn (k + 1) : Int) = 6) ∧ (gmKd (k + 8) = 13 ∧ (gmLn (k + 8) : Int) = 6) ∧ (gmKd (k + 15) = 10 ∧ (gmLn (k + 15) : Int) = 3) ∧ (gmKd (k + 16) = 10 ∧ (gmLn (k + 16) : Int) = 3) := by
  rcases gmS_at hk with rfl | rfl | rfl <;> decide
end
