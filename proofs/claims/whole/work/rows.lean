section
-- ===== PART A: goes FIRST, ahead of the names: the tables' words, and 'selects' of the private methods out of them =====
/-- a private method of a class that the tables say can be made, by its rows of tables_1 -/
def lw_okq (q : MethodName × Nat) : Prop := (q.1.cls ≠ "java/lang/invoke/MethodHandle" ∧ q.1.cls ≠ "java/lang/invoke/VarHandle") ∧ Cond.instantiable q.1.cls q.2 ∈ tables_1 ∧ Cond.privateMethod q.1 ∈ tables_1 ∧ Cond.instanceMethod q.1 ∈ tables_1
theorem lw_p0 : lw_okq (⟨"GarmentMarker", "sideOrError", "(III)I"⟩, 5) := ⟨⟨by decide +kernel, by decide +kernel⟩, List.mem_of_getElem? (i := 11) (by decide +kernel), List.mem_of_getElem? (i := 270) (by decide +kernel), List.mem_of_getElem? (i := 271) (by decide +kernel)⟩
theorem lw_p1 : lw_okq (⟨"GarmentMarker", "placeOrError", "(I)I"⟩, 5) := ⟨⟨by decide +kernel, by decide +kernel⟩, List.mem_of_getElem? (i := 11) (by decide +kernel), List.mem_of_getElem? (i := 391) (by decide +kernel), List.mem_of_getElem? (i := 392) (by decide +kernel)⟩
theorem lw_p2 : lw_okq (⟨"GarmentMarker", "lengthFor", "([I)I"⟩, 5) := ⟨⟨by decide +kernel, by decide +kernel⟩, List.mem_of_getElem? (i := 11) (by decide +kernel), List.mem_of_getElem? (i := 458) (by decide +kernel), List.mem_of_getElem? (i := 459) (by decide +kernel)⟩
theorem lw_p3 : lw_okq (⟨"GarmentMarker", "findBestPacking", "()I"⟩, 5) := ⟨⟨by decide +kernel, by decide +kernel⟩, List.mem_of_getElem? (i := 11) (by decide +kernel), List.mem_of_getElem? (i := 478) (by decide +kernel), List.mem_of_getElem? (i := 479) (by decide +kernel)⟩
theorem lw_p4 : lw_okq (⟨"GarmentMarker", "lookAtMix", "(I)V"⟩, 5) := ⟨⟨by decide +kernel, by decide +kernel⟩, List.mem_of_getElem? (i := 11) (by decide +kernel), List.mem_of_getElem? (i := 516) (by decide +kernel), List.mem_of_getElem? (i := 517) (by decide +kernel)⟩
theorem lw_p5 : lw_okq (⟨"GarmentMarker", "findBestMix", "()I"⟩, 5) := ⟨⟨by decide +kernel, by decide +kernel⟩, List.mem_of_getElem? (i := 11) (by decide +kernel), List.mem_of_getElem? (i := 524) (by decide +kernel), List.mem_of_getElem? (i := 525) (by decide +kernel)⟩
theorem lw_p6 : lw_okq (⟨"GarmentMarkerModel", "isPiece", "(I)Z"⟩, 23) := ⟨⟨by decide +kernel, by decide +kernel⟩, List.mem_of_getElem? (i := 556) (by decide +kernel), List.mem_of_getElem? (i := 643) (by decide +kernel), List.mem_of_getElem? (i := 644) (by decide +kernel)⟩
theorem lw_p7 : lw_okq (⟨"GarmentMarkerModel", "dropSeam", "(I)V"⟩, 23) := ⟨⟨by decide +kernel, by decide +kernel⟩, List.mem_of_getElem? (i := 556) (by decide +kernel), List.mem_of_getElem? (i := 647) (by decide +kernel), List.mem_of_getElem? (i := 648) (by decide +kernel)⟩
theorem lw_p8 : lw_okq (⟨"GarmentMarkerModel", "widthOf", "(II)I"⟩, 23) := ⟨⟨by decide +kernel, by decide +kernel⟩, List.mem_of_getElem? (i := 556) (by decide +kernel), List.mem_of_getElem? (i := 658) (by decide +kernel), List.mem_of_getElem? (i := 659) (by decide +kernel)⟩
theorem lw_p9 : lw_okq (⟨"GarmentMarkerModel", "lengthOf", "(II)I"⟩, 23) := ⟨⟨by decide +kernel, by decide +kernel⟩, List.mem_of_getElem? (i := 556) (by decide +kernel), List.mem_of_getElem? (i := 666) (by decide +kernel), List.mem_of_getElem? (i := 667) (by decide +kernel)⟩
theorem lw_p10 : lw_okq (⟨"GarmentMarkerModel", "differenceOf", "(II)I"⟩, 23) := ⟨⟨by decide +kernel, by decide +kernel⟩, List.mem_of_getElem? (i := 556) (by decide +kernel), List.mem_of_getElem? (i := 682) (by decide +kernel), List.mem_of_getElem? (i := 683) (by decide +kernel)⟩
theorem lw_p11 : lw_okq (⟨"GarmentMarkerModel", "sideOf", "(III)I"⟩, 23) := ⟨⟨by decide +kernel, by decide +kernel⟩, List.mem_of_getElem? (i := 556) (by decide +kernel), List.mem_of_getElem? (i := 686) (by decide +kernel), List.mem_of_getElem? (i := 687) (by decide +kernel)⟩
theorem lw_p12 : lw_okq (⟨"GarmentMarkerModel", "matches", "(I)Z"⟩, 23) := ⟨⟨by decide +kernel, by decide +kernel⟩, List.mem_of_getElem? (i := 556) (by decide +kernel), List.mem_of_getElem? (i := 694) (by decide +kernel), List.mem_of_getElem? (i := 695) (by decide +kernel)⟩
theorem lw_p13 : lw_okq (⟨"GarmentMarkerModel", "set", "(II)I"⟩, 23) := ⟨⟨by decide +kernel, by decide +kernel⟩, List.mem_of_getElem? (i := 556) (by decide +kernel), List.mem_of_getElem? (i := 706) (by decide +kernel), List.mem_of_getElem? (i := 707) (by decide +kernel)⟩
theorem lw_p14 : lw_okq (⟨"GarmentMarkerModel", "layParts", "()V"⟩, 23) := ⟨⟨by decide +kernel, by decide +kernel⟩, List.mem_of_getElem? (i := 556) (by decide +kernel), List.mem_of_getElem? (i := 737) (by decide +kernel), List.mem_of_getElem? (i := 738) (by decide +kernel)⟩
theorem lw_p15 : lw_okq (⟨"GarmentMarkerModel", "addPart", "(II)V"⟩, 23) := ⟨⟨by decide +kernel, by decide +kernel⟩, List.mem_of_getElem? (i := 556) (by decide +kernel), List.mem_of_getElem? (i := 741) (by decide +kernel), List.mem_of_getElem? (i := 742) (by decide +kernel)⟩
def lw_privs_1 : List (MethodName × Nat) := [(⟨"GarmentMarker", "sideOrError", "(III)I"⟩, 5), (⟨"GarmentMarker", "placeOrError", "(I)I"⟩, 5), (⟨"GarmentMarker", "lengthFor", "([I)I"⟩, 5), (⟨"GarmentMarker", "findBestPacking", "()I"⟩, 5), (⟨"GarmentMarker", "lookAtMix", "(I)V"⟩, 5), (⟨"GarmentMarker", "findBestMix", "()I"⟩, 5), (⟨"GarmentMarkerModel", "isPiece", "(I)Z"⟩, 23), (⟨"GarmentMarkerModel", "dropSeam", "(I)V"⟩, 23), (⟨"GarmentMarkerModel", "widthOf", "(II)I"⟩, 23), (⟨"GarmentMarkerModel", "lengthOf", "(II)I"⟩, 23), (⟨"GarmentMarkerModel", "differenceOf", "(II)I"⟩, 23), (⟨"GarmentMarkerModel", "sideOf", "(III)I"⟩, 23), (⟨"GarmentMarkerModel", "matches", "(I)Z"⟩, 23), (⟨"GarmentMarkerModel", "set", "(II)I"⟩, 23), (⟨"GarmentMarkerModel", "layParts", "()V"⟩, 23), (⟨"GarmentMarkerModel", "addPart", "(II)V"⟩, 23)]
theorem lw_r1 : ∀ q ∈ lw_privs_1, lw_okq q := List.forall_mem_cons.mpr ⟨lw_p0, List.forall_mem_cons.mpr ⟨lw_p1, List.forall_mem_cons.mpr ⟨lw_p2, List.forall_mem_cons.mpr ⟨lw_p3, List.forall_mem_cons.mpr ⟨lw_p4, List.forall_mem_cons.mpr ⟨lw_p5, List.forall_mem_cons.mpr ⟨lw_p6, List.forall_mem_cons.mpr ⟨lw_p7, List.forall_mem_cons.mpr ⟨lw_p8, List.forall_mem_cons.mpr ⟨lw_p9, List.forall_mem_cons.mpr ⟨lw_p10, List.forall_mem_cons.mpr ⟨lw_p11, List.forall_mem_cons.mpr ⟨lw_p12, List.forall_mem_cons.mpr ⟨lw_p13, List.forall_mem_cons.mpr ⟨lw_p14, List.forall_mem_cons.mpr ⟨lw_p15, fun _ h => absurd h List.not_mem_nil⟩⟩⟩⟩⟩⟩⟩⟩⟩⟩⟩⟩⟩⟩⟩⟩
theorem lw_p16 : lw_okq (⟨"GarmentMarkerModel", "stripWidth", "()I"⟩, 23) := ⟨⟨by decide +kernel, by decide +kernel⟩, List.mem_of_getElem? (i := 556) (by decide +kernel), List.mem_of_getElem? (i := 745) (by decide +kernel), List.mem_of_getElem? (i := 746) (by decide +kernel)⟩
theorem lw_p17 : lw_okq (⟨"GarmentMarkerModel", "isPart", "(I)Z"⟩, 23) := ⟨⟨by decide +kernel, by decide +kernel⟩, List.mem_of_getElem? (i := 556) (by decide +kernel), List.mem_of_getElem? (i := 757) (by decide +kernel), List.mem_of_getElem? (i := 758) (by decide +kernel)⟩
theorem lw_p18 : lw_okq (⟨"GarmentMarkerModel", "packNow", "()Z"⟩, 23) := ⟨⟨by decide +kernel, by decide +kernel⟩, List.mem_of_getElem? (i := 556) (by decide +kernel), List.mem_of_getElem? (i := 769) (by decide +kernel), List.mem_of_getElem? (i := 770) (by decide +kernel)⟩
theorem lw_p19 : lw_okq (⟨"GarmentMarkerModel", "pack", "(II)Z"⟩, 23) := ⟨⟨by decide +kernel, by decide +kernel⟩, List.mem_of_getElem? (i := 556) (by decide +kernel), List.mem_of_getElem? (i := 773) (by decide +kernel), List.mem_of_getElem? (i := 774) (by decide +kernel)⟩
theorem lw_p20 : lw_okq (⟨"GarmentMarkerModel", "layOrder", "(I)V"⟩, 23) := ⟨⟨by decide +kernel, by decide +kernel⟩, List.mem_of_getElem? (i := 556) (by decide +kernel), List.mem_of_getElem? (i := 777) (by decide +kernel), List.mem_of_getElem? (i := 778) (by decide +kernel)⟩
theorem lw_p21 : lw_okq (⟨"GarmentMarkerModel", "keyOf", "(II)I"⟩, 23) := ⟨⟨by decide +kernel, by decide +kernel⟩, List.mem_of_getElem? (i := 556) (by decide +kernel), List.mem_of_getElem? (i := 781) (by decide +kernel), List.mem_of_getElem? (i := 782) (by decide +kernel)⟩
theorem lw_p22 : lw_okq (⟨"GarmentMarkerModel", "packShelves", "(I)V"⟩, 23) := ⟨⟨by decide +kernel, by decide +kernel⟩, List.mem_of_getElem? (i := 556) (by decide +kernel), List.mem_of_getElem? (i := 785) (by decide +kernel), List.mem_of_getElem? (i := 786) (by decide +kernel)⟩
theorem lw_p23 : lw_okq (⟨"GarmentMarkerModel", "shelfFor", "(II)I"⟩, 23) := ⟨⟨by decide +kernel, by decide +kernel⟩, List.mem_of_getElem? (i := 556) (by decide +kernel), List.mem_of_getElem? (i := 789) (by decide +kernel), List.mem_of_getElem? (i := 790) (by decide +kernel)⟩
theorem lw_p24 : lw_okq (⟨"GarmentMarkerModel", "packFree", "(I)V"⟩, 23) := ⟨⟨by decide +kernel, by decide +kernel⟩, List.mem_of_getElem? (i := 556) (by decide +kernel), List.mem_of_getElem? (i := 793) (by decide +kernel), List.mem_of_getElem? (i := 794) (by decide +kernel)⟩
theorem lw_p25 : lw_okq (⟨"GarmentMarkerModel", "freeAt", "(III)I"⟩, 23) := ⟨⟨by decide +kernel, by decide +kernel⟩, List.mem_of_getElem? (i := 556) (by decide +kernel), List.mem_of_getElem? (i := 797) (by decide +kernel), List.mem_of_getElem? (i := 798) (by decide +kernel)⟩
theorem lw_p26 : lw_okq (⟨"GarmentMarkerModel", "takenFrom", "(II)I"⟩, 23) := ⟨⟨by decide +kernel, by decide +kernel⟩, List.mem_of_getElem? (i := 556) (by decide +kernel), List.mem_of_getElem? (i := 801) (by decide +kernel), List.mem_of_getElem? (i := 802) (by decide +kernel)⟩
theorem lw_p27 : lw_okq (⟨"GarmentMarkerModel", "lengthNow", "()I"⟩, 23) := ⟨⟨by decide +kernel, by decide +kernel⟩, List.mem_of_getElem? (i := 556) (by decide +kernel), List.mem_of_getElem? (i := 821) (by decide +kernel), List.mem_of_getElem? (i := 822) (by decide +kernel)⟩
theorem lw_p28 : lw_okq (⟨"GarmentMarkerModel", "lengthBy", "(II)I"⟩, 23) := ⟨⟨by decide +kernel, by decide +kernel⟩, List.mem_of_getElem? (i := 556) (by decide +kernel), List.mem_of_getElem? (i := 825) (by decide +kernel), List.mem_of_getElem? (i := 826) (by decide +kernel)⟩
theorem lw_p29 : lw_okq (⟨"GarmentMarkerModel", "packedLength", "()I"⟩, 23) := ⟨⟨by decide +kernel, by decide +kernel⟩, List.mem_of_getElem? (i := 556) (by decide +kernel), List.mem_of_getElem? (i := 829) (by decide +kernel), List.mem_of_getElem? (i := 830) (by decide +kernel)⟩
theorem lw_p30 : lw_okq (⟨"GarmentMarkerModel", "findBest", "()I"⟩, 23) := ⟨⟨by decide +kernel, by decide +kernel⟩, List.mem_of_getElem? (i := 556) (by decide +kernel), List.mem_of_getElem? (i := 845) (by decide +kernel), List.mem_of_getElem? (i := 846) (by decide +kernel)⟩
theorem lw_p31 : lw_okq (⟨"GarmentMarkerModel", "pliesNow", "()I"⟩, 23) := ⟨⟨by decide +kernel, by decide +kernel⟩, List.mem_of_getElem? (i := 556) (by decide +kernel), List.mem_of_getElem? (i := 861) (by decide +kernel), List.mem_of_getElem? (i := 862) (by decide +kernel)⟩
def lw_privs_2 : List (MethodName × Nat) := [(⟨"GarmentMarkerModel", "stripWidth", "()I"⟩, 23), (⟨"GarmentMarkerModel", "isPart", "(I)Z"⟩, 23), (⟨"GarmentMarkerModel", "packNow", "()Z"⟩, 23), (⟨"GarmentMarkerModel", "pack", "(II)Z"⟩, 23), (⟨"GarmentMarkerModel", "layOrder", "(I)V"⟩, 23), (⟨"GarmentMarkerModel", "keyOf", "(II)I"⟩, 23), (⟨"GarmentMarkerModel", "packShelves", "(I)V"⟩, 23), (⟨"GarmentMarkerModel", "shelfFor", "(II)I"⟩, 23), (⟨"GarmentMarkerModel", "packFree", "(I)V"⟩, 23), (⟨"GarmentMarkerModel", "freeAt", "(III)I"⟩, 23), (⟨"GarmentMarkerModel", "takenFrom", "(II)I"⟩, 23), (⟨"GarmentMarkerModel", "lengthNow", "()I"⟩, 23), (⟨"GarmentMarkerModel", "lengthBy", "(II)I"⟩, 23), (⟨"GarmentMarkerModel", "packedLength", "()I"⟩, 23), (⟨"GarmentMarkerModel", "findBest", "()I"⟩, 23), (⟨"GarmentMarkerModel", "pliesNow", "()I"⟩, 23)]
theorem lw_r2 : ∀ q ∈ lw_privs_2, lw_okq q := List.forall_mem_cons.mpr ⟨lw_p16, List.forall_mem_cons.mpr ⟨lw_p17, List.forall_mem_cons.mpr ⟨lw_p18, List.forall_mem_cons.mpr ⟨lw_p19, List.forall_mem_cons.mpr ⟨lw_p20, List.forall_mem_cons.mpr ⟨lw_p21, List.forall_mem_cons.mpr ⟨lw_p22, List.forall_mem_cons.mpr ⟨lw_p23, List.forall_mem_cons.mpr ⟨lw_p24, List.forall_mem_cons.mpr ⟨lw_p25, List.forall_mem_cons.mpr ⟨lw_p26, List.forall_mem_cons.mpr ⟨lw_p27, List.forall_mem_cons.mpr ⟨lw_p28, List.forall_mem_cons.mpr ⟨lw_p29, List.forall_mem_cons.mpr ⟨lw_p30, List.forall_mem_cons.mpr ⟨lw_p31, fun _ h => absurd h List.not_mem_nil⟩⟩⟩⟩⟩⟩⟩⟩⟩⟩⟩⟩⟩⟩⟩⟩
theorem lw_p32 : lw_okq (⟨"GarmentMarkerModel", "clothNow", "()I"⟩, 23) := ⟨⟨by decide +kernel, by decide +kernel⟩, List.mem_of_getElem? (i := 556) (by decide +kernel), List.mem_of_getElem? (i := 869) (by decide +kernel), List.mem_of_getElem? (i := 870) (by decide +kernel)⟩
theorem lw_p33 : lw_okq (⟨"GarmentMarkerModel", "surplusNow", "()I"⟩, 23) := ⟨⟨by decide +kernel, by decide +kernel⟩, List.mem_of_getElem? (i := 556) (by decide +kernel), List.mem_of_getElem? (i := 877) (by decide +kernel), List.mem_of_getElem? (i := 878) (by decide +kernel)⟩
theorem lw_p34 : lw_okq (⟨"GarmentMarkerModel", "findMix", "()V"⟩, 23) := ⟨⟨by decide +kernel, by decide +kernel⟩, List.mem_of_getElem? (i := 556) (by decide +kernel), List.mem_of_getElem? (i := 885) (by decide +kernel), List.mem_of_getElem? (i := 886) (by decide +kernel)⟩
theorem lw_p35 : lw_okq (⟨"GarmentMarkerModel", "tryMix", "(I)V"⟩, 23) := ⟨⟨by decide +kernel, by decide +kernel⟩, List.mem_of_getElem? (i := 556) (by decide +kernel), List.mem_of_getElem? (i := 889) (by decide +kernel), List.mem_of_getElem? (i := 890) (by decide +kernel)⟩
theorem lw_p36 : lw_okq (⟨"GarmentMarkerModel", "setMix", "(I)V"⟩, 23) := ⟨⟨by decide +kernel, by decide +kernel⟩, List.mem_of_getElem? (i := 556) (by decide +kernel), List.mem_of_getElem? (i := 893) (by decide +kernel), List.mem_of_getElem? (i := 894) (by decide +kernel)⟩
def lw_privs_3 : List (MethodName × Nat) := [(⟨"GarmentMarkerModel", "clothNow", "()I"⟩, 23), (⟨"GarmentMarkerModel", "surplusNow", "()I"⟩, 23), (⟨"GarmentMarkerModel", "findMix", "()V"⟩, 23), (⟨"GarmentMarkerModel", "tryMix", "(I)V"⟩, 23), (⟨"GarmentMarkerModel", "setMix", "(I)V"⟩, 23)]
theorem lw_r3 : ∀ q ∈ lw_privs_3, lw_okq q := List.forall_mem_cons.mpr ⟨lw_p32, List.forall_mem_cons.mpr ⟨lw_p33, List.forall_mem_cons.mpr ⟨lw_p34, List.forall_mem_cons.mpr ⟨lw_p35, List.forall_mem_cons.mpr ⟨lw_p36, fun _ h => absurd h List.not_mem_nil⟩⟩⟩⟩⟩
def lw_privs : List (MethodName × Nat) := lw_privs_1 ++ (lw_privs_2 ++ (lw_privs_3))
def lw_tbl : List Cond := k2_sels lw_privs ++ tables_1
theorem lw_privs_ok : ∀ q ∈ lw_privs, lw_okq q := by
  show ∀ q ∈ lw_privs_1 ++ (lw_privs_2 ++ (lw_privs_3)), lw_okq q
  exact List.forall_mem_append.mpr ⟨lw_r1, List.forall_mem_append.mpr ⟨lw_r2, lw_r3⟩⟩
-- ===== end of PART A; then your names; then what follows =====
/-! class tables -/
def gmR0 : String := "GarmentMarker$Marker"
def gmT0 : u_T := fun k => match k with
  | 0 => ("GarmentMarker$Marker", "parts", "[LGarmentMarker$Part;", true)
  | 1 => ("GarmentMarker$Marker", "total", "I", false)
  | 2 => ("GarmentMarker$Marker", "stripWidth", "I", false)
  | 3 => ("GarmentMarker$Marker", "sequence", "[I", true)
  | 4 => ("GarmentMarker$Marker", "shelfStart", "[I", true)
  | 5 => ("GarmentMarker$Marker", "shelfDepth", "[I", true)
  | _ => ("GarmentMarker$Marker", "shelfUsed", "[I", true)
def gmR1 : String := "GarmentMarker$Part"
def gmT1 : u_T := fun k => match k with
  | 0 => ("GarmentMarker$Part", "size", "I", false)
  | 1 => ("GarmentMarker$Part", "piece", "I", false)
  | 2 => ("GarmentMarker$Part", "fold", "Z", false)
  | 3 => ("GarmentMarker$Part", "alongExtent", "I", false)
  | 4 => ("GarmentMarker$Part", "acrossExtent", "I", false)
  | 5 => ("GarmentMarker$Part", "along", "I", false)
  | 6 => ("GarmentMarker$Part", "across", "I", false)
  | 7 => ("GarmentMarker$Part", "alongEnd", "I", false)
  | _ => ("GarmentMarker$Part", "acrossBits", "I", false)
def gmR2 : String := "GarmentMarker$Piece"
def gmT2 : u_T := fun k => match k with
  | 0 => ("GarmentMarker$Piece", "defined", "Z", false)
  | 1 => ("GarmentMarker$Piece", "width", "I", false)
  | 2 => ("GarmentMarker$Piece", "length", "I", false)
  | 3 => ("GarmentMarker$Piece", "widthGrowth", "I", false)
  | 4 => ("GarmentMarker$Piece", "lengthGrowth", "I", false)
  | _ => ("GarmentMarker$Piece", "copies", "I", false)
def gmR3 : String := "GarmentMarker$Seam"
def gmT3 : u_T := fun k => match k with
  | 0 => ("GarmentMarker$Seam", "firstPiece", "I", false)
  | 1 => ("GarmentMarker$Seam", "firstSide", "I", false)
  | 2 => ("GarmentMarker$Seam", "secondPiece", "I", false)
  | 3 => ("GarmentMarker$Seam", "secondSide", "I", false)
  | _ => ("GarmentMarker$Seam", "ease", "I", false)
def gmR4 : String := "GarmentMarker$State"
def gmT4 : u_T := fun k => match k with
  | 0 => ("GarmentMarker$State", "pieces", "[LGarmentMarker$Piece;", true)
  | 1 => ("GarmentMarker$State", "seams", "[LGarmentMarker$Seam;", true)
  | 2 => ("GarmentMarker$State", "seamTotal", "I", false)
  | 3 => ("GarmentMarker$State", "ratios", "[I", true)
  | 4 => ("GarmentMarker$State", "ordered", "[I", true)
  | 5 => ("GarmentMarker$State", "clothWidth", "I", false)
  | 6 => ("GarmentMarker$State", "folded", "Z", false)
  | 7 => ("GarmentMarker$State", "rotation", "Z", false)
  | 8 => ("GarmentMarker$State", "method", "I", false)
  | _ => ("GarmentMarker$State", "order", "I", false)
def gmR5 : String := "GarmentMarker"
def gmT5 : u_T := fun k => match k with
  | 0 => ("GarmentMarker", "now", "LGarmentMarker$State;", true)
  | 1 => ("GarmentMarker", "slots", "[LGarmentMarker$State;", true)
  | 2 => ("GarmentMarker", "saved", "[Z", true)
  | 3 => ("GarmentMarker", "marker", "LGarmentMarker$Marker;", true)
  | _ => ("GarmentMarker", "mix", "[I", true)
def gmR6 : String := "GarmentMarkerModel"
def gmT6 : u_T := fun k => match k with
  | 0 => ("GarmentMarkerModel", "state", "[I", true)
  | 1 => ("GarmentMarkerModel", "slots", "[I", true)
  | 2 => ("GarmentMarkerModel", "isSaved", "[Z", true)
  | 3 => ("GarmentMarkerModel", "size", "[I", true)
  | 4 => ("GarmentMarkerModel", "piece", "[I", true)
  | 5 => ("GarmentMarkerModel", "across", "[I", true)
  | 6 => ("GarmentMarkerModel", "along", "[I", true)
  | 7 => ("GarmentMarkerModel", "isFold", "[Z", true)
  | 8 => ("GarmentMarkerModel", "parts", "I", false)
  | 9 => ("GarmentMarkerModel", "order", "[I", true)
  | 10 => ("GarmentMarkerModel", "atAlong", "[I", true)
  | 11 => ("GarmentMarkerModel", "atAcross", "[I", true)
  | 12 => ("GarmentMarkerModel", "shelfStart", "[I", true)
  | 13 => ("GarmentMarkerModel", "shelfDepth", "[I", true)
  | 14 => ("GarmentMarkerModel", "shelfUsed", "[I", true)
  | 15 => ("GarmentMarkerModel", "shelves", "I", false)
  | 16 => ("GarmentMarkerModel", "taken", "[I", true)
  | 17 => ("GarmentMarkerModel", "bestNumber", "I", false)
  | 18 => ("GarmentMarkerModel", "had", "[I", true)
  | 19 => ("GarmentMarkerModel", "good", "I", false)
  | 20 => ("GarmentMarkerModel", "bestMix", "I", false)
  | 21 => ("GarmentMarkerModel", "bestCloth", "I", false)
  | _ => ("GarmentMarkerModel", "bestSurplus", "I", false)
def gmC (ci : Nat) : vw_C := match ci with
  | 0 => (gmR0, gmT0, 7)
  | 1 => (gmR1, gmT1, 9)
  | 2 => (gmR2, gmT2, 6)
  | 3 => (gmR3, gmT3, 5)
  | 4 => (gmR4, gmT4, 10)
  | 5 => (gmR5, gmT5, 5)
  | _ => (gmR6, gmT6, 23)
abbrev gmCl : List vw_C := [gmC 0, gmC 1, gmC 2, gmC 3, gmC 4, gmC 5, gmC 6]
theorem gmCl_at : ∀ {ci : Nat}, ci < 7 → gmCl[ci]? = some (gmC ci)
  | 0, _ => rfl
  | 1, _ => rfl
  | 2, _ => rfl
  | 3, _ => rfl
  | 4, _ => rfl
  | 5, _ => rfl
  | 6, _ => rfl
  | n + 7, h => absurd h (by omega)
def gmTy0 (ci i : Nat) : FieldType := (parseFieldDescriptor ((gmC ci).2.1 i).2.2.1).getD .int
theorem gmTy0_ok : ∀ ci, ci < 7 → ∀ k, k < (gmC ci).2.2 → parseFieldDescriptor ((gmC ci).2.1 k).2.2.1 = some (gmTy0 ci k) := by decide +kernel
theorem gmNm_ok : ∀ ci, ci < 7 → ∀ a, a < (gmC ci).2.2 → ∀ b, b < (gmC ci).2.2 → a ≠ b → ((gmC ci).2.1 a).2.1 ≠ ((gmC ci).2.1 b).2.1 := by decide +kernel
/-- the words that pass from a method to its callees -/
def gmT : List Cond := lw_tbl.filter goodWord
theorem gmT_good : ∀ w ∈ gmT, goodWord w = true := fun _ h => (List.mem_filter.mp h).2
theorem gm_mem (p : Nat) {w : Cond} (h : tables_1[p]? = some w) (hg : goodWord w = true) : w ∈ gmT := List.mem_filter.mpr ⟨List.mem_append_right _ (List.mem_of_getElem? h), hg⟩
theorem gm_memS {q : MethodName × Nat} (h : q ∈ lw_privs) (hg : goodWord (Cond.selects q.1.cls q.1 q.1) = true) : Cond.selects q.1.cls q.1 q.1 ∈ gmT := List.mem_filter.mpr ⟨List.mem_append_left _ (List.mem_map.mpr ⟨q, h, rfl⟩), hg⟩
theorem gmU0 : ∀ w ∈ u_ws (gmC 0).1 (gmC 0).2.1 (gmC 0).2.2, w ∈ gmT := by
  intro w hw
  obtain ⟨i, hi, rfl⟩ := List.mem_map.mp hw
  have hi := List.mem_range.mp hi
  match i, hi with
  | 0, _ => exact gm_mem 202 (by decide +kernel) (by decide +kernel)
  | 1, _ => exact gm_mem 204 (by decide +kernel) (by decide +kernel)
  | 2, _ => exact gm_mem 206 (by decide +kernel) (by decide +kernel)
  | 3, _ => exact gm_mem 208 (by decide +kernel) (by decide +kernel)
  | 4, _ => exact gm_mem 210 (by decide +kernel) (by decide +kernel)
  | 5, _ => exact gm_mem 212 (by decide +kernel) (by decide +kernel)
  | 6, _ => exact gm_mem 214 (by decide +kernel) (by decide +kernel)
  | n + 7, h => exact absurd h (by show ¬ n + 7 < 7; omega)
theorem gmU1 : ∀ w ∈ u_ws (gmC 1).1 (gmC 1).2.1 (gmC 1).2.2, w ∈ gmT := by
  intro w hw
  obtain ⟨i, hi, rfl⟩ := List.mem_map.mp hw
  have hi := List.mem_range.mp hi
  match i, hi with
  | 0, _ => exact gm_mem 172 (by decide +kernel) (by decide +kernel)
  | 1, _ => exact gm_mem 174 (by decide +kernel) (by decide +kernel)
  | 2, _ => exact gm_mem 176 (by decide +kernel) (by decide +kernel)
  | 3, _ => exact gm_mem 178 (by decide +kernel) (by decide +kernel)
  | 4, _ => exact gm_mem 180 (by decide +kernel) (by decide +kernel)
  | 5, _ => exact gm_mem 182 (by decide +kernel) (by decide +kernel)
  | 6, _ => exact gm_mem 184 (by decide +kernel) (by decide +kernel)
  | 7, _ => exact gm_mem 186 (by decide +kernel) (by decide +kernel)
  | 8, _ => exact gm_mem 188 (by decide +kernel) (by decide +kernel)
  | n + 9, h => exact absurd h (by show ¬ n + 9 < 9; omega)
theorem gmU2 : ∀ w ∈ u_ws (gmC 2).1 (gmC 2).2.1 (gmC 2).2.2, w ∈ gmT := by
  intro w hw
  obtain ⟨i, hi, rfl⟩ := List.mem_map.mp hw
  have hi := List.mem_range.mp hi
  match i, hi with
  | 0, _ => exact gm_mem 46 (by decide +kernel) (by decide +kernel)
  | 1, _ => exact gm_mem 48 (by decide +kernel) (by decide +kernel)
  | 2, _ => exact gm_mem 50 (by decide +kernel) (by decide +kernel)
  | 3, _ => exact gm_mem 52 (by decide +kernel) (by decide +kernel)
  | 4, _ => exact gm_mem 54 (by decide +kernel) (by decide +kernel)
  | 5, _ => exact gm_mem 56 (by decide +kernel) (by decide +kernel)
  | n + 6, h => exact absurd h (by show ¬ n + 6 < 6; omega)
theorem gmU3 : ∀ w ∈ u_ws (gmC 3).1 (gmC 3).2.1 (gmC 3).2.2, w ∈ gmT := by
  intro w hw
  obtain ⟨i, hi, rfl⟩ := List.mem_map.mp hw
  have hi := List.mem_range.mp hi
  match i, hi with
  | 0, _ => exact gm_mem 81 (by decide +kernel) (by decide +kernel)
  | 1, _ => exact gm_mem 83 (by decide +kernel) (by decide +kernel)
  | 2, _ => exact gm_mem 85 (by decide +kernel) (by decide +kernel)
  | 3, _ => exact gm_mem 87 (by decide +kernel) (by decide +kernel)
  | 4, _ => exact gm_mem 89 (by decide +kernel) (by decide +kernel)
  | n + 5, h => exact absurd h (by show ¬ n + 5 < 5; omega)
theorem gmU4 : ∀ w ∈ u_ws (gmC 4).1 (gmC 4).2.1 (gmC 4).2.2, w ∈ gmT := by
  intro w hw
  obtain ⟨i, hi, rfl⟩ := List.mem_map.mp hw
  have hi := List.mem_range.mp hi
  match i, hi with
  | 0, _ => exact gm_mem 116 (by decide +kernel) (by decide +kernel)
  | 1, _ => exact gm_mem 118 (by decide +kernel) (by decide +kernel)
  | 2, _ => exact gm_mem 120 (by decide +kernel) (by decide +kernel)
  | 3, _ => exact gm_mem 122 (by decide +kernel) (by decide +kernel)
  | 4, _ => exact gm_mem 124 (by decide +kernel) (by decide +kernel)
  | 5, _ => exact gm_mem 126 (by decide +kernel) (by decide +kernel)
  | 6, _ => exact gm_mem 128 (by decide +kernel) (by decide +kernel)
  | 7, _ => exact gm_mem 130 (by decide +kernel) (by decide +kernel)
  | 8, _ => exact gm_mem 132 (by decide +kernel) (by decide +kernel)
  | 9, _ => exact gm_mem 134 (by decide +kernel) (by decide +kernel)
  | n + 10, h => exact absurd h (by show ¬ n + 10 < 10; omega)
theorem gmU5 : ∀ w ∈ u_ws (gmC 5).1 (gmC 5).2.1 (gmC 5).2.2, w ∈ gmT := by
  intro w hw
  obtain ⟨i, hi, rfl⟩ := List.mem_map.mp hw
  have hi := List.mem_range.mp hi
  match i, hi with
  | 0, _ => exact gm_mem 222 (by decide +kernel) (by decide +kernel)
  | 1, _ => exact gm_mem 224 (by decide +kernel) (by decide +kernel)
  | 2, _ => exact gm_mem 226 (by decide +kernel) (by decide +kernel)
  | 3, _ => exact gm_mem 228 (by decide +kernel) (by decide +kernel)
  | 4, _ => exact gm_mem 230 (by decide +kernel) (by decide +kernel)
  | n + 5, h => exact absurd h (by show ¬ n + 5 < 5; omega)
theorem gmU6 : ∀ w ∈ u_ws (gmC 6).1 (gmC 6).2.1 (gmC 6).2.2, w ∈ gmT := by
  intro w hw
  obtain ⟨i, hi, rfl⟩ := List.mem_map.mp hw
  have hi := List.mem_range.mp hi
  match i, hi with
  | 0, _ => exact gm_mem 584 (by decide +kernel) (by decide +kernel)
  | 1, _ => exact gm_mem 586 (by decide +kernel) (by decide +kernel)
  | 2, _ => exact gm_mem 588 (by decide +kernel) (by decide +kernel)
  | 3, _ => exact gm_mem 590 (by decide +kernel) (by decide +kernel)
  | 4, _ => exact gm_mem 592 (by decide +kernel) (by decide +kernel)
  | 5, _ => exact gm_mem 594 (by decide +kernel) (by decide +kernel)
  | 6, _ => exact gm_mem 596 (by decide +kernel) (by decide +kernel)
  | 7, _ => exact gm_mem 598 (by decide +kernel) (by decide +kernel)
  | 8, _ => exact gm_mem 600 (by decide +kernel) (by decide +kernel)
  | 9, _ => exact gm_mem 602 (by decide +kernel) (by decide +kernel)
  | 10, _ => exact gm_mem 604 (by decide +kernel) (by decide +kernel)
  | 11, _ => exact gm_mem 606 (by decide +kernel) (by decide +kernel)
  | 12, _ => exact gm_mem 608 (by decide +kernel) (by decide +kernel)
  | 13, _ => exact gm_mem 610 (by decide +kernel) (by decide +kernel)
  | 14, _ => exact gm_mem 612 (by decide +kernel) (by decide +kernel)
  | 15, _ => exact gm_mem 614 (by decide +kernel) (by decide +kernel)
  | 16, _ => exact gm_mem 616 (by decide +kernel) (by decide +kernel)
  | 17, _ => exact gm_mem 618 (by decide +kernel) (by decide +kernel)
  | 18, _ => exact gm_mem 620 (by decide +kernel) (by decide +kernel)
  | 19, _ => exact gm_mem 622 (by decide +kernel) (by decide +kernel)
  | 20, _ => exact gm_mem 624 (by decide +kernel) (by decide +kernel)
  | 21, _ => exact gm_mem 626 (by decide +kernel) (by decide +kernel)
  | 22, _ => exact gm_mem 628 (by decide +kernel) (by decide +kernel)
  | n + 23, h => exact absurd h (by show ¬ n + 23 < 23; omega)
theorem gmU : ∀ {ci : Nat}, ci < 7 → ∀ w ∈ u_ws (gmC ci).1 (gmC ci).2.1 (gmC ci).2.2, w ∈ gmT
  | 0, _ => gmU0
  | 1, _ => gmU1
  | 2, _ => gmU2
  | 3, _ => gmU3
  | 4, _ => gmU4
  | 5, _ => gmU5
  | 6, _ => gmU6
  | n + 7, h => absurd h (by omega)
/-- a field link: pool entry idx of class own is field i of class ci -/
def gmFL (own : String) (idx ci i : Nat) : Prop := ci < 7 ∧ i < (gmC ci).2.2 ∧ Cond.fieldLink own idx ((gmC ci).2.1 i).1 ((gmC ci).2.1 i).2.1 ((gmC ci).2.1 i).2.2.1 ∈ gmT
theorem gmF_5_12 : gmFL "GarmentMarker" 12 5 0 := ⟨by decide, by decide, gm_mem 217 (by decide +kernel) (by decide +kernel)⟩
theorem gmF_5_16 : gmFL "GarmentMarker" 16 5 1 := ⟨by decide, by decide, gm_mem 218 (by decide +kernel) (by decide +kernel)⟩
theorem gmF_5_20 : gmFL "GarmentMarker" 20 5 2 := ⟨by decide, by decide, gm_mem 219 (by decide +kernel) (by decide +kernel)⟩
theorem gmF_5_27 : gmFL "GarmentMarker" 27 5 3 := ⟨by decide, by decide, gm_mem 220 (by decide +kernel) (by decide +kernel)⟩
theorem gmF_5_31 : gmFL "GarmentMarker" 31 5 4 := ⟨by decide, by decide, gm_mem 221 (by decide +kernel) (by decide +kernel)⟩
theorem gmF_5_39 : gmFL "GarmentMarker" 39 4 0 := ⟨by decide, by decide, gm_mem 93 (by decide +kernel) (by decide +kernel)⟩
theorem gmF_5_43 : gmFL "GarmentMarker" 43 2 0 := ⟨by decide, by decide, gm_mem 32 (by decide +kernel) (by decide +kernel)⟩
theorem gmF_5_49 : gmFL "GarmentMarker" 49 2 1 := ⟨by decide, by decide, gm_mem 36 (by decide +kernel) (by decide +kernel)⟩
theorem gmF_5_53 : gmFL "GarmentMarker" 53 2 2 := ⟨by decide, by decide, gm_mem 38 (by decide +kernel) (by decide +kernel)⟩
theorem gmF_5_56 : gmFL "GarmentMarker" 56 2 3 := ⟨by decide, by decide, gm_mem 40 (by decide +kernel) (by decide +kernel)⟩
theorem gmF_5_59 : gmFL "GarmentMarker" 59 2 4 := ⟨by decide, by decide, gm_mem 42 (by decide +kernel) (by decide +kernel)⟩
theorem gmF_5_62 : gmFL "GarmentMarker" 62 2 5 := ⟨by decide, by decide, gm_mem 44 (by decide +kernel) (by decide +kernel)⟩
theorem gmF_5_77 : gmFL "GarmentMarker" 77 4 2 := ⟨by decide, by decide, gm_mem 98 (by decide +kernel) (by decide +kernel)⟩
theorem gmF_5_84 : gmFL "GarmentMarker" 84 4 1 := ⟨by decide, by decide, gm_mem 96 (by decide +kernel) (by decide +kernel)⟩
theorem gmF_5_88 : gmFL "GarmentMarker" 88 3 0 := ⟨by decide, by decide, gm_mem 68 (by decide +kernel) (by decide +kernel)⟩
theorem gmF_5_93 : gmFL "GarmentMarker" 93 3 1 := ⟨by decide, by decide, gm_mem 71 (by decide +kernel) (by decide +kernel)⟩
theorem gmF_5_96 : gmFL "GarmentMarker" 96 3 2 := ⟨by decide, by decide, gm_mem 74 (by decide +kernel) (by decide +kernel)⟩
theorem gmF_5_99 : gmFL "GarmentMarker" 99 3 3 := ⟨by decide, by decide, gm_mem 77 (by decide +kernel) (by decide +kernel)⟩
theorem gmF_5_102 : gmFL "GarmentMarker" 102 3 4 := ⟨by decide, by decide, gm_mem 80 (by decide +kernel) (by decide +kernel)⟩
theorem gmF_5_116 : gmFL "GarmentMarker" 116 4 3 := ⟨by decide, by decide, gm_mem 100 (by decide +kernel) (by decide +kernel)⟩
theorem gmF_5_119 : gmFL "GarmentMarker" 119 4 5 := ⟨by decide, by decide, gm_mem 105 (by decide +kernel) (by decide +kernel)⟩
theorem gmF_5_122 : gmFL "GarmentMarker" 122 4 6 := ⟨by decide, by decide, gm_mem 108 (by decide +kernel) (by decide +kernel)⟩
theorem gmF_5_125 : gmFL "GarmentMarker" 125 4 7 := ⟨by decide, by decide, gm_mem 111 (by decide +kernel) (by decide +kernel)⟩
theorem gmF_5_132 : gmFL "GarmentMarker" 132 4 8 := ⟨by decide, by decide, gm_mem 113 (by decide +kernel) (by decide +kernel)⟩
theorem gmF_5_135 : gmFL "GarmentMarker" 135 4 9 := ⟨by decide, by decide, gm_mem 115 (by decide +kernel) (by decide +kernel)⟩
theorem gmF_5_146 : gmFL "GarmentMarker" 146 0 1 := ⟨by decide, by decide, gm_mem 195 (by decide +kernel) (by decide +kernel)⟩
theorem gmF_5_155 : gmFL "GarmentMarker" 155 0 0 := ⟨by decide, by decide, gm_mem 193 (by decide +kernel) (by decide +kernel)⟩
theorem gmF_5_159 : gmFL "GarmentMarker" 159 1 0 := ⟨by decide, by decide, gm_mem 153 (by decide +kernel) (by decide +kernel)⟩
theorem gmF_5_164 : gmFL "GarmentMarker" 164 1 1 := ⟨by decide, by decide, gm_mem 155 (by decide +kernel) (by decide +kernel)⟩
theorem gmF_5_171 : gmFL "GarmentMarker" 171 1 5 := ⟨by decide, by decide, gm_mem 165 (by decide +kernel) (by decide +kernel)⟩
theorem gmF_5_174 : gmFL "GarmentMarker" 174 1 6 := ⟨by decide, by decide, gm_mem 167 (by decide +kernel) (by decide +kernel)⟩
theorem gmF_5_177 : gmFL "GarmentMarker" 177 1 3 := ⟨by decide, by decide, gm_mem 159 (by decide +kernel) (by decide +kernel)⟩
theorem gmF_5_180 : gmFL "GarmentMarker" 180 1 4 := ⟨by decide, by decide, gm_mem 162 (by decide +kernel) (by decide +kernel)⟩
theorem gmF_5_187 : gmFL "GarmentMarker" 187 0 2 := ⟨by decide, by decide, gm_mem 197 (by decide +kernel) (by decide +kernel)⟩
theorem gmF_5_199 : gmFL "GarmentMarker" 199 4 4 := ⟨by decide, by decide, gm_mem 102 (by decide +kernel) (by decide +kernel)⟩
theorem gmF_0_11 : gmFL "GarmentMarker$Marker" 11 0 0 := ⟨by decide, by decide, gm_mem 192 (by decide +kernel) (by decide +kernel)⟩
theorem gmF_0_18 : gmFL "GarmentMarker$Marker" 18 0 3 := ⟨by decide, by decide, gm_mem 198 (by decide +kernel) (by decide +kernel)⟩
theorem gmF_0_22 : gmFL "GarmentMarker$Marker" 22 0 4 := ⟨by decide, by decide, gm_mem 199 (by decide +kernel) (by decide +kernel)⟩
theorem gmF_0_25 : gmFL "GarmentMarker$Marker" 25 0 5 := ⟨by decide, by decide, gm_mem 200 (by decide +kernel) (by decide +kernel)⟩
theorem gmF_0_28 : gmFL "GarmentMarker$Marker" 28 0 6 := ⟨by decide, by decide, gm_mem 201 (by decide +kernel) (by decide +kernel)⟩
theorem gmF_0_31 : gmFL "GarmentMarker$Marker" 31 4 6 := ⟨by decide, by decide, gm_mem 106 (by decide +kernel) (by decide +kernel)⟩
theorem gmF_0_37 : gmFL "GarmentMarker$Marker" 37 4 5 := ⟨by decide, by decide, gm_mem 104 (by decide +kernel) (by decide +kernel)⟩
theorem gmF_0_41 : gmFL "GarmentMarker$Marker" 41 0 2 := ⟨by decide, by decide, gm_mem 196 (by decide +kernel) (by decide +kernel)⟩
theorem gmF_0_44 : gmFL "GarmentMarker$Marker" 44 0 1 := ⟨by decide, by decide, gm_mem 194 (by decide +kernel) (by decide +kernel)⟩
theorem gmF_0_51 : gmFL "GarmentMarker$Marker" 51 4 0 := ⟨by decide, by decide, gm_mem 94 (by decide +kernel) (by decide +kernel)⟩
theorem gmF_0_55 : gmFL "GarmentMarker$Marker" 55 2 0 := ⟨by decide, by decide, gm_mem 33 (by decide +kernel) (by decide +kernel)⟩
theorem gmF_0_60 : gmFL "GarmentMarker$Marker" 60 2 5 := ⟨by decide, by decide, gm_mem 45 (by decide +kernel) (by decide +kernel)⟩
theorem gmF_0_71 : gmFL "GarmentMarker$Marker" 71 1 0 := ⟨by decide, by decide, gm_mem 152 (by decide +kernel) (by decide +kernel)⟩
theorem gmF_0_74 : gmFL "GarmentMarker$Marker" 74 1 1 := ⟨by decide, by decide, gm_mem 154 (by decide +kernel) (by decide +kernel)⟩
theorem gmF_0_77 : gmFL "GarmentMarker$Marker" 77 1 2 := ⟨by decide, by decide, gm_mem 156 (by decide +kernel) (by decide +kernel)⟩
theorem gmF_0_80 : gmFL "GarmentMarker$Marker" 80 1 4 := ⟨by decide, by decide, gm_mem 161 (by decide +kernel) (by decide +kernel)⟩
theorem gmF_0_83 : gmFL "GarmentMarker$Marker" 83 1 3 := ⟨by decide, by decide, gm_mem 158 (by decide +kernel) (by decide +kernel)⟩
theorem gmF_0_86 : gmFL "GarmentMarker$Marker" 86 4 7 := ⟨by decide, by decide, gm_mem 110 (by decide +kernel) (by decide +kernel)⟩
theorem gmF_0_111 : gmFL "GarmentMarker$Marker" 111 1 7 := ⟨by decide, by decide, gm_mem 169 (by decide +kernel) (by decide +kernel)⟩
theorem gmF_0_142 : gmFL "GarmentMarker$Marker" 142 1 5 := ⟨by decide, by decide, gm_mem 164 (by decide +kernel) (by decide +kernel)⟩
theorem gmF_0_145 : gmFL "GarmentMarker$Marker" 145 1 8 := ⟨by decide, by decide, gm_mem 171 (by decide +kernel) (by decide +kernel)⟩
theorem gmF_1_9 : gmFL "GarmentMarker$Part" 9 1 5 := ⟨by decide, by decide, gm_mem 163 (by decide +kernel) (by decide +kernel)⟩
theorem gmF_1_15 : gmFL "GarmentMarker$Part" 15 1 6 := ⟨by decide, by decide, gm_mem 166 (by decide +kernel) (by decide +kernel)⟩
theorem gmF_1_18 : gmFL "GarmentMarker$Part" 18 1 3 := ⟨by decide, by decide, gm_mem 157 (by decide +kernel) (by decide +kernel)⟩
theorem gmF_1_21 : gmFL "GarmentMarker$Part" 21 1 7 := ⟨by decide, by decide, gm_mem 168 (by decide +kernel) (by decide +kernel)⟩
theorem gmF_1_24 : gmFL "GarmentMarker$Part" 24 1 4 := ⟨by decide, by decide, gm_mem 160 (by decide +kernel) (by decide +kernel)⟩
theorem gmF_1_27 : gmFL "GarmentMarker$Part" 27 1 8 := ⟨by decide, by decide, gm_mem 170 (by decide +kernel) (by decide +kernel)⟩
theorem gmF_2_9 : gmFL "GarmentMarker$Piece" 9 2 0 := ⟨by decide, by decide, gm_mem 31 (by decide +kernel) (by decide +kernel)⟩
theorem gmF_2_15 : gmFL "GarmentMarker$Piece" 15 2 1 := ⟨by decide, by decide, gm_mem 35 (by decide +kernel) (by decide +kernel)⟩
theorem gmF_2_19 : gmFL "GarmentMarker$Piece" 19 2 2 := ⟨by decide, by decide, gm_mem 37 (by decide +kernel) (by decide +kernel)⟩
theorem gmF_2_22 : gmFL "GarmentMarker$Piece" 22 2 3 := ⟨by decide, by decide, gm_mem 39 (by decide +kernel) (by decide +kernel)⟩
theorem gmF_2_25 : gmFL "GarmentMarker$Piece" 25 2 4 := ⟨by decide, by decide, gm_mem 41 (by decide +kernel) (by decide +kernel)⟩
theorem gmF_2_28 : gmFL "GarmentMarker$Piece" 28 2 5 := ⟨by decide, by decide, gm_mem 43 (by decide +kernel) (by decide +kernel)⟩
theorem gmF_3_7 : gmFL "GarmentMarker$Seam" 7 3 0 := ⟨by decide, by decide, gm_mem 66 (by decide +kernel) (by decide +kernel)⟩
theorem gmF_3_13 : gmFL "GarmentMarker$Seam" 13 3 1 := ⟨by decide, by decide, gm_mem 69 (by decide +kernel) (by decide +kernel)⟩
theorem gmF_3_16 : gmFL "GarmentMarker$Seam" 16 3 2 := ⟨by decide, by decide, gm_mem 72 (by decide +kernel) (by decide +kernel)⟩
theorem gmF_3_19 : gmFL "GarmentMarker$Seam" 19 3 3 := ⟨by decide, by decide, gm_mem 75 (by decide +kernel) (by decide +kernel)⟩
theorem gmF_3_22 : gmFL "GarmentMarker$Seam" 22 3 4 := ⟨by decide, by decide, gm_mem 78 (by decide +kernel) (by decide +kernel)⟩
theorem gmF_4_11 : gmFL "GarmentMarker$State" 11 4 0 := ⟨by decide, by decide, gm_mem 92 (by decide +kernel) (by decide +kernel)⟩
theorem gmF_4_20 : gmFL "GarmentMarker$State" 20 4 1 := ⟨by decide, by decide, gm_mem 95 (by decide +kernel) (by decide +kernel)⟩
theorem gmF_4_25 : gmFL "GarmentMarker$State" 25 4 3 := ⟨by decide, by decide, gm_mem 99 (by decide +kernel) (by decide +kernel)⟩
theorem gmF_4_29 : gmFL "GarmentMarker$State" 29 4 4 := ⟨by decide, by decide, gm_mem 101 (by decide +kernel) (by decide +kernel)⟩
theorem gmF_4_32 : gmFL "GarmentMarker$State" 32 4 5 := ⟨by decide, by decide, gm_mem 103 (by decide +kernel) (by decide +kernel)⟩
theorem gmF_4_36 : gmFL "GarmentMarker$State" 36 4 8 := ⟨by decide, by decide, gm_mem 112 (by decide +kernel) (by decide +kernel)⟩
theorem gmF_4_39 : gmFL "GarmentMarker$State" 39 4 9 := ⟨by decide, by decide, gm_mem 114 (by decide +kernel) (by decide +kernel)⟩
theorem gmF_4_49 : gmFL "GarmentMarker$State" 49 4 2 := ⟨by decide, by decide, gm_mem 97 (by decide +kernel) (by decide +kernel)⟩
theorem gmF_4_58 : gmFL "GarmentMarker$State" 58 4 6 := ⟨by decide, by decide, gm_mem 107 (by decide +kernel) (by decide +kernel)⟩
theorem gmF_4_62 : gmFL "GarmentMarker$State" 62 4 7 := ⟨by decide, by decide, gm_mem 109 (by decide +kernel) (by decide +kernel)⟩
theorem gmF_4_69 : gmFL "GarmentMarker$State" 69 2 0 := ⟨by decide, by decide, gm_mem 34 (by decide +kernel) (by decide +kernel)⟩
theorem gmF_4_76 : gmFL "GarmentMarker$State" 76 3 0 := ⟨by decide, by decide, gm_mem 67 (by decide +kernel) (by decide +kernel)⟩
theorem gmF_4_79 : gmFL "GarmentMarker$State" 79 3 1 := ⟨by decide, by decide, gm_mem 70 (by decide +kernel) (by decide +kernel)⟩
theorem gmF_4_86 : gmFL "GarmentMarker$State" 86 3 2 := ⟨by decide, by decide, gm_mem 73 (by decide +kernel) (by decide +kernel)⟩
theorem gmF_4_89 : gmFL "GarmentMarker$State" 89 3 3 := ⟨by decide, by decide, gm_mem 76 (by decide +kernel) (by decide +kernel)⟩
theorem gmF_4_92 : gmFL "GarmentMarker$State" 92 3 4 := ⟨by decide, by decide, gm_mem 79 (by decide +kernel) (by decide +kernel)⟩
theorem gmF_6_7 : gmFL "GarmentMarkerModel" 7 6 0 := ⟨by decide, by decide, gm_mem 561 (by decide +kernel) (by decide +kernel)⟩
theorem gmF_6_13 : gmFL "GarmentMarkerModel" 13 6 1 := ⟨by decide, by decide, gm_mem 562 (by decide +kernel) (by decide +kernel)⟩
theorem gmF_6_16 : gmFL "GarmentMarkerModel" 16 6 2 := ⟨by decide, by decide, gm_mem 563 (by decide +kernel) (by decide +kernel)⟩
theorem gmF_6_20 : gmFL "GarmentMarkerModel" 20 6 3 := ⟨by decide, by decide, gm_mem 564 (by decide +kernel) (by decide +kernel)⟩
theorem gmF_6_23 : gmFL "GarmentMarkerModel" 23 6 4 := ⟨by decide, by decide, gm_mem 565 (by decide +kernel) (by decide +kernel)⟩
theorem gmF_6_26 : gmFL "GarmentMarkerModel" 26 6 5 := ⟨by decide, by decide, gm_mem 566 (by decide +kernel) (by decide +kernel)⟩
theorem gmF_6_29 : gmFL "GarmentMarkerModel" 29 6 6 := ⟨by decide, by decide, gm_mem 567 (by decide +kernel) (by decide +kernel)⟩
theorem gmF_6_32 : gmFL "GarmentMarkerModel" 32 6 7 := ⟨by decide, by decide, gm_mem 568 (by decide +kernel) (by decide +kernel)⟩
theorem gmF_6_35 : gmFL "GarmentMarkerModel" 35 6 9 := ⟨by decide, by decide, gm_mem 570 (by decide +kernel) (by decide +kernel)⟩
theorem gmF_6_38 : gmFL "GarmentMarkerModel" 38 6 10 := ⟨by decide, by decide, gm_mem 571 (by decide +kernel) (by decide +kernel)⟩
theorem gmF_6_41 : gmFL "GarmentMarkerModel" 41 6 11 := ⟨by decide, by decide, gm_mem 572 (by decide +kernel) (by decide +kernel)⟩
theorem gmF_6_44 : gmFL "GarmentMarkerModel" 44 6 12 := ⟨by decide, by decide, gm_mem 573 (by decide +kernel) (by decide +kernel)⟩
theorem gmF_6_47 : gmFL "GarmentMarkerModel" 47 6 13 := ⟨by decide, by decide, gm_mem 574 (by decide +kernel) (by decide +kernel)⟩
theorem gmF_6_50 : gmFL "GarmentMarkerModel" 50 6 14 := ⟨by decide, by decide, gm_mem 575 (by decide +kernel) (by decide +kernel)⟩
theorem gmF_6_53 : gmFL "GarmentMarkerModel" 53 6 16 := ⟨by decide, by decide, gm_mem 577 (by decide +kernel) (by decide +kernel)⟩
theorem gmF_6_56 : gmFL "GarmentMarkerModel" 56 6 18 := ⟨by decide, by decide, gm_mem 579 (by decide +kernel) (by decide +kernel)⟩
theorem gmF_6_102 : gmFL "GarmentMarkerModel" 102 6 8 := ⟨by decide, by decide, gm_mem 569 (by decide +kernel) (by decide +kernel)⟩
theorem gmF_6_119 : gmFL "GarmentMarkerModel" 119 6 15 := ⟨by decide, by decide, gm_mem 576 (by decide +kernel) (by decide +kernel)⟩
theorem gmF_6_156 : gmFL "GarmentMarkerModel" 156 6 17 := ⟨by decide, by decide, gm_mem 578 (by decide +kernel) (by decide +kernel)⟩
theorem gmF_6_174 : gmFL "GarmentMarkerModel" 174 6 19 := ⟨by decide, by decide, gm_mem 580 (by decide +kernel) (by decide +kernel)⟩
theorem gmF_6_177 : gmFL "GarmentMarkerModel" 177 6 20 := ⟨by decide, by decide, gm_mem 581 (by decide +kernel) (by decide +kernel)⟩
theorem gmF_6_180 : gmFL "GarmentMarkerModel" 180 6 21 := ⟨by decide, by decide, gm_mem 582 (by decide +kernel) (by decide +kernel)⟩
theorem gmF_6_183 : gmFL "GarmentMarkerModel" 183 6 22 := ⟨by decide, by decide, gm_mem 583 (by decide +kernel) (by decide +kernel)⟩
/-- method links: the words of a call, the name, the code -/
def gmMV (own : String) (idx : Nat) (y : MethodName) (bc : ByteArray) (nL : Nat) (ret : Option FieldType) (n ci : Nat) : Prop := ci < 7 ∧ y.cls = (gmC ci).1 ∧ Cond.methodLink own idx y ∈ gmT ∧ Cond.instanceMethod y ∈ gmT ∧ Cond.selects y.cls y y ∈ gmT ∧ Cond.initialized y.cls ∈ gmT ∧ Cond.code y bc nL ret ∈ gmT ∧ (y.cls ≠ "java/lang/invoke/MethodHandle" ∧ y.cls ≠ "java/lang/invoke/VarHandle" ∧ (parseMethodDescriptor y.desc).map (fun d => d.parameters.length) = some n)
def gmMS (own : String) (idx : Nat) (y : MethodName) (bc : ByteArray) (nL : Nat) (ret : Option FieldType) (n : Nat) : Prop := y.cls = own ∧ Cond.methodLink own idx y ∈ gmT ∧ Cond.static y ∈ gmT ∧ Cond.initialized y.cls ∈ gmT ∧ Cond.code y bc nL ret ∈ gmT ∧ (y.cls ≠ "java/lang/invoke/MethodHandle" ∧ y.cls ≠ "java/lang/invoke/VarHandle" ∧ (parseMethodDescriptor y.desc).map (fun d => d.parameters.length) = some n)
abbrev gmNestL : List (String × Nat × MethodName × String) := [("GarmentMarker$State", 17, ⟨"GarmentMarker$Piece", "<init>", "()V"⟩, "GarmentMarker"), ("GarmentMarker$State", 24, ⟨"GarmentMarker$Seam", "<init>", "()V"⟩, "GarmentMarker"), ("GarmentMarker$Marker", 17, ⟨"GarmentMarker$Part", "<init>", "()V"⟩, "GarmentMarker"), ("GarmentMarker$State", 65, ⟨"GarmentMarker", "isWithin", "(III)Z"⟩, "GarmentMarker"), ("GarmentMarker$Marker", 93, ⟨"GarmentMarker", "isWithin", "(III)Z"⟩, "GarmentMarker")]
def gmMN (own : String) (idx : Nat) (y : MethodName) (host : String) (bc : ByteArray) (nL : Nat) (ret : Option FieldType) (n : Nat) : Prop := (own, idx, y, host) ∈ gmNestL ∧ Cond.static y ∈ gmT ∧ Cond.initialized y.cls ∈ gmT ∧ Cond.code y bc nL ret ∈ gmT ∧ (y.cls ≠ "java/lang/invoke/MethodHandle" ∧ y.cls ≠ "java/lang/invoke/VarHandle" ∧ (parseMethodDescriptor y.desc).map (fun d => d.parameters.length) = some n)
def gmY0_init : MethodName := ⟨"GarmentMarker$Marker", "<init>", "()V"⟩
def gmY0_makeParts : MethodName := ⟨"GarmentMarker$Marker", "makeParts", "(LGarmentMarker$State;[I)V"⟩
def gmY0_makeGarment : MethodName := ⟨"GarmentMarker$Marker", "makeGarment", "(LGarmentMarker$State;I)V"⟩
def gmY0_makePart : MethodName := ⟨"GarmentMarker$Marker", "makePart", "(LGarmentMarker$State;II)V"⟩
def gmY0_isBetterTurned : MethodName := ⟨"GarmentMarker$Marker", "isBetterTurned", "(II)Z"⟩
def gmY0_has : MethodName := ⟨"GarmentMarker$Marker", "has", "(I)Z"⟩
def gmY0_foldParts : MethodName := ⟨"GarmentMarker$Marker", "foldParts", "()I"⟩
def gmY0_partsArea : MethodName := ⟨"GarmentMarker$Marker", "partsArea", "()I"⟩
def gmY0_hasLayout : MethodName := ⟨"GarmentMarker$Marker", "hasLayout", "()Z"⟩
def gmY0_lengthPacked : MethodName := ⟨"GarmentMarker$Marker", "lengthPacked", "(II)I"⟩
def gmY0_sortParts : MethodName := ⟨"GarmentMarker$Marker", "sortParts", "(I)V"⟩
def gmY0_packShelves : MethodName := ⟨"GarmentMarker$Marker", "packShelves", "()V"⟩
def gmY0_firstShelfFor : MethodName := ⟨"GarmentMarker$Marker", "firstShelfFor", "(LGarmentMarker$Part;I)I"⟩
def gmY0_packFirstFree : MethodName := ⟨"GarmentMarker$Marker", "packFirstFree", "()V"⟩
def gmY0_placeFirstFree : MethodName := ⟨"GarmentMarker$Marker", "placeFirstFree", "(LGarmentMarker$Part;I)V"⟩
def gmY0_takenBits : MethodName := ⟨"GarmentMarker$Marker", "takenBits", "(LGarmentMarker$Part;II)I"⟩
def gmY0_firstGap : MethodName := ⟨"GarmentMarker$Marker", "firstGap", "(LGarmentMarker$Part;I)I"⟩
def gmY1_init : MethodName := ⟨"GarmentMarker$Part", "<init>", "()V"⟩
def gmY1_placeAt : MethodName := ⟨"GarmentMarker$Part", "placeAt", "(II)V"⟩
def gmY1_sortKey : MethodName := ⟨"GarmentMarker$Part", "sortKey", "(I)I"⟩
def gmY2_init : MethodName := ⟨"GarmentMarker$Piece", "<init>", "()V"⟩
def gmY2_copyFrom : MethodName := ⟨"GarmentMarker$Piece", "copyFrom", "(LGarmentMarker$Piece;)V"⟩
def gmY2_sideIn : MethodName := ⟨"GarmentMarker$Piece", "sideIn", "(II)I"⟩
def gmY3_init : MethodName := ⟨"GarmentMarker$Seam", "<init>", "()V"⟩
def gmY3_copyFrom : MethodName := ⟨"GarmentMarker$Seam", "copyFrom", "(LGarmentMarker$Seam;)V"⟩
def gmY3_uses : MethodName := ⟨"GarmentMarker$Seam", "uses", "(I)Z"⟩
def gmY4_init : MethodName := ⟨"GarmentMarker$State", "<init>", "()V"⟩
def gmY4_copyFrom : MethodName := ⟨"GarmentMarker$State", "copyFrom", "(LGarmentMarker$State;)V"⟩
def gmY4_isDefined : MethodName := ⟨"GarmentMarker$State", "isDefined", "(I)Z"⟩
def gmY4_definedPieces : MethodName := ⟨"GarmentMarker$State", "definedPieces", "()I"⟩
def gmY4_removeSeamsOf : MethodName := ⟨"GarmentMarker$State", "removeSeamsOf", "(I)V"⟩
def gmY4_differenceOf : MethodName := ⟨"GarmentMarker$State", "differenceOf", "(LGarmentMarker$Seam;I)I"⟩
def gmY4_matchesInAllSizes : MethodName := ⟨"GarmentMarker$State", "matchesInAllSizes", "(LGarmentMarker$Seam;)Z"⟩
def gmY4_pliesFor : MethodName := ⟨"GarmentMarker$State", "pliesFor", "([I)I"⟩
def gmY4_surplusFor : MethodName := ⟨"GarmentMarker$State", "surplusFor", "([II)I"⟩
def gmY5_init : MethodName := ⟨"GarmentMarker", "<init>", "()V"⟩
def gmY5_definePiece : MethodName := ⟨"GarmentMarker", "definePiece", "(IIIIII)I"⟩
def gmY5_removePiece : MethodName := ⟨"GarmentMarker", "removePiece", "(I)I"⟩
def gmY5_pieceWidth : MethodName := ⟨"GarmentMarker", "pieceWidth", "(II)I"⟩
def gmY5_pieceLength : MethodName := ⟨"GarmentMarker", "pieceLength", "(II)I"⟩
def gmY5_addSeam : MethodName := ⟨"GarmentMarker", "addSeam", "(IIIII)I"⟩
def gmY5_seamCount : MethodName := ⟨"GarmentMarker", "seamCount", "()I"⟩
def gmY5_seamDifference : MethodName := ⟨"GarmentMarker", "seamDifference", "(II)I"⟩
def gmY5_matchingSeams : MethodName := ⟨"GarmentMarker", "matchingSeams", "()I"⟩
def gmY5_firstMismatch : MethodName := ⟨"GarmentMarker", "firstMismatch", "()I"⟩
def gmY5_setRatio : MethodName := ⟨"GarmentMarker", "setRatio", "(II)I"⟩
def gmY5_ratio : MethodName := ⟨"GarmentMarker", "ratio", "(I)I"⟩
def gmY5_setClothWidth : MethodName := ⟨"GarmentMarker", "setClothWidth", "(I)I"⟩
def gmY5_setFolded : MethodName := ⟨"GarmentMarker", "setFolded", "(Z)Z"⟩
def gmY5_setRotation : MethodName := ⟨"GarmentMarker", "setRotation", "(Z)Z"⟩
def gmY5_setPacking : MethodName := ⟨"GarmentMarker", "setPacking", "(II)I"⟩
def gmY5_partCount : MethodName := ⟨"GarmentMarker", "partCount", "()I"⟩
def gmY5_foldPartCount : MethodName := ⟨"GarmentMarker", "foldPartCount", "()I"⟩
def gmY5_partSize : MethodName := ⟨"GarmentMarker", "partSize", "(I)I"⟩
def gmY5_partPiece : MethodName := ⟨"GarmentMarker", "partPiece", "(I)I"⟩
def gmY5_partAlong : MethodName := ⟨"GarmentMarker", "partAlong", "(I)I"⟩
def gmY5_partAcross : MethodName := ⟨"GarmentMarker", "partAcross", "(I)I"⟩
def gmY5_partAlongExtent : MethodName := ⟨"GarmentMarker", "partAlongExtent", "(I)I"⟩
def gmY5_partAcrossExtent : MethodName := ⟨"GarmentMarker", "partAcrossExtent", "(I)I"⟩
def gmY5_markerLength : MethodName := ⟨"GarmentMarker", "markerLength", "()I"⟩
def gmY5_wastedArea : MethodName := ⟨"GarmentMarker", "wastedArea", "()I"⟩
def gmY5_markerLengthWith : MethodName := ⟨"GarmentMarker", "markerLengthWith", "(II)I"⟩
def gmY5_bestLength : MethodName := ⟨"GarmentMarker", "bestLength", "()I"⟩
def gmY5_bestPacking : MethodName := ⟨"GarmentMarker", "bestPacking", "()I"⟩
def gmY5_setOrdered : MethodName := ⟨"GarmentMarker", "setOrdered", "(II)I"⟩
def gmY5_plies : MethodName := ⟨"GarmentMarker", "plies", "()I"⟩
def gmY5_clothLength : MethodName := ⟨"GarmentMarker", "clothLength", "()I"⟩
def gmY5_surplus : MethodName := ⟨"GarmentMarker", "surplus", "()I"⟩
def gmY5_goodMixes : MethodName := ⟨"GarmentMarker", "goodMixes", "()I"⟩
def gmY5_bestMix : MethodName := ⟨"GarmentMarker", "bestMix", "()I"⟩
def gmY5_bestMixCloth : MethodName := ⟨"GarmentMarker", "bestMixCloth", "()I"⟩
def gmY5_applyBestMix : MethodName := ⟨"GarmentMarker", "applyBestMix", "()I"⟩
def gmY5_save : MethodName := ⟨"GarmentMarker", "save", "(I)I"⟩
def gmY5_restore : MethodName := ⟨"GarmentMarker", "restore", "(I)I"⟩
def gmY5_isWithin : MethodName := ⟨"GarmentMarker", "isWithin", "(III)Z"⟩
def gmY5_isSize : MethodName := ⟨"GarmentMarker", "isSize", "(I)Z"⟩
def gmY5_isPacking : MethodName := ⟨"GarmentMarker", "isPacking", "(II)Z"⟩
def gmY5_packingNumber : MethodName := ⟨"GarmentMarker", "packingNumber", "(II)I"⟩
def gmY5_sideOrError : MethodName := ⟨"GarmentMarker", "sideOrError", "(III)I"⟩
def gmY5_placeOrError : MethodName := ⟨"GarmentMarker", "placeOrError", "(I)I"⟩
def gmY5_lengthFor : MethodName := ⟨"GarmentMarker", "lengthFor", "([I)I"⟩
def gmY5_findBestPacking : MethodName := ⟨"GarmentMarker", "findBestPacking", "()I"⟩
def gmY5_lookAtMix : MethodName := ⟨"GarmentMarker", "lookAtMix", "(I)V"⟩
def gmY5_findBestMix : MethodName := ⟨"GarmentMarker", "findBestMix", "()I"⟩
def gmY6_init : MethodName := ⟨"GarmentMarkerModel", "<init>", "()V"⟩
def gmY6_in : MethodName := ⟨"GarmentMarkerModel", "in", "(III)Z"⟩
def gmY6_isPiece : MethodName := ⟨"GarmentMarkerModel", "isPiece", "(I)Z"⟩
def gmY6_isSize : MethodName := ⟨"GarmentMarkerModel", "isSize", "(I)Z"⟩
def gmY6_widthOf : MethodName := ⟨"GarmentMarkerModel", "widthOf", "(II)I"⟩
def gmY6_lengthOf : MethodName := ⟨"GarmentMarkerModel", "lengthOf", "(II)I"⟩
def gmY6_definePiece : MethodName := ⟨"GarmentMarkerModel", "definePiece", "(IIIIII)I"⟩
def gmY6_dropSeam : MethodName := ⟨"GarmentMarkerModel", "dropSeam", "(I)V"⟩
def gmY6_removePiece : MethodName := ⟨"GarmentMarkerModel", "removePiece", "(I)I"⟩
def gmY6_pieceWidth : MethodName := ⟨"GarmentMarkerModel", "pieceWidth", "(II)I"⟩
def gmY6_pieceLength : MethodName := ⟨"GarmentMarkerModel", "pieceLength", "(II)I"⟩
def gmY6_addSeam : MethodName := ⟨"GarmentMarkerModel", "addSeam", "(IIIII)I"⟩
def gmY6_seamCount : MethodName := ⟨"GarmentMarkerModel", "seamCount", "()I"⟩
def gmY6_sideOf : MethodName := ⟨"GarmentMarkerModel", "sideOf", "(III)I"⟩
def gmY6_differenceOf : MethodName := ⟨"GarmentMarkerModel", "differenceOf", "(II)I"⟩
def gmY6_seamDifference : MethodName := ⟨"GarmentMarkerModel", "seamDifference", "(II)I"⟩
def gmY6_matches : MethodName := ⟨"GarmentMarkerModel", "matches", "(I)Z"⟩
def gmY6_matchingSeams : MethodName := ⟨"GarmentMarkerModel", "matchingSeams", "()I"⟩
def gmY6_firstMismatch : MethodName := ⟨"GarmentMarkerModel", "firstMismatch", "()I"⟩
def gmY6_set : MethodName := ⟨"GarmentMarkerModel", "set", "(II)I"⟩
def gmY6_setRatio : MethodName := ⟨"GarmentMarkerModel", "setRatio", "(II)I"⟩
def gmY6_ratio : MethodName := ⟨"GarmentMarkerModel", "ratio", "(I)I"⟩
def gmY6_setClothWidth : MethodName := ⟨"GarmentMarkerModel", "setClothWidth", "(I)I"⟩
def gmY6_setFolded : MethodName := ⟨"GarmentMarkerModel", "setFolded", "(Z)Z"⟩
def gmY6_setRotation : MethodName := ⟨"GarmentMarkerModel", "setRotation", "(Z)Z"⟩
def gmY6_isPacking : MethodName := ⟨"GarmentMarkerModel", "isPacking", "(II)Z"⟩
def gmY6_setPacking : MethodName := ⟨"GarmentMarkerModel", "setPacking", "(II)I"⟩
def gmY6_stripWidth : MethodName := ⟨"GarmentMarkerModel", "stripWidth", "()I"⟩
def gmY6_addPart : MethodName := ⟨"GarmentMarkerModel", "addPart", "(II)V"⟩
def gmY6_layParts : MethodName := ⟨"GarmentMarkerModel", "layParts", "()V"⟩
def gmY6_isPart : MethodName := ⟨"GarmentMarkerModel", "isPart", "(I)Z"⟩
def gmY6_partCount : MethodName := ⟨"GarmentMarkerModel", "partCount", "()I"⟩
def gmY6_foldPartCount : MethodName := ⟨"GarmentMarkerModel", "foldPartCount", "()I"⟩
def gmY6_partSize : MethodName := ⟨"GarmentMarkerModel", "partSize", "(I)I"⟩
def gmY6_partPiece : MethodName := ⟨"GarmentMarkerModel", "partPiece", "(I)I"⟩
def gmY6_keyOf : MethodName := ⟨"GarmentMarkerModel", "keyOf", "(II)I"⟩
def gmY6_layOrder : MethodName := ⟨"GarmentMarkerModel", "layOrder", "(I)V"⟩
def gmY6_shelfFor : MethodName := ⟨"GarmentMarkerModel", "shelfFor", "(II)I"⟩
def gmY6_packShelves : MethodName := ⟨"GarmentMarkerModel", "packShelves", "(I)V"⟩
def gmY6_takenFrom : MethodName := ⟨"GarmentMarkerModel", "takenFrom", "(II)I"⟩
def gmY6_freeAt : MethodName := ⟨"GarmentMarkerModel", "freeAt", "(III)I"⟩
def gmY6_packFree : MethodName := ⟨"GarmentMarkerModel", "packFree", "(I)V"⟩
def gmY6_pack : MethodName := ⟨"GarmentMarkerModel", "pack", "(II)Z"⟩
def gmY6_packNow : MethodName := ⟨"GarmentMarkerModel", "packNow", "()Z"⟩
def gmY6_packedLength : MethodName := ⟨"GarmentMarkerModel", "packedLength", "()I"⟩
def gmY6_lengthBy : MethodName := ⟨"GarmentMarkerModel", "lengthBy", "(II)I"⟩
def gmY6_lengthNow : MethodName := ⟨"GarmentMarkerModel", "lengthNow", "()I"⟩
def gmY6_partAlong : MethodName := ⟨"GarmentMarkerModel", "partAlong", "(I)I"⟩
def gmY6_partAcross : MethodName := ⟨"GarmentMarkerModel", "partAcross", "(I)I"⟩
def gmY6_partAlongExtent : MethodName := ⟨"GarmentMarkerModel", "partAlongExtent", "(I)I"⟩
def gmY6_partAcrossExtent : MethodName := ⟨"GarmentMarkerModel", "partAcrossExtent", "(I)I"⟩
def gmY6_markerLength : MethodName := ⟨"GarmentMarkerModel", "markerLength", "()I"⟩
def gmY6_wastedArea : MethodName := ⟨"GarmentMarkerModel", "wastedArea", "()I"⟩
def gmY6_markerLengthWith : MethodName := ⟨"GarmentMarkerModel", "markerLengthWith", "(II)I"⟩
def gmY6_findBest : MethodName := ⟨"GarmentMarkerModel", "findBest", "()I"⟩
def gmY6_bestLength : MethodName := ⟨"GarmentMarkerModel", "bestLength", "()I"⟩
def gmY6_bestPacking : MethodName := ⟨"GarmentMarkerModel", "bestPacking", "()I"⟩
def gmY6_setOrdered : MethodName := ⟨"GarmentMarkerModel", "setOrdered", "(II)I"⟩
def gmY6_pliesNow : MethodName := ⟨"GarmentMarkerModel", "pliesNow", "()I"⟩
def gmY6_plies : MethodName := ⟨"GarmentMarkerModel", "plies", "()I"⟩
def gmY6_clothNow : MethodName := ⟨"GarmentMarkerModel", "clothNow", "()I"⟩
def gmY6_clothLength : MethodName := ⟨"GarmentMarkerModel", "clothLength", "()I"⟩
def gmY6_surplusNow : MethodName := ⟨"GarmentMarkerModel", "surplusNow", "()I"⟩
def gmY6_surplus : MethodName := ⟨"GarmentMarkerModel", "surplus", "()I"⟩
def gmY6_setMix : MethodName := ⟨"GarmentMarkerModel", "setMix", "(I)V"⟩
def gmY6_tryMix : MethodName := ⟨"GarmentMarkerModel", "tryMix", "(I)V"⟩
def gmY6_findMix : MethodName := ⟨"GarmentMarkerModel", "findMix", "()V"⟩
def gmY6_goodMixes : MethodName := ⟨"GarmentMarkerModel", "goodMixes", "()I"⟩
def gmY6_bestMix : MethodName := ⟨"GarmentMarkerModel", "bestMix", "()I"⟩
def gmY6_bestMixCloth : MethodName := ⟨"GarmentMarkerModel", "bestMixCloth", "()I"⟩
def gmY6_applyBestMix : MethodName := ⟨"GarmentMarkerModel", "applyBestMix", "()I"⟩
def gmY6_save : MethodName := ⟨"GarmentMarkerModel", "save", "(I)I"⟩
def gmY6_restore : MethodName := ⟨"GarmentMarkerModel", "restore", "(I)I"⟩
theorem gmM_5_35 : gmMS "GarmentMarker" 35 gmY5_isWithin prog_1_method_40_code 3 (some .boolean) 3 := ⟨rfl, gm_mem 237 (by decide +kernel) (by decide +kernel), gm_mem 238 (by decide +kernel) (by decide +kernel), gm_mem 1 (by decide +kernel) (by decide +kernel), gm_mem 239 (by decide +kernel) (by decide +kernel), by decide +kernel⟩
theorem gmM_5_65 : gmMV "GarmentMarker" 65 gmY4_definedPieces prog_6_method_4_code 3 (some .int) 0 4 := ⟨by decide, rfl, gm_mem 240 (by decide +kernel) (by decide +kernel), gm_mem 241 (by decide +kernel) (by decide +kernel), gm_mem 242 (by decide +kernel) (by decide +kernel), gm_mem 2 (by decide +kernel) (by decide +kernel), gm_mem 243 (by decide +kernel) (by decide +kernel), by decide +kernel⟩
theorem gmM_5_69 : gmMV "GarmentMarker" 69 gmY4_isDefined prog_6_method_3_code 2 (some .boolean) 1 4 := ⟨by decide, rfl, gm_mem 248 (by decide +kernel) (by decide +kernel), gm_mem 249 (by decide +kernel) (by decide +kernel), gm_mem 250 (by decide +kernel) (by decide +kernel), gm_mem 2 (by decide +kernel) (by decide +kernel), gm_mem 251 (by decide +kernel) (by decide +kernel), by decide +kernel⟩
theorem gmM_5_73 : gmMV "GarmentMarker" 73 gmY4_removeSeamsOf prog_6_method_5_code 4 none 1 4 := ⟨by decide, rfl, gm_mem 253 (by decide +kernel) (by decide +kernel), gm_mem 254 (by decide +kernel) (by decide +kernel), gm_mem 255 (by decide +kernel) (by decide +kernel), gm_mem 2 (by decide +kernel) (by decide +kernel), gm_mem 256 (by decide +kernel) (by decide +kernel), by decide +kernel⟩
theorem gmM_5_80 : gmMV "GarmentMarker" 80 gmY5_sideOrError prog_1_method_44_code 4 (some .int) 3 5 := ⟨by decide, rfl, gm_mem 269 (by decide +kernel) (by decide +kernel), gm_mem 271 (by decide +kernel) (by decide +kernel), gm_memS (q := (gmY5_sideOrError, 5)) (by decide +kernel) (by decide +kernel), gm_mem 1 (by decide +kernel) (by decide +kernel), gm_mem 272 (by decide +kernel) (by decide +kernel), by decide +kernel⟩
theorem gmM_5_105 : gmMS "GarmentMarker" 105 gmY5_isSize prog_1_method_41_code 1 (some .boolean) 1 := ⟨rfl, gm_mem 273 (by decide +kernel) (by decide +kernel), gm_mem 274 (by decide +kernel) (by decide +kernel), gm_mem 1 (by decide +kernel) (by decide +kernel), gm_mem 275 (by decide +kernel) (by decide +kernel), by decide +kernel⟩
theorem gmM_5_108 : gmMV "GarmentMarker" 108 gmY4_differenceOf prog_6_method_6_code 5 (some .int) 2 4 := ⟨by decide, rfl, gm_mem 296 (by decide +kernel) (by decide +kernel), gm_mem 297 (by decide +kernel) (by decide +kernel), gm_mem 298 (by decide +kernel) (by decide +kernel), gm_mem 2 (by decide +kernel) (by decide +kernel), gm_mem 299 (by decide +kernel) (by decide +kernel), by decide +kernel⟩
theorem gmM_5_112 : gmMV "GarmentMarker" 112 gmY4_matchesInAllSizes prog_6_method_7_code 3 (some .boolean) 1 4 := ⟨by decide, rfl, gm_mem 305 (by decide +kernel) (by decide +kernel), gm_mem 306 (by decide +kernel) (by decide +kernel), gm_mem 307 (by decide +kernel) (by decide +kernel), gm_mem 2 (by decide +kernel) (by decide +kernel), gm_mem 308 (by decide +kernel) (by decide +kernel), by decide +kernel⟩
theorem gmM_5_128 : gmMS "GarmentMarker" 128 gmY5_isPacking prog_1_method_42_code 2 (some .boolean) 2 := ⟨rfl, gm_mem 338 (by decide +kernel) (by decide +kernel), gm_mem 339 (by decide +kernel) (by decide +kernel), gm_mem 1 (by decide +kernel) (by decide +kernel), gm_mem 340 (by decide +kernel) (by decide +kernel), by decide +kernel⟩
theorem gmM_5_138 : gmMS "GarmentMarker" 138 gmY5_packingNumber prog_1_method_43_code 2 (some .int) 2 := ⟨rfl, gm_mem 341 (by decide +kernel) (by decide +kernel), gm_mem 342 (by decide +kernel) (by decide +kernel), gm_mem 1 (by decide +kernel) (by decide +kernel), gm_mem 343 (by decide +kernel) (by decide +kernel), by decide +kernel⟩
theorem gmM_5_142 : gmMV "GarmentMarker" 142 gmY0_makeParts prog_2_method_2_code 5 none 2 0 := ⟨by decide, rfl, gm_mem 348 (by decide +kernel) (by decide +kernel), gm_mem 349 (by decide +kernel) (by decide +kernel), gm_mem 350 (by decide +kernel) (by decide +kernel), gm_mem 5 (by decide +kernel) (by decide +kernel), gm_mem 351 (by decide +kernel) (by decide +kernel), by decide +kernel⟩
theorem gmM_5_149 : gmMV "GarmentMarker" 149 gmY0_foldParts prog_2_method_7_code 3 (some .int) 0 0 := ⟨by decide, rfl, gm_mem 369 (by decide +kernel) (by decide +kernel), gm_mem 370 (by decide +kernel) (by decide +kernel), gm_mem 371 (by decide +kernel) (by decide +kernel), gm_mem 5 (by decide +kernel) (by decide +kernel), gm_mem 372 (by decide +kernel) (by decide +kernel), by decide +kernel⟩
theorem gmM_5_152 : gmMV "GarmentMarker" 152 gmY0_has prog_2_method_6_code 2 (some .boolean) 1 0 := ⟨by decide, rfl, gm_mem 377 (by decide +kernel) (by decide +kernel), gm_mem 378 (by decide +kernel) (by decide +kernel), gm_mem 379 (by decide +kernel) (by decide +kernel), gm_mem 5 (by decide +kernel) (by decide +kernel), gm_mem 380 (by decide +kernel) (by decide +kernel), by decide +kernel⟩
theorem gmM_5_167 : gmMV "GarmentMarker" 167 gmY5_placeOrError prog_1_method_45_code 2 (some .int) 1 5 := ⟨by decide, rfl, gm_mem 390 (by decide +kernel) (by decide +kernel), gm_mem 392 (by decide +kernel) (by decide +kernel), gm_memS (q := (gmY5_placeOrError, 5)) (by decide +kernel) (by decide +kernel), gm_mem 1 (by decide +kernel) (by decide +kernel), gm_mem 393 (by decide +kernel) (by decide +kernel), by decide +kernel⟩
theorem gmM_5_183 : gmMV "GarmentMarker" 183 gmY5_lengthFor prog_1_method_46_code 2 (some .int) 1 5 := ⟨by decide, rfl, gm_mem 457 (by decide +kernel) (by decide +kernel), gm_mem 459 (by decide +kernel) (by decide +kernel), gm_memS (q := (gmY5_lengthFor, 5)) (by decide +kernel) (by decide +kernel), gm_mem 1 (by decide +kernel) (by decide +kernel), gm_mem 460 (by decide +kernel) (by decide +kernel), by decide +kernel⟩
theorem gmM_5_190 : gmMV "GarmentMarker" 190 gmY0_partsArea prog_2_method_8_code 3 (some .int) 0 0 := ⟨by decide, rfl, gm_mem 465 (by decide +kernel) (by decide +kernel), gm_mem 466 (by decide +kernel) (by decide +kernel), gm_mem 467 (by decide +kernel) (by decide +kernel), gm_mem 5 (by decide +kernel) (by decide +kernel), gm_mem 468 (by decide +kernel) (by decide +kernel), by decide +kernel⟩
theorem gmM_5_193 : gmMV "GarmentMarker" 193 gmY0_lengthPacked prog_2_method_10_code 5 (some .int) 2 0 := ⟨by decide, rfl, gm_mem 394 (by decide +kernel) (by decide +kernel), gm_mem 395 (by decide +kernel) (by decide +kernel), gm_mem 396 (by decide +kernel) (by decide +kernel), gm_mem 5 (by decide +kernel) (by decide +kernel), gm_mem 397 (by decide +kernel) (by decide +kernel), by decide +kernel⟩
theorem gmM_5_196 : gmMV "GarmentMarker" 196 gmY5_findBestPacking prog_1_method_47_code 6 (some .int) 0 5 := ⟨by decide, rfl, gm_mem 477 (by decide +kernel) (by decide +kernel), gm_mem 479 (by decide +kernel) (by decide +kernel), gm_memS (q := (gmY5_findBestPacking, 5)) (by decide +kernel) (by decide +kernel), gm_mem 1 (by decide +kernel) (by decide +kernel), gm_mem 480 (by decide +kernel) (by decide +kernel), by decide +kernel⟩
theorem gmM_5_202 : gmMV "GarmentMarker" 202 gmY4_pliesFor prog_6_method_8_code 5 (some .int) 1 4 := ⟨by decide, rfl, gm_mem 494 (by decide +kernel) (by decide +kernel), gm_mem 495 (by decide +kernel) (by decide +kernel), gm_mem 496 (by decide +kernel) (by decide +kernel), gm_mem 2 (by decide +kernel) (by decide +kernel), gm_mem 497 (by decide +kernel) (by decide +kernel), by decide +kernel⟩
theorem gmM_5_205 : gmMV "GarmentMarker" 205 gmY4_surplusFor prog_6_method_9_code 5 (some .int) 2 4 := ⟨by decide, rfl, gm_mem 507 (by decide +kernel) (by decide +kernel), gm_mem 508 (by decide +kernel) (by decide +kernel), gm_mem 509 (by decide +kernel) (by decide +kernel), gm_mem 2 (by decide +kernel) (by decide +kernel), gm_mem 510 (by decide +kernel) (by decide +kernel), by decide +kernel⟩
theorem gmM_5_209 : gmMV "GarmentMarker" 209 gmY5_lookAtMix prog_1_method_48_code 2 none 1 5 := ⟨by decide, rfl, gm_mem 515 (by decide +kernel) (by decide +kernel), gm_mem 517 (by decide +kernel) (by decide +kernel), gm_memS (q := (gmY5_lookAtMix, 5)) (by decide +kernel) (by decide +kernel), gm_mem 1 (by decide +kernel) (by decide +kernel), gm_mem 518 (by decide +kernel) (by decide +kernel), by decide +kernel⟩
theorem gmM_5_212 : gmMV "GarmentMarker" 212 gmY0_hasLayout prog_2_method_9_code 2 (some .boolean) 0 0 := ⟨by decide, rfl, gm_mem 481 (by decide +kernel) (by decide +kernel), gm_mem 399 (by decide +kernel) (by decide +kernel), gm_mem 400 (by decide +kernel) (by decide +kernel), gm_mem 5 (by decide +kernel) (by decide +kernel), gm_mem 401 (by decide +kernel) (by decide +kernel), by decide +kernel⟩
theorem gmM_5_216 : gmMV "GarmentMarker" 216 gmY5_findBestMix prog_1_method_49_code 8 (some .int) 0 5 := ⟨by decide, rfl, gm_mem 523 (by decide +kernel) (by decide +kernel), gm_mem 525 (by decide +kernel) (by decide +kernel), gm_memS (q := (gmY5_findBestMix, 5)) (by decide +kernel) (by decide +kernel), gm_mem 1 (by decide +kernel) (by decide +kernel), gm_mem 526 (by decide +kernel) (by decide +kernel), by decide +kernel⟩
theorem gmM_5_225 : gmMV "GarmentMarker" 225 gmY4_copyFrom prog_6_method_2_code 3 none 1 4 := ⟨by decide, rfl, gm_mem 542 (by decide +kernel) (by decide +kernel), gm_mem 543 (by decide +kernel) (by decide +kernel), gm_mem 544 (by decide +kernel) (by decide +kernel), gm_mem 2 (by decide +kernel) (by decide +kernel), gm_mem 545 (by decide +kernel) (by decide +kernel), by decide +kernel⟩
theorem gmM_5_229 : gmMV "GarmentMarker" 229 gmY2_sideIn prog_4_method_3_code 3 (some .int) 2 2 := ⟨by decide, rfl, gm_mem 276 (by decide +kernel) (by decide +kernel), gm_mem 277 (by decide +kernel) (by decide +kernel), gm_mem 278 (by decide +kernel) (by decide +kernel), gm_mem 3 (by decide +kernel) (by decide +kernel), gm_mem 279 (by decide +kernel) (by decide +kernel), by decide +kernel⟩
theorem gmM_0_47 : gmMV "GarmentMarker$Marker" 47 gmY0_makeGarment prog_2_method_3_code 6 none 2 0 := ⟨by decide, rfl, gm_mem 352 (by decide +kernel) (by decide +kernel), gm_mem 353 (by decide +kernel) (by decide +kernel), gm_mem 354 (by decide +kernel) (by decide +kernel), gm_mem 5 (by decide +kernel) (by decide +kernel), gm_mem 355 (by decide +kernel) (by decide +kernel), by decide +kernel⟩
theorem gmM_0_63 : gmMV "GarmentMarker$Marker" 63 gmY0_makePart prog_2_method_4_code 9 none 3 0 := ⟨by decide, rfl, gm_mem 356 (by decide +kernel) (by decide +kernel), gm_mem 357 (by decide +kernel) (by decide +kernel), gm_mem 358 (by decide +kernel) (by decide +kernel), gm_mem 5 (by decide +kernel) (by decide +kernel), gm_mem 359 (by decide +kernel) (by decide +kernel), by decide +kernel⟩
theorem gmM_0_67 : gmMV "GarmentMarker$Marker" 67 gmY2_sideIn prog_4_method_3_code 3 (some .int) 2 2 := ⟨by decide, rfl, gm_mem 360 (by decide +kernel) (by decide +kernel), gm_mem 277 (by decide +kernel) (by decide +kernel), gm_mem 278 (by decide +kernel) (by decide +kernel), gm_mem 3 (by decide +kernel) (by decide +kernel), gm_mem 279 (by decide +kernel) (by decide +kernel), by decide +kernel⟩
theorem gmM_0_89 : gmMV "GarmentMarker$Marker" 89 gmY0_isBetterTurned prog_2_method_5_code 3 (some .boolean) 2 0 := ⟨by decide, rfl, gm_mem 361 (by decide +kernel) (by decide +kernel), gm_mem 362 (by decide +kernel) (by decide +kernel), gm_mem 363 (by decide +kernel) (by decide +kernel), gm_mem 5 (by decide +kernel) (by decide +kernel), gm_mem 364 (by decide +kernel) (by decide +kernel), by decide +kernel⟩
theorem gmM_0_97 : gmMV "GarmentMarker$Marker" 97 gmY0_hasLayout prog_2_method_9_code 2 (some .boolean) 0 0 := ⟨by decide, rfl, gm_mem 398 (by decide +kernel) (by decide +kernel), gm_mem 399 (by decide +kernel) (by decide +kernel), gm_mem 400 (by decide +kernel) (by decide +kernel), gm_mem 5 (by decide +kernel) (by decide +kernel), gm_mem 401 (by decide +kernel) (by decide +kernel), by decide +kernel⟩
theorem gmM_0_101 : gmMV "GarmentMarker$Marker" 101 gmY0_sortParts prog_2_method_11_code 5 none 1 0 := ⟨by decide, rfl, gm_mem 402 (by decide +kernel) (by decide +kernel), gm_mem 403 (by decide +kernel) (by decide +kernel), gm_mem 404 (by decide +kernel) (by decide +kernel), gm_mem 5 (by decide +kernel) (by decide +kernel), gm_mem 405 (by decide +kernel) (by decide +kernel), by decide +kernel⟩
theorem gmM_0_105 : gmMV "GarmentMarker$Marker" 105 gmY0_packShelves prog_2_method_12_code 6 none 0 0 := ⟨by decide, rfl, gm_mem 410 (by decide +kernel) (by decide +kernel), gm_mem 411 (by decide +kernel) (by decide +kernel), gm_mem 412 (by decide +kernel) (by decide +kernel), gm_mem 5 (by decide +kernel) (by decide +kernel), gm_mem 413 (by decide +kernel) (by decide +kernel), by decide +kernel⟩
theorem gmM_0_108 : gmMV "GarmentMarker$Marker" 108 gmY0_packFirstFree prog_2_method_14_code 2 none 0 0 := ⟨by decide, rfl, gm_mem 422 (by decide +kernel) (by decide +kernel), gm_mem 423 (by decide +kernel) (by decide +kernel), gm_mem 424 (by decide +kernel) (by decide +kernel), gm_mem 5 (by decide +kernel) (by decide +kernel), gm_mem 425 (by decide +kernel) (by decide +kernel), by decide +kernel⟩
theorem gmM_0_119 : gmMV "GarmentMarker$Marker" 119 gmY1_sortKey prog_3_method_3_code 2 (some .int) 1 1 := ⟨by decide, rfl, gm_mem 406 (by decide +kernel) (by decide +kernel), gm_mem 407 (by decide +kernel) (by decide +kernel), gm_mem 408 (by decide +kernel) (by decide +kernel), gm_mem 6 (by decide +kernel) (by decide +kernel), gm_mem 409 (by decide +kernel) (by decide +kernel), by decide +kernel⟩
theorem gmM_0_123 : gmMV "GarmentMarker$Marker" 123 gmY0_firstShelfFor prog_2_method_13_code 4 (some .int) 2 0 := ⟨by decide, rfl, gm_mem 414 (by decide +kernel) (by decide +kernel), gm_mem 415 (by decide +kernel) (by decide +kernel), gm_mem 416 (by decide +kernel) (by decide +kernel), gm_mem 5 (by decide +kernel) (by decide +kernel), gm_mem 417 (by decide +kernel) (by decide +kernel), by decide +kernel⟩
theorem gmM_0_127 : gmMV "GarmentMarker$Marker" 127 gmY1_placeAt prog_3_method_2_code 3 none 2 1 := ⟨by decide, rfl, gm_mem 418 (by decide +kernel) (by decide +kernel), gm_mem 419 (by decide +kernel) (by decide +kernel), gm_mem 420 (by decide +kernel) (by decide +kernel), gm_mem 6 (by decide +kernel) (by decide +kernel), gm_mem 421 (by decide +kernel) (by decide +kernel), by decide +kernel⟩
theorem gmM_0_131 : gmMV "GarmentMarker$Marker" 131 gmY0_placeFirstFree prog_2_method_15_code 8 none 2 0 := ⟨by decide, rfl, gm_mem 426 (by decide +kernel) (by decide +kernel), gm_mem 427 (by decide +kernel) (by decide +kernel), gm_mem 428 (by decide +kernel) (by decide +kernel), gm_mem 5 (by decide +kernel) (by decide +kernel), gm_mem 429 (by decide +kernel) (by decide +kernel), by decide +kernel⟩
theorem gmM_0_135 : gmMV "GarmentMarker$Marker" 135 gmY0_takenBits prog_2_method_16_code 8 (some .int) 3 0 := ⟨by decide, rfl, gm_mem 430 (by decide +kernel) (by decide +kernel), gm_mem 431 (by decide +kernel) (by decide +kernel), gm_mem 432 (by decide +kernel) (by decide +kernel), gm_mem 5 (by decide +kernel) (by decide +kernel), gm_mem 433 (by decide +kernel) (by decide +kernel), by decide +kernel⟩
theorem gmM_0_139 : gmMV "GarmentMarker$Marker" 139 gmY0_firstGap prog_2_method_17_code 6 (some .int) 2 0 := ⟨by decide, rfl, gm_mem 434 (by decide +kernel) (by decide +kernel), gm_mem 435 (by decide +kernel) (by decide +kernel), gm_mem 436 (by decide +kernel) (by decide +kernel), gm_mem 5 (by decide +kernel) (by decide +kernel), gm_mem 437 (by decide +kernel) (by decide +kernel), by decide +kernel⟩
theorem gmM_4_42 : gmMV "GarmentMarker$State" 42 gmY2_copyFrom prog_4_method_2_code 2 none 1 2 := ⟨by decide, rfl, gm_mem 546 (by decide +kernel) (by decide +kernel), gm_mem 547 (by decide +kernel) (by decide +kernel), gm_mem 548 (by decide +kernel) (by decide +kernel), gm_mem 3 (by decide +kernel) (by decide +kernel), gm_mem 549 (by decide +kernel) (by decide +kernel), by decide +kernel⟩
theorem gmM_4_46 : gmMV "GarmentMarker$State" 46 gmY3_copyFrom prog_5_method_2_code 2 none 1 3 := ⟨by decide, rfl, gm_mem 261 (by decide +kernel) (by decide +kernel), gm_mem 262 (by decide +kernel) (by decide +kernel), gm_mem 263 (by decide +kernel) (by decide +kernel), gm_mem 4 (by decide +kernel) (by decide +kernel), gm_mem 264 (by decide +kernel) (by decide +kernel), by decide +kernel⟩
theorem gmM_4_72 : gmMV "GarmentMarker$State" 72 gmY3_uses prog_5_method_3_code 2 (some .boolean) 1 3 := ⟨by decide, rfl, gm_mem 257 (by decide +kernel) (by decide +kernel), gm_mem 258 (by decide +kernel) (by decide +kernel), gm_mem 259 (by decide +kernel) (by decide +kernel), gm_mem 4 (by decide +kernel) (by decide +kernel), gm_mem 260 (by decide +kernel) (by decide +kernel), by decide +kernel⟩
theorem gmM_4_82 : gmMV "GarmentMarker$State" 82 gmY2_sideIn prog_4_method_3_code 3 (some .int) 2 2 := ⟨by decide, rfl, gm_mem 300 (by decide +kernel) (by decide +kernel), gm_mem 277 (by decide +kernel) (by decide +kernel), gm_mem 278 (by decide +kernel) (by decide +kernel), gm_mem 3 (by decide +kernel) (by decide +kernel), gm_mem 279 (by decide +kernel) (by decide +kernel), by decide +kernel⟩
theorem gmM_4_95 : gmMV "GarmentMarker$State" 95 gmY4_differenceOf prog_6_method_6_code 5 (some .int) 2 4 := ⟨by decide, rfl, gm_mem 309 (by decide +kernel) (by decide +kernel), gm_mem 297 (by decide +kernel) (by decide +kernel), gm_mem 298 (by decide +kernel) (by decide +kernel), gm_mem 2 (by decide +kernel) (by decide +kernel), gm_mem 299 (by decide +kernel) (by decide +kernel), by decide +kernel⟩
theorem gmM_L_13 : gmMV "GarmentMarkerLaw" 13 gmY5_definePiece prog_1_method_2_code 8 (some .int) 6 5 := ⟨by decide, rfl, gm_mem 233 (by decide +kernel) (by decide +kernel), gm_mem 234 (by decide +kernel) (by decide +kernel), gm_mem 235 (by decide +kernel) (by decide +kernel), gm_mem 1 (by decide +kernel) (by decide +kernel), gm_mem 236 (by decide +kernel) (by decide +kernel), by decide +kernel⟩
theorem gmM_L_17 : gmMV "GarmentMarkerLaw" 17 gmY6_definePiece prog_8_method_7_code 10 (some .int) 6 6 := ⟨by decide, rfl, gm_mem 631 (by decide +kernel) (by decide +kernel), gm_mem 632 (by decide +kernel) (by decide +kernel), gm_mem 633 (by decide +kernel) (by decide +kernel), gm_mem 7 (by decide +kernel) (by decide +kernel), gm_mem 634 (by decide +kernel) (by decide +kernel), by decide +kernel⟩
theorem gmM_L_18 : gmMV "GarmentMarkerLaw" 18 gmY5_removePiece prog_1_method_3_code 2 (some .int) 1 5 := ⟨by decide, rfl, gm_mem 244 (by decide +kernel) (by decide +kernel), gm_mem 245 (by decide +kernel) (by decide +kernel), gm_mem 246 (by decide +kernel) (by decide +kernel), gm_mem 1 (by decide +kernel) (by decide +kernel), gm_mem 247 (by decide +kernel) (by decide +kernel), by decide +kernel⟩
theorem gmM_L_22 : gmMV "GarmentMarkerLaw" 22 gmY6_removePiece prog_8_method_9_code 3 (some .int) 1 6 := ⟨by decide, rfl, gm_mem 638 (by decide +kernel) (by decide +kernel), gm_mem 639 (by decide +kernel) (by decide +kernel), gm_mem 640 (by decide +kernel) (by decide +kernel), gm_mem 7 (by decide +kernel) (by decide +kernel), gm_mem 641 (by decide +kernel) (by decide +kernel), by decide +kernel⟩
theorem gmM_L_23 : gmMV "GarmentMarkerLaw" 23 gmY5_pieceWidth prog_1_method_4_code 3 (some .int) 2 5 := ⟨by decide, rfl, gm_mem 265 (by decide +kernel) (by decide +kernel), gm_mem 266 (by decide +kernel) (by decide +kernel), gm_mem 267 (by decide +kernel) (by decide +kernel), gm_mem 1 (by decide +kernel) (by decide +kernel), gm_mem 268 (by decide +kernel) (by decide +kernel), by decide +kernel⟩
theorem gmM_L_27 : gmMV "GarmentMarkerLaw" 27 gmY6_pieceWidth prog_8_method_10_code 3 (some .int) 2 6 := ⟨by decide, rfl, gm_mem 650 (by decide +kernel) (by decide +kernel), gm_mem 651 (by decide +kernel) (by decide +kernel), gm_mem 652 (by decide +kernel) (by decide +kernel), gm_mem 7 (by decide +kernel) (by decide +kernel), gm_mem 653 (by decide +kernel) (by decide +kernel), by decide +kernel⟩
theorem gmM_L_28 : gmMV "GarmentMarkerLaw" 28 gmY5_pieceLength prog_1_method_5_code 3 (some .int) 2 5 := ⟨by decide, rfl, gm_mem 280 (by decide +kernel) (by decide +kernel), gm_mem 281 (by decide +kernel) (by decide +kernel), gm_mem 282 (by decide +kernel) (by decide +kernel), gm_mem 1 (by decide +kernel) (by decide +kernel), gm_mem 283 (by decide +kernel) (by decide +kernel), by decide +kernel⟩
theorem gmM_L_31 : gmMV "GarmentMarkerLaw" 31 gmY6_pieceLength prog_8_method_11_code 3 (some .int) 2 6 := ⟨by decide, rfl, gm_mem 661 (by decide +kernel) (by decide +kernel), gm_mem 662 (by decide +kernel) (by decide +kernel), gm_mem 663 (by decide +kernel) (by decide +kernel), gm_mem 7 (by decide +kernel) (by decide +kernel), gm_mem 664 (by decide +kernel) (by decide +kernel), by decide +kernel⟩
theorem gmM_L_32 : gmMV "GarmentMarkerLaw" 32 gmY5_addSeam prog_1_method_6_code 8 (some .int) 5 5 := ⟨by decide, rfl, gm_mem 284 (by decide +kernel) (by decide +kernel), gm_mem 285 (by decide +kernel) (by decide +kernel), gm_mem 286 (by decide +kernel) (by decide +kernel), gm_mem 1 (by decide +kernel) (by decide +kernel), gm_mem 287 (by decide +kernel) (by decide +kernel), by decide +kernel⟩
theorem gmM_L_36 : gmMV "GarmentMarkerLaw" 36 gmY6_addSeam prog_8_method_12_code 7 (some .int) 5 6 := ⟨by decide, rfl, gm_mem 669 (by decide +kernel) (by decide +kernel), gm_mem 670 (by decide +kernel) (by decide +kernel), gm_mem 671 (by decide +kernel) (by decide +kernel), gm_mem 7 (by decide +kernel) (by decide +kernel), gm_mem 672 (by decide +kernel) (by decide +kernel), by decide +kernel⟩
theorem gmM_L_37 : gmMV "GarmentMarkerLaw" 37 gmY5_seamCount prog_1_method_7_code 1 (some .int) 0 5 := ⟨by decide, rfl, gm_mem 288 (by decide +kernel) (by decide +kernel), gm_mem 289 (by decide +kernel) (by decide +kernel), gm_mem 290 (by decide +kernel) (by decide +kernel), gm_mem 1 (by decide +kernel) (by decide +kernel), gm_mem 291 (by decide +kernel) (by decide +kernel), by decide +kernel⟩
theorem gmM_L_41 : gmMV "GarmentMarkerLaw" 41 gmY6_seamCount prog_8_method_13_code 1 (some .int) 0 6 := ⟨by decide, rfl, gm_mem 673 (by decide +kernel) (by decide +kernel), gm_mem 674 (by decide +kernel) (by decide +kernel), gm_mem 675 (by decide +kernel) (by decide +kernel), gm_mem 7 (by decide +kernel) (by decide +kernel), gm_mem 676 (by decide +kernel) (by decide +kernel), by decide +kernel⟩
theorem gmM_L_42 : gmMV "GarmentMarkerLaw" 42 gmY5_seamDifference prog_1_method_8_code 3 (some .int) 2 5 := ⟨by decide, rfl, gm_mem 292 (by decide +kernel) (by decide +kernel), gm_mem 293 (by decide +kernel) (by decide +kernel), gm_mem 294 (by decide +kernel) (by decide +kernel), gm_mem 1 (by decide +kernel) (by decide +kernel), gm_mem 295 (by decide +kernel) (by decide +kernel), by decide +kernel⟩
theorem gmM_L_45 : gmMV "GarmentMarkerLaw" 45 gmY6_seamDifference prog_8_method_16_code 3 (some .int) 2 6 := ⟨by decide, rfl, gm_mem 677 (by decide +kernel) (by decide +kernel), gm_mem 678 (by decide +kernel) (by decide +kernel), gm_mem 679 (by decide +kernel) (by decide +kernel), gm_mem 7 (by decide +kernel) (by decide +kernel), gm_mem 680 (by decide +kernel) (by decide +kernel), by decide +kernel⟩
theorem gmM_L_46 : gmMV "GarmentMarkerLaw" 46 gmY5_matchingSeams prog_1_method_9_code 3 (some .int) 0 5 := ⟨by decide, rfl, gm_mem 301 (by decide +kernel) (by decide +kernel), gm_mem 302 (by decide +kernel) (by decide +kernel), gm_mem 303 (by decide +kernel) (by decide +kernel), gm_mem 1 (by decide +kernel) (by decide +kernel), gm_mem 304 (by decide +kernel) (by decide +kernel), by decide +kernel⟩
theorem gmM_L_49 : gmMV "GarmentMarkerLaw" 49 gmY6_matchingSeams prog_8_method_18_code 3 (some .int) 0 6 := ⟨by decide, rfl, gm_mem 689 (by decide +kernel) (by decide +kernel), gm_mem 690 (by decide +kernel) (by decide +kernel), gm_mem 691 (by decide +kernel) (by decide +kernel), gm_mem 7 (by decide +kernel) (by decide +kernel), gm_mem 692 (by decide +kernel) (by decide +kernel), by decide +kernel⟩
theorem gmM_L_50 : gmMV "GarmentMarkerLaw" 50 gmY5_firstMismatch prog_1_method_10_code 2 (some .int) 0 5 := ⟨by decide, rfl, gm_mem 310 (by decide +kernel) (by decide +kernel), gm_mem 311 (by decide +kernel) (by decide +kernel), gm_mem 312 (by decide +kernel) (by decide +kernel), gm_mem 1 (by decide +kernel) (by decide +kernel), gm_mem 313 (by decide +kernel) (by decide +kernel), by decide +kernel⟩
theorem gmM_L_53 : gmMV "GarmentMarkerLaw" 53 gmY6_firstMismatch prog_8_method_19_code 2 (some .int) 0 6 := ⟨by decide, rfl, gm_mem 697 (by decide +kernel) (by decide +kernel), gm_mem 698 (by decide +kernel) (by decide +kernel), gm_mem 699 (by decide +kernel) (by decide +kernel), gm_mem 7 (by decide +kernel) (by decide +kernel), gm_mem 700 (by decide +kernel) (by decide +kernel), by decide +kernel⟩
theorem gmM_L_54 : gmMV "GarmentMarkerLaw" 54 gmY5_setRatio prog_1_method_11_code 4 (some .int) 2 5 := ⟨by decide, rfl, gm_mem 314 (by decide +kernel) (by decide +kernel), gm_mem 315 (by decide +kernel) (by decide +kernel), gm_mem 316 (by decide +kernel) (by decide +kernel), gm_mem 1 (by decide +kernel) (by decide +kernel), gm_mem 317 (by decide +kernel) (by decide +kernel), by decide +kernel⟩
theorem gmM_L_57 : gmMV "GarmentMarkerLaw" 57 gmY6_setRatio prog_8_method_21_code 3 (some .int) 2 6 := ⟨by decide, rfl, gm_mem 701 (by decide +kernel) (by decide +kernel), gm_mem 702 (by decide +kernel) (by decide +kernel), gm_mem 703 (by decide +kernel) (by decide +kernel), gm_mem 7 (by decide +kernel) (by decide +kernel), gm_mem 704 (by decide +kernel) (by decide +kernel), by decide +kernel⟩
theorem gmM_L_58 : gmMV "GarmentMarkerLaw" 58 gmY5_ratio prog_1_method_12_code 2 (some .int) 1 5 := ⟨by decide, rfl, gm_mem 318 (by decide +kernel) (by decide +kernel), gm_mem 319 (by decide +kernel) (by decide +kernel), gm_mem 320 (by decide +kernel) (by decide +kernel), gm_mem 1 (by decide +kernel) (by decide +kernel), gm_mem 321 (by decide +kernel) (by decide +kernel), by decide +kernel⟩
theorem gmM_L_61 : gmMV "GarmentMarkerLaw" 61 gmY6_ratio prog_8_method_22_code 2 (some .int) 1 6 := ⟨by decide, rfl, gm_mem 709 (by decide +kernel) (by decide +kernel), gm_mem 710 (by decide +kernel) (by decide +kernel), gm_mem 711 (by decide +kernel) (by decide +kernel), gm_mem 7 (by decide +kernel) (by decide +kernel), gm_mem 712 (by decide +kernel) (by decide +kernel), by decide +kernel⟩
theorem gmM_L_62 : gmMV "GarmentMarkerLaw" 62 gmY5_setClothWidth prog_1_method_13_code 3 (some .int) 1 5 := ⟨by decide, rfl, gm_mem 322 (by decide +kernel) (by decide +kernel), gm_mem 323 (by decide +kernel) (by decide +kernel), gm_mem 324 (by decide +kernel) (by decide +kernel), gm_mem 1 (by decide +kernel) (by decide +kernel), gm_mem 325 (by decide +kernel) (by decide +kernel), by decide +kernel⟩
theorem gmM_L_65 : gmMV "GarmentMarkerLaw" 65 gmY6_setClothWidth prog_8_method_23_code 2 (some .int) 1 6 := ⟨by decide, rfl, gm_mem 713 (by decide +kernel) (by decide +kernel), gm_mem 714 (by decide +kernel) (by decide +kernel), gm_mem 715 (by decide +kernel) (by decide +kernel), gm_mem 7 (by decide +kernel) (by decide +kernel), gm_mem 716 (by decide +kernel) (by decide +kernel), by decide +kernel⟩
theorem gmM_L_66 : gmMV "GarmentMarkerLaw" 66 gmY5_setFolded prog_1_method_14_code 3 (some .boolean) 1 5 := ⟨by decide, rfl, gm_mem 326 (by decide +kernel) (by decide +kernel), gm_mem 327 (by decide +kernel) (by decide +kernel), gm_mem 328 (by decide +kernel) (by decide +kernel), gm_mem 1 (by decide +kernel) (by decide +kernel), gm_mem 329 (by decide +kernel) (by decide +kernel), by decide +kernel⟩
theorem gmM_L_70 : gmMV "GarmentMarkerLaw" 70 gmY6_setFolded prog_8_method_24_code 2 (some .boolean) 1 6 := ⟨by decide, rfl, gm_mem 717 (by decide +kernel) (by decide +kernel), gm_mem 718 (by decide +kernel) (by decide +kernel), gm_mem 719 (by decide +kernel) (by decide +kernel), gm_mem 7 (by decide +kernel) (by decide +kernel), gm_mem 720 (by decide +kernel) (by decide +kernel), by decide +kernel⟩
theorem gmM_L_71 : gmMV "GarmentMarkerLaw" 71 gmY5_setRotation prog_1_method_15_code 3 (some .boolean) 1 5 := ⟨by decide, rfl, gm_mem 330 (by decide +kernel) (by decide +kernel), gm_mem 331 (by decide +kernel) (by decide +kernel), gm_mem 332 (by decide +kernel) (by decide +kernel), gm_mem 1 (by decide +kernel) (by decide +kernel), gm_mem 333 (by decide +kernel) (by decide +kernel), by decide +kernel⟩
theorem gmM_L_74 : gmMV "GarmentMarkerLaw" 74 gmY6_setRotation prog_8_method_25_code 2 (some .boolean) 1 6 := ⟨by decide, rfl, gm_mem 721 (by decide +kernel) (by decide +kernel), gm_mem 722 (by decide +kernel) (by decide +kernel), gm_mem 723 (by decide +kernel) (by decide +kernel), gm_mem 7 (by decide +kernel) (by decide +kernel), gm_mem 724 (by decide +kernel) (by decide +kernel), by decide +kernel⟩
theorem gmM_L_75 : gmMV "GarmentMarkerLaw" 75 gmY5_setPacking prog_1_method_16_code 4 (some .int) 2 5 := ⟨by decide, rfl, gm_mem 334 (by decide +kernel) (by decide +kernel), gm_mem 335 (by decide +kernel) (by decide +kernel), gm_mem 336 (by decide +kernel) (by decide +kernel), gm_mem 1 (by decide +kernel) (by decide +kernel), gm_mem 337 (by decide +kernel) (by decide +kernel), by decide +kernel⟩
theorem gmM_L_78 : gmMV "GarmentMarkerLaw" 78 gmY6_setPacking prog_8_method_27_code 4 (some .int) 2 6 := ⟨by decide, rfl, gm_mem 725 (by decide +kernel) (by decide +kernel), gm_mem 726 (by decide +kernel) (by decide +kernel), gm_mem 727 (by decide +kernel) (by decide +kernel), gm_mem 7 (by decide +kernel) (by decide +kernel), gm_mem 728 (by decide +kernel) (by decide +kernel), by decide +kernel⟩
theorem gmM_L_79 : gmMV "GarmentMarkerLaw" 79 gmY5_partCount prog_1_method_17_code 1 (some .int) 0 5 := ⟨by decide, rfl, gm_mem 344 (by decide +kernel) (by decide +kernel), gm_mem 345 (by decide +kernel) (by decide +kernel), gm_mem 346 (by decide +kernel) (by decide +kernel), gm_mem 1 (by decide +kernel) (by decide +kernel), gm_mem 347 (by decide +kernel) (by decide +kernel), by decide +kernel⟩
theorem gmM_L_82 : gmMV "GarmentMarkerLaw" 82 gmY6_partCount prog_8_method_32_code 1 (some .int) 0 6 := ⟨by decide, rfl, gm_mem 732 (by decide +kernel) (by decide +kernel), gm_mem 733 (by decide +kernel) (by decide +kernel), gm_mem 734 (by decide +kernel) (by decide +kernel), gm_mem 7 (by decide +kernel) (by decide +kernel), gm_mem 735 (by decide +kernel) (by decide +kernel), by decide +kernel⟩
theorem gmM_L_83 : gmMV "GarmentMarkerLaw" 83 gmY5_foldPartCount prog_1_method_18_code 1 (some .int) 0 5 := ⟨by decide, rfl, gm_mem 365 (by decide +kernel) (by decide +kernel), gm_mem 366 (by decide +kernel) (by decide +kernel), gm_mem 367 (by decide +kernel) (by decide +kernel), gm_mem 1 (by decide +kernel) (by decide +kernel), gm_mem 368 (by decide +kernel) (by decide +kernel), by decide +kernel⟩
theorem gmM_L_86 : gmMV "GarmentMarkerLaw" 86 gmY6_foldPartCount prog_8_method_33_code 3 (some .int) 0 6 := ⟨by decide, rfl, gm_mem 748 (by decide +kernel) (by decide +kernel), gm_mem 749 (by decide +kernel) (by decide +kernel), gm_mem 750 (by decide +kernel) (by decide +kernel), gm_mem 7 (by decide +kernel) (by decide +kernel), gm_mem 751 (by decide +kernel) (by decide +kernel), by decide +kernel⟩
theorem gmM_L_87 : gmMV "GarmentMarkerLaw" 87 gmY5_partSize prog_1_method_19_code 2 (some .int) 1 5 := ⟨by decide, rfl, gm_mem 373 (by decide +kernel) (by decide +kernel), gm_mem 374 (by decide +kernel) (by decide +kernel), gm_mem 375 (by decide +kernel) (by decide +kernel), gm_mem 1 (by decide +kernel) (by decide +kernel), gm_mem 376 (by decide +kernel) (by decide +kernel), by decide +kernel⟩
theorem gmM_L_90 : gmMV "GarmentMarkerLaw" 90 gmY6_partSize prog_8_method_34_code 2 (some .int) 1 6 := ⟨by decide, rfl, gm_mem 752 (by decide +kernel) (by decide +kernel), gm_mem 753 (by decide +kernel) (by decide +kernel), gm_mem 754 (by decide +kernel) (by decide +kernel), gm_mem 7 (by decide +kernel) (by decide +kernel), gm_mem 755 (by decide +kernel) (by decide +kernel), by decide +kernel⟩
theorem gmM_L_91 : gmMV "GarmentMarkerLaw" 91 gmY5_partPiece prog_1_method_20_code 2 (some .int) 1 5 := ⟨by decide, rfl, gm_mem 382 (by decide +kernel) (by decide +kernel), gm_mem 383 (by decide +kernel) (by decide +kernel), gm_mem 384 (by decide +kernel) (by decide +kernel), gm_mem 1 (by decide +kernel) (by decide +kernel), gm_mem 385 (by decide +kernel) (by decide +kernel), by decide +kernel⟩
theorem gmM_L_94 : gmMV "GarmentMarkerLaw" 94 gmY6_partPiece prog_8_method_35_code 2 (some .int) 1 6 := ⟨by decide, rfl, gm_mem 760 (by decide +kernel) (by decide +kernel), gm_mem 761 (by decide +kernel) (by decide +kernel), gm_mem 762 (by decide +kernel) (by decide +kernel), gm_mem 7 (by decide +kernel) (by decide +kernel), gm_mem 763 (by decide +kernel) (by decide +kernel), by decide +kernel⟩
theorem gmM_L_95 : gmMV "GarmentMarkerLaw" 95 gmY5_partAlong prog_1_method_21_code 3 (some .int) 1 5 := ⟨by decide, rfl, gm_mem 386 (by decide +kernel) (by decide +kernel), gm_mem 387 (by decide +kernel) (by decide +kernel), gm_mem 388 (by decide +kernel) (by decide +kernel), gm_mem 1 (by decide +kernel) (by decide +kernel), gm_mem 389 (by decide +kernel) (by decide +kernel), by decide +kernel⟩
theorem gmM_L_98 : gmMV "GarmentMarkerLaw" 98 gmY6_partAlong prog_8_method_48_code 2 (some .int) 1 6 := ⟨by decide, rfl, gm_mem 764 (by decide +kernel) (by decide +kernel), gm_mem 765 (by decide +kernel) (by decide +kernel), gm_mem 766 (by decide +kernel) (by decide +kernel), gm_mem 7 (by decide +kernel) (by decide +kernel), gm_mem 767 (by decide +kernel) (by decide +kernel), by decide +kernel⟩
theorem gmM_L_99 : gmMV "GarmentMarkerLaw" 99 gmY5_partAcross prog_1_method_22_code 3 (some .int) 1 5 := ⟨by decide, rfl, gm_mem 441 (by decide +kernel) (by decide +kernel), gm_mem 442 (by decide +kernel) (by decide +kernel), gm_mem 443 (by decide +kernel) (by decide +kernel), gm_mem 1 (by decide +kernel) (by decide +kernel), gm_mem 444 (by decide +kernel) (by decide +kernel), by decide +kernel⟩
theorem gmM_L_102 : gmMV "GarmentMarkerLaw" 102 gmY6_partAcross prog_8_method_49_code 2 (some .int) 1 6 := ⟨by decide, rfl, gm_mem 804 (by decide +kernel) (by decide +kernel), gm_mem 805 (by decide +kernel) (by decide +kernel), gm_mem 806 (by decide +kernel) (by decide +kernel), gm_mem 7 (by decide +kernel) (by decide +kernel), gm_mem 807 (by decide +kernel) (by decide +kernel), by decide +kernel⟩
theorem gmM_L_103 : gmMV "GarmentMarkerLaw" 103 gmY5_partAlongExtent prog_1_method_23_code 2 (some .int) 1 5 := ⟨by decide, rfl, gm_mem 445 (by decide +kernel) (by decide +kernel), gm_mem 446 (by decide +kernel) (by decide +kernel), gm_mem 447 (by decide +kernel) (by decide +kernel), gm_mem 1 (by decide +kernel) (by decide +kernel), gm_mem 448 (by decide +kernel) (by decide +kernel), by decide +kernel⟩
theorem gmM_L_106 : gmMV "GarmentMarkerLaw" 106 gmY6_partAlongExtent prog_8_method_50_code 2 (some .int) 1 6 := ⟨by decide, rfl, gm_mem 808 (by decide +kernel) (by decide +kernel), gm_mem 809 (by decide +kernel) (by decide +kernel), gm_mem 810 (by decide +kernel) (by decide +kernel), gm_mem 7 (by decide +kernel) (by decide +kernel), gm_mem 811 (by decide +kernel) (by decide +kernel), by decide +kernel⟩
theorem gmM_L_107 : gmMV "GarmentMarkerLaw" 107 gmY5_partAcrossExtent prog_1_method_24_code 2 (some .int) 1 5 := ⟨by decide, rfl, gm_mem 449 (by decide +kernel) (by decide +kernel), gm_mem 450 (by decide +kernel) (by decide +kernel), gm_mem 451 (by decide +kernel) (by decide +kernel), gm_mem 1 (by decide +kernel) (by decide +kernel), gm_mem 452 (by decide +kernel) (by decide +kernel), by decide +kernel⟩
theorem gmM_L_110 : gmMV "GarmentMarkerLaw" 110 gmY6_partAcrossExtent prog_8_method_51_code 2 (some .int) 1 6 := ⟨by decide, rfl, gm_mem 812 (by decide +kernel) (by decide +kernel), gm_mem 813 (by decide +kernel) (by decide +kernel), gm_mem 814 (by decide +kernel) (by decide +kernel), gm_mem 7 (by decide +kernel) (by decide +kernel), gm_mem 815 (by decide +kernel) (by decide +kernel), by decide +kernel⟩
theorem gmM_L_111 : gmMV "GarmentMarkerLaw" 111 gmY5_markerLength prog_1_method_25_code 1 (some .int) 0 5 := ⟨by decide, rfl, gm_mem 453 (by decide +kernel) (by decide +kernel), gm_mem 454 (by decide +kernel) (by decide +kernel), gm_mem 455 (by decide +kernel) (by decide +kernel), gm_mem 1 (by decide +kernel) (by decide +kernel), gm_mem 456 (by decide +kernel) (by decide +kernel), by decide +kernel⟩
theorem gmM_L_114 : gmMV "GarmentMarkerLaw" 114 gmY6_markerLength prog_8_method_52_code 1 (some .int) 0 6 := ⟨by decide, rfl, gm_mem 816 (by decide +kernel) (by decide +kernel), gm_mem 817 (by decide +kernel) (by decide +kernel), gm_mem 818 (by decide +kernel) (by decide +kernel), gm_mem 7 (by decide +kernel) (by decide +kernel), gm_mem 819 (by decide +kernel) (by decide +kernel), by decide +kernel⟩
theorem gmM_L_115 : gmMV "GarmentMarkerLaw" 115 gmY5_wastedArea prog_1_method_26_code 2 (some .int) 0 5 := ⟨by decide, rfl, gm_mem 461 (by decide +kernel) (by decide +kernel), gm_mem 462 (by decide +kernel) (by decide +kernel), gm_mem 463 (by decide +kernel) (by decide +kernel), gm_mem 1 (by decide +kernel) (by decide +kernel), gm_mem 464 (by decide +kernel) (by decide +kernel), by decide +kernel⟩
theorem gmM_L_118 : gmMV "GarmentMarkerLaw" 118 gmY6_wastedArea prog_8_method_53_code 4 (some .int) 0 6 := ⟨by decide, rfl, gm_mem 832 (by decide +kernel) (by decide +kernel), gm_mem 833 (by decide +kernel) (by decide +kernel), gm_mem 834 (by decide +kernel) (by decide +kernel), gm_mem 7 (by decide +kernel) (by decide +kernel), gm_mem 835 (by decide +kernel) (by decide +kernel), by decide +kernel⟩
theorem gmM_L_119 : gmMV "GarmentMarkerLaw" 119 gmY5_markerLengthWith prog_1_method_27_code 3 (some .int) 2 5 := ⟨by decide, rfl, gm_mem 469 (by decide +kernel) (by decide +kernel), gm_mem 470 (by decide +kernel) (by decide +kernel), gm_mem 471 (by decide +kernel) (by decide +kernel), gm_mem 1 (by decide +kernel) (by decide +kernel), gm_mem 472 (by decide +kernel) (by decide +kernel), by decide +kernel⟩
theorem gmM_L_122 : gmMV "GarmentMarkerLaw" 122 gmY6_markerLengthWith prog_8_method_54_code 3 (some .int) 2 6 := ⟨by decide, rfl, gm_mem 836 (by decide +kernel) (by decide +kernel), gm_mem 837 (by decide +kernel) (by decide +kernel), gm_mem 838 (by decide +kernel) (by decide +kernel), gm_mem 7 (by decide +kernel) (by decide +kernel), gm_mem 839 (by decide +kernel) (by decide +kernel), by decide +kernel⟩
theorem gmM_L_123 : gmMV "GarmentMarkerLaw" 123 gmY5_bestLength prog_1_method_28_code 2 (some .int) 0 5 := ⟨by decide, rfl, gm_mem 473 (by decide +kernel) (by decide +kernel), gm_mem 474 (by decide +kernel) (by decide +kernel), gm_mem 475 (by decide +kernel) (by decide +kernel), gm_mem 1 (by decide +kernel) (by decide +kernel), gm_mem 476 (by decide +kernel) (by decide +kernel), by decide +kernel⟩
theorem gmM_L_126 : gmMV "GarmentMarkerLaw" 126 gmY6_bestLength prog_8_method_56_code 1 (some .int) 0 6 := ⟨by decide, rfl, gm_mem 840 (by decide +kernel) (by decide +kernel), gm_mem 841 (by decide +kernel) (by decide +kernel), gm_mem 842 (by decide +kernel) (by decide +kernel), gm_mem 7 (by decide +kernel) (by decide +kernel), gm_mem 843 (by decide +kernel) (by decide +kernel), by decide +kernel⟩
theorem gmM_L_127 : gmMV "GarmentMarkerLaw" 127 gmY5_bestPacking prog_1_method_29_code 1 (some .int) 0 5 := ⟨by decide, rfl, gm_mem 482 (by decide +kernel) (by decide +kernel), gm_mem 483 (by decide +kernel) (by decide +kernel), gm_mem 484 (by decide +kernel) (by decide +kernel), gm_mem 1 (by decide +kernel) (by decide +kernel), gm_mem 485 (by decide +kernel) (by decide +kernel), by decide +kernel⟩
theorem gmM_L_130 : gmMV "GarmentMarkerLaw" 130 gmY6_bestPacking prog_8_method_57_code 1 (some .int) 0 6 := ⟨by decide, rfl, gm_mem 848 (by decide +kernel) (by decide +kernel), gm_mem 849 (by decide +kernel) (by decide +kernel), gm_mem 850 (by decide +kernel) (by decide +kernel), gm_mem 7 (by decide +kernel) (by decide +kernel), gm_mem 851 (by decide +kernel) (by decide +kernel), by decide +kernel⟩
theorem gmM_L_131 : gmMV "GarmentMarkerLaw" 131 gmY5_setOrdered prog_1_method_30_code 4 (some .int) 2 5 := ⟨by decide, rfl, gm_mem 486 (by decide +kernel) (by decide +kernel), gm_mem 487 (by decide +kernel) (by decide +kernel), gm_mem 488 (by decide +kernel) (by decide +kernel), gm_mem 1 (by decide +kernel) (by decide +kernel), gm_mem 489 (by decide +kernel) (by decide +kernel), by decide +kernel⟩
theorem gmM_L_134 : gmMV "GarmentMarkerLaw" 134 gmY6_setOrdered prog_8_method_58_code 3 (some .int) 2 6 := ⟨by decide, rfl, gm_mem 852 (by decide +kernel) (by decide +kernel), gm_mem 853 (by decide +kernel) (by decide +kernel), gm_mem 854 (by decide +kernel) (by decide +kernel), gm_mem 7 (by decide +kernel) (by decide +kernel), gm_mem 855 (by decide +kernel) (by decide +kernel), by decide +kernel⟩
theorem gmM_L_135 : gmMV "GarmentMarkerLaw" 135 gmY5_plies prog_1_method_31_code 1 (some .int) 0 5 := ⟨by decide, rfl, gm_mem 490 (by decide +kernel) (by decide +kernel), gm_mem 491 (by decide +kernel) (by decide +kernel), gm_mem 492 (by decide +kernel) (by decide +kernel), gm_mem 1 (by decide +kernel) (by decide +kernel), gm_mem 493 (by decide +kernel) (by decide +kernel), by decide +kernel⟩
theorem gmM_L_138 : gmMV "GarmentMarkerLaw" 138 gmY6_plies prog_8_method_60_code 1 (some .int) 0 6 := ⟨by decide, rfl, gm_mem 856 (by decide +kernel) (by decide +kernel), gm_mem 857 (by decide +kernel) (by decide +kernel), gm_mem 858 (by decide +kernel) (by decide +kernel), gm_mem 7 (by decide +kernel) (by decide +kernel), gm_mem 859 (by decide +kernel) (by decide +kernel), by decide +kernel⟩
theorem gmM_L_139 : gmMV "GarmentMarkerLaw" 139 gmY5_clothLength prog_1_method_32_code 3 (some .int) 0 5 := ⟨by decide, rfl, gm_mem 499 (by decide +kernel) (by decide +kernel), gm_mem 500 (by decide +kernel) (by decide +kernel), gm_mem 501 (by decide +kernel) (by decide +kernel), gm_mem 1 (by decide +kernel) (by decide +kernel), gm_mem 502 (by decide +kernel) (by decide +kernel), by decide +kernel⟩
theorem gmM_L_142 : gmMV "GarmentMarkerLaw" 142 gmY6_clothLength prog_8_method_62_code 1 (some .int) 0 6 := ⟨by decide, rfl, gm_mem 864 (by decide +kernel) (by decide +kernel), gm_mem 865 (by decide +kernel) (by decide +kernel), gm_mem 866 (by decide +kernel) (by decide +kernel), gm_mem 7 (by decide +kernel) (by decide +kernel), gm_mem 867 (by decide +kernel) (by decide +kernel), by decide +kernel⟩
theorem gmM_L_143 : gmMV "GarmentMarkerLaw" 143 gmY5_surplus prog_1_method_33_code 2 (some .int) 0 5 := ⟨by decide, rfl, gm_mem 503 (by decide +kernel) (by decide +kernel), gm_mem 504 (by decide +kernel) (by decide +kernel), gm_mem 505 (by decide +kernel) (by decide +kernel), gm_mem 1 (by decide +kernel) (by decide +kernel), gm_mem 506 (by decide +kernel) (by decide +kernel), by decide +kernel⟩
theorem gmM_L_146 : gmMV "GarmentMarkerLaw" 146 gmY6_surplus prog_8_method_64_code 1 (some .int) 0 6 := ⟨by decide, rfl, gm_mem 872 (by decide +kernel) (by decide +kernel), gm_mem 873 (by decide +kernel) (by decide +kernel), gm_mem 874 (by decide +kernel) (by decide +kernel), gm_mem 7 (by decide +kernel) (by decide +kernel), gm_mem 875 (by decide +kernel) (by decide +kernel), by decide +kernel⟩
theorem gmM_L_147 : gmMV "GarmentMarkerLaw" 147 gmY5_goodMixes prog_1_method_34_code 3 (some .int) 0 5 := ⟨by decide, rfl, gm_mem 511 (by decide +kernel) (by decide +kernel), gm_mem 512 (by decide +kernel) (by decide +kernel), gm_mem 513 (by decide +kernel) (by decide +kernel), gm_mem 1 (by decide +kernel) (by decide +kernel), gm_mem 514 (by decide +kernel) (by decide +kernel), by decide +kernel⟩
theorem gmM_L_150 : gmMV "GarmentMarkerLaw" 150 gmY6_goodMixes prog_8_method_68_code 1 (some .int) 0 6 := ⟨by decide, rfl, gm_mem 880 (by decide +kernel) (by decide +kernel), gm_mem 881 (by decide +kernel) (by decide +kernel), gm_mem 882 (by decide +kernel) (by decide +kernel), gm_mem 7 (by decide +kernel) (by decide +kernel), gm_mem 883 (by decide +kernel) (by decide +kernel), by decide +kernel⟩
theorem gmM_L_151 : gmMV "GarmentMarkerLaw" 151 gmY5_bestMix prog_1_method_35_code 2 (some .int) 0 5 := ⟨by decide, rfl, gm_mem 519 (by decide +kernel) (by decide +kernel), gm_mem 520 (by decide +kernel) (by decide +kernel), gm_mem 521 (by decide +kernel) (by decide +kernel), gm_mem 1 (by decide +kernel) (by decide +kernel), gm_mem 522 (by decide +kernel) (by decide +kernel), by decide +kernel⟩
theorem gmM_L_154 : gmMV "GarmentMarkerLaw" 154 gmY6_bestMix prog_8_method_69_code 1 (some .int) 0 6 := ⟨by decide, rfl, gm_mem 896 (by decide +kernel) (by decide +kernel), gm_mem 897 (by decide +kernel) (by decide +kernel), gm_mem 898 (by decide +kernel) (by decide +kernel), gm_mem 7 (by decide +kernel) (by decide +kernel), gm_mem 899 (by decide +kernel) (by decide +kernel), by decide +kernel⟩
theorem gmM_L_155 : gmMV "GarmentMarkerLaw" 155 gmY5_bestMixCloth prog_1_method_36_code 2 (some .int) 0 5 := ⟨by decide, rfl, gm_mem 527 (by decide +kernel) (by decide +kernel), gm_mem 528 (by decide +kernel) (by decide +kernel), gm_mem 529 (by decide +kernel) (by decide +kernel), gm_mem 1 (by decide +kernel) (by decide +kernel), gm_mem 530 (by decide +kernel) (by decide +kernel), by decide +kernel⟩
theorem gmM_L_158 : gmMV "GarmentMarkerLaw" 158 gmY6_bestMixCloth prog_8_method_70_code 1 (some .int) 0 6 := ⟨by decide, rfl, gm_mem 900 (by decide +kernel) (by decide +kernel), gm_mem 901 (by decide +kernel) (by decide +kernel), gm_mem 902 (by decide +kernel) (by decide +kernel), gm_mem 7 (by decide +kernel) (by decide +kernel), gm_mem 903 (by decide +kernel) (by decide +kernel), by decide +kernel⟩
theorem gmM_L_159 : gmMV "GarmentMarkerLaw" 159 gmY5_applyBestMix prog_1_method_37_code 2 (some .int) 0 5 := ⟨by decide, rfl, gm_mem 531 (by decide +kernel) (by decide +kernel), gm_mem 532 (by decide +kernel) (by decide +kernel), gm_mem 533 (by decide +kernel) (by decide +kernel), gm_mem 1 (by decide +kernel) (by decide +kernel), gm_mem 534 (by decide +kernel) (by decide +kernel), by decide +kernel⟩
theorem gmM_L_162 : gmMV "GarmentMarkerLaw" 162 gmY6_applyBestMix prog_8_method_71_code 1 (some .int) 0 6 := ⟨by decide, rfl, gm_mem 904 (by decide +kernel) (by decide +kernel), gm_mem 905 (by decide +kernel) (by decide +kernel), gm_mem 906 (by decide +kernel) (by decide +kernel), gm_mem 7 (by decide +kernel) (by decide +kernel), gm_mem 907 (by decide +kernel) (by decide +kernel), by decide +kernel⟩
theorem gmM_L_163 : gmMV "GarmentMarkerLaw" 163 gmY5_save prog_1_method_38_code 2 (some .int) 1 5 := ⟨by decide, rfl, gm_mem 538 (by decide +kernel) (by decide +kernel), gm_mem 539 (by decide +kernel) (by decide +kernel), gm_mem 540 (by decide +kernel) (by decide +kernel), gm_mem 1 (by decide +kernel) (by decide +kernel), gm_mem 541 (by decide +kernel) (by decide +kernel), by decide +kernel⟩
theorem gmM_L_166 : gmMV "GarmentMarkerLaw" 166 gmY6_save prog_8_method_72_code 3 (some .int) 1 6 := ⟨by decide, rfl, gm_mem 908 (by decide +kernel) (by decide +kernel), gm_mem 909 (by decide +kernel) (by decide +kernel), gm_mem 910 (by decide +kernel) (by decide +kernel), gm_mem 7 (by decide +kernel) (by decide +kernel), gm_mem 911 (by decide +kernel) (by decide +kernel), by decide +kernel⟩
theorem gmM_L_167 : gmMV "GarmentMarkerLaw" 167 gmY5_restore prog_1_method_39_code 2 (some .int) 1 5 := ⟨by decide, rfl, gm_mem 551 (by decide +kernel) (by decide +kernel), gm_mem 552 (by decide +kernel) (by decide +kernel), gm_mem 553 (by decide +kernel) (by decide +kernel), gm_mem 1 (by decide +kernel) (by decide +kernel), gm_mem 554 (by decide +kernel) (by decide +kernel), by decide +kernel⟩
theorem gmM_L_170 : gmMV "GarmentMarkerLaw" 170 gmY6_restore prog_8_method_73_code 3 (some .int) 1 6 := ⟨by decide, rfl, gm_mem 912 (by decide +kernel) (by decide +kernel), gm_mem 913 (by decide +kernel) (by decide +kernel), gm_mem 914 (by decide +kernel) (by decide +kernel), gm_mem 7 (by decide +kernel) (by decide +kernel), gm_mem 915 (by decide +kernel) (by decide +kernel), by decide +kernel⟩
theorem gmM_6_59 : gmMS "GarmentMarkerModel" 59 gmY6_in prog_8_method_2_code 3 (some .boolean) 3 := ⟨rfl, gm_mem 635 (by decide +kernel) (by decide +kernel), gm_mem 636 (by decide +kernel) (by decide +kernel), gm_mem 7 (by decide +kernel) (by decide +kernel), gm_mem 637 (by decide +kernel) (by decide +kernel), by decide +kernel⟩
theorem gmM_6_63 : gmMV "GarmentMarkerModel" 63 gmY6_isPiece prog_8_method_3_code 2 (some .boolean) 1 6 := ⟨by decide, rfl, gm_mem 642 (by decide +kernel) (by decide +kernel), gm_mem 644 (by decide +kernel) (by decide +kernel), gm_memS (q := (gmY6_isPiece, 23)) (by decide +kernel) (by decide +kernel), gm_mem 7 (by decide +kernel) (by decide +kernel), gm_mem 645 (by decide +kernel) (by decide +kernel), by decide +kernel⟩
theorem gmM_6_67 : gmMV "GarmentMarkerModel" 67 gmY6_dropSeam prog_8_method_8_code 3 none 1 6 := ⟨by decide, rfl, gm_mem 646 (by decide +kernel) (by decide +kernel), gm_mem 648 (by decide +kernel) (by decide +kernel), gm_memS (q := (gmY6_dropSeam, 23)) (by decide +kernel) (by decide +kernel), gm_mem 7 (by decide +kernel) (by decide +kernel), gm_mem 649 (by decide +kernel) (by decide +kernel), by decide +kernel⟩
theorem gmM_6_71 : gmMS "GarmentMarkerModel" 71 gmY6_isSize prog_8_method_4_code 1 (some .boolean) 1 := ⟨rfl, gm_mem 654 (by decide +kernel) (by decide +kernel), gm_mem 655 (by decide +kernel) (by decide +kernel), gm_mem 7 (by decide +kernel) (by decide +kernel), gm_mem 656 (by decide +kernel) (by decide +kernel), by decide +kernel⟩
theorem gmM_6_74 : gmMV "GarmentMarkerModel" 74 gmY6_widthOf prog_8_method_5_code 3 (some .int) 2 6 := ⟨by decide, rfl, gm_mem 657 (by decide +kernel) (by decide +kernel), gm_mem 659 (by decide +kernel) (by decide +kernel), gm_memS (q := (gmY6_widthOf, 23)) (by decide +kernel) (by decide +kernel), gm_mem 7 (by decide +kernel) (by decide +kernel), gm_mem 660 (by decide +kernel) (by decide +kernel), by decide +kernel⟩
theorem gmM_6_78 : gmMV "GarmentMarkerModel" 78 gmY6_lengthOf prog_8_method_6_code 3 (some .int) 2 6 := ⟨by decide, rfl, gm_mem 665 (by decide +kernel) (by decide +kernel), gm_mem 667 (by decide +kernel) (by decide +kernel), gm_memS (q := (gmY6_lengthOf, 23)) (by decide +kernel) (by decide +kernel), gm_mem 7 (by decide +kernel) (by decide +kernel), gm_mem 668 (by decide +kernel) (by decide +kernel), by decide +kernel⟩
theorem gmM_6_81 : gmMV "GarmentMarkerModel" 81 gmY6_sideOf prog_8_method_14_code 4 (some .int) 3 6 := ⟨by decide, rfl, gm_mem 685 (by decide +kernel) (by decide +kernel), gm_mem 687 (by decide +kernel) (by decide +kernel), gm_memS (q := (gmY6_sideOf, 23)) (by decide +kernel) (by decide +kernel), gm_mem 7 (by decide +kernel) (by decide +kernel), gm_mem 688 (by decide +kernel) (by decide +kernel), by decide +kernel⟩
theorem gmM_6_85 : gmMV "GarmentMarkerModel" 85 gmY6_differenceOf prog_8_method_15_code 4 (some .int) 2 6 := ⟨by decide, rfl, gm_mem 681 (by decide +kernel) (by decide +kernel), gm_mem 683 (by decide +kernel) (by decide +kernel), gm_memS (q := (gmY6_differenceOf, 23)) (by decide +kernel) (by decide +kernel), gm_mem 7 (by decide +kernel) (by decide +kernel), gm_mem 684 (by decide +kernel) (by decide +kernel), by decide +kernel⟩
theorem gmM_6_88 : gmMV "GarmentMarkerModel" 88 gmY6_matches prog_8_method_17_code 2 (some .boolean) 1 6 := ⟨by decide, rfl, gm_mem 693 (by decide +kernel) (by decide +kernel), gm_mem 695 (by decide +kernel) (by decide +kernel), gm_memS (q := (gmY6_matches, 23)) (by decide +kernel) (by decide +kernel), gm_mem 7 (by decide +kernel) (by decide +kernel), gm_mem 696 (by decide +kernel) (by decide +kernel), by decide +kernel⟩
theorem gmM_6_91 : gmMV "GarmentMarkerModel" 91 gmY6_set prog_8_method_20_code 4 (some .int) 2 6 := ⟨by decide, rfl, gm_mem 705 (by decide +kernel) (by decide +kernel), gm_mem 707 (by decide +kernel) (by decide +kernel), gm_memS (q := (gmY6_set, 23)) (by decide +kernel) (by decide +kernel), gm_mem 7 (by decide +kernel) (by decide +kernel), gm_mem 708 (by decide +kernel) (by decide +kernel), by decide +kernel⟩
theorem gmM_6_94 : gmMS "GarmentMarkerModel" 94 gmY6_isPacking prog_8_method_26_code 2 (some .boolean) 2 := ⟨rfl, gm_mem 729 (by decide +kernel) (by decide +kernel), gm_mem 730 (by decide +kernel) (by decide +kernel), gm_mem 7 (by decide +kernel) (by decide +kernel), gm_mem 731 (by decide +kernel) (by decide +kernel), by decide +kernel⟩
theorem gmM_6_98 : gmMV "GarmentMarkerModel" 98 gmY6_stripWidth prog_8_method_28_code 1 (some .int) 0 6 := ⟨by decide, rfl, gm_mem 744 (by decide +kernel) (by decide +kernel), gm_mem 746 (by decide +kernel) (by decide +kernel), gm_memS (q := (gmY6_stripWidth, 23)) (by decide +kernel) (by decide +kernel), gm_mem 7 (by decide +kernel) (by decide +kernel), gm_mem 747 (by decide +kernel) (by decide +kernel), by decide +kernel⟩
theorem gmM_6_106 : gmMV "GarmentMarkerModel" 106 gmY6_addPart prog_8_method_29_code 8 none 2 6 := ⟨by decide, rfl, gm_mem 740 (by decide +kernel) (by decide +kernel), gm_mem 742 (by decide +kernel) (by decide +kernel), gm_memS (q := (gmY6_addPart, 23)) (by decide +kernel) (by decide +kernel), gm_mem 7 (by decide +kernel) (by decide +kernel), gm_mem 743 (by decide +kernel) (by decide +kernel), by decide +kernel⟩
theorem gmM_6_110 : gmMV "GarmentMarkerModel" 110 gmY6_layParts prog_8_method_30_code 6 none 0 6 := ⟨by decide, rfl, gm_mem 736 (by decide +kernel) (by decide +kernel), gm_mem 738 (by decide +kernel) (by decide +kernel), gm_memS (q := (gmY6_layParts, 23)) (by decide +kernel) (by decide +kernel), gm_mem 7 (by decide +kernel) (by decide +kernel), gm_mem 739 (by decide +kernel) (by decide +kernel), by decide +kernel⟩
theorem gmM_6_113 : gmMV "GarmentMarkerModel" 113 gmY6_isPart prog_8_method_31_code 2 (some .boolean) 1 6 := ⟨by decide, rfl, gm_mem 756 (by decide +kernel) (by decide +kernel), gm_mem 758 (by decide +kernel) (by decide +kernel), gm_memS (q := (gmY6_isPart, 23)) (by decide +kernel) (by decide +kernel), gm_mem 7 (by decide +kernel) (by decide +kernel), gm_mem 759 (by decide +kernel) (by decide +kernel), by decide +kernel⟩
theorem gmM_6_116 : gmMV "GarmentMarkerModel" 116 gmY6_keyOf prog_8_method_36_code 3 (some .int) 2 6 := ⟨by decide, rfl, gm_mem 780 (by decide +kernel) (by decide +kernel), gm_mem 782 (by decide +kernel) (by decide +kernel), gm_memS (q := (gmY6_keyOf, 23)) (by decide +kernel) (by decide +kernel), gm_mem 7 (by decide +kernel) (by decide +kernel), gm_mem 783 (by decide +kernel) (by decide +kernel), by decide +kernel⟩
theorem gmM_6_122 : gmMV "GarmentMarkerModel" 122 gmY6_shelfFor prog_8_method_38_code 4 (some .int) 2 6 := ⟨by decide, rfl, gm_mem 788 (by decide +kernel) (by decide +kernel), gm_mem 790 (by decide +kernel) (by decide +kernel), gm_memS (q := (gmY6_shelfFor, 23)) (by decide +kernel) (by decide +kernel), gm_mem 7 (by decide +kernel) (by decide +kernel), gm_mem 791 (by decide +kernel) (by decide +kernel), by decide +kernel⟩
theorem gmM_6_125 : gmMV "GarmentMarkerModel" 125 gmY6_takenFrom prog_8_method_40_code 5 (some .int) 2 6 := ⟨by decide, rfl, gm_mem 800 (by decide +kernel) (by decide +kernel), gm_mem 802 (by decide +kernel) (by decide +kernel), gm_memS (q := (gmY6_takenFrom, 23)) (by decide +kernel) (by decide +kernel), gm_mem 7 (by decide +kernel) (by decide +kernel), gm_mem 803 (by decide +kernel) (by decide +kernel), by decide +kernel⟩
theorem gmM_6_128 : gmMV "GarmentMarkerModel" 128 gmY6_freeAt prog_8_method_41_code 8 (some .int) 3 6 := ⟨by decide, rfl, gm_mem 796 (by decide +kernel) (by decide +kernel), gm_mem 798 (by decide +kernel) (by decide +kernel), gm_memS (q := (gmY6_freeAt, 23)) (by decide +kernel) (by decide +kernel), gm_mem 7 (by decide +kernel) (by decide +kernel), gm_mem 799 (by decide +kernel) (by decide +kernel), by decide +kernel⟩
theorem gmM_6_131 : gmMV "GarmentMarkerModel" 131 gmY6_layOrder prog_8_method_37_code 4 none 1 6 := ⟨by decide, rfl, gm_mem 776 (by decide +kernel) (by decide +kernel), gm_mem 778 (by decide +kernel) (by decide +kernel), gm_memS (q := (gmY6_layOrder, 23)) (by decide +kernel) (by decide +kernel), gm_mem 7 (by decide +kernel) (by decide +kernel), gm_mem 779 (by decide +kernel) (by decide +kernel), by decide +kernel⟩
theorem gmM_6_134 : gmMV "GarmentMarkerModel" 134 gmY6_packShelves prog_8_method_39_code 5 none 1 6 := ⟨by decide, rfl, gm_mem 784 (by decide +kernel) (by decide +kernel), gm_mem 786 (by decide +kernel) (by decide +kernel), gm_memS (q := (gmY6_packShelves, 23)) (by decide +kernel) (by decide +kernel), gm_mem 7 (by decide +kernel) (by decide +kernel), gm_mem 787 (by decide +kernel) (by decide +kernel), by decide +kernel⟩
theorem gmM_6_137 : gmMV "GarmentMarkerModel" 137 gmY6_packFree prog_8_method_42_code 7 none 1 6 := ⟨by decide, rfl, gm_mem 792 (by decide +kernel) (by decide +kernel), gm_mem 794 (by decide +kernel) (by decide +kernel), gm_memS (q := (gmY6_packFree, 23)) (by decide +kernel) (by decide +kernel), gm_mem 7 (by decide +kernel) (by decide +kernel), gm_mem 795 (by decide +kernel) (by decide +kernel), by decide +kernel⟩
theorem gmM_6_140 : gmMV "GarmentMarkerModel" 140 gmY6_pack prog_8_method_43_code 5 (some .boolean) 2 6 := ⟨by decide, rfl, gm_mem 772 (by decide +kernel) (by decide +kernel), gm_mem 774 (by decide +kernel) (by decide +kernel), gm_memS (q := (gmY6_pack, 23)) (by decide +kernel) (by decide +kernel), gm_mem 7 (by decide +kernel) (by decide +kernel), gm_mem 775 (by decide +kernel) (by decide +kernel), by decide +kernel⟩
theorem gmM_6_143 : gmMV "GarmentMarkerModel" 143 gmY6_packedLength prog_8_method_45_code 3 (some .int) 0 6 := ⟨by decide, rfl, gm_mem 828 (by decide +kernel) (by decide +kernel), gm_mem 830 (by decide +kernel) (by decide +kernel), gm_memS (q := (gmY6_packedLength, 23)) (by decide +kernel) (by decide +kernel), gm_mem 7 (by decide +kernel) (by decide +kernel), gm_mem 831 (by decide +kernel) (by decide +kernel), by decide +kernel⟩
theorem gmM_6_146 : gmMV "GarmentMarkerModel" 146 gmY6_lengthBy prog_8_method_46_code 3 (some .int) 2 6 := ⟨by decide, rfl, gm_mem 824 (by decide +kernel) (by decide +kernel), gm_mem 826 (by decide +kernel) (by decide +kernel), gm_memS (q := (gmY6_lengthBy, 23)) (by decide +kernel) (by decide +kernel), gm_mem 7 (by decide +kernel) (by decide +kernel), gm_mem 827 (by decide +kernel) (by decide +kernel), by decide +kernel⟩
theorem gmM_6_149 : gmMV "GarmentMarkerModel" 149 gmY6_packNow prog_8_method_44_code 1 (some .boolean) 0 6 := ⟨by decide, rfl, gm_mem 768 (by decide +kernel) (by decide +kernel), gm_mem 770 (by decide +kernel) (by decide +kernel), gm_memS (q := (gmY6_packNow, 23)) (by decide +kernel) (by decide +kernel), gm_mem 7 (by decide +kernel) (by decide +kernel), gm_mem 771 (by decide +kernel) (by decide +kernel), by decide +kernel⟩
theorem gmM_6_153 : gmMV "GarmentMarkerModel" 153 gmY6_lengthNow prog_8_method_47_code 1 (some .int) 0 6 := ⟨by decide, rfl, gm_mem 820 (by decide +kernel) (by decide +kernel), gm_mem 822 (by decide +kernel) (by decide +kernel), gm_memS (q := (gmY6_lengthNow, 23)) (by decide +kernel) (by decide +kernel), gm_mem 7 (by decide +kernel) (by decide +kernel), gm_mem 823 (by decide +kernel) (by decide +kernel), by decide +kernel⟩
theorem gmM_6_159 : gmMV "GarmentMarkerModel" 159 gmY6_findBest prog_8_method_55_code 4 (some .int) 0 6 := ⟨by decide, rfl, gm_mem 844 (by decide +kernel) (by decide +kernel), gm_mem 846 (by decide +kernel) (by decide +kernel), gm_memS (q := (gmY6_findBest, 23)) (by decide +kernel) (by decide +kernel), gm_mem 7 (by decide +kernel) (by decide +kernel), gm_mem 847 (by decide +kernel) (by decide +kernel), by decide +kernel⟩
theorem gmM_6_162 : gmMV "GarmentMarkerModel" 162 gmY6_pliesNow prog_8_method_59_code 6 (some .int) 0 6 := ⟨by decide, rfl, gm_mem 860 (by decide +kernel) (by decide +kernel), gm_mem 862 (by decide +kernel) (by decide +kernel), gm_memS (q := (gmY6_pliesNow, 23)) (by decide +kernel) (by decide +kernel), gm_mem 7 (by decide +kernel) (by decide +kernel), gm_mem 863 (by decide +kernel) (by decide +kernel), by decide +kernel⟩
theorem gmM_6_165 : gmMV "GarmentMarkerModel" 165 gmY6_clothNow prog_8_method_61_code 3 (some .int) 0 6 := ⟨by decide, rfl, gm_mem 868 (by decide +kernel) (by decide +kernel), gm_mem 870 (by decide +kernel) (by decide +kernel), gm_memS (q := (gmY6_clothNow, 23)) (by decide +kernel) (by decide +kernel), gm_mem 7 (by decide +kernel) (by decide +kernel), gm_mem 871 (by decide +kernel) (by decide +kernel), by decide +kernel⟩
theorem gmM_6_168 : gmMV "GarmentMarkerModel" 168 gmY6_surplusNow prog_8_method_63_code 4 (some .int) 0 6 := ⟨by decide, rfl, gm_mem 876 (by decide +kernel) (by decide +kernel), gm_mem 878 (by decide +kernel) (by decide +kernel), gm_memS (q := (gmY6_surplusNow, 23)) (by decide +kernel) (by decide +kernel), gm_mem 7 (by decide +kernel) (by decide +kernel), gm_mem 879 (by decide +kernel) (by decide +kernel), by decide +kernel⟩
theorem gmM_6_171 : gmMV "GarmentMarkerModel" 171 gmY6_setMix prog_8_method_65_code 2 none 1 6 := ⟨by decide, rfl, gm_mem 892 (by decide +kernel) (by decide +kernel), gm_mem 894 (by decide +kernel) (by decide +kernel), gm_memS (q := (gmY6_setMix, 23)) (by decide +kernel) (by decide +kernel), gm_mem 7 (by decide +kernel) (by decide +kernel), gm_mem 895 (by decide +kernel) (by decide +kernel), by decide +kernel⟩
theorem gmM_6_186 : gmMV "GarmentMarkerModel" 186 gmY6_tryMix prog_8_method_66_code 4 none 1 6 := ⟨by decide, rfl, gm_mem 888 (by decide +kernel) (by decide +kernel), gm_mem 890 (by decide +kernel) (by decide +kernel), gm_memS (q := (gmY6_tryMix, 23)) (by decide +kernel) (by decide +kernel), gm_mem 7 (by decide +kernel) (by decide +kernel), gm_mem 891 (by decide +kernel) (by decide +kernel), by decide +kernel⟩
theorem gmM_6_189 : gmMV "GarmentMarkerModel" 189 gmY6_findMix prog_8_method_67_code 2 none 0 6 := ⟨by decide, rfl, gm_mem 884 (by decide +kernel) (by decide +kernel), gm_mem 886 (by decide +kernel) (by decide +kernel), gm_memS (q := (gmY6_findMix, 23)) (by decide +kernel) (by decide +kernel), gm_mem 7 (by decide +kernel) (by decide +kernel), gm_mem 887 (by decide +kernel) (by decide +kernel), by decide +kernel⟩
theorem gmM_0_93 : gmMN "GarmentMarker$Marker" 93 gmY5_isWithin "GarmentMarker" prog_1_method_40_code 3 (some .boolean) 3 := ⟨by decide +kernel, gm_mem 238 (by decide +kernel) (by decide +kernel), gm_mem 1 (by decide +kernel) (by decide +kernel), gm_mem 239 (by decide +kernel) (by decide +kernel), by decide +kernel⟩
theorem gmM_4_65 : gmMN "GarmentMarker$State" 65 gmY5_isWithin "GarmentMarker" prog_1_method_40_code 3 (some .boolean) 3 := ⟨by decide +kernel, gm_mem 238 (by decide +kernel) (by decide +kernel), gm_mem 1 (by decide +kernel) (by decide +kernel), gm_mem 239 (by decide +kernel) (by decide +kernel), by decide +kernel⟩
end
