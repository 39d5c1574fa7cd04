section
-- ===== PART A: goes FIRST, ahead of the names: the tables' words, and 'selects' of the private methods out of them =====
/-- a private method of a class that the tables say can be made, by its rows of tables_1 -/
def lw_okq (q : MethodName × Nat) : Prop := (q.1.cls ≠ "java/lang/invoke/MethodHandle" ∧ q.1.cls ≠ "java/lang/invoke/VarHandle") ∧ Cond.instantiable q.1.cls q.2 ∈ tables_1 ∧ Cond.privateMethod q.1 ∈ tables_1 ∧ Cond.instanceMethod q.1 ∈ tables_1
theorem lw_p0 : lw_okq (⟨"QuiltDesk$Piecing", "putWaiting", "(II)I"⟩, 4) := ⟨⟨by decide +kernel, by decide +kernel⟩, List.mem_of_getElem? (i := 50) (by decide +kernel), List.mem_of_getElem? (i := 244) (by decide +kernel), List.mem_of_getElem? (i := 245) (by decide +kernel)⟩
theorem lw_p1 : lw_okq (⟨"QuiltDesk$Piecing", "firstSeam", "(LQuiltDesk$Drawing;I)I"⟩, 4) := ⟨⟨by decide +kernel, by decide +kernel⟩, List.mem_of_getElem? (i := 50) (by decide +kernel), List.mem_of_getElem? (i := 249) (by decide +kernel), List.mem_of_getElem? (i := 250) (by decide +kernel)⟩
theorem lw_p2 : lw_okq (⟨"QuiltDesk$Piecing", "leftPart", "(LQuiltDesk$Drawing;II)I"⟩, 4) := ⟨⟨by decide +kernel, by decide +kernel⟩, List.mem_of_getElem? (i := 50) (by decide +kernel), List.mem_of_getElem? (i := 253) (by decide +kernel), List.mem_of_getElem? (i := 254) (by decide +kernel)⟩
theorem lw_p3 : lw_okq (⟨"QuiltDesk$Piecing", "noteSeam", "(IIII)V"⟩, 4) := ⟨⟨by decide +kernel, by decide +kernel⟩, List.mem_of_getElem? (i := 50) (by decide +kernel), List.mem_of_getElem? (i := 258) (by decide +kernel), List.mem_of_getElem? (i := 259) (by decide +kernel)⟩
theorem lw_p4 : lw_okq (⟨"java/lang/Throwable", "fillInStackTrace", "(I)Ljava/lang/Throwable;"⟩, 6) := ⟨⟨by decide +kernel, by decide +kernel⟩, List.mem_of_getElem? (i := 318) (by decide +kernel), List.mem_of_getElem? (i := 316) (by decide +kernel), List.mem_of_getElem? (i := 317) (by decide +kernel)⟩
theorem lw_p5 : lw_okq (⟨"QuiltDesk$Top", "markCorners", "(LQuiltDesk$Drawing;III)V"⟩, 7) := ⟨⟨by decide +kernel, by decide +kernel⟩, List.mem_of_getElem? (i := 71) (by decide +kernel), List.mem_of_getElem? (i := 478) (by decide +kernel), List.mem_of_getElem? (i := 479) (by decide +kernel)⟩
theorem lw_p6 : lw_okq (⟨"QuiltDesk$Cutting", "gather", "(LQuiltDesk$Top;I)V"⟩, 13) := ⟨⟨by decide +kernel, by decide +kernel⟩, List.mem_of_getElem? (i := 111) (by decide +kernel), List.mem_of_getElem? (i := 537) (by decide +kernel), List.mem_of_getElem? (i := 538) (by decide +kernel)⟩
theorem lw_p7 : lw_okq (⟨"QuiltDesk$Cutting", "gatherPatches", "(LQuiltDesk$Drawing;I)V"⟩, 13) := ⟨⟨by decide +kernel, by decide +kernel⟩, List.mem_of_getElem? (i := 111) (by decide +kernel), List.mem_of_getElem? (i := 543) (by decide +kernel), List.mem_of_getElem? (i := 544) (by decide +kernel)⟩
theorem lw_p8 : lw_okq (⟨"QuiltDesk$Cutting", "gatherHalf", "(I)V"⟩, 13) := ⟨⟨by decide +kernel, by decide +kernel⟩, List.mem_of_getElem? (i := 111) (by decide +kernel), List.mem_of_getElem? (i := 555) (by decide +kernel), List.mem_of_getElem? (i := 556) (by decide +kernel)⟩
theorem lw_p9 : lw_okq (⟨"QuiltDesk$Cutting", "gatherCut", "(III)V"⟩, 13) := ⟨⟨by decide +kernel, by decide +kernel⟩, List.mem_of_getElem? (i := 111) (by decide +kernel), List.mem_of_getElem? (i := 559) (by decide +kernel), List.mem_of_getElem? (i := 560) (by decide +kernel)⟩
theorem lw_p10 : lw_okq (⟨"QuiltDesk$Drawing", "extent", "(I[I)I"⟩, 4) := ⟨⟨by decide +kernel, by decide +kernel⟩, List.mem_of_getElem? (i := 26) (by decide +kernel), List.mem_of_getElem? (i := 567) (by decide +kernel), List.mem_of_getElem? (i := 568) (by decide +kernel)⟩
theorem lw_p11 : lw_okq (⟨"QuiltDesk$Cutting", "gatherPieces", "(IIII)V"⟩, 13) := ⟨⟨by decide +kernel, by decide +kernel⟩, List.mem_of_getElem? (i := 111) (by decide +kernel), List.mem_of_getElem? (i := 581) (by decide +kernel), List.mem_of_getElem? (i := 582) (by decide +kernel)⟩
theorem lw_p12 : lw_okq (⟨"QuiltDesk$Cutting", "gatherSashes", "(LQuiltDesk$Top;II)V"⟩, 13) := ⟨⟨by decide +kernel, by decide +kernel⟩, List.mem_of_getElem? (i := 111) (by decide +kernel), List.mem_of_getElem? (i := 596) (by decide +kernel), List.mem_of_getElem? (i := 597) (by decide +kernel)⟩
theorem lw_p13 : lw_okq (⟨"QuiltDesk$Cutting", "gatherBorder", "(LQuiltDesk$Top;II)V"⟩, 13) := ⟨⟨by decide +kernel, by decide +kernel⟩, List.mem_of_getElem? (i := 111) (by decide +kernel), List.mem_of_getElem? (i := 604) (by decide +kernel), List.mem_of_getElem? (i := 605) (by decide +kernel)⟩
theorem lw_p14 : lw_okq (⟨"QuiltDesk$Cutting", "sort", "()V"⟩, 13) := ⟨⟨by decide +kernel, by decide +kernel⟩, List.mem_of_getElem? (i := 111) (by decide +kernel), List.mem_of_getElem? (i := 613) (by decide +kernel), List.mem_of_getElem? (i := 614) (by decide +kernel)⟩
theorem lw_p15 : lw_okq (⟨"QuiltDesk$Cutting", "merge", "(III)V"⟩, 13) := ⟨⟨by decide +kernel, by decide +kernel⟩, List.mem_of_getElem? (i := 111) (by decide +kernel), List.mem_of_getElem? (i := 617) (by decide +kernel), List.mem_of_getElem? (i := 618) (by decide +kernel)⟩
def lw_privs_1 : List (MethodName × Nat) := [(⟨"QuiltDesk$Piecing", "putWaiting", "(II)I"⟩, 4), (⟨"QuiltDesk$Piecing", "firstSeam", "(LQuiltDesk$Drawing;I)I"⟩, 4), (⟨"QuiltDesk$Piecing", "leftPart", "(LQuiltDesk$Drawing;II)I"⟩, 4), (⟨"QuiltDesk$Piecing", "noteSeam", "(IIII)V"⟩, 4), (⟨"java/lang/Throwable", "fillInStackTrace", "(I)Ljava/lang/Throwable;"⟩, 6), (⟨"QuiltDesk$Top", "markCorners", "(LQuiltDesk$Drawing;III)V"⟩, 7), (⟨"QuiltDesk$Cutting", "gather", "(LQuiltDesk$Top;I)V"⟩, 13), (⟨"QuiltDesk$Cutting", "gatherPatches", "(LQuiltDesk$Drawing;I)V"⟩, 13), (⟨"QuiltDesk$Cutting", "gatherHalf", "(I)V"⟩, 13), (⟨"QuiltDesk$Cutting", "gatherCut", "(III)V"⟩, 13), (⟨"QuiltDesk$Drawing", "extent", "(I[I)I"⟩, 4), (⟨"QuiltDesk$Cutting", "gatherPieces", "(IIII)V"⟩, 13), (⟨"QuiltDesk$Cutting", "gatherSashes", "(LQuiltDesk$Top;II)V"⟩, 13), (⟨"QuiltDesk$Cutting", "gatherBorder", "(LQuiltDesk$Top;II)V"⟩, 13), (⟨"QuiltDesk$Cutting", "sort", "()V"⟩, 13), (⟨"QuiltDesk$Cutting", "merge", "(III)V"⟩, 13)]
theorem lw_r1 : ∀ q ∈ lw_privs_1, lw_okq q := List.forall_mem_cons.mpr ⟨lw_p0, List.forall_mem_cons.mpr ⟨lw_p1, List.forall_mem_cons.mpr ⟨lw_p2, List.forall_mem_cons.mpr ⟨lw_p3, List.forall_mem_cons.mpr ⟨lw_p4, List.forall_mem_cons.mpr ⟨lw_p5, List.forall_mem_cons.mpr ⟨lw_p6, List.forall_mem_cons.mpr ⟨lw_p7, List.forall_mem_cons.mpr ⟨lw_p8, List.forall_mem_cons.mpr ⟨lw_p9, List.forall_mem_cons.mpr ⟨lw_p10, List.forall_mem_cons.mpr ⟨lw_p11, List.forall_mem_cons.mpr ⟨lw_p12, List.forall_mem_cons.mpr ⟨lw_p13, List.forall_mem_cons.mpr ⟨lw_p14, List.forall_mem_cons.mpr ⟨lw_p15, fun _ h => absurd h List.not_mem_nil⟩⟩⟩⟩⟩⟩⟩⟩⟩⟩⟩⟩⟩⟩⟩⟩
theorem lw_p16 : lw_okq (⟨"QuiltDesk$Cutting", "goesBefore", "(II)Z"⟩, 13) := ⟨⟨by decide +kernel, by decide +kernel⟩, List.mem_of_getElem? (i := 111) (by decide +kernel), List.mem_of_getElem? (i := 621) (by decide +kernel), List.mem_of_getElem? (i := 622) (by decide +kernel)⟩
theorem lw_p17 : lw_okq (⟨"QuiltDesk$Cutting", "layInOrder", "()V"⟩, 13) := ⟨⟨by decide +kernel, by decide +kernel⟩, List.mem_of_getElem? (i := 111) (by decide +kernel), List.mem_of_getElem? (i := 626) (by decide +kernel), List.mem_of_getElem? (i := 627) (by decide +kernel)⟩
theorem lw_p18 : lw_okq (⟨"QuiltDesk$Cutting", "stripFor", "(I)I"⟩, 13) := ⟨⟨by decide +kernel, by decide +kernel⟩, List.mem_of_getElem? (i := 111) (by decide +kernel), List.mem_of_getElem? (i := 630) (by decide +kernel), List.mem_of_getElem? (i := 631) (by decide +kernel)⟩
theorem lw_p19 : lw_okq (⟨"QuiltDeskModel", "goes", "(ZZ)Z"⟩, 26) := ⟨⟨by decide +kernel, by decide +kernel⟩, List.mem_of_getElem? (i := 659) (by decide +kernel), List.mem_of_getElem? (i := 759) (by decide +kernel), List.mem_of_getElem? (i := 760) (by decide +kernel)⟩
theorem lw_p20 : lw_okq (⟨"QuiltDeskModel", "isConvex", "(I)Z"⟩, 26) := ⟨⟨by decide +kernel, by decide +kernel⟩, List.mem_of_getElem? (i := 659) (by decide +kernel), List.mem_of_getElem? (i := 770) (by decide +kernel), List.mem_of_getElem? (i := 771) (by decide +kernel)⟩
theorem lw_p21 : lw_okq (⟨"QuiltDeskModel", "next", "(II)I"⟩, 26) := ⟨⟨by decide +kernel, by decide +kernel⟩, List.mem_of_getElem? (i := 659) (by decide +kernel), List.mem_of_getElem? (i := 774) (by decide +kernel), List.mem_of_getElem? (i := 775) (by decide +kernel)⟩
theorem lw_p22 : lw_okq (⟨"QuiltDeskModel", "side", "(IIII)I"⟩, 26) := ⟨⟨by decide +kernel, by decide +kernel⟩, List.mem_of_getElem? (i := 659) (by decide +kernel), List.mem_of_getElem? (i := 778) (by decide +kernel), List.mem_of_getElem? (i := 779) (by decide +kernel)⟩
theorem lw_p23 : lw_okq (⟨"QuiltDeskModel", "areaOf", "(I)I"⟩, 26) := ⟨⟨by decide +kernel, by decide +kernel⟩, List.mem_of_getElem? (i := 659) (by decide +kernel), List.mem_of_getElem? (i := 782) (by decide +kernel), List.mem_of_getElem? (i := 783) (by decide +kernel)⟩
theorem lw_p24 : lw_okq (⟨"QuiltDeskModel", "closed", "()I"⟩, 26) := ⟨⟨by decide +kernel, by decide +kernel⟩, List.mem_of_getElem? (i := 659) (by decide +kernel), List.mem_of_getElem? (i := 794) (by decide +kernel), List.mem_of_getElem? (i := 795) (by decide +kernel)⟩
theorem lw_p25 : lw_okq (⟨"QuiltDeskModel", "state", "()I"⟩, 26) := ⟨⟨by decide +kernel, by decide +kernel⟩, List.mem_of_getElem? (i := 659) (by decide +kernel), List.mem_of_getElem? (i := 802) (by decide +kernel), List.mem_of_getElem? (i := 803) (by decide +kernel)⟩
theorem lw_p26 : lw_okq (⟨"QuiltDeskModel", "overlapping", "()I"⟩, 26) := ⟨⟨by decide +kernel, by decide +kernel⟩, List.mem_of_getElem? (i := 659) (by decide +kernel), List.mem_of_getElem? (i := 806) (by decide +kernel), List.mem_of_getElem? (i := 807) (by decide +kernel)⟩
theorem lw_p27 : lw_okq (⟨"QuiltDeskModel", "apart", "(II)Z"⟩, 26) := ⟨⟨by decide +kernel, by decide +kernel⟩, List.mem_of_getElem? (i := 659) (by decide +kernel), List.mem_of_getElem? (i := 810) (by decide +kernel), List.mem_of_getElem? (i := 811) (by decide +kernel)⟩
theorem lw_p28 : lw_okq (⟨"QuiltDeskModel", "lies", "(III)I"⟩, 26) := ⟨⟨by decide +kernel, by decide +kernel⟩, List.mem_of_getElem? (i := 659) (by decide +kernel), List.mem_of_getElem? (i := 814) (by decide +kernel), List.mem_of_getElem? (i := 815) (by decide +kernel)⟩
theorem lw_p29 : lw_okq (⟨"QuiltDeskModel", "leftOf", "(III)I"⟩, 26) := ⟨⟨by decide +kernel, by decide +kernel⟩, List.mem_of_getElem? (i := 659) (by decide +kernel), List.mem_of_getElem? (i := 829) (by decide +kernel), List.mem_of_getElem? (i := 830) (by decide +kernel)⟩
theorem lw_p30 : lw_okq (⟨"QuiltDeskModel", "hasCorner", "(III)Z"⟩, 26) := ⟨⟨by decide +kernel, by decide +kernel⟩, List.mem_of_getElem? (i := 659) (by decide +kernel), List.mem_of_getElem? (i := 853) (by decide +kernel), List.mem_of_getElem? (i := 854) (by decide +kernel)⟩
theorem lw_p31 : lw_okq (⟨"QuiltDeskModel", "lay", "(I)V"⟩, 26) := ⟨⟨by decide +kernel, by decide +kernel⟩, List.mem_of_getElem? (i := 659) (by decide +kernel), List.mem_of_getElem? (i := 875) (by decide +kernel), List.mem_of_getElem? (i := 876) (by decide +kernel)⟩
def lw_privs_2 : List (MethodName × Nat) := [(⟨"QuiltDesk$Cutting", "goesBefore", "(II)Z"⟩, 13), (⟨"QuiltDesk$Cutting", "layInOrder", "()V"⟩, 13), (⟨"QuiltDesk$Cutting", "stripFor", "(I)I"⟩, 13), (⟨"QuiltDeskModel", "goes", "(ZZ)Z"⟩, 26), (⟨"QuiltDeskModel", "isConvex", "(I)Z"⟩, 26), (⟨"QuiltDeskModel", "next", "(II)I"⟩, 26), (⟨"QuiltDeskModel", "side", "(IIII)I"⟩, 26), (⟨"QuiltDeskModel", "areaOf", "(I)I"⟩, 26), (⟨"QuiltDeskModel", "closed", "()I"⟩, 26), (⟨"QuiltDeskModel", "state", "()I"⟩, 26), (⟨"QuiltDeskModel", "overlapping", "()I"⟩, 26), (⟨"QuiltDeskModel", "apart", "(II)Z"⟩, 26), (⟨"QuiltDeskModel", "lies", "(III)I"⟩, 26), (⟨"QuiltDeskModel", "leftOf", "(III)I"⟩, 26), (⟨"QuiltDeskModel", "hasCorner", "(III)Z"⟩, 26), (⟨"QuiltDeskModel", "lay", "(I)V"⟩, 26)]
theorem lw_r2 : ∀ q ∈ lw_privs_2, lw_okq q := List.forall_mem_cons.mpr ⟨lw_p16, List.forall_mem_cons.mpr ⟨lw_p17, List.forall_mem_cons.mpr ⟨lw_p18, List.forall_mem_cons.mpr ⟨lw_p19, List.forall_mem_cons.mpr ⟨lw_p20, List.forall_mem_cons.mpr ⟨lw_p21, List.forall_mem_cons.mpr ⟨lw_p22, List.forall_mem_cons.mpr ⟨lw_p23, List.forall_mem_cons.mpr ⟨lw_p24, List.forall_mem_cons.mpr ⟨lw_p25, List.forall_mem_cons.mpr ⟨lw_p26, List.forall_mem_cons.mpr ⟨lw_p27, List.forall_mem_cons.mpr ⟨lw_p28, List.forall_mem_cons.mpr ⟨lw_p29, List.forall_mem_cons.mpr ⟨lw_p30, List.forall_mem_cons.mpr ⟨lw_p31, fun _ h => absurd h List.not_mem_nil⟩⟩⟩⟩⟩⟩⟩⟩⟩⟩⟩⟩⟩⟩⟩⟩
theorem lw_p32 : lw_okq (⟨"QuiltDeskModel", "list", "(I)V"⟩, 26) := ⟨⟨by decide +kernel, by decide +kernel⟩, List.mem_of_getElem? (i := 659) (by decide +kernel), List.mem_of_getElem? (i := 879) (by decide +kernel), List.mem_of_getElem? (i := 880) (by decide +kernel)⟩
theorem lw_p33 : lw_okq (⟨"QuiltDeskModel", "cutPatch", "(I)V"⟩, 26) := ⟨⟨by decide +kernel, by decide +kernel⟩, List.mem_of_getElem? (i := 659) (by decide +kernel), List.mem_of_getElem? (i := 883) (by decide +kernel), List.mem_of_getElem? (i := 884) (by decide +kernel)⟩
theorem lw_p34 : lw_okq (⟨"QuiltDeskModel", "half", "(I)I"⟩, 26) := ⟨⟨by decide +kernel, by decide +kernel⟩, List.mem_of_getElem? (i := 659) (by decide +kernel), List.mem_of_getElem? (i := 887) (by decide +kernel), List.mem_of_getElem? (i := 888) (by decide +kernel)⟩
theorem lw_p35 : lw_okq (⟨"QuiltDeskModel", "spread", "(I[I)I"⟩, 26) := ⟨⟨by decide +kernel, by decide +kernel⟩, List.mem_of_getElem? (i := 659) (by decide +kernel), List.mem_of_getElem? (i := 894) (by decide +kernel), List.mem_of_getElem? (i := 895) (by decide +kernel)⟩
theorem lw_p36 : lw_okq (⟨"QuiltDeskModel", "cutOf", "(III)V"⟩, 26) := ⟨⟨by decide +kernel, by decide +kernel⟩, List.mem_of_getElem? (i := 659) (by decide +kernel), List.mem_of_getElem? (i := 898) (by decide +kernel), List.mem_of_getElem? (i := 899) (by decide +kernel)⟩
theorem lw_p37 : lw_okq (⟨"QuiltDeskModel", "rows", "()I"⟩, 26) := ⟨⟨by decide +kernel, by decide +kernel⟩, List.mem_of_getElem? (i := 659) (by decide +kernel), List.mem_of_getElem? (i := 902) (by decide +kernel), List.mem_of_getElem? (i := 903) (by decide +kernel)⟩
theorem lw_p38 : lw_okq (⟨"QuiltDeskModel", "columns", "()I"⟩, 26) := ⟨⟨by decide +kernel, by decide +kernel⟩, List.mem_of_getElem? (i := 659) (by decide +kernel), List.mem_of_getElem? (i := 906) (by decide +kernel), List.mem_of_getElem? (i := 907) (by decide +kernel)⟩
theorem lw_p39 : lw_okq (⟨"QuiltDeskModel", "across", "(I)I"⟩, 26) := ⟨⟨by decide +kernel, by decide +kernel⟩, List.mem_of_getElem? (i := 659) (by decide +kernel), List.mem_of_getElem? (i := 910) (by decide +kernel), List.mem_of_getElem? (i := 911) (by decide +kernel)⟩
theorem lw_p40 : lw_okq (⟨"QuiltDeskModel", "nextCut", "()I"⟩, 26) := ⟨⟨by decide +kernel, by decide +kernel⟩, List.mem_of_getElem? (i := 659) (by decide +kernel), List.mem_of_getElem? (i := 914) (by decide +kernel), List.mem_of_getElem? (i := 915) (by decide +kernel)⟩
def lw_privs_3 : List (MethodName × Nat) := [(⟨"QuiltDeskModel", "list", "(I)V"⟩, 26), (⟨"QuiltDeskModel", "cutPatch", "(I)V"⟩, 26), (⟨"QuiltDeskModel", "half", "(I)I"⟩, 26), (⟨"QuiltDeskModel", "spread", "(I[I)I"⟩, 26), (⟨"QuiltDeskModel", "cutOf", "(III)V"⟩, 26), (⟨"QuiltDeskModel", "rows", "()I"⟩, 26), (⟨"QuiltDeskModel", "columns", "()I"⟩, 26), (⟨"QuiltDeskModel", "across", "(I)I"⟩, 26), (⟨"QuiltDeskModel", "nextCut", "()I"⟩, 26)]
theorem lw_r3 : ∀ q ∈ lw_privs_3, lw_okq q := List.forall_mem_cons.mpr ⟨lw_p32, List.forall_mem_cons.mpr ⟨lw_p33, List.forall_mem_cons.mpr ⟨lw_p34, List.forall_mem_cons.mpr ⟨lw_p35, List.forall_mem_cons.mpr ⟨lw_p36, List.forall_mem_cons.mpr ⟨lw_p37, List.forall_mem_cons.mpr ⟨lw_p38, List.forall_mem_cons.mpr ⟨lw_p39, List.forall_mem_cons.mpr ⟨lw_p40, fun _ h => absurd h List.not_mem_nil⟩⟩⟩⟩⟩⟩⟩⟩⟩
def lw_privs : List (MethodName × Nat) := lw_privs_1 ++ (lw_privs_2 ++ (lw_privs_3))
def lw_tbl : List Cond := k2_sels lw_privs ++ tables_1
theorem lw_privs_ok : ∀ q ∈ lw_privs, lw_okq q := by
  show ∀ q ∈ lw_privs_1 ++ (lw_privs_2 ++ (lw_privs_3)), lw_okq q
  exact List.forall_mem_append.mpr ⟨lw_r1, List.forall_mem_append.mpr ⟨lw_r2, lw_r3⟩⟩
end
section
/-! ===== BEGIN words of one list among another's, by their places ===== -/
theorem goodIn_r {big : List Cond} (ws : List Cond) (ps : List Nat) (hp : ws = ps.filterMap (fun i => big[i]?)) (h : ws.all goodWord = true) : GoodIn big ws := by
  intro w hw
  have h1 := List.all_eq_true.mp h w hw
  rw [hp] at hw
  obtain ⟨i, -, hi⟩ := List.mem_filterMap.mp hw
  have hm : w ∈ big := by first | exact List.mem_of_getElem? hi | exact List.getElem?_mem hi
  exact ⟨hm, good_of_word h1⟩
theorem goodIn_app {big a b : List Cond} (ha : GoodIn big a) (hb : GoodIn big b) : GoodIn big (a ++ b) := fun w h => (List.mem_append.mp h).elim (ha w) (hb w)
theorem goodIn_ca {big a b : List Cond} {c : Cond} (ha : GoodIn big (c :: a)) (hb : GoodIn big b) : GoodIn big (c :: (a ++ b)) := fun w h => (List.mem_cons.mp h).elim (fun e => ha w (List.mem_cons.mpr (Or.inl e))) (fun h => (List.mem_append.mp h).elim (fun h => ha w (List.mem_cons.mpr (Or.inr h))) (hb w))
theorem goodIn_sub {big ws : List Cond} (hm : ∀ w ∈ ws, w ∈ big) (h : ws.all goodWord = true) : GoodIn big ws := fun w hw => ⟨hm w hw, good_of_word (List.all_eq_true.mp h w hw)⟩
/-! ===== END ===== -/

/-! ===== BEGIN exceptions that leave a method, and their catching by the caller (launches without stack traces) ===== -/
section VXA
/-! The laws vx_back, vx_callV, vx_callS, vx_callSW, vx_throw0, vx_throwS follow proofs of the library, with one case more: JvmDerived/Free/Laws.lean (Back.of_free), Shelf42/LK1.lean (callV, callS), Shelf/KitTraced.lean (throwNew0V, throwNewS). -/
/-- where a method has thrown q: the class by its name, the cell, what was written, the world -/
def vx_T (XC : String → State → State → Prop) (st : State) (q : Addr) (t : State) (mc ms : Nat) (free : Addr → Prop) : Prop :=
  ∃ (E : String) (ce : Cell) (L : List Loc), XC E st t ∧ t.heap[q]? = some ce ∧ ce.vm = .none ∧ st.vm.findClass E = some ce.cls ∧ st.WarmedH t.vm ∧ st.sameButNew ({ t with vm := st.vm } : State) L mc ms ∧ ∀ z ∈ L, free z.base
def vx_Q (Qc : Array Value → State → Outcome → State → Prop) (XC : String → State → State → Prop) (mc ms : Nat) (free : Addr → Prop) : Array Value → State → Outcome → State → Prop := fun a st o t =>
  (Qc a st o t ∧ ∃ L, FrameEnd st o t L mc ms ∧ ∀ q ∈ L, free q.base) ∨ ∃ q, o = .threw q ∧ vx_T XC st q t mc ms free
/-- a callee that returns or throws -/
def vx_Met (l : Launch) (y : MethodName) (ws : List Cond) (rm : Room) (Pc : Array Value → State → Prop) (Qc : Array Value → State → Outcome → State → Prop) (XC : String → State → State → Prop) (mc ms : Nat) (free : Addr → Prop) : Prop :=
  MetFree l y (headSpec ws rm) Pc (fun _ _ _ _ _ => True) (vx_Q Qc XC mc ms free)
def vx_Post (XC : String → State → State → Prop) (mc ms : Nat) (free : Addr → Prop) : Pt → Array Value → Addr → Pt → Prop := fun A a q B =>
  ∃ (g : JFrame) (mk : MethodId) (t : State) (L : List Loc) (E : String) (ce : Cell), B.U.heap = t.heap ∧ B.U.vm = t.vm ∧ XC E (A.U.calling g mk a) t ∧ t.heap[q]? = some ce ∧ ce.vm = .none ∧ A.U.vm.findClass E = some ce.cls ∧ B.locs = A.locs ++ L ∧ (∀ z ∈ L, free z.base) ∧ B.cells = A.cells + mc ∧ B.slots = A.slots + ms
def vx_Back (l : Launch) (R : Room) (p : Program) (e : Env) (below : List Frame) (s : State) (sargs : Array Value) (y : MethodName) (len W9 : Nat)
    (Pre : Pt → Array Value → Prop) (Post : Pt → Array Value → Option Value → Pt → Prop) (PostX : Pt → Array Value → Addr → Pt → Prop) : Prop :=
  ∀ (m : MethodId) (meth : Method) (c : Code) (A : Pt) (g : JFrame) (ig : Instr) (mk : MethodId) (a : Array Value),
    Stand p l e R s m sargs below meth c A.U A.locs A.cells A.slots → g.method = m → g.locals.size = c.maxLocals → decode c.code g.pc = .ok (ig, len) →
    2 * g.monitorRoom + (g.stack.map fun v => v.category).sum ≤ W9 → A.U.methodNamed? y = some mk → Pre A a →
    (∃ (v : Option Value) (B : Pt), Stand p l e R s m sargs below meth c B.U B.locs B.cells B.slots ∧ Post A a v B ∧
      Steps p.tables e below (doInvoke e (A.U.setTop g) [] mk a).1 (B.U.setTop { g with pc := g.pc + len, stack := v.toList ++ g.stack })) ∨
    (∃ (q : Addr) (B : Pt), Stand p l e R s m sargs below meth c B.U B.locs B.cells B.slots ∧ PostX A a q B ∧
      Steps p.tables e below (doInvoke e (A.U.setTop g) [] mk a).1 ((B.U.setTop g).pushFrame (.throwing q)))
section Payer
variable {l : Launch} {R : Room} {p : Program} {e : Env} {below : List Frame} {s : State} {sargs : Array Value} {y : MethodName} {len W9 : Nat}
theorem vx_back {ws : List Cond} {rm : Room} {Pc : Array Value → State → Prop} {Qc : Array Value → State → Outcome → State → Prop} {XC : String → State → State → Prop} {mc ms : Nat} {free : Addr → Prop} {bytes : ByteArray} {maxL : Nat} {ret : Option FieldType}
    (hM : vx_Met l y ws rm Pc Qc XC mc ms free) (hblind : FrameBlind Pc) (hrc : rm.cells = mc) (hrs : rm.slots = ms)
    (hframes : rm.frames + 1 ≤ R.frames) (hlocals : W9 + (maxL + 11) + rm.locals ≤ R.locals)
    (hws : ∀ w ∈ ws, ∀ a' U, s.WarmedH U.vm → w.before a' U = true) (hcode : Cond.code y bytes maxL ret ∈ ws) (hinit : ∀ a' U, s.WarmedH U.vm → (Cond.initialized y.cls).before a' U = true) :
    vx_Back l R p e below s sargs y len W9 (PreOf R mc ms Pc) (PostOf Qc mc ms free) (vx_Post XC mc ms free) := by
  intro m meth c A g ig mk a X hg hsize hdg hW hn hp
  have h1 : (headSpec ws rm).pre.before a A.U = true := atoms_intro fun w hw => hws w hw _ _ X.warmed
  have h2 : (Cond.code y bytes maxL ret).before a A.U = true := hws _ hcode _ _ X.warmed
  have h3 : (Cond.initialized y.cls).before a A.U = true := hinit _ _ X.warmed
  have h4 : A.cells + (headSpec ws rm).room.cells ≤ R.cells := by rw [show (headSpec ws rm).room.cells = mc from hrc]; exact hp.1
  have h5 : A.slots + (headSpec ws rm).room.slots ≤ R.slots := by rw [show (headSpec ws rm).room.slots = ms from hrs]; exact hp.2.1
  have hPc : Pc a (A.U.calling g mk a) := hblind _ _ _ _ hp.2.2
  obtain ⟨U, Ls, c0, s0⟩ := A
  dsimp only [Pt.U, Pt.locs, Pt.cells, Pt.slots] at h1 h2 h3 h4 h5 X hn hPc ⊢
  obtain ⟨methY, cY, hmY, hcY, -, hlY, -, -, -, -⟩ := Cond.code_spec hn h2
  obtain ⟨kY, hkY, -⟩ := className_of_methodNamed hn
  have hinitY : kY.init = .initialized := Cond.initialized_spec (findClass_of_methodNamed hn) hkY h3
  have h : At U g.method c below := by rw [hg]; exact X.here
  have hlocals9 : W9 + (maxL + 11) + (headSpec ws rm).room.locals ≤ R.locals := hlocals
  have happ : (headSpec ws rm).appliesLoose y e.platform (U.calling g mk a) = true :=
    Spec.appliesLoose_calling (g := g) h hdg hn hkY hinitY
      (X.room_calling (g := g) (R' := (headSpec ws rm).room) hsize hmY hcY hframes (by rw [hlY]; omega) h4 h5) h1
  obtain ⟨mid, hmid⟩ := h.above
  have hfr : (U.setTop g).frames = (.java g :: mid) ++ below := by rw [State.frames_setTop' g h.top, hmid]; rfl
  obtain ⟨o, s₂, hsteps, -, hend, hq⟩ := Steps.callFree hM p X.admits X.cas X.clock (acts := []) hfr happ hPc trivial
  have hq' : vx_Q Qc XC mc ms free a (U.calling g mk a) o s₂ := hq
  rw [State.frames_setTop' g h.top] at hend
  obtain ⟨g₀, hg0⟩ := Option.isSome_iff_exists.mp h.top
  obtain ⟨r, hr⟩ := State.topJava?_eq_some.mp hg0
  have hr' : (({ U with heap := s₂.heap, slotsUsed := s₂.slotsUsed } : State).setVm s₂.vm).frames = .java g₀ :: r := hr
  rcases hq' with ⟨hqc, L, hfe, hL⟩ | ⟨q, rfl, E, ce, L, hx, hce, hcv, hcl, hW₂, hsm, hL⟩
  · obtain ⟨⟨v, rfl⟩, hW₂, e2, q2, q3, q4, q5, q6⟩ := id hfe
    have e3 : s₂ = ({ (U.calling g mk a).setFrames s₂.frames with heap := s₂.heap, slotsUsed := s₂.slotsUsed } : State).setVm s₂.vm := by
      have : s₂ = ({ s₂ with vm := (U.calling g mk a).vm } : State).setVm s₂.vm := rfl
      rw [e2] at this
      exact this
    obtain ⟨c₂, i₂, len₂, hc₂, hd₂, hf₂⟩ := hend
    have hW' : U.WarmedH s₂.vm := hW₂
    have hcc : c₂ = c := by
      have h1 : s₂.code? g.method = U.code? g.method := by
        rw [State.code?_eq, State.code?_eq, hW'.alike.method?]
      exact Option.some.inj (hc₂.symm.trans (h1.trans h.code))
    subst hcc
    have hlen : len₂ = len := by rw [hdg] at hd₂; cases hd₂; rfl
    subst hlen
    have hs₂ : s₂ = (({ U with heap := s₂.heap, slotsUsed := s₂.slotsUsed } : State).setVm s₂.vm).setTop { g with pc := g.pc + len₂, stack := v.toList ++ g.stack } := by
      refine e3.trans ?_
      rw [hf₂, State.calling_eq h.top, State.setFrames_setFrames, State.setTop_of_frames _ hr', hr]
      rfl
    have hsame : U.sameButNew ({ U with heap := s₂.heap, slotsUsed := s₂.slotsUsed } : State) L mc ms := by
      refine ⟨?_, q2, q3, q4, q5, q6⟩
      obtain ⟨t, ht, -⟩ := State.frames_cons hr
      show ({ U with heap := s₂.heap, slotsUsed := s₂.slotsUsed } : State) = { U.setFrames U.frames with heap := s₂.heap, slotsUsed := s₂.slotsUsed }
      rw [State.setFrames_self ht]
    subst hg
    refine Or.inl ⟨v, ⟨(({ U with heap := s₂.heap, slotsUsed := s₂.slotsUsed } : State).setVm s₂.vm), Ls ++ L, c0 + mc, s0 + ms⟩,
      ⟨X.admits, X.cas, X.clock, X.frames, X.room, X.hears, X.method, X.code, (X.here.setHeapUsed s₂.heap s₂.slotsUsed).setVm hW'.alike, X.tail, State.WarmedH.trans X.warmed hW', X.limits, X.bytes, X.same.trans (hsame.setVm s.vm)⟩,
      ⟨g, mk, s₂, L, rfl, rfl, hqc, rfl, hL, rfl, rfl⟩, ?_⟩
    show Steps p.tables e below _ ((({ U with heap := s₂.heap, slotsUsed := s₂.slotsUsed } : State).setVm s₂.vm).setTop { g with pc := g.pc + len₂, stack := v.toList ++ g.stack })
    rw [← hs₂]
    exact hsteps
  · obtain ⟨e2, q2, q3, q4, q5, q6⟩ := id hsm
    have e3 : s₂ = ({ (U.calling g mk a).setFrames s₂.frames with heap := s₂.heap, slotsUsed := s₂.slotsUsed } : State).setVm s₂.vm := by
      have : s₂ = ({ s₂ with vm := (U.calling g mk a).vm } : State).setVm s₂.vm := rfl
      rw [e2] at this
      exact this
    have hf₂ : s₂.frames = .throwing q :: .java g :: U.frames.tail := hend
    have hW' : U.WarmedH s₂.vm := hW₂
    have hs₂ : s₂ = ((({ U with heap := s₂.heap, slotsUsed := s₂.slotsUsed } : State).setVm s₂.vm).setTop g).pushFrame (.throwing q) := by
      refine e3.trans ?_
      rw [hf₂, State.calling_eq h.top, State.setFrames_setFrames, State.pushFrame, State.frames_setTop _ hr', State.setTop_of_frames _ hr', State.setFrames_setFrames, hr]
      rfl
    have hsame : U.sameButNew ({ U with heap := s₂.heap, slotsUsed := s₂.slotsUsed } : State) L mc ms := by
      refine ⟨?_, q2, q3, q4, q5, q6⟩
      obtain ⟨t, ht, -⟩ := State.frames_cons hr
      show ({ U with heap := s₂.heap, slotsUsed := s₂.slotsUsed } : State) = { U.setFrames U.frames with heap := s₂.heap, slotsUsed := s₂.slotsUsed }
      rw [State.setFrames_self ht]
    subst hg
    refine Or.inr ⟨q, ⟨(({ U with heap := s₂.heap, slotsUsed := s₂.slotsUsed } : State).setVm s₂.vm), Ls ++ L, c0 + mc, s0 + ms⟩,
      ⟨X.admits, X.cas, X.clock, X.frames, X.room, X.hears, X.method, X.code, (X.here.setHeapUsed s₂.heap s₂.slotsUsed).setVm hW'.alike, X.tail, State.WarmedH.trans X.warmed hW', X.limits, X.bytes, X.same.trans (hsame.setVm s.vm)⟩,
      ⟨g, mk, s₂, L, E, ce, rfl, rfl, hx, hce, hcv, hcl, rfl, hL, rfl, rfl⟩, ?_⟩
    show Steps p.tables e below _ (((({ U with heap := s₂.heap, slotsUsed := s₂.slotsUsed } : State).setVm s₂.vm).setTop g).pushFrame (.throwing q))
    rw [← hs₂]
    exact hsteps
end Payer
section Calls
variable {p : Program} {l : Launch} {e : Env} {R : Room} {s : State} {m : MethodId} {args : Array Value} {below : List Frame} {meth : Method} {c : Code} {T : State} {locs : List Loc} {cells slots : Nat}
theorem vx_callV (X : Stand p l e R s m args below meth c T locs cells slots) (hexec : p.tables.exec = Jvm.exec) {own C : String} {index : Nat} {y : MethodName} {bytes : ByteArray} {maxL : Nat} {ret : Option FieldType}
    (hown : s.vm.findClass own = some m.cls) (hlink : (Cond.methodLink own index y).before args s = true) (hinst : (Cond.instanceMethod y).before args s = true) (hsel : (Cond.selects C y y).before args s = true)
    (hcode : (Cond.code y bytes maxL ret).before args s = true) (hy : y.cls ≠ "java/lang/invoke/MethodHandle" ∧ y.cls ≠ "java/lang/invoke/VarHandle")
    {W9 : Nat} {Pre : Pt → Array Value → Prop} {Post : Pt → Array Value → Option Value → Pt → Prop} {PostX : Pt → Array Value → Addr → Pt → Prop} (hK : vx_Back l R p e below s args y 3 W9 Pre Post PostX)
    {b : Addr} {cellB : Cell} (hcell : T.heap[b]? = some cellB) (hobj : cellB.vm.isStatics = false) (hcls : s.vm.findClass C = some cellB.cls)
    {g : JFrame} (hg : g.method = m) (hsize : g.locals.size = c.maxLocals) {argsL rest : List Value} (hlen : ∀ sig, parseMethodDescriptor y.desc = some sig → argsL.length = sig.parameters.length)
    (hstack : g.stack = argsL.reverse ++ .ref b :: rest) (hW : 2 * g.monitorRoom + (rest.map fun v => v.category).sum ≤ W9) (hdg : decode c.code g.pc = .ok (.invokevirtual index, 3))
    (hpre : ∀ vm₁, s.WarmedH vm₁ → Pre ⟨T.setVm vm₁, locs, cells, slots⟩ (Value.ref b :: argsL).toArray) :
    (∃ (v : Option Value) (vm₁ : Vm) (B : Pt), s.WarmedH vm₁ ∧ Stand p l e R s m args below meth c B.U B.locs B.cells B.slots ∧ Post ⟨T.setVm vm₁, locs, cells, slots⟩ (Value.ref b :: argsL).toArray v B ∧
      ∀ target, Steps p.tables e below (B.U.setTop { g with pc := g.pc + 3, stack := v.toList ++ rest }) target → Steps p.tables e below (T.setTop g) target) ∨
    (∃ (q : Addr) (vm₁ : Vm) (B : Pt), s.WarmedH vm₁ ∧ Stand p l e R s m args below meth c B.U B.locs B.cells B.slots ∧ PostX ⟨T.setVm vm₁, locs, cells, slots⟩ (Value.ref b :: argsL).toArray q B ∧
      Steps p.tables e below (T.setTop g) ((B.U.setTop { g with stack := rest }).pushFrame (.throwing q))) := by
  obtain ⟨mk, methM, hnamed, hmethM, hstM, habM⟩ := Cond.instanceMethod_spec hinst
  obtain ⟨methM', cM, hmethM', -, -, -, -, -, -, hsigM⟩ := Cond.code_spec hnamed hcode
  cases hmethM.symm.trans hmethM'
  obtain ⟨c2, r2, m2, q1, q2, q3, q4, kP, hkP, hkPi⟩ := Cond.selects_spec hsel
  cases hcls.symm.trans q1
  cases (State.methodFound?_of_named hnamed hy).symm.trans q2
  cases hnamed.symm.trans q3
  have hselP : selectMethod e.platform s.vm cellB.cls mk = .method mk := by rw [Launch.admits_selectMethod X.admits]; exact q4
  obtain ⟨vm₁, X₁, hstep₁⟩ := X.invokevirtual hexec hown hlink hnamed hmethM hstM hkP hkPi hy (a := b) (cell := cellB) hcell
    (fun z h => by rw [h] at hobj; cases hobj) hselP hmethM habM hkP hkPi (g := g) hg (argsL := argsL) (rest := rest) (hlen _ hsigM) hstack hdg
  rcases hK m meth c ⟨T.setVm vm₁, locs, cells, slots⟩ { g with stack := rest } (.invokevirtual index) mk (Value.ref b :: argsL).toArray X₁ hg hsize hdg hW (X₁.named hnamed) (hpre vm₁ X₁.warmed) with ⟨v, B, X', hpost, hsteps⟩ | ⟨q, B, X', hpost, hsteps⟩
  · exact Or.inl ⟨v, vm₁, B, X₁.warmed, X', hpost, fun target h => hstep₁ _ fun acts => by rw [doInvoke_state]; exact hsteps.trans h⟩
  · exact Or.inr ⟨q, vm₁, B, X₁.warmed, X', hpost, hstep₁ _ fun acts => by rw [doInvoke_state]; exact hsteps⟩
theorem vx_callS (X : Stand p l e R s m args below meth c T locs cells slots) (hexec : p.tables.exec = Jvm.exec) {own : String} {index : Nat} {y : MethodName} {bytes : ByteArray} {maxL : Nat} {ret : Option FieldType}
    (hown : s.vm.findClass own = some m.cls) (hlink : (Cond.methodLink own index y).before args s = true) (hstat : (Cond.static y).before args s = true) (hinit : (Cond.initialized y.cls).before args s = true)
    (hcode : (Cond.code y bytes maxL ret).before args s = true) (hy : y.cls ≠ "java/lang/invoke/MethodHandle" ∧ y.cls ≠ "java/lang/invoke/VarHandle")
    {W9 : Nat} {Pre : Pt → Array Value → Prop} {Post : Pt → Array Value → Option Value → Pt → Prop} {PostX : Pt → Array Value → Addr → Pt → Prop} (hK : vx_Back l R p e below s args y 3 W9 Pre Post PostX)
    {g : JFrame} (hg : g.method = m) (hsize : g.locals.size = c.maxLocals) {argsL rest : List Value} (hlen : ∀ sig, parseMethodDescriptor y.desc = some sig → argsL.length = sig.parameters.length)
    (hstack : g.stack = argsL.reverse ++ rest) (hW : 2 * g.monitorRoom + (rest.map fun v => v.category).sum ≤ W9) (hdg : decode c.code g.pc = .ok (.invokestatic index, 3))
    (hpre : ∀ vm₁, s.WarmedH vm₁ → Pre ⟨T.setVm vm₁, locs, cells, slots⟩ argsL.toArray) :
    (∃ (v : Option Value) (vm₁ : Vm) (B : Pt), s.WarmedH vm₁ ∧ Stand p l e R s m args below meth c B.U B.locs B.cells B.slots ∧ Post ⟨T.setVm vm₁, locs, cells, slots⟩ argsL.toArray v B ∧
      ∀ target, Steps p.tables e below (B.U.setTop { g with pc := g.pc + 3, stack := v.toList ++ rest }) target → Steps p.tables e below (T.setTop g) target) ∨
    (∃ (q : Addr) (vm₁ : Vm) (B : Pt), s.WarmedH vm₁ ∧ Stand p l e R s m args below meth c B.U B.locs B.cells B.slots ∧ PostX ⟨T.setVm vm₁, locs, cells, slots⟩ argsL.toArray q B ∧
      Steps p.tables e below (T.setTop g) ((B.U.setTop { g with stack := rest }).pushFrame (.throwing q))) := by
  obtain ⟨mk, hnamed⟩ := Cond.code_named hcode
  obtain ⟨methM, cM, hmethM, -, -, -, -, -, -, hsigM⟩ := Cond.code_spec hnamed hcode
  have hstatic : methM.isStatic = true := Cond.static_spec hnamed hmethM hstat
  obtain ⟨kP, hkP, -⟩ := className_of_methodNamed hnamed
  have hinitP : kP.init = .initialized := Cond.initialized_spec (findClass_of_methodNamed hnamed) hkP hinit
  obtain ⟨vm₁, X₁, hstep₁⟩ := X.invokestatic hexec hown hlink hnamed hmethM hstatic hkP hinitP hy (g := g) hg (argsL := argsL) (rest := rest) (hlen _ hsigM) hstack hdg
  rcases hK m meth c ⟨T.setVm vm₁, locs, cells, slots⟩ { g with stack := rest } (.invokestatic index) mk argsL.toArray X₁ hg hsize hdg hW (X₁.named hnamed) (hpre vm₁ X₁.warmed) with ⟨v, B, X', hpost, hsteps⟩ | ⟨q, B, X', hpost, hsteps⟩
  · exact Or.inl ⟨v, vm₁, B, X₁.warmed, X', hpost, fun target h => hstep₁ _ fun acts => by rw [doInvoke_state]; exact hsteps.trans h⟩
  · exact Or.inr ⟨q, vm₁, B, X₁.warmed, X', hpost, hstep₁ _ fun acts => by rw [doInvoke_state]; exact hsteps⟩
end Calls
theorem vx_cls {s : State} {T : State} {vm₁ : Vm} {E : String} {k : ClassId} (hW : s.WarmedH vm₁) (h : (T.setVm vm₁).vm.findClass E = some k) : s.vm.findClass E = some k := by
  have h1 : vm₁.findClass E = some k := h
  rw [hW.alike.findClass] at h1
  exact h1
/-- the method's frame g, with q thrown over it -/
def vx_W (p : Program) (l : Launch) (e : Env) (R : Room) (s : State) (m : MethodId) (args : Array Value) (below : List Frame) (meth : Method) (c : Code) (H : Heap) (locs : List Loc) (cells slots : Nat) (Q : State → Prop) (g : JFrame) (q : Addr) : Prop :=
  ∀ T : State, T.heap = H → Stand p l e R s m args below meth c T locs cells slots → ∃ t, Steps p.tables e below ((T.setTop g).pushFrame (.throwing q)) t ∧ Q t
def vx_Run (p : Program) (l : Launch) (e : Env) (R : Room) (s : State) (m : MethodId) (args : Array Value) (below : List Frame) (meth : Method) (c : Code) (H : Heap) (locs : List Loc) (cells slots mc ms : Nat) (g : JFrame) (rest : List Value) (Qa : State → Outcome → State → Prop) (XC : String → State → State → Prop) (free : Addr → Prop) : Prop :=
  ∀ T : State, T.heap = H → Stand p l e R s m args below meth c T locs cells slots →
    (∃ (v : Option Value) (st₀ t T' : State) (L : List Loc), st₀.heap = H ∧ Stand p l e R s m args below meth c T' (locs ++ L) (cells + mc) (slots + ms) ∧ (∀ q ∈ L, free q.base) ∧ T'.heap = t.heap ∧ T'.vm = t.vm ∧ Qa st₀ (.returned v) t ∧
      Goes p e below T g T' { g with pc := g.pc + 3, stack := v.toList ++ rest }) ∨
    (∃ (q : Addr) (st₀ t T' : State) (L : List Loc) (E : String) (ce : Cell), st₀.heap = H ∧ Stand p l e R s m args below meth c T' (locs ++ L) (cells + mc) (slots + ms) ∧ (∀ z ∈ L, free z.base) ∧ T'.heap = t.heap ∧ T'.vm = t.vm ∧ XC E st₀ t ∧ t.heap[q]? = some ce ∧ ce.vm = .none ∧ s.vm.findClass E = some ce.cls ∧
      Steps p.tables e below (T.setTop g) ((T'.setTop { g with stack := rest }).pushFrame (.throwing q)))
def vx_X {S : Type} (px : S → Prop) (B : String → S → State → Prop) (A : Nat → Prop) : String → State → State → Prop := fun E st t => ∃ u : S, px u ∧ B E u t ∧ va_F A st t
section Runs
variable {p : Program} {l : Launch} {e : Env} {R : Room} {s : State} {m : MethodId} {args : Array Value} {below : List Frame} {meth : Method} {c : Code} {H : Heap} {locs : List Loc} {cells slots : Nat}
variable {y : MethodName} {bytes cc : ByteArray} {maxL nL mc ms n index : Nat} {ret : Option FieldType} {ws : List Cond} {rm : Room} {Pc : Array Value → State → Prop} {Qc : Array Value → State → Outcome → State → Prop} {XC : String → State → State → Prop} {free : Addr → Prop} {Ts : List Cond} {own C : String} {b : Addr} {As rest : List Value} {g : JFrame}
theorem vx_callBack (cb : CallB R s args own index y bytes maxL ret ws rm mc ms n) (hM : vx_Met l y ws rm Pc Qc XC mc ms free) (hbl : FrameBlind Pc) : vx_Back l R p e below s args y 3 8 (PreOf R mc ms Pc) (PostOf Qc mc ms free) (vx_Post XC mc ms free) := by
  obtain ⟨hrc, hrs, hfr, hlo, hws, hcw, -, hini, -⟩ := cb
  exact vx_back (bytes := bytes) (maxL := maxL) (ret := ret) hM hbl hrc hrs hfr hlo hws hcw (fun a' U hW => word_at hW (Or.inl (by first | rfl | simp [Cond.onTables, Cond.keeps, Cond.steady])) hini)
theorem vx_runV (S : CallFix p m c cc nL s args Ts own) (hM : vx_Met l y ws rm Pc Qc XC mc ms free) (cw : CallW R s args own C index y bytes maxL ret ws rm mc ms n) (hp : PreV s H C b Pc As)
    (hg : g.method = m) (hn : As.length = n) (hsize : g.locals.size = nL) (hstack : g.stack = As.reverse ++ .ref b :: rest) (hW : 2 * g.monitorRoom + (rest.map fun v => v.category).sum ≤ 8) (hdg : decode cc g.pc = .ok (.invokevirtual index, 3)) (hf : cells + mc ≤ R.cells ∧ slots + ms ≤ R.slots) :
    vx_Run p l e R s m args below meth c H locs cells slots mc ms g rest (Qc (Value.ref b :: As).toArray) XC free := by
  have hK : vx_Back l R p e below s args y 3 8 (PreOf R mc ms Pc) (PostOf Qc mc ms free) (vx_Post XC mc ms free) := vx_callBack cw.1 hM hp.1
  obtain ⟨⟨-, -, -, -, -, -, hcode, -, hy, hlen, hl⟩, hin, hse⟩ := cw
  obtain ⟨hx, hb, hml, ho, -⟩ := S
  obtain ⟨-, ⟨cellB, hcB, hoB, hclB⟩, hPc⟩ := hp
  intro T hT X
  rcases vx_callV X hx (C := C) (bytes := bytes) (maxL := maxL) (ret := ret) ho hl hin hse hcode hy hK (by rw [hT]; exact hcB) hoB hclB hg (hsize.trans hml.symm) (argsL := As) (rest := rest) (fun sig h => hn.trans (hlen sig h)) hstack hW (by rw [hb]; exact hdg)
    (fun vm₁ hW₁ => ⟨hf.1, hf.2, hPc (T.setVm vm₁) hT hW₁⟩) with ⟨v, vm₁, ⟨U', l2, c2, s2⟩, hW₁, X', ⟨g', mk, t, L, e1, e2, hq, h1, hL, h2, h3⟩, st⟩ | ⟨q, vm₁, ⟨U', l2, c2, s2⟩, hW₁, X', ⟨g', mk, t, L, E, ce, e1, e2, hq, hce, hcv, hcl, h1, hL, h2, h3⟩, st⟩
  · dsimp only [Pt.U, Pt.locs, Pt.cells, Pt.slots] at X' e1 e2 h1 h2 h3 st
    subst h1; subst h2; subst h3
    exact Or.inl ⟨v, (T.setVm vm₁).calling g' mk (Value.ref b :: As).toArray, t, U', L, hT, X', hL, e1, e2, hq, st⟩
  · dsimp only [Pt.U, Pt.locs, Pt.cells, Pt.slots] at X' e1 e2 h1 h2 h3 st hcl
    subst h1; subst h2; subst h3
    exact Or.inr ⟨q, (T.setVm vm₁).calling g' mk (Value.ref b :: As).toArray, t, U', L, E, ce, hT, X', hL, e1, e2, hq, hce, hcv, vx_cls hW₁ hcl, st⟩
theorem vx_runS (S : CallFix p m c cc nL s args Ts own) (hM : vx_Met l y ws rm Pc Qc XC mc ms free) (cw : CallB R s args own index y bytes maxL ret ws rm mc ms n ∧ (Cond.static y).before args s = true) (hp : PreS s H Pc As)
    (hg : g.method = m) (hn : As.length = n) (hsize : g.locals.size = nL) (hstack : g.stack = As.reverse ++ rest) (hW : 2 * g.monitorRoom + (rest.map fun v => v.category).sum ≤ 8) (hdg : decode cc g.pc = .ok (.invokestatic index, 3)) (hf : cells + mc ≤ R.cells ∧ slots + ms ≤ R.slots) :
    vx_Run p l e R s m args below meth c H locs cells slots mc ms g rest (Qc As.toArray) XC free := by
  have hK : vx_Back l R p e below s args y 3 8 (PreOf R mc ms Pc) (PostOf Qc mc ms free) (vx_Post XC mc ms free) := vx_callBack cw.1 hM hp.1
  obtain ⟨⟨-, -, -, -, -, -, hcode, hini, hy, hlen, hl⟩, hstt⟩ := cw
  obtain ⟨hx, hb, hml, ho, -⟩ := S
  intro T hT X
  rcases vx_callS X hx (bytes := bytes) (maxL := maxL) (ret := ret) ho hl hstt hini hcode hy hK hg (hsize.trans hml.symm) (argsL := As) (rest := rest) (fun sig h => hn.trans (hlen sig h)) hstack hW (by rw [hb]; exact hdg)
    (fun vm₁ hW₁ => ⟨hf.1, hf.2, hp.2 (T.setVm vm₁) hT hW₁⟩) with ⟨v, vm₁, ⟨U', l2, c2, s2⟩, hW₁, X', ⟨g', mk, t, L, e1, e2, hq, h1, hL, h2, h3⟩, st⟩ | ⟨q, vm₁, ⟨U', l2, c2, s2⟩, hW₁, X', ⟨g', mk, t, L, E, ce, e1, e2, hq, hce, hcv, hcl, h1, hL, h2, h3⟩, st⟩
  · dsimp only [Pt.U, Pt.locs, Pt.cells, Pt.slots] at X' e1 e2 h1 h2 h3 st
    subst h1; subst h2; subst h3
    exact Or.inl ⟨v, (T.setVm vm₁).calling g' mk As.toArray, t, U', L, hT, X', hL, e1, e2, hq, st⟩
  · dsimp only [Pt.U, Pt.locs, Pt.cells, Pt.slots] at X' e1 e2 h1 h2 h3 st hcl
    subst h1; subst h2; subst h3
    exact Or.inr ⟨q, (T.setVm vm₁).calling g' mk As.toArray, t, U', L, E, ce, hT, X', hL, e1, e2, hq, hce, hcv, vx_cls hW₁ hcl, st⟩
end Runs
section Rows
variable {p : Program} {l : Launch} {e : Env} {R : Room} {s : State} {m : MethodId} {args : Array Value} {below : List Frame} {meth : Method} {c : Code} {H : Heap} {locs : List Loc} {cells slots : Nat} {Q : State → Prop}
variable {mc ms : Nat} {free : Addr → Prop} {A0 A1 : Nat → Prop} {H0 : Heap} {a : Array Value} {pc : Nat} {ls : Array Slot} {st0 rest : List Value}
theorem vx_keep {st₀ t T' : State} {L : List Loc} (h0 : st₀.heap = H) (e1 : T'.heap = t.heap) (hS : va_S A0 H0 H locs) (hA : ∀ q, q < H.size → A1 q → A0 q) (hf : ∀ q, free q → A0 q) (hL : ∀ q ∈ L, free q.base) (hF : va_F A1 st₀ t) :
    H.size ≤ T'.heap.size ∧ (∀ q : Nat, q < H.size → ¬ A1 q → T'.heap[q]? = H[q]?) ∧ va_S A0 H0 T'.heap (locs ++ L) := by
  obtain ⟨hz, hk⟩ := hF
  rw [h0] at hz hk
  exact ⟨by rw [e1]; exact hz, fun q h1 h2 => by rw [e1]; exact hk q h1 h2,
    ⟨Nat.le_trans hS.1 (by rw [e1]; exact hz), fun q h1 h2 => by rw [e1, hk q (Nat.lt_of_lt_of_le h1 hS.1) (fun z => h2 (hA q (Nat.lt_of_lt_of_le h1 hS.1) z))]; exact hS.2.1 q h1 h2, fun q hq => by
      rcases List.mem_append.mp hq with h | h
      · exact hS.2.2 q h
      · exact hf _ (hL q h)⟩⟩
theorem vx_calli {S SX : Type} {post : Int32 → S → Prop} {px : SX → Prop} {B : S → State → Prop} {BX : String → SX → State → Prop} {AX : Nat → Prop} (hr : vx_Run p l e R s m args below meth c H locs cells slots mc ms (F0 m pc ls st0) rest (va_Qi post B A1 a) (vx_X px BX AX) free) (hS : va_S A0 H0 H locs) (hA : ∀ q, q < H.size → A1 q → A0 q) (hf : ∀ q, free q → A0 q) (hAX : ∀ q, q < H.size → AX q → A0 q)
    (kx : ∀ (E : String) (ce : Cell) (q9 : Addr) (u : SX) (t : State) (H1 : Heap) (locs1 : List Loc), t.heap = H1 → s.vm.Alike t.vm → px u → BX E u t → H.size ≤ H1.size → (∀ q : Nat, q < H.size → ¬ AX q → H1[q]? = H[q]?) → va_S A0 H0 H1 locs1 → H1[q9]? = some ce → ce.vm = .none → s.vm.findClass E = some ce.cls → vx_W p l e R s m args below meth c H1 locs1 (cells + mc) (slots + ms) Q (F0 m pc ls rest) q9)
    (kk : ∀ (r : Int32) (u : S) (t : State) (H1 : Heap) (locs1 : List Loc), t.heap = H1 → s.vm.Alike t.vm → post r u → B u t → H.size ≤ H1.size → (∀ q : Nat, q < H.size → ¬ A1 q → H1[q]? = H[q]?) → va_S A0 H0 H1 locs1 → W p l e R s m args below meth c H1 locs1 (cells + mc) (slots + ms) Q (F0 m (pc + 3) ls (.int r :: rest))) : W p l e R s m args below meth c H locs cells slots Q (F0 m pc ls st0) := by
  intro T hT X
  rcases hr T hT X with ⟨v, st₀, t, T', L, h0, X', hL, e1, e2, ⟨⟨r, u, hv, hp, hb⟩, hF⟩, st⟩ | ⟨q, st₀, t, T', L, E, ce, h0, X', hL, e1, e2, ⟨u, hp, hb, hF⟩, hce, hcv, hcl, st⟩
  · cases hv
    obtain ⟨k1, k2, k3⟩ := vx_keep h0 e1 hS hA hf hL hF
    obtain ⟨t2, a1, b1⟩ := kk r u t T'.heap (locs ++ L) e1.symm (by rw [← e2]; exact X'.warmed.alike) hp hb k1 k2 k3 T' rfl X'
    exact ⟨t2, st t2 a1, b1⟩
  · obtain ⟨k1, k2, k3⟩ := vx_keep h0 e1 hS hAX hf hL hF
    obtain ⟨t2, a1, b1⟩ := kx E ce q u t T'.heap (locs ++ L) e1.symm (by rw [← e2]; exact X'.warmed.alike) hp hb k1 k2 k3 (by rw [e1]; exact hce) hcv hcl T' rfl X'
    exact ⟨t2, st.trans a1, b1⟩
theorem vx_calll {S SX : Type} {post : Int64 → S → Prop} {px : SX → Prop} {B : S → State → Prop} {BX : String → SX → State → Prop} {AX : Nat → Prop} (hr : vx_Run p l e R s m args below meth c H locs cells slots mc ms (F0 m pc ls st0) rest (va_Ql post B A1 a) (vx_X px BX AX) free) (hS : va_S A0 H0 H locs) (hA : ∀ q, q < H.size → A1 q → A0 q) (hf : ∀ q, free q → A0 q) (hAX : ∀ q, q < H.size → AX q → A0 q)
    (kx : ∀ (E : String) (ce : Cell) (q9 : Addr) (u : SX) (t : State) (H1 : Heap) (locs1 : List Loc), t.heap = H1 → s.vm.Alike t.vm → px u → BX E u t → H.size ≤ H1.size → (∀ q : Nat, q < H.size → ¬ AX q → H1[q]? = H[q]?) → va_S A0 H0 H1 locs1 → H1[q9]? = some ce → ce.vm = .none → s.vm.findClass E = some ce.cls → vx_W p l e R s m args below meth c H1 locs1 (cells + mc) (slots + ms) Q (F0 m pc ls rest) q9)
    (kk : ∀ (r : Int64) (u : S) (t : State) (H1 : Heap) (locs1 : List Loc), t.heap = H1 → s.vm.Alike t.vm → post r u → B u t → H.size ≤ H1.size → (∀ q : Nat, q < H.size → ¬ A1 q → H1[q]? = H[q]?) → va_S A0 H0 H1 locs1 → W p l e R s m args below meth c H1 locs1 (cells + mc) (slots + ms) Q (F0 m (pc + 3) ls (.long r :: rest))) : W p l e R s m args below meth c H locs cells slots Q (F0 m pc ls st0) := by
  intro T hT X
  rcases hr T hT X with ⟨v, st₀, t, T', L, h0, X', hL, e1, e2, ⟨⟨r, u, hv, hp, hb⟩, hF⟩, st⟩ | ⟨q, st₀, t, T', L, E, ce, h0, X', hL, e1, e2, ⟨u, hp, hb, hF⟩, hce, hcv, hcl, st⟩
  · cases hv
    obtain ⟨k1, k2, k3⟩ := vx_keep h0 e1 hS hA hf hL hF
    obtain ⟨t2, a1, b1⟩ := kk r u t T'.heap (locs ++ L) e1.symm (by rw [← e2]; exact X'.warmed.alike) hp hb k1 k2 k3 T' rfl X'
    exact ⟨t2, st t2 a1, b1⟩
  · obtain ⟨k1, k2, k3⟩ := vx_keep h0 e1 hS hAX hf hL hF
    obtain ⟨t2, a1, b1⟩ := kx E ce q u t T'.heap (locs ++ L) e1.symm (by rw [← e2]; exact X'.warmed.alike) hp hb k1 k2 k3 (by rw [e1]; exact hce) hcv hcl T' rfl X'
    exact ⟨t2, st.trans a1, b1⟩
theorem vx_callf {S SX : Type} {post : UInt32 → S → Prop} {px : SX → Prop} {B : S → State → Prop} {BX : String → SX → State → Prop} {AX : Nat → Prop} (hr : vx_Run p l e R s m args below meth c H locs cells slots mc ms (F0 m pc ls st0) rest (va_Qf post B A1 a) (vx_X px BX AX) free) (hS : va_S A0 H0 H locs) (hA : ∀ q, q < H.size → A1 q → A0 q) (hf : ∀ q, free q → A0 q) (hAX : ∀ q, q < H.size → AX q → A0 q)
    (kx : ∀ (E : String) (ce : Cell) (q9 : Addr) (u : SX) (t : State) (H1 : Heap) (locs1 : List Loc), t.heap = H1 → s.vm.Alike t.vm → px u → BX E u t → H.size ≤ H1.size → (∀ q : Nat, q < H.size → ¬ AX q → H1[q]? = H[q]?) → va_S A0 H0 H1 locs1 → H1[q9]? = some ce → ce.vm = .none → s.vm.findClass E = some ce.cls → vx_W p l e R s m args below meth c H1 locs1 (cells + mc) (slots + ms) Q (F0 m pc ls rest) q9)
    (kk : ∀ (r : UInt32) (u : S) (t : State) (H1 : Heap) (locs1 : List Loc), t.heap = H1 → s.vm.Alike t.vm → post r u → B u t → H.size ≤ H1.size → (∀ q : Nat, q < H.size → ¬ A1 q → H1[q]? = H[q]?) → va_S A0 H0 H1 locs1 → W p l e R s m args below meth c H1 locs1 (cells + mc) (slots + ms) Q (F0 m (pc + 3) ls (.float r :: rest))) : W p l e R s m args below meth c H locs cells slots Q (F0 m pc ls st0) := by
  intro T hT X
  rcases hr T hT X with ⟨v, st₀, t, T', L, h0, X', hL, e1, e2, ⟨⟨r, u, hv, hp, hb⟩, hF⟩, st⟩ | ⟨q, st₀, t, T', L, E, ce, h0, X', hL, e1, e2, ⟨u, hp, hb, hF⟩, hce, hcv, hcl, st⟩
  · cases hv
    obtain ⟨k1, k2, k3⟩ := vx_keep h0 e1 hS hA hf hL hF
    obtain ⟨t2, a1, b1⟩ := kk r u t T'.heap (locs ++ L) e1.symm (by rw [← e2]; exact X'.warmed.alike) hp hb k1 k2 k3 T' rfl X'
    exact ⟨t2, st t2 a1, b1⟩
  · obtain ⟨k1, k2, k3⟩ := vx_keep h0 e1 hS hAX hf hL hF
    obtain ⟨t2, a1, b1⟩ := kx E ce q u t T'.heap (locs ++ L) e1.symm (by rw [← e2]; exact X'.warmed.alike) hp hb k1 k2 k3 (by rw [e1]; exact hce) hcv hcl T' rfl X'
    exact ⟨t2, st.trans a1, b1⟩
theorem vx_calld {S SX : Type} {post : UInt64 → S → Prop} {px : SX → Prop} {B : S → State → Prop} {BX : String → SX → State → Prop} {AX : Nat → Prop} (hr : vx_Run p l e R s m args below meth c H locs cells slots mc ms (F0 m pc ls st0) rest (va_Qd post B A1 a) (vx_X px BX AX) free) (hS : va_S A0 H0 H locs) (hA : ∀ q, q < H.size → A1 q → A0 q) (hf : ∀ q, free q → A0 q) (hAX : ∀ q, q < H.size → AX q → A0 q)
    (kx : ∀ (E : String) (ce : Cell) (q9 : Addr) (u : SX) (t : State) (H1 : Heap) (locs1 : List Loc), t.heap = H1 → s.vm.Alike t.vm → px u → BX E u t → H.size ≤ H1.size → (∀ q : Nat, q < H.size → ¬ AX q → H1[q]? = H[q]?) → va_S A0 H0 H1 locs1 → H1[q9]? = some ce → ce.vm = .none → s.vm.findClass E = some ce.cls → vx_W p l e R s m args below meth c H1 locs1 (cells + mc) (slots + ms) Q (F0 m pc ls rest) q9)
    (kk : ∀ (r : UInt64) (u : S) (t : State) (H1 : Heap) (locs1 : List Loc), t.heap = H1 → s.vm.Alike t.vm → post r u → B u t → H.size ≤ H1.size → (∀ q : Nat, q < H.size → ¬ A1 q → H1[q]? = H[q]?) → va_S A0 H0 H1 locs1 → W p l e R s m args below meth c H1 locs1 (cells + mc) (slots + ms) Q (F0 m (pc + 3) ls (.double r :: rest))) : W p l e R s m args below meth c H locs cells slots Q (F0 m pc ls st0) := by
  intro T hT X
  rcases hr T hT X with ⟨v, st₀, t, T', L, h0, X', hL, e1, e2, ⟨⟨r, u, hv, hp, hb⟩, hF⟩, st⟩ | ⟨q, st₀, t, T', L, E, ce, h0, X', hL, e1, e2, ⟨u, hp, hb, hF⟩, hce, hcv, hcl, st⟩
  · cases hv
    obtain ⟨k1, k2, k3⟩ := vx_keep h0 e1 hS hA hf hL hF
    obtain ⟨t2, a1, b1⟩ := kk r u t T'.heap (locs ++ L) e1.symm (by rw [← e2]; exact X'.warmed.alike) hp hb k1 k2 k3 T' rfl X'
    exact ⟨t2, st t2 a1, b1⟩
  · obtain ⟨k1, k2, k3⟩ := vx_keep h0 e1 hS hAX hf hL hF
    obtain ⟨t2, a1, b1⟩ := kx E ce q u t T'.heap (locs ++ L) e1.symm (by rw [← e2]; exact X'.warmed.alike) hp hb k1 k2 k3 (by rw [e1]; exact hce) hcv hcl T' rfl X'
    exact ⟨t2, st.trans a1, b1⟩
theorem vx_callv {S SX : Type} {post : S → Prop} {px : SX → Prop} {B : S → State → Prop} {BX : String → SX → State → Prop} {AX : Nat → Prop} (hr : vx_Run p l e R s m args below meth c H locs cells slots mc ms (F0 m pc ls st0) rest (va_Qv post B A1 a) (vx_X px BX AX) free) (hS : va_S A0 H0 H locs) (hA : ∀ q, q < H.size → A1 q → A0 q) (hf : ∀ q, free q → A0 q) (hAX : ∀ q, q < H.size → AX q → A0 q)
    (kx : ∀ (E : String) (ce : Cell) (q9 : Addr) (u : SX) (t : State) (H1 : Heap) (locs1 : List Loc), t.heap = H1 → s.vm.Alike t.vm → px u → BX E u t → H.size ≤ H1.size → (∀ q : Nat, q < H.size → ¬ AX q → H1[q]? = H[q]?) → va_S A0 H0 H1 locs1 → H1[q9]? = some ce → ce.vm = .none → s.vm.findClass E = some ce.cls → vx_W p l e R s m args below meth c H1 locs1 (cells + mc) (slots + ms) Q (F0 m pc ls rest) q9)
    (kk : ∀ (u : S) (t : State) (H1 : Heap) (locs1 : List Loc), t.heap = H1 → s.vm.Alike t.vm → post u → B u t → H.size ≤ H1.size → (∀ q : Nat, q < H.size → ¬ A1 q → H1[q]? = H[q]?) → va_S A0 H0 H1 locs1 → W p l e R s m args below meth c H1 locs1 (cells + mc) (slots + ms) Q (F0 m (pc + 3) ls (rest))) : W p l e R s m args below meth c H locs cells slots Q (F0 m pc ls st0) := by
  intro T hT X
  rcases hr T hT X with ⟨v, st₀, t, T', L, h0, X', hL, e1, e2, ⟨⟨u, hv, hp, hb⟩, hF⟩, st⟩ | ⟨q, st₀, t, T', L, E, ce, h0, X', hL, e1, e2, ⟨u, hp, hb, hF⟩, hce, hcv, hcl, st⟩
  · cases hv
    obtain ⟨k1, k2, k3⟩ := vx_keep h0 e1 hS hA hf hL hF
    obtain ⟨t2, a1, b1⟩ := kk u t T'.heap (locs ++ L) e1.symm (by rw [← e2]; exact X'.warmed.alike) hp hb k1 k2 k3 T' rfl X'
    exact ⟨t2, st t2 a1, b1⟩
  · obtain ⟨k1, k2, k3⟩ := vx_keep h0 e1 hS hAX hf hL hF
    obtain ⟨t2, a1, b1⟩ := kx E ce q u t T'.heap (locs ++ L) e1.symm (by rw [← e2]; exact X'.warmed.alike) hp hb k1 k2 k3 (by rw [e1]; exact hce) hcv hcl T' rfl X'
    exact ⟨t2, st.trans a1, b1⟩
end Rows
section Ends
variable {p : Program} {l : Launch} {e : Env} {R : Room} {s : State} {m : MethodId} {args : Array Value} {below : List Frame} {meth : Method} {c : Code} {H : Heap} {locs : List Loc} {cells slots : Nat} {Q : State → Prop}
variable {mc ms : Nat} {free : Addr → Prop} {A0 A1 : Nat → Prop} {H0 : Heap} {a : Array Value} {ls : Array Slot} {st0 rest : List Value}
variable {Qc : Array Value → State → Outcome → State → Prop} {XC : String → State → State → Prop}
/-- what a body that may throw owes at its end -/
def vx_MQ (below : List Frame) (Qc : Array Value → State → Outcome → State → Prop) (XC : String → State → State → Prop) (a : Array Value) (s : State) (mc ms : Nat) (free : Addr → Prop) : State → Prop := fun t =>
  ∃ o, t.status = .running ∧ Ended t below o ∧ vx_Q Qc XC mc ms free a s o t
theorem vx_ret {g : JFrame} {mc ms : Nat} (k : W p l e R s m args below meth c H locs cells slots (MQ below Qc args s mc ms free) g) : W p l e R s m args below meth c H locs cells slots (vx_MQ below Qc XC args s mc ms free) g := by
  intro T hT X
  obtain ⟨t, a1, o, b1, b2, b3, b4⟩ := k T hT X
  exact ⟨t, a1, o, b1, b2, Or.inl ⟨b3, b4⟩⟩
/-- not caught here: it goes on to the caller -/
theorem vx_widen {g : JFrame} {q : Addr} {k n : Nat} (h1 : cells ≤ k) (h2 : slots ≤ n) (kk : vx_W p l e R s m args below meth c H locs k n Q g q) : vx_W p l e R s m args below meth c H locs cells slots Q g q := fun T hT X => kk T hT (stand_widen X h1 h2)
theorem vx_out {pc : Nat} {E : String} {ce : Cell} {q : Addr} {mc ms : Nat} (hout : ∀ x ∈ c.exceptionTable.toList, covers x pc = false) (hlocks : meth.locks = false) (hcell : H[q]? = some ce) (hv : ce.vm = .none) (hcl : s.vm.findClass E = some ce.cls)
    (hx : ∀ t : State, t.heap = H → s.vm.Alike t.vm → XC E s t) (hf : ∀ z ∈ locs, free z.base) (hc : cells ≤ mc) (hs : slots ≤ ms) :
    vx_W p l e R s m args below meth c H locs cells slots (vx_MQ below Qc XC args s mc ms free) (F0 m pc ls rest) q := by
  intro T hT X
  obtain ⟨st1, hrun, hend, hW, hsm⟩ := X.leaveThrown q (g := F0 m pc ls rest) rfl rfl rfl hout hlocks
  have hcell9 : (T.setFrames (.throwing q :: below)).heap[q]? = some ce := by
    show T.heap[q]? = some ce
    rw [hT]; exact hcell
  exact ⟨_, st1, .threw q, hrun, hend, Or.inr ⟨q, rfl, E, ce, locs, hx _ hT hW.alike, hcell9, hv, hcl, hW, hsm.mono hc hs, hf⟩⟩
theorem vx_frame {U : State} {k n : Nat} (h : s.sameButNew ({ U with vm := s.vm } : State) locs k n) : s.heap.size ≤ U.heap.size ∧ ∀ q : Nat, q < s.heap.size → (∀ z ∈ locs, z.base ≠ q) → U.heap[q]? = s.heap[q]? := by
  obtain ⟨-, h2, -, -, -, h6⟩ := h
  refine ⟨h2, fun q hq hz => ?_⟩
  obtain ⟨c9, e1, e2, e3, e4⟩ := h6 q _ (Array.getElem?_eq_getElem hq)
  have hs : c9.slots = (s.heap[q]).slots := Array.ext_getElem? fun i => e4 i fun hm => hz _ hm rfl
  have h9 : c9 = s.heap[q] := by
    rw [hs] at e2
    exact e2
  have e5 : U.heap[q]? = some c9 := e1
  rw [e5, h9, Array.getElem?_eq_getElem hq]
/-- the words of a throw but the four that speak of the heap -/
def vx_no (w : Cond) : Bool := decide (w ≠ .isRef (.static Bundle.tN "UNASSIGNED_STACK" Bundle.steD)) && decide (w ≠ .isRef (.static Bundle.tN "SUPPRESSED_SENTINEL" Bundle.listD)) && decide (w ≠ .laysStatic Bundle.tN "UNASSIGNED_STACK" Bundle.steD) && decide (w ≠ .laysStatic Bundle.tN "SUPPRESSED_SENTINEL" Bundle.listD)
def vx_at0 (own : String) (ic : Nat) (X : String) (names : List String) : List Cond := (Bundle.ownAtoms0 own ic X names).filter vx_no
def vx_atS (own : String) (ic : Nat) (X : String) (names : List String) : List Cond := (Bundle.ownAtoms own ic X names).filter vx_no
/-- a word that the tables alone decide, or a good one -/
def vx_ot (w : Cond) : Bool := w.onTables || goodWord w
theorem vx_ot_at {args a' : Array Value} {s U : State} {w : Cond} (hW : s.WarmedH U.vm) (hvm : s.vm = U.vm) (hg : vx_ot w = true) (h : w.before args s = true) : w.before a' U = true := by
  simp only [vx_ot, Bool.or_eq_true] at hg
  rcases hg with hg | hg
  · exact va_tabs hg hvm h
  · exact word_at hW (good_of_word hg) h
/-- a list's words: the good ones out of the method's own list, the others by premises of their own -/
theorem vx_hat {args : Array Value} {s : State} {L B : List Cond} (h1 : ∀ w ∈ L.filter goodWord, w.before args s = true) (h2 : ∀ w ∈ L.filter (fun w => !goodWord w), w ∈ B) (h3 : ∀ w ∈ B, w.before args s = true) : ∀ w ∈ L, w.before args s = true := by
  intro w hw
  by_cases g : goodWord w = true
  · exact h1 w (List.mem_filter.mpr ⟨hw, g⟩)
  · refine h3 w (h2 w (List.mem_filter.mpr ⟨hw, ?_⟩))
    show (!goodWord w) = true
    cases hgw : goodWord w
    · rfl
    · exact absurd hgw g
theorem vx_c {args : Array Value} {s : State} {w : Cond} {B : List Cond} (h : w.before args s = true) (t : ∀ w ∈ B, w.before args s = true) : ∀ w' ∈ w :: B, w'.before args s = true := fun w' h' => (List.mem_cons.mp h').elim (fun e => by rw [e]; exact h) (t w')
theorem vx_n {args : Array Value} {s : State} : ∀ w ∈ ([] : List Cond), w.before args s = true := fun _ h => nomatch h
theorem vx_own {args : Array Value} {s : State} {L : List Cond} (h1 : ∀ w ∈ L.filter vx_no, w.before args s = true)
    (hU : (Cond.isRef (.static Bundle.tN "UNASSIGNED_STACK" Bundle.steD)).before args s = true) (hN : (Cond.isRef (.static Bundle.tN "SUPPRESSED_SENTINEL" Bundle.listD)).before args s = true)
    (lU : (Cond.laysStatic Bundle.tN "UNASSIGNED_STACK" Bundle.steD).before args s = true) (lN : (Cond.laysStatic Bundle.tN "SUPPRESSED_SENTINEL" Bundle.listD).before args s = true) : ∀ w ∈ L, w.before args s = true := by
  intro w hw
  by_cases e1 : w = .isRef (.static Bundle.tN "UNASSIGNED_STACK" Bundle.steD)
  · rw [e1]; exact hU
  · by_cases e2 : w = .isRef (.static Bundle.tN "SUPPRESSED_SENTINEL" Bundle.listD)
    · rw [e2]; exact hN
    · by_cases e3 : w = .laysStatic Bundle.tN "UNASSIGNED_STACK" Bundle.steD
      · rw [e3]; exact lU
      · by_cases e4 : w = .laysStatic Bundle.tN "SUPPRESSED_SENTINEL" Bundle.listD
        · rw [e4]; exact lN
        · exact h1 w (List.mem_filter.mpr ⟨hw, by unfold vx_no; rw [decide_eq_true e1, decide_eq_true e2, decide_eq_true e3, decide_eq_true e4]; rfl⟩)
/-- where a static field lies, its class's statics cell in H -/
def vx_L (C n d : String) (A : Nat → Prop) (U : State) (H : Heap) : Prop := ∃ (c : ClassId) (k : Class) (i : Nat) (f : Field) (a : Nat) (cell : Cell), U.vm.findClass C = some c ∧ U.fieldFound? C n d = some (c, k, i, f) ∧ f.isStatic = true ∧ k.statics = some a ∧ H[a]? = some cell ∧ cell.vm.isStatics = true ∧ cell.cls = c ∧ f.slot < cell.slots.size ∧ k.staticTypes[f.slot]? = some f.type ∧ ¬ A a
theorem vx_L.moved {C n d : String} {A : Nat → Prop} {u U : State} {H : Heap} (hvm : u.vm.Alike U.vm) (h : vx_L C n d A u H) : vx_L C n d A U H := by
  obtain ⟨c, k, i, f, a, cell, h1, h2, h3, h4, h5, h6, h7, h8, h9, h10⟩ := h
  obtain ⟨k', hi', he⟩ := State.fieldFound?_setVm hvm h2
  exact ⟨c, k', i, f, a, cell, by rw [hvm.findClass]; exact h1, hi', h3, by rw [he]; exact h4, h5, h6, h7, h8, by rw [he]; exact h9, h10⟩
theorem vx_L.kept {C n d : String} {A : Nat → Prop} {U : State} {H H1 : Heap} (h : vx_L C n d A U H) (hq : ∀ a : Nat, a < H.size → ¬ A a → H1[a]? = H[a]?) : vx_L C n d A U H1 := by
  obtain ⟨c, k, i, f, a, cell, h1, h2, h3, h4, h5, h6, h7, h8, h9, h10⟩ := h
  exact ⟨c, k, i, f, a, cell, h1, h2, h3, h4, by rw [hq a (Array.getElem?_eq_some_iff.mp h5).1 h10]; exact h5, h6, h7, h8, h9, h10⟩
theorem vx_L.narrow {C n d : String} {A B : Nat → Prop} {U : State} {H : Heap} (h : vx_L C n d A U H) (hAB : ∀ q, B q → A q) : vx_L C n d B U H := by
  obtain ⟨c, k, i, f, a, cell, h1, h2, h3, h4, h5, h6, h7, h8, h9, h10⟩ := h
  exact ⟨c, k, i, f, a, cell, h1, h2, h3, h4, h5, h6, h7, h8, h9, fun z => h10 (hAB _ z)⟩
theorem vx_L.word {C n d : String} {A : Nat → Prop} {s : State} {args : Array Value} (h : vx_L C n d A s s.heap) : (Cond.laysStatic C n d).before args s = true := by
  obtain ⟨c, k, i, f, a, cell, h1, h2, h3, h4, h5, h6, h7, h8, h9, -⟩ := h
  show (Cond.laysStatic C n d).holds args s none s [] = true
  exact Cond.laysStatic_of h1 h2 h3 h4 h5 h6 h7 h8 h9
/-- .. and what it holds: null or some reference -/
def vx_Zq (C n d : String) (A : Nat → Prop) (U : State) (H : Heap) : Prop := va_Zq C n d A U H ∧ vx_L C n d A U H
theorem vx_Zq.moved {C n d : String} {A : Nat → Prop} {u U : State} {H : Heap} (hvm : u.vm.Alike U.vm) (h : vx_Zq C n d A u H) : vx_Zq C n d A U H := ⟨va_Zq.moved hvm h.1, vx_L.moved hvm h.2⟩
theorem vx_Zq.kept {C n d : String} {A : Nat → Prop} {U : State} {H H1 : Heap} (h : vx_Zq C n d A U H) (hq : ∀ a : Nat, a < H.size → ¬ A a → H1[a]? = H[a]?) : vx_Zq C n d A U H1 := ⟨va_Zq.kept h.1 hq, vx_L.kept h.2 hq⟩
theorem vx_Zq.narrow {C n d : String} {A B : Nat → Prop} {U : State} {H : Heap} (h : vx_Zq C n d A U H) (hAB : ∀ q, B q → A q) : vx_Zq C n d B U H := ⟨va_Zq.narrow h.1 hAB, vx_L.narrow h.2 hAB⟩
theorem vx_Zqof {args : Array Value} {s : State} {C n d : String} {A : Nat → Prop} (hl : (Cond.laysStatic C n d).before args s = true) (hini : (Cond.initialized C).before args s = true) (h : (Cond.isRef (.static C n d)).before args s = true) (hA : ∀ a : Nat, a < s.heap.size → ¬ A a) : vx_Zq C n d A s s.heap := by
  refine ⟨va_Zqof hl hini h hA, ?_⟩
  obtain ⟨c, k, i, f, a, cell, h1, h2, h3, h4, h5, h6, h7, h8, h9⟩ := Cond.laysStatic_spec hl
  exact ⟨c, k, i, f, a, cell, h1, h2, h3, h4, h5, h6, h7, h8, h9, hA a (Array.getElem?_eq_some_iff.mp h5).1⟩
theorem vx_isRef {C n d : String} {v : Value} {A : Nat → Prop} {s : State} {args : Array Value} (h : va_Z C n d v A s s.heap) (hv : v.isRef = true) : (Cond.isRef (.static C n d)).before args s = true := by
  obtain ⟨cf, kf, fi, f, a, cell, h1, h2, h3, h4, h5, h6, h7, -⟩ := h
  have he : (Term.static C n d).eval args s none [] s = some v := by
    simp [Term.eval, State.fieldNamed?, h1, h2, h4, h5, h6, h7]
  simp only [Cond.before, Cond.holds, Cond.value, he]
  cases v <;> simp_all [Value.isRef]
theorem vx_isRefq {C n d : String} {A : Nat → Prop} {s : State} {args : Array Value} (h : va_Zq C n d A s s.heap) : (Cond.isRef (.static C n d)).before args s = true := by
  rcases h with h | ⟨t, h⟩
  · exact vx_isRef h rfl
  · exact vx_isRef h rfl
/-- the same frame, seen from here: as if the method were called anew in this heap -/
theorem vx_rebase {T : State} (X : Stand p l e R s m args below meth c T locs cells slots) {R' : Room} (hf : R'.frames ≤ R.frames) (hl : R'.locals ≤ R.locals) (hc : cells + R'.cells ≤ R.cells) (hs : slots + R'.slots ≤ R.slots) :
    Stand p l e R' ((T.setVm s.vm).setFrames (.invoking m args :: below)) m args below meth c T [] 0 0 := by
  have htop : (T.setVm s.vm).topJava?.isSome := X.here.top
  have hF : ((T.setVm s.vm).setFrames (.invoking m args :: below)).frames = .invoking m args :: below := State.frames_setFrames _ (State.cur_lt_of_top htop)
  obtain ⟨g₀, hg0⟩ := Option.isSome_iff_exists.mp htop
  obtain ⟨r, hr⟩ := State.topJava?_eq_some.mp hg0
  have hl9 : e.platform.stackLimits (T.setVm s.vm).me = e.platform.stackLimits s.me := X.limits
  have hb9 : (T.setVm s.vm).me.stackBytes = s.me.stackBytes := X.bytes
  refine ⟨X.admits, X.cas, X.clock, hF, ?_, X.hears, X.method, X.code, X.here, X.tail, X.warmed, ?_, ?_, ?_⟩
  · have h := X.room
    have hU : ((T.setVm s.vm).setFrames (.invoking m args :: below)).localsInUse = s.localsInUse := by
      rw [State.localsInUse_invoking hF (meth := meth) (c := c) X.method X.code, State.localsInUse_invoking X.frames X.method X.code]
    simp only [State.hasRoom, Bool.and_eq_true, decide_eq_true_eq] at h ⊢
    obtain ⟨⟨⟨⟨h1, h2, h3, h4, h5, h6⟩, h7⟩, h8⟩, h9⟩ := h
    rw [X.frames, List.length_cons] at h2 h3
    have q1 := X.heapSize
    have q2 := X.used
    simp only [hF, hU, List.length_cons, State.stackLimits_setFrames, State.stackBytes_setFrames, hl9, hb9]
    refine ⟨⟨⟨⟨by omega, by omega, by omega, by omega, by omega, h6⟩, ?_⟩, ?_⟩, X.book⟩
    · show T.heap.size + R'.cells ≤ e.platform.maxCells
      omega
    · show T.slotsUsed + R'.slots ≤ e.platform.maxSlots
      omega
  · rw [State.stackLimits_setFrames]; rfl
  · rw [State.stackBytes_setFrames]; rfl
  · refine ⟨?_, Nat.le_refl _, Nat.le_refl _, ?_, ?_, fun a c9 h9 => ⟨c9, h9, rfl, rfl, fun _ _ => rfl⟩⟩
    · obtain ⟨t, ht, -⟩ := State.frames_cons hr
      show T.setVm s.vm = { ((T.setVm s.vm).setFrames (.invoking m args :: below)).setFrames (T.setVm s.vm).frames with heap := T.heap, slotsUsed := T.slotsUsed }
      rw [State.setFrames_setFrames, State.setFrames_self ht]
      rfl
    · show T.slotsUsed = T.slotsUsed + ((T.heap.toList.drop T.heap.size).map (·.slots.size)).sum
      rw [List.drop_eq_nil_of_le (Nat.le_of_eq Array.length_toList)]
      rfl
    · show ((T.heap.toList.drop T.heap.size).map (·.slots.size)).sum ≤ 0
      rw [List.drop_eq_nil_of_le (Nat.le_of_eq Array.length_toList)]
      exact Nat.le_refl _
/-- 'throw new E()': new; dup; invokespecial; athrow -/
theorem vx_throw0 {cc : ByteArray} {pc : Nat} (hexec : p.tables.exec = Jvm.exec) (hb : c.code = cc) (hl : l.stackTraces = false) {own cls : String} {names : List String} {ik ic mc ms : Nat} {A : Nat → Prop}
    (hown : s.vm.findClass own = some m.cls) (hcls : Bundle.fit cls = true) (hnames : ∀ n ∈ names, Bundle.fit n = true)
    (hk : (Cond.classLink own ik cls).before args s = true) (hini : (Cond.initialized cls).before args s = true) (hat : ∀ w ∈ vx_at0 own ic cls names, w.before args s = true)
    (hgood : ∀ w ∈ Cond.classLink own ik cls :: Cond.initialized cls :: vx_at0 own ic cls names, vx_ot w = true)
    (hU : vx_Zq Bundle.tN "UNASSIGNED_STACK" Bundle.steD A s s.heap) (hN : vx_Zq Bundle.tN "SUPPRESSED_SENTINEL" Bundle.listD A s s.heap) (hS : va_S A s.heap H locs) (hsize : ls.size = c.maxLocals)
    (d0 : decode cc pc = .ok (.new ik, 3)) (d3 : decode cc (pc + 3) = .ok (.dup, 1)) (d4 : decode cc (pc + 4) = .ok (.invokespecial ic, 3)) (d7 : decode cc (pc + 7) = .ok (.athrow, 1))
    (hout : ∀ x ∈ c.exceptionTable.toList, covers x (pc + 7) = false)
    (hRframes : names.length + 3 < R.frames) (hRlocals : (rest.map fun v => v.category).sum + (13 * (names.length + 1) + 42) ≤ R.locals) (hRcells : cells + 1 ≤ R.cells) (hRslots : slots + 6 ≤ R.slots) (hlocks : meth.locks = false)
    (hx : ∀ t : State, s.vm.Alike t.vm → H.size ≤ t.heap.size → (∀ q : Nat, q < H.size → t.heap[q]? = H[q]?) → XC cls s t)
    (hf : ∀ z ∈ locs, free z.base) (hc : cells + 1 ≤ mc) (hs : slots + 6 ≤ ms) :
    W p l e R s m args below meth c H locs cells slots (vx_MQ below Qc XC args s mc ms free) (F0 m pc ls rest) := by
  intro T hT X
  have htr : e.platform.stackTraces = false := (show e.platform.stackTraces = l.stackTraces by rw [X.admits.platform]).trans hl
  have Y := vx_rebase X (R' := { frames := R.frames, locals := R.locals, cells := 1, slots := 6 }) (Nat.le_refl _) (Nat.le_refl _) hRcells hRslots
  obtain ⟨s', hA⟩ : ∃ z, z = (T.setVm s.vm).setFrames (.invoking m args :: below) := ⟨_, rfl⟩
  rw [← hA] at Y
  have hvm : s'.vm = s.vm := by rw [hA]; rfl
  have hhp : s'.heap = H := by rw [hA]; exact hT
  have hW0 : s.WarmedH s'.vm := by rw [hvm]; exact State.WarmedH.refl s
  have hat' : ∀ w ∈ vx_at0 own ic cls names, w.before args s' = true := fun w hw => vx_ot_at hW0 hvm.symm (hgood w (List.mem_cons_of_mem _ (List.mem_cons_of_mem _ hw))) (hat w hw)
  have hk' : (Cond.classLink own ik cls).before args s' = true := vx_ot_at hW0 hvm.symm (hgood _ List.mem_cons_self) hk
  have hini' : (Cond.initialized cls).before args s' = true := vx_ot_at hW0 hvm.symm (hgood _ (List.mem_cons_of_mem _ List.mem_cons_self)) hini
  have hU' : vx_Zq Bundle.tN "UNASSIGNED_STACK" Bundle.steD A s' s'.heap := by rw [hhp]; exact vx_Zq.moved hW0.alike (hU.kept hS.2.1)
  have hN' : vx_Zq Bundle.tN "SUPPRESSED_SENTINEL" Bundle.listD A s' s'.heap := by rw [hhp]; exact vx_Zq.moved hW0.alike (hN.kept hS.2.1)
  have h : ∀ w ∈ Bundle.ownAtoms0 own ic cls names, w.before args s' = true := vx_own hat' (vx_isRefq hU'.1) (vx_isRefq hN'.1) hU'.2.word hN'.2.word
  have hown' : s'.vm.findClass own = some m.cls := by rw [hvm]; exact hown
  have hins : (Cond.instantiable cls 6).before args s' = true := h _ (by simp [Bundle.ownAtoms0])
  obtain ⟨vm₁, cX, kX, hfX, hkX, -, -, X₁, st1⟩ := Y.newCold hexec (own := own) (C := cls) (index := ik) (n := 6) hown' hk' hins hini'
    (g := F0 m pc ls rest) rfl (by rw [hb]; exact d0) (Nat.le_refl _) (Nat.le_refl _)
  generalize hT1 : (T.setVm vm₁).pushCell { cls := cX, slots := kX.instanceTypes.map defaultValue, vm := .none } = T1 at X₁ st1
  have hcat : (Value.ref T.heap.size).category = 1 := rfl
  have hcellA : T1.heap[T.heap.size]? = some (freshCell cX kX) := by rw [← hT1]; exact State.heap_pushCell_size _ _
  have d3' : decode c.code (pc + 3) = .ok (.dup, 1) := by rw [hb]; exact d3
  obtain ⟨U, hsteps, hrun, hend, hW, hsame, ce, hce, hO⟩ := X₁.ctorThrow0 hexec htr (own := own) (cls := cls) (names := names) (ic := ic) hown' hcls hnames h (fun x hx => nomatch hx) hfX hkX hcellA (by rw [hhp, hT]; exact Nat.le_refl _)
    (g := { method := m, pc := pc + 4, locals := ls, stack := .ref T.heap.size :: .ref T.heap.size :: rest, locked := none }) rfl hsize rfl rfl (rest := rest) rfl
    (by rw [hb]; exact d4) (by rw [hb]; exact d7) hout hRframes (by simp only [List.map_cons, List.sum_cons, hcat]; omega) hlocks
  obtain ⟨f1, f2⟩ := vx_frame hsame
  rw [hhp] at f1 f2
  have hWs : s.WarmedH U.vm := State.WarmedH.trans hW0 hW
  have hcl : s.vm.findClass cls = some ce.cls := by
    have h9 := hO.cls
    rw [hvm] at h9
    exact h9
  have hall : s.sameButNew ({ U with vm := s.vm } : State) locs mc ms := by
    subst hA
    obtain ⟨e1, e2⟩ := hsame
    rw [State.setFrames_setFrames] at e1
    have h2 : (T.setVm s.vm).sameButNew ({ U with vm := s.vm } : State) [] (0 + 1) (0 + 6) := ⟨e1, e2⟩
    have h3 := X.same.trans h2
    rw [List.append_nil] at h3
    exact h3.mono hc hs
  refine ⟨U, ?_, .threw T.heap.size, hrun, hend, Or.inr ⟨T.heap.size, rfl, cls, ce, locs, hx U hWs.alike f1 (fun q hq => f2 q hq (fun z hz => nomatch hz)), hce, hO.vm, hcl, hWs, hall, hf⟩⟩
  refine st1 _ ?_
  show Steps p.tables e below (T1.setTop { method := m, pc := pc + 3, locals := ls, stack := .ref T.heap.size :: rest, locked := none }) _
  jvm_step X₁.here [X₁.here.top, hexec, d3', Value.category]
  exact hsteps
/-- 'throw new E("text")': new; dup; ldc; invokespecial; athrow -/
theorem vx_throwS {cc : ByteArray} {pc : Nat} (hexec : p.tables.exec = Jvm.exec) (hb : c.code = cc) (hl : l.stackTraces = false) {own cls text : String} {names : List String} {ik is ic mc ms sa : Nat} {A : Nat → Prop}
    (hown : s.vm.findClass own = some m.cls) (hcls : Bundle.fit cls = true) (hnames : ∀ n ∈ names, Bundle.fit n = true)
    (hk : (Cond.classLink own ik cls).before args s = true) (hini : (Cond.initialized cls).before args s = true) (hstr : vk_R own is text sa s) (hat : ∀ w ∈ vx_atS own ic cls names, w.before args s = true)
    (hgood : ∀ w ∈ Cond.classLink own ik cls :: Cond.initialized cls :: vx_atS own ic cls names, vx_ot w = true)
    (hU : vx_Zq Bundle.tN "UNASSIGNED_STACK" Bundle.steD A s s.heap) (hN : vx_Zq Bundle.tN "SUPPRESSED_SENTINEL" Bundle.listD A s s.heap) (hS : va_S A s.heap H locs) (hsize : ls.size = c.maxLocals)
    (d0 : decode cc pc = .ok (.new ik, 3)) (d3 : decode cc (pc + 3) = .ok (.dup, 1)) (d4 : decode cc (pc + 4) = .ok (.ldc is, 2)) (d6 : decode cc (pc + 6) = .ok (.invokespecial ic, 3)) (d9 : decode cc (pc + 9) = .ok (.athrow, 1))
    (hout : ∀ x ∈ c.exceptionTable.toList, covers x (pc + 9) = false)
    (hRframes : names.length + 3 < R.frames) (hRlocals : (rest.map fun v => v.category).sum + (13 * (names.length + 1) + 43) ≤ R.locals) (hRcells : cells + 1 ≤ R.cells) (hRslots : slots + 6 ≤ R.slots) (hlocks : meth.locks = false)
    (hx : ∀ t : State, s.vm.Alike t.vm → H.size ≤ t.heap.size → (∀ q : Nat, q < H.size → t.heap[q]? = H[q]?) → XC cls s t)
    (hf : ∀ z ∈ locs, free z.base) (hc : cells + 1 ≤ mc) (hs : slots + 6 ≤ ms) :
    W p l e R s m args below meth c H locs cells slots (vx_MQ below Qc XC args s mc ms free) (F0 m pc ls rest) := by
  intro T hT X
  have htr : e.platform.stackTraces = false := (show e.platform.stackTraces = l.stackTraces by rw [X.admits.platform]).trans hl
  have Y := vx_rebase X (R' := { frames := R.frames, locals := R.locals, cells := 1, slots := 6 }) (Nat.le_refl _) (Nat.le_refl _) hRcells hRslots
  obtain ⟨s', hA⟩ : ∃ z, z = (T.setVm s.vm).setFrames (.invoking m args :: below) := ⟨_, rfl⟩
  rw [← hA] at Y
  have hvm : s'.vm = s.vm := by rw [hA]; rfl
  have hhp : s'.heap = H := by rw [hA]; exact hT
  have hW0 : s.WarmedH s'.vm := by rw [hvm]; exact State.WarmedH.refl s
  have hat' : ∀ w ∈ vx_atS own ic cls names, w.before args s' = true := fun w hw => vx_ot_at hW0 hvm.symm (hgood w (List.mem_cons_of_mem _ (List.mem_cons_of_mem _ hw))) (hat w hw)
  have hk' : (Cond.classLink own ik cls).before args s' = true := vx_ot_at hW0 hvm.symm (hgood _ List.mem_cons_self) hk
  have hini' : (Cond.initialized cls).before args s' = true := vx_ot_at hW0 hvm.symm (hgood _ (List.mem_cons_of_mem _ List.mem_cons_self)) hini
  have hU' : vx_Zq Bundle.tN "UNASSIGNED_STACK" Bundle.steD A s' s'.heap := by rw [hhp]; exact vx_Zq.moved hW0.alike (hU.kept hS.2.1)
  have hN' : vx_Zq Bundle.tN "SUPPRESSED_SENTINEL" Bundle.listD A s' s'.heap := by rw [hhp]; exact vx_Zq.moved hW0.alike (hN.kept hS.2.1)
  have h : ∀ w ∈ Bundle.ownAtoms own ic cls names, w.before args s' = true := vx_own hat' (vx_isRefq hU'.1) (vx_isRefq hN'.1) hU'.2.word hN'.2.word
  have hown' : s'.vm.findClass own = some m.cls := by rw [hvm]; exact hown
  have hins : (Cond.instantiable cls 6).before args s' = true := h _ (by simp [Bundle.ownAtoms])
  obtain ⟨vm₁, cX, kX, hfX, hkX, -, -, X₁, st1⟩ := Y.newCold hexec (own := own) (C := cls) (index := ik) (n := 6) hown' hk' hins hini'
    (g := F0 m pc ls rest) rfl (by rw [hb]; exact d0) (Nat.le_refl _) (Nat.le_refl _)
  generalize hT1 : (T.setVm vm₁).pushCell { cls := cX, slots := kX.instanceTypes.map defaultValue, vm := .none } = T1 at X₁ st1
  have hcat : (Value.ref T.heap.size).category = 1 := rfl
  have hcellA : T1.heap[T.heap.size]? = some (freshCell cX kX) := by rw [← hT1]; exact State.heap_pushCell_size _ _
  have d3' : decode c.code (pc + 3) = .ok (.dup, 1) := by rw [hb]; exact d3
  have d4' : decode c.code (pc + 4) = .ok (.ldc is, 2) := by rw [hb]; exact d4
  have hstr' : vk_R own is text sa s' := vk_R.warm hW0 hstr
  obtain ⟨U, hsteps, hrun, hend, hW, hsame, ce, hce, hO⟩ := X₁.ctorThrowS hexec htr (own := own) (cls := cls) (names := names) (ic := ic) hown' hcls hnames h (fun x hx => nomatch hx) hfX hkX hcellA (by rw [hhp, hT]; exact Nat.le_refl _) (msg := .ref sa) rfl
    (g := { method := m, pc := pc + 6, locals := ls, stack := .ref sa :: .ref T.heap.size :: .ref T.heap.size :: rest, locked := none }) rfl hsize rfl rfl (rest := rest) rfl
    (by rw [hb]; exact d6) (by rw [hb]; exact d9) hout hRframes (by simp only [List.map_cons, List.sum_cons, hcat]; omega) hlocks
  obtain ⟨f1, f2⟩ := vx_frame hsame
  rw [hhp] at f1 f2
  have hWs : s.WarmedH U.vm := State.WarmedH.trans hW0 hW
  have hcl : s.vm.findClass cls = some ce.cls := by
    have h9 := hO.cls
    rw [hvm] at h9
    exact h9
  have hall : s.sameButNew ({ U with vm := s.vm } : State) locs mc ms := by
    subst hA
    obtain ⟨e1, e2⟩ := hsame
    rw [State.setFrames_setFrames] at e1
    have h2 : (T.setVm s.vm).sameButNew ({ U with vm := s.vm } : State) [] (0 + 1) (0 + 6) := ⟨e1, e2⟩
    have h3 := X.same.trans h2
    rw [List.append_nil] at h3
    exact h3.mono hc hs
  refine ⟨U, ?_, .threw T.heap.size, hrun, hend, Or.inr ⟨T.heap.size, rfl, cls, ce, locs, hx U hWs.alike f1 (fun q hq => f2 q hq (fun z hz => nomatch hz)), hce, hO.vm, hcl, hWs, hall, hf⟩⟩
  refine st1 _ ?_
  show Steps p.tables e below (T1.setTop { method := m, pc := pc + 3, locals := ls, stack := .ref T.heap.size :: rest, locked := none }) _
  jvm_step X₁.here [X₁.here.top, hexec, d3', Value.category]
  exact X₁.ldcString hexec (own := own) (text := text) (index := is) (a := sa) hown' hstr'.1 hstr'.2
    (g := { method := m, pc := pc + 4, locals := ls, stack := .ref T.heap.size :: .ref T.heap.size :: rest, locked := none }) rfl d4' _ hsteps
/-- 'throw new E("text")', the text by a wide index -/
theorem vx_throwSW {cc : ByteArray} {pc : Nat} (hexec : p.tables.exec = Jvm.exec) (hb : c.code = cc) (hl : l.stackTraces = false) {own cls text : String} {names : List String} {ik is ic mc ms sa : Nat} {A : Nat → Prop}
    (hown : s.vm.findClass own = some m.cls) (hcls : Bundle.fit cls = true) (hnames : ∀ n ∈ names, Bundle.fit n = true)
    (hk : (Cond.classLink own ik cls).before args s = true) (hini : (Cond.initialized cls).before args s = true) (hstr : vk_R own is text sa s) (hat : ∀ w ∈ vx_atS own ic cls names, w.before args s = true)
    (hgood : ∀ w ∈ Cond.classLink own ik cls :: Cond.initialized cls :: vx_atS own ic cls names, vx_ot w = true)
    (hU : vx_Zq Bundle.tN "UNASSIGNED_STACK" Bundle.steD A s s.heap) (hN : vx_Zq Bundle.tN "SUPPRESSED_SENTINEL" Bundle.listD A s s.heap) (hS : va_S A s.heap H locs) (hsize : ls.size = c.maxLocals)
    (d0 : decode cc pc = .ok (.new ik, 3)) (d3 : decode cc (pc + 3) = .ok (.dup, 1)) (d4 : decode cc (pc + 4) = .ok (.ldc_w is, 3)) (d7 : decode cc (pc + 7) = .ok (.invokespecial ic, 3)) (d10 : decode cc (pc + 10) = .ok (.athrow, 1))
    (hout : ∀ x ∈ c.exceptionTable.toList, covers x (pc + 10) = false)
    (hRframes : names.length + 3 < R.frames) (hRlocals : (rest.map fun v => v.category).sum + (13 * (names.length + 1) + 43) ≤ R.locals) (hRcells : cells + 1 ≤ R.cells) (hRslots : slots + 6 ≤ R.slots) (hlocks : meth.locks = false)
    (hx : ∀ t : State, s.vm.Alike t.vm → H.size ≤ t.heap.size → (∀ q : Nat, q < H.size → t.heap[q]? = H[q]?) → XC cls s t)
    (hf : ∀ z ∈ locs, free z.base) (hc : cells + 1 ≤ mc) (hs : slots + 6 ≤ ms) :
    W p l e R s m args below meth c H locs cells slots (vx_MQ below Qc XC args s mc ms free) (F0 m pc ls rest) := by
  intro T hT X
  have htr : e.platform.stackTraces = false := (show e.platform.stackTraces = l.stackTraces by rw [X.admits.platform]).trans hl
  have Y := vx_rebase X (R' := { frames := R.frames, locals := R.locals, cells := 1, slots := 6 }) (Nat.le_refl _) (Nat.le_refl _) hRcells hRslots
  obtain ⟨s', hA⟩ : ∃ z, z = (T.setVm s.vm).setFrames (.invoking m args :: below) := ⟨_, rfl⟩
  rw [← hA] at Y
  have hvm : s'.vm = s.vm := by rw [hA]; rfl
  have hhp : s'.heap = H := by rw [hA]; exact hT
  have hW0 : s.WarmedH s'.vm := by rw [hvm]; exact State.WarmedH.refl s
  have hat' : ∀ w ∈ vx_atS own ic cls names, w.before args s' = true := fun w hw => vx_ot_at hW0 hvm.symm (hgood w (List.mem_cons_of_mem _ (List.mem_cons_of_mem _ hw))) (hat w hw)
  have hk' : (Cond.classLink own ik cls).before args s' = true := vx_ot_at hW0 hvm.symm (hgood _ List.mem_cons_self) hk
  have hini' : (Cond.initialized cls).before args s' = true := vx_ot_at hW0 hvm.symm (hgood _ (List.mem_cons_of_mem _ List.mem_cons_self)) hini
  have hU' : vx_Zq Bundle.tN "UNASSIGNED_STACK" Bundle.steD A s' s'.heap := by rw [hhp]; exact vx_Zq.moved hW0.alike (hU.kept hS.2.1)
  have hN' : vx_Zq Bundle.tN "SUPPRESSED_SENTINEL" Bundle.listD A s' s'.heap := by rw [hhp]; exact vx_Zq.moved hW0.alike (hN.kept hS.2.1)
  have h : ∀ w ∈ Bundle.ownAtoms own ic cls names, w.before args s' = true := vx_own hat' (vx_isRefq hU'.1) (vx_isRefq hN'.1) hU'.2.word hN'.2.word
  have hown' : s'.vm.findClass own = some m.cls := by rw [hvm]; exact hown
  have hins : (Cond.instantiable cls 6).before args s' = true := h _ (by simp [Bundle.ownAtoms])
  obtain ⟨vm₁, cX, kX, hfX, hkX, -, -, X₁, st1⟩ := Y.newCold hexec (own := own) (C := cls) (index := ik) (n := 6) hown' hk' hins hini'
    (g := F0 m pc ls rest) rfl (by rw [hb]; exact d0) (Nat.le_refl _) (Nat.le_refl _)
  generalize hT1 : (T.setVm vm₁).pushCell { cls := cX, slots := kX.instanceTypes.map defaultValue, vm := .none } = T1 at X₁ st1
  have hcat : (Value.ref T.heap.size).category = 1 := rfl
  have hcellA : T1.heap[T.heap.size]? = some (freshCell cX kX) := by rw [← hT1]; exact State.heap_pushCell_size _ _
  have d3' : decode c.code (pc + 3) = .ok (.dup, 1) := by rw [hb]; exact d3
  have d4' : decode c.code (pc + 4) = .ok (.ldc_w is, 3) := by rw [hb]; exact d4
  have hstr' : vk_R own is text sa s' := vk_R.warm hW0 hstr
  obtain ⟨U, hsteps, hrun, hend, hW, hsame, ce, hce, hO⟩ := X₁.ctorThrowS hexec htr (own := own) (cls := cls) (names := names) (ic := ic) hown' hcls hnames h (fun x hx => nomatch hx) hfX hkX hcellA (by rw [hhp, hT]; exact Nat.le_refl _) (msg := .ref sa) rfl
    (g := { method := m, pc := pc + 7, locals := ls, stack := .ref sa :: .ref T.heap.size :: .ref T.heap.size :: rest, locked := none }) rfl hsize rfl rfl (rest := rest) rfl
    (by rw [hb]; exact d7) (by rw [hb]; exact d10) hout hRframes (by simp only [List.map_cons, List.sum_cons, hcat]; omega) hlocks
  obtain ⟨f1, f2⟩ := vx_frame hsame
  rw [hhp] at f1 f2
  have hWs : s.WarmedH U.vm := State.WarmedH.trans hW0 hW
  have hcl : s.vm.findClass cls = some ce.cls := by
    have h9 := hO.cls
    rw [hvm] at h9
    exact h9
  have hall : s.sameButNew ({ U with vm := s.vm } : State) locs mc ms := by
    subst hA
    obtain ⟨e1, e2⟩ := hsame
    rw [State.setFrames_setFrames] at e1
    have h2 : (T.setVm s.vm).sameButNew ({ U with vm := s.vm } : State) [] (0 + 1) (0 + 6) := ⟨e1, e2⟩
    have h3 := X.same.trans h2
    rw [List.append_nil] at h3
    exact h3.mono hc hs
  refine ⟨U, ?_, .threw T.heap.size, hrun, hend, Or.inr ⟨T.heap.size, rfl, cls, ce, locs, hx U hWs.alike f1 (fun q hq => f2 q hq (fun z hz => nomatch hz)), hce, hO.vm, hcl, hWs, hall, hf⟩⟩
  refine st1 _ ?_
  show Steps p.tables e below (T1.setTop { method := m, pc := pc + 3, locals := ls, stack := .ref T.heap.size :: rest, locked := none }) _
  jvm_step X₁.here [X₁.here.top, hexec, d3', Value.category]
  exact X₁.ldcStringW hexec (own := own) (text := text) (index := is) (a := sa) hown' hstr'.1 hstr'.2
    (g := { method := m, pc := pc + 4, locals := ls, stack := .ref T.heap.size :: .ref T.heap.size :: rest, locked := none }) rfl d4' _ hsteps
end Ends
section Bodies
variable {l : Launch}
theorem vx_ofW {y : MethodName} {ws ws' : List Cond} {rm : Room} {Pc : Array Value → State → Prop} {Qc : Array Value → State → Outcome → State → Prop} {XC : String → State → State → Prop} {mc ms : Nat} {free : Addr → Prop} {cc : ByteArray} {maxL : Nat} {ret : Option FieldType}
    (hy : plainName y.cls = true) (hw : ws = Cond.code y cc maxL ret :: ws')
    (body : ∀ p e s m args below meth c s₁, BodyLoose p l y (headSpec ws rm) cc maxL ret e s m args below meth c s₁ → c.maxLocals = maxL → (∀ x ∈ c.exceptionTable.toList, False) → Pc args s →
      W p l e (headSpec ws rm).room s m args below meth c s.heap [] 0 0 (vx_MQ below Qc XC args s mc ms free) (entryFrame m args maxL)) : vx_Met l y ws rm Pc Qc XC mc ms free := by
  refine MetFree.of_bodyS (code := cc) (maxLocals := maxL) (ret := ret) hy ?_ ?_
  · intro args s m h hn
    obtain ⟨meth, c, h1, h2, h3, h4, h5, h6, -, -⟩ := Cond.code_spec hn (atoms_spec (ws := ws) h _ (by rw [hw]; exact List.mem_cons_self))
    exact ⟨meth, c, h1, h2, h3, h4, h5, h6⟩
  · intro p e s m args below meth c s₁ B hml hP _
    have hh0 : s₁.heap = s.heap := by rw [B.state]; rfl
    have ht : ∀ x ∈ c.exceptionTable.toList, False := by
      obtain ⟨meth9, c9, h1, h2, -, -, -, -, h7, -⟩ := Cond.code_spec B.named (atoms_spec (ws := ws) B.pre _ (by rw [hw]; exact List.mem_cons_self))
      cases Option.some.inj (h1.symm.trans B.method)
      cases Option.some.inj (h2.symm.trans (Stand.of_body B).code)
      intro x hx
      rw [Array.isEmpty_iff.mp h7] at hx
      cases hx
    obtain ⟨t, a1, o, b1, b2, b3⟩ := body p e s m args below meth c s₁ B hml ht hP s₁ hh0 (Stand.of_body B)
    exact ⟨t, o, a1, b1, b2, b3⟩
/-- the table of a body with handlers -/
theorem vx_table {p : Program} {x y : MethodName} {S : Spec} {cc bytes : ByteArray} {maxL maxL' : Nat} {ret ret' : Option FieldType} {e : Env} {s s₁ : State} {m : MethodId} {args : Array Value} {below : List Frame} {meth : Method} {c : Code} {hh : List (Nat × Nat × Nat × Nat)}
    (B : BodyLoose p l y S cc maxL ret e s m args below meth c s₁) (h : (Cond.codeWith y bytes maxL' ret' hh).before args s = true) : c.exceptionTable.toList = tableOf hh := by
  obtain ⟨m9, meth9, c9, hn9, h1, h2, -, -, h6, -⟩ := Cond.codeWith_spec h
  cases Option.some.inj (hn9.symm.trans B.named)
  cases Option.some.inj (h1.symm.trans B.method)
  cases Option.some.inj (h2.symm.trans (Stand.of_body B).code)
  rw [← h6, table_eq]
end Bodies
end VXA
/-! ===== END ===== -/
/-! ===== BEGIN a static call of a method with an exception table ===== -/
section VXS
variable {p : Program} {l : Launch} {e : Env} {R : Room} {s : State} {m : MethodId} {args : Array Value} {below : List Frame} {meth : Method} {c : Code} {T : State} {H : Heap} {locs : List Loc} {cells slots : Nat}
abbrev vx_CSW (R : Room) (s : State) (args : Array Value) (own : String) (index : Nat) (y : MethodName) (bytes : ByteArray) (maxL : Nat) (ret : Option FieldType) (hh : List (Nat × Nat × Nat × Nat)) (ws : List Cond) (rm : Room) (mc ms n : Nat) : Prop :=
  (rm.cells = mc ∧ rm.slots = ms ∧ rm.frames + 1 ≤ R.frames ∧ 8 + (maxL + 11) + rm.locals ≤ R.locals ∧ (∀ w ∈ ws, ∀ (a' : Array Value) (U : State), s.WarmedH U.vm → w.before a' U = true) ∧ Cond.codeWith y bytes maxL ret hh ∈ ws) ∧
  (Cond.codeWith y bytes maxL ret hh).before args s = true ∧ (Cond.initialized y.cls).before args s = true ∧ (y.cls ≠ "java/lang/invoke/MethodHandle" ∧ y.cls ≠ "java/lang/invoke/VarHandle") ∧
  (∀ sig, parseMethodDescriptor y.desc = some sig → n = sig.parameters.length) ∧ (Cond.methodLink own index y).before args s = true ∧ (Cond.static y).before args s = true
theorem vx_cwSW {own : String} {index maxL mc ms : Nat} {y : MethodName} {bytes : ByteArray} {ret : Option FieldType} {hh : List (Nat × Nat × Nat × Nat)} {Ts ws ws' : List Cond} {rm : Room} (n : Nat) (ht : ∀ w ∈ Ts, w.before args s = true) (hT : GoodIn Ts (va_wsS own index y ws)) (hw : ws = Cond.codeWith y bytes maxL ret hh :: ws') (hrc : rm.cells = mc) (hrs : rm.slots = ms)
    (hd : y.cls ≠ "java/lang/invoke/MethodHandle" ∧ y.cls ≠ "java/lang/invoke/VarHandle" ∧ (parseMethodDescriptor y.desc).map (fun d => d.parameters.length) = some n) (hR : rm.frames + 1 ≤ R.frames ∧ 8 + (maxL + 11) + rm.locals ≤ R.locals) :
    vx_CSW R s args own index y bytes maxL ret hh ws rm mc ms n := by
  have ok : ∀ w ∈ va_wsS own index y ws, w.before args s = true := fun w h => ht w (hT w h).1
  have hG : GoodIn Ts ws := fun w h => hT w (by unfold va_wsS; exact List.mem_append_right _ h)
  have hc : Cond.codeWith y bytes maxL ret hh ∈ ws := by rw [hw]; exact List.mem_cons_self
  refine ⟨⟨hrc, hrs, hR.1, hR.2, pay_in ht hG, hc⟩, ht _ (hG _ hc).1, ok _ (by simp [va_wsS]), ⟨hd.1, hd.2.1⟩, fun sig h => ?_, ok _ (by simp [va_wsS]), ok _ (by simp [va_wsS])⟩
  have h2 := hd.2.2
  rw [h] at h2
  exact (Option.some.inj h2).symm
theorem vx_callSW (X : Stand p l e R s m args below meth c T locs cells slots) (hexec : p.tables.exec = Jvm.exec) {own : String} {index : Nat} {y : MethodName} {bytes : ByteArray} {maxL : Nat} {ret : Option FieldType} {hh : List (Nat × Nat × Nat × Nat)}
    (hown : s.vm.findClass own = some m.cls) (hlink : (Cond.methodLink own index y).before args s = true) (hstat : (Cond.static y).before args s = true) (hinit : (Cond.initialized y.cls).before args s = true)
    (hcode : (Cond.codeWith y bytes maxL ret hh).before args s = true) (hy : y.cls ≠ "java/lang/invoke/MethodHandle" ∧ y.cls ≠ "java/lang/invoke/VarHandle")
    {W9 : Nat} {Pre : Pt → Array Value → Prop} {Post : Pt → Array Value → Option Value → Pt → Prop} (hK : Back l R p e below s args y 3 W9 Pre Post)
    {g : JFrame} (hg : g.method = m) (hsize : g.locals.size = c.maxLocals) {argsL rest : List Value} (hlen : ∀ sig, parseMethodDescriptor y.desc = some sig → argsL.length = sig.parameters.length)
    (hstack : g.stack = argsL.reverse ++ rest) (hW : 2 * g.monitorRoom + (rest.map fun v => v.category).sum ≤ W9) (hdg : decode c.code g.pc = .ok (.invokestatic index, 3))
    (hpre : ∀ vm₁, s.WarmedH vm₁ → Pre ⟨T.setVm vm₁, locs, cells, slots⟩ argsL.toArray) :
    ∃ (v : Option Value) (vm₁ : Vm) (B : Pt), s.WarmedH vm₁ ∧ Stand p l e R s m args below meth c B.U B.locs B.cells B.slots ∧ Post ⟨T.setVm vm₁, locs, cells, slots⟩ argsL.toArray v B ∧
      ∀ target, Steps p.tables e below (B.U.setTop { g with pc := g.pc + 3, stack := v.toList ++ rest }) target → Steps p.tables e below (T.setTop g) target := by
  obtain ⟨mk, methM, cM, hnamed, hmethM, -, -, -, -, -, -, hsigM⟩ := Cond.codeWith_spec hcode
  have hstatic : methM.isStatic = true := Cond.static_spec hnamed hmethM hstat
  obtain ⟨kP, hkP, -⟩ := className_of_methodNamed hnamed
  have hinitP : kP.init = .initialized := Cond.initialized_spec (findClass_of_methodNamed hnamed) hkP hinit
  obtain ⟨vm₁, X₁, hstep₁⟩ := X.invokestatic hexec hown hlink hnamed hmethM hstatic hkP hinitP hy (g := g) hg (argsL := argsL) (rest := rest) (hlen _ hsigM) hstack hdg
  obtain ⟨v, B, X', hpost, hsteps⟩ := hK m meth c ⟨T.setVm vm₁, locs, cells, slots⟩ { g with stack := rest } (.invokestatic index) mk argsL.toArray X₁ hg hsize hdg hW (X₁.named hnamed) (hpre vm₁ X₁.warmed)
  exact ⟨v, vm₁, B, X₁.warmed, X', hpost, fun target h => hstep₁ _ fun acts => by rw [doInvoke_state]; exact hsteps.trans h⟩
theorem vx_runSW {y : MethodName} {bytes cc : ByteArray} {maxL nL mc ms n index : Nat} {ret : Option FieldType} {hh : List (Nat × Nat × Nat × Nat)} {ws : List Cond} {rm : Room} {Pc : Array Value → State → Prop} {Qc : Array Value → State → Outcome → State → Prop} {free : Addr → Prop} {Ts : List Cond} {own : String} {As rest : List Value} {g : JFrame}
    (S : CallFix p m c cc nL s args Ts own) (hM : Met l y ws rm Pc Qc mc ms free) (cw : vx_CSW R s args own index y bytes maxL ret hh ws rm mc ms n) (hp : PreS s H Pc As)
    (hg : g.method = m) (hn : As.length = n) (hsize : g.locals.size = nL) (hstack : g.stack = As.reverse ++ rest) (hW : 2 * g.monitorRoom + (rest.map fun v => v.category).sum ≤ 8) (hdg : decode cc g.pc = .ok (.invokestatic index, 3)) (hf : cells + mc ≤ R.cells ∧ slots + ms ≤ R.slots) :
    va_Run p l e R s m args below meth c H locs cells slots mc ms g rest (Qc As.toArray) (free) := by
  obtain ⟨⟨hrc, hrs, hfr, hlo, hws, hcw⟩, hcode, hini, hy, hlen, hl, hstt⟩ := cw
  have hK : Back l R p e below s args y 3 8 (PreOf R mc ms Pc) (PostOf Qc mc ms free) := va_backW (hh := hh) (bytes := bytes) (maxL := maxL) (ret := ret) hM hp.1 hrc hrs hfr hlo hws hcw (fun a' U hW => word_at hW (Or.inl (by first | rfl | simp [Cond.onTables, Cond.keeps, Cond.steady])) hini)
  obtain ⟨hx, hb, hml, ho, -⟩ := S
  intro T hT X
  obtain ⟨v, vm₁, ⟨U', l2, c2, s2⟩, hW₁, X', ⟨g', mk, t, L, e1, e2, hq, h1, hL, h2, h3⟩, st⟩ := vx_callSW X hx (hh := hh) (bytes := bytes) (maxL := maxL) (ret := ret) ho hl hstt hini hcode hy hK hg (hsize.trans hml.symm) (argsL := As) (rest := rest) (fun sig h => hn.trans (hlen sig h)) hstack hW (by rw [hb]; exact hdg)
    (fun vm₁ hW₁ => ⟨hf.1, hf.2, hp.2 (T.setVm vm₁) hT hW₁⟩)
  dsimp only [Pt.U, Pt.locs, Pt.cells, Pt.slots] at X' e1 e2 h1 h2 h3 st
  subst h1; subst h2; subst h3
  exact ⟨v, (T.setVm vm₁).calling g' mk As.toArray, t, U', L, hT, X', hL, e1, e2, hq, st⟩
/-- a thing of a world lies in the heap -/
theorem vx_lt {D : va_G} {cl : List vw_C} {ws : va_W} {H1 : Heap} (h : va_P D cl ws H1) {k : Nat} {q : Nat × va_E} (hk : ws[k]? = some q) : q.1 < H1.size := (h k q hk).lt
end VXS
/-! ===== END ===== -/
/-! ===== BEGIN methods with a table of their own: called by a name, returning or throwing ===== -/
section VXH
/-! vx_backW, vx_callVX, vx_callSX, vx_callVW, vx_runVW, vx_runVX, vx_runSX, vx_ofWH follow the same proofs as their sisters above (Free/Laws.lean, Shelf42/LK1.lean); vx_outP calls Shelf42/NT130.lean (outThrough). -/
section
variable {l : Launch} {R : Room} {p : Program} {e : Env} {below : List Frame} {s : State} {sargs : Array Value} {y : MethodName} {len W9 : Nat}
theorem vx_backW {ws : List Cond} {rm : Room} {Pc : Array Value → State → Prop} {Qc : Array Value → State → Outcome → State → Prop} {XC : String → State → State → Prop} {mc ms : Nat} {free : Addr → Prop} {bytes : ByteArray} {maxL : Nat} {ret : Option FieldType} {hh : List (Nat × Nat × Nat × Nat)}
    (hM : vx_Met l y ws rm Pc Qc XC mc ms free) (hblind : FrameBlind Pc) (hrc : rm.cells = mc) (hrs : rm.slots = ms)
    (hframes : rm.frames + 1 ≤ R.frames) (hlocals : W9 + (maxL + 11) + rm.locals ≤ R.locals)
    (hws : ∀ w ∈ ws, ∀ a' U, s.WarmedH U.vm → w.before a' U = true) (hcode : Cond.codeWith y bytes maxL ret hh ∈ ws) (hinit : ∀ a' U, s.WarmedH U.vm → (Cond.initialized y.cls).before a' U = true) :
    vx_Back l R p e below s sargs y len W9 (PreOf R mc ms Pc) (PostOf Qc mc ms free) (vx_Post XC mc ms free) := by
  intro m meth c A g ig mk a X hg hsize hdg hW hn hp
  have h1 : (headSpec ws rm).pre.before a A.U = true := atoms_intro fun w hw => hws w hw _ _ X.warmed
  have h2 : (Cond.codeWith y bytes maxL ret hh).before a A.U = true := hws _ hcode _ _ X.warmed
  have h3 : (Cond.initialized y.cls).before a A.U = true := hinit _ _ X.warmed
  have h4 : A.cells + (headSpec ws rm).room.cells ≤ R.cells := by rw [show (headSpec ws rm).room.cells = mc from hrc]; exact hp.1
  have h5 : A.slots + (headSpec ws rm).room.slots ≤ R.slots := by rw [show (headSpec ws rm).room.slots = ms from hrs]; exact hp.2.1
  have hPc : Pc a (A.U.calling g mk a) := hblind _ _ _ _ hp.2.2
  obtain ⟨U, Ls, c0, s0⟩ := A
  dsimp only [Pt.U, Pt.locs, Pt.cells, Pt.slots] at h1 h2 h3 h4 h5 X hn hPc ⊢
  obtain ⟨m9, methY, cY, hn9, hmY, hcY, -, hlY, -⟩ := Cond.codeWith_spec h2
  cases Option.some.inj (hn9.symm.trans hn)
  obtain ⟨kY, hkY, -⟩ := className_of_methodNamed hn
  have hinitY : kY.init = .initialized := Cond.initialized_spec (findClass_of_methodNamed hn) hkY h3
  have h : At U g.method c below := by rw [hg]; exact X.here
  have hlocals9 : W9 + (maxL + 11) + (headSpec ws rm).room.locals ≤ R.locals := hlocals
  have happ : (headSpec ws rm).appliesLoose y e.platform (U.calling g mk a) = true :=
    Spec.appliesLoose_calling (g := g) h hdg hn hkY hinitY
      (X.room_calling (g := g) (R' := (headSpec ws rm).room) hsize hmY hcY hframes (by rw [hlY]; omega) h4 h5) h1
  obtain ⟨mid, hmid⟩ := h.above
  have hfr : (U.setTop g).frames = (.java g :: mid) ++ below := by rw [State.frames_setTop' g h.top, hmid]; rfl
  obtain ⟨o, s₂, hsteps, -, hend, hq⟩ := Steps.callFree hM p X.admits X.cas X.clock (acts := []) hfr happ hPc trivial
  have hq' : vx_Q Qc XC mc ms free a (U.calling g mk a) o s₂ := hq
  rw [State.frames_setTop' g h.top] at hend
  obtain ⟨g₀, hg0⟩ := Option.isSome_iff_exists.mp h.top
  obtain ⟨r, hr⟩ := State.topJava?_eq_some.mp hg0
  have hr' : (({ U with heap := s₂.heap, slotsUsed := s₂.slotsUsed } : State).setVm s₂.vm).frames = .java g₀ :: r := hr
  rcases hq' with ⟨hqc, L, hfe, hL⟩ | ⟨q, rfl, E, ce, L, hx, hce, hcv, hcl, hW₂, hsm, hL⟩
  · obtain ⟨⟨v, rfl⟩, hW₂, e2, q2, q3, q4, q5, q6⟩ := id hfe
    have e3 : s₂ = ({ (U.calling g mk a).setFrames s₂.frames with heap := s₂.heap, slotsUsed := s₂.slotsUsed } : State).setVm s₂.vm := by
      have : s₂ = ({ s₂ with vm := (U.calling g mk a).vm } : State).setVm s₂.vm := rfl
      rw [e2] at this
      exact this
    obtain ⟨c₂, i₂, len₂, hc₂, hd₂, hf₂⟩ := hend
    have hW' : U.WarmedH s₂.vm := hW₂
    have hcc : c₂ = c := by
      have h1 : s₂.code? g.method = U.code? g.method := by
        rw [State.code?_eq, State.code?_eq, hW'.alike.method?]
      exact Option.some.inj (hc₂.symm.trans (h1.trans h.code))
    subst hcc
    have hlen : len₂ = len := by rw [hdg] at hd₂; cases hd₂; rfl
    subst hlen
    have hs₂ : s₂ = (({ U with heap := s₂.heap, slotsUsed := s₂.slotsUsed } : State).setVm s₂.vm).setTop { g with pc := g.pc + len₂, stack := v.toList ++ g.stack } := by
      refine e3.trans ?_
      rw [hf₂, State.calling_eq h.top, State.setFrames_setFrames, State.setTop_of_frames _ hr', hr]
      rfl
    have hsame : U.sameButNew ({ U with heap := s₂.heap, slotsUsed := s₂.slotsUsed } : State) L mc ms := by
      refine ⟨?_, q2, q3, q4, q5, q6⟩
      obtain ⟨t, ht, -⟩ := State.frames_cons hr
      show ({ U with heap := s₂.heap, slotsUsed := s₂.slotsUsed } : State) = { U.setFrames U.frames with heap := s₂.heap, slotsUsed := s₂.slotsUsed }
      rw [State.setFrames_self ht]
    subst hg
    refine Or.inl ⟨v, ⟨(({ U with heap := s₂.heap, slotsUsed := s₂.slotsUsed } : State).setVm s₂.vm), Ls ++ L, c0 + mc, s0 + ms⟩,
      ⟨X.admits, X.cas, X.clock, X.frames, X.room, X.hears, X.method, X.code, (X.here.setHeapUsed s₂.heap s₂.slotsUsed).setVm hW'.alike, X.tail, State.WarmedH.trans X.warmed hW', X.limits, X.bytes, X.same.trans (hsame.setVm s.vm)⟩,
      ⟨g, mk, s₂, L, rfl, rfl, hqc, rfl, hL, rfl, rfl⟩, ?_⟩
    show Steps p.tables e below _ ((({ U with heap := s₂.heap, slotsUsed := s₂.slotsUsed } : State).setVm s₂.vm).setTop { g with pc := g.pc + len₂, stack := v.toList ++ g.stack })
    rw [← hs₂]
    exact hsteps
  · obtain ⟨e2, q2, q3, q4, q5, q6⟩ := id hsm
    have e3 : s₂ = ({ (U.calling g mk a).setFrames s₂.frames with heap := s₂.heap, slotsUsed := s₂.slotsUsed } : State).setVm s₂.vm := by
      have : s₂ = ({ s₂ with vm := (U.calling g mk a).vm } : State).setVm s₂.vm := rfl
      rw [e2] at this
      exact this
    have hf₂ : s₂.frames = .throwing q :: .java g :: U.frames.tail := hend
    have hW' : U.WarmedH s₂.vm := hW₂
    have hs₂ : s₂ = ((({ U with heap := s₂.heap, slotsUsed := s₂.slotsUsed } : State).setVm s₂.vm).setTop g).pushFrame (.throwing q) := by
      refine e3.trans ?_
      rw [hf₂, State.calling_eq h.top, State.setFrames_setFrames, State.pushFrame, State.frames_setTop _ hr', State.setTop_of_frames _ hr', State.setFrames_setFrames, hr]
      rfl
    have hsame : U.sameButNew ({ U with heap := s₂.heap, slotsUsed := s₂.slotsUsed } : State) L mc ms := by
      refine ⟨?_, q2, q3, q4, q5, q6⟩
      obtain ⟨t, ht, -⟩ := State.frames_cons hr
      show ({ U with heap := s₂.heap, slotsUsed := s₂.slotsUsed } : State) = { U.setFrames U.frames with heap := s₂.heap, slotsUsed := s₂.slotsUsed }
      rw [State.setFrames_self ht]
    subst hg
    refine Or.inr ⟨q, ⟨(({ U with heap := s₂.heap, slotsUsed := s₂.slotsUsed } : State).setVm s₂.vm), Ls ++ L, c0 + mc, s0 + ms⟩,
      ⟨X.admits, X.cas, X.clock, X.frames, X.room, X.hears, X.method, X.code, (X.here.setHeapUsed s₂.heap s₂.slotsUsed).setVm hW'.alike, X.tail, State.WarmedH.trans X.warmed hW', X.limits, X.bytes, X.same.trans (hsame.setVm s.vm)⟩,
      ⟨g, mk, s₂, L, E, ce, rfl, rfl, hx, hce, hcv, hcl, rfl, hL, rfl, rfl⟩, ?_⟩
    show Steps p.tables e below _ (((({ U with heap := s₂.heap, slotsUsed := s₂.slotsUsed } : State).setVm s₂.vm).setTop g).pushFrame (.throwing q))
    rw [← hs₂]
    exact hsteps
end
variable {p : Program} {l : Launch} {e : Env} {R : Room} {s : State} {m : MethodId} {args : Array Value} {below : List Frame} {meth : Method} {c : Code} {T : State} {H : Heap} {locs : List Loc} {cells slots : Nat}
theorem vx_callVX (X : Stand p l e R s m args below meth c T locs cells slots) (hexec : p.tables.exec = Jvm.exec) {own C : String} {index : Nat} {y : MethodName} {bytes : ByteArray} {maxL : Nat} {ret : Option FieldType} {hh : List (Nat × Nat × Nat × Nat)}
    (hown : s.vm.findClass own = some m.cls) (hlink : (Cond.methodLink own index y).before args s = true) (hinst : (Cond.instanceMethod y).before args s = true) (hsel : (Cond.selects C y y).before args s = true)
    (hcode : (Cond.codeWith y bytes maxL ret hh).before args s = true) (hy : y.cls ≠ "java/lang/invoke/MethodHandle" ∧ y.cls ≠ "java/lang/invoke/VarHandle")
    {W9 : Nat} {Pre : Pt → Array Value → Prop} {Post : Pt → Array Value → Option Value → Pt → Prop} {PostX : Pt → Array Value → Addr → Pt → Prop} (hK : vx_Back l R p e below s args y 3 W9 Pre Post PostX)
    {b : Addr} {cellB : Cell} (hcell : T.heap[b]? = some cellB) (hobj : cellB.vm.isStatics = false) (hcls : s.vm.findClass C = some cellB.cls)
    {g : JFrame} (hg : g.method = m) (hsize : g.locals.size = c.maxLocals) {argsL rest : List Value} (hlen : ∀ sig, parseMethodDescriptor y.desc = some sig → argsL.length = sig.parameters.length)
    (hstack : g.stack = argsL.reverse ++ .ref b :: rest) (hW : 2 * g.monitorRoom + (rest.map fun v => v.category).sum ≤ W9) (hdg : decode c.code g.pc = .ok (.invokevirtual index, 3))
    (hpre : ∀ vm₁, s.WarmedH vm₁ → Pre ⟨T.setVm vm₁, locs, cells, slots⟩ (Value.ref b :: argsL).toArray) :
    (∃ (v : Option Value) (vm₁ : Vm) (B : Pt), s.WarmedH vm₁ ∧ Stand p l e R s m args below meth c B.U B.locs B.cells B.slots ∧ Post ⟨T.setVm vm₁, locs, cells, slots⟩ (Value.ref b :: argsL).toArray v B ∧
      ∀ target, Steps p.tables e below (B.U.setTop { g with pc := g.pc + 3, stack := v.toList ++ rest }) target → Steps p.tables e below (T.setTop g) target) ∨
    (∃ (q : Addr) (vm₁ : Vm) (B : Pt), s.WarmedH vm₁ ∧ Stand p l e R s m args below meth c B.U B.locs B.cells B.slots ∧ PostX ⟨T.setVm vm₁, locs, cells, slots⟩ (Value.ref b :: argsL).toArray q B ∧
      Steps p.tables e below (T.setTop g) ((B.U.setTop { g with stack := rest }).pushFrame (.throwing q))) := by
  obtain ⟨mk, methM, hnamed, hmethM, hstM, habM⟩ := Cond.instanceMethod_spec hinst
  obtain ⟨m8, methM', cM, hn8, hmethM', -, -, -, -, -, -, hsigM⟩ := Cond.codeWith_spec hcode
  cases Option.some.inj (hn8.symm.trans hnamed)
  cases hmethM.symm.trans hmethM'
  obtain ⟨c2, r2, m2, q1, q2, q3, q4, kP, hkP, hkPi⟩ := Cond.selects_spec hsel
  cases hcls.symm.trans q1
  cases (State.methodFound?_of_named hnamed hy).symm.trans q2
  cases hnamed.symm.trans q3
  have hselP : selectMethod e.platform s.vm cellB.cls mk = .method mk := by rw [Launch.admits_selectMethod X.admits]; exact q4
  obtain ⟨vm₁, X₁, hstep₁⟩ := X.invokevirtual hexec hown hlink hnamed hmethM hstM hkP hkPi hy (a := b) (cell := cellB) hcell
    (fun z h => by rw [h] at hobj; cases hobj) hselP hmethM habM hkP hkPi (g := g) hg (argsL := argsL) (rest := rest) (hlen _ hsigM) hstack hdg
  rcases hK m meth c ⟨T.setVm vm₁, locs, cells, slots⟩ { g with stack := rest } (.invokevirtual index) mk (Value.ref b :: argsL).toArray X₁ hg hsize hdg hW (X₁.named hnamed) (hpre vm₁ X₁.warmed) with ⟨v, B, X', hpost, hsteps⟩ | ⟨q, B, X', hpost, hsteps⟩
  · exact Or.inl ⟨v, vm₁, B, X₁.warmed, X', hpost, fun target h => hstep₁ _ fun acts => by rw [doInvoke_state]; exact hsteps.trans h⟩
  · exact Or.inr ⟨q, vm₁, B, X₁.warmed, X', hpost, hstep₁ _ fun acts => by rw [doInvoke_state]; exact hsteps⟩
theorem vx_callSX (X : Stand p l e R s m args below meth c T locs cells slots) (hexec : p.tables.exec = Jvm.exec) {own : String} {index : Nat} {y : MethodName} {bytes : ByteArray} {maxL : Nat} {ret : Option FieldType} {hh : List (Nat × Nat × Nat × Nat)}
    (hown : s.vm.findClass own = some m.cls) (hlink : (Cond.methodLink own index y).before args s = true) (hstat : (Cond.static y).before args s = true) (hinit : (Cond.initialized y.cls).before args s = true)
    (hcode : (Cond.codeWith y bytes maxL ret hh).before args s = true) (hy : y.cls ≠ "java/lang/invoke/MethodHandle" ∧ y.cls ≠ "java/lang/invoke/VarHandle")
    {W9 : Nat} {Pre : Pt → Array Value → Prop} {Post : Pt → Array Value → Option Value → Pt → Prop} {PostX : Pt → Array Value → Addr → Pt → Prop} (hK : vx_Back l R p e below s args y 3 W9 Pre Post PostX)
    {g : JFrame} (hg : g.method = m) (hsize : g.locals.size = c.maxLocals) {argsL rest : List Value} (hlen : ∀ sig, parseMethodDescriptor y.desc = some sig → argsL.length = sig.parameters.length)
    (hstack : g.stack = argsL.reverse ++ rest) (hW : 2 * g.monitorRoom + (rest.map fun v => v.category).sum ≤ W9) (hdg : decode c.code g.pc = .ok (.invokestatic index, 3))
    (hpre : ∀ vm₁, s.WarmedH vm₁ → Pre ⟨T.setVm vm₁, locs, cells, slots⟩ argsL.toArray) :
    (∃ (v : Option Value) (vm₁ : Vm) (B : Pt), s.WarmedH vm₁ ∧ Stand p l e R s m args below meth c B.U B.locs B.cells B.slots ∧ Post ⟨T.setVm vm₁, locs, cells, slots⟩ argsL.toArray v B ∧
      ∀ target, Steps p.tables e below (B.U.setTop { g with pc := g.pc + 3, stack := v.toList ++ rest }) target → Steps p.tables e below (T.setTop g) target) ∨
    (∃ (q : Addr) (vm₁ : Vm) (B : Pt), s.WarmedH vm₁ ∧ Stand p l e R s m args below meth c B.U B.locs B.cells B.slots ∧ PostX ⟨T.setVm vm₁, locs, cells, slots⟩ argsL.toArray q B ∧
      Steps p.tables e below (T.setTop g) ((B.U.setTop { g with stack := rest }).pushFrame (.throwing q))) := by
  obtain ⟨mk, methM, cM, hnamed, hmethM, -, -, -, -, -, -, hsigM⟩ := Cond.codeWith_spec hcode
  have hstatic : methM.isStatic = true := Cond.static_spec hnamed hmethM hstat
  obtain ⟨kP, hkP, -⟩ := className_of_methodNamed hnamed
  have hinitP : kP.init = .initialized := Cond.initialized_spec (findClass_of_methodNamed hnamed) hkP hinit
  obtain ⟨vm₁, X₁, hstep₁⟩ := X.invokestatic hexec hown hlink hnamed hmethM hstatic hkP hinitP hy (g := g) hg (argsL := argsL) (rest := rest) (hlen _ hsigM) hstack hdg
  rcases hK m meth c ⟨T.setVm vm₁, locs, cells, slots⟩ { g with stack := rest } (.invokestatic index) mk argsL.toArray X₁ hg hsize hdg hW (X₁.named hnamed) (hpre vm₁ X₁.warmed) with ⟨v, B, X', hpost, hsteps⟩ | ⟨q, B, X', hpost, hsteps⟩
  · exact Or.inl ⟨v, vm₁, B, X₁.warmed, X', hpost, fun target h => hstep₁ _ fun acts => by rw [doInvoke_state]; exact hsteps.trans h⟩
  · exact Or.inr ⟨q, vm₁, B, X₁.warmed, X', hpost, hstep₁ _ fun acts => by rw [doInvoke_state]; exact hsteps⟩
theorem vx_callVW (X : Stand p l e R s m args below meth c T locs cells slots) (hexec : p.tables.exec = Jvm.exec) {own C : String} {index : Nat} {y : MethodName} {bytes : ByteArray} {maxL : Nat} {ret : Option FieldType} {hh : List (Nat × Nat × Nat × Nat)}
    (hown : s.vm.findClass own = some m.cls) (hlink : (Cond.methodLink own index y).before args s = true) (hinst : (Cond.instanceMethod y).before args s = true) (hsel : (Cond.selects C y y).before args s = true)
    (hcode : (Cond.codeWith y bytes maxL ret hh).before args s = true) (hy : y.cls ≠ "java/lang/invoke/MethodHandle" ∧ y.cls ≠ "java/lang/invoke/VarHandle")
    {W9 : Nat} {Pre : Pt → Array Value → Prop} {Post : Pt → Array Value → Option Value → Pt → Prop} (hK : Back l R p e below s args y 3 W9 Pre Post)
    {b : Addr} {cellB : Cell} (hcell : T.heap[b]? = some cellB) (hobj : cellB.vm.isStatics = false) (hcls : s.vm.findClass C = some cellB.cls)
    {g : JFrame} (hg : g.method = m) (hsize : g.locals.size = c.maxLocals) {argsL rest : List Value} (hlen : ∀ sig, parseMethodDescriptor y.desc = some sig → argsL.length = sig.parameters.length)
    (hstack : g.stack = argsL.reverse ++ .ref b :: rest) (hW : 2 * g.monitorRoom + (rest.map fun v => v.category).sum ≤ W9) (hdg : decode c.code g.pc = .ok (.invokevirtual index, 3))
    (hpre : ∀ vm₁, s.WarmedH vm₁ → Pre ⟨T.setVm vm₁, locs, cells, slots⟩ (Value.ref b :: argsL).toArray) :
    ∃ (v : Option Value) (vm₁ : Vm) (B : Pt), s.WarmedH vm₁ ∧ Stand p l e R s m args below meth c B.U B.locs B.cells B.slots ∧ Post ⟨T.setVm vm₁, locs, cells, slots⟩ (Value.ref b :: argsL).toArray v B ∧
      ∀ target, Steps p.tables e below (B.U.setTop { g with pc := g.pc + 3, stack := v.toList ++ rest }) target → Steps p.tables e below (T.setTop g) target := by
  obtain ⟨mk, methM, hnamed, hmethM, hstM, habM⟩ := Cond.instanceMethod_spec hinst
  obtain ⟨m8, methM', cM, hn8, hmethM', -, -, -, -, -, -, hsigM⟩ := Cond.codeWith_spec hcode
  cases Option.some.inj (hn8.symm.trans hnamed)
  cases hmethM.symm.trans hmethM'
  obtain ⟨c2, r2, m2, q1, q2, q3, q4, kP, hkP, hkPi⟩ := Cond.selects_spec hsel
  cases hcls.symm.trans q1
  cases (State.methodFound?_of_named hnamed hy).symm.trans q2
  cases hnamed.symm.trans q3
  have hselP : selectMethod e.platform s.vm cellB.cls mk = .method mk := by rw [Launch.admits_selectMethod X.admits]; exact q4
  obtain ⟨vm₁, X₁, hstep₁⟩ := X.invokevirtual hexec hown hlink hnamed hmethM hstM hkP hkPi hy (a := b) (cell := cellB) hcell
    (fun z h => by rw [h] at hobj; cases hobj) hselP hmethM habM hkP hkPi (g := g) hg (argsL := argsL) (rest := rest) (hlen _ hsigM) hstack hdg
  obtain ⟨v, B, X', hpost, hsteps⟩ := hK m meth c ⟨T.setVm vm₁, locs, cells, slots⟩ { g with stack := rest } (.invokevirtual index) mk (Value.ref b :: argsL).toArray X₁ hg hsize hdg hW (X₁.named hnamed) (hpre vm₁ X₁.warmed)
  exact ⟨v, vm₁, B, X₁.warmed, X', hpost, fun target h => hstep₁ _ fun acts => by rw [doInvoke_state]; exact hsteps.trans h⟩
abbrev vx_CVW (R : Room) (s : State) (args : Array Value) (own C : String) (index : Nat) (y : MethodName) (bytes : ByteArray) (maxL : Nat) (ret : Option FieldType) (hh : List (Nat × Nat × Nat × Nat)) (ws : List Cond) (rm : Room) (mc ms n : Nat) : Prop :=
  (rm.cells = mc ∧ rm.slots = ms ∧ rm.frames + 1 ≤ R.frames ∧ 8 + (maxL + 11) + rm.locals ≤ R.locals ∧ (∀ w ∈ ws, ∀ (a' : Array Value) (U : State), s.WarmedH U.vm → w.before a' U = true) ∧ Cond.codeWith y bytes maxL ret hh ∈ ws) ∧
  (Cond.codeWith y bytes maxL ret hh).before args s = true ∧ (Cond.initialized y.cls).before args s = true ∧ (y.cls ≠ "java/lang/invoke/MethodHandle" ∧ y.cls ≠ "java/lang/invoke/VarHandle") ∧
  (∀ sig, parseMethodDescriptor y.desc = some sig → n = sig.parameters.length) ∧ (Cond.methodLink own index y).before args s = true ∧ (Cond.instanceMethod y).before args s = true ∧ (Cond.selects C y y).before args s = true
theorem vx_cwVW {own C : String} {index maxL mc ms : Nat} {y : MethodName} {bytes : ByteArray} {ret : Option FieldType} {hh : List (Nat × Nat × Nat × Nat)} {Ts ws ws' : List Cond} {rm : Room} (n : Nat) (ht : ∀ w ∈ Ts, w.before args s = true) (hT : GoodIn Ts (wsV own index C y ws)) (hw : ws = Cond.codeWith y bytes maxL ret hh :: ws') (hrc : rm.cells = mc) (hrs : rm.slots = ms)
    (hd : y.cls = C ∧ y.cls ≠ "java/lang/invoke/MethodHandle" ∧ y.cls ≠ "java/lang/invoke/VarHandle" ∧ (parseMethodDescriptor y.desc).map (fun d => d.parameters.length) = some n) (hR : rm.frames + 1 ≤ R.frames ∧ 8 + (maxL + 11) + rm.locals ≤ R.locals) :
    vx_CVW R s args own C index y bytes maxL ret hh ws rm mc ms n := by
  obtain ⟨hC, hd⟩ := hd
  subst hC
  have ok : ∀ w ∈ wsV own index y.cls y ws, w.before args s = true := fun w h => ht w (hT w h).1
  have hG : GoodIn Ts ws := fun w h => hT w (by unfold wsV; exact List.mem_append_right _ h)
  have hc : Cond.codeWith y bytes maxL ret hh ∈ ws := by rw [hw]; exact List.mem_cons_self
  refine ⟨⟨hrc, hrs, hR.1, hR.2, pay_in ht hG, hc⟩, ht _ (hG _ hc).1, ok _ (by simp [wsV]), ⟨hd.1, hd.2.1⟩, fun sig h => ?_, ok _ (by simp [wsV]), ok _ (by simp [wsV]), ok _ (by simp [wsV])⟩
  have h2 := hd.2.2
  rw [h] at h2
  exact (Option.some.inj h2).symm
theorem vx_runVW {y : MethodName} {bytes cc : ByteArray} {maxL nL mc ms n index : Nat} {ret : Option FieldType} {hh : List (Nat × Nat × Nat × Nat)} {ws : List Cond} {rm : Room} {Pc : Array Value → State → Prop} {Qc : Array Value → State → Outcome → State → Prop} {free : Addr → Prop} {Ts : List Cond} {own C : String} {b : Addr} {As rest : List Value} {g : JFrame}
    (S : CallFix p m c cc nL s args Ts own) (hM : Met l y ws rm Pc Qc mc ms free) (cw : vx_CVW R s args own C index y bytes maxL ret hh ws rm mc ms n) (hp : PreV s H C b Pc As)
    (hg : g.method = m) (hn : As.length = n) (hsize : g.locals.size = nL) (hstack : g.stack = As.reverse ++ .ref b :: rest) (hW : 2 * g.monitorRoom + (rest.map fun v => v.category).sum ≤ 8) (hdg : decode cc g.pc = .ok (.invokevirtual index, 3)) (hf : cells + mc ≤ R.cells ∧ slots + ms ≤ R.slots) :
    va_Run p l e R s m args below meth c H locs cells slots mc ms g rest (Qc (Value.ref b :: As).toArray) free := by
  obtain ⟨⟨hrc, hrs, hfr, hlo, hws, hcw⟩, hcode, hini, hy, hlen, hl, hin, hse⟩ := cw
  have hK : Back l R p e below s args y 3 8 (PreOf R mc ms Pc) (PostOf Qc mc ms free) := va_backW (hh := hh) (bytes := bytes) (maxL := maxL) (ret := ret) hM hp.1 hrc hrs hfr hlo hws hcw (fun a' U hW => word_at hW (Or.inl (by first | rfl | simp [Cond.onTables, Cond.keeps, Cond.steady])) hini)
  obtain ⟨hx, hb, hml, ho, -⟩ := S
  obtain ⟨-, ⟨cellB, hcB, hoB, hclB⟩, hPc⟩ := hp
  intro T hT X
  obtain ⟨v, vm₁, ⟨U', l2, c2, s2⟩, hW₁, X', ⟨g', mk, t, L, e1, e2, hq, h1, hL, h2, h3⟩, st⟩ := vx_callVW X hx (C := C) (hh := hh) (bytes := bytes) (maxL := maxL) (ret := ret) ho hl hin hse hcode hy hK (by rw [hT]; exact hcB) hoB hclB hg (hsize.trans hml.symm) (argsL := As) (rest := rest) (fun sig h => hn.trans (hlen sig h)) hstack hW (by rw [hb]; exact hdg)
    (fun vm₁ hW₁ => ⟨hf.1, hf.2, hPc (T.setVm vm₁) hT hW₁⟩)
  dsimp only [Pt.U, Pt.locs, Pt.cells, Pt.slots] at X' e1 e2 h1 h2 h3 st
  subst h1; subst h2; subst h3
  exact ⟨v, (T.setVm vm₁).calling g' mk (Value.ref b :: As).toArray, t, U', L, hT, X', hL, e1, e2, hq, st⟩
section
variable {y : MethodName} {bytes cc : ByteArray} {maxL nL mc ms n index : Nat} {ret : Option FieldType} {ws : List Cond} {rm : Room} {Pc : Array Value → State → Prop} {Qc : Array Value → State → Outcome → State → Prop} {XC : String → State → State → Prop} {free : Addr → Prop} {Ts : List Cond} {own C : String} {b : Addr} {As rest : List Value} {g : JFrame}
theorem vx_runVX {hh : List (Nat × Nat × Nat × Nat)} (S : CallFix p m c cc nL s args Ts own) (hM : vx_Met l y ws rm Pc Qc XC mc ms free) (cw : vx_CVW R s args own C index y bytes maxL ret hh ws rm mc ms n) (hp : PreV s H C b Pc As)
    (hg : g.method = m) (hn : As.length = n) (hsize : g.locals.size = nL) (hstack : g.stack = As.reverse ++ .ref b :: rest) (hW : 2 * g.monitorRoom + (rest.map fun v => v.category).sum ≤ 8) (hdg : decode cc g.pc = .ok (.invokevirtual index, 3)) (hf : cells + mc ≤ R.cells ∧ slots + ms ≤ R.slots) :
    vx_Run p l e R s m args below meth c H locs cells slots mc ms g rest (Qc (Value.ref b :: As).toArray) XC free := by
  obtain ⟨⟨hrc, hrs, hfr, hlo, hws, hcw⟩, hcode, hini, hy, hlen, hl, hin, hse⟩ := cw
  have hK : vx_Back l R p e below s args y 3 8 (PreOf R mc ms Pc) (PostOf Qc mc ms free) (vx_Post XC mc ms free) := vx_backW (hh := hh) (bytes := bytes) (maxL := maxL) (ret := ret) hM hp.1 hrc hrs hfr hlo hws hcw (fun a' U hW => word_at hW (Or.inl (by first | rfl | simp [Cond.onTables, Cond.keeps, Cond.steady])) hini)
  obtain ⟨hx, hb, hml, ho, -⟩ := S
  obtain ⟨-, ⟨cellB, hcB, hoB, hclB⟩, hPc⟩ := hp
  intro T hT X
  rcases vx_callVX X hx (C := C) (hh := hh) (bytes := bytes) (maxL := maxL) (ret := ret) ho hl hin hse hcode hy hK (by rw [hT]; exact hcB) hoB hclB hg (hsize.trans hml.symm) (argsL := As) (rest := rest) (fun sig h => hn.trans (hlen sig h)) hstack hW (by rw [hb]; exact hdg)
    (fun vm₁ hW₁ => ⟨hf.1, hf.2, hPc (T.setVm vm₁) hT hW₁⟩) with ⟨v, vm₁, ⟨U', l2, c2, s2⟩, hW₁, X', ⟨g', mk, t, L, e1, e2, hq, h1, hL, h2, h3⟩, st⟩ | ⟨q, vm₁, ⟨U', l2, c2, s2⟩, hW₁, X', ⟨g', mk, t, L, E, ce, e1, e2, hq, hce, hcv, hcl, h1, hL, h2, h3⟩, st⟩
  · dsimp only [Pt.U, Pt.locs, Pt.cells, Pt.slots] at X' e1 e2 h1 h2 h3 st
    subst h1; subst h2; subst h3
    exact Or.inl ⟨v, (T.setVm vm₁).calling g' mk (Value.ref b :: As).toArray, t, U', L, hT, X', hL, e1, e2, hq, st⟩
  · dsimp only [Pt.U, Pt.locs, Pt.cells, Pt.slots] at X' e1 e2 h1 h2 h3 st hcl
    subst h1; subst h2; subst h3
    exact Or.inr ⟨q, (T.setVm vm₁).calling g' mk (Value.ref b :: As).toArray, t, U', L, E, ce, hT, X', hL, e1, e2, hq, hce, hcv, vx_cls hW₁ hcl, st⟩
theorem vx_runSX {hh : List (Nat × Nat × Nat × Nat)} (S : CallFix p m c cc nL s args Ts own) (hM : vx_Met l y ws rm Pc Qc XC mc ms free) (cw : vx_CSW R s args own index y bytes maxL ret hh ws rm mc ms n) (hp : PreS s H Pc As)
    (hg : g.method = m) (hn : As.length = n) (hsize : g.locals.size = nL) (hstack : g.stack = As.reverse ++ rest) (hW : 2 * g.monitorRoom + (rest.map fun v => v.category).sum ≤ 8) (hdg : decode cc g.pc = .ok (.invokestatic index, 3)) (hf : cells + mc ≤ R.cells ∧ slots + ms ≤ R.slots) :
    vx_Run p l e R s m args below meth c H locs cells slots mc ms g rest (Qc As.toArray) XC free := by
  obtain ⟨⟨hrc, hrs, hfr, hlo, hws, hcw⟩, hcode, hini, hy, hlen, hl, hstt⟩ := cw
  have hK : vx_Back l R p e below s args y 3 8 (PreOf R mc ms Pc) (PostOf Qc mc ms free) (vx_Post XC mc ms free) := vx_backW (hh := hh) (bytes := bytes) (maxL := maxL) (ret := ret) hM hp.1 hrc hrs hfr hlo hws hcw (fun a' U hW => word_at hW (Or.inl (by first | rfl | simp [Cond.onTables, Cond.keeps, Cond.steady])) hini)
  obtain ⟨hx, hb, hml, ho, -⟩ := S
  intro T hT X
  rcases vx_callSX X hx (hh := hh) (bytes := bytes) (maxL := maxL) (ret := ret) ho hl hstt hini hcode hy hK hg (hsize.trans hml.symm) (argsL := As) (rest := rest) (fun sig h => hn.trans (hlen sig h)) hstack hW (by rw [hb]; exact hdg)
    (fun vm₁ hW₁ => ⟨hf.1, hf.2, hp.2 (T.setVm vm₁) hT hW₁⟩) with ⟨v, vm₁, ⟨U', l2, c2, s2⟩, hW₁, X', ⟨g', mk, t, L, e1, e2, hq, h1, hL, h2, h3⟩, st⟩ | ⟨q, vm₁, ⟨U', l2, c2, s2⟩, hW₁, X', ⟨g', mk, t, L, E, ce, e1, e2, hq, hce, hcv, hcl, h1, hL, h2, h3⟩, st⟩
  · dsimp only [Pt.U, Pt.locs, Pt.cells, Pt.slots] at X' e1 e2 h1 h2 h3 st
    subst h1; subst h2; subst h3
    exact Or.inl ⟨v, (T.setVm vm₁).calling g' mk As.toArray, t, U', L, hT, X', hL, e1, e2, hq, st⟩
  · dsimp only [Pt.U, Pt.locs, Pt.cells, Pt.slots] at X' e1 e2 h1 h2 h3 st hcl
    subst h1; subst h2; subst h3
    exact Or.inr ⟨q, (T.setVm vm₁).calling g' mk As.toArray, t, U', L, E, ce, hT, X', hL, e1, e2, hq, hce, hcv, vx_cls hW₁ hcl, st⟩
end
end VXH
theorem vx_ofWH {l : Launch} {y : MethodName} {ws ws' : List Cond} {rm : Room} {Pc : Array Value → State → Prop} {Qc : Array Value → State → Outcome → State → Prop} {XC : String → State → State → Prop} {mc ms : Nat} {free : Addr → Prop} {cc : ByteArray} {maxL : Nat} {ret : Option FieldType} {hh : List (Nat × Nat × Nat × Nat)}
    (hy : plainName y.cls = true) (hw : ws = Cond.codeWith y cc maxL ret hh :: ws')
    (body : ∀ p e s m args below meth c s₁, BodyLoose p l y (headSpec ws rm) cc maxL ret e s m args below meth c s₁ → c.maxLocals = maxL → Pc args s →
      W p l e (headSpec ws rm).room s m args below meth c s.heap [] 0 0 (vx_MQ below Qc XC args s mc ms free) (entryFrame m args maxL)) : vx_Met l y ws rm Pc Qc XC mc ms free := by
  refine MetFree.of_bodyS (code := cc) (maxLocals := maxL) (ret := ret) hy ?_ ?_
  · intro args s m h hn
    obtain ⟨m9, meth, c, hn9, h1, h2, h3, h4, -, h5, h6, -⟩ := Cond.codeWith_spec (atoms_spec (ws := ws) h _ (by rw [hw]; exact List.mem_cons_self))
    cases hn.symm.trans hn9
    exact ⟨meth, c, h1, h2, h3, h4, h5, h6⟩
  · intro p e s m args below meth c s₁ B hml hP _
    have hh0 : s₁.heap = s.heap := by rw [B.state]; rfl
    obtain ⟨t, a1, o, b1, b2, b3⟩ := body p e s m args below meth c s₁ B hml hP s₁ hh0 (Stand.of_body B)
    exact ⟨t, o, a1, b1, b2, b3⟩
/-! ===== END ===== -/
end
section
def RX0 : String := "QuiltDesk$Cutting"
def TX0 : u_T := fun k => match k with
  | 0 => ("QuiltDesk$Cutting", "heldCloth", "I", false)
  | 1 => ("QuiltDesk$Cutting", "cuts", "I", false)
  | 2 => ("QuiltDesk$Cutting", "lengths", "[I", true)
  | 3 => ("QuiltDesk$Cutting", "heights", "[I", true)
  | 4 => ("QuiltDesk$Cutting", "kinds", "[I", true)
  | 5 => ("QuiltDesk$Cutting", "halvesLeft", "[I", true)
  | 6 => ("QuiltDesk$Cutting", "order", "[I", true)
  | 7 => ("QuiltDesk$Cutting", "merged", "[I", true)
  | 8 => ("QuiltDesk$Cutting", "strips", "[I", true)
  | 9 => ("QuiltDesk$Cutting", "begins", "[I", true)
  | 10 => ("QuiltDesk$Cutting", "usedLengths", "[I", true)
  | 11 => ("QuiltDesk$Cutting", "stripsUsed", "I", false)
  | _ => ("QuiltDesk$Cutting", "stripHeights", "I", false)
def tyX0 : Nat → FieldType := fun k => match k with
  | 0 => .int
  | 1 => .int
  | 2 => .array .int
  | 3 => .array .int
  | 4 => .array .int
  | 5 => .array .int
  | 6 => .array .int
  | 7 => .array .int
  | 8 => .array .int
  | 9 => .array .int
  | 10 => .array .int
  | 11 => .int
  | _ => .int
abbrev wsX00 : List Cond := u_ws RX0 TX0 13
theorem nmX0 : ∀ a, a < 13 → ∀ b, b < 13 → a ≠ b → (TX0 a).2.1 ≠ (TX0 b).2.1 := by decide +kernel
theorem tyX0_ok : ∀ k, k < 13 → parseFieldDescriptor (TX0 k).2.2.1 = some (tyX0 k) := by decide +kernel
abbrev cX0_init : ByteArray := prog_2_method_1_code
def yX0_init : MethodName := ⟨RX0, "<init>", "()V"⟩
abbrev cX0_forget : ByteArray := prog_2_method_2_code
def yX0_forget : MethodName := ⟨RX0, "forget", "()V"⟩
abbrev cX0_fact : ByteArray := prog_2_method_3_code
def yX0_fact : MethodName := ⟨RX0, "fact", "(II)I"⟩
abbrev cX0_layAll : ByteArray := prog_2_method_4_code
def yX0_layAll : MethodName := ⟨RX0, "layAll", "(LQuiltDesk$Top;I)V"⟩
abbrev cX0_gather : ByteArray := prog_2_method_5_code
def yX0_gather : MethodName := ⟨RX0, "gather", "(LQuiltDesk$Top;I)V"⟩
abbrev cX0_gatherPatches : ByteArray := prog_2_method_6_code
def yX0_gatherPatches : MethodName := ⟨RX0, "gatherPatches", "(LQuiltDesk$Drawing;I)V"⟩
abbrev cX0_gatherHalf : ByteArray := prog_2_method_7_code
def yX0_gatherHalf : MethodName := ⟨RX0, "gatherHalf", "(I)V"⟩
abbrev cX0_gatherSashes : ByteArray := prog_2_method_8_code
def yX0_gatherSashes : MethodName := ⟨RX0, "gatherSashes", "(LQuiltDesk$Top;II)V"⟩
abbrev cX0_gatherBorder : ByteArray := prog_2_method_9_code
def yX0_gatherBorder : MethodName := ⟨RX0, "gatherBorder", "(LQuiltDesk$Top;II)V"⟩
abbrev cX0_gatherPieces : ByteArray := prog_2_method_10_code
def yX0_gatherPieces : MethodName := ⟨RX0, "gatherPieces", "(IIII)V"⟩
abbrev cX0_gatherCut : ByteArray := prog_2_method_11_code
def yX0_gatherCut : MethodName := ⟨RX0, "gatherCut", "(III)V"⟩
abbrev cX0_sort : ByteArray := prog_2_method_12_code
def yX0_sort : MethodName := ⟨RX0, "sort", "()V"⟩
abbrev cX0_merge : ByteArray := prog_2_method_13_code
def yX0_merge : MethodName := ⟨RX0, "merge", "(III)V"⟩
abbrev cX0_goesBefore : ByteArray := prog_2_method_14_code
def yX0_goesBefore : MethodName := ⟨RX0, "goesBefore", "(II)Z"⟩
abbrev cX0_layInOrder : ByteArray := prog_2_method_15_code
def yX0_layInOrder : MethodName := ⟨RX0, "layInOrder", "()V"⟩
abbrev cX0_stripFor : ByteArray := prog_2_method_16_code
def yX0_stripFor : MethodName := ⟨RX0, "stripFor", "(I)I"⟩
def RX1 : String := "QuiltDesk$Drawing"
def TX1 : u_T := fun k => match k with
  | 0 => ("QuiltDesk$Drawing", "xs", "[I", true)
  | 1 => ("QuiltDesk$Drawing", "ys", "[I", true)
  | 2 => ("QuiltDesk$Drawing", "corners", "[I", true)
  | _ => ("QuiltDesk$Drawing", "cloths", "[I", true)
def tyX1 : Nat → FieldType := fun k => match k with
  | 0 => .array .int
  | 1 => .array .int
  | 2 => .array .int
  | _ => .array .int
abbrev wsX10 : List Cond := u_ws RX1 TX1 4
theorem nmX1 : ∀ a, a < 4 → ∀ b, b < 4 → a ≠ b → (TX1 a).2.1 ≠ (TX1 b).2.1 := by decide +kernel
theorem tyX1_ok : ∀ k, k < 4 → parseFieldDescriptor (TX1 k).2.2.1 = some (tyX1 k) := by decide +kernel
abbrev cX1_init : ByteArray := prog_3_method_1_code
def yX1_init : MethodName := ⟨RX1, "<init>", "()V"⟩
abbrev cX1_putCorner : ByteArray := prog_3_method_2_code
def yX1_putCorner : MethodName := ⟨RX1, "putCorner", "(IIII)V"⟩
abbrev cX1_closePatch : ByteArray := prog_3_method_3_code
def yX1_closePatch : MethodName := ⟨RX1, "closePatch", "(III)I"⟩
abbrev cX1_openPatch : ByteArray := prog_3_method_4_code
def yX1_openPatch : MethodName := ⟨RX1, "openPatch", "(I)V"⟩
abbrev cX1_isClosed : ByteArray := prog_3_method_5_code
def yX1_isClosed : MethodName := ⟨RX1, "isClosed", "(I)Z"⟩
abbrev cX1_closedPatches : ByteArray := prog_3_method_6_code
def yX1_closedPatches : MethodName := ⟨RX1, "closedPatches", "()I"⟩
abbrev cX1_closedSet : ByteArray := prog_3_method_7_code
def yX1_closedSet : MethodName := ⟨RX1, "closedSet", "()I"⟩
abbrev cX1_isConvex : ByteArray := prog_3_method_8_code
def yX1_isConvex : MethodName := ⟨RX1, "isConvex", "(I)Z"⟩
abbrev cX1_next : ByteArray := prog_3_method_9_code
def yX1_next : MethodName := ⟨RX1, "next", "(II)I"⟩
abbrev cX1_bend : ByteArray := prog_3_method_10_code
def yX1_bend : MethodName := ⟨RX1, "bend", "(III)I"⟩
abbrev cX1_sideOf : ByteArray := prog_3_method_11_code
def yX1_sideOf : MethodName := ⟨RX1, "sideOf", "(III)I"⟩
abbrev cX1_doubleArea : ByteArray := prog_3_method_12_code
def yX1_doubleArea : MethodName := ⟨RX1, "doubleArea", "(I)I"⟩
abbrev cX1_state : ByteArray := prog_3_method_13_code
def yX1_state : MethodName := ⟨RX1, "state", "()I"⟩
abbrev cX1_firstOverlap : ByteArray := prog_3_method_14_code
def yX1_firstOverlap : MethodName := ⟨RX1, "firstOverlap", "()I"⟩
abbrev cX1_overlap : ByteArray := prog_3_method_15_code
def yX1_overlap : MethodName := ⟨RX1, "overlap", "(II)Z"⟩
abbrev cX1_hasPartingEdge : ByteArray := prog_3_method_16_code
def yX1_hasPartingEdge : MethodName := ⟨RX1, "hasPartingEdge", "(II)Z"⟩
abbrev cX1_copied : ByteArray := prog_3_method_17_code
def yX1_copied : MethodName := ⟨RX1, "copied", "()LQuiltDesk$Drawing;"⟩
abbrev cX1_isOfCloth : ByteArray := prog_3_method_18_code
def yX1_isOfCloth : MethodName := ⟨RX1, "isOfCloth", "(II)Z"⟩
abbrev cX1_swapCloths : ByteArray := prog_3_method_19_code
def yX1_swapCloths : MethodName := ⟨RX1, "swapCloths", "(II)I"⟩
abbrev cX1_clothArea : ByteArray := prog_3_method_20_code
def yX1_clothArea : MethodName := ⟨RX1, "clothArea", "(I)I"⟩
abbrev cX1_patchWidth : ByteArray := prog_3_method_21_code
def yX1_patchWidth : MethodName := ⟨RX1, "patchWidth", "(I)I"⟩
abbrev cX1_patchHeight : ByteArray := prog_3_method_22_code
def yX1_patchHeight : MethodName := ⟨RX1, "patchHeight", "(I)I"⟩
abbrev cX1_extent : ByteArray := prog_3_method_23_code
def yX1_extent : MethodName := ⟨RX1, "extent", "(I[I)I"⟩
abbrev cX1_halfSquareEdge : ByteArray := prog_3_method_24_code
def yX1_halfSquareEdge : MethodName := ⟨RX1, "halfSquareEdge", "(I)I"⟩
def RX2 : String := "QuiltDesk$Piecing"
def TX2 : u_T := fun k => match k with
  | 0 => ("QuiltDesk$Piecing", "waiting", "[I", true)
  | 1 => ("QuiltDesk$Piecing", "tried", "[I", true)
  | 2 => ("QuiltDesk$Piecing", "found", "[I", true)
  | _ => ("QuiltDesk$Piecing", "foundSeams", "I", false)
def tyX2 : Nat → FieldType := fun k => match k with
  | 0 => .array .int
  | 1 => .array .int
  | 2 => .array .int
  | _ => .int
abbrev wsX20 : List Cond := u_ws RX2 TX2 4
theorem nmX2 : ∀ a, a < 4 → ∀ b, b < 4 → a ≠ b → (TX2 a).2.1 ≠ (TX2 b).2.1 := by decide +kernel
theorem tyX2_ok : ∀ k, k < 4 → parseFieldDescriptor (TX2 k).2.2.1 = some (tyX2 k) := by decide +kernel
abbrev cX2_init : ByteArray := prog_4_method_1_code
def yX2_init : MethodName := ⟨RX2, "<init>", "()V"⟩
abbrev cX2_findOrder : ByteArray := prog_4_method_2_code
def yX2_findOrder : MethodName := ⟨RX2, "findOrder", "(LQuiltDesk$Drawing;)I"⟩
abbrev cX2_putWaiting : ByteArray := prog_4_method_3_code
def yX2_putWaiting : MethodName := ⟨RX2, "putWaiting", "(II)I"⟩
abbrev cX2_noteSeam : ByteArray := prog_4_method_4_code
def yX2_noteSeam : MethodName := ⟨RX2, "noteSeam", "(IIII)V"⟩
abbrev cX2_firstSeam : ByteArray := prog_4_method_5_code
def yX2_firstSeam : MethodName := ⟨RX2, "firstSeam", "(LQuiltDesk$Drawing;I)I"⟩
abbrev cX2_leftPart : ByteArray := prog_4_method_6_code
def yX2_leftPart : MethodName := ⟨RX2, "leftPart", "(LQuiltDesk$Drawing;II)I"⟩
def RX3 : String := "QuiltDesk$Top"
def TX3 : u_T := fun k => match k with
  | 0 => ("QuiltDesk$Top", "kept", "[LQuiltDesk$Drawing;", true)
  | 1 => ("QuiltDesk$Top", "keptBlocks", "I", false)
  | 2 => ("QuiltDesk$Top", "blocks", "[I", true)
  | 3 => ("QuiltDesk$Top", "turns", "[I", true)
  | 4 => ("QuiltDesk$Top", "widths", "[I", true)
  | 5 => ("QuiltDesk$Top", "cloths", "[I", true)
  | _ => ("QuiltDesk$Top", "cornersAt", "[I", true)
def tyX3 : Nat → FieldType := fun k => match k with
  | 0 => .array (.object "QuiltDesk$Drawing")
  | 1 => .int
  | 2 => .array .int
  | 3 => .array .int
  | 4 => .array .int
  | 5 => .array .int
  | _ => .array .int
abbrev wsX30 : List Cond := u_ws RX3 TX3 7
theorem nmX3 : ∀ a, a < 7 → ∀ b, b < 7 → a ≠ b → (TX3 a).2.1 ≠ (TX3 b).2.1 := by decide +kernel
theorem tyX3_ok : ∀ k, k < 7 → parseFieldDescriptor (TX3 k).2.2.1 = some (tyX3 k) := by decide +kernel
abbrev cX3_init : ByteArray := prog_5_method_1_code
def yX3_init : MethodName := ⟨RX3, "<init>", "()V"⟩
abbrev cX3_addBlock : ByteArray := prog_5_method_2_code
def yX3_addBlock : MethodName := ⟨RX3, "addBlock", "(LQuiltDesk$Drawing;)I"⟩
abbrev cX3_blockAt : ByteArray := prog_5_method_3_code
def yX3_blockAt : MethodName := ⟨RX3, "blockAt", "(I)LQuiltDesk$Drawing;"⟩
abbrev cX3_placedBlocks : ByteArray := prog_5_method_4_code
def yX3_placedBlocks : MethodName := ⟨RX3, "placedBlocks", "()I"⟩
abbrev cX3_usedRows : ByteArray := prog_5_method_5_code
def yX3_usedRows : MethodName := ⟨RX3, "usedRows", "()I"⟩
abbrev cX3_usedColumns : ByteArray := prog_5_method_6_code
def yX3_usedColumns : MethodName := ⟨RX3, "usedColumns", "()I"⟩
abbrev cX3_reach : ByteArray := prog_5_method_7_code
def yX3_reach : MethodName := ⟨RX3, "reach", "(I)I"⟩
abbrev cX3_withBorder : ByteArray := prog_5_method_8_code
def yX3_withBorder : MethodName := ⟨RX3, "withBorder", "(I)I"⟩
abbrev cX3_swapCloths : ByteArray := prog_5_method_9_code
def yX3_swapCloths : MethodName := ⟨RX3, "swapCloths", "(II)I"⟩
abbrev cX3_clothArea : ByteArray := prog_5_method_10_code
def yX3_clothArea : MethodName := ⟨RX3, "clothArea", "(I)I"⟩
abbrev cX3_unmatchedCorners : ByteArray := prog_5_method_11_code
def yX3_unmatchedCorners : MethodName := ⟨RX3, "unmatchedCorners", "(I)I"⟩
abbrev cX3_markCorners : ByteArray := prog_5_method_12_code
def yX3_markCorners : MethodName := ⟨RX3, "markCorners", "(LQuiltDesk$Drawing;III)V"⟩
abbrev cX3_mirrored : ByteArray := prog_5_method_13_code
def yX3_mirrored : MethodName := ⟨RX3, "mirrored", "(II)I"⟩
abbrev cX3_turnedX : ByteArray := prog_5_method_14_code
def yX3_turnedX : MethodName := ⟨RX3, "turnedX", "(III)I"⟩
abbrev cX3_turnedY : ByteArray := prog_5_method_15_code
def yX3_turnedY : MethodName := ⟨RX3, "turnedY", "(III)I"⟩
def RX4 : String := "QuiltDesk"
def TX4 : u_T := fun k => match k with
  | 0 => ("QuiltDesk", "drawing", "LQuiltDesk$Drawing;", true)
  | 1 => ("QuiltDesk", "piecing", "LQuiltDesk$Piecing;", true)
  | 2 => ("QuiltDesk", "top", "LQuiltDesk$Top;", true)
  | _ => ("QuiltDesk", "cutting", "LQuiltDesk$Cutting;", true)
def tyX4 : Nat → FieldType := fun k => match k with
  | 0 => .object "QuiltDesk$Drawing"
  | 1 => .object "QuiltDesk$Piecing"
  | 2 => .object "QuiltDesk$Top"
  | _ => .object "QuiltDesk$Cutting"
abbrev wsX40 : List Cond := u_ws RX4 TX4 4
theorem nmX4 : ∀ a, a < 4 → ∀ b, b < 4 → a ≠ b → (TX4 a).2.1 ≠ (TX4 b).2.1 := by decide +kernel
theorem tyX4_ok : ∀ k, k < 4 → parseFieldDescriptor (TX4 k).2.2.1 = some (tyX4 k) := by decide +kernel
abbrev cX4_init : ByteArray := prog_1_method_1_code
def yX4_init : MethodName := ⟨RX4, "<init>", "()V"⟩
abbrev cX4_corner : ByteArray := prog_1_method_2_code
def yX4_corner : MethodName := ⟨RX4, "corner", "(IIII)V"⟩
abbrev cX4_close : ByteArray := prog_1_method_3_code
def yX4_close : MethodName := ⟨RX4, "close", "(III)I"⟩
abbrev cX4_open : ByteArray := prog_1_method_4_code
def yX4_open : MethodName := ⟨RX4, "open", "(I)Z"⟩
abbrev cX4_clear : ByteArray := prog_1_method_5_code
def yX4_clear : MethodName := ⟨RX4, "clear", "()I"⟩
abbrev cX4_check : ByteArray := prog_1_method_6_code
def yX4_check : MethodName := ⟨RX4, "check", "()I"⟩
abbrev cX4_clash : ByteArray := prog_1_method_7_code
def yX4_clash : MethodName := ⟨RX4, "clash", "(I)I"⟩
abbrev cX4_piece : ByteArray := prog_1_method_8_code
def yX4_piece : MethodName := ⟨RX4, "piece", "()I"⟩
abbrev cX4_seam : ByteArray := prog_1_method_9_code
def yX4_seam : MethodName := ⟨RX4, "seam", "(II)I"⟩
abbrev cX4_keep : ByteArray := prog_1_method_10_code
def yX4_keep : MethodName := ⟨RX4, "keep", "()I"⟩
abbrev cX4_place : ByteArray := prog_1_method_11_code
def yX4_place : MethodName := ⟨RX4, "place", "(IIII)I"⟩
abbrev cX4_frame : ByteArray := prog_1_method_12_code
def yX4_frame : MethodName := ⟨RX4, "frame", "(III)I"⟩
abbrev cX4_mismatch : ByteArray := prog_1_method_13_code
def yX4_mismatch : MethodName := ⟨RX4, "mismatch", "(II)I"⟩
abbrev cX4_swap : ByteArray := prog_1_method_14_code
def yX4_swap : MethodName := ⟨RX4, "swap", "(II)I"⟩
abbrev cX4_area : ByteArray := prog_1_method_15_code
def yX4_area : MethodName := ⟨RX4, "area", "(I)I"⟩
abbrev cX4_need : ByteArray := prog_1_method_16_code
def yX4_need : MethodName := ⟨RX4, "need", "(II)I"⟩
abbrev cX4_cut : ByteArray := prog_1_method_17_code
def yX4_cut : MethodName := ⟨RX4, "cut", "(III)I"⟩
abbrev cX4_count : ByteArray := prog_1_method_18_code
def yX4_count : MethodName := ⟨RX4, "count", "(I)I"⟩
abbrev cX4_within : ByteArray := prog_1_method_19_code
def yX4_within : MethodName := ⟨RX4, "within", "(II)Z"⟩
abbrev cX4_mustExist : ByteArray := prog_1_method_20_code
def yX4_mustExist : MethodName := ⟨RX4, "mustExist", "(Z)V"⟩
abbrev cX4_mustFit : ByteArray := prog_1_method_21_code
def yX4_mustFit : MethodName := ⟨RX4, "mustFit", "(Z)V"⟩
def RX5 : String := "QuiltDeskModel"
def TX5 : u_T := fun k => match k with
  | 0 => ("QuiltDeskModel", "thrown", "I", false)
  | 1 => ("QuiltDeskModel", "kept", "I", false)
  | 2 => ("QuiltDeskModel", "many", "[I", true)
  | 3 => ("QuiltDeskModel", "cloths", "[I", true)
  | 4 => ("QuiltDeskModel", "xs", "[I", true)
  | 5 => ("QuiltDeskModel", "ys", "[I", true)
  | 6 => ("QuiltDeskModel", "sets", "[I", true)
  | 7 => ("QuiltDeskModel", "trial", "[I", true)
  | 8 => ("QuiltDeskModel", "seams", "I", false)
  | 9 => ("QuiltDeskModel", "found", "[I", true)
  | 10 => ("QuiltDeskModel", "blocks", "[I", true)
  | 11 => ("QuiltDeskModel", "turns", "[I", true)
  | 12 => ("QuiltDeskModel", "widths", "[I", true)
  | 13 => ("QuiltDeskModel", "frames", "[I", true)
  | 14 => ("QuiltDeskModel", "cuts", "I", false)
  | 15 => ("QuiltDeskModel", "lengths", "[I", true)
  | 16 => ("QuiltDeskModel", "heights", "[I", true)
  | 17 => ("QuiltDeskModel", "kinds", "[I", true)
  | 18 => ("QuiltDeskModel", "isLaid", "[Z", true)
  | 19 => ("QuiltDeskModel", "halves", "[Z", true)
  | 20 => ("QuiltDeskModel", "order", "[I", true)
  | 21 => ("QuiltDeskModel", "strips", "[I", true)
  | 22 => ("QuiltDeskModel", "places", "[I", true)
  | 23 => ("QuiltDeskModel", "stripCount", "I", false)
  | 24 => ("QuiltDeskModel", "all", "I", false)
  | _ => ("QuiltDeskModel", "used", "[I", true)
def tyX5 : Nat → FieldType := fun k => match k with
  | 0 => .int
  | 1 => .int
  | 2 => .array .int
  | 3 => .array .int
  | 4 => .array .int
  | 5 => .array .int
  | 6 => .array .int
  | 7 => .array .int
  | 8 => .int
  | 9 => .array .int
  | 10 => .array .int
  | 11 => .array .int
  | 12 => .array .int
  | 13 => .array .int
  | 14 => .int
  | 15 => .array .int
  | 16 => .array .int
  | 17 => .array .int
  | 18 => .array .boolean
  | 19 => .array .boolean
  | 20 => .array .int
  | 21 => .array .int
  | 22 => .array .int
  | 23 => .int
  | 24 => .int
  | _ => .array .int
abbrev wsX50 : List Cond := u_ws RX5 TX5 26
theorem nmX5 : ∀ a, a < 26 → ∀ b, b < 26 → a ≠ b → (TX5 a).2.1 ≠ (TX5 b).2.1 := by decide +kernel
theorem tyX5_ok : ∀ k, k < 26 → parseFieldDescriptor (TX5 k).2.2.1 = some (tyX5 k) := by decide +kernel
abbrev cX5_init : ByteArray := prog_7_method_1_code
def yX5_init : MethodName := ⟨RX5, "<init>", "()V"⟩
abbrev cX5_thrown : ByteArray := prog_7_method_2_code
def yX5_thrown : MethodName := ⟨RX5, "thrown", "()I"⟩
abbrev cX5_goes : ByteArray := prog_7_method_3_code
def yX5_goes : MethodName := ⟨RX5, "goes", "(ZZ)Z"⟩
abbrev cX5_within : ByteArray := prog_7_method_4_code
def yX5_within : MethodName := ⟨RX5, "within", "(III)Z"⟩
abbrev cX5_isPatch : ByteArray := prog_7_method_5_code
def yX5_isPatch : MethodName := ⟨RX5, "isPatch", "(I)Z"⟩
abbrev cX5_isCloth : ByteArray := prog_7_method_6_code
def yX5_isCloth : MethodName := ⟨RX5, "isCloth", "(I)Z"⟩
abbrev cX5_next : ByteArray := prog_7_method_7_code
def yX5_next : MethodName := ⟨RX5, "next", "(II)I"⟩
abbrev cX5_side : ByteArray := prog_7_method_8_code
def yX5_side : MethodName := ⟨RX5, "side", "(IIII)I"⟩
abbrev cX5_areaOf : ByteArray := prog_7_method_9_code
def yX5_areaOf : MethodName := ⟨RX5, "areaOf", "(I)I"⟩
abbrev cX5_isConvex : ByteArray := prog_7_method_10_code
def yX5_isConvex : MethodName := ⟨RX5, "isConvex", "(I)Z"⟩
abbrev cX5_lies : ByteArray := prog_7_method_11_code
def yX5_lies : MethodName := ⟨RX5, "lies", "(III)I"⟩
abbrev cX5_apart : ByteArray := prog_7_method_12_code
def yX5_apart : MethodName := ⟨RX5, "apart", "(II)Z"⟩
abbrev cX5_corner : ByteArray := prog_7_method_13_code
def yX5_corner : MethodName := ⟨RX5, "corner", "(IIII)V"⟩
abbrev cX5_close : ByteArray := prog_7_method_14_code
def yX5_close : MethodName := ⟨RX5, "close", "(III)I"⟩
abbrev cX5_open : ByteArray := prog_7_method_15_code
def yX5_open : MethodName := ⟨RX5, "open", "(I)Z"⟩
abbrev cX5_closed : ByteArray := prog_7_method_16_code
def yX5_closed : MethodName := ⟨RX5, "closed", "()I"⟩
abbrev cX5_clear : ByteArray := prog_7_method_17_code
def yX5_clear : MethodName := ⟨RX5, "clear", "()I"⟩
abbrev cX5_overlapping : ByteArray := prog_7_method_18_code
def yX5_overlapping : MethodName := ⟨RX5, "overlapping", "()I"⟩
abbrev cX5_state : ByteArray := prog_7_method_19_code
def yX5_state : MethodName := ⟨RX5, "state", "()I"⟩
abbrev cX5_check : ByteArray := prog_7_method_20_code
def yX5_check : MethodName := ⟨RX5, "check", "()I"⟩
abbrev cX5_clash : ByteArray := prog_7_method_21_code
def yX5_clash : MethodName := ⟨RX5, "clash", "(I)I"⟩
abbrev cX5_bits : ByteArray := prog_7_method_22_code
def yX5_bits : MethodName := ⟨RX5, "bits", "(I)I"⟩
abbrev cX5_leftOf : ByteArray := prog_7_method_23_code
def yX5_leftOf : MethodName := ⟨RX5, "leftOf", "(III)I"⟩
abbrev cX5_piece : ByteArray := prog_7_method_24_code
def yX5_piece : MethodName := ⟨RX5, "piece", "()I"⟩
abbrev cX5_seam : ByteArray := prog_7_method_25_code
def yX5_seam : MethodName := ⟨RX5, "seam", "(II)I"⟩
abbrev cX5_keep : ByteArray := prog_7_method_26_code
def yX5_keep : MethodName := ⟨RX5, "keep", "()I"⟩
abbrev cX5_place : ByteArray := prog_7_method_27_code
def yX5_place : MethodName := ⟨RX5, "place", "(IIII)I"⟩
abbrev cX5_frame : ByteArray := prog_7_method_28_code
def yX5_frame : MethodName := ⟨RX5, "frame", "(III)I"⟩
abbrev cX5_turned : ByteArray := prog_7_method_29_code
def yX5_turned : MethodName := ⟨RX5, "turned", "(IIII)I"⟩
abbrev cX5_hasCorner : ByteArray := prog_7_method_30_code
def yX5_hasCorner : MethodName := ⟨RX5, "hasCorner", "(III)Z"⟩
abbrev cX5_mismatch : ByteArray := prog_7_method_31_code
def yX5_mismatch : MethodName := ⟨RX5, "mismatch", "(II)I"⟩
abbrev cX5_swapped : ByteArray := prog_7_method_32_code
def yX5_swapped : MethodName := ⟨RX5, "swapped", "(III)I"⟩
abbrev cX5_swap : ByteArray := prog_7_method_33_code
def yX5_swap : MethodName := ⟨RX5, "swap", "(II)I"⟩
abbrev cX5_area : ByteArray := prog_7_method_34_code
def yX5_area : MethodName := ⟨RX5, "area", "(I)I"⟩
abbrev cX5_rows : ByteArray := prog_7_method_35_code
def yX5_rows : MethodName := ⟨RX5, "rows", "()I"⟩
abbrev cX5_columns : ByteArray := prog_7_method_36_code
def yX5_columns : MethodName := ⟨RX5, "columns", "()I"⟩
abbrev cX5_across : ByteArray := prog_7_method_37_code
def yX5_across : MethodName := ⟨RX5, "across", "(I)I"⟩
abbrev cX5_cutOf : ByteArray := prog_7_method_38_code
def yX5_cutOf : MethodName := ⟨RX5, "cutOf", "(III)V"⟩
abbrev cX5_gap : ByteArray := prog_7_method_39_code
def yX5_gap : MethodName := ⟨RX5, "gap", "(II)I"⟩
abbrev cX5_half : ByteArray := prog_7_method_40_code
def yX5_half : MethodName := ⟨RX5, "half", "(I)I"⟩
abbrev cX5_spread : ByteArray := prog_7_method_41_code
def yX5_spread : MethodName := ⟨RX5, "spread", "(I[I)I"⟩
abbrev cX5_cutPatch : ByteArray := prog_7_method_42_code
def yX5_cutPatch : MethodName := ⟨RX5, "cutPatch", "(I)V"⟩
abbrev cX5_list : ByteArray := prog_7_method_43_code
def yX5_list : MethodName := ⟨RX5, "list", "(I)V"⟩
abbrev cX5_nextCut : ByteArray := prog_7_method_44_code
def yX5_nextCut : MethodName := ⟨RX5, "nextCut", "()I"⟩
abbrev cX5_lay : ByteArray := prog_7_method_45_code
def yX5_lay : MethodName := ⟨RX5, "lay", "(I)V"⟩
abbrev cX5_need : ByteArray := prog_7_method_46_code
def yX5_need : MethodName := ⟨RX5, "need", "(II)I"⟩
abbrev cX5_cut : ByteArray := prog_7_method_47_code
def yX5_cut : MethodName := ⟨RX5, "cut", "(III)I"⟩
abbrev cX5_count : ByteArray := prog_7_method_48_code
def yX5_count : MethodName := ⟨RX5, "count", "(I)I"⟩
def RJ6 : String := "java/lang/Integer"
def TJ6 : u_T := fun k => match k with
  | _ => ("", "", "", false)
def tyJ6 : Nat → FieldType := fun k => match k with
  | _ => .int
abbrev wsJ60 : List Cond := u_ws RJ6 TJ6 0
theorem nmJ6 : ∀ a, a < 0 → ∀ b, b < 0 → a ≠ b → (TJ6 a).2.1 ≠ (TJ6 b).2.1 := by decide +kernel
theorem tyJ6_ok : ∀ k, k < 0 → parseFieldDescriptor (TJ6 k).2.2.1 = some (tyJ6 k) := by decide +kernel
abbrev cJ6_bitCount_0f7a4 : ByteArray := prog_11_method_49_code
def yJ6_bitCount_0f7a4 : MethodName := ⟨RJ6, "bitCount", "(I)I"⟩
def RJ9 : String := "java/lang/Math"
def TJ9 : u_T := fun k => match k with
  | _ => ("", "", "", false)
def tyJ9 : Nat → FieldType := fun k => match k with
  | _ => .int
abbrev wsJ90 : List Cond := u_ws RJ9 TJ9 0
theorem nmJ9 : ∀ a, a < 0 → ∀ b, b < 0 → a ≠ b → (TJ9 a).2.1 ≠ (TJ9 b).2.1 := by decide +kernel
theorem tyJ9_ok : ∀ k, k < 0 → parseFieldDescriptor (TJ9 k).2.2.1 = some (tyJ9 k) := by decide +kernel
abbrev cJ9_abs_0f7a4 : ByteArray := prog_12_method_59_code
def yJ9_abs_0f7a4 : MethodName := ⟨RJ9, "abs", "(I)I"⟩
abbrev cJ9_max_7cf53 : ByteArray := prog_12_method_65_code
def yJ9_max_7cf53 : MethodName := ⟨RJ9, "max", "(II)I"⟩
abbrev cJ9_min_7cf53 : ByteArray := prog_12_method_69_code
def yJ9_min_7cf53 : MethodName := ⟨RJ9, "min", "(II)I"⟩
def RJ0 : String := "java/lang/String"
def TJ0 : u_T := fun k => match k with
  | _ => ("", "", "", false)
def tyJ0 : Nat → FieldType := fun k => match k with
  | _ => .int
abbrev wsJ00 : List Cond := u_ws RJ0 TJ0 0
theorem nmJ0 : ∀ a, a < 0 → ∀ b, b < 0 → a ≠ b → (TJ0 a).2.1 ≠ (TJ0 b).2.1 := by decide +kernel
theorem tyJ0_ok : ∀ k, k < 0 → parseFieldDescriptor (TJ0 k).2.2.1 = some (tyJ0 k) := by decide +kernel
def RJ10 : String := "java/lang/System"
def TJ10 : u_T := fun k => match k with
  | _ => ("", "", "", false)
def tyJ10 : Nat → FieldType := fun k => match k with
  | _ => .int
abbrev wsJ100 : List Cond := u_ws RJ10 TJ10 0
theorem nmJ10 : ∀ a, a < 0 → ∀ b, b < 0 → a ≠ b → (TJ10 a).2.1 ≠ (TJ10 b).2.1 := by decide +kernel
theorem tyJ10_ok : ∀ k, k < 0 → parseFieldDescriptor (TJ10 k).2.2.1 = some (tyJ10 k) := by decide +kernel
def RJ7 : String := "java/util/Arrays"
def TJ7 : u_T := fun k => match k with
  | _ => ("", "", "", false)
def tyJ7 : Nat → FieldType := fun k => match k with
  | _ => .int
abbrev wsJ70 : List Cond := u_ws RJ7 TJ7 0
theorem nmJ7 : ∀ a, a < 0 → ∀ b, b < 0 → a ≠ b → (TJ7 a).2.1 ≠ (TJ7 b).2.1 := by decide +kernel
theorem tyJ7_ok : ∀ k, k < 0 → parseFieldDescriptor (TJ7 k).2.2.1 = some (tyJ7 k) := by decide +kernel
abbrev cJ7_fill_53178 : ByteArray := prog_17_method_103_code
def yJ7_fill_53178 : MethodName := ⟨RJ7, "fill", "([II)V"⟩
def RL : String := "QuiltDeskLaw"
abbrev cL_corner : ByteArray := method_3_code
def yL_corner : MethodName := ⟨RL, "corner", "(LQuiltDesk;IIII)I"⟩
abbrev cL_close : ByteArray := method_4_code
def yL_close : MethodName := ⟨RL, "close", "(LQuiltDesk;III[J)I"⟩
abbrev cL_open : ByteArray := method_5_code
def yL_open : MethodName := ⟨RL, "open", "(LQuiltDesk;I[J)I"⟩
abbrev cL_clash : ByteArray := method_6_code
def yL_clash : MethodName := ⟨RL, "clash", "(LQuiltDesk;I[J)I"⟩
abbrev cL_seam : ByteArray := method_7_code
def yL_seam : MethodName := ⟨RL, "seam", "(LQuiltDesk;II[J)I"⟩
abbrev cL_keep : ByteArray := method_8_code
def yL_keep : MethodName := ⟨RL, "keep", "(LQuiltDesk;[J)I"⟩
abbrev cL_place : ByteArray := method_9_code
def yL_place : MethodName := ⟨RL, "place", "(LQuiltDesk;IIII[J)I"⟩
abbrev cL_frame : ByteArray := method_10_code
def yL_frame : MethodName := ⟨RL, "frame", "(LQuiltDesk;III[J)I"⟩
abbrev cL_mismatch : ByteArray := method_11_code
def yL_mismatch : MethodName := ⟨RL, "mismatch", "(LQuiltDesk;II[J)I"⟩
abbrev cL_swap : ByteArray := method_12_code
def yL_swap : MethodName := ⟨RL, "swap", "(LQuiltDesk;II[J)I"⟩
abbrev cL_area : ByteArray := method_13_code
def yL_area : MethodName := ⟨RL, "area", "(LQuiltDesk;I[J)I"⟩
abbrev cL_need : ByteArray := method_14_code
def yL_need : MethodName := ⟨RL, "need", "(LQuiltDesk;II[J)I"⟩
abbrev cL_cut : ByteArray := method_15_code
def yL_cut : MethodName := ⟨RL, "cut", "(LQuiltDesk;III[J)I"⟩
abbrev cL_count : ByteArray := method_16_code
def yL_count : MethodName := ⟨RL, "count", "(LQuiltDesk;I[J)I"⟩
abbrev cL_law : ByteArray := code
def yL_law : MethodName := ⟨RL, "law", "([I)Z"⟩
end
section
def wsL_law0_r1 : List Cond := [Cond.classLink RL 8 RX4, Cond.instantiable RX4 4, Cond.initialized RX4, Cond.classLink RL 65 RX5, Cond.instantiable RX5 26, Cond.initialized RX5, Cond.arrayClass .long, Cond.methodLink RL 64 yX4_init, Cond.instanceMethod yX4_init, Cond.code yX4_init cX4_init 1 none, Cond.methodLink RX4 3 objectInit, Cond.instanceMethod objectInit, Cond.code objectInit ⟨#[0xb1]⟩ 1 none, Cond.classLink RX4 9 RX1, Cond.instantiable RX1 4, Cond.initialized RX1, Cond.fieldLink RX4 12 "QuiltDesk" "drawing" "LQuiltDesk$Drawing;", Cond.classLink RX4 16 RX2, Cond.instantiable RX2 4, Cond.initialized RX2, Cond.fieldLink RX4 19 "QuiltDesk" "piecing" "LQuiltDesk$Piecing;", Cond.classLink RX4 23 RX3, Cond.instantiable RX3 7, Cond.initialized RX3]
def wsL_law0_r2 : List Cond := [Cond.fieldLink RX4 26 "QuiltDesk" "top" "LQuiltDesk$Top;", Cond.classLink RX4 30 RX0, Cond.instantiable RX0 13, Cond.initialized RX0, Cond.fieldLink RX4 33 "QuiltDesk" "cutting" "LQuiltDesk$Cutting;", Cond.instanceMethod yX1_init, Cond.code yX1_init cX1_init 1 none, Cond.methodLink RX1 3 objectInit, Cond.arrayClass .int, Cond.fieldLink RX1 9 "QuiltDesk$Drawing" "xs" "[I", Cond.fieldLink RX1 15 "QuiltDesk$Drawing" "ys" "[I", Cond.fieldLink RX1 18 "QuiltDesk$Drawing" "corners" "[I", Cond.fieldLink RX1 21 "QuiltDesk$Drawing" "cloths" "[I", Cond.instanceMethod yX2_init, Cond.code yX2_init cX2_init 1 none, Cond.methodLink RX2 3 objectInit, Cond.fieldLink RX2 9 "QuiltDesk$Piecing" "waiting" "[I", Cond.fieldLink RX2 15 "QuiltDesk$Piecing" "tried" "[I", Cond.fieldLink RX2 18 "QuiltDesk$Piecing" "found" "[I", Cond.methodLink RX4 25 yX3_init, Cond.instanceMethod yX3_init, Cond.code yX3_init cX3_init 1 none, Cond.methodLink RX3 3 objectInit, Cond.classLink RX3 9 RX1]
def wsL_law0_r3 : List Cond := [Cond.fieldLink RX3 11 "QuiltDesk$Top" "kept" "[LQuiltDesk$Drawing;", Cond.fieldLink RX3 17 "QuiltDesk$Top" "blocks" "[I", Cond.fieldLink RX3 21 "QuiltDesk$Top" "turns" "[I", Cond.fieldLink RX3 24 "QuiltDesk$Top" "widths" "[I", Cond.fieldLink RX3 27 "QuiltDesk$Top" "cloths" "[I", Cond.fieldLink RX3 30 "QuiltDesk$Top" "cornersAt" "[I", Cond.methodLink RX3 33 yJ7_fill_53178, Cond.static yJ7_fill_53178, Cond.initialized RJ7, Cond.code yJ7_fill_53178 cJ7_fill_53178 4 none, Cond.instanceMethod yX0_init, Cond.code yX0_init cX0_init 1 none, Cond.methodLink RX0 3 objectInit, Cond.fieldLink RX0 9 "QuiltDesk$Cutting" "heldCloth" "I", Cond.fieldLink RX0 15 "QuiltDesk$Cutting" "lengths" "[I", Cond.fieldLink RX0 19 "QuiltDesk$Cutting" "heights" "[I", Cond.fieldLink RX0 22 "QuiltDesk$Cutting" "kinds" "[I", Cond.fieldLink RX0 25 "QuiltDesk$Cutting" "halvesLeft" "[I", Cond.fieldLink RX0 28 "QuiltDesk$Cutting" "order" "[I", Cond.fieldLink RX0 31 "QuiltDesk$Cutting" "merged" "[I", Cond.fieldLink RX0 34 "QuiltDesk$Cutting" "strips" "[I", Cond.fieldLink RX0 37 "QuiltDesk$Cutting" "begins" "[I", Cond.fieldLink RX0 40 "QuiltDesk$Cutting" "usedLengths" "[I", Cond.methodLink RL 67 yX5_init]
def wsL_law0_r4 : List Cond := [Cond.instanceMethod yX5_init, Cond.code yX5_init cX5_init 2 none, Cond.methodLink RX5 1 objectInit, Cond.fieldLink RX5 7 "QuiltDeskModel" "many" "[I", Cond.fieldLink RX5 13 "QuiltDeskModel" "cloths" "[I", Cond.fieldLink RX5 16 "QuiltDeskModel" "xs" "[I", Cond.fieldLink RX5 19 "QuiltDeskModel" "ys" "[I", Cond.fieldLink RX5 22 "QuiltDeskModel" "sets" "[I", Cond.fieldLink RX5 25 "QuiltDeskModel" "trial" "[I", Cond.fieldLink RX5 28 "QuiltDeskModel" "found" "[I", Cond.fieldLink RX5 31 "QuiltDeskModel" "blocks" "[I", Cond.fieldLink RX5 34 "QuiltDeskModel" "turns" "[I", Cond.fieldLink RX5 37 "QuiltDeskModel" "widths" "[I", Cond.fieldLink RX5 40 "QuiltDeskModel" "frames" "[I", Cond.fieldLink RX5 43 "QuiltDeskModel" "lengths" "[I", Cond.fieldLink RX5 46 "QuiltDeskModel" "heights" "[I", Cond.fieldLink RX5 49 "QuiltDeskModel" "kinds" "[I", Cond.arrayClass .boolean, Cond.fieldLink RX5 52 "QuiltDeskModel" "isLaid" "[Z", Cond.fieldLink RX5 56 "QuiltDeskModel" "halves" "[Z", Cond.fieldLink RX5 59 "QuiltDeskModel" "order" "[I", Cond.fieldLink RX5 62 "QuiltDeskModel" "strips" "[I", Cond.fieldLink RX5 65 "QuiltDeskModel" "places" "[I", Cond.fieldLink RX5 68 "QuiltDeskModel" "used" "[I"]
def wsL_law0_r5 : List Cond := [Cond.methodLink RL 68 yL_corner, Cond.static yL_corner, Cond.initialized RL, Cond.codeWith yL_corner cL_corner 6 (some .int) [(0, 9, 12, 13), (0, 9, 16, 15)], Cond.classLink RL 13 "java/util/NoSuchElementException", Cond.classLink RL 15 "java/lang/IllegalArgumentException", Cond.methodLink RL 7 yX4_corner, Cond.instanceMethod yX4_corner, Cond.selects RX4 yX4_corner yX4_corner, Cond.code yX4_corner cX4_corner 5 none, Cond.methodLink RX4 37 yX4_within, Cond.static yX4_within, Cond.code yX4_within cX4_within 2 (some .boolean), Cond.methodLink RX4 41 yX4_mustExist, Cond.static yX4_mustExist, Cond.code yX4_mustExist cX4_mustExist 1 none, Cond.classLink RX4 158 "java/util/NoSuchElementException", Cond.initialized "java/util/NoSuchElementException", Cond.methodLink RX4 45 yX4_mustFit, Cond.static yX4_mustFit, Cond.code yX4_mustFit cX4_mustFit 1 none, Cond.classLink RX4 163 "java/lang/IllegalArgumentException", Cond.initialized "java/lang/IllegalArgumentException", Cond.methodLink RX4 48 yX1_putCorner]
def wsL_law0_r6 : List Cond := [Cond.instanceMethod yX1_putCorner, Cond.selects RX1 yX1_putCorner yX1_putCorner, Cond.code yX1_putCorner cX1_putCorner 5 none, Cond.methodLink RX1 24 yX1_openPatch, Cond.instanceMethod yX1_openPatch, Cond.selects RX1 yX1_openPatch yX1_openPatch, Cond.code yX1_openPatch cX1_openPatch 2 none, Cond.methodLink RL 73 yX5_corner, Cond.instanceMethod yX5_corner, Cond.selects RX5 yX5_corner yX5_corner, Cond.code yX5_corner cX5_corner 5 none, Cond.methodLink RX5 87 yX5_isPatch, Cond.static yX5_isPatch, Cond.code yX5_isPatch cX5_isPatch 1 (some .boolean), Cond.methodLink RX5 91 yX5_within, Cond.static yX5_within, Cond.code yX5_within cX5_within 3 (some .boolean), Cond.methodLink RX5 95 yX5_goes, Cond.instanceMethod yX5_goes, Cond.selects RX5 yX5_goes yX5_goes, Cond.code yX5_goes cX5_goes 3 (some .boolean), Cond.fieldLink RX5 71 "QuiltDeskModel" "thrown" "I", Cond.methodLink RL 74 yX5_thrown, Cond.instanceMethod yX5_thrown]
def wsL_law0_r7 : List Cond := [Cond.selects RX5 yX5_thrown yX5_thrown, Cond.code yX5_thrown cX5_thrown 1 (some .int), Cond.methodLink RL 77 yL_close, Cond.static yL_close, Cond.codeWith yL_close cL_close 6 (some .int) [(0, 12, 15, 13), (0, 12, 19, 15)], Cond.methodLink RL 17 yX4_close, Cond.instanceMethod yX4_close, Cond.selects RX4 yX4_close yX4_close, Cond.code yX4_close cX4_close 4 (some .int), Cond.methodLink RX4 52 yX1_closePatch, Cond.instanceMethod yX1_closePatch, Cond.selects RX1 yX1_closePatch yX1_closePatch, Cond.code yX1_closePatch cX1_closePatch 4 (some .int), Cond.methodLink RX1 28 yX1_isConvex, Cond.instanceMethod yX1_isConvex, Cond.selects RX1 yX1_isConvex yX1_isConvex, Cond.code yX1_isConvex cX1_isConvex 7 (some .boolean), Cond.methodLink RX1 48 yX1_next, Cond.instanceMethod yX1_next, Cond.selects RX1 yX1_next yX1_next, Cond.code yX1_next cX1_next 3 (some .int), Cond.methodLink RX1 52 yX1_bend, Cond.instanceMethod yX1_bend, Cond.selects RX1 yX1_bend yX1_bend]
def wsL_law0_r8 : List Cond := [Cond.code yX1_bend cX1_bend 4 (some .int), Cond.methodLink RX1 32 yX1_doubleArea, Cond.instanceMethod yX1_doubleArea, Cond.selects RX1 yX1_doubleArea yX1_doubleArea, Cond.code yX1_doubleArea cX1_doubleArea 6 (some .int), Cond.methodLink RL 80 yX5_close, Cond.instanceMethod yX5_close, Cond.selects RX5 yX5_close yX5_close, Cond.code yX5_close cX5_close 5 (some .int), Cond.methodLink RX5 99 yX5_isCloth, Cond.static yX5_isCloth, Cond.code yX5_isCloth cX5_isCloth 1 (some .boolean), Cond.methodLink RX5 102 yX5_isConvex, Cond.instanceMethod yX5_isConvex, Cond.selects RX5 yX5_isConvex yX5_isConvex, Cond.code yX5_isConvex cX5_isConvex 6 (some .boolean), Cond.methodLink RX5 75 yX5_next, Cond.instanceMethod yX5_next, Cond.selects RX5 yX5_next yX5_next, Cond.code yX5_next cX5_next 3 (some .int), Cond.methodLink RX5 79 yX5_side, Cond.instanceMethod yX5_side, Cond.selects RX5 yX5_side yX5_side, Cond.code yX5_side cX5_side 7 (some .int)]
def wsL_law0_r9 : List Cond := [Cond.methodLink RX5 105 yX5_areaOf, Cond.instanceMethod yX5_areaOf, Cond.selects RX5 yX5_areaOf yX5_areaOf, Cond.code yX5_areaOf cX5_areaOf 6 (some .int), Cond.methodLink RL 81 yL_open, Cond.static yL_open, Cond.codeWith yL_open cL_open 4 (some .int) [(0, 16, 19, 13)], Cond.methodLink RL 21 yX4_open, Cond.instanceMethod yX4_open, Cond.selects RX4 yX4_open yX4_open, Cond.code yX4_open cX4_open 3 (some .boolean), Cond.methodLink RX4 56 yX1_isClosed, Cond.instanceMethod yX1_isClosed, Cond.selects RX1 yX1_isClosed yX1_isClosed, Cond.code yX1_isClosed cX1_isClosed 2 (some .boolean), Cond.methodLink RX4 60 yX1_openPatch, Cond.methodLink RL 84 yX5_open, Cond.instanceMethod yX5_open, Cond.selects RX5 yX5_open yX5_open, Cond.code yX5_open cX5_open 3 (some .boolean), Cond.methodLink RL 85 yX4_clear, Cond.instanceMethod yX4_clear, Cond.selects RX4 yX4_clear yX4_clear, Cond.code yX4_clear cX4_clear 3 (some .int)]
def wsL_law0_r10 : List Cond := [Cond.methodLink RX4 64 yX1_closedPatches, Cond.instanceMethod yX1_closedPatches, Cond.selects RX1 yX1_closedPatches yX1_closedPatches, Cond.code yX1_closedPatches cX1_closedPatches 1 (some .int), Cond.methodLink RX1 36 yX1_closedSet, Cond.instanceMethod yX1_closedSet, Cond.selects RX1 yX1_closedSet yX1_closedSet, Cond.code yX1_closedSet cX1_closedSet 3 (some .int), Cond.methodLink RX1 45 yX1_isClosed, Cond.methodLink RX1 40 yJ6_bitCount_0f7a4, Cond.static yJ6_bitCount_0f7a4, Cond.initialized RJ6, Cond.code yJ6_bitCount_0f7a4 cJ6_bitCount_0f7a4 1 (some .int), Cond.constant RJ6 265 (1431655765), Cond.constant RJ6 266 (858993459), Cond.constant RJ6 267 (252645135), Cond.methodLink RL 88 yX5_clear, Cond.instanceMethod yX5_clear, Cond.selects RX5 yX5_clear yX5_clear, Cond.code yX5_clear cX5_clear 3 (some .int), Cond.methodLink RX5 109 yX5_closed, Cond.instanceMethod yX5_closed, Cond.selects RX5 yX5_closed yX5_closed, Cond.code yX5_closed cX5_closed 3 (some .int)]
def wsL_law0_r11 : List Cond := [Cond.methodLink RL 89 yX4_check, Cond.instanceMethod yX4_check, Cond.selects RX4 yX4_check yX4_check, Cond.code yX4_check cX4_check 1 (some .int), Cond.methodLink RX4 68 yX1_state, Cond.instanceMethod yX1_state, Cond.selects RX1 yX1_state yX1_state, Cond.code yX1_state cX1_state 3 (some .int), Cond.methodLink RX1 56 yX1_firstOverlap, Cond.instanceMethod yX1_firstOverlap, Cond.selects RX1 yX1_firstOverlap yX1_firstOverlap, Cond.code yX1_firstOverlap cX1_firstOverlap 3 (some .int), Cond.methodLink RX1 59 yX1_overlap, Cond.instanceMethod yX1_overlap, Cond.selects RX1 yX1_overlap yX1_overlap, Cond.code yX1_overlap cX1_overlap 3 (some .boolean), Cond.methodLink RX1 63 yX1_hasPartingEdge, Cond.instanceMethod yX1_hasPartingEdge, Cond.selects RX1 yX1_hasPartingEdge yX1_hasPartingEdge, Cond.code yX1_hasPartingEdge cX1_hasPartingEdge 4 (some .boolean), Cond.methodLink RX1 66 yX1_sideOf, Cond.instanceMethod yX1_sideOf, Cond.selects RX1 yX1_sideOf yX1_sideOf, Cond.code yX1_sideOf cX1_sideOf 10 (some .int)]
def wsL_law0_r12 : List Cond := [Cond.methodLink RL 92 yX5_check, Cond.instanceMethod yX5_check, Cond.selects RX5 yX5_check yX5_check, Cond.code yX5_check cX5_check 1 (some .int), Cond.methodLink RX5 120 yX5_state, Cond.instanceMethod yX5_state, Cond.selects RX5 yX5_state yX5_state, Cond.code yX5_state cX5_state 3 (some .int), Cond.methodLink RX5 117 yX5_overlapping, Cond.instanceMethod yX5_overlapping, Cond.selects RX5 yX5_overlapping yX5_overlapping, Cond.code yX5_overlapping cX5_overlapping 4 (some .int), Cond.methodLink RX5 113 yX5_apart, Cond.instanceMethod yX5_apart, Cond.selects RX5 yX5_apart yX5_apart, Cond.code yX5_apart cX5_apart 5 (some .boolean), Cond.methodLink RX5 83 yX5_lies, Cond.instanceMethod yX5_lies, Cond.selects RX5 yX5_lies yX5_lies, Cond.code yX5_lies cX5_lies 8 (some .int), Cond.methodLink RL 93 yL_clash, Cond.static yL_clash, Cond.codeWith yL_clash cL_clash 4 (some .int) [(0, 9, 12, 13)], Cond.methodLink RL 25 yX4_clash]
def wsL_law0_r13 : List Cond := [Cond.instanceMethod yX4_clash, Cond.selects RX4 yX4_clash yX4_clash, Cond.code yX4_clash cX4_clash 3 (some .int), Cond.methodLink RX4 71 yX1_firstOverlap, Cond.methodLink RL 95 yX5_clash, Cond.instanceMethod yX5_clash, Cond.selects RX5 yX5_clash yX5_clash, Cond.code yX5_clash cX5_clash 3 (some .int), Cond.methodLink RL 96 yX4_piece, Cond.instanceMethod yX4_piece, Cond.selects RX4 yX4_piece yX4_piece, Cond.code yX4_piece cX4_piece 1 (some .int), Cond.methodLink RX4 74 yX2_findOrder, Cond.instanceMethod yX2_findOrder, Cond.selects RX2 yX2_findOrder yX2_findOrder, Cond.code yX2_findOrder cX2_findOrder 8 (some .int), Cond.methodLink RX2 43 arraycopyName, Cond.native arraycopyName, Cond.static arraycopyName, Cond.initialized "java/lang/System", Cond.fieldLink RX2 49 "QuiltDesk$Piecing" "foundSeams" "I", Cond.methodLink RX2 21 yX1_closedSet, Cond.methodLink RX2 27 yX2_putWaiting, Cond.instanceMethod yX2_putWaiting]
def wsL_law0_r14 : List Cond := [Cond.selects RX2 yX2_putWaiting yX2_putWaiting, Cond.code yX2_putWaiting cX2_putWaiting 3 (some .int), Cond.methodLink RX2 53 yJ6_bitCount_0f7a4, Cond.methodLink RX2 31 yX2_firstSeam, Cond.instanceMethod yX2_firstSeam, Cond.selects RX2 yX2_firstSeam yX2_firstSeam, Cond.code yX2_firstSeam cX2_firstSeam 7 (some .int), Cond.fieldLink RX2 59 "QuiltDesk$Drawing" "corners" "[I", Cond.methodLink RX2 35 yX2_leftPart, Cond.instanceMethod yX2_leftPart, Cond.selects RX2 yX2_leftPart yX2_leftPart, Cond.code yX2_leftPart cX2_leftPart 7 (some .int), Cond.methodLink RX2 62 yX1_sideOf, Cond.methodLink RX2 39 yX2_noteSeam, Cond.instanceMethod yX2_noteSeam, Cond.selects RX2 yX2_noteSeam yX2_noteSeam, Cond.code yX2_noteSeam cX2_noteSeam 6 none, Cond.methodLink RL 99 yX5_piece, Cond.instanceMethod yX5_piece, Cond.selects RX5 yX5_piece yX5_piece, Cond.code yX5_piece cX5_piece 8 (some .int), Cond.fieldLink RX5 129 "QuiltDeskModel" "seams" "I", Cond.methodLink RX5 123 yX5_bits, Cond.static yX5_bits]
def wsL_law0_r15 : List Cond := [Cond.code yX5_bits cX5_bits 3 (some .int), Cond.methodLink RX5 126 yX5_leftOf, Cond.instanceMethod yX5_leftOf, Cond.selects RX5 yX5_leftOf yX5_leftOf, Cond.code yX5_leftOf cX5_leftOf 7 (some .int), Cond.methodLink RL 100 yL_seam, Cond.static yL_seam, Cond.codeWith yL_seam cL_seam 5 (some .int) [(0, 10, 13, 13), (0, 10, 17, 15)], Cond.methodLink RL 29 yX4_seam, Cond.instanceMethod yX4_seam, Cond.selects RX4 yX4_seam yX4_seam, Cond.code yX4_seam cX4_seam 3 (some .int), Cond.fieldLink RX4 78 "QuiltDesk$Piecing" "foundSeams" "I", Cond.fieldLink RX4 82 "QuiltDesk$Piecing" "found" "[I", Cond.methodLink RL 103 yX5_seam, Cond.instanceMethod yX5_seam, Cond.selects RX5 yX5_seam yX5_seam, Cond.code yX5_seam cX5_seam 3 (some .int), Cond.methodLink RL 104 yL_keep, Cond.static yL_keep, Cond.codeWith yL_keep cL_keep 3 (some .int) [(0, 8, 11, 37)], Cond.classLink RL 37 "java/lang/IllegalStateException", Cond.methodLink RL 33 yX4_keep, Cond.instanceMethod yX4_keep]
def wsL_law0_r16 : List Cond := [Cond.selects RX4 yX4_keep yX4_keep, Cond.code yX4_keep cX4_keep 1 (some .int), Cond.classLink RX4 89 "java/lang/IllegalStateException", Cond.initialized "java/lang/IllegalStateException", Cond.fieldLink RX4 86 "QuiltDesk$Top" "keptBlocks" "I", Cond.methodLink RX4 96 yX1_copied, Cond.instanceMethod yX1_copied, Cond.selects RX1 yX1_copied yX1_copied, Cond.code yX1_copied cX1_copied 2 (some (.object "QuiltDesk$Drawing")), Cond.classLink RX1 10 RX1, Cond.methodLink RX1 70 arraycopyName, Cond.methodLink RX1 69 yX1_init, Cond.methodLink RX4 100 yX3_addBlock, Cond.instanceMethod yX3_addBlock, Cond.selects RX3 yX3_addBlock yX3_addBlock, Cond.code yX3_addBlock cX3_addBlock 2 (some .int), Cond.fieldLink RX3 39 "QuiltDesk$Top" "keptBlocks" "I", Cond.methodLink RL 107 yX5_keep, Cond.instanceMethod yX5_keep, Cond.selects RX5 yX5_keep yX5_keep, Cond.code yX5_keep cX5_keep 4 (some .int), Cond.fieldLink RX5 132 "QuiltDeskModel" "kept" "I", Cond.methodLink RL 108 yL_place, Cond.static yL_place]
def wsL_law0_r17 : List Cond := [Cond.codeWith yL_place cL_place 7 (some .int) [(0, 14, 17, 13), (0, 14, 21, 15)], Cond.methodLink RL 39 yX4_place, Cond.instanceMethod yX4_place, Cond.selects RX4 yX4_place yX4_place, Cond.code yX4_place cX4_place 7 (some .int), Cond.fieldLink RX4 103 "QuiltDesk$Top" "blocks" "[I", Cond.fieldLink RX4 106 "QuiltDesk$Top" "turns" "[I", Cond.methodLink RX4 109 yX0_forget, Cond.instanceMethod yX0_forget, Cond.selects RX0 yX0_forget yX0_forget, Cond.code yX0_forget cX0_forget 1 none, Cond.methodLink RL 111 yX5_place, Cond.instanceMethod yX5_place, Cond.selects RX5 yX5_place yX5_place, Cond.code yX5_place cX5_place 7 (some .int), Cond.methodLink RL 112 yL_frame, Cond.static yL_frame, Cond.codeWith yL_frame cL_frame 6 (some .int) [(0, 12, 15, 13), (0, 12, 19, 15)], Cond.methodLink RL 43 yX4_frame, Cond.instanceMethod yX4_frame, Cond.selects RX4 yX4_frame yX4_frame, Cond.code yX4_frame cX4_frame 5 (some .int), Cond.fieldLink RX4 112 "QuiltDesk$Top" "widths" "[I", Cond.fieldLink RX4 115 "QuiltDesk$Top" "cloths" "[I"]
def wsL_law0_r18 : List Cond := [Cond.methodLink RL 114 yX5_frame, Cond.instanceMethod yX5_frame, Cond.selects RX5 yX5_frame yX5_frame, Cond.code yX5_frame cX5_frame 5 (some .int), Cond.methodLink RL 115 yL_mismatch, Cond.static yL_mismatch, Cond.codeWith yL_mismatch cL_mismatch 5 (some .int) [(0, 10, 13, 13)], Cond.methodLink RL 46 yX4_mismatch, Cond.instanceMethod yX4_mismatch, Cond.selects RX4 yX4_mismatch yX4_mismatch, Cond.code yX4_mismatch cX4_mismatch 3 (some .int), Cond.methodLink RX4 118 yX3_unmatchedCorners, Cond.instanceMethod yX3_unmatchedCorners, Cond.selects RX3 yX3_unmatchedCorners yX3_unmatchedCorners, Cond.code yX3_unmatchedCorners cX3_unmatchedCorners 6 (some .int), Cond.methodLink RX3 56 yX3_blockAt, Cond.instanceMethod yX3_blockAt, Cond.selects RX3 yX3_blockAt yX3_blockAt, Cond.code yX3_blockAt cX3_blockAt 2 (some (.object "QuiltDesk$Drawing")), Cond.methodLink RX3 63 yX3_markCorners, Cond.instanceMethod yX3_markCorners, Cond.selects RX3 yX3_markCorners yX3_markCorners, Cond.code yX3_markCorners cX3_markCorners 9 none, Cond.fieldLink RX3 67 "QuiltDesk$Drawing" "corners" "[I"]
def wsL_law0_r19 : List Cond := [Cond.fieldLink RX3 70 "QuiltDesk$Drawing" "xs" "[I", Cond.fieldLink RX3 73 "QuiltDesk$Drawing" "ys" "[I", Cond.methodLink RX3 76 yX3_turnedX, Cond.static yX3_turnedX, Cond.code yX3_turnedX cX3_turnedX 3 (some .int), Cond.methodLink RX3 83 yX3_mirrored, Cond.static yX3_mirrored, Cond.code yX3_mirrored cX3_mirrored 2 (some .int), Cond.methodLink RX3 80 yX3_turnedY, Cond.static yX3_turnedY, Cond.code yX3_turnedY cX3_turnedY 3 (some .int), Cond.methodLink RL 117 yX5_mismatch, Cond.instanceMethod yX5_mismatch, Cond.selects RX5 yX5_mismatch yX5_mismatch, Cond.code yX5_mismatch cX5_mismatch 6 (some .int), Cond.methodLink RX5 138 yX5_hasCorner, Cond.instanceMethod yX5_hasCorner, Cond.selects RX5 yX5_hasCorner yX5_hasCorner, Cond.code yX5_hasCorner cX5_hasCorner 8 (some .boolean), Cond.methodLink RX5 135 yX5_turned, Cond.static yX5_turned, Cond.code yX5_turned cX5_turned 8 (some .int), Cond.methodLink RL 118 yL_swap, Cond.static yL_swap]
def wsL_law0_r20 : List Cond := [Cond.codeWith yL_swap cL_swap 5 (some .int) [(0, 10, 13, 13)], Cond.methodLink RL 49 yX4_swap, Cond.instanceMethod yX4_swap, Cond.selects RX4 yX4_swap yX4_swap, Cond.code yX4_swap cX4_swap 3 (some .int), Cond.methodLink RX4 122 yX1_swapCloths, Cond.instanceMethod yX1_swapCloths, Cond.selects RX1 yX1_swapCloths yX1_swapCloths, Cond.code yX1_swapCloths cX1_swapCloths 5 (some .int), Cond.methodLink RX1 76 yX1_isOfCloth, Cond.instanceMethod yX1_isOfCloth, Cond.selects RX1 yX1_isOfCloth yX1_isOfCloth, Cond.code yX1_isOfCloth cX1_isOfCloth 3 (some .boolean), Cond.methodLink RX4 126 yX3_swapCloths, Cond.instanceMethod yX3_swapCloths, Cond.selects RX3 yX3_swapCloths yX3_swapCloths, Cond.code yX3_swapCloths cX3_swapCloths 6 (some .int), Cond.methodLink RX3 53 yX1_swapCloths, Cond.methodLink RL 120 yX5_swap, Cond.instanceMethod yX5_swap, Cond.selects RX5 yX5_swap yX5_swap, Cond.code yX5_swap cX5_swap 6 (some .int), Cond.methodLink RX5 141 yX5_swapped, Cond.static yX5_swapped]
def wsL_law0_r21 : List Cond := [Cond.code yX5_swapped cX5_swapped 3 (some .int), Cond.methodLink RL 121 yL_area, Cond.static yL_area, Cond.codeWith yL_area cL_area 4 (some .int) [(0, 9, 12, 13)], Cond.methodLink RL 52 yX4_area, Cond.instanceMethod yX4_area, Cond.selects RX4 yX4_area yX4_area, Cond.code yX4_area cX4_area 2 (some .int), Cond.methodLink RX4 127 yX3_clothArea, Cond.instanceMethod yX3_clothArea, Cond.selects RX3 yX3_clothArea yX3_clothArea, Cond.code yX3_clothArea cX3_clothArea 5 (some .int), Cond.methodLink RX3 60 yX1_clothArea, Cond.instanceMethod yX1_clothArea, Cond.selects RX1 yX1_clothArea yX1_clothArea, Cond.code yX1_clothArea cX1_clothArea 4 (some .int), Cond.methodLink RL 123 yX5_area, Cond.instanceMethod yX5_area, Cond.selects RX5 yX5_area yX5_area, Cond.code yX5_area cX5_area 5 (some .int), Cond.methodLink RL 124 yL_need, Cond.static yL_need, Cond.codeWith yL_need cL_need 5 (some .int) [(0, 10, 13, 13), (0, 10, 17, 15)], Cond.methodLink RL 55 yX4_need]
def wsL_law0_r22 : List Cond := [Cond.instanceMethod yX4_need, Cond.selects RX4 yX4_need yX4_need, Cond.code yX4_need cX4_need 3 (some .int), Cond.fieldLink RX4 134 "QuiltDesk$Cutting" "cuts" "I", Cond.fieldLink RX4 137 "QuiltDesk$Cutting" "stripsUsed" "I", Cond.fieldLink RX4 140 "QuiltDesk$Cutting" "stripHeights" "I", Cond.methodLink RX4 130 yX0_layAll, Cond.instanceMethod yX0_layAll, Cond.selects RX0 yX0_layAll yX0_layAll, Cond.code yX0_layAll cX0_layAll 3 none, Cond.methodLink RX0 43 yX0_gather, Cond.instanceMethod yX0_gather, Cond.selects RX0 yX0_gather yX0_gather, Cond.code yX0_gather cX0_gather 5 none, Cond.fieldLink RX0 53 "QuiltDesk$Cutting" "cuts" "I", Cond.fieldLink RX0 79 "QuiltDesk$Top" "cloths" "[I", Cond.methodLink RX0 56 yJ7_fill_53178, Cond.methodLink RX0 62 yX3_blockAt, Cond.methodLink RX0 68 yX0_gatherPatches, Cond.instanceMethod yX0_gatherPatches, Cond.selects RX0 yX0_gatherPatches yX0_gatherPatches, Cond.code yX0_gatherPatches cX0_gatherPatches 5 none, Cond.methodLink RX0 89 yX1_isOfCloth, Cond.methodLink RX0 95 yX1_halfSquareEdge]
def wsL_law0_r23 : List Cond := [Cond.instanceMethod yX1_halfSquareEdge, Cond.selects RX1 yX1_halfSquareEdge yX1_halfSquareEdge, Cond.code yX1_halfSquareEdge cX1_halfSquareEdge 7 (some .int), Cond.methodLink RX1 91 Lib.Math.abs.name, Cond.static Lib.Math.abs.name, Cond.initialized "java/lang/Math", Cond.code Lib.Math.abs.name Lib.Math.abs.code 1 (some .int), Cond.methodLink RX0 99 yX0_gatherHalf, Cond.instanceMethod yX0_gatherHalf, Cond.selects RX0 yX0_gatherHalf yX0_gatherHalf, Cond.code yX0_gatherHalf cX0_gatherHalf 2 none, Cond.methodLink RX0 113 yX0_gatherCut, Cond.instanceMethod yX0_gatherCut, Cond.selects RX0 yX0_gatherCut yX0_gatherCut, Cond.code yX0_gatherCut cX0_gatherCut 4 none, Cond.methodLink RX0 103 yX1_patchWidth, Cond.instanceMethod yX1_patchWidth, Cond.selects RX1 yX1_patchWidth yX1_patchWidth, Cond.code yX1_patchWidth cX1_patchWidth 2 (some .int), Cond.methodLink RX1 79 yX1_extent, Cond.instanceMethod yX1_extent, Cond.selects RX1 yX1_extent yX1_extent, Cond.code yX1_extent cX1_extent 7 (some .int), Cond.methodLink RX1 83 Lib.Math.min.name]
def wsL_law0_r24 : List Cond := [Cond.static Lib.Math.min.name, Cond.code Lib.Math.min.name Lib.Math.min.code 2 (some .int), Cond.methodLink RX1 88 Lib.Math.max.name, Cond.static Lib.Math.max.name, Cond.code Lib.Math.max.name Lib.Math.max.code 2 (some .int), Cond.methodLink RX0 106 yX1_patchHeight, Cond.instanceMethod yX1_patchHeight, Cond.selects RX1 yX1_patchHeight yX1_patchHeight, Cond.code yX1_patchHeight cX1_patchHeight 2 (some .int), Cond.methodLink RX0 109 yX0_gatherPieces, Cond.instanceMethod yX0_gatherPieces, Cond.selects RX0 yX0_gatherPieces yX0_gatherPieces, Cond.code yX0_gatherPieces cX0_gatherPieces 8 none, Cond.methodLink RX0 126 Lib.Math.max.name, Cond.methodLink RX0 132 Lib.Math.min.name, Cond.methodLink RX0 72 yX3_usedRows, Cond.instanceMethod yX3_usedRows, Cond.selects RX3 yX3_usedRows yX3_usedRows, Cond.code yX3_usedRows cX3_usedRows 3 (some .int), Cond.methodLink RX0 76 yX3_usedColumns, Cond.instanceMethod yX3_usedColumns, Cond.selects RX3 yX3_usedColumns yX3_usedColumns, Cond.code yX3_usedColumns cX3_usedColumns 3 (some .int), Cond.methodLink RX3 43 Lib.Math.max.name]
def wsL_law0_r25 : List Cond := [Cond.methodLink RX0 82 yX0_gatherSashes, Cond.instanceMethod yX0_gatherSashes, Cond.selects RX0 yX0_gatherSashes yX0_gatherSashes, Cond.code yX0_gatherSashes cX0_gatherSashes 5 none, Cond.fieldLink RX0 117 "QuiltDesk$Top" "widths" "[I", Cond.methodLink RX0 120 yX3_reach, Cond.instanceMethod yX3_reach, Cond.selects RX3 yX3_reach yX3_reach, Cond.code yX3_reach cX3_reach 2 (some .int), Cond.methodLink RX0 86 yX0_gatherBorder, Cond.instanceMethod yX0_gatherBorder, Cond.selects RX0 yX0_gatherBorder yX0_gatherBorder, Cond.code yX0_gatherBorder cX0_gatherBorder 5 none, Cond.methodLink RX0 123 yX3_withBorder, Cond.instanceMethod yX3_withBorder, Cond.selects RX3 yX3_withBorder yX3_withBorder, Cond.code yX3_withBorder cX3_withBorder 2 (some .int), Cond.methodLink RX3 49 yX3_reach, Cond.methodLink RX0 47 yX0_sort, Cond.instanceMethod yX0_sort, Cond.selects RX0 yX0_sort yX0_sort, Cond.code yX0_sort cX0_sort 3 none, Cond.methodLink RX0 138 arraycopyName, Cond.methodLink RX0 135 yX0_merge]
def wsL_law0_r26 : List Cond := [Cond.instanceMethod yX0_merge, Cond.selects RX0 yX0_merge yX0_merge, Cond.code yX0_merge cX0_merge 9 none, Cond.methodLink RX0 144 yX0_goesBefore, Cond.instanceMethod yX0_goesBefore, Cond.selects RX0 yX0_goesBefore yX0_goesBefore, Cond.code yX0_goesBefore cX0_goesBefore 3 (some .boolean), Cond.methodLink RX0 50 yX0_layInOrder, Cond.instanceMethod yX0_layInOrder, Cond.selects RX0 yX0_layInOrder yX0_layInOrder, Cond.code yX0_layInOrder cX0_layInOrder 4 none, Cond.fieldLink RX0 147 "QuiltDesk$Cutting" "stripsUsed" "I", Cond.fieldLink RX0 150 "QuiltDesk$Cutting" "stripHeights" "I", Cond.methodLink RX0 153 yX0_stripFor, Cond.instanceMethod yX0_stripFor, Cond.selects RX0 yX0_stripFor yX0_stripFor, Cond.code yX0_stripFor cX0_stripFor 3 (some .int), Cond.methodLink RL 126 yX5_need, Cond.instanceMethod yX5_need, Cond.selects RX5 yX5_need yX5_need, Cond.code yX5_need cX5_need 3 (some .int), Cond.fieldLink RX5 144 "QuiltDeskModel" "cuts" "I", Cond.fieldLink RX5 177 "QuiltDeskModel" "stripCount" "I", Cond.fieldLink RX5 180 "QuiltDeskModel" "all" "I"]
def wsL_law0_r27 : List Cond := [Cond.methodLink RX5 186 yX5_lay, Cond.instanceMethod yX5_lay, Cond.selects RX5 yX5_lay yX5_lay, Cond.code yX5_lay cX5_lay 5 none, Cond.methodLink RX5 174 yX5_list, Cond.instanceMethod yX5_list, Cond.selects RX5 yX5_list yX5_list, Cond.code yX5_list cX5_list 7 none, Cond.methodLink RX5 161 yX5_cutPatch, Cond.instanceMethod yX5_cutPatch, Cond.selects RX5 yX5_cutPatch yX5_cutPatch, Cond.code yX5_cutPatch cX5_cutPatch 3 none, Cond.methodLink RX5 150 yX5_half, Cond.instanceMethod yX5_half, Cond.selects RX5 yX5_half yX5_half, Cond.code yX5_half cX5_half 7 (some .int), Cond.methodLink RX5 147 yX5_gap, Cond.static yX5_gap, Cond.code yX5_gap cX5_gap 2 (some .int), Cond.methodLink RX5 153 yX5_spread, Cond.instanceMethod yX5_spread, Cond.selects RX5 yX5_spread yX5_spread, Cond.code yX5_spread cX5_spread 6 (some .int), Cond.methodLink RX5 157 yX5_cutOf]
def wsL_law0_r28 : List Cond := [Cond.instanceMethod yX5_cutOf, Cond.selects RX5 yX5_cutOf yX5_cutOf, Cond.code yX5_cutOf cX5_cutOf 4 none, Cond.methodLink RX5 165 yX5_rows, Cond.instanceMethod yX5_rows, Cond.selects RX5 yX5_rows yX5_rows, Cond.code yX5_rows cX5_rows 3 (some .int), Cond.methodLink RX5 168 yX5_columns, Cond.instanceMethod yX5_columns, Cond.selects RX5 yX5_columns yX5_columns, Cond.code yX5_columns cX5_columns 3 (some .int), Cond.methodLink RX5 171 yX5_across, Cond.instanceMethod yX5_across, Cond.selects RX5 yX5_across yX5_across, Cond.code yX5_across cX5_across 2 (some .int), Cond.methodLink RX5 183 yX5_nextCut, Cond.instanceMethod yX5_nextCut, Cond.selects RX5 yX5_nextCut yX5_nextCut, Cond.code yX5_nextCut cX5_nextCut 4 (some .int), Cond.methodLink RL 127 yL_cut, Cond.static yL_cut, Cond.codeWith yL_cut cL_cut 6 (some .int) [(0, 12, 15, 13), (0, 12, 19, 15)], Cond.methodLink RL 58 yX4_cut, Cond.instanceMethod yX4_cut]
def wsL_law0_r29 : List Cond := [Cond.selects RX4 yX4_cut yX4_cut, Cond.code yX4_cut cX4_cut 4 (some .int), Cond.methodLink RX4 143 yX0_fact, Cond.instanceMethod yX0_fact, Cond.selects RX0 yX0_fact yX0_fact, Cond.code yX0_fact cX0_fact 3 (some .int), Cond.methodLink RL 129 yX5_cut, Cond.instanceMethod yX5_cut, Cond.selects RX5 yX5_cut yX5_cut, Cond.code yX5_cut cX5_cut 5 (some .int), Cond.methodLink RL 130 yL_count, Cond.static yL_count, Cond.codeWith yL_count cL_count 4 (some .int) [(0, 9, 12, 15)], Cond.methodLink RL 61 yX4_count, Cond.instanceMethod yX4_count, Cond.selects RX4 yX4_count yX4_count, Cond.code yX4_count cX4_count 2 (some .int), Cond.methodLink RX4 146 yX3_placedBlocks, Cond.instanceMethod yX3_placedBlocks, Cond.selects RX3 yX3_placedBlocks yX3_placedBlocks, Cond.code yX3_placedBlocks cX3_placedBlocks 3 (some .int), Cond.methodLink RX4 149 yX3_usedRows, Cond.methodLink RX4 152 yX3_usedColumns, Cond.methodLink RX4 155 yX3_withBorder]
def wsL_law0_r30 : List Cond := [Cond.methodLink RL 132 yX5_count, Cond.instanceMethod yX5_count, Cond.selects RX5 yX5_count yX5_count, Cond.code yX5_count cX5_count 4 (some .int)]
def wsL_law0 : List Cond := (wsL_law0_r1 ++ (wsL_law0_r2 ++ (wsL_law0_r3 ++ (wsL_law0_r4 ++ (wsL_law0_r5 ++ (wsL_law0_r6 ++ (wsL_law0_r7 ++ (wsL_law0_r8 ++ (wsL_law0_r9 ++ (wsL_law0_r10 ++ (wsL_law0_r11 ++ (wsL_law0_r12 ++ (wsL_law0_r13 ++ (wsL_law0_r14 ++ (wsL_law0_r15 ++ (wsL_law0_r16 ++ (wsL_law0_r17 ++ (wsL_law0_r18 ++ (wsL_law0_r19 ++ (wsL_law0_r20 ++ (wsL_law0_r21 ++ (wsL_law0_r22 ++ (wsL_law0_r23 ++ (wsL_law0_r24 ++ (wsL_law0_r25 ++ (wsL_law0_r26 ++ (wsL_law0_r27 ++ (wsL_law0_r28 ++ (wsL_law0_r29 ++ wsL_law0_r30))))))))))))))))))))))))))))) ++ wsX40 ++ wsX50 ++ wsX10 ++ wsX20 ++ wsX30 ++ wsX00 ++ ([] : List Cond)
/-- the words of 'throw new NoSuchElementException(text)': its constructor links at 13, not at 7 as the kit's own list has it -/
def atN0 : List Cond := Bundle.throwableAtoms ++ Bundle.throwableSAtoms ++ (Bundle.passSAtoms "java/util/NoSuchElementException" "java/lang/RuntimeException" 13 prog_18_method_4_code ++ Bundle.chainSAtoms "java/lang/RuntimeException" ["java/lang/Exception"]) ++
  [.methodLink RX4 162 (Bundle.initS "java/util/NoSuchElementException"), .instantiable "java/util/NoSuchElementException" 6, .castable "java/util/NoSuchElementException" "java/util/NoSuchElementException", .selects "java/util/NoSuchElementException" Bundle.tFill0 Bundle.tFill0, .selects "java/util/NoSuchElementException" Bundle.tFill Bundle.tFill,
   .lays "java/util/NoSuchElementException" Bundle.tN "cause" "Ljava/lang/Throwable;", .lays "java/util/NoSuchElementException" Bundle.tN "stackTrace" Bundle.steD, .lays "java/util/NoSuchElementException" Bundle.tN "suppressedExceptions" Bundle.listD, .lays "java/util/NoSuchElementException" Bundle.tN "detailMessage" "Ljava/lang/String;",
   .isRef (.static Bundle.tN "UNASSIGNED_STACK" Bundle.steD), .isRef (.static Bundle.tN "SUPPRESSED_SENTINEL" Bundle.listD),
   .fieldLink Bundle.tN 198 Bundle.tN "backtrace" "Ljava/lang/Object;", .lays Bundle.tN Bundle.tN "backtrace" "Ljava/lang/Object;", .lays "java/util/NoSuchElementException" Bundle.tN "backtrace" "Ljava/lang/Object;"]
def atN : List Cond := atN0.filter vx_no
def wsL_law : List Cond := wsL_law0 ++ atN.filter goodWord ++ (vx_atS RX4 167 "java/lang/IllegalArgumentException" ["java/lang/RuntimeException", "java/lang/Exception"]).filter goodWord ++ (vx_atS RX4 93 "java/lang/IllegalStateException" ["java/lang/RuntimeException", "java/lang/Exception"]).filter goodWord
set_option maxRecDepth 20000 in
theorem gi_wsL_law0_r1 : GoodIn lw_tbl wsL_law0_r1 := goodIn_r wsL_law0_r1 [58, 59, 42, 699, 700, 48, 966, 60, 61, 62, 63, 64, 65, 66, 67, 43, 200, 90, 91, 44, 201, 111, 112, 45] (by decide +kernel) (by decide +kernel)
set_option maxRecDepth 20000 in
theorem gi_wsL_law0_r2 : GoodIn lw_tbl wsL_law0_r2 := goodIn_r wsL_law0_r2 [202, 151, 152, 47, 203, 69, 70, 71, 89, 72, 74, 76, 79, 93, 94, 95, 96, 97, 98, 113, 114, 115, 116, 117] (by decide +kernel) (by decide +kernel)
set_option maxRecDepth 20000 in
theorem gi_wsL_law0_r3 : GoodIn lw_tbl wsL_law0_r3 := goodIn_r wsL_law0_r3 [122, 125, 127, 129, 132, 135, 119, 120, 46, 121, 154, 155, 156, 157, 160, 161, 162, 163, 164, 165, 166, 167, 168, 701] (by decide +kernel) (by decide +kernel)
set_option maxRecDepth 20000 in
theorem gi_wsL_law0_r4 : GoodIn lw_tbl wsL_law0_r4 := goodIn_r wsL_law0_r4 [702, 703, 704, 707, 708, 709, 710, 711, 712, 714, 715, 716, 717, 718, 720, 721, 722, 784, 723, 724, 725, 726, 727, 730] (by decide +kernel) (by decide +kernel)
set_option maxRecDepth 20000 in
theorem gi_wsL_law0_r5 : GoodIn lw_tbl wsL_law0_r5 := goodIn_r wsL_law0_r5 [305, 306, 41, 307, 308, 309, 310, 311, 312, 313, 314, 315, 316, 317, 318, 319, 320, 52, 388, 389, 390, 391, 53, 407] (by decide +kernel) (by decide +kernel)
set_option maxRecDepth 20000 in
theorem gi_wsL_law0_r6 : GoodIn lw_tbl wsL_law0_r6 := goodIn_r wsL_law0_r6 [408, 409, 410, 411, 236, 237, 238, 789, 790, 791, 792, 793, 794, 795, 796, 797, 798, 799, 801, 19, 802, 705, 785, 786] (by decide +kernel) (by decide +kernel)
set_option maxRecDepth 20000 in
theorem gi_wsL_law0_r7 : GoodIn lw_tbl wsL_law0_r7 := goodIn_r wsL_law0_r7 [787, 788, 412, 413, 414, 415, 416, 417, 418, 419, 420, 421, 422, 423, 424, 425, 426, 263, 264, 265, 266, 267, 268, 269] (by decide +kernel) (by decide +kernel)
set_option maxRecDepth 20000 in
theorem gi_wsL_law0_r8 : GoodIn lw_tbl wsL_law0_r8 := goodIn_r wsL_law0_r8 [270, 271, 272, 273, 274, 803, 804, 805, 806, 807, 808, 809, 810, 812, 20, 813, 814, 816, 21, 817, 818, 820, 22, 821] (by decide +kernel) (by decide +kernel)
set_option maxRecDepth 20000 in
theorem gi_wsL_law0_r9 : GoodIn lw_tbl wsL_law0_r9 := goodIn_r wsL_law0_r9 [822, 824, 23, 825, 427, 428, 429, 430, 431, 432, 433, 434, 226, 227, 228, 235, 826, 827, 828, 829, 213, 214, 215, 216] (by decide +kernel) (by decide +kernel)
set_option maxRecDepth 20000 in
theorem gi_wsL_law0_r10 : GoodIn lw_tbl wsL_law0_r10 := goodIn_r wsL_law0_r10 [217, 218, 219, 220, 221, 222, 223, 224, 225, 229, 230, 54, 231, 232, 233, 234, 830, 831, 832, 833, 834, 836, 24, 837] (by decide +kernel) (by decide +kernel)
set_option maxRecDepth 20000 in
theorem gi_wsL_law0_r11 : GoodIn lw_tbl wsL_law0_r11 := goodIn_r wsL_law0_r11 [239, 240, 241, 242, 243, 244, 245, 246, 247, 248, 249, 250, 251, 252, 253, 254, 255, 256, 257, 258, 259, 260, 261, 262] (by decide +kernel) (by decide +kernel)
set_option maxRecDepth 20000 in
theorem gi_wsL_law0_r12 : GoodIn lw_tbl wsL_law0_r12 := goodIn_r wsL_law0_r12 [838, 839, 840, 841, 842, 844, 25, 845, 846, 848, 26, 849, 850, 852, 27, 853, 854, 856, 28, 857, 435, 436, 437, 438] (by decide +kernel) (by decide +kernel)
set_option maxRecDepth 20000 in
theorem gi_wsL_law0_r13 : GoodIn lw_tbl wsL_law0_r13 := goodIn_r wsL_law0_r13 [439, 440, 441, 442, 858, 859, 860, 861, 275, 276, 277, 278, 279, 280, 281, 282, 302, 304, 303, 55, 100, 283, 284, 286] (by decide +kernel) (by decide +kernel)
set_option maxRecDepth 20000 in
theorem gi_wsL_law0_r14 : GoodIn lw_tbl wsL_law0_r14 := goodIn_r wsL_law0_r14 [0, 287, 288, 289, 291, 1, 292, 77, 293, 295, 2, 296, 297, 298, 300, 3, 301, 862, 863, 864, 865, 713, 866, 867] (by decide +kernel) (by decide +kernel)
set_option maxRecDepth 20000 in
theorem gi_wsL_law0_r15 : GoodIn lw_tbl wsL_law0_r15 := goodIn_r wsL_law0_r15 [868, 869, 871, 29, 872, 443, 444, 445, 446, 447, 448, 449, 101, 99, 873, 874, 875, 876, 450, 451, 452, 453, 454, 455] (by decide +kernel) (by decide +kernel)
set_option maxRecDepth 20000 in
theorem gi_wsL_law0_r16 : GoodIn lw_tbl wsL_law0_r16 := goodIn_r wsL_law0_r16 [456, 457, 458, 56, 124, 474, 475, 476, 477, 478, 480, 479, 481, 482, 483, 484, 123, 877, 878, 879, 880, 706, 485, 486] (by decide +kernel) (by decide +kernel)
set_option maxRecDepth 20000 in
theorem gi_wsL_law0_r17 : GoodIn lw_tbl wsL_law0_r17 := goodIn_r wsL_law0_r17 [487, 488, 489, 490, 491, 126, 128, 492, 493, 494, 495, 881, 882, 883, 884, 496, 497, 498, 499, 500, 501, 502, 131, 134] (by decide +kernel) (by decide +kernel)
set_option maxRecDepth 20000 in
theorem gi_wsL_law0_r18 : GoodIn lw_tbl wsL_law0_r18 := goodIn_r wsL_law0_r18 [885, 886, 887, 888, 503, 504, 505, 506, 507, 508, 509, 510, 511, 512, 513, 514, 515, 516, 517, 518, 520, 5, 521, 78] (by decide +kernel) (by decide +kernel)
set_option maxRecDepth 20000 in
theorem gi_wsL_law0_r19 : GoodIn lw_tbl wsL_law0_r19 := goodIn_r wsL_law0_r19 [73, 75, 522, 523, 524, 525, 526, 527, 528, 529, 530, 889, 890, 891, 892, 893, 895, 30, 896, 897, 898, 899, 531, 532] (by decide +kernel) (by decide +kernel)
set_option maxRecDepth 20000 in
theorem gi_wsL_law0_r20 : GoodIn lw_tbl wsL_law0_r20 := goodIn_r wsL_law0_r20 [533, 534, 535, 536, 537, 538, 539, 540, 541, 542, 543, 544, 545, 546, 547, 548, 549, 550, 900, 901, 902, 903, 904, 905] (by decide +kernel) (by decide +kernel)
set_option maxRecDepth 20000 in
theorem gi_wsL_law0_r21 : GoodIn lw_tbl wsL_law0_r21 := goodIn_r wsL_law0_r21 [906, 551, 552, 553, 554, 555, 556, 557, 558, 559, 560, 561, 562, 563, 564, 565, 907, 908, 909, 910, 566, 567, 568, 569] (by decide +kernel) (by decide +kernel)
set_option maxRecDepth 20000 in
theorem gi_wsL_law0_r22 : GoodIn lw_tbl wsL_law0_r22 := goodIn_r wsL_law0_r22 [570, 571, 572, 159, 170, 172, 573, 574, 575, 576, 577, 579, 6, 580, 158, 133, 581, 582, 583, 585, 7, 586, 587, 588] (by decide +kernel) (by decide +kernel)
set_option maxRecDepth 20000 in
theorem gi_wsL_law0_r23 : GoodIn lw_tbl wsL_law0_r23 := goodIn_r wsL_law0_r23 [589, 590, 591, 592, 593, 57, 594, 595, 597, 8, 598, 599, 601, 9, 602, 603, 604, 605, 606, 607, 609, 10, 610, 611] (by decide +kernel) (by decide +kernel)
set_option maxRecDepth 20000 in
theorem gi_wsL_law0_r24 : GoodIn lw_tbl wsL_law0_r24 := goodIn_r wsL_law0_r24 [612, 613, 614, 615, 616, 617, 618, 619, 620, 621, 623, 11, 624, 625, 626, 627, 628, 629, 630, 631, 632, 633, 634, 635] (by decide +kernel) (by decide +kernel)
set_option maxRecDepth 20000 in
theorem gi_wsL_law0_r25 : GoodIn lw_tbl wsL_law0_r25 := goodIn_r wsL_law0_r25 [636, 638, 12, 639, 130, 640, 641, 642, 643, 644, 646, 13, 647, 648, 649, 650, 651, 652, 653, 655, 14, 656, 665, 657] (by decide +kernel) (by decide +kernel)
set_option maxRecDepth 20000 in
theorem gi_wsL_law0_r26 : GoodIn lw_tbl wsL_law0_r26 := goodIn_r wsL_law0_r26 [659, 15, 660, 661, 663, 16, 664, 666, 668, 17, 669, 169, 171, 670, 672, 18, 673, 911, 912, 913, 914, 719, 728, 729] (by decide +kernel) (by decide +kernel)
set_option maxRecDepth 20000 in
theorem gi_wsL_law0_r27 : GoodIn lw_tbl wsL_law0_r27 := goodIn_r wsL_law0_r27 [915, 917, 31, 918, 919, 921, 32, 922, 923, 925, 33, 926, 927, 929, 34, 930, 931, 932, 933, 934, 936, 35, 937, 938] (by decide +kernel) (by decide +kernel)
set_option maxRecDepth 20000 in
theorem gi_wsL_law0_r28 : GoodIn lw_tbl wsL_law0_r28 := goodIn_r wsL_law0_r28 [940, 36, 941, 942, 944, 37, 945, 946, 948, 38, 949, 950, 952, 39, 953, 954, 956, 40, 957, 674, 675, 676, 677, 678] (by decide +kernel) (by decide +kernel)
set_option maxRecDepth 20000 in
theorem gi_wsL_law0_r29 : GoodIn lw_tbl wsL_law0_r29 := goodIn_r wsL_law0_r29 [679, 680, 681, 682, 683, 684, 958, 959, 960, 961, 685, 686, 687, 688, 689, 690, 691, 692, 693, 694, 695, 696, 697, 698] (by decide +kernel) (by decide +kernel)
set_option maxRecDepth 20000 in
theorem gi_wsL_law0_r30 : GoodIn lw_tbl wsL_law0_r30 := goodIn_r wsL_law0_r30 [962, 963, 964, 965] (by decide +kernel) (by decide +kernel)
set_option maxRecDepth 20000 in
theorem gi_wsX40 : GoodIn lw_tbl wsX40 := goodIn_p wsX40 [] (by decide +kernel) (by decide +kernel)
set_option maxRecDepth 20000 in
theorem gi_wsX50 : GoodIn lw_tbl wsX50 := goodIn_p wsX50 [] (by decide +kernel) (by decide +kernel)
set_option maxRecDepth 20000 in
theorem gi_wsX10 : GoodIn lw_tbl wsX10 := goodIn_p wsX10 [] (by decide +kernel) (by decide +kernel)
set_option maxRecDepth 20000 in
theorem gi_wsX20 : GoodIn lw_tbl wsX20 := goodIn_p wsX20 [] (by decide +kernel) (by decide +kernel)
set_option maxRecDepth 20000 in
theorem gi_wsX30 : GoodIn lw_tbl wsX30 := goodIn_p wsX30 [] (by decide +kernel) (by decide +kernel)
set_option maxRecDepth 20000 in
theorem gi_wsX00 : GoodIn lw_tbl wsX00 := goodIn_p wsX00 [] (by decide +kernel) (by decide +kernel)
set_option maxRecDepth 20000 in
theorem wsL_law_x0 : ∀ w ∈ (atN).filter goodWord, w ∈ lw_tbl := by decide +kernel
theorem gi_x0 : GoodIn lw_tbl ((atN).filter goodWord) := fun w h => ⟨wsL_law_x0 w h, good_of_word (List.mem_filter.mp h).2⟩
set_option maxRecDepth 20000 in
theorem wsL_law_x1 : ∀ w ∈ (vx_atS RX4 167 "java/lang/IllegalArgumentException" ["java/lang/RuntimeException", "java/lang/Exception"]).filter goodWord, w ∈ lw_tbl := by decide +kernel
theorem gi_x1 : GoodIn lw_tbl ((vx_atS RX4 167 "java/lang/IllegalArgumentException" ["java/lang/RuntimeException", "java/lang/Exception"]).filter goodWord) := fun w h => ⟨wsL_law_x1 w h, good_of_word (List.mem_filter.mp h).2⟩
set_option maxRecDepth 20000 in
theorem wsL_law_x2 : ∀ w ∈ (vx_atS RX4 93 "java/lang/IllegalStateException" ["java/lang/RuntimeException", "java/lang/Exception"]).filter goodWord, w ∈ lw_tbl := by decide +kernel
theorem gi_x2 : GoodIn lw_tbl ((vx_atS RX4 93 "java/lang/IllegalStateException" ["java/lang/RuntimeException", "java/lang/Exception"]).filter goodWord) := fun w h => ⟨wsL_law_x2 w h, good_of_word (List.mem_filter.mp h).2⟩
theorem gi_law0 : GoodIn lw_tbl wsL_law0 := goodIn_app (goodIn_app (goodIn_app (goodIn_app (goodIn_app (goodIn_app (goodIn_app (goodIn_app gi_wsL_law0_r1 (goodIn_app gi_wsL_law0_r2 (goodIn_app gi_wsL_law0_r3 (goodIn_app gi_wsL_law0_r4 (goodIn_app gi_wsL_law0_r5 (goodIn_app gi_wsL_law0_r6 (goodIn_app gi_wsL_law0_r7 (goodIn_app gi_wsL_law0_r8 (goodIn_app gi_wsL_law0_r9 (goodIn_app gi_wsL_law0_r10 (goodIn_app gi_wsL_law0_r11 (goodIn_app gi_wsL_law0_r12 (goodIn_app gi_wsL_law0_r13 (goodIn_app gi_wsL_law0_r14 (goodIn_app gi_wsL_law0_r15 (goodIn_app gi_wsL_law0_r16 (goodIn_app gi_wsL_law0_r17 (goodIn_app gi_wsL_law0_r18 (goodIn_app gi_wsL_law0_r19 (goodIn_app gi_wsL_law0_r20 (goodIn_app gi_wsL_law0_r21 (goodIn_app gi_wsL_law0_r22 (goodIn_app gi_wsL_law0_r23 (goodIn_app gi_wsL_law0_r24 (goodIn_app gi_wsL_law0_r25 (goodIn_app gi_wsL_law0_r26 (goodIn_app gi_wsL_law0_r27 (goodIn_app gi_wsL_law0_r28 (goodIn_app gi_wsL_law0_r29 (gi_wsL_law0_r30)))))))))))))))))))))))))))))) gi_wsX40) gi_wsX50) gi_wsX10) gi_wsX20) gi_wsX30) gi_wsX00) (fun _ h => absurd h List.not_mem_nil)
theorem gi_law : GoodIn lw_tbl wsL_law := goodIn_app (goodIn_app (goodIn_app gi_law0 gi_x0) gi_x1) gi_x2
end
section
/-! THE WORLD OF THIS CLAIM. M k i: the i-th number of the k-th cell. Cells 0..48 are those of the class's object, of the model and the law's 'out'; from 49 on lie the kept drawings, five cells each. -/
abbrev Mem : Type := Nat → Nat → Int32
def wrR (M : Mem) (k : Nat) (f : Nat → Int32) : Mem := fun a => if a = k then f else M a
def wr (M : Mem) (k i : Nat) (v : Int32) : Mem := wrR M k (upd (M k) i v)
theorem wr_at (M : Mem) (k i : Nat) (v : Int32) (a b : Nat) : wr M k i v a b = if a = k ∧ b = i then v else M a b := by
  unfold wr wrR upd
  by_cases h : a = k
  · subst h
    by_cases h2 : b = i
    · simp [h2]
    · simp [h2]
  · simp [h]
/-- a cell's shape: an array (0 int, 1 boolean, 2 long, 3 of drawings) with its length, or an object: its class, its fields (none: a number; some j: the cell j) -/
abbrev Shp : Type := (Nat × Nat) ⊕ (Nat × List (Option Nat))
def drS (o : Nat) : Nat → Shp
  | 0 => .inr (1, [some (o + 1), some (o + 2), some (o + 3), some (o + 4)])
  | 1 => .inl (0, 192)
  | 2 => .inl (0, 192)
  | _ => .inl (0, 24)
def shL : List Shp := [.inr (4, [some 1, some 6, some 10, some 17]), .inr (1, [some 2, some 3, some 4, some 5]), .inl (0, 192), .inl (0, 192), .inl (0, 24), .inl (0, 24),
  .inr (2, [some 7, some 8, some 9, none]), .inl (0, 24), .inl (0, 92), .inl (0, 92),
  .inr (3, [some 11, none, some 12, some 13, some 14, some 15, some 16]), .inl (3, 10), .inl (0, 36), .inl (0, 36), .inl (0, 2), .inl (0, 2), .inl (0, 97),
  .inr (0, [none, none, some 18, some 19, some 20, some 21, some 22, some 23, some 24, some 25, some 26, none, none]), .inl (0, 903), .inl (0, 903), .inl (0, 903), .inl (0, 97), .inl (0, 903), .inl (0, 903), .inl (0, 903), .inl (0, 903), .inl (0, 903),
  .inr (5, [none, none, some 28, some 29, some 30, some 31, some 32, some 33, none, some 34, some 35, some 36, some 37, some 38, none, some 39, some 40, some 41, some 42, some 43, some 44, some 45, some 46, none, none, some 47]),
  .inl (0, 264), .inl (0, 264), .inl (0, 2112), .inl (0, 2112), .inl (0, 32), .inl (0, 96), .inl (0, 96), .inl (0, 36), .inl (0, 36), .inl (0, 2), .inl (0, 2), .inl (0, 1000), .inl (0, 1000), .inl (0, 1000), .inl (1, 1000), .inl (1, 97), .inl (0, 1000), .inl (0, 1000), .inl (0, 1000), .inl (0, 1000), .inl (2, 1)]
def sh0 (k : Nat) : Shp := if k < 49 then shL.getD k (.inl (0, 0)) else drS (49 + 5 * ((k - 49) / 5)) ((k - 49) % 5)
def fl (ad : Nat → Nat) (f : Nat → Int32) : Nat → List (Option Nat) → List Value
  | _, [] => []
  | i, none :: t => .int (f i) :: fl ad f (i + 1) t
  | i, some j :: t => .ref (ad j) :: fl ad f (i + 1) t
/-- what stands in an array of drawings: 0 is null, any other number the cell of that number -/
def dec (ad : Nat → Nat) (v : Int32) : Option Nat := if v = 0 then none else some (ad v.toNatClampNeg)
def en (cA : Nat → ClassId) (ad : Nat → Nat) (f : Nat → Int32) : Shp → va_E
  | .inl (0, n) => .inl (cA 0, n, .inl f)
  | .inl (1, n) => .inl (cA 1, n, .inl f)
  | .inl (2, n) => .inl (cA 2, n, .inr (.inl (fun i => (f i).toInt64)))
  | .inl (_, n) => .inl (cA 3, n, .inr (.inr (.inr (.inr (fun i => dec ad (f i))))))
  | .inr (ci, fs) => .inr (ci, fl ad f 0 fs)
def Wd (cA : Nat → ClassId) (ad : Nat → Nat) (n : Nat) (M : Mem) : va_W := (List.range n).map (fun k => (ad k, en cA ad (M k) (sh0 k)))
theorem Wd_at {cA : Nat → ClassId} {ad : Nat → Nat} {n : Nat} {M : Mem} {k : Nat} (h : k < n) : (Wd cA ad n M)[k]? = some (ad k, en cA ad (M k) (sh0 k)) := by
  unfold Wd
  rw [List.getElem?_map, List.getElem?_range h]
  rfl
theorem map_range_set {α : Type} (g : Nat → α) (n k : Nat) (v : α) : ((List.range n).map g).set k v = (List.range n).map (fun j => if j = k then v else g j) := by
  apply List.ext_getElem?
  intro j
  by_cases hj : j = k
  · subst hj
    by_cases h : j < n
    · rw [List.getElem?_set_self (by simpa using h), List.getElem?_map, List.getElem?_range h]
      simp
    · rw [List.getElem?_eq_none (by simpa using h), List.getElem?_eq_none (by simpa using h)]
  · rw [List.getElem?_set_ne (Ne.symm hj), List.getElem?_map, List.getElem?_map]
    by_cases h : j < n
    · rw [List.getElem?_range h]
      simp [hj]
    · rw [List.getElem?_eq_none (by simpa using h)]
      rfl
theorem Wd_set {cA : Nat → ClassId} {ad : Nat → Nat} {n : Nat} {M : Mem} {k : Nat} {f : Nat → Int32} (h : k < n) : (Wd cA ad n M).set k (ad k, en cA ad f (sh0 k)) = Wd cA ad n (wrR M k f) := by
  unfold Wd
  rw [map_range_set]
  congr 1
  funext j
  unfold wrR
  by_cases hj : j = k
  · rw [if_pos hj, if_pos hj, hj]
  · rw [if_neg hj, if_neg hj]
theorem fl_int {ad : Nat → Nat} {f : Nat → Int32} : ∀ (fs : List (Option Nat)) (i k : Nat), fs[k]? = some none → (fl ad f i fs)[k]? = some (.int (f (i + k)))
  | [], _, k, h => by simp at h
  | none :: t, i, 0, _ => rfl
  | some j :: t, i, 0, h => by simp at h
  | none :: t, i, k + 1, h => by
    have := fl_int (ad := ad) (f := f) t (i + 1) k (by simpa using h)
    rw [show i + (k + 1) = i + 1 + k by omega]
    simpa [fl] using this
  | some j :: t, i, k + 1, h => by
    have := fl_int (ad := ad) (f := f) t (i + 1) k (by simpa using h)
    rw [show i + (k + 1) = i + 1 + k by omega]
    simpa [fl] using this
theorem fl_ref {ad : Nat → Nat} {f : Nat → Int32} {j : Nat} : ∀ (fs : List (Option Nat)) (i k : Nat), fs[k]? = some (some j) → (fl ad f i fs)[k]? = some (.ref (ad j))
  | [], _, k, h => by simp at h
  | none :: t, i, 0, h => by simp at h
  | some j' :: t, i, 0, h => by
    have e : some j' = some j := by simpa using h
    cases e
    rfl
  | none :: t, i, k + 1, h => by
    have := fl_ref (ad := ad) (f := f) t (i + 1) k (by simpa using h)
    simpa [fl] using this
  | some j :: t, i, k + 1, h => by
    have := fl_ref (ad := ad) (f := f) t (i + 1) k (by simpa using h)
    simpa [fl] using this
theorem fl_len {ad : Nat → Nat} {f : Nat → Int32} : ∀ (fs : List (Option Nat)) (i : Nat), (fl ad f i fs).length = fs.length
  | [], _ => rfl
  | none :: t, i => by simp [fl, fl_len t]
  | some j :: t, i => by simp [fl, fl_len t]
theorem fl_same {ad : Nat → Nat} {f g : Nat → Int32} : ∀ (fs : List (Option Nat)) (i : Nat), (∀ j, i ≤ j → f j = g j) → fl ad f i fs = fl ad g i fs
  | [], _, _ => rfl
  | none :: t, i, h => by simp only [fl]; rw [h i (Nat.le_refl _), fl_same t (i + 1) (fun j hj => h j (by omega))]
  | some j :: t, i, h => by simp only [fl]; rw [fl_same t (i + 1) (fun j hj => h j (by omega))]
theorem fl_set {ad : Nat → Nat} {f : Nat → Int32} {v : Int32} : ∀ (fs : List (Option Nat)) (i k : Nat), fs[k]? = some none → (fl ad f i fs).set k (.int v) = fl ad (upd f (i + k) v) i fs
  | [], _, k, h => by simp at h
  | none :: t, i, 0, _ => by
    simp only [fl, List.set_cons_zero, Nat.add_zero]
    rw [fl_same (g := upd f i v) t (i + 1) (fun j hj => by unfold upd; rw [if_neg (by omega)])]
    simp [upd]
  | some j :: t, i, 0, h => by simp at h
  | none :: t, i, k + 1, h => by
    have := fl_set (ad := ad) (f := f) (v := v) t (i + 1) k (by simpa using h)
    simp only [fl, List.set_cons_succ]
    rw [this, show i + 1 + k = i + (k + 1) by omega]
    simp [upd, show ¬ i = i + (k + 1) by omega]
  | some j :: t, i, k + 1, h => by
    have := fl_set (ad := ad) (f := f) (v := v) t (i + 1) k (by simpa using h)
    simp only [fl, List.set_cons_succ]
    rw [this, show i + 1 + k = i + (k + 1) by omega]
/-- the addresses: apart, and of the kind A -/
def Dd (A : Nat → Prop) (ad : Nat → Nat) (n : Nat) : Prop := (∀ i j, i < n → j < n → ad i = ad j → i = j) ∧ ∀ i, i < n → A (ad i)
theorem Dd.D {A : Nat → Prop} {ad : Nat → Nat} {n : Nat} (h : Dd A ad n) (cA : Nat → ClassId) (M : Mem) : va_D A (Wd cA ad n M) := by
  have key : ∀ (k : Nat) (q : Nat × va_E), (Wd cA ad n M)[k]? = some q → k < n ∧ q.1 = ad k := by
    intro k q hk
    have hl : k < n := by
      have := (List.getElem?_eq_some_iff.mp hk).1
      simpa [Wd] using this
    rw [Wd_at hl] at hk
    cases hk
    exact ⟨hl, rfl⟩
  refine ⟨fun i j p q hi hj he => ?_, fun k q hk => ?_⟩
  · obtain ⟨h1, h2⟩ := key i p hi
    obtain ⟨h3, h4⟩ := key j q hj
    exact h.1 i j h1 h3 (by rw [← h2, ← h4]; exact he)
  · obtain ⟨h1, h2⟩ := key k q hk
    rw [h2]
    exact h.2 k h1
abbrev cls6 : List vw_C := [(RX0, TX0, 13), (RX1, TX1, 4), (RX2, TX2, 4), (RX3, TX3, 7), (RX4, TX4, 4), (RX5, TX5, 26)]
def ty4 (cA : Nat → ClassId) : List (ClassId × FieldType) := [(cA 0, .int), (cA 1, .boolean), (cA 2, .long), (cA 3, .object RX1)]
end
section
/-! THE JUDGEMENT: the method stands at pc with locals L and operands st, the world holds the memory M: it comes to Q. -/
def KS (A : Nat → Prop) (sa : Nat → Nat) (U : State) (H : Heap) : Prop := vx_Zq Bundle.tN "UNASSIGNED_STACK" Bundle.steD A U H ∧ vx_Zq Bundle.tN "SUPPRESSED_SENTINEL" Bundle.listD A U H ∧ vk_R RX4 160 "there is none with this number" (sa 0) U ∧ vk_R RX4 165 "the argument is out of its range" (sa 1) U ∧ vk_R RX4 91 "the drawing does not tile, or ten are kept" (sa 2) U
def Cx (p : Program) (s : State) (m : MethodId) (args : Array Value) (meth : Method) (c : Code) (D : va_G) (cA : Nat → ClassId) (ad : Nat → Nat) (n : Nat) (A : Nat → Prop) (sa : Nat → Nat) (cc : ByteArray) (nL : Nat) (own : String) (kt : List (Nat × Instr × Nat)) : Prop :=
  p.tables.exec = Jvm.exec ∧ c.code = cc ∧ c.maxLocals = nL ∧ s.vm.findClass own = some m.cls ∧ (∀ w ∈ wsL_law, w.before args s = true) ∧ va_K D cls6 (ty4 cA) s ∧ Dd A ad n ∧ (∀ q, s.heap.size ≤ q → A q) ∧ 49 ≤ n ∧ KS A sa s s.heap ∧ meth.locks = false ∧ ∀ (i : Nat) (q : Nat × Instr × Nat), kt[i]? = some q → decode cc q.1 = .ok q.2
def J (p : Program) (l : Launch) (e : Env) (R : Room) (s : State) (m : MethodId) (args : Array Value) (below : List Frame) (meth : Method) (c : Code) (D : va_G) (cA : Nat → ClassId) (ad : Nat → Nat) (n : Nat) (A : Nat → Prop) (nL cells slots : Nat) (Q : State → Prop) (M : Mem) (pc : Nat) (L : List (Nat × Value)) (st : List Value) : Prop :=
  ∀ (H : Heap) (locs : List Loc) (ls : Array Slot), va_P D cls6 (Wd cA ad n M) H → va_S A s.heap H locs → lv_has ls nL L → W p l e R s m args below meth c H locs cells slots Q (F0 m pc ls st)
section JR
variable {p : Program} {l : Launch} {e : Env} {R : Room} {s : State} {m : MethodId} {args : Array Value} {below : List Frame} {meth : Method} {c : Code} {D : va_G} {cA : Nat → ClassId} {ad : Nat → Nat} {n : Nat} {A : Nat → Prop} {sa : Nat → Nat} {nL cells slots : Nat} {Q : State → Prop} {cc : ByteArray} {own : String} {kt : List (Nat × Instr × Nat)} {M : Mem} {pc : Nat} {L : List (Nat × Value)} {st : List Value}
theorem Cx.ex (h : Cx p s m args meth c D cA ad n A sa cc nL own kt) : p.tables.exec = Jvm.exec := by unfold Cx at h; exact h.1
theorem Cx.by (h : Cx p s m args meth c D cA ad n A sa cc nL own kt) : c.code = cc := by unfold Cx at h; exact h.2.1
theorem Cx.ml (h : Cx p s m args meth c D cA ad n A sa cc nL own kt) : c.maxLocals = nL := by unfold Cx at h; exact h.2.2.1
theorem Cx.ow (h : Cx p s m args meth c D cA ad n A sa cc nL own kt) : s.vm.findClass own = some m.cls := by unfold Cx at h; exact h.2.2.2.1
theorem Cx.ws (h : Cx p s m args meth c D cA ad n A sa cc nL own kt) : ∀ w ∈ wsL_law, w.before args s = true := by unfold Cx at h; exact h.2.2.2.2.1
theorem Cx.kn (h : Cx p s m args meth c D cA ad n A sa cc nL own kt) : va_K D cls6 (ty4 cA) s := by unfold Cx at h; exact h.2.2.2.2.2.1
theorem Cx.dd (h : Cx p s m args meth c D cA ad n A sa cc nL own kt) : Dd A ad n := by unfold Cx at h; exact h.2.2.2.2.2.2.1
theorem Cx.hA (h : Cx p s m args meth c D cA ad n A sa cc nL own kt) : ∀ q, s.heap.size ≤ q → A q := by unfold Cx at h; exact h.2.2.2.2.2.2.2.1
theorem Cx.n49 (h : Cx p s m args meth c D cA ad n A sa cc nL own kt) : 49 ≤ n := by unfold Cx at h; exact h.2.2.2.2.2.2.2.2.1
theorem Cx.ks (h : Cx p s m args meth c D cA ad n A sa cc nL own kt) : KS A sa s s.heap := by unfold Cx at h; exact h.2.2.2.2.2.2.2.2.2.1
theorem Cx.lk (h : Cx p s m args meth c D cA ad n A sa cc nL own kt) : meth.locks = false := by unfold Cx at h; exact h.2.2.2.2.2.2.2.2.2.2.1
theorem Cx.dec (h : Cx p s m args meth c D cA ad n A sa cc nL own kt) {i pc len : Nat} {ins : Instr} (hk : kt[i]? = some (pc, ins, len)) : decode cc pc = .ok (ins, len) := by
  unfold Cx at h
  have h1 := h.2.2.2.2.2.2.2.2.2.2.2 i (pc, ins, len) hk
  dsimp only at h1
  exact h1
theorem J.sub {L' : List (Nat × Value)} (ks : List Nat) (hl : lv_pick L ks = L') (kk : J p l e R s m args below meth c D cA ad n A nL cells slots Q M pc L' st) : J p l e R s m args below meth c D cA ad n A nL cells slots Q M pc L st := fun H locs ls hP hS hL => kk H locs ls hP hS (lv_sub hL ks hl)
theorem J.eqM {M' : Mem} (h : M = M') (kk : J p l e R s m args below meth c D cA ad n A nL cells slots Q M' pc L st) : J p l e R s m args below meth c D cA ad n A nL cells slots Q M pc L st := by rw [h]; exact kk
theorem J.name {x : Int32} (kk : ∀ y : Int32, y = x → J p l e R s m args below meth c D cA ad n A nL cells slots Q M pc L (.int y :: st)) : J p l e R s m args below meth c D cA ad n A nL cells slots Q M pc L (.int x :: st) := kk x rfl
theorem J.iconst (hX : Cx p s m args meth c D cA ad n A sa cc nL own kt) (i : Nat) {v : Int32} {z : Int} (hk : kt[i]? = some (pc, .iconst z, 1)) (hv : Int32.ofInt z = v) (kk : J p l e R s m args below meth c D cA ad n A nL cells slots Q M (pc + 1) L (.int v :: st)) : J p l e R s m args below meth c D cA ad n A nL cells slots Q M pc L st := fun H locs ls hP hS hL => lv_iconst hX.ex hX.by (hX.dec hk) hv (kk H locs ls hP hS hL)
theorem J.bipush (hX : Cx p s m args meth c D cA ad n A sa cc nL own kt) (i : Nat) {v : Int32} {z : Int} (hk : kt[i]? = some (pc, .bipush z, 2)) (hv : (Int8.ofInt z).toInt32 = v) (kk : J p l e R s m args below meth c D cA ad n A nL cells slots Q M (pc + 2) L (.int v :: st)) : J p l e R s m args below meth c D cA ad n A nL cells slots Q M pc L st := fun H locs ls hP hS hL => lv_bipush hX.ex hX.by (hX.dec hk) hv (kk H locs ls hP hS hL)
theorem J.sipush (hX : Cx p s m args meth c D cA ad n A sa cc nL own kt) (i : Nat) {v : Int32} {z : Int} (hk : kt[i]? = some (pc, .sipush z, 3)) (hv : (Int16.ofInt z).toInt32 = v) (kk : J p l e R s m args below meth c D cA ad n A nL cells slots Q M (pc + 3) L (.int v :: st)) : J p l e R s m args below meth c D cA ad n A nL cells slots Q M pc L st := fun H locs ls hP hS hL => lv_sipush hX.ex hX.by (hX.dec hk) hv (kk H locs ls hP hS hL)
theorem J.ldcw (hX : Cx p s m args meth c D cA ad n A sa cc nL own kt) (i : Nat) {v : Int32} {ix : Nat} (hk : kt[i]? = some (pc, .ldc_w ix, 3)) (hw : Cond.constant own ix v ∈ wsL_law) (kk : J p l e R s m args below meth c D cA ad n A nL cells slots Q M (pc + 3) L (.int v :: st)) : J p l e R s m args below meth c D cA ad n A nL cells slots Q M pc L st := fun H locs ls hP hS hL => lv_ldcw hX.ex hX.by hX.ow (hX.ws _ hw) (hX.dec hk) (kk H locs ls hP hS hL)
theorem J.iload_n (hX : Cx p s m args meth c D cA ad n A sa cc nL own kt) (i : Nat) {k : Fin 4} {x : Int32} (q : Nat) (hk : kt[i]? = some (pc, .iload_n k, 1)) (hl : L[q]? = some (k.val, .int x)) (kk : J p l e R s m args below meth c D cA ad n A nL cells slots Q M (pc + 1) L (.int x :: st)) : J p l e R s m args below meth c D cA ad n A nL cells slots Q M pc L st := fun H locs ls hP hS hL => lv_iload_n hX.ex hX.by (hX.dec hk) rfl (lv_at hL q hl) (kk H locs ls hP hS hL)
theorem J.iload (hX : Cx p s m args meth c D cA ad n A sa cc nL own kt) (i : Nat) {k : Nat} {x : Int32} (q : Nat) (hk : kt[i]? = some (pc, .iload k, 2)) (hl : L[q]? = some (k, .int x)) (kk : J p l e R s m args below meth c D cA ad n A nL cells slots Q M (pc + 2) L (.int x :: st)) : J p l e R s m args below meth c D cA ad n A nL cells slots Q M pc L st := fun H locs ls hP hS hL => lv_iload hX.ex hX.by (hX.dec hk) (lv_at hL q hl) (kk H locs ls hP hS hL)
theorem J.aload_n (hX : Cx p s m args meth c D cA ad n A sa cc nL own kt) (i : Nat) {k : Fin 4} {x : Nat} (q : Nat) (hk : kt[i]? = some (pc, .aload_n k, 1)) (hl : L[q]? = some (k.val, .ref x)) (kk : J p l e R s m args below meth c D cA ad n A nL cells slots Q M (pc + 1) L (.ref x :: st)) : J p l e R s m args below meth c D cA ad n A nL cells slots Q M pc L st := fun H locs ls hP hS hL => lv_aload_n hX.ex hX.by (hX.dec hk) rfl (lv_at hL q hl) (kk H locs ls hP hS hL)
theorem J.aload (hX : Cx p s m args meth c D cA ad n A sa cc nL own kt) (i : Nat) {k : Nat} {x : Nat} (q : Nat) (hk : kt[i]? = some (pc, .aload k, 2)) (hl : L[q]? = some (k, .ref x)) (kk : J p l e R s m args below meth c D cA ad n A nL cells slots Q M (pc + 2) L (.ref x :: st)) : J p l e R s m args below meth c D cA ad n A nL cells slots Q M pc L st := fun H locs ls hP hS hL => lv_aload hX.ex hX.by (hX.dec hk) (lv_at hL q hl) (kk H locs ls hP hS hL)
theorem J.istore_n (hX : Cx p s m args meth c D cA ad n A sa cc nL own kt) (i : Nat) {k : Fin 4} {x : Int32} {L' : List (Nat × Value)} (hk : kt[i]? = some (pc, .istore_n k, 1)) (hn : k.val < nL) (hl : (k.val, Value.int x) :: L.filter (fun q => !(q.1 == k.val) && !(q.1 + 1 == k.val && q.2.category == 2)) = L') (kk : J p l e R s m args below meth c D cA ad n A nL cells slots Q M (pc + 1) L' st) : J p l e R s m args below meth c D cA ad n A nL cells slots Q M pc L (.int x :: st) := fun H locs ls hP hS hL => lv_istore_n hX.ex hX.by (hX.dec hk) rfl hL hn hl (fun ls hL => (kk H locs ls hP hS hL))
theorem J.istore (hX : Cx p s m args meth c D cA ad n A sa cc nL own kt) (i : Nat) {k : Nat} {x : Int32} {L' : List (Nat × Value)} (hk : kt[i]? = some (pc, .istore k, 2)) (hn : k < nL) (hl : (k, Value.int x) :: L.filter (fun q => !(q.1 == k) && !(q.1 + 1 == k && q.2.category == 2)) = L') (kk : J p l e R s m args below meth c D cA ad n A nL cells slots Q M (pc + 2) L' st) : J p l e R s m args below meth c D cA ad n A nL cells slots Q M pc L (.int x :: st) := fun H locs ls hP hS hL => lv_istore hX.ex hX.by (hX.dec hk) hL hn hl (fun ls hL => (kk H locs ls hP hS hL))
theorem J.astore_n (hX : Cx p s m args meth c D cA ad n A sa cc nL own kt) (i : Nat) {k : Fin 4} {x : Nat} {L' : List (Nat × Value)} (hk : kt[i]? = some (pc, .astore_n k, 1)) (hn : k.val < nL) (hl : (k.val, Value.ref x) :: L.filter (fun q => !(q.1 == k.val) && !(q.1 + 1 == k.val && q.2.category == 2)) = L') (kk : J p l e R s m args below meth c D cA ad n A nL cells slots Q M (pc + 1) L' st) : J p l e R s m args below meth c D cA ad n A nL cells slots Q M pc L (.ref x :: st) := fun H locs ls hP hS hL => lv_astore_n hX.ex hX.by (hX.dec hk) rfl hL hn hl (fun ls hL => (kk H locs ls hP hS hL))
theorem J.astore (hX : Cx p s m args meth c D cA ad n A sa cc nL own kt) (i : Nat) {k : Nat} {x : Nat} {L' : List (Nat × Value)} (hk : kt[i]? = some (pc, .astore k, 2)) (hn : k < nL) (hl : (k, Value.ref x) :: L.filter (fun q => !(q.1 == k) && !(q.1 + 1 == k && q.2.category == 2)) = L') (kk : J p l e R s m args below meth c D cA ad n A nL cells slots Q M (pc + 2) L' st) : J p l e R s m args below meth c D cA ad n A nL cells slots Q M pc L (.ref x :: st) := fun H locs ls hP hS hL => lv_astore hX.ex hX.by (hX.dec hk) hL hn hl (fun ls hL => (kk H locs ls hP hS hL))
theorem J.iinc (hX : Cx p s m args meth c D cA ad n A sa cc nL own kt) (i : Nat) {k q : Nat} {z : Int} {x v : Int32} {L' : List (Nat × Value)} (hk : kt[i]? = some (pc, .iinc k z, 3)) (hq : L[q]? = some (k, .int x)) (hv : x + Int32.ofInt z = v) (hn : k < nL) (hl : (k, Value.int v) :: L.filter (fun q => !(q.1 == k) && !(q.1 + 1 == k && q.2.category == 2)) = L') (kk : J p l e R s m args below meth c D cA ad n A nL cells slots Q M (pc + 3) L' st) : J p l e R s m args below meth c D cA ad n A nL cells slots Q M pc L st := fun H locs ls hP hS hL => lv_iinc hX.ex hX.by (hX.dec hk) hL hq hv hn hl (fun ls hL => (kk H locs ls hP hS hL))
theorem J.iadd (hX : Cx p s m args meth c D cA ad n A sa cc nL own kt) (i : Nat) {x y : Int32} (hk : kt[i]? = some (pc, .iadd, 1)) (kk : J p l e R s m args below meth c D cA ad n A nL cells slots Q M (pc + 1) L (.int (x + y) :: st)) : J p l e R s m args below meth c D cA ad n A nL cells slots Q M pc L (.int y :: .int x :: st) := fun H locs ls hP hS hL => lv_iadd hX.ex hX.by (hX.dec hk) (kk H locs ls hP hS hL)
theorem J.isub (hX : Cx p s m args meth c D cA ad n A sa cc nL own kt) (i : Nat) {x y : Int32} (hk : kt[i]? = some (pc, .isub, 1)) (kk : J p l e R s m args below meth c D cA ad n A nL cells slots Q M (pc + 1) L (.int (x - y) :: st)) : J p l e R s m args below meth c D cA ad n A nL cells slots Q M pc L (.int y :: .int x :: st) := fun H locs ls hP hS hL => lv_isub hX.ex hX.by (hX.dec hk) (kk H locs ls hP hS hL)
theorem J.imul (hX : Cx p s m args meth c D cA ad n A sa cc nL own kt) (i : Nat) {x y : Int32} (hk : kt[i]? = some (pc, .imul, 1)) (kk : J p l e R s m args below meth c D cA ad n A nL cells slots Q M (pc + 1) L (.int (x * y) :: st)) : J p l e R s m args below meth c D cA ad n A nL cells slots Q M pc L (.int y :: .int x :: st) := fun H locs ls hP hS hL => lv_imul hX.ex hX.by (hX.dec hk) (kk H locs ls hP hS hL)
theorem J.iand (hX : Cx p s m args meth c D cA ad n A sa cc nL own kt) (i : Nat) {x y : Int32} (hk : kt[i]? = some (pc, .iand, 1)) (kk : J p l e R s m args below meth c D cA ad n A nL cells slots Q M (pc + 1) L (.int (x &&& y) :: st)) : J p l e R s m args below meth c D cA ad n A nL cells slots Q M pc L (.int y :: .int x :: st) := fun H locs ls hP hS hL => lv_iand hX.ex hX.by (hX.dec hk) (kk H locs ls hP hS hL)
theorem J.ior (hX : Cx p s m args meth c D cA ad n A sa cc nL own kt) (i : Nat) {x y : Int32} (hk : kt[i]? = some (pc, .ior, 1)) (kk : J p l e R s m args below meth c D cA ad n A nL cells slots Q M (pc + 1) L (.int (x ||| y) :: st)) : J p l e R s m args below meth c D cA ad n A nL cells slots Q M pc L (.int y :: .int x :: st) := fun H locs ls hP hS hL => lv_ior hX.ex hX.by (hX.dec hk) (kk H locs ls hP hS hL)
theorem J.ixor (hX : Cx p s m args meth c D cA ad n A sa cc nL own kt) (i : Nat) {x y : Int32} (hk : kt[i]? = some (pc, .ixor, 1)) (kk : J p l e R s m args below meth c D cA ad n A nL cells slots Q M (pc + 1) L (.int (x ^^^ y) :: st)) : J p l e R s m args below meth c D cA ad n A nL cells slots Q M pc L (.int y :: .int x :: st) := fun H locs ls hP hS hL => lv_ixor hX.ex hX.by (hX.dec hk) (kk H locs ls hP hS hL)
theorem J.ishl (hX : Cx p s m args meth c D cA ad n A sa cc nL own kt) (i : Nat) {x y : Int32} (hk : kt[i]? = some (pc, .ishl, 1)) (kk : J p l e R s m args below meth c D cA ad n A nL cells slots Q M (pc + 1) L (.int (x <<< (y &&& 31)) :: st)) : J p l e R s m args below meth c D cA ad n A nL cells slots Q M pc L (.int y :: .int x :: st) := fun H locs ls hP hS hL => lv_ishl hX.ex hX.by (hX.dec hk) (kk H locs ls hP hS hL)
theorem J.ishr (hX : Cx p s m args meth c D cA ad n A sa cc nL own kt) (i : Nat) {x y : Int32} (hk : kt[i]? = some (pc, .ishr, 1)) (kk : J p l e R s m args below meth c D cA ad n A nL cells slots Q M (pc + 1) L (.int (x >>> (y &&& 31)) :: st)) : J p l e R s m args below meth c D cA ad n A nL cells slots Q M pc L (.int y :: .int x :: st) := fun H locs ls hP hS hL => lv_ishr hX.ex hX.by (hX.dec hk) (kk H locs ls hP hS hL)
theorem J.iushr (hX : Cx p s m args meth c D cA ad n A sa cc nL own kt) (i : Nat) {x y : Int32} (hk : kt[i]? = some (pc, .iushr, 1)) (kk : J p l e R s m args below meth c D cA ad n A nL cells slots Q M (pc + 1) L (.int (x.toUInt32 >>> (y.toUInt32 &&& Int32.toUInt32 31)).toInt32 :: st)) : J p l e R s m args below meth c D cA ad n A nL cells slots Q M pc L (.int y :: .int x :: st) := fun H locs ls hP hS hL => lv_iushr hX.ex hX.by (hX.dec hk) rfl (kk H locs ls hP hS hL)
theorem J.idiv (hX : Cx p s m args meth c D cA ad n A sa cc nL own kt) (i : Nat) {x y : Int32} (hk : kt[i]? = some (pc, .idiv, 1)) (hy : ¬ y = 0) (kk : J p l e R s m args below meth c D cA ad n A nL cells slots Q M (pc + 1) L (.int (x / y) :: st)) : J p l e R s m args below meth c D cA ad n A nL cells slots Q M pc L (.int y :: .int x :: st) := fun H locs ls hP hS hL => lv_idiv hX.ex hX.by (hX.dec hk) hy (kk H locs ls hP hS hL)
theorem J.irem (hX : Cx p s m args meth c D cA ad n A sa cc nL own kt) (i : Nat) {x y : Int32} (hk : kt[i]? = some (pc, .irem, 1)) (hy : ¬ y = 0) (kk : J p l e R s m args below meth c D cA ad n A nL cells slots Q M (pc + 1) L (.int (x - x / y * y) :: st)) : J p l e R s m args below meth c D cA ad n A nL cells slots Q M pc L (.int y :: .int x :: st) := fun H locs ls hP hS hL => lv_irem hX.ex hX.by (hX.dec hk) hy (kk H locs ls hP hS hL)
theorem J.ineg (hX : Cx p s m args meth c D cA ad n A sa cc nL own kt) (i : Nat) {x : Int32} (hk : kt[i]? = some (pc, .ineg, 1)) (kk : J p l e R s m args below meth c D cA ad n A nL cells slots Q M (pc + 1) L (.int (-x) :: st)) : J p l e R s m args below meth c D cA ad n A nL cells slots Q M pc L (.int x :: st) := fun H locs ls hP hS hL => lv_ineg hX.ex hX.by (hX.dec hk) (kk H locs ls hP hS hL)
theorem J.dup (hX : Cx p s m args meth c D cA ad n A sa cc nL own kt) (i : Nat) {v : Value} (hk : kt[i]? = some (pc, .dup, 1)) (hv : v.category = 1) (kk : J p l e R s m args below meth c D cA ad n A nL cells slots Q M (pc + 1) L (v :: v :: st)) : J p l e R s m args below meth c D cA ad n A nL cells slots Q M pc L (v :: st) := fun H locs ls hP hS hL => lv_dup hX.ex hX.by (hX.dec hk) hv (kk H locs ls hP hS hL)
theorem J.dup2 (hX : Cx p s m args meth c D cA ad n A sa cc nL own kt) (i : Nat) {v w : Value} (hk : kt[i]? = some (pc, .dup2, 1)) (hv : v.category = 1) (hw : w.category = 1) (kk : J p l e R s m args below meth c D cA ad n A nL cells slots Q M (pc + 1) L (v :: w :: v :: w :: st)) : J p l e R s m args below meth c D cA ad n A nL cells slots Q M pc L (v :: w :: st) := fun H locs ls hP hS hL => lv_dup2_11 hX.ex hX.by (hX.dec hk) hv hw (kk H locs ls hP hS hL)
theorem J.pop (hX : Cx p s m args meth c D cA ad n A sa cc nL own kt) (i : Nat) {v : Value} (hk : kt[i]? = some (pc, .pop, 1)) (hv : v.category = 1) (kk : J p l e R s m args below meth c D cA ad n A nL cells slots Q M (pc + 1) L st) : J p l e R s m args below meth c D cA ad n A nL cells slots Q M pc L (v :: st) := fun H locs ls hP hS hL => lv_pop hX.ex hX.by (hX.dec hk) hv (kk H locs ls hP hS hL)
theorem J.i2l (hX : Cx p s m args meth c D cA ad n A sa cc nL own kt) (i : Nat) {x : Int32} (hk : kt[i]? = some (pc, .i2l, 1)) (kk : J p l e R s m args below meth c D cA ad n A nL cells slots Q M (pc + 1) L (.long x.toInt64 :: st)) : J p l e R s m args below meth c D cA ad n A nL cells slots Q M pc L (.int x :: st) := fun H locs ls hP hS hL => lv_i2l hX.ex hX.by (hX.dec hk) rfl (kk H locs ls hP hS hL)
theorem J.goto (hX : Cx p s m args meth c D cA ad n A sa cc nL own kt) (i : Nat) {off : Int} {tgt : Nat} (hk : kt[i]? = some (pc, .goto off, 3)) (ht : (pc : Int) + off = (tgt : Int)) (kk : J p l e R s m args below meth c D cA ad n A nL cells slots Q M tgt L st) : J p l e R s m args below meth c D cA ad n A nL cells slots Q M pc L st := fun H locs ls hP hS hL => lv_goto hX.ex hX.by (hX.dec hk) ht (kk H locs ls hP hS hL)
theorem J.if_eq (hX : Cx p s m args meth c D cA ad n A sa cc nL own kt) (i : Nat) {x : Int32} {off : Int} {tgt : Nat} (hk : kt[i]? = some (pc, .ifCond .eq off, 3)) (ht : (pc : Int) + off = (tgt : Int)) (k1 : x = 0 → J p l e R s m args below meth c D cA ad n A nL cells slots Q M tgt L st) (k2 : ¬ x = 0 → J p l e R s m args below meth c D cA ad n A nL cells slots Q M (pc + 3) L st) : J p l e R s m args below meth c D cA ad n A nL cells slots Q M pc L (.int x :: st) := fun H locs ls hP hS hL => lv_if_eq hX.ex hX.by (hX.dec hk) ht (fun h => k1 h H locs ls hP hS hL) (fun h => k2 h H locs ls hP hS hL)
theorem J.icmp_eq (hX : Cx p s m args meth c D cA ad n A sa cc nL own kt) (i : Nat) {x y : Int32} {off : Int} {tgt : Nat} (hk : kt[i]? = some (pc, .if_icmp .eq off, 3)) (ht : (pc : Int) + off = (tgt : Int)) (k1 : x = y → J p l e R s m args below meth c D cA ad n A nL cells slots Q M tgt L st) (k2 : ¬ x = y → J p l e R s m args below meth c D cA ad n A nL cells slots Q M (pc + 3) L st) : J p l e R s m args below meth c D cA ad n A nL cells slots Q M pc L (.int y :: .int x :: st) := fun H locs ls hP hS hL => lv_icmp_eq hX.ex hX.by (hX.dec hk) ht (fun h => k1 h H locs ls hP hS hL) (fun h => k2 h H locs ls hP hS hL)
theorem J.if_ne (hX : Cx p s m args meth c D cA ad n A sa cc nL own kt) (i : Nat) {x : Int32} {off : Int} {tgt : Nat} (hk : kt[i]? = some (pc, .ifCond .ne off, 3)) (ht : (pc : Int) + off = (tgt : Int)) (k1 : ¬ x = 0 → J p l e R s m args below meth c D cA ad n A nL cells slots Q M tgt L st) (k2 : x = 0 → J p l e R s m args below meth c D cA ad n A nL cells slots Q M (pc + 3) L st) : J p l e R s m args below meth c D cA ad n A nL cells slots Q M pc L (.int x :: st) := fun H locs ls hP hS hL => lv_if_ne hX.ex hX.by (hX.dec hk) ht (fun h => k1 h H locs ls hP hS hL) (fun h => k2 h H locs ls hP hS hL)
theorem J.icmp_ne (hX : Cx p s m args meth c D cA ad n A sa cc nL own kt) (i : Nat) {x y : Int32} {off : Int} {tgt : Nat} (hk : kt[i]? = some (pc, .if_icmp .ne off, 3)) (ht : (pc : Int) + off = (tgt : Int)) (k1 : ¬ x = y → J p l e R s m args below meth c D cA ad n A nL cells slots Q M tgt L st) (k2 : x = y → J p l e R s m args below meth c D cA ad n A nL cells slots Q M (pc + 3) L st) : J p l e R s m args below meth c D cA ad n A nL cells slots Q M pc L (.int y :: .int x :: st) := fun H locs ls hP hS hL => lv_icmp_ne hX.ex hX.by (hX.dec hk) ht (fun h => k1 h H locs ls hP hS hL) (fun h => k2 h H locs ls hP hS hL)
theorem J.if_lt (hX : Cx p s m args meth c D cA ad n A sa cc nL own kt) (i : Nat) {x : Int32} {off : Int} {tgt : Nat} (hk : kt[i]? = some (pc, .ifCond .lt off, 3)) (ht : (pc : Int) + off = (tgt : Int)) (k1 : x < 0 → J p l e R s m args below meth c D cA ad n A nL cells slots Q M tgt L st) (k2 : ¬ x < 0 → J p l e R s m args below meth c D cA ad n A nL cells slots Q M (pc + 3) L st) : J p l e R s m args below meth c D cA ad n A nL cells slots Q M pc L (.int x :: st) := fun H locs ls hP hS hL => lv_if_lt hX.ex hX.by (hX.dec hk) ht (fun h => k1 h H locs ls hP hS hL) (fun h => k2 h H locs ls hP hS hL)
theorem J.icmp_lt (hX : Cx p s m args meth c D cA ad n A sa cc nL own kt) (i : Nat) {x y : Int32} {off : Int} {tgt : Nat} (hk : kt[i]? = some (pc, .if_icmp .lt off, 3)) (ht : (pc : Int) + off = (tgt : Int)) (k1 : x < y → J p l e R s m args below meth c D cA ad n A nL cells slots Q M tgt L st) (k2 : ¬ x < y → J p l e R s m args below meth c D cA ad n A nL cells slots Q M (pc + 3) L st) : J p l e R s m args below meth c D cA ad n A nL cells slots Q M pc L (.int y :: .int x :: st) := fun H locs ls hP hS hL => lv_icmp_lt hX.ex hX.by (hX.dec hk) ht (fun h => k1 h H locs ls hP hS hL) (fun h => k2 h H locs ls hP hS hL)
theorem J.if_ge (hX : Cx p s m args meth c D cA ad n A sa cc nL own kt) (i : Nat) {x : Int32} {off : Int} {tgt : Nat} (hk : kt[i]? = some (pc, .ifCond .ge off, 3)) (ht : (pc : Int) + off = (tgt : Int)) (k1 : 0 ≤ x → J p l e R s m args below meth c D cA ad n A nL cells slots Q M tgt L st) (k2 : ¬ 0 ≤ x → J p l e R s m args below meth c D cA ad n A nL cells slots Q M (pc + 3) L st) : J p l e R s m args below meth c D cA ad n A nL cells slots Q M pc L (.int x :: st) := fun H locs ls hP hS hL => lv_if_ge hX.ex hX.by (hX.dec hk) ht (fun h => k1 h H locs ls hP hS hL) (fun h => k2 h H locs ls hP hS hL)
theorem J.icmp_ge (hX : Cx p s m args meth c D cA ad n A sa cc nL own kt) (i : Nat) {x y : Int32} {off : Int} {tgt : Nat} (hk : kt[i]? = some (pc, .if_icmp .ge off, 3)) (ht : (pc : Int) + off = (tgt : Int)) (k1 : y ≤ x → J p l e R s m args below meth c D cA ad n A nL cells slots Q M tgt L st) (k2 : ¬ y ≤ x → J p l e R s m args below meth c D cA ad n A nL cells slots Q M (pc + 3) L st) : J p l e R s m args below meth c D cA ad n A nL cells slots Q M pc L (.int y :: .int x :: st) := fun H locs ls hP hS hL => lv_icmp_ge hX.ex hX.by (hX.dec hk) ht (fun h => k1 h H locs ls hP hS hL) (fun h => k2 h H locs ls hP hS hL)
theorem J.if_gt (hX : Cx p s m args meth c D cA ad n A sa cc nL own kt) (i : Nat) {x : Int32} {off : Int} {tgt : Nat} (hk : kt[i]? = some (pc, .ifCond .gt off, 3)) (ht : (pc : Int) + off = (tgt : Int)) (k1 : 0 < x → J p l e R s m args below meth c D cA ad n A nL cells slots Q M tgt L st) (k2 : ¬ 0 < x → J p l e R s m args below meth c D cA ad n A nL cells slots Q M (pc + 3) L st) : J p l e R s m args below meth c D cA ad n A nL cells slots Q M pc L (.int x :: st) := fun H locs ls hP hS hL => lv_if_gt hX.ex hX.by (hX.dec hk) ht (fun h => k1 h H locs ls hP hS hL) (fun h => k2 h H locs ls hP hS hL)
theorem J.icmp_gt (hX : Cx p s m args meth c D cA ad n A sa cc nL own kt) (i : Nat) {x y : Int32} {off : Int} {tgt : Nat} (hk : kt[i]? = some (pc, .if_icmp .gt off, 3)) (ht : (pc : Int) + off = (tgt : Int)) (k1 : y < x → J p l e R s m args below meth c D cA ad n A nL cells slots Q M tgt L st) (k2 : ¬ y < x → J p l e R s m args below meth c D cA ad n A nL cells slots Q M (pc + 3) L st) : J p l e R s m args below meth c D cA ad n A nL cells slots Q M pc L (.int y :: .int x :: st) := fun H locs ls hP hS hL => lv_icmp_gt hX.ex hX.by (hX.dec hk) ht (fun h => k1 h H locs ls hP hS hL) (fun h => k2 h H locs ls hP hS hL)
theorem J.if_le (hX : Cx p s m args meth c D cA ad n A sa cc nL own kt) (i : Nat) {x : Int32} {off : Int} {tgt : Nat} (hk : kt[i]? = some (pc, .ifCond .le off, 3)) (ht : (pc : Int) + off = (tgt : Int)) (k1 : x ≤ 0 → J p l e R s m args below meth c D cA ad n A nL cells slots Q M tgt L st) (k2 : ¬ x ≤ 0 → J p l e R s m args below meth c D cA ad n A nL cells slots Q M (pc + 3) L st) : J p l e R s m args below meth c D cA ad n A nL cells slots Q M pc L (.int x :: st) := fun H locs ls hP hS hL => lv_if_le hX.ex hX.by (hX.dec hk) ht (fun h => k1 h H locs ls hP hS hL) (fun h => k2 h H locs ls hP hS hL)
theorem J.icmp_le (hX : Cx p s m args meth c D cA ad n A sa cc nL own kt) (i : Nat) {x y : Int32} {off : Int} {tgt : Nat} (hk : kt[i]? = some (pc, .if_icmp .le off, 3)) (ht : (pc : Int) + off = (tgt : Int)) (k1 : x ≤ y → J p l e R s m args below meth c D cA ad n A nL cells slots Q M tgt L st) (k2 : ¬ x ≤ y → J p l e R s m args below meth c D cA ad n A nL cells slots Q M (pc + 3) L st) : J p l e R s m args below meth c D cA ad n A nL cells slots Q M pc L (.int y :: .int x :: st) := fun H locs ls hP hS hL => lv_icmp_le hX.ex hX.by (hX.dec hk) ht (fun h => k1 h H locs ls hP hS hL) (fun h => k2 h H locs ls hP hS hL)
theorem en_obj {cA : Nat → ClassId} {ad : Nat → Nat} {f : Nat → Int32} {ci : Nat} {fs : List (Option Nat)} : en cA ad f (.inr (ci, fs)) = .inr (ci, fl ad f 0 fs) := rfl
theorem Wd_o {k ci : Nat} {fs : List (Option Nat)} (hk : k < n) (hs : sh0 k = .inr (ci, fs)) : (Wd cA ad n M)[k]? = some (ad k, .inr (ci, fl ad (M k) 0 fs)) := by rw [Wd_at hk, hs]; rfl
theorem Wd_i {k len : Nat} (hk : k < n) (hs : sh0 k = .inl (0, len)) : (Wd cA ad n M)[k]? = some (ad k, .inl (cA 0, len, .inl (M k))) := by rw [Wd_at hk, hs]; rfl
theorem Wd_z {k len : Nat} (hk : k < n) (hs : sh0 k = .inl (1, len)) : (Wd cA ad n M)[k]? = some (ad k, .inl (cA 1, len, .inl (M k))) := by rw [Wd_at hk, hs]; rfl
theorem Wd_l {k len : Nat} (hk : k < n) (hs : sh0 k = .inl (2, len)) : (Wd cA ad n M)[k]? = some (ad k, .inl (cA 2, len, .inr (.inl (fun i => (M k i).toInt64)))) := by rw [Wd_at hk, hs]; rfl
theorem Wd_q {k len : Nat} (hk : k < n) (hs : sh0 k = .inl (3, len)) : (Wd cA ad n M)[k]? = some (ad k, .inl (cA 3, len, .inr (.inr (.inr (.inr (fun i => dec ad (M k i))))))) := by rw [Wd_at hk, hs]; rfl
theorem Wd_os {k ci j : Nat} {fs : List (Option Nat)} {v : Int32} (hk : k < n) (hs : sh0 k = .inr (ci, fs)) (hj : fs[j]? = some none) : (Wd cA ad n M).set k (ad k, .inr (ci, (fl ad (M k) 0 fs).set j (.int v))) = Wd cA ad n (wr M k j v) := by
  rw [fl_set fs 0 j hj, Nat.zero_add]
  have := Wd_set (cA := cA) (ad := ad) (M := M) (f := upd (M k) j v) hk
  rw [hs] at this
  exact this
theorem Wd_is {k len : Nat} {f : Nat → Int32} (hk : k < n) (hs : sh0 k = .inl (0, len)) : (Wd cA ad n M).set k (ad k, .inl (cA 0, len, .inl f)) = Wd cA ad n (wrR M k f) := by
  have := Wd_set (cA := cA) (ad := ad) (M := M) (f := f) hk
  rw [hs] at this
  exact this
theorem Wd_zs {k len : Nat} {f : Nat → Int32} (hk : k < n) (hs : sh0 k = .inl (1, len)) : (Wd cA ad n M).set k (ad k, .inl (cA 1, len, .inl f)) = Wd cA ad n (wrR M k f) := by
  have := Wd_set (cA := cA) (ad := ad) (M := M) (f := f) hk
  rw [hs] at this
  exact this
theorem Wd_ls {k len i : Nat} {v : Int32} (hk : k < n) (hs : sh0 k = .inl (2, len)) : (Wd cA ad n M).set k (ad k, .inl (cA 2, len, .inr (.inl (vp_updL (fun i => (M k i).toInt64) i v.toInt64)))) = Wd cA ad n (wr M k i v) := by
  have := Wd_set (cA := cA) (ad := ad) (M := M) (f := upd (M k) i v) hk
  rw [hs] at this
  rw [show vp_updL (fun i => (M k i).toInt64) i v.toInt64 = (fun j => (upd (M k) i v j).toInt64) from by funext j; unfold vp_updL upd; split <;> rfl]
  exact this
theorem J.getI (hX : Cx p s m args meth c D cA ad n A sa cc nL own kt) (i : Nat) (k ci : Nat) {fs : List (Option Nat)} {C : String} {T : u_T} {N ix : Nat} (hkn : k < n) (hs : sh0 k = .inr (ci, fs)) (hc : cls6[ci]? = some (C, T, N)) (hin : ∀ w ∈ u_ws C T N, w ∈ wsL_law) (j : Nat) (hj : j < N) (hw : Cond.fieldLink own ix (T j).1 (T j).2.1 (T j).2.2.1 ∈ wsL_law) (hf : fs[j]? = some none) (hk : kt[i]? = some (pc, .getfield ix, 3)) (kk : J p l e R s m args below meth c D cA ad n A nL cells slots Q M (pc + 3) L (.int (M k j) :: st)) : J p l e R s m args below meth c D cA ad n A nL cells slots Q M pc L (.ref (ad k) :: st) := fun H locs ls hP hS hL => va_get (D := D) (ci := ci) hX.ex hX.by hX.ws hin hX.ow hX.kn hP k (Wd_o hkn hs) hc j hj (hX.ws _ hw) (fun _ h => h) (by have := fl_int (ad := ad) (f := M k) fs 0 j hf; rwa [Nat.zero_add] at this) (hX.dec hk) (kk H locs ls hP hS hL)
theorem J.getR (hX : Cx p s m args meth c D cA ad n A sa cc nL own kt) (i : Nat) (k ci : Nat) {fs : List (Option Nat)} {C : String} {T : u_T} {N ix : Nat} (hkn : k < n) (hs : sh0 k = .inr (ci, fs)) (hc : cls6[ci]? = some (C, T, N)) (hin : ∀ w ∈ u_ws C T N, w ∈ wsL_law) (j : Nat) (hj : j < N) (hw : Cond.fieldLink own ix (T j).1 (T j).2.1 (T j).2.2.1 ∈ wsL_law) {q : Nat} (hf : fs[j]? = some (some q)) (hk : kt[i]? = some (pc, .getfield ix, 3)) (kk : J p l e R s m args below meth c D cA ad n A nL cells slots Q M (pc + 3) L (.ref (ad q) :: st)) : J p l e R s m args below meth c D cA ad n A nL cells slots Q M pc L (.ref (ad k) :: st) := fun H locs ls hP hS hL => va_get (D := D) (ci := ci) hX.ex hX.by hX.ws hin hX.ow hX.kn hP k (Wd_o hkn hs) hc j hj (hX.ws _ hw) (fun _ h => h) (fl_ref (ad := ad) (f := M k) fs 0 j hf) (hX.dec hk) (kk H locs ls hP hS hL)
theorem J.putI (hX : Cx p s m args meth c D cA ad n A sa cc nL own kt) (i : Nat) (k ci : Nat) {fs : List (Option Nat)} {C : String} {T : u_T} {N ix : Nat} (hkn : k < n) (hs : sh0 k = .inr (ci, fs)) (hc : cls6[ci]? = some (C, T, N)) (hin : ∀ w ∈ u_ws C T N, w ∈ wsL_law) (j : Nat) (hj : j < N) (hw : Cond.fieldLink own ix (T j).1 (T j).2.1 (T j).2.2.1 ∈ wsL_law) {v : Int32} (ty0 : Nat → FieldType) (hty : ∀ k, k < N → parseFieldDescriptor (T k).2.2.1 = some (ty0 k)) (hnm : ∀ a, a < N → ∀ b, b < N → a ≠ b → (T a).2.1 ≠ (T b).2.1) (hf : fs[j]? = some none) (hfin : (T j).2.2.2 = false) (hd : parseFieldDescriptor (T j).2.2.1 = some .int) (hk : kt[i]? = some (pc, .putfield ix, 3)) (kk : J p l e R s m args below meth c D cA ad n A nL cells slots Q (wr M k j v) (pc + 3) L st) : J p l e R s m args below meth c D cA ad n A nL cells slots Q M pc L (.int v :: .ref (ad k) :: st) := fun H locs ls hP hS hL => va_put (D := D) (ci := ci) (ty := .int) hX.ex hX.by hX.ws hin ty0 hty hnm hX.ow hX.kn hP (hX.dd.D cA M) hS k (Wd_o hkn hs) hc j hj (hX.ws _ hw) (fun _ h => h) hfin hd rfl rfl (by rw [fl_len]; exact (List.getElem?_eq_some_iff.mp hf).1) (hX.dec hk) (fun H locs hP _ hS => kk H locs ls (by rw [Wd_os hkn hs hf] at hP; exact hP) hS hL)
theorem J.iald (hX : Cx p s m args meth c D cA ad n A sa cc nL own kt) (i : Nat) (k : Nat) {len : Nat} {x : Int32} (hkn : k < n) (hs : sh0 k = .inl (0, len)) (hb : vp_in x len) (hk : kt[i]? = some (pc, .iaload, 1)) (kk : J p l e R s m args below meth c D cA ad n A nL cells slots Q M (pc + 1) L (.int (M k x.toNatClampNeg) :: st)) : J p l e R s m args below meth c D cA ad n A nL cells slots Q M pc L (.int x :: .ref (ad k) :: st) := fun H locs ls hP hS hL => va_iald hX.ex hX.by hX.kn hP k 0 (Wd_i hkn hs) rfl hb (hX.dec hk) (kk H locs ls hP hS hL)
theorem J.zald (hX : Cx p s m args meth c D cA ad n A sa cc nL own kt) (i : Nat) (k : Nat) {len : Nat} {x : Int32} (hkn : k < n) (hs : sh0 k = .inl (1, len)) (hb : vp_in x len) (hk : kt[i]? = some (pc, .baload, 1)) (kk : J p l e R s m args below meth c D cA ad n A nL cells slots Q M (pc + 1) L (.int (M k x.toNatClampNeg) :: st)) : J p l e R s m args below meth c D cA ad n A nL cells slots Q M pc L (.int x :: .ref (ad k) :: st) := fun H locs ls hP hS hL => va_zald hX.ex hX.by hX.kn hP k 1 (Wd_z hkn hs) rfl hb (hX.dec hk) (kk H locs ls hP hS hL)
theorem J.lald (hX : Cx p s m args meth c D cA ad n A sa cc nL own kt) (i : Nat) (k : Nat) {len : Nat} {x : Int32} (hkn : k < n) (hs : sh0 k = .inl (2, len)) (hb : vp_in x len) (hk : kt[i]? = some (pc, .laload, 1)) (kk : J p l e R s m args below meth c D cA ad n A nL cells slots Q M (pc + 1) L (.long (M k x.toNatClampNeg).toInt64 :: st)) : J p l e R s m args below meth c D cA ad n A nL cells slots Q M pc L (.int x :: .ref (ad k) :: st) := fun H locs ls hP hS hL => va_lald hX.ex hX.by hX.kn hP k 2 (Wd_l hkn hs) rfl hb (hX.dec hk) (kk H locs ls hP hS hL)
theorem J.aald (hX : Cx p s m args meth c D cA ad n A sa cc nL own kt) (i : Nat) (k : Nat) {len : Nat} {x : Int32} (hkn : k < n) (hs : sh0 k = .inl (3, len)) (hb : vp_in x len) (hk : kt[i]? = some (pc, .aaload, 1)) (kk : J p l e R s m args below meth c D cA ad n A nL cells slots Q M (pc + 1) L (va_rf (dec ad (M k x.toNatClampNeg)) :: st)) : J p l e R s m args below meth c D cA ad n A nL cells slots Q M pc L (.int x :: .ref (ad k) :: st) := fun H locs ls hP hS hL => va_aldq hX.ex hX.by hX.kn hP k 3 (Wd_q hkn hs) rfl hb (hX.dec hk) (kk H locs ls hP hS hL)
theorem J.iast (hX : Cx p s m args meth c D cA ad n A sa cc nL own kt) (i : Nat) (k : Nat) {len : Nat} {x : Int32} (hkn : k < n) (hs : sh0 k = .inl (0, len)) (hb : vp_in x len) {v : Int32} (hk : kt[i]? = some (pc, .iastore, 1)) (kk : J p l e R s m args below meth c D cA ad n A nL cells slots Q (wr M k x.toNatClampNeg v) (pc + 1) L st) : J p l e R s m args below meth c D cA ad n A nL cells slots Q M pc L (.int v :: .int x :: .ref (ad k) :: st) := fun H locs ls hP hS hL => va_iast hX.ex hX.by hX.kn hP (hX.dd.D cA M) hS k 0 (Wd_i hkn hs) rfl hb (hX.dec hk) (fun H locs hP _ hS => kk H locs ls (by rw [Wd_is hkn hs] at hP; exact hP) hS hL)
theorem J.zast (hX : Cx p s m args meth c D cA ad n A sa cc nL own kt) (i : Nat) (k : Nat) {len : Nat} {x : Int32} (hkn : k < n) (hs : sh0 k = .inl (1, len)) (hb : vp_in x len) {v : Int32} (hv : vp_nar .boolean v = v) (hk : kt[i]? = some (pc, .bastore, 1)) (kk : J p l e R s m args below meth c D cA ad n A nL cells slots Q (wr M k x.toNatClampNeg v) (pc + 1) L st) : J p l e R s m args below meth c D cA ad n A nL cells slots Q M pc L (.int v :: .int x :: .ref (ad k) :: st) := fun H locs ls hP hS hL => va_zast hX.ex hX.by hX.kn hP (hX.dd.D cA M) hS k 1 (Wd_z hkn hs) rfl hb (hX.dec hk) (fun H locs hP _ hS => kk H locs ls (by rw [hv, Wd_zs hkn hs] at hP; exact hP) hS hL)
theorem J.last (hX : Cx p s m args meth c D cA ad n A sa cc nL own kt) (i : Nat) (k : Nat) {len : Nat} {x : Int32} (hkn : k < n) (hs : sh0 k = .inl (2, len)) (hb : vp_in x len) {v : Int32} (hk : kt[i]? = some (pc, .lastore, 1)) (kk : J p l e R s m args below meth c D cA ad n A nL cells slots Q (wr M k x.toNatClampNeg v) (pc + 1) L st) : J p l e R s m args below meth c D cA ad n A nL cells slots Q M pc L (.long v.toInt64 :: .int x :: .ref (ad k) :: st) := fun H locs ls hP hS hL => va_last hX.ex hX.by hX.kn hP (hX.dd.D cA M) hS k 2 (Wd_l hkn hs) rfl hb (hX.dec hk) (fun H locs hP _ hS => kk H locs ls (by rw [Wd_ls hkn hs] at hP; exact hP) hS hL)
theorem J.alen (hX : Cx p s m args meth c D cA ad n A sa cc nL own kt) (i : Nat) (k : Nat) {len : Nat} {v : Int32} (hkn : k < n) (hs : sh0 k = .inl (0, len)) (hv : Int32.ofNat len = v) (hk : kt[i]? = some (pc, .arraylength, 1)) (kk : J p l e R s m args below meth c D cA ad n A nL cells slots Q M (pc + 1) L (.int v :: st)) : J p l e R s m args below meth c D cA ad n A nL cells slots Q M pc L (.ref (ad k) :: st) := fun H locs ls hP hS hL => va_alen hX.ex hX.by hX.kn hP k 0 (Wd_i hkn hs) rfl hv (hX.dec hk) (kk H locs ls hP hS hL)
theorem J.ifnull (hX : Cx p s m args meth c D cA ad n A sa cc nL own kt) (i : Nat) {v : Int32} {off : Int} {tgt : Nat} (hk : kt[i]? = some (pc, .ifnull off, 3)) (ht : (pc : Int) + off = (tgt : Int)) (k1 : v = 0 → J p l e R s m args below meth c D cA ad n A nL cells slots Q M tgt L st) (k2 : ¬ v = 0 → J p l e R s m args below meth c D cA ad n A nL cells slots Q M (pc + 3) L st) : J p l e R s m args below meth c D cA ad n A nL cells slots Q M pc L (va_rf (dec ad v) :: st) := fun H locs ls hP hS hL => by
  by_cases h : v = 0
  · rw [show va_rf (dec ad v) = .null from by simp [dec, h, va_rf]]
    exact lv_ifnullN hX.ex hX.by (hX.dec hk) ht (k1 h H locs ls hP hS hL)
  · rw [show va_rf (dec ad v) = .ref (ad v.toNatClampNeg) from by simp [dec, h, va_rf]]
    exact lv_ifnull hX.ex hX.by (hX.dec hk) (k2 h H locs ls hP hS hL)
theorem J.ifnonnull (hX : Cx p s m args meth c D cA ad n A sa cc nL own kt) (i : Nat) {v : Int32} {off : Int} {tgt : Nat} (hk : kt[i]? = some (pc, .ifnonnull off, 3)) (ht : (pc : Int) + off = (tgt : Int)) (k1 : ¬ v = 0 → J p l e R s m args below meth c D cA ad n A nL cells slots Q M tgt L st) (k2 : v = 0 → J p l e R s m args below meth c D cA ad n A nL cells slots Q M (pc + 3) L st) : J p l e R s m args below meth c D cA ad n A nL cells slots Q M pc L (va_rf (dec ad v) :: st) := fun H locs ls hP hS hL => by
  by_cases h : v = 0
  · rw [show va_rf (dec ad v) = .null from by simp [dec, h, va_rf]]
    exact lv_ifnonnullN hX.ex hX.by (hX.dec hk) (k2 h H locs ls hP hS hL)
  · rw [show va_rf (dec ad v) = .ref (ad v.toNatClampNeg) from by simp [dec, h, va_rf]]
    exact lv_ifnonnull hX.ex hX.by (hX.dec hk) ht (k1 h H locs ls hP hS hL)
end JR
end
section
/-! CONTRACTS: 'from the memory M with the arguments av the method comes to out (returned, or thrown: the class) with the memory M1'. -/
def oc (out : Option Value ⊕ String) : Nat := match out with
  | .inl _ => 0
  | .inr _ => 1
def os (out : Option Value ⊕ String) : Nat := match out with
  | .inl _ => 0
  | .inr _ => 6
def PP (D : va_G) (cA : Nat → ClassId) (ad : Nat → Nat) (n : Nat) (A : Nat → Prop) (sa : Nat → Nat) (M : Mem) : State → Prop := fun U =>
  va_P D cls6 (Wd cA ad n M) U.heap ∧ va_K D cls6 (ty4 cA) U ∧ Dd A ad n ∧ (∀ q, U.heap.size ≤ q → A q) ∧ 49 ≤ n ∧ KS A sa U U.heap
def QQ (D : va_G) (cA : Nat → ClassId) (ad : Nat → Nat) (n : Nat) (A : Nat → Prop) (out : Option Value ⊕ String) (M1 : Mem) : Array Value → State → Outcome → State → Prop := fun _ st o t =>
  ∃ v, out = .inl v ∧ o = .returned v ∧ va_P D cls6 (Wd cA ad n M1) t.heap ∧ va_F A st t
def XX (D : va_G) (cA : Nat → ClassId) (ad : Nat → Nat) (n : Nat) (A : Nat → Prop) (out : Option Value ⊕ String) (M1 : Mem) : String → State → State → Prop := fun E st t =>
  out = .inr E ∧ va_P D cls6 (Wd cA ad n M1) t.heap ∧ va_F A st t
abbrev rm4 (fr lo : Nat) (out : Option Value ⊕ String) : Room := { frames := fr, cells := oc out, slots := os out, locals := lo }
def CT (l : Launch) (D : va_G) (cA : Nat → ClassId) (ad : Nat → Nat) (n : Nat) (A : Nat → Prop) (sa : Nat → Nat) (y : MethodName) (cc : ByteArray) (maxL : Nat) (ret : Option FieldType) (fr lo : Nat) (av : List Value) (M : Mem) (out : Option Value ⊕ String) (M1 : Mem) : Prop :=
  vx_Met l y (Cond.code y cc maxL ret :: wsL_law) (rm4 fr lo out) (va_Pc av (PP D cA ad n A sa M)) (QQ D cA ad n A out M1) (XX D cA ad n A out M1) (oc out) (os out) A
theorem KS.moved {A : Nat → Prop} {sa : Nat → Nat} {u U : State} {H : Heap} (hW : u.WarmedH U.vm) (h : KS A sa u H) : KS A sa U H :=
  ⟨vx_Zq.moved hW.alike h.1, vx_Zq.moved hW.alike h.2.1, vk_R.warm hW h.2.2.1, vk_R.warm hW h.2.2.2.1, vk_R.warm hW h.2.2.2.2⟩
theorem KS.kept {A : Nat → Prop} {sa : Nat → Nat} {U : State} {H H1 : Heap} (h : KS A sa U H) (hq : ∀ a : Nat, a < H.size → ¬ A a → H1[a]? = H[a]?) : KS A sa U H1 :=
  ⟨h.1.kept hq, h.2.1.kept hq, h.2.2⟩
theorem PP.blind {D : va_G} {cA : Nat → ClassId} {ad : Nat → Nat} {n : Nat} {A : Nat → Prop} {sa : Nat → Nat} {M : Mem} {av : List Value} : FrameBlind (va_Pc av (PP D cA ad n A sa M)) := by
  intro a U g mk q
  obtain ⟨q0, q1, q2, q3, q4, q5, q6⟩ := q
  have q7 : KS A sa (U.calling g mk a) U.heap := ⟨vx_Zq.moved (u := U) (U := U.calling g mk a) (Vm.Alike.refl U.vm) q6.1, vx_Zq.moved (u := U) (U := U.calling g mk a) (Vm.Alike.refl U.vm) q6.2.1, vk_R.same (u := U) (U := U.calling g mk a) rfl q6.2.2.1, vk_R.same (u := U) (U := U.calling g mk a) rfl q6.2.2.2.1, vk_R.same (u := U) (U := U.calling g mk a) rfl q6.2.2.2.2⟩
  exact ⟨q0, q1, va_K.moved (u := U) (U := U.calling g mk a) (Vm.Alike.refl U.vm) q2, q3, q4, q5, q7⟩
section JC
variable {p : Program} {l : Launch} {e : Env} {R : Room} {s : State} {m : MethodId} {args : Array Value} {below : List Frame} {meth : Method} {c : Code} {D : va_G} {cA : Nat → ClassId} {ad : Nat → Nat} {n : Nat} {A : Nat → Prop} {sa : Nat → Nat} {nL cells slots : Nat} {Q : State → Prop} {cc : ByteArray} {own : String} {kt : List (Nat × Instr × Nat)} {M M1 : Mem} {pc : Nat} {L : List (Nat × Value)} {st : List Value}
theorem PP.here (hX : Cx p s m args meth c D cA ad n A sa cc nL own kt) {H : Heap} {locs : List Loc} (hP : va_P D cls6 (Wd cA ad n M) H) (hS : va_S A s.heap H locs) : ∀ U : State, U.heap = H → s.WarmedH U.vm → PP D cA ad n A sa M U := by
  intro U hU hW
  refine ⟨by rw [hU]; exact hP, va_K.moved hW.alike hX.kn, hX.dd, fun q hq => hX.hA q ?_, hX.n49, ?_⟩
  · rw [hU] at hq
    exact Nat.le_trans hS.1 hq
  · rw [hU]
    exact KS.moved hW (hX.ks.kept hS.2.1)
theorem CT.of {y : MethodName} {maxL : Nat} {ret : Option FieldType} {fr lo : Nat} {av : List Value} {out : Option Value ⊕ String} (hy : plainName y.cls = true) (hkt : ∀ (i : Nat) (q : Nat × Instr × Nat), kt[i]? = some q → decode cc q.1 = .ok q.2) (hlen : (lg_sl av).length ≤ maxL)
    (body : ∀ (p : Program) (e : Env) (s : State) (m : MethodId) (args : Array Value) (below : List Frame) (meth : Method) (c : Code), Cx p s m args meth c D cA ad n A sa cc maxL y.cls kt → meth.sig.returnType = ret → (∀ x ∈ c.exceptionTable.toList, False) →
      J p l e (rm4 fr lo out) s m args below meth c D cA ad n A maxL 0 0 (vx_MQ below (QQ D cA ad n A out M1) (XX D cA ad n A out M1) args s (oc out) (os out) A) M 0 (lv_args 0 av) []) :
    CT l D cA ad n A sa y cc maxL ret fr lo av M out M1 := by
  unfold CT
  refine vx_ofW (cc := cc) (maxL := maxL) (ret := ret) hy rfl ?_
  intro p e s m args below meth c s₁ B hml ht hv
  obtain ⟨rfl, hP, hK, hD, hA, hn, hks⟩ := hv
  have hts := atoms_spec (ws := Cond.code y cc maxL ret :: wsL_law) B.pre
  have hown : s.vm.findClass y.cls = some m.cls := findClass_of_methodNamed B.named
  have hl := lv_entry av hlen
  rw [lg_entry_eq]
  exact body p e s m av.toArray below meth c ⟨B.exec, B.bytes, hml, hown, fun w hw => hts w (List.mem_cons_of_mem _ hw), hK, hD, hA, hn, hks, B.notSynchronized, hkt⟩ B.returns ht s.heap [] _ hP va_S.rf hl
theorem J.iret (hX : Cx p s m args meth c D cA ad n A sa cc nL own kt) (hr : meth.sig.returnType = some .int) (i : Nat) {v : Int32} (hk : kt[i]? = some (pc, .ireturn, 1)) :
    J p l e R s m args below meth c D cA ad n A nL 0 0 (vx_MQ below (QQ D cA ad n A (.inl (some (.int v))) M) (XX D cA ad n A (.inl (some (.int v))) M) args s 0 0 A) M pc L [.int v] := fun H locs ls hP hS hL =>
  vx_ret (W.iret hX.ex hX.by hr (fun t ht hW => ⟨_, rfl, rfl, by rw [ht]; exact hP, hS.F ht⟩) hS.2.2 (hX.dec hk) hX.lk)
theorem J.zret (hX : Cx p s m args meth c D cA ad n A sa cc nL own kt) (hr : meth.sig.returnType = some .boolean) (i : Nat) {v : Int32} (hv : narrow .boolean (.int v) = .int v) (hk : kt[i]? = some (pc, .ireturn, 1)) :
    J p l e R s m args below meth c D cA ad n A nL 0 0 (vx_MQ below (QQ D cA ad n A (.inl (some (.int v))) M) (XX D cA ad n A (.inl (some (.int v))) M) args s 0 0 A) M pc L [.int v] := fun H locs ls hP hS hL =>
  vx_ret (W.zret hX.ex hX.by hr hv (fun t ht hW => ⟨_, rfl, rfl, by rw [ht]; exact hP, hS.F ht⟩) hS.2.2 (hX.dec hk) hX.lk)
theorem J.vret (hX : Cx p s m args meth c D cA ad n A sa cc nL own kt) (hr : meth.sig.returnType = none) (i : Nat) (hk : kt[i]? = some (pc, .return_, 1)) :
    J p l e R s m args below meth c D cA ad n A nL 0 0 (vx_MQ below (QQ D cA ad n A (.inl none) M) (XX D cA ad n A (.inl none) M) args s 0 0 A) M pc L [] := fun H locs ls hP hS hL =>
  vx_ret (W.vret hX.ex hX.by hr (fun t ht hW => ⟨_, rfl, rfl, by rw [ht]; exact hP, hS.F ht⟩) hS.2.2 (hX.dec hk) hX.lk)
theorem run_ret {H : Heap} {locs : List Loc} {ls : Array Slot} {st0 rest : List Value} {a : Array Value} {v : Option Value} (hr : vx_Run p l e R s m args below meth c H locs cells slots 0 0 (F0 m pc ls st0) rest (QQ D cA ad n A (.inl v) M1 a) (XX D cA ad n A (.inl v) M1) A) (hS : va_S A s.heap H locs)
    (kk : ∀ (H1 : Heap) (locs1 : List Loc), va_P D cls6 (Wd cA ad n M1) H1 → va_S A s.heap H1 locs1 → W p l e R s m args below meth c H1 locs1 cells slots Q (F0 m (pc + 3) ls (v.toList ++ rest))) : W p l e R s m args below meth c H locs cells slots Q (F0 m pc ls st0) := by
  intro T hT X
  rcases hr T hT X with ⟨v', st₀, t, T', L, h0, X', hL, e1, e2, ⟨w, hw, hv, hb, hF⟩, st⟩ | ⟨q, st₀, t, T', L, E, ce, h0, X', hL, e1, e2, ⟨hp, -⟩, -⟩
  · cases hw
    cases hv
    obtain ⟨k1, k2, k3⟩ := vx_keep h0 e1 hS (fun _ _ h => h) (fun _ h => h) hL hF
    obtain ⟨t2, a1, b1⟩ := kk T'.heap (locs ++ L) (by rw [e1]; exact hb) k3 T' rfl X'
    exact ⟨t2, st t2 a1, b1⟩
  · cases hp
theorem run_thr {H : Heap} {locs : List Loc} {ls : Array Slot} {st0 rest : List Value} {a : Array Value} {E : String} (hr : vx_Run p l e R s m args below meth c H locs cells slots 1 6 (F0 m pc ls st0) rest (QQ D cA ad n A (.inr E) M1 a) (XX D cA ad n A (.inr E) M1) A) (hS : va_S A s.heap H locs)
    (kk : ∀ (H1 : Heap) (locs1 : List Loc) (q9 : Addr) (ce : Cell), va_P D cls6 (Wd cA ad n M1) H1 → va_S A s.heap H1 locs1 → H1[q9]? = some ce → ce.vm = .none → s.vm.findClass E = some ce.cls → vx_W p l e R s m args below meth c H1 locs1 (cells + 1) (slots + 6) Q (F0 m pc ls rest) q9) : W p l e R s m args below meth c H locs cells slots Q (F0 m pc ls st0) := by
  intro T hT X
  rcases hr T hT X with ⟨v', st₀, t, T', L, h0, X', hL, e1, e2, ⟨w, hw, -⟩, st⟩ | ⟨q, st₀, t, T', L, E', ce, h0, X', hL, e1, e2, ⟨hp, hb, hF⟩, hce, hcv, hcl, st⟩
  · cases hw
  · cases hp
    obtain ⟨k1, k2, k3⟩ := vx_keep h0 e1 hS (fun _ _ h => h) (fun _ h => h) hL hF
    obtain ⟨t2, a1, b1⟩ := kk T'.heap (locs ++ L) q ce (by rw [e1]; exact hb) k3 (by rw [e1]; exact hce) hcv hcl T' rfl X'
    exact ⟨t2, st.trans a1, b1⟩
theorem gdW {ws : List Cond} (h : ∀ w ∈ ws, w ∈ wsL_law) : GoodIn wsL_law ws := fun w hw => ⟨h w hw, (gi_law w (h w hw)).2⟩
theorem gdV {own C : String} {ix maxL : Nat} {y : MethodName} {bytes : ByteArray} {ret : Option FieldType} (h1 : Cond.methodLink own ix y ∈ wsL_law) (h2 : Cond.instanceMethod y ∈ wsL_law) (h3 : Cond.selects C y y ∈ wsL_law) (h4 : Cond.initialized C ∈ wsL_law) (h5 : Cond.code y bytes maxL ret ∈ wsL_law) : GoodIn wsL_law (wsV own ix C y (Cond.code y bytes maxL ret :: wsL_law)) := by
  refine gdW fun w hw => ?_
  unfold wsV at hw
  simp only [List.cons_append, List.nil_append, List.mem_cons] at hw
  rcases hw with rfl | rfl | rfl | rfl | rfl | hw
  · exact h1
  · exact h2
  · exact h3
  · exact h4
  · exact h5
  · exact hw
theorem gdS {own : String} {ix maxL : Nat} {y : MethodName} {bytes : ByteArray} {ret : Option FieldType} (h1 : Cond.methodLink own ix y ∈ wsL_law) (h2 : Cond.static y ∈ wsL_law) (h4 : Cond.initialized y.cls ∈ wsL_law) (h5 : Cond.code y bytes maxL ret ∈ wsL_law) : GoodIn wsL_law (va_wsS own ix y (Cond.code y bytes maxL ret :: wsL_law)) := by
  refine gdW fun w hw => ?_
  unfold va_wsS at hw
  simp only [List.cons_append, List.nil_append, List.mem_cons] at hw
  rcases hw with rfl | rfl | rfl | rfl | hw
  · exact h1
  · exact h2
  · exact h4
  · exact h5
  · exact hw
/-- what a call of y asks of the words: all of it decided by program, a row a method -/
def OKV (C : String) (y : MethodName) (bytes : ByteArray) (maxL : Nat) (ret : Option FieldType) (k : Nat) : Prop := Cond.instanceMethod y ∈ wsL_law ∧ Cond.selects C y y ∈ wsL_law ∧ Cond.initialized C ∈ wsL_law ∧ Cond.code y bytes maxL ret ∈ wsL_law ∧ y.cls = C ∧ y.cls ≠ "java/lang/invoke/MethodHandle" ∧ y.cls ≠ "java/lang/invoke/VarHandle" ∧ (parseMethodDescriptor y.desc).map (fun d => d.parameters.length) = some k
def OKS (y : MethodName) (bytes : ByteArray) (maxL : Nat) (ret : Option FieldType) (k : Nat) : Prop := Cond.static y ∈ wsL_law ∧ Cond.initialized y.cls ∈ wsL_law ∧ Cond.code y bytes maxL ret ∈ wsL_law ∧ y.cls ≠ "java/lang/invoke/MethodHandle" ∧ y.cls ≠ "java/lang/invoke/VarHandle" ∧ (parseMethodDescriptor y.desc).map (fun d => d.parameters.length) = some k
theorem runV {y : MethodName} {C : String} {bytes : ByteArray} {maxL nP fr lo ix k : Nat} {ret : Option FieldType} {As rest : List Value} {out : Option Value ⊕ String} {H : Heap} {locs : List Loc} {ls : Array Slot} (hX : Cx p s m args meth c D cA ad n A sa cc nL own kt) (hP : va_P D cls6 (Wd cA ad n M) H) (hS : va_S A s.heap H locs) (hL : lv_has ls nL L) (i : Nat) (hk : kt[i]? = some (pc, .invokevirtual ix, 3))
    (hc : CT l D cA ad n A sa y bytes maxL ret fr lo (.ref (ad k) :: As) M out M1) (hy : OKV C y bytes maxL ret nP) (hm : Cond.methodLink own ix y ∈ wsL_law) {ci : Nat} {fs : List (Option Nat)} {T : u_T} {N : Nat} (hkn : k < n) (hs : sh0 k = .inr (ci, fs)) (hcl : cls6[ci]? = some (C, T, N)) (hn : As.length = nP) (hst : st = As.reverse ++ .ref (ad k) :: rest) (hw : (rest.map fun v => v.category).sum ≤ 8) (hR : fr + 1 ≤ R.frames ∧ 8 + (maxL + 11) + lo ≤ R.locals) (hf : cells + oc out ≤ R.cells ∧ slots + os out ≤ R.slots) :
    vx_Run p l e R s m args below meth c H locs cells slots (oc out) (os out) (F0 m pc ls st) rest (QQ D cA ad n A out M1 (Value.ref (ad k) :: As).toArray) (XX D cA ad n A out M1) A :=
  vx_runV (C := C) (bytes := bytes) (maxL := maxL) (ret := ret) (n := nP) (As := As) ⟨hX.ex, hX.by, hX.ml, hX.ow, hX.ws⟩ hc (cwV nP hX.ws (gdV hm hy.1 hy.2.1 hy.2.2.1 hy.2.2.2.1) rfl rfl rfl hy.2.2.2.2 hR) ⟨PP.blind, va_recv hX.kn hP hcl (Wd_o hkn hs), fun U hU hW => ⟨rfl, PP.here hX hP hS U hU hW⟩⟩ rfl hn hL.1 hst (lv_room hw) (hX.dec hk) hf
theorem runS {y : MethodName} {bytes : ByteArray} {maxL nP fr lo ix : Nat} {ret : Option FieldType} {As rest : List Value} {out : Option Value ⊕ String} {H : Heap} {locs : List Loc} {ls : Array Slot} (hX : Cx p s m args meth c D cA ad n A sa cc nL own kt) (hP : va_P D cls6 (Wd cA ad n M) H) (hS : va_S A s.heap H locs) (hL : lv_has ls nL L) (i : Nat) (hk : kt[i]? = some (pc, .invokestatic ix, 3))
    (hc : CT l D cA ad n A sa y bytes maxL ret fr lo As M out M1) (hy : OKS y bytes maxL ret nP) (hm : Cond.methodLink own ix y ∈ wsL_law) (hn : As.length = nP) (hst : st = As.reverse ++ rest) (hw : (rest.map fun v => v.category).sum ≤ 8) (hR : fr + 1 ≤ R.frames ∧ 8 + (maxL + 11) + lo ≤ R.locals) (hf : cells + oc out ≤ R.cells ∧ slots + os out ≤ R.slots) :
    vx_Run p l e R s m args below meth c H locs cells slots (oc out) (os out) (F0 m pc ls st) rest (QQ D cA ad n A out M1 As.toArray) (XX D cA ad n A out M1) A :=
  vx_runS (bytes := bytes) (maxL := maxL) (ret := ret) (n := nP) (As := As) ⟨hX.ex, hX.by, hX.ml, hX.ow, hX.ws⟩ hc (va_cwS nP hX.ws (gdS hm hy.1 hy.2.1 hy.2.2.1) rfl rfl rfl hy.2.2.2 hR) ⟨PP.blind, fun U hU hW => ⟨rfl, PP.here hX hP hS U hU hW⟩⟩ rfl hn hL.1 hst (lv_room hw) (hX.dec hk) hf
/-- a call that returns -/
theorem J.callV {y : MethodName} {C : String} {bytes : ByteArray} {maxL nP fr lo ix k : Nat} {ret : Option FieldType} {As rest : List Value} {v : Option Value} (hX : Cx p s m args meth c D cA ad n A sa cc nL own kt) (i : Nat) (hk : kt[i]? = some (pc, .invokevirtual ix, 3))
    (hc : CT l D cA ad n A sa y bytes maxL ret fr lo (.ref (ad k) :: As) M (.inl v) M1) (hy : OKV C y bytes maxL ret nP) (hm : Cond.methodLink own ix y ∈ wsL_law) {ci : Nat} {fs : List (Option Nat)} {T : u_T} {N : Nat} (hkn : k < n) (hs : sh0 k = .inr (ci, fs)) (hcl : cls6[ci]? = some (C, T, N)) (hn : As.length = nP) (hst : st = As.reverse ++ .ref (ad k) :: rest) (hw : (rest.map fun v => v.category).sum ≤ 8) (hR : fr + 1 ≤ R.frames ∧ 8 + (maxL + 11) + lo ≤ R.locals) (hf : cells ≤ R.cells ∧ slots ≤ R.slots)
    (kk : J p l e R s m args below meth c D cA ad n A nL cells slots Q M1 (pc + 3) L (v.toList ++ rest)) : J p l e R s m args below meth c D cA ad n A nL cells slots Q M pc L st := fun H locs ls hP hS hL =>
  run_ret (runV hX hP hS hL i hk hc hy hm hkn hs hcl hn hst hw hR hf) hS (fun H1 locs1 hP1 hS1 => kk H1 locs1 ls hP1 hS1 hL)
theorem J.callS {y : MethodName} {bytes : ByteArray} {maxL nP fr lo ix : Nat} {ret : Option FieldType} {As rest : List Value} {v : Option Value} (hX : Cx p s m args meth c D cA ad n A sa cc nL own kt) (i : Nat) (hk : kt[i]? = some (pc, .invokestatic ix, 3))
    (hc : CT l D cA ad n A sa y bytes maxL ret fr lo As M (.inl v) M1) (hy : OKS y bytes maxL ret nP) (hm : Cond.methodLink own ix y ∈ wsL_law) (hn : As.length = nP) (hst : st = As.reverse ++ rest) (hw : (rest.map fun v => v.category).sum ≤ 8) (hR : fr + 1 ≤ R.frames ∧ 8 + (maxL + 11) + lo ≤ R.locals) (hf : cells ≤ R.cells ∧ slots ≤ R.slots)
    (kk : J p l e R s m args below meth c D cA ad n A nL cells slots Q M1 (pc + 3) L (v.toList ++ rest)) : J p l e R s m args below meth c D cA ad n A nL cells slots Q M pc L st := fun H locs ls hP hS hL =>
  run_ret (runS hX hP hS hL i hk hc hy hm hn hst hw hR hf) hS (fun H1 locs1 hP1 hS1 => kk H1 locs1 ls hP1 hS1 hL)
/-- a call that throws, in a method without handlers: it goes on -/
theorem J.passS {y : MethodName} {bytes : ByteArray} {maxL nP fr lo ix : Nat} {ret : Option FieldType} {As rest : List Value} {E : String} (hX : Cx p s m args meth c D cA ad n A sa cc nL own kt) (ht : ∀ x ∈ c.exceptionTable.toList, False) (i : Nat) (hk : kt[i]? = some (pc, .invokestatic ix, 3))
    (hc : CT l D cA ad n A sa y bytes maxL ret fr lo As M (.inr E) M1) (hy : OKS y bytes maxL ret nP) (hm : Cond.methodLink own ix y ∈ wsL_law) (hn : As.length = nP) (hst : st = As.reverse ++ rest) (hw : (rest.map fun v => v.category).sum ≤ 8) (hR : fr + 1 ≤ R.frames ∧ 8 + (maxL + 11) + lo ≤ R.locals) (hf : 1 ≤ R.cells ∧ 6 ≤ R.slots) :
    J p l e R s m args below meth c D cA ad n A nL 0 0 (vx_MQ below (QQ D cA ad n A (.inr E) M1) (XX D cA ad n A (.inr E) M1) args s 1 6 A) M pc L st := fun H locs ls hP hS hL =>
  run_thr (runS hX hP hS hL i hk hc hy hm hn hst hw hR (by rw [Nat.zero_add, Nat.zero_add]; exact hf)) hS (fun H1 locs1 q9 ce hP1 hS1 hq hv hcl =>
    vx_out (fun x hx => (ht x hx).elim) hX.lk hq hv hcl (fun t hT hW => ⟨rfl, by rw [hT]; exact hP1, hS1.F hT⟩) hS1.2.2 (Nat.le_refl _) (Nat.le_refl _))
end JC
end
section
/-! WHAT THE METHODS' FUNCTIONS ARE MADE OF: 'none' where an index is out of range, a check fails or the fuel is used up. -/
def inb (i : Int32) (len : Nat) : Bool := decide (0 ≤ i.toInt) && decide (i.toInt < len)
theorem inb_vp {i : Int32} {len : Nat} (h : inb i len = true) : vp_in i len := by
  unfold inb at h
  rw [Bool.and_eq_true, decide_eq_true_eq, decide_eq_true_eq] at h
  exact vp_in_iff.mpr h
def chk {β : Type} (b : Bool) (x : Option β) : Option β := if b = true then x else none
theorem chk_inv {β : Type} {b : Bool} {x : Option β} {r : β} (h : chk b x = some r) : b = true ∧ x = some r := by
  unfold chk at h
  by_cases hb : b = true
  · rw [if_pos hb] at h; exact ⟨hb, h⟩
  · rw [if_neg hb] at h; cases h
def bnd {α β : Type} (x : α) (f : α → Option β) : Option β := f x
theorem bnd_inv {α β : Type} {x : α} {f : α → Option β} {r : β} (h : bnd x f = some r) : ∃ y, x = y ∧ f y = some r := ⟨x, rfl, h⟩
def ld {β : Type} (M : Mem) (k len : Nat) (i : Int32) (f : Int32 → Option β) : Option β := chk (inb i len) (f (M k i.toNatClampNeg))
theorem ld_inv {β : Type} {M : Mem} {k len : Nat} {i : Int32} {f : Int32 → Option β} {r : β} (h : ld M k len i f = some r) : ∃ t, M k i.toNatClampNeg = t ∧ vp_in i len ∧ f t = some r := by
  unfold ld at h
  obtain ⟨h1, h2⟩ := chk_inv h
  exact ⟨_, rfl, inb_vp h1, h2⟩
def sto {β : Type} (M : Mem) (k len : Nat) (i v : Int32) (f : Mem → Option β) : Option β := chk (inb i len) (f (wr M k i.toNatClampNeg v))
theorem sto_inv {β : Type} {M : Mem} {k len : Nat} {i v : Int32} {f : Mem → Option β} {r : β} (h : sto M k len i v f = some r) : ∃ M2, wr M k i.toNatClampNeg v = M2 ∧ vp_in i len ∧ f M2 = some r := by
  unfold sto at h
  obtain ⟨h1, h2⟩ := chk_inv h
  exact ⟨_, rfl, inb_vp h1, h2⟩
def isB (v : Int32) : Bool := v == 0 || v == 1
theorem isB_nar {v : Int32} (h : isB v = true) : narrow .boolean (.int v) = .int v := by
  unfold isB at h
  rw [Bool.or_eq_true, beq_iff_eq, beq_iff_eq] at h
  rcases h with rfl | rfl <;> decide +kernel
theorem isB_vp {v : Int32} (h : isB v = true) : vp_nar .boolean v = v := by
  unfold isB at h
  rw [Bool.or_eq_true, beq_iff_eq, beq_iff_eq] at h
  rcases h with rfl | rfl <;> decide +kernel
def loop {St Ex : Type} (B : St → Option (St ⊕ Ex)) : Nat → St → Option Ex
  | 0, _ => none
  | n + 1, st => (B st).bind (fun r => match r with
    | .inl st' => loop B n st'
    | .inr ex => some ex)
theorem loop_ok {St Ex : Type} {B : St → Option (St ⊕ Ex)} (Jh : St → Prop) {ex : Ex} (body : ∀ st r, B st = some r → (∀ st', r = .inl st' → Jh st') → (∀ ex', r = .inr ex' → ex' = ex) → Jh st) : ∀ k st, loop B k st = some ex → Jh st := by
  intro k
  induction k with
  | zero => intro st h; cases h
  | succ k ih =>
    intro st h
    cases hB : B st with
    | none => rw [loop, hB] at h; cases h
    | some r =>
      rw [loop, hB] at h
      refine body st r hB (fun st' hr => ?_) (fun ex' hr => ?_)
      · subst hr
        exact ih st' h
      · subst hr
        exact Option.some.inj h
def un0 {β : Type} (_ : Unit) (f : Option β) : Option β := f
theorem un0_inv {β : Type} {u : Unit} {f : Option β} {r : β} (h : un0 u f = some r) : f = some r := h
def bd1 {A1 β : Type} (x : Option (A1)) (f : A1 → Option β) : Option β := x.bind (fun q => f q)
theorem bd1_inv {A1 β : Type} {x : Option (A1)} {f : A1 → Option β} {r : β} (h : bd1 x f = some r) : ∃ a1, x = some a1 ∧ f a1 = some r := by
  unfold bd1 at h
  cases x with
  | none => cases h
  | some q => exact ⟨q, rfl, h⟩
def un1 {A1 β : Type} (q : A1) (f : A1 → Option β) : Option β := f q
theorem un1_inv {A1 β : Type} {a1 : A1} {f : A1 → Option β} {r : β} (h : un1 a1 f = some r) : f a1 = some r := h
def bd2 {A1 A2 β : Type} (x : Option (A1 × A2)) (f : A1 → A2 → Option β) : Option β := x.bind (fun q => f q.1 q.2)
theorem bd2_inv {A1 A2 β : Type} {x : Option (A1 × A2)} {f : A1 → A2 → Option β} {r : β} (h : bd2 x f = some r) : ∃ a1 a2, x = some (a1, a2) ∧ f a1 a2 = some r := by
  unfold bd2 at h
  cases x with
  | none => cases h
  | some q => exact ⟨q.1, q.2, rfl, h⟩
def un2 {A1 A2 β : Type} (q : A1 × A2) (f : A1 → A2 → Option β) : Option β := f q.1 q.2
theorem un2_inv {A1 A2 β : Type} {a1 : A1} {a2 : A2} {f : A1 → A2 → Option β} {r : β} (h : un2 (a1, a2) f = some r) : f a1 a2 = some r := h
def bd3 {A1 A2 A3 β : Type} (x : Option (A1 × A2 × A3)) (f : A1 → A2 → A3 → Option β) : Option β := x.bind (fun q => f q.1 q.2.1 q.2.2)
theorem bd3_inv {A1 A2 A3 β : Type} {x : Option (A1 × A2 × A3)} {f : A1 → A2 → A3 → Option β} {r : β} (h : bd3 x f = some r) : ∃ a1 a2 a3, x = some (a1, a2, a3) ∧ f a1 a2 a3 = some r := by
  unfold bd3 at h
  cases x with
  | none => cases h
  | some q => exact ⟨q.1, q.2.1, q.2.2, rfl, h⟩
def un3 {A1 A2 A3 β : Type} (q : A1 × A2 × A3) (f : A1 → A2 → A3 → Option β) : Option β := f q.1 q.2.1 q.2.2
theorem un3_inv {A1 A2 A3 β : Type} {a1 : A1} {a2 : A2} {a3 : A3} {f : A1 → A2 → A3 → Option β} {r : β} (h : un3 (a1, a2, a3) f = some r) : f a1 a2 a3 = some r := h
def bd4 {A1 A2 A3 A4 β : Type} (x : Option (A1 × A2 × A3 × A4)) (f : A1 → A2 → A3 → A4 → Option β) : Option β := x.bind (fun q => f q.1 q.2.1 q.2.2.1 q.2.2.2)
theorem bd4_inv {A1 A2 A3 A4 β : Type} {x : Option (A1 × A2 × A3 × A4)} {f : A1 → A2 → A3 → A4 → Option β} {r : β} (h : bd4 x f = some r) : ∃ a1 a2 a3 a4, x = some (a1, a2, a3, a4) ∧ f a1 a2 a3 a4 = some r := by
  unfold bd4 at h
  cases x with
  | none => cases h
  | some q => exact ⟨q.1, q.2.1, q.2.2.1, q.2.2.2, rfl, h⟩
def un4 {A1 A2 A3 A4 β : Type} (q : A1 × A2 × A3 × A4) (f : A1 → A2 → A3 → A4 → Option β) : Option β := f q.1 q.2.1 q.2.2.1 q.2.2.2
theorem un4_inv {A1 A2 A3 A4 β : Type} {a1 : A1} {a2 : A2} {a3 : A3} {a4 : A4} {f : A1 → A2 → A3 → A4 → Option β} {r : β} (h : un4 (a1, a2, a3, a4) f = some r) : f a1 a2 a3 a4 = some r := h
def bd5 {A1 A2 A3 A4 A5 β : Type} (x : Option (A1 × A2 × A3 × A4 × A5)) (f : A1 → A2 → A3 → A4 → A5 → Option β) : Option β := x.bind (fun q => f q.1 q.2.1 q.2.2.1 q.2.2.2.1 q.2.2.2.2)
theorem bd5_inv {A1 A2 A3 A4 A5 β : Type} {x : Option (A1 × A2 × A3 × A4 × A5)} {f : A1 → A2 → A3 → A4 → A5 → Option β} {r : β} (h : bd5 x f = some r) : ∃ a1 a2 a3 a4 a5, x = some (a1, a2, a3, a4, a5) ∧ f a1 a2 a3 a4 a5 = some r := by
  unfold bd5 at h
  cases x with
  | none => cases h
  | some q => exact ⟨q.1, q.2.1, q.2.2.1, q.2.2.2.1, q.2.2.2.2, rfl, h⟩
def un5 {A1 A2 A3 A4 A5 β : Type} (q : A1 × A2 × A3 × A4 × A5) (f : A1 → A2 → A3 → A4 → A5 → Option β) : Option β := f q.1 q.2.1 q.2.2.1 q.2.2.2.1 q.2.2.2.2
theorem un5_inv {A1 A2 A3 A4 A5 β : Type} {a1 : A1} {a2 : A2} {a3 : A3} {a4 : A4} {a5 : A5} {f : A1 → A2 → A3 → A4 → A5 → Option β} {r : β} (h : un5 (a1, a2, a3, a4, a5) f = some r) : f a1 a2 a3 a4 a5 = some r := h
def bd6 {A1 A2 A3 A4 A5 A6 β : Type} (x : Option (A1 × A2 × A3 × A4 × A5 × A6)) (f : A1 → A2 → A3 → A4 → A5 → A6 → Option β) : Option β := x.bind (fun q => f q.1 q.2.1 q.2.2.1 q.2.2.2.1 q.2.2.2.2.1 q.2.2.2.2.2)
theorem bd6_inv {A1 A2 A3 A4 A5 A6 β : Type} {x : Option (A1 × A2 × A3 × A4 × A5 × A6)} {f : A1 → A2 → A3 → A4 → A5 → A6 → Option β} {r : β} (h : bd6 x f = some r) : ∃ a1 a2 a3 a4 a5 a6, x = some (a1, a2, a3, a4, a5, a6) ∧ f a1 a2 a3 a4 a5 a6 = some r := by
  unfold bd6 at h
  cases x with
  | none => cases h
  | some q => exact ⟨q.1, q.2.1, q.2.2.1, q.2.2.2.1, q.2.2.2.2.1, q.2.2.2.2.2, rfl, h⟩
def un6 {A1 A2 A3 A4 A5 A6 β : Type} (q : A1 × A2 × A3 × A4 × A5 × A6) (f : A1 → A2 → A3 → A4 → A5 → A6 → Option β) : Option β := f q.1 q.2.1 q.2.2.1 q.2.2.2.1 q.2.2.2.2.1 q.2.2.2.2.2
theorem un6_inv {A1 A2 A3 A4 A5 A6 β : Type} {a1 : A1} {a2 : A2} {a3 : A3} {a4 : A4} {a5 : A5} {a6 : A6} {f : A1 → A2 → A3 → A4 → A5 → A6 → Option β} {r : β} (h : un6 (a1, a2, a3, a4, a5, a6) f = some r) : f a1 a2 a3 a4 a5 a6 = some r := h
def bd7 {A1 A2 A3 A4 A5 A6 A7 β : Type} (x : Option (A1 × A2 × A3 × A4 × A5 × A6 × A7)) (f : A1 → A2 → A3 → A4 → A5 → A6 → A7 → Option β) : Option β := x.bind (fun q => f q.1 q.2.1 q.2.2.1 q.2.2.2.1 q.2.2.2.2.1 q.2.2.2.2.2.1 q.2.2.2.2.2.2)
theorem bd7_inv {A1 A2 A3 A4 A5 A6 A7 β : Type} {x : Option (A1 × A2 × A3 × A4 × A5 × A6 × A7)} {f : A1 → A2 → A3 → A4 → A5 → A6 → A7 → Option β} {r : β} (h : bd7 x f = some r) : ∃ a1 a2 a3 a4 a5 a6 a7, x = some (a1, a2, a3, a4, a5, a6, a7) ∧ f a1 a2 a3 a4 a5 a6 a7 = some r := by
  unfold bd7 at h
  cases x with
  | none => cases h
  | some q => exact ⟨q.1, q.2.1, q.2.2.1, q.2.2.2.1, q.2.2.2.2.1, q.2.2.2.2.2.1, q.2.2.2.2.2.2, rfl, h⟩
def un7 {A1 A2 A3 A4 A5 A6 A7 β : Type} (q : A1 × A2 × A3 × A4 × A5 × A6 × A7) (f : A1 → A2 → A3 → A4 → A5 → A6 → A7 → Option β) : Option β := f q.1 q.2.1 q.2.2.1 q.2.2.2.1 q.2.2.2.2.1 q.2.2.2.2.2.1 q.2.2.2.2.2.2
theorem un7_inv {A1 A2 A3 A4 A5 A6 A7 β : Type} {a1 : A1} {a2 : A2} {a3 : A3} {a4 : A4} {a5 : A5} {a6 : A6} {a7 : A7} {f : A1 → A2 → A3 → A4 → A5 → A6 → A7 → Option β} {r : β} (h : un7 (a1, a2, a3, a4, a5, a6, a7) f = some r) : f a1 a2 a3 a4 a5 a6 a7 = some r := h
def bd8 {A1 A2 A3 A4 A5 A6 A7 A8 β : Type} (x : Option (A1 × A2 × A3 × A4 × A5 × A6 × A7 × A8)) (f : A1 → A2 → A3 → A4 → A5 → A6 → A7 → A8 → Option β) : Option β := x.bind (fun q => f q.1 q.2.1 q.2.2.1 q.2.2.2.1 q.2.2.2.2.1 q.2.2.2.2.2.1 q.2.2.2.2.2.2.1 q.2.2.2.2.2.2.2)
theorem bd8_inv {A1 A2 A3 A4 A5 A6 A7 A8 β : Type} {x : Option (A1 × A2 × A3 × A4 × A5 × A6 × A7 × A8)} {f : A1 → A2 → A3 → A4 → A5 → A6 → A7 → A8 → Option β} {r : β} (h : bd8 x f = some r) : ∃ a1 a2 a3 a4 a5 a6 a7 a8, x = some (a1, a2, a3, a4, a5, a6, a7, a8) ∧ f a1 a2 a3 a4 a5 a6 a7 a8 = some r := by
  unfold bd8 at h
  cases x with
  | none => cases h
  | some q => exact ⟨q.1, q.2.1, q.2.2.1, q.2.2.2.1, q.2.2.2.2.1, q.2.2.2.2.2.1, q.2.2.2.2.2.2.1, q.2.2.2.2.2.2.2, rfl, h⟩
def un8 {A1 A2 A3 A4 A5 A6 A7 A8 β : Type} (q : A1 × A2 × A3 × A4 × A5 × A6 × A7 × A8) (f : A1 → A2 → A3 → A4 → A5 → A6 → A7 → A8 → Option β) : Option β := f q.1 q.2.1 q.2.2.1 q.2.2.2.1 q.2.2.2.2.1 q.2.2.2.2.2.1 q.2.2.2.2.2.2.1 q.2.2.2.2.2.2.2
theorem un8_inv {A1 A2 A3 A4 A5 A6 A7 A8 β : Type} {a1 : A1} {a2 : A2} {a3 : A3} {a4 : A4} {a5 : A5} {a6 : A6} {a7 : A7} {a8 : A8} {f : A1 → A2 → A3 → A4 → A5 → A6 → A7 → A8 → Option β} {r : β} (h : un8 (a1, a2, a3, a4, a5, a6, a7, a8) f = some r) : f a1 a2 a3 a4 a5 a6 a7 a8 = some r := h
def bd9 {A1 A2 A3 A4 A5 A6 A7 A8 A9 β : Type} (x : Option (A1 × A2 × A3 × A4 × A5 × A6 × A7 × A8 × A9)) (f : A1 → A2 → A3 → A4 → A5 → A6 → A7 → A8 → A9 → Option β) : Option β := x.bind (fun q => f q.1 q.2.1 q.2.2.1 q.2.2.2.1 q.2.2.2.2.1 q.2.2.2.2.2.1 q.2.2.2.2.2.2.1 q.2.2.2.2.2.2.2.1 q.2.2.2.2.2.2.2.2)
theorem bd9_inv {A1 A2 A3 A4 A5 A6 A7 A8 A9 β : Type} {x : Option (A1 × A2 × A3 × A4 × A5 × A6 × A7 × A8 × A9)} {f : A1 → A2 → A3 → A4 → A5 → A6 → A7 → A8 → A9 → Option β} {r : β} (h : bd9 x f = some r) : ∃ a1 a2 a3 a4 a5 a6 a7 a8 a9, x = some (a1, a2, a3, a4, a5, a6, a7, a8, a9) ∧ f a1 a2 a3 a4 a5 a6 a7 a8 a9 = some r := by
  unfold bd9 at h
  cases x with
  | none => cases h
  | some q => exact ⟨q.1, q.2.1, q.2.2.1, q.2.2.2.1, q.2.2.2.2.1, q.2.2.2.2.2.1, q.2.2.2.2.2.2.1, q.2.2.2.2.2.2.2.1, q.2.2.2.2.2.2.2.2, rfl, h⟩
def un9 {A1 A2 A3 A4 A5 A6 A7 A8 A9 β : Type} (q : A1 × A2 × A3 × A4 × A5 × A6 × A7 × A8 × A9) (f : A1 → A2 → A3 → A4 → A5 → A6 → A7 → A8 → A9 → Option β) : Option β := f q.1 q.2.1 q.2.2.1 q.2.2.2.1 q.2.2.2.2.1 q.2.2.2.2.2.1 q.2.2.2.2.2.2.1 q.2.2.2.2.2.2.2.1 q.2.2.2.2.2.2.2.2
theorem un9_inv {A1 A2 A3 A4 A5 A6 A7 A8 A9 β : Type} {a1 : A1} {a2 : A2} {a3 : A3} {a4 : A4} {a5 : A5} {a6 : A6} {a7 : A7} {a8 : A8} {a9 : A9} {f : A1 → A2 → A3 → A4 → A5 → A6 → A7 → A8 → A9 → Option β} {r : β} (h : un9 (a1, a2, a3, a4, a5, a6, a7, a8, a9) f = some r) : f a1 a2 a3 a4 a5 a6 a7 a8 a9 = some r := h
def bd10 {A1 A2 A3 A4 A5 A6 A7 A8 A9 A10 β : Type} (x : Option (A1 × A2 × A3 × A4 × A5 × A6 × A7 × A8 × A9 × A10)) (f : A1 → A2 → A3 → A4 → A5 → A6 → A7 → A8 → A9 → A10 → Option β) : Option β := x.bind (fun q => f q.1 q.2.1 q.2.2.1 q.2.2.2.1 q.2.2.2.2.1 q.2.2.2.2.2.1 q.2.2.2.2.2.2.1 q.2.2.2.2.2.2.2.1 q.2.2.2.2.2.2.2.2.1 q.2.2.2.2.2.2.2.2.2)
theorem bd10_inv {A1 A2 A3 A4 A5 A6 A7 A8 A9 A10 β : Type} {x : Option (A1 × A2 × A3 × A4 × A5 × A6 × A7 × A8 × A9 × A10)} {f : A1 → A2 → A3 → A4 → A5 → A6 → A7 → A8 → A9 → A10 → Option β} {r : β} (h : bd10 x f = some r) : ∃ a1 a2 a3 a4 a5 a6 a7 a8 a9 a10, x = some (a1, a2, a3, a4, a5, a6, a7, a8, a9, a10) ∧ f a1 a2 a3 a4 a5 a6 a7 a8 a9 a10 = some r := by
  unfold bd10 at h
  cases x with
  | none => cases h
  | some q => exact ⟨q.1, q.2.1, q.2.2.1, q.2.2.2.1, q.2.2.2.2.1, q.2.2.2.2.2.1, q.2.2.2.2.2.2.1, q.2.2.2.2.2.2.2.1, q.2.2.2.2.2.2.2.2.1, q.2.2.2.2.2.2.2.2.2, rfl, h⟩
def un10 {A1 A2 A3 A4 A5 A6 A7 A8 A9 A10 β : Type} (q : A1 × A2 × A3 × A4 × A5 × A6 × A7 × A8 × A9 × A10) (f : A1 → A2 → A3 → A4 → A5 → A6 → A7 → A8 → A9 → A10 → Option β) : Option β := f q.1 q.2.1 q.2.2.1 q.2.2.2.1 q.2.2.2.2.1 q.2.2.2.2.2.1 q.2.2.2.2.2.2.1 q.2.2.2.2.2.2.2.1 q.2.2.2.2.2.2.2.2.1 q.2.2.2.2.2.2.2.2.2
theorem un10_inv {A1 A2 A3 A4 A5 A6 A7 A8 A9 A10 β : Type} {a1 : A1} {a2 : A2} {a3 : A3} {a4 : A4} {a5 : A5} {a6 : A6} {a7 : A7} {a8 : A8} {a9 : A9} {a10 : A10} {f : A1 → A2 → A3 → A4 → A5 → A6 → A7 → A8 → A9 → A10 → Option β} {r : β} (h : un10 (a1, a2, a3, a4, a5, a6, a7, a8, a9, a10) f = some r) : f a1 a2 a3 a4 a5 a6 a7 a8 a9 a10 = some r := h
def bd11 {A1 A2 A3 A4 A5 A6 A7 A8 A9 A10 A11 β : Type} (x : Option (A1 × A2 × A3 × A4 × A5 × A6 × A7 × A8 × A9 × A10 × A11)) (f : A1 → A2 → A3 → A4 → A5 → A6 → A7 → A8 → A9 → A10 → A11 → Option β) : Option β := x.bind (fun q => f q.1 q.2.1 q.2.2.1 q.2.2.2.1 q.2.2.2.2.1 q.2.2.2.2.2.1 q.2.2.2.2.2.2.1 q.2.2.2.2.2.2.2.1 q.2.2.2.2.2.2.2.2.1 q.2.2.2.2.2.2.2.2.2.1 q.2.2.2.2.2.2.2.2.2.2)
theorem bd11_inv {A1 A2 A3 A4 A5 A6 A7 A8 A9 A10 A11 β : Type} {x : Option (A1 × A2 × A3 × A4 × A5 × A6 × A7 × A8 × A9 × A10 × A11)} {f : A1 → A2 → A3 → A4 → A5 → A6 → A7 → A8 → A9 → A10 → A11 → Option β} {r : β} (h : bd11 x f = some r) : ∃ a1 a2 a3 a4 a5 a6 a7 a8 a9 a10 a11, x = some (a1, a2, a3, a4, a5, a6, a7, a8, a9, a10, a11) ∧ f a1 a2 a3 a4 a5 a6 a7 a8 a9 a10 a11 = some r := by
  unfold bd11 at h
  cases x with
  | none => cases h
  | some q => exact ⟨q.1, q.2.1, q.2.2.1, q.2.2.2.1, q.2.2.2.2.1, q.2.2.2.2.2.1, q.2.2.2.2.2.2.1, q.2.2.2.2.2.2.2.1, q.2.2.2.2.2.2.2.2.1, q.2.2.2.2.2.2.2.2.2.1, q.2.2.2.2.2.2.2.2.2.2, rfl, h⟩
def un11 {A1 A2 A3 A4 A5 A6 A7 A8 A9 A10 A11 β : Type} (q : A1 × A2 × A3 × A4 × A5 × A6 × A7 × A8 × A9 × A10 × A11) (f : A1 → A2 → A3 → A4 → A5 → A6 → A7 → A8 → A9 → A10 → A11 → Option β) : Option β := f q.1 q.2.1 q.2.2.1 q.2.2.2.1 q.2.2.2.2.1 q.2.2.2.2.2.1 q.2.2.2.2.2.2.1 q.2.2.2.2.2.2.2.1 q.2.2.2.2.2.2.2.2.1 q.2.2.2.2.2.2.2.2.2.1 q.2.2.2.2.2.2.2.2.2.2
theorem un11_inv {A1 A2 A3 A4 A5 A6 A7 A8 A9 A10 A11 β : Type} {a1 : A1} {a2 : A2} {a3 : A3} {a4 : A4} {a5 : A5} {a6 : A6} {a7 : A7} {a8 : A8} {a9 : A9} {a10 : A10} {a11 : A11} {f : A1 → A2 → A3 → A4 → A5 → A6 → A7 → A8 → A9 → A10 → A11 → Option β} {r : β} (h : un11 (a1, a2, a3, a4, a5, a6, a7, a8, a9, a10, a11) f = some r) : f a1 a2 a3 a4 a5 a6 a7 a8 a9 a10 a11 = some r := h
def bd12 {A1 A2 A3 A4 A5 A6 A7 A8 A9 A10 A11 A12 β : Type} (x : Option (A1 × A2 × A3 × A4 × A5 × A6 × A7 × A8 × A9 × A10 × A11 × A12)) (f : A1 → A2 → A3 → A4 → A5 → A6 → A7 → A8 → A9 → A10 → A11 → A12 → Option β) : Option β := x.bind (fun q => f q.1 q.2.1 q.2.2.1 q.2.2.2.1 q.2.2.2.2.1 q.2.2.2.2.2.1 q.2.2.2.2.2.2.1 q.2.2.2.2.2.2.2.1 q.2.2.2.2.2.2.2.2.1 q.2.2.2.2.2.2.2.2.2.1 q.2.2.2.2.2.2.2.2.2.2.1 q.2.2.2.2.2.2.2.2.2.2.2)
theorem bd12_inv {A1 A2 A3 A4 A5 A6 A7 A8 A9 A10 A11 A12 β : Type} {x : Option (A1 × A2 × A3 × A4 × A5 × A6 × A7 × A8 × A9 × A10 × A11 × A12)} {f : A1 → A2 → A3 → A4 → A5 → A6 → A7 → A8 → A9 → A10 → A11 → A12 → Option β} {r : β} (h : bd12 x f = some r) : ∃ a1 a2 a3 a4 a5 a6 a7 a8 a9 a10 a11 a12, x = some (a1, a2, a3, a4, a5, a6, a7, a8, a9, a10, a11, a12) ∧ f a1 a2 a3 a4 a5 a6 a7 a8 a9 a10 a11 a12 = some r := by
  unfold bd12 at h
  cases x with
  | none => cases h
  | some q => exact ⟨q.1, q.2.1, q.2.2.1, q.2.2.2.1, q.2.2.2.2.1, q.2.2.2.2.2.1, q.2.2.2.2.2.2.1, q.2.2.2.2.2.2.2.1, q.2.2.2.2.2.2.2.2.1, q.2.2.2.2.2.2.2.2.2.1, q.2.2.2.2.2.2.2.2.2.2.1, q.2.2.2.2.2.2.2.2.2.2.2, rfl, h⟩
def un12 {A1 A2 A3 A4 A5 A6 A7 A8 A9 A10 A11 A12 β : Type} (q : A1 × A2 × A3 × A4 × A5 × A6 × A7 × A8 × A9 × A10 × A11 × A12) (f : A1 → A2 → A3 → A4 → A5 → A6 → A7 → A8 → A9 → A10 → A11 → A12 → Option β) : Option β := f q.1 q.2.1 q.2.2.1 q.2.2.2.1 q.2.2.2.2.1 q.2.2.2.2.2.1 q.2.2.2.2.2.2.1 q.2.2.2.2.2.2.2.1 q.2.2.2.2.2.2.2.2.1 q.2.2.2.2.2.2.2.2.2.1 q.2.2.2.2.2.2.2.2.2.2.1 q.2.2.2.2.2.2.2.2.2.2.2
theorem un12_inv {A1 A2 A3 A4 A5 A6 A7 A8 A9 A10 A11 A12 β : Type} {a1 : A1} {a2 : A2} {a3 : A3} {a4 : A4} {a5 : A5} {a6 : A6} {a7 : A7} {a8 : A8} {a9 : A9} {a10 : A10} {a11 : A11} {a12 : A12} {f : A1 → A2 → A3 → A4 → A5 → A6 → A7 → A8 → A9 → A10 → A11 → A12 → Option β} {r : β} (h : un12 (a1, a2, a3, a4, a5, a6, a7, a8, a9, a10, a11, a12) f = some r) : f a1 a2 a3 a4 a5 a6 a7 a8 a9 a10 a11 a12 = some r := h
def bd0 {β : Type} (x : Option Unit) (f : Option β) : Option β := x.bind (fun _ => f)
theorem bd0_inv {β : Type} {x : Option Unit} {f : Option β} {r : β} (h : bd0 x f = some r) : x = some () ∧ f = some r := by
  unfold bd0 at h
  cases x with
  | none => cases h
  | some q => exact ⟨rfl, h⟩
def bdS {A B β : Type} (x : Option (A ⊕ B)) (f : A → Option β) (g : B → Option β) : Option β := x.bind (Sum.elim f g)
theorem bdS_inv {A B β : Type} {x : Option (A ⊕ B)} {f : A → Option β} {g : B → Option β} {r : β} (h : bdS x f g = some r) : (∃ a, x = some (.inl a) ∧ f a = some r) ∨ (∃ b, x = some (.inr b) ∧ g b = some r) := by
  unfold bdS at h
  cases x with
  | none => cases h
  | some q =>
    cases q with
    | inl a => exact Or.inl ⟨a, rfl, h⟩
    | inr b => exact Or.inr ⟨b, rfl, h⟩
/-- a drawing's five cells -/
def DrOk (n o : Nat) : Prop := (o = 1 ∨ (49 ≤ o ∧ (o - 49) % 5 = 0)) ∧ o + 5 ≤ n
def drok (n : Nat) (v : Int32) : Bool := decide (49 ≤ v.toNatClampNeg) && (decide ((v.toNatClampNeg - 49) % 5 = 0) && decide (v.toNatClampNeg + 5 ≤ n))
theorem drok_ok {n : Nat} {v : Int32} (h : drok n v = true) : DrOk n v.toNatClampNeg := by
  unfold drok at h
  rw [Bool.and_eq_true, Bool.and_eq_true, decide_eq_true_eq, decide_eq_true_eq, decide_eq_true_eq] at h
  exact ⟨Or.inr ⟨h.1, h.2.1⟩, h.2.2⟩
theorem DrOk.main {n : Nat} (h : 49 ≤ n) : DrOk n 1 := ⟨Or.inl rfl, by omega⟩
theorem DrOk.lt0 {n o : Nat} (h : DrOk n o) : o < n := by have := h.2; omega
theorem DrOk.lt1 {n o : Nat} (h : DrOk n o) : o + 1 < n := by have := h.2; omega
theorem DrOk.lt2 {n o : Nat} (h : DrOk n o) : o + 2 < n := by have := h.2; omega
theorem DrOk.lt3 {n o : Nat} (h : DrOk n o) : o + 3 < n := by have := h.2; omega
theorem DrOk.lt4 {n o : Nat} (h : DrOk n o) : o + 4 < n := by have := h.2; omega
theorem sh0_dyn {o j : Nat} (h : 49 ≤ o) (h5 : (o - 49) % 5 = 0) (hj : j < 5) : sh0 (o + j) = drS o j := by
  unfold sh0
  rw [if_neg (by omega)]
  rw [show 49 + 5 * ((o + j - 49) / 5) = o by omega, show (o + j - 49) % 5 = j by omega]
theorem DrOk.s0 {n o : Nat} (h : DrOk n o) : sh0 o = .inr (1, [some (o + 1), some (o + 2), some (o + 3), some (o + 4)]) := by
  rcases h.1 with rfl | ⟨h1, h2⟩
  · rfl
  · exact sh0_dyn (j := 0) h1 h2 (by omega)
theorem DrOk.s1 {n o : Nat} (h : DrOk n o) : sh0 (o + 1) = .inl (0, 192) := by
  rcases h.1 with rfl | ⟨h1, h2⟩
  · rfl
  · exact sh0_dyn (j := 1) h1 h2 (by omega)
theorem DrOk.s2 {n o : Nat} (h : DrOk n o) : sh0 (o + 2) = .inl (0, 192) := by
  rcases h.1 with rfl | ⟨h1, h2⟩
  · rfl
  · exact sh0_dyn (j := 2) h1 h2 (by omega)
theorem DrOk.s3 {n o : Nat} (h : DrOk n o) : sh0 (o + 3) = .inl (0, 24) := by
  rcases h.1 with rfl | ⟨h1, h2⟩
  · rfl
  · exact sh0_dyn (j := 3) h1 h2 (by omega)
theorem DrOk.s4 {n o : Nat} (h : DrOk n o) : sh0 (o + 4) = .inl (0, 24) := by
  rcases h.1 with rfl | ⟨h1, h2⟩
  · rfl
  · exact sh0_dyn (j := 4) h1 h2 (by omega)
theorem tbl_ok {k : List (Nat × Instr × Nat)} {cc : ByteArray} (h : ∀ q ∈ k, decode cc q.1 = .ok q.2) : ∀ (i : Nat) (q : Nat × Instr × Nat), k[i]? = some q → decode cc q.1 = .ok q.2 := fun _ q hq => h q (List.mem_of_getElem? hq)
theorem sh_0 : sh0 0 = .inr (4, [some 1, some 6, some 10, some 17]) := rfl
theorem sh_1 : sh0 1 = .inr (1, [some 2, some 3, some 4, some 5]) := rfl
theorem sh_2 : sh0 2 = .inl (0, 192) := rfl
theorem sh_3 : sh0 3 = .inl (0, 192) := rfl
theorem sh_4 : sh0 4 = .inl (0, 24) := rfl
theorem sh_5 : sh0 5 = .inl (0, 24) := rfl
theorem sh_6 : sh0 6 = .inr (2, [some 7, some 8, some 9, none]) := rfl
theorem sh_7 : sh0 7 = .inl (0, 24) := rfl
theorem sh_8 : sh0 8 = .inl (0, 92) := rfl
theorem sh_9 : sh0 9 = .inl (0, 92) := rfl
theorem sh_10 : sh0 10 = .inr (3, [some 11, none, some 12, some 13, some 14, some 15, some 16]) := rfl
theorem sh_11 : sh0 11 = .inl (3, 10) := rfl
theorem sh_12 : sh0 12 = .inl (0, 36) := rfl
theorem sh_13 : sh0 13 = .inl (0, 36) := rfl
theorem sh_14 : sh0 14 = .inl (0, 2) := rfl
theorem sh_15 : sh0 15 = .inl (0, 2) := rfl
theorem sh_16 : sh0 16 = .inl (0, 97) := rfl
theorem sh_17 : sh0 17 = .inr (0, [none, none, some 18, some 19, some 20, some 21, some 22, some 23, some 24, some 25, some 26, none, none]) := rfl
theorem sh_18 : sh0 18 = .inl (0, 903) := rfl
theorem sh_19 : sh0 19 = .inl (0, 903) := rfl
theorem sh_20 : sh0 20 = .inl (0, 903) := rfl
theorem sh_21 : sh0 21 = .inl (0, 97) := rfl
theorem sh_22 : sh0 22 = .inl (0, 903) := rfl
theorem sh_23 : sh0 23 = .inl (0, 903) := rfl
theorem sh_24 : sh0 24 = .inl (0, 903) := rfl
theorem sh_25 : sh0 25 = .inl (0, 903) := rfl
theorem sh_26 : sh0 26 = .inl (0, 903) := rfl
theorem sh_27 : sh0 27 = .inr (5, [none, none, some 28, some 29, some 30, some 31, some 32, some 33, none, some 34, some 35, some 36, some 37, some 38, none, some 39, some 40, some 41, some 42, some 43, some 44, some 45, some 46, none, none, some 47]) := rfl
theorem sh_28 : sh0 28 = .inl (0, 264) := rfl
theorem sh_29 : sh0 29 = .inl (0, 264) := rfl
theorem sh_30 : sh0 30 = .inl (0, 2112) := rfl
theorem sh_31 : sh0 31 = .inl (0, 2112) := rfl
theorem sh_32 : sh0 32 = .inl (0, 32) := rfl
theorem sh_33 : sh0 33 = .inl (0, 96) := rfl
theorem sh_34 : sh0 34 = .inl (0, 96) := rfl
theorem sh_35 : sh0 35 = .inl (0, 36) := rfl
theorem sh_36 : sh0 36 = .inl (0, 36) := rfl
theorem sh_37 : sh0 37 = .inl (0, 2) := rfl
theorem sh_38 : sh0 38 = .inl (0, 2) := rfl
theorem sh_39 : sh0 39 = .inl (0, 1000) := rfl
theorem sh_40 : sh0 40 = .inl (0, 1000) := rfl
theorem sh_41 : sh0 41 = .inl (0, 1000) := rfl
theorem sh_42 : sh0 42 = .inl (1, 1000) := rfl
theorem sh_43 : sh0 43 = .inl (1, 97) := rfl
theorem sh_44 : sh0 44 = .inl (0, 1000) := rfl
theorem sh_45 : sh0 45 = .inl (0, 1000) := rfl
theorem sh_46 : sh0 46 = .inl (0, 1000) := rfl
theorem sh_47 : sh0 47 = .inl (0, 1000) := rfl
theorem sh_48 : sh0 48 = .inl (2, 1) := rfl
section JN
variable {p : Program} {l : Launch} {e : Env} {R : Room} {s : State} {m : MethodId} {args : Array Value} {below : List Frame} {meth : Method} {c : Code} {D : va_G} {cA : Nat → ClassId} {ad : Nat → Nat} {n : Nat} {A : Nat → Prop} {sa : Nat → Nat} {nL cells slots : Nat} {Q : State → Prop} {cc : ByteArray} {own : String} {kt : List (Nat × Instr × Nat)} {M : Mem} {pc : Nat} {L : List (Nat × Value)} {st : List Value} {M2 : Mem}
theorem Cx.lt (hX : Cx p s m args meth c D cA ad n A sa cc nL own kt) {k : Nat} (h : k < 49) : k < n := Nat.lt_of_lt_of_le h hX.n49
theorem J.nm {x v : Int32} (h : x = v) (kk : J p l e R s m args below meth c D cA ad n A nL cells slots Q M pc L (.int v :: st)) : J p l e R s m args below meth c D cA ad n A nL cells slots Q M pc L (.int x :: st) := by rw [h]; exact kk
theorem J.ialdN (hX : Cx p s m args meth c D cA ad n A sa cc nL own kt) (i : Nat) (k : Nat) {len : Nat} {x : Int32} (hkn : k < n) (hs : sh0 k = .inl (0, len)) (hb : vp_in x len) {t : Int32} (ht : M k x.toNatClampNeg = t) (hk : kt[i]? = some (pc, .iaload, 1)) (kk : J p l e R s m args below meth c D cA ad n A nL cells slots Q M (pc + 1) L (.int t :: st)) : J p l e R s m args below meth c D cA ad n A nL cells slots Q M pc L (.int x :: .ref (ad k) :: st) := J.iald hX i k hkn hs hb hk (by rw [ht]; exact kk)
theorem J.zaldN (hX : Cx p s m args meth c D cA ad n A sa cc nL own kt) (i : Nat) (k : Nat) {len : Nat} {x : Int32} (hkn : k < n) (hs : sh0 k = .inl (1, len)) (hb : vp_in x len) {t : Int32} (ht : M k x.toNatClampNeg = t) (hk : kt[i]? = some (pc, .baload, 1)) (kk : J p l e R s m args below meth c D cA ad n A nL cells slots Q M (pc + 1) L (.int t :: st)) : J p l e R s m args below meth c D cA ad n A nL cells slots Q M pc L (.int x :: .ref (ad k) :: st) := J.zald hX i k hkn hs hb hk (by rw [ht]; exact kk)
theorem J.iastN (hX : Cx p s m args meth c D cA ad n A sa cc nL own kt) (i : Nat) (k : Nat) {len : Nat} {x : Int32} (hkn : k < n) (hs : sh0 k = .inl (0, len)) (hb : vp_in x len) {v : Int32} (hM : wr M k x.toNatClampNeg v = M2) (hk : kt[i]? = some (pc, .iastore, 1)) (kk : J p l e R s m args below meth c D cA ad n A nL cells slots Q M2 (pc + 1) L st) : J p l e R s m args below meth c D cA ad n A nL cells slots Q M pc L (.int v :: .int x :: .ref (ad k) :: st) := J.iast hX i k hkn hs hb hk (by rw [hM]; exact kk)
theorem J.zastN (hX : Cx p s m args meth c D cA ad n A sa cc nL own kt) (i : Nat) (k : Nat) {len : Nat} {x : Int32} (hkn : k < n) (hs : sh0 k = .inl (1, len)) (hb : vp_in x len) {v : Int32} (hM : wr M k x.toNatClampNeg v = M2) (hv : vp_nar .boolean v = v) (hk : kt[i]? = some (pc, .bastore, 1)) (kk : J p l e R s m args below meth c D cA ad n A nL cells slots Q M2 (pc + 1) L st) : J p l e R s m args below meth c D cA ad n A nL cells slots Q M pc L (.int v :: .int x :: .ref (ad k) :: st) := J.zast hX i k hkn hs hb hv hk (by rw [hM]; exact kk)
theorem J.putIN (hX : Cx p s m args meth c D cA ad n A sa cc nL own kt) (i : Nat) (k ci : Nat) {fs : List (Option Nat)} {C : String} {T : u_T} {N ix : Nat} (hkn : k < n) (hs : sh0 k = .inr (ci, fs)) (hc : cls6[ci]? = some (C, T, N)) (hin : ∀ w ∈ u_ws C T N, w ∈ wsL_law) (j : Nat) (hj : j < N) (hw : Cond.fieldLink own ix (T j).1 (T j).2.1 (T j).2.2.1 ∈ wsL_law) {v : Int32} (ty0 : Nat → FieldType) (hty : ∀ k, k < N → parseFieldDescriptor (T k).2.2.1 = some (ty0 k)) (hnm : ∀ a, a < N → ∀ b, b < N → a ≠ b → (T a).2.1 ≠ (T b).2.1) (hM : wr M k j v = M2) (hf : fs[j]? = some none) (hfin : (T j).2.2.2 = false) (hd : parseFieldDescriptor (T j).2.2.1 = some .int) (hk : kt[i]? = some (pc, .putfield ix, 3)) (kk : J p l e R s m args below meth c D cA ad n A nL cells slots Q M2 (pc + 3) L st) : J p l e R s m args below meth c D cA ad n A nL cells slots Q M pc L (.int v :: .ref (ad k) :: st) := J.putI hX i k ci hkn hs hc hin j hj hw ty0 hty hnm hf hfin hd hk (by rw [hM]; exact kk)
theorem J.tabIn (hX : Cx p s m args meth c D cA ad n A sa cc nL own kt) (i : Nat) {dflt lo hi : Int} {offs : Array Int} {len : Nat} {x : Int32} (off : Int) (tgt : Nat) (hk : kt[i]? = some (pc, .tableswitch dflt lo hi offs, len)) (h1 : ¬ x.toInt < lo) (h2 : ¬ hi < x.toInt) (ho : offs[(x.toInt - lo).toNat]? = some off) (ht : (pc : Int) + off = (tgt : Int)) (kk : J p l e R s m args below meth c D cA ad n A nL cells slots Q M tgt L st) : J p l e R s m args below meth c D cA ad n A nL cells slots Q M pc L (.int x :: st) := fun H locs ls hP hS hL => lv_tableIn hX.ex hX.by (hX.dec hk) h1 h2 ho ht (kk H locs ls hP hS hL)
theorem J.tabOut (hX : Cx p s m args meth c D cA ad n A sa cc nL own kt) (i : Nat) {dflt lo hi : Int} {offs : Array Int} {len : Nat} {x : Int32} (tgt : Nat) (hk : kt[i]? = some (pc, .tableswitch dflt lo hi offs, len)) (h1 : x.toInt < lo ∨ hi < x.toInt) (ht : (pc : Int) + dflt = (tgt : Int)) (kk : J p l e R s m args below meth c D cA ad n A nL cells slots Q M tgt L st) : J p l e R s m args below meth c D cA ad n A nL cells slots Q M pc L (.int x :: st) := fun H locs ls hP hS hL => lv_tableOut hX.ex hX.by (hX.dec hk) h1 ht (kk H locs ls hP hS hL)
theorem J.look (hX : Cx p s m args meth c D cA ad n A sa cc nL own kt) (i : Nat) {dflt : Int} {ps : Array (Int × Int)} {len : Nat} {x : Int32} (off : Int) (tgt : Nat) (hk : kt[i]? = some (pc, .lookupswitch dflt ps, len)) (hp : (ps.toList.zip (ps.toList.drop 1)).all (fun (a, next) => a.1 < next.1) = true) (ho : Op.lookupswitch.offset ps.toList dflt x.toInt = off) (ht : (pc : Int) + off = (tgt : Int)) (kk : J p l e R s m args below meth c D cA ad n A nL cells slots Q M tgt L st) : J p l e R s m args below meth c D cA ad n A nL cells slots Q M pc L (.int x :: st) := fun H locs ls hP hS hL => lv_lookup hX.ex hX.by (hX.dec hk) hp ho ht (kk H locs ls hP hS hL)
theorem J.mmax (hX : Cx p s m args meth c D cA ad n A sa cc nL own kt) (i : Nat) {ix : Nat} {x y : Int32} (hk : kt[i]? = some (pc, .invokestatic ix, 3)) (hm : Cond.methodLink own ix Lib.Math.max.name ∈ wsL_law) (h2 : Cond.static Lib.Math.max.name ∈ wsL_law) (h3 : Cond.initialized "java/lang/Math" ∈ wsL_law) (h4 : Cond.code Lib.Math.max.name Lib.Math.max.code 2 (some .int) ∈ wsL_law) (hfr : 1 ≤ R.frames) (hlo : (st.map fun v => v.category).sum + 13 ≤ R.locals) (hc : cells ≤ R.cells) (hsl : slots ≤ R.slots) (kk : J p l e R s m args below meth c D cA ad n A nL cells slots Q M (pc + 3) L (.int (if x < y then y else x) :: st)) : J p l e R s m args below meth c D cA ad n A nL cells slots Q M pc L (.int y :: .int x :: st) := fun H locs ls hP hS hL => va_mmax hX.ex hX.by (hX.ml.trans hL.1.symm) hX.ow (hX.ws _ hm) (hX.ws _ h2) (hX.ws _ h3) (hX.ws _ h4) hfr hlo hc hsl (hX.dec hk) (kk H locs ls hP hS hL)
theorem J.mmin (hX : Cx p s m args meth c D cA ad n A sa cc nL own kt) (i : Nat) {ix : Nat} {x y : Int32} (hk : kt[i]? = some (pc, .invokestatic ix, 3)) (hm : Cond.methodLink own ix Lib.Math.min.name ∈ wsL_law) (h2 : Cond.static Lib.Math.min.name ∈ wsL_law) (h3 : Cond.initialized "java/lang/Math" ∈ wsL_law) (h4 : Cond.code Lib.Math.min.name Lib.Math.min.code 2 (some .int) ∈ wsL_law) (hfr : 1 ≤ R.frames) (hlo : (st.map fun v => v.category).sum + 13 ≤ R.locals) (hc : cells ≤ R.cells) (hsl : slots ≤ R.slots) (kk : J p l e R s m args below meth c D cA ad n A nL cells slots Q M (pc + 3) L (.int (if y < x then y else x) :: st)) : J p l e R s m args below meth c D cA ad n A nL cells slots Q M pc L (.int y :: .int x :: st) := fun H locs ls hP hS hL => va_mmin hX.ex hX.by (hX.ml.trans hL.1.symm) hX.ow (hX.ws _ hm) (hX.ws _ h2) (hX.ws _ h3) (hX.ws _ h4) hfr hlo hc hsl (hX.dec hk) (kk H locs ls hP hS hL)
theorem J.mabs (hX : Cx p s m args meth c D cA ad n A sa cc nL own kt) (i : Nat) {ix : Nat} {x : Int32} (hk : kt[i]? = some (pc, .invokestatic ix, 3)) (hm : Cond.methodLink own ix Lib.Math.abs.name ∈ wsL_law) (h2 : Cond.static Lib.Math.abs.name ∈ wsL_law) (h3 : Cond.initialized "java/lang/Math" ∈ wsL_law) (h4 : Cond.code Lib.Math.abs.name Lib.Math.abs.code 1 (some .int) ∈ wsL_law) (hfr : 1 ≤ R.frames) (hlo : (st.map fun v => v.category).sum + 13 ≤ R.locals) (hc : cells ≤ R.cells) (hsl : slots ≤ R.slots) (kk : J p l e R s m args below meth c D cA ad n A nL cells slots Q M (pc + 3) L (.int (if 0 ≤ x then x else 0 - x) :: st)) : J p l e R s m args below meth c D cA ad n A nL cells slots Q M pc L (.int x :: st) := fun H locs ls hP hS hL => va_mabs hX.ex hX.by (hX.ml.trans hL.1.symm) hX.ow (hX.ws _ hm) (hX.ws _ h2) (hX.ws _ h3) (hX.ws _ h4) hfr hlo hc hsl (hX.dec hk) (kk H locs ls hP hS hL)
theorem J.aloadQn (hX : Cx p s m args meth c D cA ad n A sa cc nL own kt) (i : Nat) {k : Fin 4} {v : Int32} (q : Nat) (hk : kt[i]? = some (pc, .aload_n k, 1)) (hl : L[q]? = some (k.val, va_rf (dec ad v))) (kk : J p l e R s m args below meth c D cA ad n A nL cells slots Q M (pc + 1) L (va_rf (dec ad v) :: st)) : J p l e R s m args below meth c D cA ad n A nL cells slots Q M pc L st := fun H locs ls hP hS hL => by
  by_cases h : v = 0
  · rw [show va_rf (dec ad v) = .null from by simp [dec, h, va_rf]] at hl kk
    exact lv_aload_nN hX.ex hX.by (hX.dec hk) rfl (lv_at hL q hl) (kk H locs ls hP hS hL)
  · rw [show va_rf (dec ad v) = .ref (ad v.toNatClampNeg) from by simp [dec, h, va_rf]] at hl kk
    exact lv_aload_n hX.ex hX.by (hX.dec hk) rfl (lv_at hL q hl) (kk H locs ls hP hS hL)
theorem J.aloadQ (hX : Cx p s m args meth c D cA ad n A sa cc nL own kt) (i : Nat) {k : Nat} {v : Int32} (q : Nat) (hk : kt[i]? = some (pc, .aload k, 2)) (hl : L[q]? = some (k, va_rf (dec ad v))) (kk : J p l e R s m args below meth c D cA ad n A nL cells slots Q M (pc + 2) L (va_rf (dec ad v) :: st)) : J p l e R s m args below meth c D cA ad n A nL cells slots Q M pc L st := fun H locs ls hP hS hL => by
  by_cases h : v = 0
  · rw [show va_rf (dec ad v) = .null from by simp [dec, h, va_rf]] at hl kk
    exact lv_aloadN hX.ex hX.by (hX.dec hk) (lv_at hL q hl) (kk H locs ls hP hS hL)
  · rw [show va_rf (dec ad v) = .ref (ad v.toNatClampNeg) from by simp [dec, h, va_rf]] at hl kk
    exact lv_aload hX.ex hX.by (hX.dec hk) (lv_at hL q hl) (kk H locs ls hP hS hL)
theorem J.isref {v : Int32} (h : ¬ v = 0) (kk : J p l e R s m args below meth c D cA ad n A nL cells slots Q M pc L (.ref (ad v.toNatClampNeg) :: st)) : J p l e R s m args below meth c D cA ad n A nL cells slots Q M pc L (va_rf (dec ad v) :: st) := by
  rw [show va_rf (dec ad v) = .ref (ad v.toNatClampNeg) from by simp [dec, h, va_rf]]
  exact kk
end JN
abbrev JM (fr lo : Nat) (p : Program) (l : Launch) (e : Env) (s : State) (m : MethodId) (args : Array Value) (below : List Frame) (meth : Method) (c : Code) (D : va_G) (cA : Nat → ClassId) (ad : Nat → Nat) (n : Nat) (A : Nat → Prop) (nL : Nat) (out : Option Value ⊕ String) (M1 : Mem) (M : Mem) (pc : Nat) (L : List (Nat × Value)) (st : List Value) : Prop := J p l e (rm4 fr lo out) s m args below meth c D cA ad n A nL 0 0 (vx_MQ below (QQ D cA ad n A out M1) (XX D cA ad n A out M1) args s (oc out) (os out) A) M pc L st
theorem in_wsL_law0_r1 : ∀ w ∈ wsL_law0_r1, w ∈ wsL_law := fun w h => List.mem_append_left _ (List.mem_append_left _ (List.mem_append_left _ (List.mem_append_left _ (List.mem_append_left _ (List.mem_append_left _ (List.mem_append_left _ (List.mem_append_left _ (List.mem_append_left _ (List.mem_append_left _ (List.mem_append_left _ (h)))))))))))
theorem in_wsL_law0_r2 : ∀ w ∈ wsL_law0_r2, w ∈ wsL_law := fun w h => List.mem_append_left _ (List.mem_append_left _ (List.mem_append_left _ (List.mem_append_left _ (List.mem_append_left _ (List.mem_append_left _ (List.mem_append_left _ (List.mem_append_left _ (List.mem_append_left _ (List.mem_append_left _ (List.mem_append_right _ (List.mem_append_left _ (h))))))))))))
theorem in_wsL_law0_r3 : ∀ w ∈ wsL_law0_r3, w ∈ wsL_law := fun w h => List.mem_append_left _ (List.mem_append_left _ (List.mem_append_left _ (List.mem_append_left _ (List.mem_append_left _ (List.mem_append_left _ (List.mem_append_left _ (List.mem_append_left _ (List.mem_append_left _ (List.mem_append_left _ (List.mem_append_right _ (List.mem_append_right _ (List.mem_append_left _ (h)))))))))))))
theorem in_wsL_law0_r4 : ∀ w ∈ wsL_law0_r4, w ∈ wsL_law := fun w h => List.mem_append_left _ (List.mem_append_left _ (List.mem_append_left _ (List.mem_append_left _ (List.mem_append_left _ (List.mem_append_left _ (List.mem_append_left _ (List.mem_append_left _ (List.mem_append_left _ (List.mem_append_left _ (List.mem_append_right _ (List.mem_append_right _ (List.mem_append_right _ (List.mem_append_left _ (h))))))))))))))
theorem in_wsL_law0_r5 : ∀ w ∈ wsL_law0_r5, w ∈ wsL_law := fun w h => List.mem_append_left _ (List.mem_append_left _ (List.mem_append_left _ (List.mem_append_left _ (List.mem_append_left _ (List.mem_append_left _ (List.mem_append_left _ (List.mem_append_left _ (List.mem_append_left _ (List.mem_append_left _ (List.mem_append_right _ (List.mem_append_right _ (List.mem_append_right _ (List.mem_append_right _ (List.mem_append_left _ (h)))))))))))))))
theorem in_wsL_law0_r6 : ∀ w ∈ wsL_law0_r6, w ∈ wsL_law := fun w h => List.mem_append_left _ (List.mem_append_left _ (List.mem_append_left _ (List.mem_append_left _ (List.mem_append_left _ (List.mem_append_left _ (List.mem_append_left _ (List.mem_append_left _ (List.mem_append_left _ (List.mem_append_left _ (List.mem_append_right _ (List.mem_append_right _ (List.mem_append_right _ (List.mem_append_right _ (List.mem_append_right _ (List.mem_append_left _ (h))))))))))))))))
theorem in_wsL_law0_r7 : ∀ w ∈ wsL_law0_r7, w ∈ wsL_law := fun w h => List.mem_append_left _ (List.mem_append_left _ (List.mem_append_left _ (List.mem_append_left _ (List.mem_append_left _ (List.mem_append_left _ (List.mem_append_left _ (List.mem_append_left _ (List.mem_append_left _ (List.mem_append_left _ (List.mem_append_right _ (List.mem_append_right _ (List.mem_append_right _ (List.mem_append_right _ (List.mem_append_right _ (List.mem_append_right _ (List.mem_append_left _ (h)))))))))))))))))
theorem in_wsL_law0_r8 : ∀ w ∈ wsL_law0_r8, w ∈ wsL_law := fun w h => List.mem_append_left _ (List.mem_append_left _ (List.mem_append_left _ (List.mem_append_left _ (List.mem_append_left _ (List.mem_append_left _ (List.mem_append_left _ (List.mem_append_left _ (List.mem_append_left _ (List.mem_append_left _ (List.mem_append_right _ (List.mem_append_right _ (List.mem_append_right _ (List.mem_append_right _ (List.mem_append_right _ (List.mem_append_right _ (List.mem_append_right _ (List.mem_append_left _ (h))))))))))))))))))
theorem in_wsL_law0_r9 : ∀ w ∈ wsL_law0_r9, w ∈ wsL_law := fun w h => List.mem_append_left _ (List.mem_append_left _ (List.mem_append_left _ (List.mem_append_left _ (List.mem_append_left _ (List.mem_append_left _ (List.mem_append_left _ (List.mem_append_left _ (List.mem_append_left _ (List.mem_append_left _ (List.mem_append_right _ (List.mem_append_right _ (List.mem_append_right _ (List.mem_append_right _ (List.mem_append_right _ (List.mem_append_right _ (List.mem_append_right _ (List.mem_append_right _ (List.mem_append_left _ (h)))))))))))))))))))
theorem in_wsL_law0_r10 : ∀ w ∈ wsL_law0_r10, w ∈ wsL_law := fun w h => List.mem_append_left _ (List.mem_append_left _ (List.mem_append_left _ (List.mem_append_left _ (List.mem_append_left _ (List.mem_append_left _ (List.mem_append_left _ (List.mem_append_left _ (List.mem_append_left _ (List.mem_append_left _ (List.mem_append_right _ (List.mem_append_right _ (List.mem_append_right _ (List.mem_append_right _ (List.mem_append_right _ (List.mem_append_right _ (List.mem_append_right _ (List.mem_append_right _ (List.mem_append_right _ (List.mem_append_left _ (h))))))))))))))))))))
theorem in_wsL_law0_r11 : ∀ w ∈ wsL_law0_r11, w ∈ wsL_law := fun w h => List.mem_append_left _ (List.mem_append_left _ (List.mem_append_left _ (List.mem_append_left _ (List.mem_append_left _ (List.mem_append_left _ (List.mem_append_left _ (List.mem_append_left _ (List.mem_append_left _ (List.mem_append_left _ (List.mem_append_right _ (List.mem_append_right _ (List.mem_append_right _ (List.mem_append_right _ (List.mem_append_right _ (List.mem_append_right _ (List.mem_append_right _ (List.mem_append_right _ (List.mem_append_right _ (List.mem_append_right _ (List.mem_append_left _ (h)))))))))))))))))))))
theorem in_wsL_law0_r12 : ∀ w ∈ wsL_law0_r12, w ∈ wsL_law := fun w h => List.mem_append_left _ (List.mem_append_left _ (List.mem_append_left _ (List.mem_append_left _ (List.mem_append_left _ (List.mem_append_left _ (List.mem_append_left _ (List.mem_append_left _ (List.mem_append_left _ (List.mem_append_left _ (List.mem_append_right _ (List.mem_append_right _ (List.mem_append_right _ (List.mem_append_right _ (List.mem_append_right _ (List.mem_append_right _ (List.mem_append_right _ (List.mem_append_right _ (List.mem_append_right _ (List.mem_append_right _ (List.mem_append_right _ (List.mem_append_left _ (h))))))))))))))))))))))
theorem in_wsL_law0_r13 : ∀ w ∈ wsL_law0_r13, w ∈ wsL_law := fun w h => List.mem_append_left _ (List.mem_append_left _ (List.mem_append_left _ (List.mem_append_left _ (List.mem_append_left _ (List.mem_append_left _ (List.mem_append_left _ (List.mem_append_left _ (List.mem_append_left _ (List.mem_append_left _ (List.mem_append_right _ (List.mem_append_right _ (List.mem_append_right _ (List.mem_append_right _ (List.mem_append_right _ (List.mem_append_right _ (List.mem_append_right _ (List.mem_append_right _ (List.mem_append_right _ (List.mem_append_right _ (List.mem_append_right _ (List.mem_append_right _ (List.mem_append_left _ (h)))))))))))))))))))))))
theorem in_wsL_law0_r14 : ∀ w ∈ wsL_law0_r14, w ∈ wsL_law := fun w h => List.mem_append_left _ (List.mem_append_left _ (List.mem_append_left _ (List.mem_append_left _ (List.mem_append_left _ (List.mem_append_left _ (List.mem_append_left _ (List.mem_append_left _ (List.mem_append_left _ (List.mem_append_left _ (List.mem_append_right _ (List.mem_append_right _ (List.mem_append_right _ (List.mem_append_right _ (List.mem_append_right _ (List.mem_append_right _ (List.mem_append_right _ (List.mem_append_right _ (List.mem_append_right _ (List.mem_append_right _ (List.mem_append_right _ (List.mem_append_right _ (List.mem_append_right _ (List.mem_append_left _ (h))))))))))))))))))))))))
theorem in_wsL_law0_r15 : ∀ w ∈ wsL_law0_r15, w ∈ wsL_law := fun w h => List.mem_append_left _ (List.mem_append_left _ (List.mem_append_left _ (List.mem_append_left _ (List.mem_append_left _ (List.mem_append_left _ (List.mem_append_left _ (List.mem_append_left _ (List.mem_append_left _ (List.mem_append_left _ (List.mem_append_right _ (List.mem_append_right _ (List.mem_append_right _ (List.mem_append_right _ (List.mem_append_right _ (List.mem_append_right _ (List.mem_append_right _ (List.mem_append_right _ (List.mem_append_right _ (List.mem_append_right _ (List.mem_append_right _ (List.mem_append_right _ (List.mem_append_right _ (List.mem_append_right _ (List.mem_append_left _ (h)))))))))))))))))))))))))
theorem in_wsL_law0_r16 : ∀ w ∈ wsL_law0_r16, w ∈ wsL_law := fun w h => List.mem_append_left _ (List.mem_append_left _ (List.mem_append_left _ (List.mem_append_left _ (List.mem_append_left _ (List.mem_append_left _ (List.mem_append_left _ (List.mem_append_left _ (List.mem_append_left _ (List.mem_append_left _ (List.mem_append_right _ (List.mem_append_right _ (List.mem_append_right _ (List.mem_append_right _ (List.mem_append_right _ (List.mem_append_right _ (List.mem_append_right _ (List.mem_append_right _ (List.mem_append_right _ (List.mem_append_right _ (List.mem_append_right _ (List.mem_append_right _ (List.mem_append_right _ (List.mem_append_right _ (List.mem_append_right _ (List.mem_append_left _ (h))))))))))))))))))))))))))
theorem in_wsL_law0_r17 : ∀ w ∈ wsL_law0_r17, w ∈ wsL_law := fun w h => List.mem_append_left _ (List.mem_append_left _ (List.mem_append_left _ (List.mem_append_left _ (List.mem_append_left _ (List.mem_append_left _ (List.mem_append_left _ (List.mem_append_left _ (List.mem_append_left _ (List.mem_append_left _ (List.mem_append_right _ (List.mem_append_right _ (List.mem_append_right _ (List.mem_append_right _ (List.mem_append_right _ (List.mem_append_right _ (List.mem_append_right _ (List.mem_append_right _ (List.mem_append_right _ (List.mem_append_right _ (List.mem_append_right _ (List.mem_append_right _ (List.mem_append_right _ (List.mem_append_right _ (List.mem_append_right _ (List.mem_append_right _ (List.mem_append_left _ (h)))))))))))))))))))))))))))
theorem in_wsL_law0_r18 : ∀ w ∈ wsL_law0_r18, w ∈ wsL_law := fun w h => List.mem_append_left _ (List.mem_append_left _ (List.mem_append_left _ (List.mem_append_left _ (List.mem_append_left _ (List.mem_append_left _ (List.mem_append_left _ (List.mem_append_left _ (List.mem_append_left _ (List.mem_append_left _ (List.mem_append_right _ (List.mem_append_right _ (List.mem_append_right _ (List.mem_append_right _ (List.mem_append_right _ (List.mem_append_right _ (List.mem_append_right _ (List.mem_append_right _ (List.mem_append_right _ (List.mem_append_right _ (List.mem_append_right _ (List.mem_append_right _ (List.mem_append_right _ (List.mem_append_right _ (List.mem_append_right _ (List.mem_append_right _ (List.mem_append_right _ (List.mem_append_left _ (h))))))))))))))))))))))))))))
theorem in_wsL_law0_r19 : ∀ w ∈ wsL_law0_r19, w ∈ wsL_law := fun w h => List.mem_append_left _ (List.mem_append_left _ (List.mem_append_left _ (List.mem_append_left _ (List.mem_append_left _ (List.mem_append_left _ (List.mem_append_left _ (List.mem_append_left _ (List.mem_append_left _ (List.mem_append_left _ (List.mem_append_right _ (List.mem_append_right _ (List.mem_append_right _ (List.mem_append_right _ (List.mem_append_right _ (List.mem_append_right _ (List.mem_append_right _ (List.mem_append_right _ (List.mem_append_right _ (List.mem_append_right _ (List.mem_append_right _ (List.mem_append_right _ (List.mem_append_right _ (List.mem_append_right _ (List.mem_append_right _ (List.mem_append_right _ (List.mem_append_right _ (List.mem_append_right _ (List.mem_append_left _ (h)))))))))))))))))))))))))))))
theorem in_wsL_law0_r20 : ∀ w ∈ wsL_law0_r20, w ∈ wsL_law := fun w h => List.mem_append_left _ (List.mem_append_left _ (List.mem_append_left _ (List.mem_append_left _ (List.mem_append_left _ (List.mem_append_left _ (List.mem_append_left _ (List.mem_append_left _ (List.mem_append_left _ (List.mem_append_left _ (List.mem_append_right _ (List.mem_append_right _ (List.mem_append_right _ (List.mem_append_right _ (List.mem_append_right _ (List.mem_append_right _ (List.mem_append_right _ (List.mem_append_right _ (List.mem_append_right _ (List.mem_append_right _ (List.mem_append_right _ (List.mem_append_right _ (List.mem_append_right _ (List.mem_append_right _ (List.mem_append_right _ (List.mem_append_right _ (List.mem_append_right _ (List.mem_append_right _ (List.mem_append_right _ (List.mem_append_left _ (h))))))))))))))))))))))))))))))
theorem in_wsL_law0_r21 : ∀ w ∈ wsL_law0_r21, w ∈ wsL_law := fun w h => List.mem_append_left _ (List.mem_append_left _ (List.mem_append_left _ (List.mem_append_left _ (List.mem_append_left _ (List.mem_append_left _ (List.mem_append_left _ (List.mem_append_left _ (List.mem_append_left _ (List.mem_append_left _ (List.mem_append_right _ (List.mem_append_right _ (List.mem_append_right _ (List.mem_append_right _ (List.mem_append_right _ (List.mem_append_right _ (List.mem_append_right _ (List.mem_append_right _ (List.mem_append_right _ (List.mem_append_right _ (List.mem_append_right _ (List.mem_append_right _ (List.mem_append_right _ (List.mem_append_right _ (List.mem_append_right _ (List.mem_append_right _ (List.mem_append_right _ (List.mem_append_right _ (List.mem_append_right _ (List.mem_append_right _ (List.mem_append_left _ (h)))))))))))))))))))))))))))))))
theorem in_wsL_law0_r22 : ∀ w ∈ wsL_law0_r22, w ∈ wsL_law := fun w h => List.mem_append_left _ (List.mem_append_left _ (List.mem_append_left _ (List.mem_append_left _ (List.mem_append_left _ (List.mem_append_left _ (List.mem_append_left _ (List.mem_append_left _ (List.mem_append_left _ (List.mem_append_left _ (List.mem_append_right _ (List.mem_append_right _ (List.mem_append_right _ (List.mem_append_right _ (List.mem_append_right _ (List.mem_append_right _ (List.mem_append_right _ (List.mem_append_right _ (List.mem_append_right _ (List.mem_append_right _ (List.mem_append_right _ (List.mem_append_right _ (List.mem_append_right _ (List.mem_append_right _ (List.mem_append_right _ (List.mem_append_right _ (List.mem_append_right _ (List.mem_append_right _ (List.mem_append_right _ (List.mem_append_right _ (List.mem_append_right _ (List.mem_append_left _ (h))))))))))))))))))))))))))))))))
theorem in_wsL_law0_r23 : ∀ w ∈ wsL_law0_r23, w ∈ wsL_law := fun w h => List.mem_append_left _ (List.mem_append_left _ (List.mem_append_left _ (List.mem_append_left _ (List.mem_append_left _ (List.mem_append_left _ (List.mem_append_left _ (List.mem_append_left _ (List.mem_append_left _ (List.mem_append_left _ (List.mem_append_right _ (List.mem_append_right _ (List.mem_append_right _ (List.mem_append_right _ (List.mem_append_right _ (List.mem_append_right _ (List.mem_append_right _ (List.mem_append_right _ (List.mem_append_right _ (List.mem_append_right _ (List.mem_append_right _ (List.mem_append_right _ (List.mem_append_right _ (List.mem_append_right _ (List.mem_append_right _ (List.mem_append_right _ (List.mem_append_right _ (List.mem_append_right _ (List.mem_append_right _ (List.mem_append_right _ (List.mem_append_right _ (List.mem_append_right _ (List.mem_append_left _ (h)))))))))))))))))))))))))))))))))
theorem in_wsL_law0_r24 : ∀ w ∈ wsL_law0_r24, w ∈ wsL_law := fun w h => List.mem_append_left _ (List.mem_append_left _ (List.mem_append_left _ (List.mem_append_left _ (List.mem_append_left _ (List.mem_append_left _ (List.mem_append_left _ (List.mem_append_left _ (List.mem_append_left _ (List.mem_append_left _ (List.mem_append_right _ (List.mem_append_right _ (List.mem_append_right _ (List.mem_append_right _ (List.mem_append_right _ (List.mem_append_right _ (List.mem_append_right _ (List.mem_append_right _ (List.mem_append_right _ (List.mem_append_right _ (List.mem_append_right _ (List.mem_append_right _ (List.mem_append_right _ (List.mem_append_right _ (List.mem_append_right _ (List.mem_append_right _ (List.mem_append_right _ (List.mem_append_right _ (List.mem_append_right _ (List.mem_append_right _ (List.mem_append_right _ (List.mem_append_right _ (List.mem_append_right _ (List.mem_append_left _ (h))))))))))))))))))))))))))))))))))
theorem in_wsL_law0_r25 : ∀ w ∈ wsL_law0_r25, w ∈ wsL_law := fun w h => List.mem_append_left _ (List.mem_append_left _ (List.mem_append_left _ (List.mem_append_left _ (List.mem_append_left _ (List.mem_append_left _ (List.mem_append_left _ (List.mem_append_left _ (List.mem_append_left _ (List.mem_append_left _ (List.mem_append_right _ (List.mem_append_right _ (List.mem_append_right _ (List.mem_append_right _ (List.mem_append_right _ (List.mem_append_right _ (List.mem_append_right _ (List.mem_append_right _ (List.mem_append_right _ (List.mem_append_right _ (List.mem_append_right _ (List.mem_append_right _ (List.mem_append_right _ (List.mem_append_right _ (List.mem_append_right _ (List.mem_append_right _ (List.mem_append_right _ (List.mem_append_right _ (List.mem_append_right _ (List.mem_append_right _ (List.mem_append_right _ (List.mem_append_right _ (List.mem_append_right _ (List.mem_append_right _ (List.mem_append_left _ (h)))))))))))))))))))))))))))))))))))
theorem in_wsL_law0_r26 : ∀ w ∈ wsL_law0_r26, w ∈ wsL_law := fun w h => List.mem_append_left _ (List.mem_append_left _ (List.mem_append_left _ (List.mem_append_left _ (List.mem_append_left _ (List.mem_append_left _ (List.mem_append_left _ (List.mem_append_left _ (List.mem_append_left _ (List.mem_append_left _ (List.mem_append_right _ (List.mem_append_right _ (List.mem_append_right _ (List.mem_append_right _ (List.mem_append_right _ (List.mem_append_right _ (List.mem_append_right _ (List.mem_append_right _ (List.mem_append_right _ (List.mem_append_right _ (List.mem_append_right _ (List.mem_append_right _ (List.mem_append_right _ (List.mem_append_right _ (List.mem_append_right _ (List.mem_append_right _ (List.mem_append_right _ (List.mem_append_right _ (List.mem_append_right _ (List.mem_append_right _ (List.mem_append_right _ (List.mem_append_right _ (List.mem_append_right _ (List.mem_append_right _ (List.mem_append_right _ (List.mem_append_left _ (h))))))))))))))))))))))))))))))))))))
theorem in_wsL_law0_r27 : ∀ w ∈ wsL_law0_r27, w ∈ wsL_law := fun w h => List.mem_append_left _ (List.mem_append_left _ (List.mem_append_left _ (List.mem_append_left _ (List.mem_append_left _ (List.mem_append_left _ (List.mem_append_left _ (List.mem_append_left _ (List.mem_append_left _ (List.mem_append_left _ (List.mem_append_right _ (List.mem_append_right _ (List.mem_append_right _ (List.mem_append_right _ (List.mem_append_right _ (List.mem_append_right _ (List.mem_append_right _ (List.mem_append_right _ (List.mem_append_right _ (List.mem_append_right _ (List.mem_append_right _ (List.mem_append_right _ (List.mem_append_right _ (List.mem_append_right _ (List.mem_append_right _ (List.mem_append_right _ (List.mem_append_right _ (List.mem_append_right _ (List.mem_append_right _ (List.mem_append_right _ (List.mem_append_right _ (List.mem_append_right _ (List.mem_append_right _ (List.mem_append_right _ (List.mem_append_right _ (List.mem_append_right _ (List.mem_append_left _ (h)))))))))))))))))))))))))))))))))))))
theorem in_wsL_law0_r28 : ∀ w ∈ wsL_law0_r28, w ∈ wsL_law := fun w h => List.mem_append_left _ (List.mem_append_left _ (List.mem_append_left _ (List.mem_append_left _ (List.mem_append_left _ (List.mem_append_left _ (List.mem_append_left _ (List.mem_append_left _ (List.mem_append_left _ (List.mem_append_left _ (List.mem_append_right _ (List.mem_append_right _ (List.mem_append_right _ (List.mem_append_right _ (List.mem_append_right _ (List.mem_append_right _ (List.mem_append_right _ (List.mem_append_right _ (List.mem_append_right _ (List.mem_append_right _ (List.mem_append_right _ (List.mem_append_right _ (List.mem_append_right _ (List.mem_append_right _ (List.mem_append_right _ (List.mem_append_right _ (List.mem_append_right _ (List.mem_append_right _ (List.mem_append_right _ (List.mem_append_right _ (List.mem_append_right _ (List.mem_append_right _ (List.mem_append_right _ (List.mem_append_right _ (List.mem_append_right _ (List.mem_append_right _ (List.mem_append_right _ (List.mem_append_left _ (h))))))))))))))))))))))))))))))))))))))
theorem in_wsL_law0_r29 : ∀ w ∈ wsL_law0_r29, w ∈ wsL_law := fun w h => List.mem_append_left _ (List.mem_append_left _ (List.mem_append_left _ (List.mem_append_left _ (List.mem_append_left _ (List.mem_append_left _ (List.mem_append_left _ (List.mem_append_left _ (List.mem_append_left _ (List.mem_append_left _ (List.mem_append_right _ (List.mem_append_right _ (List.mem_append_right _ (List.mem_append_right _ (List.mem_append_right _ (List.mem_append_right _ (List.mem_append_right _ (List.mem_append_right _ (List.mem_append_right _ (List.mem_append_right _ (List.mem_append_right _ (List.mem_append_right _ (List.mem_append_right _ (List.mem_append_right _ (List.mem_append_right _ (List.mem_append_right _ (List.mem_append_right _ (List.mem_append_right _ (List.mem_append_right _ (List.mem_append_right _ (List.mem_append_right _ (List.mem_append_right _ (List.mem_append_right _ (List.mem_append_right _ (List.mem_append_right _ (List.mem_append_right _ (List.mem_append_right _ (List.mem_append_right _ (List.mem_append_left _ (h)))))))))))))))))))))))))))))))))))))))
theorem in_wsL_law0_r30 : ∀ w ∈ wsL_law0_r30, w ∈ wsL_law := fun w h => List.mem_append_left _ (List.mem_append_left _ (List.mem_append_left _ (List.mem_append_left _ (List.mem_append_left _ (List.mem_append_left _ (List.mem_append_left _ (List.mem_append_left _ (List.mem_append_left _ (List.mem_append_left _ (List.mem_append_right _ (List.mem_append_right _ (List.mem_append_right _ (List.mem_append_right _ (List.mem_append_right _ (List.mem_append_right _ (List.mem_append_right _ (List.mem_append_right _ (List.mem_append_right _ (List.mem_append_right _ (List.mem_append_right _ (List.mem_append_right _ (List.mem_append_right _ (List.mem_append_right _ (List.mem_append_right _ (List.mem_append_right _ (List.mem_append_right _ (List.mem_append_right _ (List.mem_append_right _ (List.mem_append_right _ (List.mem_append_right _ (List.mem_append_right _ (List.mem_append_right _ (List.mem_append_right _ (List.mem_append_right _ (List.mem_append_right _ (List.mem_append_right _ (List.mem_append_right _ (List.mem_append_right _ (h)))))))))))))))))))))))))))))))))))))))
theorem in_wsX40 : ∀ w ∈ wsX40, w ∈ wsL_law := fun w h => List.mem_append_left _ (List.mem_append_left _ (List.mem_append_left _ (List.mem_append_left _ (List.mem_append_left _ (List.mem_append_left _ (List.mem_append_left _ (List.mem_append_left _ (List.mem_append_left _ (List.mem_append_right _ (h))))))))))
theorem in_wsX50 : ∀ w ∈ wsX50, w ∈ wsL_law := fun w h => List.mem_append_left _ (List.mem_append_left _ (List.mem_append_left _ (List.mem_append_left _ (List.mem_append_left _ (List.mem_append_left _ (List.mem_append_left _ (List.mem_append_left _ (List.mem_append_right _ (h)))))))))
theorem in_wsX10 : ∀ w ∈ wsX10, w ∈ wsL_law := fun w h => List.mem_append_left _ (List.mem_append_left _ (List.mem_append_left _ (List.mem_append_left _ (List.mem_append_left _ (List.mem_append_left _ (List.mem_append_left _ (List.mem_append_right _ (h))))))))
theorem in_wsX20 : ∀ w ∈ wsX20, w ∈ wsL_law := fun w h => List.mem_append_left _ (List.mem_append_left _ (List.mem_append_left _ (List.mem_append_left _ (List.mem_append_left _ (List.mem_append_left _ (List.mem_append_right _ (h)))))))
theorem in_wsX30 : ∀ w ∈ wsX30, w ∈ wsL_law := fun w h => List.mem_append_left _ (List.mem_append_left _ (List.mem_append_left _ (List.mem_append_left _ (List.mem_append_left _ (List.mem_append_right _ (h))))))
theorem in_wsX00 : ∀ w ∈ wsX00, w ∈ wsL_law := fun w h => List.mem_append_left _ (List.mem_append_left _ (List.mem_append_left _ (List.mem_append_left _ (List.mem_append_right _ (h)))))
end
section
/-- what a public method answers: a number (or nothing), or the class of what it throws -/
def outI (r : Int32 ⊕ String) : Option Value ⊕ String := match r with
  | .inl v => .inl (some (.int v))
  | .inr E => .inr E
def outV (r : Int32 ⊕ String) : Option Value ⊕ String := match r with
  | .inl _ => .inl none
  | .inr E => .inr E
theorem sw_ne {x v : Int32} (h : ¬ x = v) : x.toInt ≠ v.toInt := fun e => h (Int32.toInt_inj.mp e)
theorem look2 {x : Int32} (h0 : ¬ x = 0) (h1 : ¬ x = 1) : Op.lookupswitch.offset [(0, 26), (1, 34)] 42 x.toInt = 42 := by
  have z0 : x.toInt ≠ 0 := sw_ne h0
  have z1 : x.toInt ≠ 1 := sw_ne h1
  simp [Op.lookupswitch.offset, z0, z1, Ne.symm z0, Ne.symm z1]
/-- System.arraycopy(a, 0, b, 0, count) -/
def cpy {β : Type} (M : Mem) (k len k2 len2 : Nat) (x : Int32) (_ : Nat) (f : Mem → Option β) : Option β := chk (decide (0 ≤ x.toInt) && (decide (x.toNatClampNeg ≤ len) && decide (x.toNatClampNeg ≤ len2))) (f (wrR M k2 (va_cpy (M k) (M k2) 0 0 x.toNatClampNeg)))
theorem cpy_inv {β : Type} {M : Mem} {k len k2 len2 z : Nat} {x : Int32} {f : Mem → Option β} {r : β} (h : cpy M k len k2 len2 x z f = some r) : ∃ M2, wrR M k2 (va_cpy (M k) (M k2) 0 0 x.toNatClampNeg) = M2 ∧ (¬ x < 0 ∧ x.toNatClampNeg ≤ len ∧ x.toNatClampNeg ≤ len2) ∧ f M2 = some r := by
  unfold cpy at h
  obtain ⟨h1, h2⟩ := chk_inv h
  rw [Bool.and_eq_true, Bool.and_eq_true, decide_eq_true_eq, decide_eq_true_eq, decide_eq_true_eq] at h1
  refine ⟨_, rfl, ⟨?_, h1.2⟩, h2⟩
  intro hx
  have := Int32.lt_iff_toInt_lt.mp hx
  have h0 := h1.1
  simp at this
  omega
section JP
variable {p : Program} {l : Launch} {e : Env} {R : Room} {s : State} {m : MethodId} {args : Array Value} {below : List Frame} {meth : Method} {c : Code} {D : va_G} {cA : Nat → ClassId} {ad : Nat → Nat} {n : Nat} {A : Nat → Prop} {sa : Nat → Nat} {nL cells slots : Nat} {Q : State → Prop} {cc : ByteArray} {own : String} {kt : List (Nat × Instr × Nat)} {M : Mem} {pc : Nat} {L : List (Nat × Value)} {st : List Value} {M1 M2 : Mem}
theorem J.callV0 (hX : Cx p s m args meth c D cA ad n A sa cc nL own kt) (i : Nat) {y : MethodName} {C : String} {bytes : ByteArray} {maxL nP fr lo ix k : Nat} {ret : Option FieldType} {As rest : List Value} (hk : kt[i]? = some (pc, .invokevirtual ix, 3)) (hc : CT l D cA ad n A sa y bytes maxL ret fr lo (.ref (ad k) :: As) M (.inl none) M1) (hy : OKV C y bytes maxL ret nP) (hm : Cond.methodLink own ix y ∈ wsL_law) {ci : Nat} {fs : List (Option Nat)} {T : u_T} {N : Nat} (hkn : k < n) (hs : sh0 k = .inr (ci, fs)) (hcl : cls6[ci]? = some (C, T, N)) (hn : As.length = nP) (hst : st = As.reverse ++ .ref (ad k) :: rest) (hw : (rest.map fun v => v.category).sum ≤ 8) (hR : fr + 1 ≤ R.frames ∧ 8 + (maxL + 11) + lo ≤ R.locals) (hf : cells ≤ R.cells ∧ slots ≤ R.slots) (kk : J p l e R s m args below meth c D cA ad n A nL cells slots Q M1 (pc + 3) L rest) : J p l e R s m args below meth c D cA ad n A nL cells slots Q M pc L st := J.callV hX i hk hc hy hm hkn hs hcl hn hst hw hR hf kk
theorem J.callV1 (hX : Cx p s m args meth c D cA ad n A sa cc nL own kt) (i : Nat) {y : MethodName} {C : String} {bytes : ByteArray} {maxL nP fr lo ix k : Nat} {ret : Option FieldType} {As rest : List Value} {w : Value} (hk : kt[i]? = some (pc, .invokevirtual ix, 3)) (hc : CT l D cA ad n A sa y bytes maxL ret fr lo (.ref (ad k) :: As) M (.inl (some w)) M1) (hy : OKV C y bytes maxL ret nP) (hm : Cond.methodLink own ix y ∈ wsL_law) {ci : Nat} {fs : List (Option Nat)} {T : u_T} {N : Nat} (hkn : k < n) (hs : sh0 k = .inr (ci, fs)) (hcl : cls6[ci]? = some (C, T, N)) (hn : As.length = nP) (hst : st = As.reverse ++ .ref (ad k) :: rest) (hw : (rest.map fun v => v.category).sum ≤ 8) (hR : fr + 1 ≤ R.frames ∧ 8 + (maxL + 11) + lo ≤ R.locals) (hf : cells ≤ R.cells ∧ slots ≤ R.slots) (kk : J p l e R s m args below meth c D cA ad n A nL cells slots Q M1 (pc + 3) L (w :: rest)) : J p l e R s m args below meth c D cA ad n A nL cells slots Q M pc L st := J.callV hX i hk hc hy hm hkn hs hcl hn hst hw hR hf kk
theorem J.callS0 (hX : Cx p s m args meth c D cA ad n A sa cc nL own kt) (i : Nat) {y : MethodName} {bytes : ByteArray} {maxL nP fr lo ix : Nat} {ret : Option FieldType} {As rest : List Value} (hk : kt[i]? = some (pc, .invokestatic ix, 3)) (hc : CT l D cA ad n A sa y bytes maxL ret fr lo As M (.inl none) M1) (hy : OKS y bytes maxL ret nP) (hm : Cond.methodLink own ix y ∈ wsL_law) (hn : As.length = nP) (hst : st = As.reverse ++ rest) (hw : (rest.map fun v => v.category).sum ≤ 8) (hR : fr + 1 ≤ R.frames ∧ 8 + (maxL + 11) + lo ≤ R.locals) (hf : cells ≤ R.cells ∧ slots ≤ R.slots) (kk : J p l e R s m args below meth c D cA ad n A nL cells slots Q M1 (pc + 3) L rest) : J p l e R s m args below meth c D cA ad n A nL cells slots Q M pc L st := J.callS hX i hk hc hy hm hn hst hw hR hf kk
theorem J.callS1 (hX : Cx p s m args meth c D cA ad n A sa cc nL own kt) (i : Nat) {y : MethodName} {bytes : ByteArray} {maxL nP fr lo ix : Nat} {ret : Option FieldType} {As rest : List Value} {w : Value} (hk : kt[i]? = some (pc, .invokestatic ix, 3)) (hc : CT l D cA ad n A sa y bytes maxL ret fr lo As M (.inl (some w)) M1) (hy : OKS y bytes maxL ret nP) (hm : Cond.methodLink own ix y ∈ wsL_law) (hn : As.length = nP) (hst : st = As.reverse ++ rest) (hw : (rest.map fun v => v.category).sum ≤ 8) (hR : fr + 1 ≤ R.frames ∧ 8 + (maxL + 11) + lo ≤ R.locals) (hf : cells ≤ R.cells ∧ slots ≤ R.slots) (kk : J p l e R s m args below meth c D cA ad n A nL cells slots Q M1 (pc + 3) L (w :: rest)) : J p l e R s m args below meth c D cA ad n A nL cells slots Q M pc L st := J.callS hX i hk hc hy hm hn hst hw hR hf kk
theorem J.anull (hX : Cx p s m args meth c D cA ad n A sa cc nL own kt) (i : Nat)  (hk : kt[i]? = some (pc, .aconst_null, 1)) (kk : J p l e R s m args below meth c D cA ad n A nL cells slots Q M (pc + 1) L (va_rf (dec ad 0) :: st)) : J p l e R s m args below meth c D cA ad n A nL cells slots Q M pc L st := fun H locs ls hP hS hL => lv_null hX.ex hX.by (hX.dec hk) (kk H locs ls hP hS hL)
theorem J.astoreQ_n (hX : Cx p s m args meth c D cA ad n A sa cc nL own kt) (i : Nat) {k : Fin 4} {v : Int32} {L' : List (Nat × Value)} (hk : kt[i]? = some (pc, .astore_n k, 1)) (hn : k.val < nL) (hl : (k.val, va_rf (dec ad v)) :: L.filter (fun q => !(q.1 == k.val) && !(q.1 + 1 == k.val && q.2.category == 2)) = L') (kk : J p l e R s m args below meth c D cA ad n A nL cells slots Q M (pc + 1) L' st) : J p l e R s m args below meth c D cA ad n A nL cells slots Q M pc L (va_rf (dec ad v) :: st) := fun H locs ls hP hS hL => by
  by_cases h : v = 0
  · rw [show va_rf (dec ad v) = .null from by simp [dec, h, va_rf]] at hl ⊢
    exact lv_astore_nN hX.ex hX.by (hX.dec hk) rfl hL hn hl (fun ls hL => kk H locs ls hP hS hL)
  · rw [show va_rf (dec ad v) = .ref (ad v.toNatClampNeg) from by simp [dec, h, va_rf]] at hl ⊢
    exact lv_astore_n hX.ex hX.by (hX.dec hk) rfl hL hn hl (fun ls hL => kk H locs ls hP hS hL)
theorem J.astoreQ (hX : Cx p s m args meth c D cA ad n A sa cc nL own kt) (i : Nat) {k : Nat} {v : Int32} {L' : List (Nat × Value)} (hk : kt[i]? = some (pc, .astore k, 2)) (hn : k < nL) (hl : (k, va_rf (dec ad v)) :: L.filter (fun q => !(q.1 == k) && !(q.1 + 1 == k && q.2.category == 2)) = L') (kk : J p l e R s m args below meth c D cA ad n A nL cells slots Q M (pc + 2) L' st) : J p l e R s m args below meth c D cA ad n A nL cells slots Q M pc L (va_rf (dec ad v) :: st) := fun H locs ls hP hS hL => by
  by_cases h : v = 0
  · rw [show va_rf (dec ad v) = .null from by simp [dec, h, va_rf]] at hl ⊢
    exact lv_astoreN hX.ex hX.by (hX.dec hk) hL hn hl (fun ls hL => kk H locs ls hP hS hL)
  · rw [show va_rf (dec ad v) = .ref (ad v.toNatClampNeg) from by simp [dec, h, va_rf]] at hl ⊢
    exact lv_astore hX.ex hX.by (hX.dec hk) hL hn hl (fun ls hL => kk H locs ls hP hS hL)
theorem J.aret (hX : Cx p s m args meth c D cA ad n A sa cc nL own kt) (hr : meth.sig.returnType = some (.object "QuiltDesk$Drawing")) (i : Nat) {v : Int32} (hk : kt[i]? = some (pc, .areturn, 1)) :
    J p l e R s m args below meth c D cA ad n A nL 0 0 (vx_MQ below (QQ D cA ad n A (.inl (some (va_rf (dec ad v)))) M) (XX D cA ad n A (.inl (some (va_rf (dec ad v)))) M) args s 0 0 A) M pc L [va_rf (dec ad v)] := fun H locs ls hP hS hL =>
  vx_ret (W.aret hX.ex hX.by hr (Or.inl ⟨_, rfl⟩) (by
    by_cases h : v = 0
    · exact Or.inl (by simp [dec, h, va_rf])
    · exact Or.inr ⟨ad v.toNatClampNeg, by simp [dec, h, va_rf]⟩) (fun t ht hW => ⟨_, rfl, rfl, by rw [ht]; exact hP, hS.F ht⟩) hS.2.2 (hX.dec hk) hX.lk)
theorem J.copy (hX : Cx p s m args meth c D cA ad n A sa cc nL own kt) (i : Nat) (k k2 : Nat) {len len2 ix : Nat} {x : Int32} (hkn : k < n) (hs : sh0 k = .inl (0, len)) (hkn2 : k2 < n) (hs2 : sh0 k2 = .inl (0, len2)) (hb : ¬ x < 0 ∧ x.toNatClampNeg ≤ len ∧ x.toNatClampNeg ≤ len2) (hM : wrR M k2 (va_cpy (M k) (M k2) 0 0 x.toNatClampNeg) = M2) (hk : kt[i]? = some (pc, .invokestatic ix, 3)) (hm : Cond.methodLink own ix arraycopyName ∈ wsL_law) (h2 : Cond.native arraycopyName ∈ wsL_law) (h3 : Cond.static arraycopyName ∈ wsL_law) (h4 : Cond.initialized "java/lang/System" ∈ wsL_law) (hfr : 1 ≤ R.frames) (hlo : (st.map fun v => v.category).sum + (nativeFrameWords "java/lang/System" "arraycopy" 5 + 11) ≤ R.locals) (kk : J p l e R s m args below meth c D cA ad n A nL cells slots Q M2 (pc + 3) L st) : J p l e R s m args below meth c D cA ad n A nL cells slots Q M pc L (.int x :: .int 0 :: .ref (ad k2) :: .int 0 :: .ref (ad k) :: st) := fun H locs ls hP hS hL => va_copyi (ty := .int) hX.ex hX.by (hX.ml.trans hL.1.symm) hX.ow (hX.ws _ hm) (hX.ws _ h2) (hX.ws _ h3) (hX.ws _ h4) hX.kn hP (hX.dd.D cA M) hS k k2 0 0 (Wd_i hkn hs) (Wd_i hkn2 hs2) rfl rfl rfl (by decide) (by decide) hb.1 (by show 0 + _ ≤ _; omega) (by show 0 + _ ≤ _; omega) (fun _ _ => rfl) hfr hlo (hX.dec hk) (fun H locs hP _ hS => kk H locs ls (by rw [Wd_is hkn2 hs2] at hP; rw [← hM]; exact hP) hS hL)
end JP
end
section
theorem w_0 : Cond.constant RJ6 265 (1431655765) ∈ wsL_law := in_wsL_law0_r10 _ (List.mem_of_getElem? (i := 13) rfl)
theorem w_1 : Cond.constant RJ6 266 (858993459) ∈ wsL_law := in_wsL_law0_r10 _ (List.mem_of_getElem? (i := 14) rfl)
theorem w_2 : Cond.constant RJ6 267 (252645135) ∈ wsL_law := in_wsL_law0_r10 _ (List.mem_of_getElem? (i := 15) rfl)
theorem w_3 : Cond.fieldLink RX1 18 "QuiltDesk$Drawing" "corners" "[I" ∈ wsL_law := in_wsL_law0_r2 _ (List.mem_of_getElem? (i := 11) rfl)
theorem w_4 : Cond.fieldLink RX1 9 "QuiltDesk$Drawing" "xs" "[I" ∈ wsL_law := in_wsL_law0_r2 _ (List.mem_of_getElem? (i := 9) rfl)
theorem w_5 : Cond.fieldLink RX1 15 "QuiltDesk$Drawing" "ys" "[I" ∈ wsL_law := in_wsL_law0_r2 _ (List.mem_of_getElem? (i := 10) rfl)
theorem w_6 : Cond.methodLink RX1 24 yX1_openPatch ∈ wsL_law := in_wsL_law0_r6 _ (List.mem_of_getElem? (i := 3) rfl)
theorem w_7 : Cond.methodLink RX1 48 yX1_next ∈ wsL_law := in_wsL_law0_r7 _ (List.mem_of_getElem? (i := 17) rfl)
theorem w_8 : Cond.methodLink RX1 52 yX1_bend ∈ wsL_law := in_wsL_law0_r7 _ (List.mem_of_getElem? (i := 21) rfl)
theorem w_9 : Cond.fieldLink RX1 21 "QuiltDesk$Drawing" "cloths" "[I" ∈ wsL_law := in_wsL_law0_r2 _ (List.mem_of_getElem? (i := 12) rfl)
theorem w_10 : Cond.methodLink RX1 28 yX1_isConvex ∈ wsL_law := in_wsL_law0_r7 _ (List.mem_of_getElem? (i := 13) rfl)
theorem w_11 : Cond.methodLink RX1 32 yX1_doubleArea ∈ wsL_law := in_wsL_law0_r8 _ (List.mem_of_getElem? (i := 1) rfl)
theorem w_12 : Cond.methodLink RX1 45 yX1_isClosed ∈ wsL_law := in_wsL_law0_r10 _ (List.mem_of_getElem? (i := 8) rfl)
theorem w_13 : Cond.methodLink RX1 36 yX1_closedSet ∈ wsL_law := in_wsL_law0_r10 _ (List.mem_of_getElem? (i := 4) rfl)
theorem w_14 : Cond.methodLink RX1 40 yJ6_bitCount_0f7a4 ∈ wsL_law := in_wsL_law0_r10 _ (List.mem_of_getElem? (i := 9) rfl)
theorem w_15 : Cond.methodLink RX1 66 yX1_sideOf ∈ wsL_law := in_wsL_law0_r11 _ (List.mem_of_getElem? (i := 20) rfl)
theorem w_16 : Cond.methodLink RX1 63 yX1_hasPartingEdge ∈ wsL_law := in_wsL_law0_r11 _ (List.mem_of_getElem? (i := 16) rfl)
theorem w_17 : Cond.methodLink RX1 59 yX1_overlap ∈ wsL_law := in_wsL_law0_r11 _ (List.mem_of_getElem? (i := 12) rfl)
theorem w_18 : Cond.methodLink RX1 56 yX1_firstOverlap ∈ wsL_law := in_wsL_law0_r11 _ (List.mem_of_getElem? (i := 8) rfl)
theorem w_19 : Cond.methodLink RX1 76 yX1_isOfCloth ∈ wsL_law := in_wsL_law0_r20 _ (List.mem_of_getElem? (i := 9) rfl)
theorem w_20 : Cond.methodLink RX1 83 Lib.Math.min.name ∈ wsL_law := in_wsL_law0_r23 _ (List.mem_of_getElem? (i := 23) rfl)
theorem w_21 : Cond.static Lib.Math.min.name ∈ wsL_law := in_wsL_law0_r24 _ (List.mem_of_getElem? (i := 0) rfl)
theorem w_22 : Cond.initialized "java/lang/Math" ∈ wsL_law := in_wsL_law0_r23 _ (List.mem_of_getElem? (i := 5) rfl)
theorem w_23 : Cond.code Lib.Math.min.name Lib.Math.min.code 2 (some .int) ∈ wsL_law := in_wsL_law0_r24 _ (List.mem_of_getElem? (i := 1) rfl)
theorem w_24 : Cond.methodLink RX1 88 Lib.Math.max.name ∈ wsL_law := in_wsL_law0_r24 _ (List.mem_of_getElem? (i := 2) rfl)
theorem w_25 : Cond.static Lib.Math.max.name ∈ wsL_law := in_wsL_law0_r24 _ (List.mem_of_getElem? (i := 3) rfl)
theorem w_26 : Cond.code Lib.Math.max.name Lib.Math.max.code 2 (some .int) ∈ wsL_law := in_wsL_law0_r24 _ (List.mem_of_getElem? (i := 4) rfl)
theorem w_27 : Cond.methodLink RX1 79 yX1_extent ∈ wsL_law := in_wsL_law0_r23 _ (List.mem_of_getElem? (i := 19) rfl)
theorem w_28 : Cond.methodLink RX1 91 Lib.Math.abs.name ∈ wsL_law := in_wsL_law0_r23 _ (List.mem_of_getElem? (i := 3) rfl)
theorem w_29 : Cond.static Lib.Math.abs.name ∈ wsL_law := in_wsL_law0_r23 _ (List.mem_of_getElem? (i := 4) rfl)
theorem w_30 : Cond.code Lib.Math.abs.name Lib.Math.abs.code 1 (some .int) ∈ wsL_law := in_wsL_law0_r23 _ (List.mem_of_getElem? (i := 6) rfl)
theorem w_31 : Cond.methodLink RX2 53 yJ6_bitCount_0f7a4 ∈ wsL_law := in_wsL_law0_r14 _ (List.mem_of_getElem? (i := 2) rfl)
theorem w_32 : Cond.fieldLink RX2 9 "QuiltDesk$Piecing" "waiting" "[I" ∈ wsL_law := in_wsL_law0_r2 _ (List.mem_of_getElem? (i := 16) rfl)
theorem w_33 : Cond.methodLink RX2 62 yX1_sideOf ∈ wsL_law := in_wsL_law0_r14 _ (List.mem_of_getElem? (i := 12) rfl)
theorem w_34 : Cond.fieldLink RX2 59 "QuiltDesk$Drawing" "corners" "[I" ∈ wsL_law := in_wsL_law0_r14 _ (List.mem_of_getElem? (i := 7) rfl)
theorem w_35 : Cond.methodLink RX2 35 yX2_leftPart ∈ wsL_law := in_wsL_law0_r14 _ (List.mem_of_getElem? (i := 8) rfl)
theorem w_36 : Cond.fieldLink RX2 15 "QuiltDesk$Piecing" "tried" "[I" ∈ wsL_law := in_wsL_law0_r2 _ (List.mem_of_getElem? (i := 17) rfl)
theorem w_37 : Cond.methodLink RX2 21 yX1_closedSet ∈ wsL_law := in_wsL_law0_r13 _ (List.mem_of_getElem? (i := 21) rfl)
theorem w_38 : Cond.methodLink RX2 27 yX2_putWaiting ∈ wsL_law := in_wsL_law0_r13 _ (List.mem_of_getElem? (i := 22) rfl)
theorem w_39 : Cond.methodLink RX2 31 yX2_firstSeam ∈ wsL_law := in_wsL_law0_r14 _ (List.mem_of_getElem? (i := 3) rfl)
theorem w_40 : Cond.methodLink RX2 39 yX2_noteSeam ∈ wsL_law := in_wsL_law0_r14 _ (List.mem_of_getElem? (i := 13) rfl)
theorem w_41 : Cond.fieldLink RX2 18 "QuiltDesk$Piecing" "found" "[I" ∈ wsL_law := in_wsL_law0_r2 _ (List.mem_of_getElem? (i := 18) rfl)
theorem w_42 : Cond.methodLink RX2 43 arraycopyName ∈ wsL_law := in_wsL_law0_r13 _ (List.mem_of_getElem? (i := 16) rfl)
theorem w_43 : Cond.fieldLink RX2 49 "QuiltDesk$Piecing" "foundSeams" "I" ∈ wsL_law := in_wsL_law0_r13 _ (List.mem_of_getElem? (i := 20) rfl)
theorem w_44 : Cond.native arraycopyName ∈ wsL_law := in_wsL_law0_r13 _ (List.mem_of_getElem? (i := 17) rfl)
theorem w_45 : Cond.static arraycopyName ∈ wsL_law := in_wsL_law0_r13 _ (List.mem_of_getElem? (i := 18) rfl)
theorem w_46 : Cond.initialized "java/lang/System" ∈ wsL_law := in_wsL_law0_r13 _ (List.mem_of_getElem? (i := 19) rfl)
theorem w_47 : Cond.fieldLink RX3 17 "QuiltDesk$Top" "blocks" "[I" ∈ wsL_law := in_wsL_law0_r3 _ (List.mem_of_getElem? (i := 1) rfl)
theorem w_48 : Cond.fieldLink RX3 11 "QuiltDesk$Top" "kept" "[LQuiltDesk$Drawing;" ∈ wsL_law := in_wsL_law0_r3 _ (List.mem_of_getElem? (i := 0) rfl)
theorem w_49 : Cond.methodLink RX3 43 Lib.Math.max.name ∈ wsL_law := in_wsL_law0_r24 _ (List.mem_of_getElem? (i := 23) rfl)
theorem w_50 : Cond.fieldLink RX3 24 "QuiltDesk$Top" "widths" "[I" ∈ wsL_law := in_wsL_law0_r3 _ (List.mem_of_getElem? (i := 3) rfl)
theorem w_51 : Cond.methodLink RX3 49 yX3_reach ∈ wsL_law := in_wsL_law0_r25 _ (List.mem_of_getElem? (i := 17) rfl)
theorem w_52 : Cond.fieldLink RX3 27 "QuiltDesk$Top" "cloths" "[I" ∈ wsL_law := in_wsL_law0_r3 _ (List.mem_of_getElem? (i := 4) rfl)
theorem w_53 : Cond.fieldLink RX3 39 "QuiltDesk$Top" "keptBlocks" "I" ∈ wsL_law := in_wsL_law0_r16 _ (List.mem_of_getElem? (i := 16) rfl)
theorem w_54 : Cond.methodLink RX3 53 yX1_swapCloths ∈ wsL_law := in_wsL_law0_r20 _ (List.mem_of_getElem? (i := 17) rfl)
theorem w_55 : Cond.methodLink RX3 56 yX3_blockAt ∈ wsL_law := in_wsL_law0_r18 _ (List.mem_of_getElem? (i := 15) rfl)
theorem w_56 : Cond.methodLink RX3 60 yX1_clothArea ∈ wsL_law := in_wsL_law0_r21 _ (List.mem_of_getElem? (i := 12) rfl)
theorem w_57 : Cond.methodLink RX3 83 yX3_mirrored ∈ wsL_law := in_wsL_law0_r19 _ (List.mem_of_getElem? (i := 5) rfl)
theorem w_58 : Cond.fieldLink RX3 67 "QuiltDesk$Drawing" "corners" "[I" ∈ wsL_law := in_wsL_law0_r18 _ (List.mem_of_getElem? (i := 23) rfl)
theorem w_59 : Cond.fieldLink RX3 70 "QuiltDesk$Drawing" "xs" "[I" ∈ wsL_law := in_wsL_law0_r19 _ (List.mem_of_getElem? (i := 0) rfl)
theorem w_60 : Cond.fieldLink RX3 73 "QuiltDesk$Drawing" "ys" "[I" ∈ wsL_law := in_wsL_law0_r19 _ (List.mem_of_getElem? (i := 1) rfl)
theorem w_61 : Cond.methodLink RX3 76 yX3_turnedX ∈ wsL_law := in_wsL_law0_r19 _ (List.mem_of_getElem? (i := 2) rfl)
theorem w_62 : Cond.fieldLink RX3 30 "QuiltDesk$Top" "cornersAt" "[I" ∈ wsL_law := in_wsL_law0_r3 _ (List.mem_of_getElem? (i := 5) rfl)
theorem w_63 : Cond.methodLink RX3 80 yX3_turnedY ∈ wsL_law := in_wsL_law0_r19 _ (List.mem_of_getElem? (i := 8) rfl)
theorem w_64 : Cond.methodLink RX3 33 yJ7_fill_53178 ∈ wsL_law := in_wsL_law0_r3 _ (List.mem_of_getElem? (i := 6) rfl)
theorem w_65 : Cond.fieldLink RX3 21 "QuiltDesk$Top" "turns" "[I" ∈ wsL_law := in_wsL_law0_r3 _ (List.mem_of_getElem? (i := 2) rfl)
theorem w_66 : Cond.methodLink RX3 63 yX3_markCorners ∈ wsL_law := in_wsL_law0_r18 _ (List.mem_of_getElem? (i := 19) rfl)
theorem w_67 : Cond.fieldLink RX0 9 "QuiltDesk$Cutting" "heldCloth" "I" ∈ wsL_law := in_wsL_law0_r3 _ (List.mem_of_getElem? (i := 13) rfl)
theorem w_68 : Cond.fieldLink RX0 34 "QuiltDesk$Cutting" "strips" "[I" ∈ wsL_law := in_wsL_law0_r3 _ (List.mem_of_getElem? (i := 20) rfl)
theorem w_69 : Cond.fieldLink RX0 37 "QuiltDesk$Cutting" "begins" "[I" ∈ wsL_law := in_wsL_law0_r3 _ (List.mem_of_getElem? (i := 21) rfl)
theorem w_70 : Cond.fieldLink RX0 15 "QuiltDesk$Cutting" "lengths" "[I" ∈ wsL_law := in_wsL_law0_r3 _ (List.mem_of_getElem? (i := 14) rfl)
theorem w_71 : Cond.fieldLink RX0 28 "QuiltDesk$Cutting" "order" "[I" ∈ wsL_law := in_wsL_law0_r3 _ (List.mem_of_getElem? (i := 18) rfl)
theorem w_72 : Cond.fieldLink RX0 19 "QuiltDesk$Cutting" "heights" "[I" ∈ wsL_law := in_wsL_law0_r3 _ (List.mem_of_getElem? (i := 15) rfl)
theorem w_73 : Cond.fieldLink RX0 22 "QuiltDesk$Cutting" "kinds" "[I" ∈ wsL_law := in_wsL_law0_r3 _ (List.mem_of_getElem? (i := 16) rfl)
theorem w_74 : Cond.fieldLink RX0 53 "QuiltDesk$Cutting" "cuts" "I" ∈ wsL_law := in_wsL_law0_r22 _ (List.mem_of_getElem? (i := 14) rfl)
theorem w_75 : Cond.fieldLink RX0 25 "QuiltDesk$Cutting" "halvesLeft" "[I" ∈ wsL_law := in_wsL_law0_r3 _ (List.mem_of_getElem? (i := 17) rfl)
theorem w_76 : Cond.methodLink RX0 113 yX0_gatherCut ∈ wsL_law := in_wsL_law0_r23 _ (List.mem_of_getElem? (i := 11) rfl)
theorem w_77 : Cond.methodLink RX0 126 Lib.Math.max.name ∈ wsL_law := in_wsL_law0_r24 _ (List.mem_of_getElem? (i := 13) rfl)
theorem w_78 : Cond.methodLink RX0 132 Lib.Math.min.name ∈ wsL_law := in_wsL_law0_r24 _ (List.mem_of_getElem? (i := 14) rfl)
theorem w_79 : Cond.methodLink RX0 89 yX1_isOfCloth ∈ wsL_law := in_wsL_law0_r22 _ (List.mem_of_getElem? (i := 22) rfl)
theorem w_80 : Cond.methodLink RX0 95 yX1_halfSquareEdge ∈ wsL_law := in_wsL_law0_r22 _ (List.mem_of_getElem? (i := 23) rfl)
theorem w_81 : Cond.methodLink RX0 103 yX1_patchWidth ∈ wsL_law := in_wsL_law0_r23 _ (List.mem_of_getElem? (i := 15) rfl)
theorem w_82 : Cond.methodLink RX0 106 yX1_patchHeight ∈ wsL_law := in_wsL_law0_r24 _ (List.mem_of_getElem? (i := 5) rfl)
theorem w_83 : Cond.methodLink RX0 109 yX0_gatherPieces ∈ wsL_law := in_wsL_law0_r24 _ (List.mem_of_getElem? (i := 9) rfl)
theorem w_84 : Cond.methodLink RX0 99 yX0_gatherHalf ∈ wsL_law := in_wsL_law0_r23 _ (List.mem_of_getElem? (i := 7) rfl)
theorem w_85 : Cond.fieldLink RX0 117 "QuiltDesk$Top" "widths" "[I" ∈ wsL_law := in_wsL_law0_r25 _ (List.mem_of_getElem? (i := 4) rfl)
theorem w_86 : Cond.methodLink RX0 120 yX3_reach ∈ wsL_law := in_wsL_law0_r25 _ (List.mem_of_getElem? (i := 5) rfl)
theorem w_87 : Cond.methodLink RX0 123 yX3_withBorder ∈ wsL_law := in_wsL_law0_r25 _ (List.mem_of_getElem? (i := 13) rfl)
theorem w_88 : Cond.methodLink RX0 56 yJ7_fill_53178 ∈ wsL_law := in_wsL_law0_r22 _ (List.mem_of_getElem? (i := 16) rfl)
theorem w_89 : Cond.methodLink RX0 62 yX3_blockAt ∈ wsL_law := in_wsL_law0_r22 _ (List.mem_of_getElem? (i := 17) rfl)
theorem w_90 : Cond.methodLink RX0 68 yX0_gatherPatches ∈ wsL_law := in_wsL_law0_r22 _ (List.mem_of_getElem? (i := 18) rfl)
theorem w_91 : Cond.methodLink RX0 72 yX3_usedRows ∈ wsL_law := in_wsL_law0_r24 _ (List.mem_of_getElem? (i := 15) rfl)
theorem w_92 : Cond.methodLink RX0 76 yX3_usedColumns ∈ wsL_law := in_wsL_law0_r24 _ (List.mem_of_getElem? (i := 19) rfl)
theorem w_93 : Cond.fieldLink RX0 79 "QuiltDesk$Top" "cloths" "[I" ∈ wsL_law := in_wsL_law0_r22 _ (List.mem_of_getElem? (i := 15) rfl)
theorem w_94 : Cond.methodLink RX0 86 yX0_gatherBorder ∈ wsL_law := in_wsL_law0_r25 _ (List.mem_of_getElem? (i := 9) rfl)
theorem w_95 : Cond.methodLink RX0 82 yX0_gatherSashes ∈ wsL_law := in_wsL_law0_r25 _ (List.mem_of_getElem? (i := 0) rfl)
theorem w_96 : Cond.fieldLink RX0 31 "QuiltDesk$Cutting" "merged" "[I" ∈ wsL_law := in_wsL_law0_r3 _ (List.mem_of_getElem? (i := 19) rfl)
theorem w_97 : Cond.methodLink RX0 144 yX0_goesBefore ∈ wsL_law := in_wsL_law0_r26 _ (List.mem_of_getElem? (i := 3) rfl)
theorem w_98 : Cond.methodLink RX0 135 yX0_merge ∈ wsL_law := in_wsL_law0_r25 _ (List.mem_of_getElem? (i := 23) rfl)
theorem w_99 : Cond.methodLink RX0 138 arraycopyName ∈ wsL_law := in_wsL_law0_r25 _ (List.mem_of_getElem? (i := 22) rfl)
theorem w_100 : Cond.fieldLink RX0 147 "QuiltDesk$Cutting" "stripsUsed" "I" ∈ wsL_law := in_wsL_law0_r26 _ (List.mem_of_getElem? (i := 11) rfl)
theorem w_101 : Cond.fieldLink RX0 40 "QuiltDesk$Cutting" "usedLengths" "[I" ∈ wsL_law := in_wsL_law0_r3 _ (List.mem_of_getElem? (i := 22) rfl)
theorem w_102 : Cond.methodLink RX0 153 yX0_stripFor ∈ wsL_law := in_wsL_law0_r26 _ (List.mem_of_getElem? (i := 13) rfl)
theorem w_103 : Cond.fieldLink RX0 150 "QuiltDesk$Cutting" "stripHeights" "I" ∈ wsL_law := in_wsL_law0_r26 _ (List.mem_of_getElem? (i := 12) rfl)
theorem w_104 : Cond.methodLink RX0 43 yX0_gather ∈ wsL_law := in_wsL_law0_r22 _ (List.mem_of_getElem? (i := 10) rfl)
theorem w_105 : Cond.methodLink RX0 47 yX0_sort ∈ wsL_law := in_wsL_law0_r25 _ (List.mem_of_getElem? (i := 18) rfl)
theorem w_106 : Cond.methodLink RX0 50 yX0_layInOrder ∈ wsL_law := in_wsL_law0_r26 _ (List.mem_of_getElem? (i := 7) rfl)
theorem w_107 : Cond.fieldLink RX5 71 "QuiltDeskModel" "thrown" "I" ∈ wsL_law := in_wsL_law0_r6 _ (List.mem_of_getElem? (i := 21) rfl)
theorem w_108 : Cond.fieldLink RX5 7 "QuiltDeskModel" "many" "[I" ∈ wsL_law := in_wsL_law0_r4 _ (List.mem_of_getElem? (i := 3) rfl)
theorem w_109 : Cond.methodLink RX5 75 yX5_next ∈ wsL_law := in_wsL_law0_r8 _ (List.mem_of_getElem? (i := 16) rfl)
theorem w_110 : Cond.fieldLink RX5 16 "QuiltDeskModel" "xs" "[I" ∈ wsL_law := in_wsL_law0_r4 _ (List.mem_of_getElem? (i := 5) rfl)
theorem w_111 : Cond.fieldLink RX5 19 "QuiltDeskModel" "ys" "[I" ∈ wsL_law := in_wsL_law0_r4 _ (List.mem_of_getElem? (i := 6) rfl)
theorem w_112 : Cond.methodLink RX5 79 yX5_side ∈ wsL_law := in_wsL_law0_r8 _ (List.mem_of_getElem? (i := 20) rfl)
theorem w_113 : Cond.methodLink RX5 83 yX5_lies ∈ wsL_law := in_wsL_law0_r12 _ (List.mem_of_getElem? (i := 16) rfl)
theorem w_114 : Cond.methodLink RX5 87 yX5_isPatch ∈ wsL_law := in_wsL_law0_r6 _ (List.mem_of_getElem? (i := 11) rfl)
theorem w_115 : Cond.methodLink RX5 91 yX5_within ∈ wsL_law := in_wsL_law0_r6 _ (List.mem_of_getElem? (i := 14) rfl)
theorem w_116 : Cond.methodLink RX5 95 yX5_goes ∈ wsL_law := in_wsL_law0_r6 _ (List.mem_of_getElem? (i := 17) rfl)
theorem w_117 : Cond.fieldLink RX5 13 "QuiltDeskModel" "cloths" "[I" ∈ wsL_law := in_wsL_law0_r4 _ (List.mem_of_getElem? (i := 4) rfl)
theorem w_118 : Cond.methodLink RX5 102 yX5_isConvex ∈ wsL_law := in_wsL_law0_r8 _ (List.mem_of_getElem? (i := 12) rfl)
theorem w_119 : Cond.methodLink RX5 105 yX5_areaOf ∈ wsL_law := in_wsL_law0_r9 _ (List.mem_of_getElem? (i := 0) rfl)
theorem w_120 : Cond.methodLink RX5 99 yX5_isCloth ∈ wsL_law := in_wsL_law0_r8 _ (List.mem_of_getElem? (i := 9) rfl)
theorem w_121 : Cond.methodLink RX5 109 yX5_closed ∈ wsL_law := in_wsL_law0_r10 _ (List.mem_of_getElem? (i := 20) rfl)
theorem w_122 : Cond.methodLink RX5 113 yX5_apart ∈ wsL_law := in_wsL_law0_r12 _ (List.mem_of_getElem? (i := 12) rfl)
theorem w_123 : Cond.methodLink RX5 117 yX5_overlapping ∈ wsL_law := in_wsL_law0_r12 _ (List.mem_of_getElem? (i := 8) rfl)
theorem w_124 : Cond.methodLink RX5 120 yX5_state ∈ wsL_law := in_wsL_law0_r12 _ (List.mem_of_getElem? (i := 4) rfl)
theorem w_125 : Cond.fieldLink RX5 22 "QuiltDeskModel" "sets" "[I" ∈ wsL_law := in_wsL_law0_r4 _ (List.mem_of_getElem? (i := 7) rfl)
theorem w_126 : Cond.methodLink RX5 123 yX5_bits ∈ wsL_law := in_wsL_law0_r14 _ (List.mem_of_getElem? (i := 22) rfl)
theorem w_127 : Cond.fieldLink RX5 25 "QuiltDeskModel" "trial" "[I" ∈ wsL_law := in_wsL_law0_r4 _ (List.mem_of_getElem? (i := 8) rfl)
theorem w_128 : Cond.methodLink RX5 126 yX5_leftOf ∈ wsL_law := in_wsL_law0_r15 _ (List.mem_of_getElem? (i := 1) rfl)
theorem w_129 : Cond.fieldLink RX5 28 "QuiltDeskModel" "found" "[I" ∈ wsL_law := in_wsL_law0_r4 _ (List.mem_of_getElem? (i := 9) rfl)
theorem w_130 : Cond.fieldLink RX5 129 "QuiltDeskModel" "seams" "I" ∈ wsL_law := in_wsL_law0_r14 _ (List.mem_of_getElem? (i := 21) rfl)
theorem w_131 : Cond.fieldLink RX5 132 "QuiltDeskModel" "kept" "I" ∈ wsL_law := in_wsL_law0_r16 _ (List.mem_of_getElem? (i := 21) rfl)
theorem w_132 : Cond.fieldLink RX5 31 "QuiltDeskModel" "blocks" "[I" ∈ wsL_law := in_wsL_law0_r4 _ (List.mem_of_getElem? (i := 10) rfl)
theorem w_133 : Cond.fieldLink RX5 34 "QuiltDeskModel" "turns" "[I" ∈ wsL_law := in_wsL_law0_r4 _ (List.mem_of_getElem? (i := 11) rfl)
theorem w_134 : Cond.fieldLink RX5 37 "QuiltDeskModel" "widths" "[I" ∈ wsL_law := in_wsL_law0_r4 _ (List.mem_of_getElem? (i := 12) rfl)
theorem w_135 : Cond.fieldLink RX5 40 "QuiltDeskModel" "frames" "[I" ∈ wsL_law := in_wsL_law0_r4 _ (List.mem_of_getElem? (i := 13) rfl)
theorem w_136 : Cond.methodLink RX5 135 yX5_turned ∈ wsL_law := in_wsL_law0_r19 _ (List.mem_of_getElem? (i := 19) rfl)
theorem w_137 : Cond.methodLink RX5 138 yX5_hasCorner ∈ wsL_law := in_wsL_law0_r19 _ (List.mem_of_getElem? (i := 15) rfl)
theorem w_138 : Cond.methodLink RX5 141 yX5_swapped ∈ wsL_law := in_wsL_law0_r20 _ (List.mem_of_getElem? (i := 22) rfl)
theorem w_139 : Cond.fieldLink RX5 43 "QuiltDeskModel" "lengths" "[I" ∈ wsL_law := in_wsL_law0_r4 _ (List.mem_of_getElem? (i := 14) rfl)
theorem w_140 : Cond.fieldLink RX5 144 "QuiltDeskModel" "cuts" "I" ∈ wsL_law := in_wsL_law0_r26 _ (List.mem_of_getElem? (i := 21) rfl)
theorem w_141 : Cond.fieldLink RX5 46 "QuiltDeskModel" "heights" "[I" ∈ wsL_law := in_wsL_law0_r4 _ (List.mem_of_getElem? (i := 15) rfl)
theorem w_142 : Cond.fieldLink RX5 49 "QuiltDeskModel" "kinds" "[I" ∈ wsL_law := in_wsL_law0_r4 _ (List.mem_of_getElem? (i := 16) rfl)
theorem w_143 : Cond.methodLink RX5 147 yX5_gap ∈ wsL_law := in_wsL_law0_r27 _ (List.mem_of_getElem? (i := 16) rfl)
theorem w_144 : Cond.methodLink RX5 150 yX5_half ∈ wsL_law := in_wsL_law0_r27 _ (List.mem_of_getElem? (i := 12) rfl)
theorem w_145 : Cond.fieldLink RX5 56 "QuiltDeskModel" "halves" "[Z" ∈ wsL_law := in_wsL_law0_r4 _ (List.mem_of_getElem? (i := 19) rfl)
theorem w_146 : Cond.methodLink RX5 157 yX5_cutOf ∈ wsL_law := in_wsL_law0_r27 _ (List.mem_of_getElem? (i := 23) rfl)
theorem w_147 : Cond.methodLink RX5 153 yX5_spread ∈ wsL_law := in_wsL_law0_r27 _ (List.mem_of_getElem? (i := 19) rfl)
theorem w_148 : Cond.methodLink RX5 161 yX5_cutPatch ∈ wsL_law := in_wsL_law0_r27 _ (List.mem_of_getElem? (i := 8) rfl)
theorem w_149 : Cond.methodLink RX5 165 yX5_rows ∈ wsL_law := in_wsL_law0_r28 _ (List.mem_of_getElem? (i := 3) rfl)
theorem w_150 : Cond.methodLink RX5 168 yX5_columns ∈ wsL_law := in_wsL_law0_r28 _ (List.mem_of_getElem? (i := 7) rfl)
theorem w_151 : Cond.methodLink RX5 171 yX5_across ∈ wsL_law := in_wsL_law0_r28 _ (List.mem_of_getElem? (i := 11) rfl)
theorem w_152 : Cond.fieldLink RX5 52 "QuiltDeskModel" "isLaid" "[Z" ∈ wsL_law := in_wsL_law0_r4 _ (List.mem_of_getElem? (i := 18) rfl)
theorem w_153 : Cond.methodLink RX5 174 yX5_list ∈ wsL_law := in_wsL_law0_r27 _ (List.mem_of_getElem? (i := 4) rfl)
theorem w_154 : Cond.methodLink RX5 183 yX5_nextCut ∈ wsL_law := in_wsL_law0_r28 _ (List.mem_of_getElem? (i := 15) rfl)
theorem w_155 : Cond.fieldLink RX5 177 "QuiltDeskModel" "stripCount" "I" ∈ wsL_law := in_wsL_law0_r26 _ (List.mem_of_getElem? (i := 22) rfl)
theorem w_156 : Cond.fieldLink RX5 68 "QuiltDeskModel" "used" "[I" ∈ wsL_law := in_wsL_law0_r4 _ (List.mem_of_getElem? (i := 23) rfl)
theorem w_157 : Cond.fieldLink RX5 59 "QuiltDeskModel" "order" "[I" ∈ wsL_law := in_wsL_law0_r4 _ (List.mem_of_getElem? (i := 20) rfl)
theorem w_158 : Cond.fieldLink RX5 62 "QuiltDeskModel" "strips" "[I" ∈ wsL_law := in_wsL_law0_r4 _ (List.mem_of_getElem? (i := 21) rfl)
theorem w_159 : Cond.fieldLink RX5 65 "QuiltDeskModel" "places" "[I" ∈ wsL_law := in_wsL_law0_r4 _ (List.mem_of_getElem? (i := 22) rfl)
theorem w_160 : Cond.fieldLink RX5 180 "QuiltDeskModel" "all" "I" ∈ wsL_law := in_wsL_law0_r26 _ (List.mem_of_getElem? (i := 23) rfl)
theorem w_161 : Cond.methodLink RX5 186 yX5_lay ∈ wsL_law := in_wsL_law0_r27 _ (List.mem_of_getElem? (i := 0) rfl)
theorem w_162 : Cond.methodLink RX4 37 yX4_within ∈ wsL_law := in_wsL_law0_r5 _ (List.mem_of_getElem? (i := 10) rfl)
theorem w_163 : Cond.methodLink RX4 41 yX4_mustExist ∈ wsL_law := in_wsL_law0_r5 _ (List.mem_of_getElem? (i := 13) rfl)
theorem w_164 : Cond.methodLink RX4 45 yX4_mustFit ∈ wsL_law := in_wsL_law0_r5 _ (List.mem_of_getElem? (i := 18) rfl)
theorem w_165 : Cond.fieldLink RX4 12 "QuiltDesk" "drawing" "LQuiltDesk$Drawing;" ∈ wsL_law := in_wsL_law0_r1 _ (List.mem_of_getElem? (i := 16) rfl)
theorem w_166 : Cond.methodLink RX4 48 yX1_putCorner ∈ wsL_law := in_wsL_law0_r5 _ (List.mem_of_getElem? (i := 23) rfl)
theorem w_167 : Cond.methodLink RX4 52 yX1_closePatch ∈ wsL_law := in_wsL_law0_r7 _ (List.mem_of_getElem? (i := 9) rfl)
theorem w_168 : Cond.methodLink RX4 56 yX1_isClosed ∈ wsL_law := in_wsL_law0_r9 _ (List.mem_of_getElem? (i := 11) rfl)
theorem w_169 : Cond.methodLink RX4 60 yX1_openPatch ∈ wsL_law := in_wsL_law0_r9 _ (List.mem_of_getElem? (i := 15) rfl)
theorem w_170 : Cond.methodLink RX4 64 yX1_closedPatches ∈ wsL_law := in_wsL_law0_r10 _ (List.mem_of_getElem? (i := 0) rfl)
theorem w_171 : Cond.methodLink RX4 68 yX1_state ∈ wsL_law := in_wsL_law0_r11 _ (List.mem_of_getElem? (i := 4) rfl)
theorem w_172 : Cond.methodLink RX4 71 yX1_firstOverlap ∈ wsL_law := in_wsL_law0_r13 _ (List.mem_of_getElem? (i := 3) rfl)
theorem w_173 : Cond.fieldLink RX4 19 "QuiltDesk" "piecing" "LQuiltDesk$Piecing;" ∈ wsL_law := in_wsL_law0_r1 _ (List.mem_of_getElem? (i := 20) rfl)
theorem w_174 : Cond.methodLink RX4 74 yX2_findOrder ∈ wsL_law := in_wsL_law0_r13 _ (List.mem_of_getElem? (i := 12) rfl)
theorem w_175 : Cond.fieldLink RX4 78 "QuiltDesk$Piecing" "foundSeams" "I" ∈ wsL_law := in_wsL_law0_r15 _ (List.mem_of_getElem? (i := 12) rfl)
theorem w_176 : Cond.fieldLink RX4 82 "QuiltDesk$Piecing" "found" "[I" ∈ wsL_law := in_wsL_law0_r15 _ (List.mem_of_getElem? (i := 13) rfl)
theorem w_177 : Cond.fieldLink RX4 26 "QuiltDesk" "top" "LQuiltDesk$Top;" ∈ wsL_law := in_wsL_law0_r2 _ (List.mem_of_getElem? (i := 0) rfl)
theorem w_178 : Cond.fieldLink RX4 103 "QuiltDesk$Top" "blocks" "[I" ∈ wsL_law := in_wsL_law0_r17 _ (List.mem_of_getElem? (i := 5) rfl)
theorem w_179 : Cond.fieldLink RX4 106 "QuiltDesk$Top" "turns" "[I" ∈ wsL_law := in_wsL_law0_r17 _ (List.mem_of_getElem? (i := 6) rfl)
theorem w_180 : Cond.fieldLink RX4 33 "QuiltDesk" "cutting" "LQuiltDesk$Cutting;" ∈ wsL_law := in_wsL_law0_r2 _ (List.mem_of_getElem? (i := 4) rfl)
theorem w_181 : Cond.methodLink RX4 109 yX0_forget ∈ wsL_law := in_wsL_law0_r17 _ (List.mem_of_getElem? (i := 7) rfl)
theorem w_182 : Cond.fieldLink RX4 86 "QuiltDesk$Top" "keptBlocks" "I" ∈ wsL_law := in_wsL_law0_r16 _ (List.mem_of_getElem? (i := 4) rfl)
theorem w_183 : Cond.fieldLink RX4 112 "QuiltDesk$Top" "widths" "[I" ∈ wsL_law := in_wsL_law0_r17 _ (List.mem_of_getElem? (i := 22) rfl)
theorem w_184 : Cond.fieldLink RX4 115 "QuiltDesk$Top" "cloths" "[I" ∈ wsL_law := in_wsL_law0_r17 _ (List.mem_of_getElem? (i := 23) rfl)
theorem w_185 : Cond.methodLink RX4 118 yX3_unmatchedCorners ∈ wsL_law := in_wsL_law0_r18 _ (List.mem_of_getElem? (i := 11) rfl)
theorem w_186 : Cond.methodLink RX4 122 yX1_swapCloths ∈ wsL_law := in_wsL_law0_r20 _ (List.mem_of_getElem? (i := 5) rfl)
theorem w_187 : Cond.methodLink RX4 126 yX3_swapCloths ∈ wsL_law := in_wsL_law0_r20 _ (List.mem_of_getElem? (i := 13) rfl)
theorem w_188 : Cond.methodLink RX4 127 yX3_clothArea ∈ wsL_law := in_wsL_law0_r21 _ (List.mem_of_getElem? (i := 8) rfl)
theorem w_189 : Cond.methodLink RX4 130 yX0_layAll ∈ wsL_law := in_wsL_law0_r22 _ (List.mem_of_getElem? (i := 6) rfl)
theorem w_190 : Cond.fieldLink RX4 134 "QuiltDesk$Cutting" "cuts" "I" ∈ wsL_law := in_wsL_law0_r22 _ (List.mem_of_getElem? (i := 3) rfl)
theorem w_191 : Cond.fieldLink RX4 137 "QuiltDesk$Cutting" "stripsUsed" "I" ∈ wsL_law := in_wsL_law0_r22 _ (List.mem_of_getElem? (i := 4) rfl)
theorem w_192 : Cond.fieldLink RX4 140 "QuiltDesk$Cutting" "stripHeights" "I" ∈ wsL_law := in_wsL_law0_r22 _ (List.mem_of_getElem? (i := 5) rfl)
theorem w_193 : Cond.methodLink RX4 143 yX0_fact ∈ wsL_law := in_wsL_law0_r29 _ (List.mem_of_getElem? (i := 2) rfl)
theorem w_194 : Cond.methodLink RX4 146 yX3_placedBlocks ∈ wsL_law := in_wsL_law0_r29 _ (List.mem_of_getElem? (i := 17) rfl)
theorem w_195 : Cond.methodLink RX4 149 yX3_usedRows ∈ wsL_law := in_wsL_law0_r29 _ (List.mem_of_getElem? (i := 21) rfl)
theorem w_196 : Cond.methodLink RX4 152 yX3_usedColumns ∈ wsL_law := in_wsL_law0_r29 _ (List.mem_of_getElem? (i := 22) rfl)
theorem w_197 : Cond.methodLink RX4 155 yX3_withBorder ∈ wsL_law := in_wsL_law0_r29 _ (List.mem_of_getElem? (i := 23) rfl)
theorem w_198 : Cond.static yJ6_bitCount_0f7a4 ∈ wsL_law := in_wsL_law0_r10 _ (List.mem_of_getElem? (i := 10) rfl)
theorem w_199 : Cond.initialized RJ6 ∈ wsL_law := in_wsL_law0_r10 _ (List.mem_of_getElem? (i := 11) rfl)
theorem w_200 : Cond.code yJ6_bitCount_0f7a4 cJ6_bitCount_0f7a4 1 (some .int) ∈ wsL_law := in_wsL_law0_r10 _ (List.mem_of_getElem? (i := 12) rfl)
theorem w_201 : Cond.static yJ7_fill_53178 ∈ wsL_law := in_wsL_law0_r3 _ (List.mem_of_getElem? (i := 7) rfl)
theorem w_202 : Cond.initialized RJ7 ∈ wsL_law := in_wsL_law0_r3 _ (List.mem_of_getElem? (i := 8) rfl)
theorem w_203 : Cond.code yJ7_fill_53178 cJ7_fill_53178 4 none ∈ wsL_law := in_wsL_law0_r3 _ (List.mem_of_getElem? (i := 9) rfl)
theorem w_204 : Cond.instanceMethod yX1_openPatch ∈ wsL_law := in_wsL_law0_r6 _ (List.mem_of_getElem? (i := 4) rfl)
theorem w_205 : Cond.selects RX1 yX1_openPatch yX1_openPatch ∈ wsL_law := in_wsL_law0_r6 _ (List.mem_of_getElem? (i := 5) rfl)
theorem w_206 : Cond.initialized RX1 ∈ wsL_law := in_wsL_law0_r1 _ (List.mem_of_getElem? (i := 15) rfl)
theorem w_207 : Cond.code yX1_openPatch cX1_openPatch 2 none ∈ wsL_law := in_wsL_law0_r6 _ (List.mem_of_getElem? (i := 6) rfl)
theorem w_208 : Cond.instanceMethod yX1_putCorner ∈ wsL_law := in_wsL_law0_r6 _ (List.mem_of_getElem? (i := 0) rfl)
theorem w_209 : Cond.selects RX1 yX1_putCorner yX1_putCorner ∈ wsL_law := in_wsL_law0_r6 _ (List.mem_of_getElem? (i := 1) rfl)
theorem w_210 : Cond.code yX1_putCorner cX1_putCorner 5 none ∈ wsL_law := in_wsL_law0_r6 _ (List.mem_of_getElem? (i := 2) rfl)
theorem w_211 : Cond.instanceMethod yX1_next ∈ wsL_law := in_wsL_law0_r7 _ (List.mem_of_getElem? (i := 18) rfl)
theorem w_212 : Cond.selects RX1 yX1_next yX1_next ∈ wsL_law := in_wsL_law0_r7 _ (List.mem_of_getElem? (i := 19) rfl)
theorem w_213 : Cond.code yX1_next cX1_next 3 (some .int) ∈ wsL_law := in_wsL_law0_r7 _ (List.mem_of_getElem? (i := 20) rfl)
theorem w_214 : Cond.instanceMethod yX1_bend ∈ wsL_law := in_wsL_law0_r7 _ (List.mem_of_getElem? (i := 22) rfl)
theorem w_215 : Cond.selects RX1 yX1_bend yX1_bend ∈ wsL_law := in_wsL_law0_r7 _ (List.mem_of_getElem? (i := 23) rfl)
theorem w_216 : Cond.code yX1_bend cX1_bend 4 (some .int) ∈ wsL_law := in_wsL_law0_r8 _ (List.mem_of_getElem? (i := 0) rfl)
theorem w_217 : Cond.instanceMethod yX1_isConvex ∈ wsL_law := in_wsL_law0_r7 _ (List.mem_of_getElem? (i := 14) rfl)
theorem w_218 : Cond.selects RX1 yX1_isConvex yX1_isConvex ∈ wsL_law := in_wsL_law0_r7 _ (List.mem_of_getElem? (i := 15) rfl)
theorem w_219 : Cond.code yX1_isConvex cX1_isConvex 7 (some .boolean) ∈ wsL_law := in_wsL_law0_r7 _ (List.mem_of_getElem? (i := 16) rfl)
theorem w_220 : Cond.instanceMethod yX1_doubleArea ∈ wsL_law := in_wsL_law0_r8 _ (List.mem_of_getElem? (i := 2) rfl)
theorem w_221 : Cond.selects RX1 yX1_doubleArea yX1_doubleArea ∈ wsL_law := in_wsL_law0_r8 _ (List.mem_of_getElem? (i := 3) rfl)
theorem w_222 : Cond.code yX1_doubleArea cX1_doubleArea 6 (some .int) ∈ wsL_law := in_wsL_law0_r8 _ (List.mem_of_getElem? (i := 4) rfl)
theorem w_223 : Cond.instanceMethod yX1_closePatch ∈ wsL_law := in_wsL_law0_r7 _ (List.mem_of_getElem? (i := 10) rfl)
theorem w_224 : Cond.selects RX1 yX1_closePatch yX1_closePatch ∈ wsL_law := in_wsL_law0_r7 _ (List.mem_of_getElem? (i := 11) rfl)
theorem w_225 : Cond.code yX1_closePatch cX1_closePatch 4 (some .int) ∈ wsL_law := in_wsL_law0_r7 _ (List.mem_of_getElem? (i := 12) rfl)
theorem w_226 : Cond.instanceMethod yX1_isClosed ∈ wsL_law := in_wsL_law0_r9 _ (List.mem_of_getElem? (i := 12) rfl)
theorem w_227 : Cond.selects RX1 yX1_isClosed yX1_isClosed ∈ wsL_law := in_wsL_law0_r9 _ (List.mem_of_getElem? (i := 13) rfl)
theorem w_228 : Cond.code yX1_isClosed cX1_isClosed 2 (some .boolean) ∈ wsL_law := in_wsL_law0_r9 _ (List.mem_of_getElem? (i := 14) rfl)
theorem w_229 : Cond.instanceMethod yX1_closedSet ∈ wsL_law := in_wsL_law0_r10 _ (List.mem_of_getElem? (i := 5) rfl)
theorem w_230 : Cond.selects RX1 yX1_closedSet yX1_closedSet ∈ wsL_law := in_wsL_law0_r10 _ (List.mem_of_getElem? (i := 6) rfl)
theorem w_231 : Cond.code yX1_closedSet cX1_closedSet 3 (some .int) ∈ wsL_law := in_wsL_law0_r10 _ (List.mem_of_getElem? (i := 7) rfl)
theorem w_232 : Cond.instanceMethod yX1_closedPatches ∈ wsL_law := in_wsL_law0_r10 _ (List.mem_of_getElem? (i := 1) rfl)
theorem w_233 : Cond.selects RX1 yX1_closedPatches yX1_closedPatches ∈ wsL_law := in_wsL_law0_r10 _ (List.mem_of_getElem? (i := 2) rfl)
theorem w_234 : Cond.code yX1_closedPatches cX1_closedPatches 1 (some .int) ∈ wsL_law := in_wsL_law0_r10 _ (List.mem_of_getElem? (i := 3) rfl)
theorem w_235 : Cond.instanceMethod yX1_sideOf ∈ wsL_law := in_wsL_law0_r11 _ (List.mem_of_getElem? (i := 21) rfl)
theorem w_236 : Cond.selects RX1 yX1_sideOf yX1_sideOf ∈ wsL_law := in_wsL_law0_r11 _ (List.mem_of_getElem? (i := 22) rfl)
theorem w_237 : Cond.code yX1_sideOf cX1_sideOf 10 (some .int) ∈ wsL_law := in_wsL_law0_r11 _ (List.mem_of_getElem? (i := 23) rfl)
theorem w_238 : Cond.instanceMethod yX1_hasPartingEdge ∈ wsL_law := in_wsL_law0_r11 _ (List.mem_of_getElem? (i := 17) rfl)
theorem w_239 : Cond.selects RX1 yX1_hasPartingEdge yX1_hasPartingEdge ∈ wsL_law := in_wsL_law0_r11 _ (List.mem_of_getElem? (i := 18) rfl)
theorem w_240 : Cond.code yX1_hasPartingEdge cX1_hasPartingEdge 4 (some .boolean) ∈ wsL_law := in_wsL_law0_r11 _ (List.mem_of_getElem? (i := 19) rfl)
theorem w_241 : Cond.instanceMethod yX1_overlap ∈ wsL_law := in_wsL_law0_r11 _ (List.mem_of_getElem? (i := 13) rfl)
theorem w_242 : Cond.selects RX1 yX1_overlap yX1_overlap ∈ wsL_law := in_wsL_law0_r11 _ (List.mem_of_getElem? (i := 14) rfl)
theorem w_243 : Cond.code yX1_overlap cX1_overlap 3 (some .boolean) ∈ wsL_law := in_wsL_law0_r11 _ (List.mem_of_getElem? (i := 15) rfl)
theorem w_244 : Cond.instanceMethod yX1_firstOverlap ∈ wsL_law := in_wsL_law0_r11 _ (List.mem_of_getElem? (i := 9) rfl)
theorem w_245 : Cond.selects RX1 yX1_firstOverlap yX1_firstOverlap ∈ wsL_law := in_wsL_law0_r11 _ (List.mem_of_getElem? (i := 10) rfl)
theorem w_246 : Cond.code yX1_firstOverlap cX1_firstOverlap 3 (some .int) ∈ wsL_law := in_wsL_law0_r11 _ (List.mem_of_getElem? (i := 11) rfl)
theorem w_247 : Cond.instanceMethod yX1_state ∈ wsL_law := in_wsL_law0_r11 _ (List.mem_of_getElem? (i := 5) rfl)
theorem w_248 : Cond.selects RX1 yX1_state yX1_state ∈ wsL_law := in_wsL_law0_r11 _ (List.mem_of_getElem? (i := 6) rfl)
theorem w_249 : Cond.code yX1_state cX1_state 3 (some .int) ∈ wsL_law := in_wsL_law0_r11 _ (List.mem_of_getElem? (i := 7) rfl)
theorem w_250 : Cond.instanceMethod yX1_isOfCloth ∈ wsL_law := in_wsL_law0_r20 _ (List.mem_of_getElem? (i := 10) rfl)
theorem w_251 : Cond.selects RX1 yX1_isOfCloth yX1_isOfCloth ∈ wsL_law := in_wsL_law0_r20 _ (List.mem_of_getElem? (i := 11) rfl)
theorem w_252 : Cond.code yX1_isOfCloth cX1_isOfCloth 3 (some .boolean) ∈ wsL_law := in_wsL_law0_r20 _ (List.mem_of_getElem? (i := 12) rfl)
theorem w_253 : Cond.instanceMethod yX1_swapCloths ∈ wsL_law := in_wsL_law0_r20 _ (List.mem_of_getElem? (i := 6) rfl)
theorem w_254 : Cond.selects RX1 yX1_swapCloths yX1_swapCloths ∈ wsL_law := in_wsL_law0_r20 _ (List.mem_of_getElem? (i := 7) rfl)
theorem w_255 : Cond.code yX1_swapCloths cX1_swapCloths 5 (some .int) ∈ wsL_law := in_wsL_law0_r20 _ (List.mem_of_getElem? (i := 8) rfl)
theorem w_256 : Cond.instanceMethod yX1_clothArea ∈ wsL_law := in_wsL_law0_r21 _ (List.mem_of_getElem? (i := 13) rfl)
theorem w_257 : Cond.selects RX1 yX1_clothArea yX1_clothArea ∈ wsL_law := in_wsL_law0_r21 _ (List.mem_of_getElem? (i := 14) rfl)
theorem w_258 : Cond.code yX1_clothArea cX1_clothArea 4 (some .int) ∈ wsL_law := in_wsL_law0_r21 _ (List.mem_of_getElem? (i := 15) rfl)
theorem w_259 : Cond.instanceMethod yX1_extent ∈ wsL_law := in_wsL_law0_r23 _ (List.mem_of_getElem? (i := 20) rfl)
theorem w_260 : Cond.selects RX1 yX1_extent yX1_extent ∈ wsL_law := in_wsL_law0_r23 _ (List.mem_of_getElem? (i := 21) rfl)
theorem w_261 : Cond.code yX1_extent cX1_extent 7 (some .int) ∈ wsL_law := in_wsL_law0_r23 _ (List.mem_of_getElem? (i := 22) rfl)
theorem w_262 : Cond.instanceMethod yX1_patchWidth ∈ wsL_law := in_wsL_law0_r23 _ (List.mem_of_getElem? (i := 16) rfl)
theorem w_263 : Cond.selects RX1 yX1_patchWidth yX1_patchWidth ∈ wsL_law := in_wsL_law0_r23 _ (List.mem_of_getElem? (i := 17) rfl)
theorem w_264 : Cond.code yX1_patchWidth cX1_patchWidth 2 (some .int) ∈ wsL_law := in_wsL_law0_r23 _ (List.mem_of_getElem? (i := 18) rfl)
theorem w_265 : Cond.instanceMethod yX1_patchHeight ∈ wsL_law := in_wsL_law0_r24 _ (List.mem_of_getElem? (i := 6) rfl)
theorem w_266 : Cond.selects RX1 yX1_patchHeight yX1_patchHeight ∈ wsL_law := in_wsL_law0_r24 _ (List.mem_of_getElem? (i := 7) rfl)
theorem w_267 : Cond.code yX1_patchHeight cX1_patchHeight 2 (some .int) ∈ wsL_law := in_wsL_law0_r24 _ (List.mem_of_getElem? (i := 8) rfl)
theorem w_268 : Cond.instanceMethod yX1_halfSquareEdge ∈ wsL_law := in_wsL_law0_r23 _ (List.mem_of_getElem? (i := 0) rfl)
theorem w_269 : Cond.selects RX1 yX1_halfSquareEdge yX1_halfSquareEdge ∈ wsL_law := in_wsL_law0_r23 _ (List.mem_of_getElem? (i := 1) rfl)
theorem w_270 : Cond.code yX1_halfSquareEdge cX1_halfSquareEdge 7 (some .int) ∈ wsL_law := in_wsL_law0_r23 _ (List.mem_of_getElem? (i := 2) rfl)
theorem w_271 : Cond.instanceMethod yX2_putWaiting ∈ wsL_law := in_wsL_law0_r13 _ (List.mem_of_getElem? (i := 23) rfl)
theorem w_272 : Cond.selects RX2 yX2_putWaiting yX2_putWaiting ∈ wsL_law := in_wsL_law0_r14 _ (List.mem_of_getElem? (i := 0) rfl)
theorem w_273 : Cond.initialized RX2 ∈ wsL_law := in_wsL_law0_r1 _ (List.mem_of_getElem? (i := 19) rfl)
theorem w_274 : Cond.code yX2_putWaiting cX2_putWaiting 3 (some .int) ∈ wsL_law := in_wsL_law0_r14 _ (List.mem_of_getElem? (i := 1) rfl)
theorem w_275 : Cond.instanceMethod yX2_leftPart ∈ wsL_law := in_wsL_law0_r14 _ (List.mem_of_getElem? (i := 9) rfl)
theorem w_276 : Cond.selects RX2 yX2_leftPart yX2_leftPart ∈ wsL_law := in_wsL_law0_r14 _ (List.mem_of_getElem? (i := 10) rfl)
theorem w_277 : Cond.code yX2_leftPart cX2_leftPart 7 (some .int) ∈ wsL_law := in_wsL_law0_r14 _ (List.mem_of_getElem? (i := 11) rfl)
theorem w_278 : Cond.instanceMethod yX2_firstSeam ∈ wsL_law := in_wsL_law0_r14 _ (List.mem_of_getElem? (i := 4) rfl)
theorem w_279 : Cond.selects RX2 yX2_firstSeam yX2_firstSeam ∈ wsL_law := in_wsL_law0_r14 _ (List.mem_of_getElem? (i := 5) rfl)
theorem w_280 : Cond.code yX2_firstSeam cX2_firstSeam 7 (some .int) ∈ wsL_law := in_wsL_law0_r14 _ (List.mem_of_getElem? (i := 6) rfl)
theorem w_281 : Cond.instanceMethod yX2_noteSeam ∈ wsL_law := in_wsL_law0_r14 _ (List.mem_of_getElem? (i := 14) rfl)
theorem w_282 : Cond.selects RX2 yX2_noteSeam yX2_noteSeam ∈ wsL_law := in_wsL_law0_r14 _ (List.mem_of_getElem? (i := 15) rfl)
theorem w_283 : Cond.code yX2_noteSeam cX2_noteSeam 6 none ∈ wsL_law := in_wsL_law0_r14 _ (List.mem_of_getElem? (i := 16) rfl)
theorem w_284 : Cond.instanceMethod yX2_findOrder ∈ wsL_law := in_wsL_law0_r13 _ (List.mem_of_getElem? (i := 13) rfl)
theorem w_285 : Cond.selects RX2 yX2_findOrder yX2_findOrder ∈ wsL_law := in_wsL_law0_r13 _ (List.mem_of_getElem? (i := 14) rfl)
theorem w_286 : Cond.code yX2_findOrder cX2_findOrder 8 (some .int) ∈ wsL_law := in_wsL_law0_r13 _ (List.mem_of_getElem? (i := 15) rfl)
theorem w_287 : Cond.instanceMethod yX3_blockAt ∈ wsL_law := in_wsL_law0_r18 _ (List.mem_of_getElem? (i := 16) rfl)
theorem w_288 : Cond.selects RX3 yX3_blockAt yX3_blockAt ∈ wsL_law := in_wsL_law0_r18 _ (List.mem_of_getElem? (i := 17) rfl)
theorem w_289 : Cond.initialized RX3 ∈ wsL_law := in_wsL_law0_r1 _ (List.mem_of_getElem? (i := 23) rfl)
theorem w_290 : Cond.code yX3_blockAt cX3_blockAt 2 (some (.object "QuiltDesk$Drawing")) ∈ wsL_law := in_wsL_law0_r18 _ (List.mem_of_getElem? (i := 18) rfl)
theorem w_291 : Cond.instanceMethod yX3_placedBlocks ∈ wsL_law := in_wsL_law0_r29 _ (List.mem_of_getElem? (i := 18) rfl)
theorem w_292 : Cond.selects RX3 yX3_placedBlocks yX3_placedBlocks ∈ wsL_law := in_wsL_law0_r29 _ (List.mem_of_getElem? (i := 19) rfl)
theorem w_293 : Cond.code yX3_placedBlocks cX3_placedBlocks 3 (some .int) ∈ wsL_law := in_wsL_law0_r29 _ (List.mem_of_getElem? (i := 20) rfl)
theorem w_294 : Cond.instanceMethod yX3_usedRows ∈ wsL_law := in_wsL_law0_r24 _ (List.mem_of_getElem? (i := 16) rfl)
theorem w_295 : Cond.selects RX3 yX3_usedRows yX3_usedRows ∈ wsL_law := in_wsL_law0_r24 _ (List.mem_of_getElem? (i := 17) rfl)
theorem w_296 : Cond.code yX3_usedRows cX3_usedRows 3 (some .int) ∈ wsL_law := in_wsL_law0_r24 _ (List.mem_of_getElem? (i := 18) rfl)
theorem w_297 : Cond.instanceMethod yX3_usedColumns ∈ wsL_law := in_wsL_law0_r24 _ (List.mem_of_getElem? (i := 20) rfl)
theorem w_298 : Cond.selects RX3 yX3_usedColumns yX3_usedColumns ∈ wsL_law := in_wsL_law0_r24 _ (List.mem_of_getElem? (i := 21) rfl)
theorem w_299 : Cond.code yX3_usedColumns cX3_usedColumns 3 (some .int) ∈ wsL_law := in_wsL_law0_r24 _ (List.mem_of_getElem? (i := 22) rfl)
theorem w_300 : Cond.instanceMethod yX3_reach ∈ wsL_law := in_wsL_law0_r25 _ (List.mem_of_getElem? (i := 6) rfl)
theorem w_301 : Cond.selects RX3 yX3_reach yX3_reach ∈ wsL_law := in_wsL_law0_r25 _ (List.mem_of_getElem? (i := 7) rfl)
theorem w_302 : Cond.code yX3_reach cX3_reach 2 (some .int) ∈ wsL_law := in_wsL_law0_r25 _ (List.mem_of_getElem? (i := 8) rfl)
theorem w_303 : Cond.instanceMethod yX3_withBorder ∈ wsL_law := in_wsL_law0_r25 _ (List.mem_of_getElem? (i := 14) rfl)
theorem w_304 : Cond.selects RX3 yX3_withBorder yX3_withBorder ∈ wsL_law := in_wsL_law0_r25 _ (List.mem_of_getElem? (i := 15) rfl)
theorem w_305 : Cond.code yX3_withBorder cX3_withBorder 2 (some .int) ∈ wsL_law := in_wsL_law0_r25 _ (List.mem_of_getElem? (i := 16) rfl)
theorem w_306 : Cond.instanceMethod yX3_swapCloths ∈ wsL_law := in_wsL_law0_r20 _ (List.mem_of_getElem? (i := 14) rfl)
theorem w_307 : Cond.selects RX3 yX3_swapCloths yX3_swapCloths ∈ wsL_law := in_wsL_law0_r20 _ (List.mem_of_getElem? (i := 15) rfl)
theorem w_308 : Cond.code yX3_swapCloths cX3_swapCloths 6 (some .int) ∈ wsL_law := in_wsL_law0_r20 _ (List.mem_of_getElem? (i := 16) rfl)
theorem w_309 : Cond.instanceMethod yX3_clothArea ∈ wsL_law := in_wsL_law0_r21 _ (List.mem_of_getElem? (i := 9) rfl)
theorem w_310 : Cond.selects RX3 yX3_clothArea yX3_clothArea ∈ wsL_law := in_wsL_law0_r21 _ (List.mem_of_getElem? (i := 10) rfl)
theorem w_311 : Cond.code yX3_clothArea cX3_clothArea 5 (some .int) ∈ wsL_law := in_wsL_law0_r21 _ (List.mem_of_getElem? (i := 11) rfl)
theorem w_312 : Cond.static yX3_mirrored ∈ wsL_law := in_wsL_law0_r19 _ (List.mem_of_getElem? (i := 6) rfl)
theorem w_313 : Cond.code yX3_mirrored cX3_mirrored 2 (some .int) ∈ wsL_law := in_wsL_law0_r19 _ (List.mem_of_getElem? (i := 7) rfl)
theorem w_314 : Cond.static yX3_turnedX ∈ wsL_law := in_wsL_law0_r19 _ (List.mem_of_getElem? (i := 3) rfl)
theorem w_315 : Cond.code yX3_turnedX cX3_turnedX 3 (some .int) ∈ wsL_law := in_wsL_law0_r19 _ (List.mem_of_getElem? (i := 4) rfl)
theorem w_316 : Cond.static yX3_turnedY ∈ wsL_law := in_wsL_law0_r19 _ (List.mem_of_getElem? (i := 9) rfl)
theorem w_317 : Cond.code yX3_turnedY cX3_turnedY 3 (some .int) ∈ wsL_law := in_wsL_law0_r19 _ (List.mem_of_getElem? (i := 10) rfl)
theorem w_318 : Cond.instanceMethod yX3_markCorners ∈ wsL_law := in_wsL_law0_r18 _ (List.mem_of_getElem? (i := 20) rfl)
theorem w_319 : Cond.selects RX3 yX3_markCorners yX3_markCorners ∈ wsL_law := in_wsL_law0_r18 _ (List.mem_of_getElem? (i := 21) rfl)
theorem w_320 : Cond.code yX3_markCorners cX3_markCorners 9 none ∈ wsL_law := in_wsL_law0_r18 _ (List.mem_of_getElem? (i := 22) rfl)
theorem w_321 : Cond.instanceMethod yX3_unmatchedCorners ∈ wsL_law := in_wsL_law0_r18 _ (List.mem_of_getElem? (i := 12) rfl)
theorem w_322 : Cond.selects RX3 yX3_unmatchedCorners yX3_unmatchedCorners ∈ wsL_law := in_wsL_law0_r18 _ (List.mem_of_getElem? (i := 13) rfl)
theorem w_323 : Cond.code yX3_unmatchedCorners cX3_unmatchedCorners 6 (some .int) ∈ wsL_law := in_wsL_law0_r18 _ (List.mem_of_getElem? (i := 14) rfl)
theorem w_324 : Cond.instanceMethod yX0_forget ∈ wsL_law := in_wsL_law0_r17 _ (List.mem_of_getElem? (i := 8) rfl)
theorem w_325 : Cond.selects RX0 yX0_forget yX0_forget ∈ wsL_law := in_wsL_law0_r17 _ (List.mem_of_getElem? (i := 9) rfl)
theorem w_326 : Cond.initialized RX0 ∈ wsL_law := in_wsL_law0_r2 _ (List.mem_of_getElem? (i := 3) rfl)
theorem w_327 : Cond.code yX0_forget cX0_forget 1 none ∈ wsL_law := in_wsL_law0_r17 _ (List.mem_of_getElem? (i := 10) rfl)
theorem w_328 : Cond.instanceMethod yX0_fact ∈ wsL_law := in_wsL_law0_r29 _ (List.mem_of_getElem? (i := 3) rfl)
theorem w_329 : Cond.selects RX0 yX0_fact yX0_fact ∈ wsL_law := in_wsL_law0_r29 _ (List.mem_of_getElem? (i := 4) rfl)
theorem w_330 : Cond.code yX0_fact cX0_fact 3 (some .int) ∈ wsL_law := in_wsL_law0_r29 _ (List.mem_of_getElem? (i := 5) rfl)
theorem w_331 : Cond.instanceMethod yX0_gatherCut ∈ wsL_law := in_wsL_law0_r23 _ (List.mem_of_getElem? (i := 12) rfl)
theorem w_332 : Cond.selects RX0 yX0_gatherCut yX0_gatherCut ∈ wsL_law := in_wsL_law0_r23 _ (List.mem_of_getElem? (i := 13) rfl)
theorem w_333 : Cond.code yX0_gatherCut cX0_gatherCut 4 none ∈ wsL_law := in_wsL_law0_r23 _ (List.mem_of_getElem? (i := 14) rfl)
theorem w_334 : Cond.instanceMethod yX0_gatherHalf ∈ wsL_law := in_wsL_law0_r23 _ (List.mem_of_getElem? (i := 8) rfl)
theorem w_335 : Cond.selects RX0 yX0_gatherHalf yX0_gatherHalf ∈ wsL_law := in_wsL_law0_r23 _ (List.mem_of_getElem? (i := 9) rfl)
theorem w_336 : Cond.code yX0_gatherHalf cX0_gatherHalf 2 none ∈ wsL_law := in_wsL_law0_r23 _ (List.mem_of_getElem? (i := 10) rfl)
theorem w_337 : Cond.instanceMethod yX0_gatherPieces ∈ wsL_law := in_wsL_law0_r24 _ (List.mem_of_getElem? (i := 10) rfl)
theorem w_338 : Cond.selects RX0 yX0_gatherPieces yX0_gatherPieces ∈ wsL_law := in_wsL_law0_r24 _ (List.mem_of_getElem? (i := 11) rfl)
theorem w_339 : Cond.code yX0_gatherPieces cX0_gatherPieces 8 none ∈ wsL_law := in_wsL_law0_r24 _ (List.mem_of_getElem? (i := 12) rfl)
theorem w_340 : Cond.instanceMethod yX0_gatherPatches ∈ wsL_law := in_wsL_law0_r22 _ (List.mem_of_getElem? (i := 19) rfl)
theorem w_341 : Cond.selects RX0 yX0_gatherPatches yX0_gatherPatches ∈ wsL_law := in_wsL_law0_r22 _ (List.mem_of_getElem? (i := 20) rfl)
theorem w_342 : Cond.code yX0_gatherPatches cX0_gatherPatches 5 none ∈ wsL_law := in_wsL_law0_r22 _ (List.mem_of_getElem? (i := 21) rfl)
theorem w_343 : Cond.instanceMethod yX0_gatherSashes ∈ wsL_law := in_wsL_law0_r25 _ (List.mem_of_getElem? (i := 1) rfl)
theorem w_344 : Cond.selects RX0 yX0_gatherSashes yX0_gatherSashes ∈ wsL_law := in_wsL_law0_r25 _ (List.mem_of_getElem? (i := 2) rfl)
theorem w_345 : Cond.code yX0_gatherSashes cX0_gatherSashes 5 none ∈ wsL_law := in_wsL_law0_r25 _ (List.mem_of_getElem? (i := 3) rfl)
theorem w_346 : Cond.instanceMethod yX0_gatherBorder ∈ wsL_law := in_wsL_law0_r25 _ (List.mem_of_getElem? (i := 10) rfl)
theorem w_347 : Cond.selects RX0 yX0_gatherBorder yX0_gatherBorder ∈ wsL_law := in_wsL_law0_r25 _ (List.mem_of_getElem? (i := 11) rfl)
theorem w_348 : Cond.code yX0_gatherBorder cX0_gatherBorder 5 none ∈ wsL_law := in_wsL_law0_r25 _ (List.mem_of_getElem? (i := 12) rfl)
theorem w_349 : Cond.instanceMethod yX0_gather ∈ wsL_law := in_wsL_law0_r22 _ (List.mem_of_getElem? (i := 11) rfl)
theorem w_350 : Cond.selects RX0 yX0_gather yX0_gather ∈ wsL_law := in_wsL_law0_r22 _ (List.mem_of_getElem? (i := 12) rfl)
theorem w_351 : Cond.code yX0_gather cX0_gather 5 none ∈ wsL_law := in_wsL_law0_r22 _ (List.mem_of_getElem? (i := 13) rfl)
theorem w_352 : Cond.instanceMethod yX0_goesBefore ∈ wsL_law := in_wsL_law0_r26 _ (List.mem_of_getElem? (i := 4) rfl)
theorem w_353 : Cond.selects RX0 yX0_goesBefore yX0_goesBefore ∈ wsL_law := in_wsL_law0_r26 _ (List.mem_of_getElem? (i := 5) rfl)
theorem w_354 : Cond.code yX0_goesBefore cX0_goesBefore 3 (some .boolean) ∈ wsL_law := in_wsL_law0_r26 _ (List.mem_of_getElem? (i := 6) rfl)
theorem w_355 : Cond.instanceMethod yX0_merge ∈ wsL_law := in_wsL_law0_r26 _ (List.mem_of_getElem? (i := 0) rfl)
theorem w_356 : Cond.selects RX0 yX0_merge yX0_merge ∈ wsL_law := in_wsL_law0_r26 _ (List.mem_of_getElem? (i := 1) rfl)
theorem w_357 : Cond.code yX0_merge cX0_merge 9 none ∈ wsL_law := in_wsL_law0_r26 _ (List.mem_of_getElem? (i := 2) rfl)
theorem w_358 : Cond.instanceMethod yX0_sort ∈ wsL_law := in_wsL_law0_r25 _ (List.mem_of_getElem? (i := 19) rfl)
theorem w_359 : Cond.selects RX0 yX0_sort yX0_sort ∈ wsL_law := in_wsL_law0_r25 _ (List.mem_of_getElem? (i := 20) rfl)
theorem w_360 : Cond.code yX0_sort cX0_sort 3 none ∈ wsL_law := in_wsL_law0_r25 _ (List.mem_of_getElem? (i := 21) rfl)
theorem w_361 : Cond.instanceMethod yX0_stripFor ∈ wsL_law := in_wsL_law0_r26 _ (List.mem_of_getElem? (i := 14) rfl)
theorem w_362 : Cond.selects RX0 yX0_stripFor yX0_stripFor ∈ wsL_law := in_wsL_law0_r26 _ (List.mem_of_getElem? (i := 15) rfl)
theorem w_363 : Cond.code yX0_stripFor cX0_stripFor 3 (some .int) ∈ wsL_law := in_wsL_law0_r26 _ (List.mem_of_getElem? (i := 16) rfl)
theorem w_364 : Cond.instanceMethod yX0_layInOrder ∈ wsL_law := in_wsL_law0_r26 _ (List.mem_of_getElem? (i := 8) rfl)
theorem w_365 : Cond.selects RX0 yX0_layInOrder yX0_layInOrder ∈ wsL_law := in_wsL_law0_r26 _ (List.mem_of_getElem? (i := 9) rfl)
theorem w_366 : Cond.code yX0_layInOrder cX0_layInOrder 4 none ∈ wsL_law := in_wsL_law0_r26 _ (List.mem_of_getElem? (i := 10) rfl)
theorem w_367 : Cond.instanceMethod yX0_layAll ∈ wsL_law := in_wsL_law0_r22 _ (List.mem_of_getElem? (i := 7) rfl)
theorem w_368 : Cond.selects RX0 yX0_layAll yX0_layAll ∈ wsL_law := in_wsL_law0_r22 _ (List.mem_of_getElem? (i := 8) rfl)
theorem w_369 : Cond.code yX0_layAll cX0_layAll 3 none ∈ wsL_law := in_wsL_law0_r22 _ (List.mem_of_getElem? (i := 9) rfl)
theorem w_370 : Cond.instanceMethod yX5_thrown ∈ wsL_law := in_wsL_law0_r6 _ (List.mem_of_getElem? (i := 23) rfl)
theorem w_371 : Cond.selects RX5 yX5_thrown yX5_thrown ∈ wsL_law := in_wsL_law0_r7 _ (List.mem_of_getElem? (i := 0) rfl)
theorem w_372 : Cond.initialized RX5 ∈ wsL_law := in_wsL_law0_r1 _ (List.mem_of_getElem? (i := 5) rfl)
theorem w_373 : Cond.code yX5_thrown cX5_thrown 1 (some .int) ∈ wsL_law := in_wsL_law0_r7 _ (List.mem_of_getElem? (i := 1) rfl)
theorem w_374 : Cond.instanceMethod yX5_goes ∈ wsL_law := in_wsL_law0_r6 _ (List.mem_of_getElem? (i := 18) rfl)
theorem w_375 : Cond.selects RX5 yX5_goes yX5_goes ∈ wsL_law := in_wsL_law0_r6 _ (List.mem_of_getElem? (i := 19) rfl)
theorem w_376 : Cond.code yX5_goes cX5_goes 3 (some .boolean) ∈ wsL_law := in_wsL_law0_r6 _ (List.mem_of_getElem? (i := 20) rfl)
theorem w_377 : Cond.static yX5_within ∈ wsL_law := in_wsL_law0_r6 _ (List.mem_of_getElem? (i := 15) rfl)
theorem w_378 : Cond.code yX5_within cX5_within 3 (some .boolean) ∈ wsL_law := in_wsL_law0_r6 _ (List.mem_of_getElem? (i := 16) rfl)
theorem w_379 : Cond.static yX5_isPatch ∈ wsL_law := in_wsL_law0_r6 _ (List.mem_of_getElem? (i := 12) rfl)
theorem w_380 : Cond.code yX5_isPatch cX5_isPatch 1 (some .boolean) ∈ wsL_law := in_wsL_law0_r6 _ (List.mem_of_getElem? (i := 13) rfl)
theorem w_381 : Cond.static yX5_isCloth ∈ wsL_law := in_wsL_law0_r8 _ (List.mem_of_getElem? (i := 10) rfl)
theorem w_382 : Cond.code yX5_isCloth cX5_isCloth 1 (some .boolean) ∈ wsL_law := in_wsL_law0_r8 _ (List.mem_of_getElem? (i := 11) rfl)
theorem w_383 : Cond.instanceMethod yX5_next ∈ wsL_law := in_wsL_law0_r8 _ (List.mem_of_getElem? (i := 17) rfl)
theorem w_384 : Cond.selects RX5 yX5_next yX5_next ∈ wsL_law := in_wsL_law0_r8 _ (List.mem_of_getElem? (i := 18) rfl)
theorem w_385 : Cond.code yX5_next cX5_next 3 (some .int) ∈ wsL_law := in_wsL_law0_r8 _ (List.mem_of_getElem? (i := 19) rfl)
theorem w_386 : Cond.instanceMethod yX5_side ∈ wsL_law := in_wsL_law0_r8 _ (List.mem_of_getElem? (i := 21) rfl)
theorem w_387 : Cond.selects RX5 yX5_side yX5_side ∈ wsL_law := in_wsL_law0_r8 _ (List.mem_of_getElem? (i := 22) rfl)
theorem w_388 : Cond.code yX5_side cX5_side 7 (some .int) ∈ wsL_law := in_wsL_law0_r8 _ (List.mem_of_getElem? (i := 23) rfl)
theorem w_389 : Cond.instanceMethod yX5_areaOf ∈ wsL_law := in_wsL_law0_r9 _ (List.mem_of_getElem? (i := 1) rfl)
theorem w_390 : Cond.selects RX5 yX5_areaOf yX5_areaOf ∈ wsL_law := in_wsL_law0_r9 _ (List.mem_of_getElem? (i := 2) rfl)
theorem w_391 : Cond.code yX5_areaOf cX5_areaOf 6 (some .int) ∈ wsL_law := in_wsL_law0_r9 _ (List.mem_of_getElem? (i := 3) rfl)
theorem w_392 : Cond.instanceMethod yX5_isConvex ∈ wsL_law := in_wsL_law0_r8 _ (List.mem_of_getElem? (i := 13) rfl)
theorem w_393 : Cond.selects RX5 yX5_isConvex yX5_isConvex ∈ wsL_law := in_wsL_law0_r8 _ (List.mem_of_getElem? (i := 14) rfl)
theorem w_394 : Cond.code yX5_isConvex cX5_isConvex 6 (some .boolean) ∈ wsL_law := in_wsL_law0_r8 _ (List.mem_of_getElem? (i := 15) rfl)
theorem w_395 : Cond.instanceMethod yX5_lies ∈ wsL_law := in_wsL_law0_r12 _ (List.mem_of_getElem? (i := 17) rfl)
theorem w_396 : Cond.selects RX5 yX5_lies yX5_lies ∈ wsL_law := in_wsL_law0_r12 _ (List.mem_of_getElem? (i := 18) rfl)
theorem w_397 : Cond.code yX5_lies cX5_lies 8 (some .int) ∈ wsL_law := in_wsL_law0_r12 _ (List.mem_of_getElem? (i := 19) rfl)
theorem w_398 : Cond.instanceMethod yX5_apart ∈ wsL_law := in_wsL_law0_r12 _ (List.mem_of_getElem? (i := 13) rfl)
theorem w_399 : Cond.selects RX5 yX5_apart yX5_apart ∈ wsL_law := in_wsL_law0_r12 _ (List.mem_of_getElem? (i := 14) rfl)
theorem w_400 : Cond.code yX5_apart cX5_apart 5 (some .boolean) ∈ wsL_law := in_wsL_law0_r12 _ (List.mem_of_getElem? (i := 15) rfl)
theorem w_401 : Cond.instanceMethod yX5_corner ∈ wsL_law := in_wsL_law0_r6 _ (List.mem_of_getElem? (i := 8) rfl)
theorem w_402 : Cond.selects RX5 yX5_corner yX5_corner ∈ wsL_law := in_wsL_law0_r6 _ (List.mem_of_getElem? (i := 9) rfl)
theorem w_403 : Cond.code yX5_corner cX5_corner 5 none ∈ wsL_law := in_wsL_law0_r6 _ (List.mem_of_getElem? (i := 10) rfl)
theorem w_404 : Cond.instanceMethod yX5_close ∈ wsL_law := in_wsL_law0_r8 _ (List.mem_of_getElem? (i := 6) rfl)
theorem w_405 : Cond.selects RX5 yX5_close yX5_close ∈ wsL_law := in_wsL_law0_r8 _ (List.mem_of_getElem? (i := 7) rfl)
theorem w_406 : Cond.code yX5_close cX5_close 5 (some .int) ∈ wsL_law := in_wsL_law0_r8 _ (List.mem_of_getElem? (i := 8) rfl)
theorem w_407 : Cond.instanceMethod yX5_open ∈ wsL_law := in_wsL_law0_r9 _ (List.mem_of_getElem? (i := 17) rfl)
theorem w_408 : Cond.selects RX5 yX5_open yX5_open ∈ wsL_law := in_wsL_law0_r9 _ (List.mem_of_getElem? (i := 18) rfl)
theorem w_409 : Cond.code yX5_open cX5_open 3 (some .boolean) ∈ wsL_law := in_wsL_law0_r9 _ (List.mem_of_getElem? (i := 19) rfl)
theorem w_410 : Cond.instanceMethod yX5_closed ∈ wsL_law := in_wsL_law0_r10 _ (List.mem_of_getElem? (i := 21) rfl)
theorem w_411 : Cond.selects RX5 yX5_closed yX5_closed ∈ wsL_law := in_wsL_law0_r10 _ (List.mem_of_getElem? (i := 22) rfl)
theorem w_412 : Cond.code yX5_closed cX5_closed 3 (some .int) ∈ wsL_law := in_wsL_law0_r10 _ (List.mem_of_getElem? (i := 23) rfl)
theorem w_413 : Cond.instanceMethod yX5_clear ∈ wsL_law := in_wsL_law0_r10 _ (List.mem_of_getElem? (i := 17) rfl)
theorem w_414 : Cond.selects RX5 yX5_clear yX5_clear ∈ wsL_law := in_wsL_law0_r10 _ (List.mem_of_getElem? (i := 18) rfl)
theorem w_415 : Cond.code yX5_clear cX5_clear 3 (some .int) ∈ wsL_law := in_wsL_law0_r10 _ (List.mem_of_getElem? (i := 19) rfl)
theorem w_416 : Cond.instanceMethod yX5_overlapping ∈ wsL_law := in_wsL_law0_r12 _ (List.mem_of_getElem? (i := 9) rfl)
theorem w_417 : Cond.selects RX5 yX5_overlapping yX5_overlapping ∈ wsL_law := in_wsL_law0_r12 _ (List.mem_of_getElem? (i := 10) rfl)
theorem w_418 : Cond.code yX5_overlapping cX5_overlapping 4 (some .int) ∈ wsL_law := in_wsL_law0_r12 _ (List.mem_of_getElem? (i := 11) rfl)
theorem w_419 : Cond.instanceMethod yX5_state ∈ wsL_law := in_wsL_law0_r12 _ (List.mem_of_getElem? (i := 5) rfl)
theorem w_420 : Cond.selects RX5 yX5_state yX5_state ∈ wsL_law := in_wsL_law0_r12 _ (List.mem_of_getElem? (i := 6) rfl)
theorem w_421 : Cond.code yX5_state cX5_state 3 (some .int) ∈ wsL_law := in_wsL_law0_r12 _ (List.mem_of_getElem? (i := 7) rfl)
theorem w_422 : Cond.instanceMethod yX5_check ∈ wsL_law := in_wsL_law0_r12 _ (List.mem_of_getElem? (i := 1) rfl)
theorem w_423 : Cond.selects RX5 yX5_check yX5_check ∈ wsL_law := in_wsL_law0_r12 _ (List.mem_of_getElem? (i := 2) rfl)
theorem w_424 : Cond.code yX5_check cX5_check 1 (some .int) ∈ wsL_law := in_wsL_law0_r12 _ (List.mem_of_getElem? (i := 3) rfl)
theorem w_425 : Cond.instanceMethod yX5_clash ∈ wsL_law := in_wsL_law0_r13 _ (List.mem_of_getElem? (i := 5) rfl)
theorem w_426 : Cond.selects RX5 yX5_clash yX5_clash ∈ wsL_law := in_wsL_law0_r13 _ (List.mem_of_getElem? (i := 6) rfl)
theorem w_427 : Cond.code yX5_clash cX5_clash 3 (some .int) ∈ wsL_law := in_wsL_law0_r13 _ (List.mem_of_getElem? (i := 7) rfl)
theorem w_428 : Cond.static yX5_bits ∈ wsL_law := in_wsL_law0_r14 _ (List.mem_of_getElem? (i := 23) rfl)
theorem w_429 : Cond.code yX5_bits cX5_bits 3 (some .int) ∈ wsL_law := in_wsL_law0_r15 _ (List.mem_of_getElem? (i := 0) rfl)
theorem w_430 : Cond.instanceMethod yX5_leftOf ∈ wsL_law := in_wsL_law0_r15 _ (List.mem_of_getElem? (i := 2) rfl)
theorem w_431 : Cond.selects RX5 yX5_leftOf yX5_leftOf ∈ wsL_law := in_wsL_law0_r15 _ (List.mem_of_getElem? (i := 3) rfl)
theorem w_432 : Cond.code yX5_leftOf cX5_leftOf 7 (some .int) ∈ wsL_law := in_wsL_law0_r15 _ (List.mem_of_getElem? (i := 4) rfl)
theorem w_433 : Cond.instanceMethod yX5_piece ∈ wsL_law := in_wsL_law0_r14 _ (List.mem_of_getElem? (i := 18) rfl)
theorem w_434 : Cond.selects RX5 yX5_piece yX5_piece ∈ wsL_law := in_wsL_law0_r14 _ (List.mem_of_getElem? (i := 19) rfl)
theorem w_435 : Cond.code yX5_piece cX5_piece 8 (some .int) ∈ wsL_law := in_wsL_law0_r14 _ (List.mem_of_getElem? (i := 20) rfl)
theorem w_436 : Cond.instanceMethod yX5_seam ∈ wsL_law := in_wsL_law0_r15 _ (List.mem_of_getElem? (i := 15) rfl)
theorem w_437 : Cond.selects RX5 yX5_seam yX5_seam ∈ wsL_law := in_wsL_law0_r15 _ (List.mem_of_getElem? (i := 16) rfl)
theorem w_438 : Cond.code yX5_seam cX5_seam 3 (some .int) ∈ wsL_law := in_wsL_law0_r15 _ (List.mem_of_getElem? (i := 17) rfl)
theorem w_439 : Cond.instanceMethod yX5_keep ∈ wsL_law := in_wsL_law0_r16 _ (List.mem_of_getElem? (i := 18) rfl)
theorem w_440 : Cond.selects RX5 yX5_keep yX5_keep ∈ wsL_law := in_wsL_law0_r16 _ (List.mem_of_getElem? (i := 19) rfl)
theorem w_441 : Cond.code yX5_keep cX5_keep 4 (some .int) ∈ wsL_law := in_wsL_law0_r16 _ (List.mem_of_getElem? (i := 20) rfl)
theorem w_442 : Cond.instanceMethod yX5_place ∈ wsL_law := in_wsL_law0_r17 _ (List.mem_of_getElem? (i := 12) rfl)
theorem w_443 : Cond.selects RX5 yX5_place yX5_place ∈ wsL_law := in_wsL_law0_r17 _ (List.mem_of_getElem? (i := 13) rfl)
theorem w_444 : Cond.code yX5_place cX5_place 7 (some .int) ∈ wsL_law := in_wsL_law0_r17 _ (List.mem_of_getElem? (i := 14) rfl)
theorem w_445 : Cond.instanceMethod yX5_frame ∈ wsL_law := in_wsL_law0_r18 _ (List.mem_of_getElem? (i := 1) rfl)
theorem w_446 : Cond.selects RX5 yX5_frame yX5_frame ∈ wsL_law := in_wsL_law0_r18 _ (List.mem_of_getElem? (i := 2) rfl)
theorem w_447 : Cond.code yX5_frame cX5_frame 5 (some .int) ∈ wsL_law := in_wsL_law0_r18 _ (List.mem_of_getElem? (i := 3) rfl)
theorem w_448 : Cond.static yX5_turned ∈ wsL_law := in_wsL_law0_r19 _ (List.mem_of_getElem? (i := 20) rfl)
theorem w_449 : Cond.code yX5_turned cX5_turned 8 (some .int) ∈ wsL_law := in_wsL_law0_r19 _ (List.mem_of_getElem? (i := 21) rfl)
theorem w_450 : Cond.instanceMethod yX5_hasCorner ∈ wsL_law := in_wsL_law0_r19 _ (List.mem_of_getElem? (i := 16) rfl)
theorem w_451 : Cond.selects RX5 yX5_hasCorner yX5_hasCorner ∈ wsL_law := in_wsL_law0_r19 _ (List.mem_of_getElem? (i := 17) rfl)
theorem w_452 : Cond.code yX5_hasCorner cX5_hasCorner 8 (some .boolean) ∈ wsL_law := in_wsL_law0_r19 _ (List.mem_of_getElem? (i := 18) rfl)
theorem w_453 : Cond.instanceMethod yX5_mismatch ∈ wsL_law := in_wsL_law0_r19 _ (List.mem_of_getElem? (i := 12) rfl)
theorem w_454 : Cond.selects RX5 yX5_mismatch yX5_mismatch ∈ wsL_law := in_wsL_law0_r19 _ (List.mem_of_getElem? (i := 13) rfl)
theorem w_455 : Cond.code yX5_mismatch cX5_mismatch 6 (some .int) ∈ wsL_law := in_wsL_law0_r19 _ (List.mem_of_getElem? (i := 14) rfl)
theorem w_456 : Cond.static yX5_swapped ∈ wsL_law := in_wsL_law0_r20 _ (List.mem_of_getElem? (i := 23) rfl)
theorem w_457 : Cond.code yX5_swapped cX5_swapped 3 (some .int) ∈ wsL_law := in_wsL_law0_r21 _ (List.mem_of_getElem? (i := 0) rfl)
theorem w_458 : Cond.instanceMethod yX5_swap ∈ wsL_law := in_wsL_law0_r20 _ (List.mem_of_getElem? (i := 19) rfl)
theorem w_459 : Cond.selects RX5 yX5_swap yX5_swap ∈ wsL_law := in_wsL_law0_r20 _ (List.mem_of_getElem? (i := 20) rfl)
theorem w_460 : Cond.code yX5_swap cX5_swap 6 (some .int) ∈ wsL_law := in_wsL_law0_r20 _ (List.mem_of_getElem? (i := 21) rfl)
theorem w_461 : Cond.instanceMethod yX5_area ∈ wsL_law := in_wsL_law0_r21 _ (List.mem_of_getElem? (i := 17) rfl)
theorem w_462 : Cond.selects RX5 yX5_area yX5_area ∈ wsL_law := in_wsL_law0_r21 _ (List.mem_of_getElem? (i := 18) rfl)
theorem w_463 : Cond.code yX5_area cX5_area 5 (some .int) ∈ wsL_law := in_wsL_law0_r21 _ (List.mem_of_getElem? (i := 19) rfl)
theorem w_464 : Cond.instanceMethod yX5_rows ∈ wsL_law := in_wsL_law0_r28 _ (List.mem_of_getElem? (i := 4) rfl)
theorem w_465 : Cond.selects RX5 yX5_rows yX5_rows ∈ wsL_law := in_wsL_law0_r28 _ (List.mem_of_getElem? (i := 5) rfl)
theorem w_466 : Cond.code yX5_rows cX5_rows 3 (some .int) ∈ wsL_law := in_wsL_law0_r28 _ (List.mem_of_getElem? (i := 6) rfl)
theorem w_467 : Cond.instanceMethod yX5_columns ∈ wsL_law := in_wsL_law0_r28 _ (List.mem_of_getElem? (i := 8) rfl)
theorem w_468 : Cond.selects RX5 yX5_columns yX5_columns ∈ wsL_law := in_wsL_law0_r28 _ (List.mem_of_getElem? (i := 9) rfl)
theorem w_469 : Cond.code yX5_columns cX5_columns 3 (some .int) ∈ wsL_law := in_wsL_law0_r28 _ (List.mem_of_getElem? (i := 10) rfl)
theorem w_470 : Cond.instanceMethod yX5_across ∈ wsL_law := in_wsL_law0_r28 _ (List.mem_of_getElem? (i := 12) rfl)
theorem w_471 : Cond.selects RX5 yX5_across yX5_across ∈ wsL_law := in_wsL_law0_r28 _ (List.mem_of_getElem? (i := 13) rfl)
theorem w_472 : Cond.code yX5_across cX5_across 2 (some .int) ∈ wsL_law := in_wsL_law0_r28 _ (List.mem_of_getElem? (i := 14) rfl)
theorem w_473 : Cond.instanceMethod yX5_cutOf ∈ wsL_law := in_wsL_law0_r28 _ (List.mem_of_getElem? (i := 0) rfl)
theorem w_474 : Cond.selects RX5 yX5_cutOf yX5_cutOf ∈ wsL_law := in_wsL_law0_r28 _ (List.mem_of_getElem? (i := 1) rfl)
theorem w_475 : Cond.code yX5_cutOf cX5_cutOf 4 none ∈ wsL_law := in_wsL_law0_r28 _ (List.mem_of_getElem? (i := 2) rfl)
theorem w_476 : Cond.static yX5_gap ∈ wsL_law := in_wsL_law0_r27 _ (List.mem_of_getElem? (i := 17) rfl)
theorem w_477 : Cond.code yX5_gap cX5_gap 2 (some .int) ∈ wsL_law := in_wsL_law0_r27 _ (List.mem_of_getElem? (i := 18) rfl)
theorem w_478 : Cond.instanceMethod yX5_half ∈ wsL_law := in_wsL_law0_r27 _ (List.mem_of_getElem? (i := 13) rfl)
theorem w_479 : Cond.selects RX5 yX5_half yX5_half ∈ wsL_law := in_wsL_law0_r27 _ (List.mem_of_getElem? (i := 14) rfl)
theorem w_480 : Cond.code yX5_half cX5_half 7 (some .int) ∈ wsL_law := in_wsL_law0_r27 _ (List.mem_of_getElem? (i := 15) rfl)
theorem w_481 : Cond.instanceMethod yX5_spread ∈ wsL_law := in_wsL_law0_r27 _ (List.mem_of_getElem? (i := 20) rfl)
theorem w_482 : Cond.selects RX5 yX5_spread yX5_spread ∈ wsL_law := in_wsL_law0_r27 _ (List.mem_of_getElem? (i := 21) rfl)
theorem w_483 : Cond.code yX5_spread cX5_spread 6 (some .int) ∈ wsL_law := in_wsL_law0_r27 _ (List.mem_of_getElem? (i := 22) rfl)
theorem w_484 : Cond.instanceMethod yX5_cutPatch ∈ wsL_law := in_wsL_law0_r27 _ (List.mem_of_getElem? (i := 9) rfl)
theorem w_485 : Cond.selects RX5 yX5_cutPatch yX5_cutPatch ∈ wsL_law := in_wsL_law0_r27 _ (List.mem_of_getElem? (i := 10) rfl)
theorem w_486 : Cond.code yX5_cutPatch cX5_cutPatch 3 none ∈ wsL_law := in_wsL_law0_r27 _ (List.mem_of_getElem? (i := 11) rfl)
theorem w_487 : Cond.instanceMethod yX5_list ∈ wsL_law := in_wsL_law0_r27 _ (List.mem_of_getElem? (i := 5) rfl)
theorem w_488 : Cond.selects RX5 yX5_list yX5_list ∈ wsL_law := in_wsL_law0_r27 _ (List.mem_of_getElem? (i := 6) rfl)
theorem w_489 : Cond.code yX5_list cX5_list 7 none ∈ wsL_law := in_wsL_law0_r27 _ (List.mem_of_getElem? (i := 7) rfl)
theorem w_490 : Cond.instanceMethod yX5_nextCut ∈ wsL_law := in_wsL_law0_r28 _ (List.mem_of_getElem? (i := 16) rfl)
theorem w_491 : Cond.selects RX5 yX5_nextCut yX5_nextCut ∈ wsL_law := in_wsL_law0_r28 _ (List.mem_of_getElem? (i := 17) rfl)
theorem w_492 : Cond.code yX5_nextCut cX5_nextCut 4 (some .int) ∈ wsL_law := in_wsL_law0_r28 _ (List.mem_of_getElem? (i := 18) rfl)
theorem w_493 : Cond.instanceMethod yX5_lay ∈ wsL_law := in_wsL_law0_r27 _ (List.mem_of_getElem? (i := 1) rfl)
theorem w_494 : Cond.selects RX5 yX5_lay yX5_lay ∈ wsL_law := in_wsL_law0_r27 _ (List.mem_of_getElem? (i := 2) rfl)
theorem w_495 : Cond.code yX5_lay cX5_lay 5 none ∈ wsL_law := in_wsL_law0_r27 _ (List.mem_of_getElem? (i := 3) rfl)
theorem w_496 : Cond.instanceMethod yX5_need ∈ wsL_law := in_wsL_law0_r26 _ (List.mem_of_getElem? (i := 18) rfl)
theorem w_497 : Cond.selects RX5 yX5_need yX5_need ∈ wsL_law := in_wsL_law0_r26 _ (List.mem_of_getElem? (i := 19) rfl)
theorem w_498 : Cond.code yX5_need cX5_need 3 (some .int) ∈ wsL_law := in_wsL_law0_r26 _ (List.mem_of_getElem? (i := 20) rfl)
theorem w_499 : Cond.instanceMethod yX5_cut ∈ wsL_law := in_wsL_law0_r29 _ (List.mem_of_getElem? (i := 7) rfl)
theorem w_500 : Cond.selects RX5 yX5_cut yX5_cut ∈ wsL_law := in_wsL_law0_r29 _ (List.mem_of_getElem? (i := 8) rfl)
theorem w_501 : Cond.code yX5_cut cX5_cut 5 (some .int) ∈ wsL_law := in_wsL_law0_r29 _ (List.mem_of_getElem? (i := 9) rfl)
theorem w_502 : Cond.instanceMethod yX5_count ∈ wsL_law := in_wsL_law0_r30 _ (List.mem_of_getElem? (i := 1) rfl)
theorem w_503 : Cond.selects RX5 yX5_count yX5_count ∈ wsL_law := in_wsL_law0_r30 _ (List.mem_of_getElem? (i := 2) rfl)
theorem w_504 : Cond.code yX5_count cX5_count 4 (some .int) ∈ wsL_law := in_wsL_law0_r30 _ (List.mem_of_getElem? (i := 3) rfl)
theorem w_505 : Cond.static yX4_within ∈ wsL_law := in_wsL_law0_r5 _ (List.mem_of_getElem? (i := 11) rfl)
theorem w_506 : Cond.initialized RX4 ∈ wsL_law := in_wsL_law0_r1 _ (List.mem_of_getElem? (i := 2) rfl)
theorem w_507 : Cond.code yX4_within cX4_within 2 (some .boolean) ∈ wsL_law := in_wsL_law0_r5 _ (List.mem_of_getElem? (i := 12) rfl)
theorem w_508 : Cond.instanceMethod yX4_corner ∈ wsL_law := in_wsL_law0_r5 _ (List.mem_of_getElem? (i := 7) rfl)
theorem w_509 : Cond.selects RX4 yX4_corner yX4_corner ∈ wsL_law := in_wsL_law0_r5 _ (List.mem_of_getElem? (i := 8) rfl)
theorem w_510 : Cond.code yX4_corner cX4_corner 5 none ∈ wsL_law := in_wsL_law0_r5 _ (List.mem_of_getElem? (i := 9) rfl)
theorem w_511 : Cond.instanceMethod yX4_close ∈ wsL_law := in_wsL_law0_r7 _ (List.mem_of_getElem? (i := 6) rfl)
theorem w_512 : Cond.selects RX4 yX4_close yX4_close ∈ wsL_law := in_wsL_law0_r7 _ (List.mem_of_getElem? (i := 7) rfl)
theorem w_513 : Cond.code yX4_close cX4_close 4 (some .int) ∈ wsL_law := in_wsL_law0_r7 _ (List.mem_of_getElem? (i := 8) rfl)
theorem w_514 : Cond.instanceMethod yX4_open ∈ wsL_law := in_wsL_law0_r9 _ (List.mem_of_getElem? (i := 8) rfl)
theorem w_515 : Cond.selects RX4 yX4_open yX4_open ∈ wsL_law := in_wsL_law0_r9 _ (List.mem_of_getElem? (i := 9) rfl)
theorem w_516 : Cond.code yX4_open cX4_open 3 (some .boolean) ∈ wsL_law := in_wsL_law0_r9 _ (List.mem_of_getElem? (i := 10) rfl)
theorem w_517 : Cond.instanceMethod yX4_clear ∈ wsL_law := in_wsL_law0_r9 _ (List.mem_of_getElem? (i := 21) rfl)
theorem w_518 : Cond.selects RX4 yX4_clear yX4_clear ∈ wsL_law := in_wsL_law0_r9 _ (List.mem_of_getElem? (i := 22) rfl)
theorem w_519 : Cond.code yX4_clear cX4_clear 3 (some .int) ∈ wsL_law := in_wsL_law0_r9 _ (List.mem_of_getElem? (i := 23) rfl)
theorem w_520 : Cond.instanceMethod yX4_check ∈ wsL_law := in_wsL_law0_r11 _ (List.mem_of_getElem? (i := 1) rfl)
theorem w_521 : Cond.selects RX4 yX4_check yX4_check ∈ wsL_law := in_wsL_law0_r11 _ (List.mem_of_getElem? (i := 2) rfl)
theorem w_522 : Cond.code yX4_check cX4_check 1 (some .int) ∈ wsL_law := in_wsL_law0_r11 _ (List.mem_of_getElem? (i := 3) rfl)
theorem w_523 : Cond.instanceMethod yX4_clash ∈ wsL_law := in_wsL_law0_r13 _ (List.mem_of_getElem? (i := 0) rfl)
theorem w_524 : Cond.selects RX4 yX4_clash yX4_clash ∈ wsL_law := in_wsL_law0_r13 _ (List.mem_of_getElem? (i := 1) rfl)
theorem w_525 : Cond.code yX4_clash cX4_clash 3 (some .int) ∈ wsL_law := in_wsL_law0_r13 _ (List.mem_of_getElem? (i := 2) rfl)
theorem w_526 : Cond.instanceMethod yX4_piece ∈ wsL_law := in_wsL_law0_r13 _ (List.mem_of_getElem? (i := 9) rfl)
theorem w_527 : Cond.selects RX4 yX4_piece yX4_piece ∈ wsL_law := in_wsL_law0_r13 _ (List.mem_of_getElem? (i := 10) rfl)
theorem w_528 : Cond.code yX4_piece cX4_piece 1 (some .int) ∈ wsL_law := in_wsL_law0_r13 _ (List.mem_of_getElem? (i := 11) rfl)
theorem w_529 : Cond.instanceMethod yX4_seam ∈ wsL_law := in_wsL_law0_r15 _ (List.mem_of_getElem? (i := 9) rfl)
theorem w_530 : Cond.selects RX4 yX4_seam yX4_seam ∈ wsL_law := in_wsL_law0_r15 _ (List.mem_of_getElem? (i := 10) rfl)
theorem w_531 : Cond.code yX4_seam cX4_seam 3 (some .int) ∈ wsL_law := in_wsL_law0_r15 _ (List.mem_of_getElem? (i := 11) rfl)
theorem w_532 : Cond.instanceMethod yX4_place ∈ wsL_law := in_wsL_law0_r17 _ (List.mem_of_getElem? (i := 2) rfl)
theorem w_533 : Cond.selects RX4 yX4_place yX4_place ∈ wsL_law := in_wsL_law0_r17 _ (List.mem_of_getElem? (i := 3) rfl)
theorem w_534 : Cond.code yX4_place cX4_place 7 (some .int) ∈ wsL_law := in_wsL_law0_r17 _ (List.mem_of_getElem? (i := 4) rfl)
theorem w_535 : Cond.instanceMethod yX4_frame ∈ wsL_law := in_wsL_law0_r17 _ (List.mem_of_getElem? (i := 19) rfl)
theorem w_536 : Cond.selects RX4 yX4_frame yX4_frame ∈ wsL_law := in_wsL_law0_r17 _ (List.mem_of_getElem? (i := 20) rfl)
theorem w_537 : Cond.code yX4_frame cX4_frame 5 (some .int) ∈ wsL_law := in_wsL_law0_r17 _ (List.mem_of_getElem? (i := 21) rfl)
theorem w_538 : Cond.instanceMethod yX4_mismatch ∈ wsL_law := in_wsL_law0_r18 _ (List.mem_of_getElem? (i := 8) rfl)
theorem w_539 : Cond.selects RX4 yX4_mismatch yX4_mismatch ∈ wsL_law := in_wsL_law0_r18 _ (List.mem_of_getElem? (i := 9) rfl)
theorem w_540 : Cond.code yX4_mismatch cX4_mismatch 3 (some .int) ∈ wsL_law := in_wsL_law0_r18 _ (List.mem_of_getElem? (i := 10) rfl)
theorem w_541 : Cond.instanceMethod yX4_swap ∈ wsL_law := in_wsL_law0_r20 _ (List.mem_of_getElem? (i := 2) rfl)
theorem w_542 : Cond.selects RX4 yX4_swap yX4_swap ∈ wsL_law := in_wsL_law0_r20 _ (List.mem_of_getElem? (i := 3) rfl)
theorem w_543 : Cond.code yX4_swap cX4_swap 3 (some .int) ∈ wsL_law := in_wsL_law0_r20 _ (List.mem_of_getElem? (i := 4) rfl)
theorem w_544 : Cond.instanceMethod yX4_area ∈ wsL_law := in_wsL_law0_r21 _ (List.mem_of_getElem? (i := 5) rfl)
theorem w_545 : Cond.selects RX4 yX4_area yX4_area ∈ wsL_law := in_wsL_law0_r21 _ (List.mem_of_getElem? (i := 6) rfl)
theorem w_546 : Cond.code yX4_area cX4_area 2 (some .int) ∈ wsL_law := in_wsL_law0_r21 _ (List.mem_of_getElem? (i := 7) rfl)
theorem w_547 : Cond.instanceMethod yX4_need ∈ wsL_law := in_wsL_law0_r22 _ (List.mem_of_getElem? (i := 0) rfl)
theorem w_548 : Cond.selects RX4 yX4_need yX4_need ∈ wsL_law := in_wsL_law0_r22 _ (List.mem_of_getElem? (i := 1) rfl)
theorem w_549 : Cond.code yX4_need cX4_need 3 (some .int) ∈ wsL_law := in_wsL_law0_r22 _ (List.mem_of_getElem? (i := 2) rfl)
theorem w_550 : Cond.instanceMethod yX4_cut ∈ wsL_law := in_wsL_law0_r28 _ (List.mem_of_getElem? (i := 23) rfl)
theorem w_551 : Cond.selects RX4 yX4_cut yX4_cut ∈ wsL_law := in_wsL_law0_r29 _ (List.mem_of_getElem? (i := 0) rfl)
theorem w_552 : Cond.code yX4_cut cX4_cut 4 (some .int) ∈ wsL_law := in_wsL_law0_r29 _ (List.mem_of_getElem? (i := 1) rfl)
theorem w_553 : Cond.instanceMethod yX4_count ∈ wsL_law := in_wsL_law0_r29 _ (List.mem_of_getElem? (i := 14) rfl)
theorem w_554 : Cond.selects RX4 yX4_count yX4_count ∈ wsL_law := in_wsL_law0_r29 _ (List.mem_of_getElem? (i := 15) rfl)
theorem w_555 : Cond.code yX4_count cX4_count 2 (some .int) ∈ wsL_law := in_wsL_law0_r29 _ (List.mem_of_getElem? (i := 16) rfl)
theorem w_556 : Cond.static yX4_mustExist ∈ wsL_law := in_wsL_law0_r5 _ (List.mem_of_getElem? (i := 14) rfl)
theorem w_557 : Cond.code yX4_mustExist cX4_mustExist 1 none ∈ wsL_law := in_wsL_law0_r5 _ (List.mem_of_getElem? (i := 15) rfl)
theorem w_558 : Cond.static yX4_mustFit ∈ wsL_law := in_wsL_law0_r5 _ (List.mem_of_getElem? (i := 19) rfl)
theorem w_559 : Cond.code yX4_mustFit cX4_mustFit 1 none ∈ wsL_law := in_wsL_law0_r5 _ (List.mem_of_getElem? (i := 20) rfl)
end
section
def kJ6_bitCount_0f7a4 : List (Nat × Instr × Nat) := [(0, .iload_n 0, 1), (1, .iload_n 0, 1), (2, .iconst 1, 1), (3, .iushr, 1), (4, .ldc_w 265, 3), (7, .iand, 1), (8, .isub, 1), (9, .istore_n 0, 1), (10, .iload_n 0, 1), (11, .ldc_w 266, 3), (14, .iand, 1), (15, .iload_n 0, 1), (16, .iconst 2, 1), (17, .iushr, 1), (18, .ldc_w 266, 3), (21, .iand, 1), (22, .iadd, 1), (23, .istore_n 0, 1), (24, .iload_n 0, 1), (25, .iload_n 0, 1), (26, .iconst 4, 1), (27, .iushr, 1), (28, .iadd, 1), (29, .ldc_w 267, 3), (32, .iand, 1), (33, .istore_n 0, 1), (34, .iload_n 0, 1), (35, .iload_n 0, 1), (36, .bipush 8, 2), (38, .iushr, 1), (39, .iadd, 1), (40, .istore_n 0, 1), (41, .iload_n 0, 1), (42, .iload_n 0, 1), (43, .bipush 16, 2), (45, .iushr, 1), (46, .iadd, 1), (47, .istore_n 0, 1), (48, .iload_n 0, 1), (49, .bipush 63, 2), (51, .iand, 1), (52, .ireturn, 1)]
set_option maxRecDepth 100000 in
theorem kJ6_bitCount_0f7a4_ok : ∀ (i : Nat) (q : Nat × Instr × Nat), kJ6_bitCount_0f7a4[i]? = some q → decode cJ6_bitCount_0f7a4 q.1 = .ok q.2 := tbl_ok (by decide +kernel)
theorem okJ6_bitCount_0f7a4 : OKS yJ6_bitCount_0f7a4 cJ6_bitCount_0f7a4 1 (some .int) 1 := ⟨w_198, w_199, w_200, by decide +kernel, by decide +kernel, by decide +kernel⟩
def kJ7_fill_53178 : List (Nat × Instr × Nat) := [(0, .iconst 0, 1), (1, .istore_n 2, 1), (2, .aload_n 0, 1), (3, .arraylength, 1), (4, .istore_n 3, 1), (5, .iload_n 2, 1), (6, .iload_n 3, 1), (7, .if_icmp .ge 13, 3), (10, .aload_n 0, 1), (11, .iload_n 2, 1), (12, .iload_n 1, 1), (13, .iastore, 1), (14, .iinc 2 1, 3), (17, .goto (-12), 3), (20, .return_, 1)]
set_option maxRecDepth 100000 in
theorem kJ7_fill_53178_ok : ∀ (i : Nat) (q : Nat × Instr × Nat), kJ7_fill_53178[i]? = some q → decode cJ7_fill_53178 q.1 = .ok q.2 := tbl_ok (by decide +kernel)
theorem okJ7_fill_53178 : OKS yJ7_fill_53178 cJ7_fill_53178 4 none 2 := ⟨w_201, w_202, w_203, by decide +kernel, by decide +kernel, by decide +kernel⟩
def kX1_openPatch : List (Nat × Instr × Nat) := [(0, .aload_n 0, 1), (1, .getfield 18, 3), (4, .iload_n 1, 1), (5, .iconst 0, 1), (6, .iastore, 1), (7, .return_, 1)]
set_option maxRecDepth 100000 in
theorem kX1_openPatch_ok : ∀ (i : Nat) (q : Nat × Instr × Nat), kX1_openPatch[i]? = some q → decode cX1_openPatch q.1 = .ok q.2 := tbl_ok (by decide +kernel)
theorem okX1_openPatch : OKV RX1 yX1_openPatch cX1_openPatch 2 none 1 := ⟨w_204, w_205, w_206, w_207, rfl, by decide +kernel, by decide +kernel, by decide +kernel⟩
def kX1_putCorner : List (Nat × Instr × Nat) := [(0, .aload_n 0, 1), (1, .getfield 9, 3), (4, .iload_n 1, 1), (5, .bipush 8, 2), (7, .imul, 1), (8, .iload_n 2, 1), (9, .iadd, 1), (10, .iload_n 3, 1), (11, .iastore, 1), (12, .aload_n 0, 1), (13, .getfield 15, 3), (16, .iload_n 1, 1), (17, .bipush 8, 2), (19, .imul, 1), (20, .iload_n 2, 1), (21, .iadd, 1), (22, .iload 4, 2), (24, .iastore, 1), (25, .aload_n 0, 1), (26, .iload_n 1, 1), (27, .invokevirtual 24, 3), (30, .return_, 1)]
set_option maxRecDepth 100000 in
theorem kX1_putCorner_ok : ∀ (i : Nat) (q : Nat × Instr × Nat), kX1_putCorner[i]? = some q → decode cX1_putCorner q.1 = .ok q.2 := tbl_ok (by decide +kernel)
theorem okX1_putCorner : OKV RX1 yX1_putCorner cX1_putCorner 5 none 4 := ⟨w_208, w_209, w_206, w_210, rfl, by decide +kernel, by decide +kernel, by decide +kernel⟩
def kX1_next : List (Nat × Instr × Nat) := [(0, .iload_n 2, 1), (1, .iconst 1, 1), (2, .iadd, 1), (3, .aload_n 0, 1), (4, .getfield 18, 3), (7, .iload_n 1, 1), (8, .iaload, 1), (9, .if_icmp .ge 9, 3), (12, .iload_n 2, 1), (13, .iconst 1, 1), (14, .iadd, 1), (15, .goto 4, 3), (18, .iconst 0, 1), (19, .ireturn, 1)]
set_option maxRecDepth 100000 in
theorem kX1_next_ok : ∀ (i : Nat) (q : Nat × Instr × Nat), kX1_next[i]? = some q → decode cX1_next q.1 = .ok q.2 := tbl_ok (by decide +kernel)
theorem okX1_next : OKV RX1 yX1_next cX1_next 3 (some .int) 2 := ⟨w_211, w_212, w_206, w_213, rfl, by decide +kernel, by decide +kernel, by decide +kernel⟩
def kX1_bend : List (Nat × Instr × Nat) := [(0, .aload_n 0, 1), (1, .getfield 9, 3), (4, .iload_n 2, 1), (5, .iaload, 1), (6, .aload_n 0, 1), (7, .getfield 9, 3), (10, .iload_n 1, 1), (11, .iaload, 1), (12, .isub, 1), (13, .aload_n 0, 1), (14, .getfield 15, 3), (17, .iload_n 3, 1), (18, .iaload, 1), (19, .aload_n 0, 1), (20, .getfield 15, 3), (23, .iload_n 1, 1), (24, .iaload, 1), (25, .isub, 1), (26, .imul, 1), (27, .aload_n 0, 1), (28, .getfield 15, 3), (31, .iload_n 2, 1), (32, .iaload, 1), (33, .aload_n 0, 1), (34, .getfield 15, 3), (37, .iload_n 1, 1), (38, .iaload, 1), (39, .isub, 1), (40, .aload_n 0, 1), (41, .getfield 9, 3), (44, .iload_n 3, 1), (45, .iaload, 1), (46, .aload_n 0, 1), (47, .getfield 9, 3), (50, .iload_n 1, 1), (51, .iaload, 1), (52, .isub, 1), (53, .imul, 1), (54, .isub, 1), (55, .ireturn, 1)]
set_option maxRecDepth 100000 in
theorem kX1_bend_ok : ∀ (i : Nat) (q : Nat × Instr × Nat), kX1_bend[i]? = some q → decode cX1_bend q.1 = .ok q.2 := tbl_ok (by decide +kernel)
theorem okX1_bend : OKV RX1 yX1_bend cX1_bend 4 (some .int) 3 := ⟨w_214, w_215, w_206, w_216, rfl, by decide +kernel, by decide +kernel, by decide +kernel⟩
def kX1_isConvex : List (Nat × Instr × Nat) := [(0, .iload_n 1, 1), (1, .bipush 8, 2), (3, .imul, 1), (4, .istore_n 2, 1), (5, .iconst 0, 1), (6, .istore_n 3, 1), (7, .iload_n 3, 1), (8, .aload_n 0, 1), (9, .getfield 18, 3), (12, .iload_n 1, 1), (13, .iaload, 1), (14, .if_icmp .ge 75, 3), (17, .iload_n 2, 1), (18, .iload_n 3, 1), (19, .iadd, 1), (20, .istore 4, 2), (22, .iload_n 2, 1), (23, .aload_n 0, 1), (24, .iload_n 1, 1), (25, .iload_n 3, 1), (26, .invokevirtual 48, 3), (29, .iadd, 1), (30, .istore 5, 2), (32, .iload_n 2, 1), (33, .istore 6, 2), (35, .iload 6, 2), (37, .iload_n 2, 1), (38, .aload_n 0, 1), (39, .getfield 18, 3), (42, .iload_n 1, 1), (43, .iaload, 1), (44, .iadd, 1), (45, .if_icmp .ge 38, 3), (48, .iload 6, 2), (50, .iload 4, 2), (52, .if_icmp .eq 25, 3), (55, .iload 6, 2), (57, .iload 5, 2), (59, .if_icmp .eq 18, 3), (62, .aload_n 0, 1), (63, .iload 4, 2), (65, .iload 5, 2), (67, .iload 6, 2), (69, .invokevirtual 52, 3), (72, .ifCond .gt 5, 3), (75, .iconst 0, 1), (76, .ireturn, 1), (77, .iinc 6 1, 3), (80, .goto (-45), 3), (83, .iinc 3 1, 3), (86, .goto (-79), 3), (89, .iconst 1, 1), (90, .ireturn, 1)]
set_option maxRecDepth 100000 in
theorem kX1_isConvex_ok : ∀ (i : Nat) (q : Nat × Instr × Nat), kX1_isConvex[i]? = some q → decode cX1_isConvex q.1 = .ok q.2 := tbl_ok (by decide +kernel)
theorem okX1_isConvex : OKV RX1 yX1_isConvex cX1_isConvex 7 (some .boolean) 1 := ⟨w_217, w_218, w_206, w_219, rfl, by decide +kernel, by decide +kernel, by decide +kernel⟩
def kX1_doubleArea : List (Nat × Instr × Nat) := [(0, .iconst 0, 1), (1, .istore_n 2, 1), (2, .iconst 0, 1), (3, .istore_n 3, 1), (4, .iload_n 3, 1), (5, .aload_n 0, 1), (6, .getfield 18, 3), (9, .iload_n 1, 1), (10, .iaload, 1), (11, .if_icmp .ge 64, 3), (14, .iload_n 1, 1), (15, .bipush 8, 2), (17, .imul, 1), (18, .iload_n 3, 1), (19, .iadd, 1), (20, .istore 4, 2), (22, .iload_n 1, 1), (23, .bipush 8, 2), (25, .imul, 1), (26, .aload_n 0, 1), (27, .iload_n 1, 1), (28, .iload_n 3, 1), (29, .invokevirtual 48, 3), (32, .iadd, 1), (33, .istore 5, 2), (35, .iload_n 2, 1), (36, .aload_n 0, 1), (37, .getfield 9, 3), (40, .iload 4, 2), (42, .iaload, 1), (43, .aload_n 0, 1), (44, .getfield 15, 3), (47, .iload 5, 2), (49, .iaload, 1), (50, .imul, 1), (51, .aload_n 0, 1), (52, .getfield 9, 3), (55, .iload 5, 2), (57, .iaload, 1), (58, .aload_n 0, 1), (59, .getfield 15, 3), (62, .iload 4, 2), (64, .iaload, 1), (65, .imul, 1), (66, .isub, 1), (67, .iadd, 1), (68, .istore_n 2, 1), (69, .iinc 3 1, 3), (72, .goto (-68), 3), (75, .iload_n 2, 1), (76, .ireturn, 1)]
set_option maxRecDepth 100000 in
theorem kX1_doubleArea_ok : ∀ (i : Nat) (q : Nat × Instr × Nat), kX1_doubleArea[i]? = some q → decode cX1_doubleArea q.1 = .ok q.2 := tbl_ok (by decide +kernel)
theorem okX1_doubleArea : OKV RX1 yX1_doubleArea cX1_doubleArea 6 (some .int) 1 := ⟨w_220, w_221, w_206, w_222, rfl, by decide +kernel, by decide +kernel, by decide +kernel⟩
def kX1_closePatch : List (Nat × Instr × Nat) := [(0, .aload_n 0, 1), (1, .getfield 18, 3), (4, .iload_n 1, 1), (5, .iload_n 2, 1), (6, .iastore, 1), (7, .aload_n 0, 1), (8, .getfield 21, 3), (11, .iload_n 1, 1), (12, .iload_n 3, 1), (13, .iastore, 1), (14, .aload_n 0, 1), (15, .iload_n 1, 1), (16, .invokevirtual 28, 3), (19, .ifCond .ne 10, 3), (22, .aload_n 0, 1), (23, .iload_n 1, 1), (24, .invokevirtual 24, 3), (27, .iconst 0, 1), (28, .ireturn, 1), (29, .aload_n 0, 1), (30, .iload_n 1, 1), (31, .invokevirtual 32, 3), (34, .ireturn, 1)]
set_option maxRecDepth 100000 in
theorem kX1_closePatch_ok : ∀ (i : Nat) (q : Nat × Instr × Nat), kX1_closePatch[i]? = some q → decode cX1_closePatch q.1 = .ok q.2 := tbl_ok (by decide +kernel)
theorem okX1_closePatch : OKV RX1 yX1_closePatch cX1_closePatch 4 (some .int) 3 := ⟨w_223, w_224, w_206, w_225, rfl, by decide +kernel, by decide +kernel, by decide +kernel⟩
def kX1_isClosed : List (Nat × Instr × Nat) := [(0, .aload_n 0, 1), (1, .getfield 18, 3), (4, .iload_n 1, 1), (5, .iaload, 1), (6, .ifCond .le 7, 3), (9, .iconst 1, 1), (10, .goto 4, 3), (13, .iconst 0, 1), (14, .ireturn, 1)]
set_option maxRecDepth 100000 in
theorem kX1_isClosed_ok : ∀ (i : Nat) (q : Nat × Instr × Nat), kX1_isClosed[i]? = some q → decode cX1_isClosed q.1 = .ok q.2 := tbl_ok (by decide +kernel)
theorem okX1_isClosed : OKV RX1 yX1_isClosed cX1_isClosed 2 (some .boolean) 1 := ⟨w_226, w_227, w_206, w_228, rfl, by decide +kernel, by decide +kernel, by decide +kernel⟩
def kX1_closedSet : List (Nat × Instr × Nat) := [(0, .iconst 0, 1), (1, .istore_n 1, 1), (2, .iconst 0, 1), (3, .istore_n 2, 1), (4, .iload_n 2, 1), (5, .bipush 24, 2), (7, .if_icmp .ge 23, 3), (10, .aload_n 0, 1), (11, .iload_n 2, 1), (12, .invokevirtual 45, 3), (15, .ifCond .eq 9, 3), (18, .iload_n 1, 1), (19, .iconst 1, 1), (20, .iload_n 2, 1), (21, .ishl, 1), (22, .ior, 1), (23, .istore_n 1, 1), (24, .iinc 2 1, 3), (27, .goto (-23), 3), (30, .iload_n 1, 1), (31, .ireturn, 1)]
set_option maxRecDepth 100000 in
theorem kX1_closedSet_ok : ∀ (i : Nat) (q : Nat × Instr × Nat), kX1_closedSet[i]? = some q → decode cX1_closedSet q.1 = .ok q.2 := tbl_ok (by decide +kernel)
theorem okX1_closedSet : OKV RX1 yX1_closedSet cX1_closedSet 3 (some .int) 0 := ⟨w_229, w_230, w_206, w_231, rfl, by decide +kernel, by decide +kernel, by decide +kernel⟩
def kX1_closedPatches : List (Nat × Instr × Nat) := [(0, .aload_n 0, 1), (1, .invokevirtual 36, 3), (4, .invokestatic 40, 3), (7, .ireturn, 1)]
set_option maxRecDepth 100000 in
theorem kX1_closedPatches_ok : ∀ (i : Nat) (q : Nat × Instr × Nat), kX1_closedPatches[i]? = some q → decode cX1_closedPatches q.1 = .ok q.2 := tbl_ok (by decide +kernel)
theorem okX1_closedPatches : OKV RX1 yX1_closedPatches cX1_closedPatches 1 (some .int) 0 := ⟨w_232, w_233, w_206, w_234, rfl, by decide +kernel, by decide +kernel, by decide +kernel⟩
def kX1_sideOf : List (Nat × Instr × Nat) := [(0, .iload_n 1, 1), (1, .bipush 8, 2), (3, .imul, 1), (4, .iload_n 2, 1), (5, .iadd, 1), (6, .istore 4, 2), (8, .iload_n 1, 1), (9, .bipush 8, 2), (11, .imul, 1), (12, .aload_n 0, 1), (13, .iload_n 1, 1), (14, .iload_n 2, 1), (15, .invokevirtual 48, 3), (18, .iadd, 1), (19, .istore 5, 2), (21, .iconst 0, 1), (22, .istore 6, 2), (24, .iconst 0, 1), (25, .istore 7, 2), (27, .iconst 0, 1), (28, .istore 8, 2), (30, .iload 8, 2), (32, .aload_n 0, 1), (33, .getfield 18, 3), (36, .iload_n 3, 1), (37, .iaload, 1), (38, .if_icmp .ge 60, 3), (41, .aload_n 0, 1), (42, .iload 4, 2), (44, .iload 5, 2), (46, .iload_n 3, 1), (47, .bipush 8, 2), (49, .imul, 1), (50, .iload 8, 2), (52, .iadd, 1), (53, .invokevirtual 52, 3), (56, .istore 9, 2), (58, .iload 6, 2), (60, .ifCond .ne 8, 3), (63, .iload 9, 2), (65, .ifCond .le 7, 3), (68, .iconst 1, 1), (69, .goto 4, 3), (72, .iconst 0, 1), (73, .istore 6, 2), (75, .iload 7, 2), (77, .ifCond .ne 8, 3), (80, .iload 9, 2), (82, .ifCond .ge 7, 3), (85, .iconst 1, 1), (86, .goto 4, 3), (89, .iconst 0, 1), (90, .istore 7, 2), (92, .iinc 8 1, 3), (95, .goto (-65), 3), (98, .iload 6, 2), (100, .iload 7, 2), (102, .if_icmp .ne 5, 3), (105, .iconst 0, 1), (106, .ireturn, 1), (107, .iload 6, 2), (109, .ifCond .eq 7, 3), (112, .iconst 1, 1), (113, .goto 4, 3), (116, .iconst (-1), 1), (117, .ireturn, 1)]
set_option maxRecDepth 100000 in
theorem kX1_sideOf_ok : ∀ (i : Nat) (q : Nat × Instr × Nat), kX1_sideOf[i]? = some q → decode cX1_sideOf q.1 = .ok q.2 := tbl_ok (by decide +kernel)
theorem okX1_sideOf : OKV RX1 yX1_sideOf cX1_sideOf 10 (some .int) 3 := ⟨w_235, w_236, w_206, w_237, rfl, by decide +kernel, by decide +kernel, by decide +kernel⟩
def kX1_hasPartingEdge : List (Nat × Instr × Nat) := [(0, .iconst 0, 1), (1, .istore_n 3, 1), (2, .iload_n 3, 1), (3, .aload_n 0, 1), (4, .getfield 18, 3), (7, .iload_n 1, 1), (8, .iaload, 1), (9, .if_icmp .ge 22, 3), (12, .aload_n 0, 1), (13, .iload_n 1, 1), (14, .iload_n 3, 1), (15, .iload_n 2, 1), (16, .invokevirtual 66, 3), (19, .iconst (-1), 1), (20, .if_icmp .ne 5, 3), (23, .iconst 1, 1), (24, .ireturn, 1), (25, .iinc 3 1, 3), (28, .goto (-26), 3), (31, .iconst 0, 1), (32, .ireturn, 1)]
set_option maxRecDepth 100000 in
theorem kX1_hasPartingEdge_ok : ∀ (i : Nat) (q : Nat × Instr × Nat), kX1_hasPartingEdge[i]? = some q → decode cX1_hasPartingEdge q.1 = .ok q.2 := tbl_ok (by decide +kernel)
theorem okX1_hasPartingEdge : OKV RX1 yX1_hasPartingEdge cX1_hasPartingEdge 4 (some .boolean) 2 := ⟨w_238, w_239, w_206, w_240, rfl, by decide +kernel, by decide +kernel, by decide +kernel⟩
def kX1_overlap : List (Nat × Instr × Nat) := [(0, .aload_n 0, 1), (1, .iload_n 1, 1), (2, .iload_n 2, 1), (3, .invokevirtual 63, 3), (6, .ifCond .ne 16, 3), (9, .aload_n 0, 1), (10, .iload_n 2, 1), (11, .iload_n 1, 1), (12, .invokevirtual 63, 3), (15, .ifCond .ne 7, 3), (18, .iconst 1, 1), (19, .goto 4, 3), (22, .iconst 0, 1), (23, .ireturn, 1)]
set_option maxRecDepth 100000 in
theorem kX1_overlap_ok : ∀ (i : Nat) (q : Nat × Instr × Nat), kX1_overlap[i]? = some q → decode cX1_overlap q.1 = .ok q.2 := tbl_ok (by decide +kernel)
theorem okX1_overlap : OKV RX1 yX1_overlap cX1_overlap 3 (some .boolean) 2 := ⟨w_241, w_242, w_206, w_243, rfl, by decide +kernel, by decide +kernel, by decide +kernel⟩
def kX1_firstOverlap : List (Nat × Instr × Nat) := [(0, .iconst 0, 1), (1, .istore_n 1, 1), (2, .iload_n 1, 1), (3, .bipush 24, 2), (5, .if_icmp .ge 57, 3), (8, .iload_n 1, 1), (9, .iconst 1, 1), (10, .iadd, 1), (11, .istore_n 2, 1), (12, .iload_n 2, 1), (13, .bipush 24, 2), (15, .if_icmp .ge 41, 3), (18, .aload_n 0, 1), (19, .iload_n 1, 1), (20, .invokevirtual 45, 3), (23, .ifCond .eq 27, 3), (26, .aload_n 0, 1), (27, .iload_n 2, 1), (28, .invokevirtual 45, 3), (31, .ifCond .eq 19, 3), (34, .aload_n 0, 1), (35, .iload_n 1, 1), (36, .iload_n 2, 1), (37, .invokevirtual 59, 3), (40, .ifCond .eq 10, 3), (43, .iload_n 1, 1), (44, .bipush 24, 2), (46, .imul, 1), (47, .iload_n 2, 1), (48, .iadd, 1), (49, .ireturn, 1), (50, .iinc 2 1, 3), (53, .goto (-41), 3), (56, .iinc 1 1, 3), (59, .goto (-57), 3), (62, .iconst (-1), 1), (63, .ireturn, 1)]
set_option maxRecDepth 100000 in
theorem kX1_firstOverlap_ok : ∀ (i : Nat) (q : Nat × Instr × Nat), kX1_firstOverlap[i]? = some q → decode cX1_firstOverlap q.1 = .ok q.2 := tbl_ok (by decide +kernel)
theorem okX1_firstOverlap : OKV RX1 yX1_firstOverlap cX1_firstOverlap 3 (some .int) 0 := ⟨w_244, w_245, w_206, w_246, rfl, by decide +kernel, by decide +kernel, by decide +kernel⟩
def kX1_state : List (Nat × Instr × Nat) := [(0, .aload_n 0, 1), (1, .invokevirtual 56, 3), (4, .iconst (-1), 1), (5, .if_icmp .eq 5, 3), (8, .iconst 2, 1), (9, .ireturn, 1), (10, .iconst 0, 1), (11, .istore_n 1, 1), (12, .iconst 0, 1), (13, .istore_n 2, 1), (14, .iload_n 2, 1), (15, .bipush 24, 2), (17, .if_icmp .ge 17, 3), (20, .iload_n 1, 1), (21, .aload_n 0, 1), (22, .iload_n 2, 1), (23, .invokevirtual 32, 3), (26, .iadd, 1), (27, .istore_n 1, 1), (28, .iinc 2 1, 3), (31, .goto (-17), 3), (34, .iload_n 1, 1), (35, .sipush 18432, 3), (38, .if_icmp .ne 7, 3), (41, .iconst 0, 1), (42, .goto 4, 3), (45, .iconst 1, 1), (46, .ireturn, 1)]
set_option maxRecDepth 100000 in
theorem kX1_state_ok : ∀ (i : Nat) (q : Nat × Instr × Nat), kX1_state[i]? = some q → decode cX1_state q.1 = .ok q.2 := tbl_ok (by decide +kernel)
theorem okX1_state : OKV RX1 yX1_state cX1_state 3 (some .int) 0 := ⟨w_247, w_248, w_206, w_249, rfl, by decide +kernel, by decide +kernel, by decide +kernel⟩
def kX1_isOfCloth : List (Nat × Instr × Nat) := [(0, .aload_n 0, 1), (1, .iload_n 1, 1), (2, .invokevirtual 45, 3), (5, .ifCond .eq 17, 3), (8, .aload_n 0, 1), (9, .getfield 21, 3), (12, .iload_n 1, 1), (13, .iaload, 1), (14, .iload_n 2, 1), (15, .if_icmp .ne 7, 3), (18, .iconst 1, 1), (19, .goto 4, 3), (22, .iconst 0, 1), (23, .ireturn, 1)]
set_option maxRecDepth 100000 in
theorem kX1_isOfCloth_ok : ∀ (i : Nat) (q : Nat × Instr × Nat), kX1_isOfCloth[i]? = some q → decode cX1_isOfCloth q.1 = .ok q.2 := tbl_ok (by decide +kernel)
theorem okX1_isOfCloth : OKV RX1 yX1_isOfCloth cX1_isOfCloth 3 (some .boolean) 2 := ⟨w_250, w_251, w_206, w_252, rfl, by decide +kernel, by decide +kernel, by decide +kernel⟩
def kX1_swapCloths : List (Nat × Instr × Nat) := [(0, .iconst 0, 1), (1, .istore_n 3, 1), (2, .iconst 0, 1), (3, .istore 4, 2), (5, .iload 4, 2), (7, .bipush 24, 2), (9, .if_icmp .ge 54, 3), (12, .aload_n 0, 1), (13, .iload 4, 2), (15, .iload_n 1, 1), (16, .invokevirtual 76, 3), (19, .ifCond .eq 17, 3), (22, .aload_n 0, 1), (23, .getfield 21, 3), (26, .iload 4, 2), (28, .iload_n 2, 1), (29, .iastore, 1), (30, .iinc 3 1, 3), (33, .goto 24, 3), (36, .aload_n 0, 1), (37, .iload 4, 2), (39, .iload_n 2, 1), (40, .invokevirtual 76, 3), (43, .ifCond .eq 14, 3), (46, .aload_n 0, 1), (47, .getfield 21, 3), (50, .iload 4, 2), (52, .iload_n 1, 1), (53, .iastore, 1), (54, .iinc 3 1, 3), (57, .iinc 4 1, 3), (60, .goto (-55), 3), (63, .iload_n 3, 1), (64, .ireturn, 1)]
set_option maxRecDepth 100000 in
theorem kX1_swapCloths_ok : ∀ (i : Nat) (q : Nat × Instr × Nat), kX1_swapCloths[i]? = some q → decode cX1_swapCloths q.1 = .ok q.2 := tbl_ok (by decide +kernel)
theorem okX1_swapCloths : OKV RX1 yX1_swapCloths cX1_swapCloths 5 (some .int) 2 := ⟨w_253, w_254, w_206, w_255, rfl, by decide +kernel, by decide +kernel, by decide +kernel⟩
def kX1_clothArea : List (Nat × Instr × Nat) := [(0, .iconst 0, 1), (1, .istore_n 2, 1), (2, .iconst 0, 1), (3, .istore_n 3, 1), (4, .iload_n 3, 1), (5, .bipush 24, 2), (7, .if_icmp .ge 26, 3), (10, .aload_n 0, 1), (11, .iload_n 3, 1), (12, .iload_n 1, 1), (13, .invokevirtual 76, 3), (16, .ifCond .eq 11, 3), (19, .iload_n 2, 1), (20, .aload_n 0, 1), (21, .iload_n 3, 1), (22, .invokevirtual 32, 3), (25, .iadd, 1), (26, .istore_n 2, 1), (27, .iinc 3 1, 3), (30, .goto (-26), 3), (33, .iload_n 2, 1), (34, .ireturn, 1)]
set_option maxRecDepth 100000 in
theorem kX1_clothArea_ok : ∀ (i : Nat) (q : Nat × Instr × Nat), kX1_clothArea[i]? = some q → decode cX1_clothArea q.1 = .ok q.2 := tbl_ok (by decide +kernel)
theorem okX1_clothArea : OKV RX1 yX1_clothArea cX1_clothArea 4 (some .int) 1 := ⟨w_256, w_257, w_206, w_258, rfl, by decide +kernel, by decide +kernel, by decide +kernel⟩
def kX1_extent : List (Nat × Instr × Nat) := [(0, .bipush 96, 2), (2, .istore_n 3, 1), (3, .iconst 0, 1), (4, .istore 4, 2), (6, .iconst 0, 1), (7, .istore 5, 2), (9, .iload 5, 2), (11, .aload_n 0, 1), (12, .getfield 18, 3), (15, .iload_n 1, 1), (16, .iaload, 1), (17, .if_icmp .ge 36, 3), (20, .aload_n 2, 1), (21, .iload_n 1, 1), (22, .bipush 8, 2), (24, .imul, 1), (25, .iload 5, 2), (27, .iadd, 1), (28, .iaload, 1), (29, .istore 6, 2), (31, .iload_n 3, 1), (32, .iload 6, 2), (34, .invokestatic 83, 3), (37, .istore_n 3, 1), (38, .iload 4, 2), (40, .iload 6, 2), (42, .invokestatic 88, 3), (45, .istore 4, 2), (47, .iinc 5 1, 3), (50, .goto (-41), 3), (53, .iload 4, 2), (55, .iload_n 3, 1), (56, .isub, 1), (57, .ireturn, 1)]
set_option maxRecDepth 100000 in
theorem kX1_extent_ok : ∀ (i : Nat) (q : Nat × Instr × Nat), kX1_extent[i]? = some q → decode cX1_extent q.1 = .ok q.2 := tbl_ok (by decide +kernel)
theorem okX1_extent : OKV RX1 yX1_extent cX1_extent 7 (some .int) 2 := ⟨w_259, w_260, w_206, w_261, rfl, by decide +kernel, by decide +kernel, by decide +kernel⟩
def kX1_patchWidth : List (Nat × Instr × Nat) := [(0, .aload_n 0, 1), (1, .iload_n 1, 1), (2, .aload_n 0, 1), (3, .getfield 9, 3), (6, .invokevirtual 79, 3), (9, .ireturn, 1)]
set_option maxRecDepth 100000 in
theorem kX1_patchWidth_ok : ∀ (i : Nat) (q : Nat × Instr × Nat), kX1_patchWidth[i]? = some q → decode cX1_patchWidth q.1 = .ok q.2 := tbl_ok (by decide +kernel)
theorem okX1_patchWidth : OKV RX1 yX1_patchWidth cX1_patchWidth 2 (some .int) 1 := ⟨w_262, w_263, w_206, w_264, rfl, by decide +kernel, by decide +kernel, by decide +kernel⟩
def kX1_patchHeight : List (Nat × Instr × Nat) := [(0, .aload_n 0, 1), (1, .iload_n 1, 1), (2, .aload_n 0, 1), (3, .getfield 15, 3), (6, .invokevirtual 79, 3), (9, .ireturn, 1)]
set_option maxRecDepth 100000 in
theorem kX1_patchHeight_ok : ∀ (i : Nat) (q : Nat × Instr × Nat), kX1_patchHeight[i]? = some q → decode cX1_patchHeight q.1 = .ok q.2 := tbl_ok (by decide +kernel)
theorem okX1_patchHeight : OKV RX1 yX1_patchHeight cX1_patchHeight 2 (some .int) 1 := ⟨w_265, w_266, w_206, w_267, rfl, by decide +kernel, by decide +kernel, by decide +kernel⟩
def kX1_halfSquareEdge : List (Nat × Instr × Nat) := [(0, .aload_n 0, 1), (1, .getfield 18, 3), (4, .iload_n 1, 1), (5, .iaload, 1), (6, .iconst 3, 1), (7, .if_icmp .eq 5, 3), (10, .iconst 0, 1), (11, .ireturn, 1), (12, .iconst 0, 1), (13, .istore_n 2, 1), (14, .iconst 0, 1), (15, .istore_n 3, 1), (16, .iconst 0, 1), (17, .istore 4, 2), (19, .iload 4, 2), (21, .iconst 3, 1), (22, .if_icmp .ge 104, 3), (25, .iload_n 1, 1), (26, .bipush 8, 2), (28, .imul, 1), (29, .iload 4, 2), (31, .iadd, 1), (32, .istore 5, 2), (34, .iload_n 1, 1), (35, .bipush 8, 2), (37, .imul, 1), (38, .aload_n 0, 1), (39, .iload_n 1, 1), (40, .iload 4, 2), (42, .invokevirtual 48, 3), (45, .iadd, 1), (46, .istore 6, 2), (48, .aload_n 0, 1), (49, .getfield 15, 3), (52, .iload 5, 2), (54, .iaload, 1), (55, .aload_n 0, 1), (56, .getfield 15, 3), (59, .iload 6, 2), (61, .iaload, 1), (62, .if_icmp .ne 22, 3), (65, .aload_n 0, 1), (66, .getfield 9, 3), (69, .iload 6, 2), (71, .iaload, 1), (72, .aload_n 0, 1), (73, .getfield 9, 3), (76, .iload 5, 2), (78, .iaload, 1), (79, .isub, 1), (80, .invokestatic 91, 3), (83, .istore_n 2, 1), (84, .aload_n 0, 1), (85, .getfield 9, 3), (88, .iload 5, 2), (90, .iaload, 1), (91, .aload_n 0, 1), (92, .getfield 9, 3), (95, .iload 6, 2), (97, .iaload, 1), (98, .if_icmp .ne 22, 3), (101, .aload_n 0, 1), (102, .getfield 15, 3), (105, .iload 6, 2), (107, .iaload, 1), (108, .aload_n 0, 1), (109, .getfield 15, 3), (112, .iload 5, 2), (114, .iaload, 1), (115, .isub, 1), (116, .invokestatic 91, 3), (119, .istore_n 3, 1), (120, .iinc 4 1, 3), (123, .goto (-104), 3), (126, .iload_n 2, 1), (127, .iload_n 3, 1), (128, .if_icmp .ne 7, 3), (131, .iload_n 2, 1), (132, .goto 4, 3), (135, .iconst 0, 1), (136, .ireturn, 1)]
set_option maxRecDepth 100000 in
theorem kX1_halfSquareEdge_ok : ∀ (i : Nat) (q : Nat × Instr × Nat), kX1_halfSquareEdge[i]? = some q → decode cX1_halfSquareEdge q.1 = .ok q.2 := tbl_ok (by decide +kernel)
theorem okX1_halfSquareEdge : OKV RX1 yX1_halfSquareEdge cX1_halfSquareEdge 7 (some .int) 1 := ⟨w_268, w_269, w_206, w_270, rfl, by decide +kernel, by decide +kernel, by decide +kernel⟩
def kX2_putWaiting : List (Nat × Instr × Nat) := [(0, .iload_n 2, 1), (1, .invokestatic 53, 3), (4, .iconst 2, 1), (5, .if_icmp .lt 12, 3), (8, .iload_n 1, 1), (9, .aload_n 0, 1), (10, .getfield 9, 3), (13, .arraylength, 1), (14, .if_icmp .lt 5, 3), (17, .iload_n 1, 1), (18, .ireturn, 1), (19, .aload_n 0, 1), (20, .getfield 9, 3), (23, .iload_n 1, 1), (24, .iload_n 2, 1), (25, .iastore, 1), (26, .iload_n 1, 1), (27, .iconst 1, 1), (28, .iadd, 1), (29, .ireturn, 1)]
set_option maxRecDepth 100000 in
theorem kX2_putWaiting_ok : ∀ (i : Nat) (q : Nat × Instr × Nat), kX2_putWaiting[i]? = some q → decode cX2_putWaiting q.1 = .ok q.2 := tbl_ok (by decide +kernel)
theorem okX2_putWaiting : OKV RX2 yX2_putWaiting cX2_putWaiting 3 (some .int) 2 := ⟨w_271, w_272, w_273, w_274, rfl, by decide +kernel, by decide +kernel, by decide +kernel⟩
def kX2_leftPart : List (Nat × Instr × Nat) := [(0, .iconst 0, 1), (1, .istore 4, 2), (3, .iconst 0, 1), (4, .istore 5, 2), (6, .iload 5, 2), (8, .bipush 24, 2), (10, .if_icmp .ge 59, 3), (13, .iload_n 2, 1), (14, .iload 5, 2), (16, .ishr, 1), (17, .iconst 1, 1), (18, .iand, 1), (19, .ifCond .ne 6, 3), (22, .goto 41, 3), (25, .aload_n 1, 1), (26, .iload_n 3, 1), (27, .bipush 8, 2), (29, .idiv, 1), (30, .iload_n 3, 1), (31, .bipush 8, 2), (33, .irem, 1), (34, .iload 5, 2), (36, .invokevirtual 62, 3), (39, .istore 6, 2), (41, .iload 6, 2), (43, .ifCond .ne 5, 3), (46, .iconst 0, 1), (47, .ireturn, 1), (48, .iload 6, 2), (50, .iconst 1, 1), (51, .if_icmp .ne 12, 3), (54, .iload 4, 2), (56, .iconst 1, 1), (57, .iload 5, 2), (59, .ishl, 1), (60, .ior, 1), (61, .istore 4, 2), (63, .iinc 5 1, 3), (66, .goto (-60), 3), (69, .iload 4, 2), (71, .ireturn, 1)]
set_option maxRecDepth 100000 in
theorem kX2_leftPart_ok : ∀ (i : Nat) (q : Nat × Instr × Nat), kX2_leftPart[i]? = some q → decode cX2_leftPart q.1 = .ok q.2 := tbl_ok (by decide +kernel)
theorem okX2_leftPart : OKV RX2 yX2_leftPart cX2_leftPart 7 (some .int) 3 := ⟨w_275, w_276, w_273, w_277, rfl, by decide +kernel, by decide +kernel, by decide +kernel⟩
def kX2_firstSeam : List (Nat × Instr × Nat) := [(0, .iconst 0, 1), (1, .istore_n 3, 1), (2, .iload_n 3, 1), (3, .bipush 24, 2), (5, .if_icmp .ge 73, 3), (8, .iload_n 2, 1), (9, .iload_n 3, 1), (10, .ishr, 1), (11, .iconst 1, 1), (12, .iand, 1), (13, .ifCond .ne 6, 3), (16, .goto 56, 3), (19, .iconst 0, 1), (20, .istore 4, 2), (22, .iload 4, 2), (24, .aload_n 1, 1), (25, .getfield 59, 3), (28, .iload_n 3, 1), (29, .iaload, 1), (30, .if_icmp .ge 42, 3), (33, .iload_n 3, 1), (34, .bipush 8, 2), (36, .imul, 1), (37, .iload 4, 2), (39, .iadd, 1), (40, .istore 5, 2), (42, .aload_n 0, 1), (43, .aload_n 1, 1), (44, .iload_n 2, 1), (45, .iload 5, 2), (47, .invokevirtual 35, 3), (50, .istore 6, 2), (52, .iload 6, 2), (54, .ifCond .eq 12, 3), (57, .iload 6, 2), (59, .iload_n 2, 1), (60, .if_icmp .eq 6, 3), (63, .iload 5, 2), (65, .ireturn, 1), (66, .iinc 4 1, 3), (69, .goto (-47), 3), (72, .iinc 3 1, 3), (75, .goto (-73), 3), (78, .iconst (-1), 1), (79, .ireturn, 1)]
set_option maxRecDepth 100000 in
theorem kX2_firstSeam_ok : ∀ (i : Nat) (q : Nat × Instr × Nat), kX2_firstSeam[i]? = some q → decode cX2_firstSeam q.1 = .ok q.2 := tbl_ok (by decide +kernel)
theorem okX2_firstSeam : OKV RX2 yX2_firstSeam cX2_firstSeam 7 (some .int) 2 := ⟨w_278, w_279, w_273, w_280, rfl, by decide +kernel, by decide +kernel, by decide +kernel⟩
def kX2_noteSeam : List (Nat × Instr × Nat) := [(0, .iload_n 1, 1), (1, .iconst 4, 1), (2, .imul, 1), (3, .istore 5, 2), (5, .aload_n 0, 1), (6, .getfield 15, 3), (9, .iload 5, 2), (11, .iload_n 2, 1), (12, .bipush 8, 2), (14, .idiv, 1), (15, .iastore, 1), (16, .aload_n 0, 1), (17, .getfield 15, 3), (20, .iload 5, 2), (22, .iconst 1, 1), (23, .iadd, 1), (24, .iload_n 2, 1), (25, .bipush 8, 2), (27, .irem, 1), (28, .iastore, 1), (29, .aload_n 0, 1), (30, .getfield 15, 3), (33, .iload 5, 2), (35, .iconst 2, 1), (36, .iadd, 1), (37, .iload_n 3, 1), (38, .invokestatic 53, 3), (41, .iastore, 1), (42, .aload_n 0, 1), (43, .getfield 15, 3), (46, .iload 5, 2), (48, .iconst 3, 1), (49, .iadd, 1), (50, .iload 4, 2), (52, .invokestatic 53, 3), (55, .iastore, 1), (56, .return_, 1)]
set_option maxRecDepth 100000 in
theorem kX2_noteSeam_ok : ∀ (i : Nat) (q : Nat × Instr × Nat), kX2_noteSeam[i]? = some q → decode cX2_noteSeam q.1 = .ok q.2 := tbl_ok (by decide +kernel)
theorem okX2_noteSeam : OKV RX2 yX2_noteSeam cX2_noteSeam 6 none 4 := ⟨w_281, w_282, w_273, w_283, rfl, by decide +kernel, by decide +kernel, by decide +kernel⟩
def kX2_findOrder : List (Nat × Instr × Nat) := [(0, .iconst 0, 1), (1, .istore_n 2, 1), (2, .aload_n 0, 1), (3, .iconst 0, 1), (4, .aload_n 1, 1), (5, .invokevirtual 21, 3), (8, .invokevirtual 27, 3), (11, .istore_n 3, 1), (12, .iload_n 3, 1), (13, .ifCond .le 90, 3), (16, .iload_n 2, 1), (17, .bipush 23, 2), (19, .if_icmp .ge 84, 3), (22, .iinc 3 (-1), 3), (25, .aload_n 0, 1), (26, .getfield 9, 3), (29, .iload_n 3, 1), (30, .iaload, 1), (31, .istore 4, 2), (33, .aload_n 0, 1), (34, .aload_n 1, 1), (35, .iload 4, 2), (37, .invokevirtual 31, 3), (40, .istore 5, 2), (42, .iload 5, 2), (44, .iconst (-1), 1), (45, .if_icmp .ne 5, 3), (48, .iconst (-1), 1), (49, .ireturn, 1), (50, .aload_n 0, 1), (51, .aload_n 1, 1), (52, .iload 4, 2), (54, .iload 5, 2), (56, .invokevirtual 35, 3), (59, .istore 6, 2), (61, .iload 4, 2), (63, .iload 6, 2), (65, .iconst (-1), 1), (66, .ixor, 1), (67, .iand, 1), (68, .istore 7, 2), (70, .aload_n 0, 1), (71, .iload_n 2, 1), (72, .iload 5, 2), (74, .iload 6, 2), (76, .iload 7, 2), (78, .invokevirtual 39, 3), (81, .iinc 2 1, 3), (84, .aload_n 0, 1), (85, .iload_n 3, 1), (86, .iload 7, 2), (88, .invokevirtual 27, 3), (91, .istore_n 3, 1), (92, .aload_n 0, 1), (93, .iload_n 3, 1), (94, .iload 6, 2), (96, .invokevirtual 27, 3), (99, .istore_n 3, 1), (100, .goto (-88), 3), (103, .aload_n 0, 1), (104, .getfield 15, 3), (107, .iconst 0, 1), (108, .aload_n 0, 1), (109, .getfield 18, 3), (112, .iconst 0, 1), (113, .iload_n 2, 1), (114, .iconst 4, 1), (115, .imul, 1), (116, .invokestatic 43, 3), (119, .aload_n 0, 1), (120, .iload_n 2, 1), (121, .putfield 49, 3), (124, .iload_n 2, 1), (125, .ireturn, 1)]
set_option maxRecDepth 100000 in
theorem kX2_findOrder_ok : ∀ (i : Nat) (q : Nat × Instr × Nat), kX2_findOrder[i]? = some q → decode cX2_findOrder q.1 = .ok q.2 := tbl_ok (by decide +kernel)
theorem okX2_findOrder : OKV RX2 yX2_findOrder cX2_findOrder 8 (some .int) 1 := ⟨w_284, w_285, w_273, w_286, rfl, by decide +kernel, by decide +kernel, by decide +kernel⟩
def kX3_blockAt : List (Nat × Instr × Nat) := [(0, .aload_n 0, 1), (1, .getfield 17, 3), (4, .iload_n 1, 1), (5, .iaload, 1), (6, .iconst (-1), 1), (7, .if_icmp .ne 7, 3), (10, .aconst_null, 1), (11, .goto 14, 3), (14, .aload_n 0, 1), (15, .getfield 11, 3), (18, .aload_n 0, 1), (19, .getfield 17, 3), (22, .iload_n 1, 1), (23, .iaload, 1), (24, .aaload, 1), (25, .areturn, 1)]
set_option maxRecDepth 100000 in
theorem kX3_blockAt_ok : ∀ (i : Nat) (q : Nat × Instr × Nat), kX3_blockAt[i]? = some q → decode cX3_blockAt q.1 = .ok q.2 := tbl_ok (by decide +kernel)
theorem okX3_blockAt : OKV RX3 yX3_blockAt cX3_blockAt 2 (some (.object "QuiltDesk$Drawing")) 1 := ⟨w_287, w_288, w_289, w_290, rfl, by decide +kernel, by decide +kernel, by decide +kernel⟩
def kX3_placedBlocks : List (Nat × Instr × Nat) := [(0, .iconst 0, 1), (1, .istore_n 1, 1), (2, .iconst 0, 1), (3, .istore_n 2, 1), (4, .iload_n 2, 1), (5, .bipush 36, 2), (7, .if_icmp .ge 22, 3), (10, .aload_n 0, 1), (11, .getfield 17, 3), (14, .iload_n 2, 1), (15, .iaload, 1), (16, .iconst (-1), 1), (17, .if_icmp .eq 6, 3), (20, .iinc 1 1, 3), (23, .iinc 2 1, 3), (26, .goto (-22), 3), (29, .iload_n 1, 1), (30, .ireturn, 1)]
set_option maxRecDepth 100000 in
theorem kX3_placedBlocks_ok : ∀ (i : Nat) (q : Nat × Instr × Nat), kX3_placedBlocks[i]? = some q → decode cX3_placedBlocks q.1 = .ok q.2 := tbl_ok (by decide +kernel)
theorem okX3_placedBlocks : OKV RX3 yX3_placedBlocks cX3_placedBlocks 3 (some .int) 0 := ⟨w_291, w_292, w_289, w_293, rfl, by decide +kernel, by decide +kernel, by decide +kernel⟩
def kX3_usedRows : List (Nat × Instr × Nat) := [(0, .iconst 0, 1), (1, .istore_n 1, 1), (2, .iconst 0, 1), (3, .istore_n 2, 1), (4, .iload_n 2, 1), (5, .bipush 36, 2), (7, .if_icmp .ge 26, 3), (10, .aload_n 0, 1), (11, .getfield 17, 3), (14, .iload_n 2, 1), (15, .iaload, 1), (16, .iconst (-1), 1), (17, .if_icmp .eq 10, 3), (20, .iload_n 2, 1), (21, .bipush 6, 2), (23, .idiv, 1), (24, .iconst 1, 1), (25, .iadd, 1), (26, .istore_n 1, 1), (27, .iinc 2 1, 3), (30, .goto (-26), 3), (33, .iload_n 1, 1), (34, .ireturn, 1)]
set_option maxRecDepth 100000 in
theorem kX3_usedRows_ok : ∀ (i : Nat) (q : Nat × Instr × Nat), kX3_usedRows[i]? = some q → decode cX3_usedRows q.1 = .ok q.2 := tbl_ok (by decide +kernel)
theorem okX3_usedRows : OKV RX3 yX3_usedRows cX3_usedRows 3 (some .int) 0 := ⟨w_294, w_295, w_289, w_296, rfl, by decide +kernel, by decide +kernel, by decide +kernel⟩
def kX3_usedColumns : List (Nat × Instr × Nat) := [(0, .iconst 0, 1), (1, .istore_n 1, 1), (2, .iconst 0, 1), (3, .istore_n 2, 1), (4, .iload_n 2, 1), (5, .bipush 36, 2), (7, .if_icmp .ge 30, 3), (10, .aload_n 0, 1), (11, .getfield 17, 3), (14, .iload_n 2, 1), (15, .iaload, 1), (16, .iconst (-1), 1), (17, .if_icmp .eq 14, 3), (20, .iload_n 1, 1), (21, .iload_n 2, 1), (22, .bipush 6, 2), (24, .irem, 1), (25, .iconst 1, 1), (26, .iadd, 1), (27, .invokestatic 43, 3), (30, .istore_n 1, 1), (31, .iinc 2 1, 3), (34, .goto (-30), 3), (37, .iload_n 1, 1), (38, .ireturn, 1)]
set_option maxRecDepth 100000 in
theorem kX3_usedColumns_ok : ∀ (i : Nat) (q : Nat × Instr × Nat), kX3_usedColumns[i]? = some q → decode cX3_usedColumns q.1 = .ok q.2 := tbl_ok (by decide +kernel)
theorem okX3_usedColumns : OKV RX3 yX3_usedColumns cX3_usedColumns 3 (some .int) 0 := ⟨w_297, w_298, w_289, w_299, rfl, by decide +kernel, by decide +kernel, by decide +kernel⟩
def kX3_reach : List (Nat × Instr × Nat) := [(0, .iload_n 1, 1), (1, .bipush 96, 2), (3, .imul, 1), (4, .iload_n 1, 1), (5, .iconst 1, 1), (6, .isub, 1), (7, .aload_n 0, 1), (8, .getfield 24, 3), (11, .iconst 0, 1), (12, .iaload, 1), (13, .imul, 1), (14, .iadd, 1), (15, .ireturn, 1)]
set_option maxRecDepth 100000 in
theorem kX3_reach_ok : ∀ (i : Nat) (q : Nat × Instr × Nat), kX3_reach[i]? = some q → decode cX3_reach q.1 = .ok q.2 := tbl_ok (by decide +kernel)
theorem okX3_reach : OKV RX3 yX3_reach cX3_reach 2 (some .int) 1 := ⟨w_300, w_301, w_289, w_302, rfl, by decide +kernel, by decide +kernel, by decide +kernel⟩
def kX3_withBorder : List (Nat × Instr × Nat) := [(0, .iload_n 1, 1), (1, .ifCond .ne 7, 3), (4, .iconst 0, 1), (5, .goto 17, 3), (8, .aload_n 0, 1), (9, .iload_n 1, 1), (10, .invokevirtual 49, 3), (13, .iconst 2, 1), (14, .aload_n 0, 1), (15, .getfield 24, 3), (18, .iconst 1, 1), (19, .iaload, 1), (20, .imul, 1), (21, .iadd, 1), (22, .ireturn, 1)]
set_option maxRecDepth 100000 in
theorem kX3_withBorder_ok : ∀ (i : Nat) (q : Nat × Instr × Nat), kX3_withBorder[i]? = some q → decode cX3_withBorder q.1 = .ok q.2 := tbl_ok (by decide +kernel)
theorem okX3_withBorder : OKV RX3 yX3_withBorder cX3_withBorder 2 (some .int) 1 := ⟨w_303, w_304, w_289, w_305, rfl, by decide +kernel, by decide +kernel, by decide +kernel⟩
def kX3_swapCloths : List (Nat × Instr × Nat) := [(0, .iconst 0, 1), (1, .istore_n 3, 1), (2, .iload_n 3, 1), (3, .iconst 2, 1), (4, .if_icmp .ge 46, 3), (7, .aload_n 0, 1), (8, .getfield 27, 3), (11, .iload_n 3, 1), (12, .iaload, 1), (13, .iload_n 1, 1), (14, .if_icmp .ne 13, 3), (17, .aload_n 0, 1), (18, .getfield 27, 3), (21, .iload_n 3, 1), (22, .iload_n 2, 1), (23, .iastore, 1), (24, .goto 20, 3), (27, .aload_n 0, 1), (28, .getfield 27, 3), (31, .iload_n 3, 1), (32, .iaload, 1), (33, .iload_n 2, 1), (34, .if_icmp .ne 10, 3), (37, .aload_n 0, 1), (38, .getfield 27, 3), (41, .iload_n 3, 1), (42, .iload_n 1, 1), (43, .iastore, 1), (44, .iinc 3 1, 3), (47, .goto (-45), 3), (50, .iconst 0, 1), (51, .istore_n 3, 1), (52, .iconst 0, 1), (53, .istore 4, 2), (55, .iload 4, 2), (57, .aload_n 0, 1), (58, .getfield 39, 3), (61, .if_icmp .ge 33, 3), (64, .aload_n 0, 1), (65, .getfield 11, 3), (68, .iload 4, 2), (70, .aaload, 1), (71, .astore 5, 2), (73, .aload 5, 2), (75, .ifnull 13, 3), (78, .iload_n 3, 1), (79, .aload 5, 2), (81, .iload_n 1, 1), (82, .iload_n 2, 1), (83, .invokevirtual 53, 3), (86, .iadd, 1), (87, .istore_n 3, 1), (88, .iinc 4 1, 3), (91, .goto (-36), 3), (94, .iload_n 3, 1), (95, .ireturn, 1)]
set_option maxRecDepth 100000 in
theorem kX3_swapCloths_ok : ∀ (i : Nat) (q : Nat × Instr × Nat), kX3_swapCloths[i]? = some q → decode cX3_swapCloths q.1 = .ok q.2 := tbl_ok (by decide +kernel)
theorem okX3_swapCloths : OKV RX3 yX3_swapCloths cX3_swapCloths 6 (some .int) 2 := ⟨w_306, w_307, w_289, w_308, rfl, by decide +kernel, by decide +kernel, by decide +kernel⟩
def kX3_clothArea : List (Nat × Instr × Nat) := [(0, .iconst 0, 1), (1, .istore_n 2, 1), (2, .iconst 0, 1), (3, .istore_n 3, 1), (4, .iload_n 3, 1), (5, .bipush 36, 2), (7, .if_icmp .ge 30, 3), (10, .aload_n 0, 1), (11, .iload_n 3, 1), (12, .invokevirtual 56, 3), (15, .astore 4, 2), (17, .aload 4, 2), (19, .ifnull 12, 3), (22, .iload_n 2, 1), (23, .aload 4, 2), (25, .iload_n 1, 1), (26, .invokevirtual 60, 3), (29, .iadd, 1), (30, .istore_n 2, 1), (31, .iinc 3 1, 3), (34, .goto (-30), 3), (37, .iload_n 2, 1), (38, .ireturn, 1)]
set_option maxRecDepth 100000 in
theorem kX3_clothArea_ok : ∀ (i : Nat) (q : Nat × Instr × Nat), kX3_clothArea[i]? = some q → decode cX3_clothArea q.1 = .ok q.2 := tbl_ok (by decide +kernel)
theorem okX3_clothArea : OKV RX3 yX3_clothArea cX3_clothArea 5 (some .int) 1 := ⟨w_309, w_310, w_289, w_311, rfl, by decide +kernel, by decide +kernel, by decide +kernel⟩
def kX3_mirrored : List (Nat × Instr × Nat) := [(0, .iload_n 0, 1), (1, .iconst 4, 1), (2, .if_icmp .lt 10, 3), (5, .bipush 96, 2), (7, .iload_n 1, 1), (8, .isub, 1), (9, .goto 4, 3), (12, .iload_n 1, 1), (13, .ireturn, 1)]
set_option maxRecDepth 100000 in
theorem kX3_mirrored_ok : ∀ (i : Nat) (q : Nat × Instr × Nat), kX3_mirrored[i]? = some q → decode cX3_mirrored q.1 = .ok q.2 := tbl_ok (by decide +kernel)
theorem okX3_mirrored : OKS yX3_mirrored cX3_mirrored 2 (some .int) 2 := ⟨w_312, w_289, w_313, by decide +kernel, by decide +kernel, by decide +kernel⟩
def kX3_turnedX : List (Nat × Instr × Nat) := [(0, .iload_n 0, 1), (1, .iconst 4, 1), (2, .irem, 1), (3, .tableswitch 45 0 2 #[25, 31, 36], 25), (28, .iload_n 0, 1), (29, .iload_n 1, 1), (30, .invokestatic 83, 3), (33, .ireturn, 1), (34, .bipush 96, 2), (36, .iload_n 2, 1), (37, .isub, 1), (38, .ireturn, 1), (39, .bipush 96, 2), (41, .iload_n 0, 1), (42, .iload_n 1, 1), (43, .invokestatic 83, 3), (46, .isub, 1), (47, .ireturn, 1), (48, .iload_n 2, 1), (49, .ireturn, 1)]
set_option maxRecDepth 100000 in
theorem kX3_turnedX_ok : ∀ (i : Nat) (q : Nat × Instr × Nat), kX3_turnedX[i]? = some q → decode cX3_turnedX q.1 = .ok q.2 := tbl_ok (by decide +kernel)
theorem okX3_turnedX : OKS yX3_turnedX cX3_turnedX 3 (some .int) 3 := ⟨w_314, w_289, w_315, by decide +kernel, by decide +kernel, by decide +kernel⟩
def kX3_turnedY : List (Nat × Instr × Nat) := [(0, .iload_n 0, 1), (1, .iconst 4, 1), (2, .irem, 1), (3, .tableswitch 38 0 2 #[25, 27, 33], 25), (28, .iload_n 2, 1), (29, .ireturn, 1), (30, .iload_n 0, 1), (31, .iload_n 1, 1), (32, .invokestatic 83, 3), (35, .ireturn, 1), (36, .bipush 96, 2), (38, .iload_n 2, 1), (39, .isub, 1), (40, .ireturn, 1), (41, .bipush 96, 2), (43, .iload_n 0, 1), (44, .iload_n 1, 1), (45, .invokestatic 83, 3), (48, .isub, 1), (49, .ireturn, 1)]
set_option maxRecDepth 100000 in
theorem kX3_turnedY_ok : ∀ (i : Nat) (q : Nat × Instr × Nat), kX3_turnedY[i]? = some q → decode cX3_turnedY q.1 = .ok q.2 := tbl_ok (by decide +kernel)
theorem okX3_turnedY : OKS yX3_turnedY cX3_turnedY 3 (some .int) 3 := ⟨w_316, w_289, w_317, by decide +kernel, by decide +kernel, by decide +kernel⟩
def kX3_markCorners : List (Nat × Instr × Nat) := [(0, .iconst 0, 1), (1, .istore 5, 2), (3, .iload 5, 2), (5, .bipush 24, 2), (7, .if_icmp .ge 90, 3), (10, .iconst 0, 1), (11, .istore 6, 2), (13, .iload 6, 2), (15, .aload_n 1, 1), (16, .getfield 67, 3), (19, .iload 5, 2), (21, .iaload, 1), (22, .if_icmp .ge 69, 3), (25, .aload_n 1, 1), (26, .getfield 70, 3), (29, .iload 5, 2), (31, .bipush 8, 2), (33, .imul, 1), (34, .iload 6, 2), (36, .iadd, 1), (37, .iaload, 1), (38, .istore 7, 2), (40, .aload_n 1, 1), (41, .getfield 73, 3), (44, .iload 5, 2), (46, .bipush 8, 2), (48, .imul, 1), (49, .iload 6, 2), (51, .iadd, 1), (52, .iaload, 1), (53, .istore 8, 2), (55, .iload_n 2, 1), (56, .iload 7, 2), (58, .iload 8, 2), (60, .invokestatic 76, 3), (63, .iload_n 3, 1), (64, .if_icmp .ne 21, 3), (67, .aload_n 0, 1), (68, .getfield 30, 3), (71, .iload_n 2, 1), (72, .iload 7, 2), (74, .iload 8, 2), (76, .invokestatic 80, 3), (79, .dup2, 1), (80, .iaload, 1), (81, .iload 4, 2), (83, .ior, 1), (84, .iastore, 1), (85, .iinc 6 1, 3), (88, .goto (-75), 3), (91, .iinc 5 1, 3), (94, .goto (-91), 3), (97, .return_, 1)]
set_option maxRecDepth 100000 in
theorem kX3_markCorners_ok : ∀ (i : Nat) (q : Nat × Instr × Nat), kX3_markCorners[i]? = some q → decode cX3_markCorners q.1 = .ok q.2 := tbl_ok (by decide +kernel)
theorem okX3_markCorners : OKV RX3 yX3_markCorners cX3_markCorners 9 none 4 := ⟨w_318, w_319, w_289, w_320, rfl, by decide +kernel, by decide +kernel, by decide +kernel⟩
def kX3_unmatchedCorners : List (Nat × Instr × Nat) := [(0, .aload_n 0, 1), (1, .iload_n 1, 1), (2, .invokevirtual 56, 3), (5, .astore_n 2, 1), (6, .aload_n 0, 1), (7, .iload_n 1, 1), (8, .iconst 1, 1), (9, .iadd, 1), (10, .invokevirtual 56, 3), (13, .astore_n 3, 1), (14, .aload_n 2, 1), (15, .ifnull 7, 3), (18, .aload_n 3, 1), (19, .ifnonnull 5, 3), (22, .iconst (-1), 1), (23, .ireturn, 1), (24, .aload_n 0, 1), (25, .getfield 30, 3), (28, .iconst 0, 1), (29, .invokestatic 33, 3), (32, .aload_n 0, 1), (33, .aload_n 2, 1), (34, .aload_n 0, 1), (35, .getfield 21, 3), (38, .iload_n 1, 1), (39, .iaload, 1), (40, .bipush 96, 2), (42, .iconst 1, 1), (43, .invokevirtual 63, 3), (46, .aload_n 0, 1), (47, .aload_n 3, 1), (48, .aload_n 0, 1), (49, .getfield 21, 3), (52, .iload_n 1, 1), (53, .iconst 1, 1), (54, .iadd, 1), (55, .iaload, 1), (56, .iconst 0, 1), (57, .iconst 2, 1), (58, .invokevirtual 63, 3), (61, .iconst 0, 1), (62, .istore 4, 2), (64, .iconst 0, 1), (65, .istore 5, 2), (67, .iload 5, 2), (69, .bipush 96, 2), (71, .if_icmp .gt 34, 3), (74, .aload_n 0, 1), (75, .getfield 30, 3), (78, .iload 5, 2), (80, .iaload, 1), (81, .iconst 1, 1), (82, .if_icmp .eq 14, 3), (85, .aload_n 0, 1), (86, .getfield 30, 3), (89, .iload 5, 2), (91, .iaload, 1), (92, .iconst 2, 1), (93, .if_icmp .ne 6, 3), (96, .iinc 4 1, 3), (99, .iinc 5 1, 3), (102, .goto (-35), 3), (105, .iload 4, 2), (107, .ireturn, 1)]
set_option maxRecDepth 100000 in
theorem kX3_unmatchedCorners_ok : ∀ (i : Nat) (q : Nat × Instr × Nat), kX3_unmatchedCorners[i]? = some q → decode cX3_unmatchedCorners q.1 = .ok q.2 := tbl_ok (by decide +kernel)
theorem okX3_unmatchedCorners : OKV RX3 yX3_unmatchedCorners cX3_unmatchedCorners 6 (some .int) 1 := ⟨w_321, w_322, w_289, w_323, rfl, by decide +kernel, by decide +kernel, by decide +kernel⟩
def kX0_forget : List (Nat × Instr × Nat) := [(0, .aload_n 0, 1), (1, .iconst (-1), 1), (2, .putfield 9, 3), (5, .return_, 1)]
set_option maxRecDepth 100000 in
theorem kX0_forget_ok : ∀ (i : Nat) (q : Nat × Instr × Nat), kX0_forget[i]? = some q → decode cX0_forget q.1 = .ok q.2 := tbl_ok (by decide +kernel)
theorem okX0_forget : OKV RX0 yX0_forget cX0_forget 1 none 0 := ⟨w_324, w_325, w_326, w_327, rfl, by decide +kernel, by decide +kernel, by decide +kernel⟩
def kX0_fact : List (Nat × Instr × Nat) := [(0, .iload_n 2, 1), (1, .tableswitch 69 0 3 #[31, 38, 45, 57], 31), (32, .aload_n 0, 1), (33, .getfield 34, 3), (36, .iload_n 1, 1), (37, .iaload, 1), (38, .ireturn, 1), (39, .aload_n 0, 1), (40, .getfield 37, 3), (43, .iload_n 1, 1), (44, .iaload, 1), (45, .ireturn, 1), (46, .aload_n 0, 1), (47, .getfield 15, 3), (50, .aload_n 0, 1), (51, .getfield 28, 3), (54, .iload_n 1, 1), (55, .iaload, 1), (56, .iaload, 1), (57, .ireturn, 1), (58, .aload_n 0, 1), (59, .getfield 19, 3), (62, .aload_n 0, 1), (63, .getfield 28, 3), (66, .iload_n 1, 1), (67, .iaload, 1), (68, .iaload, 1), (69, .ireturn, 1), (70, .aload_n 0, 1), (71, .getfield 22, 3), (74, .aload_n 0, 1), (75, .getfield 28, 3), (78, .iload_n 1, 1), (79, .iaload, 1), (80, .iaload, 1), (81, .ireturn, 1)]
set_option maxRecDepth 100000 in
theorem kX0_fact_ok : ∀ (i : Nat) (q : Nat × Instr × Nat), kX0_fact[i]? = some q → decode cX0_fact q.1 = .ok q.2 := tbl_ok (by decide +kernel)
theorem okX0_fact : OKV RX0 yX0_fact cX0_fact 3 (some .int) 2 := ⟨w_328, w_329, w_326, w_330, rfl, by decide +kernel, by decide +kernel, by decide +kernel⟩
def kX0_gatherCut : List (Nat × Instr × Nat) := [(0, .aload_n 0, 1), (1, .getfield 53, 3), (4, .sipush 903, 3), (7, .if_icmp .ge 43, 3), (10, .aload_n 0, 1), (11, .getfield 15, 3), (14, .aload_n 0, 1), (15, .getfield 53, 3), (18, .iload_n 1, 1), (19, .iastore, 1), (20, .aload_n 0, 1), (21, .getfield 19, 3), (24, .aload_n 0, 1), (25, .getfield 53, 3), (28, .iload_n 2, 1), (29, .iastore, 1), (30, .aload_n 0, 1), (31, .getfield 22, 3), (34, .aload_n 0, 1), (35, .getfield 53, 3), (38, .iload_n 3, 1), (39, .iastore, 1), (40, .aload_n 0, 1), (41, .dup, 1), (42, .getfield 53, 3), (45, .iconst 1, 1), (46, .iadd, 1), (47, .putfield 53, 3), (50, .return_, 1)]
set_option maxRecDepth 100000 in
theorem kX0_gatherCut_ok : ∀ (i : Nat) (q : Nat × Instr × Nat), kX0_gatherCut[i]? = some q → decode cX0_gatherCut q.1 = .ok q.2 := tbl_ok (by decide +kernel)
theorem okX0_gatherCut : OKV RX0 yX0_gatherCut cX0_gatherCut 4 none 3 := ⟨w_331, w_332, w_326, w_333, rfl, by decide +kernel, by decide +kernel, by decide +kernel⟩
def kX0_gatherHalf : List (Nat × Instr × Nat) := [(0, .aload_n 0, 1), (1, .getfield 25, 3), (4, .iload_n 1, 1), (5, .iaload, 1), (6, .ifCond .ne 16, 3), (9, .aload_n 0, 1), (10, .iload_n 1, 1), (11, .bipush 21, 2), (13, .iadd, 1), (14, .iload_n 1, 1), (15, .bipush 21, 2), (17, .iadd, 1), (18, .iconst 1, 1), (19, .invokevirtual 113, 3), (22, .aload_n 0, 1), (23, .getfield 25, 3), (26, .iload_n 1, 1), (27, .iconst 1, 1), (28, .aload_n 0, 1), (29, .getfield 25, 3), (32, .iload_n 1, 1), (33, .iaload, 1), (34, .isub, 1), (35, .iastore, 1), (36, .return_, 1)]
set_option maxRecDepth 100000 in
theorem kX0_gatherHalf_ok : ∀ (i : Nat) (q : Nat × Instr × Nat), kX0_gatherHalf[i]? = some q → decode cX0_gatherHalf q.1 = .ok q.2 := tbl_ok (by decide +kernel)
theorem okX0_gatherHalf : OKV RX0 yX0_gatherHalf cX0_gatherHalf 2 none 1 := ⟨w_334, w_335, w_326, w_336, rfl, by decide +kernel, by decide +kernel, by decide +kernel⟩
def kX0_gatherPieces : List (Nat × Instr × Nat) := [(0, .iload_n 2, 1), (1, .iload_n 3, 1), (2, .invokestatic 126, 3), (5, .bipush 12, 2), (7, .iadd, 1), (8, .istore 5, 2), (10, .iload_n 2, 1), (11, .iload_n 3, 1), (12, .invokestatic 132, 3), (15, .bipush 12, 2), (17, .iadd, 1), (18, .istore 6, 2), (20, .iconst 0, 1), (21, .istore 7, 2), (23, .iload 7, 2), (25, .iload_n 1, 1), (26, .if_icmp .ge 19, 3), (29, .aload_n 0, 1), (30, .iload 5, 2), (32, .iload 6, 2), (34, .iload 4, 2), (36, .invokevirtual 113, 3), (39, .iinc 7 1, 3), (42, .goto (-19), 3), (45, .return_, 1)]
set_option maxRecDepth 100000 in
theorem kX0_gatherPieces_ok : ∀ (i : Nat) (q : Nat × Instr × Nat), kX0_gatherPieces[i]? = some q → decode cX0_gatherPieces q.1 = .ok q.2 := tbl_ok (by decide +kernel)
theorem okX0_gatherPieces : OKV RX0 yX0_gatherPieces cX0_gatherPieces 8 none 4 := ⟨w_337, w_338, w_326, w_339, rfl, by decide +kernel, by decide +kernel, by decide +kernel⟩
def kX0_gatherPatches : List (Nat × Instr × Nat) := [(0, .iconst 0, 1), (1, .istore_n 3, 1), (2, .iload_n 3, 1), (3, .bipush 24, 2), (5, .if_icmp .ge 58, 3), (8, .aload_n 1, 1), (9, .iload_n 3, 1), (10, .iload_n 2, 1), (11, .invokevirtual 89, 3), (14, .ifCond .ne 6, 3), (17, .goto 40, 3), (20, .aload_n 1, 1), (21, .iload_n 3, 1), (22, .invokevirtual 95, 3), (25, .istore 4, 2), (27, .iload 4, 2), (29, .ifCond .le 12, 3), (32, .aload_n 0, 1), (33, .iload 4, 2), (35, .invokevirtual 99, 3), (38, .goto 19, 3), (41, .aload_n 0, 1), (42, .iconst 1, 1), (43, .aload_n 1, 1), (44, .iload_n 3, 1), (45, .invokevirtual 103, 3), (48, .aload_n 1, 1), (49, .iload_n 3, 1), (50, .invokevirtual 106, 3), (53, .iconst 0, 1), (54, .invokevirtual 109, 3), (57, .iinc 3 1, 3), (60, .goto (-58), 3), (63, .return_, 1)]
set_option maxRecDepth 100000 in
theorem kX0_gatherPatches_ok : ∀ (i : Nat) (q : Nat × Instr × Nat), kX0_gatherPatches[i]? = some q → decode cX0_gatherPatches q.1 = .ok q.2 := tbl_ok (by decide +kernel)
theorem okX0_gatherPatches : OKV RX0 yX0_gatherPatches cX0_gatherPatches 5 none 2 := ⟨w_340, w_341, w_326, w_342, rfl, by decide +kernel, by decide +kernel, by decide +kernel⟩
def kX0_gatherSashes : List (Nat × Instr × Nat) := [(0, .aload_n 1, 1), (1, .getfield 117, 3), (4, .iconst 0, 1), (5, .iaload, 1), (6, .istore 4, 2), (8, .iload 4, 2), (10, .ifCond .le 32, 3), (13, .aload_n 0, 1), (14, .iload_n 2, 1), (15, .iload_n 3, 1), (16, .iconst 1, 1), (17, .isub, 1), (18, .imul, 1), (19, .bipush 96, 2), (21, .iload 4, 2), (23, .iconst 2, 1), (24, .invokevirtual 109, 3), (27, .aload_n 0, 1), (28, .iload_n 2, 1), (29, .iconst 1, 1), (30, .isub, 1), (31, .aload_n 1, 1), (32, .iload_n 3, 1), (33, .invokevirtual 120, 3), (36, .iload 4, 2), (38, .iconst 2, 1), (39, .invokevirtual 109, 3), (42, .return_, 1)]
set_option maxRecDepth 100000 in
theorem kX0_gatherSashes_ok : ∀ (i : Nat) (q : Nat × Instr × Nat), kX0_gatherSashes[i]? = some q → decode cX0_gatherSashes q.1 = .ok q.2 := tbl_ok (by decide +kernel)
theorem okX0_gatherSashes : OKV RX0 yX0_gatherSashes cX0_gatherSashes 5 none 3 := ⟨w_343, w_344, w_326, w_345, rfl, by decide +kernel, by decide +kernel, by decide +kernel⟩
def kX0_gatherBorder : List (Nat × Instr × Nat) := [(0, .aload_n 1, 1), (1, .getfield 117, 3), (4, .iconst 1, 1), (5, .iaload, 1), (6, .istore 4, 2), (8, .iload 4, 2), (10, .ifCond .le 29, 3), (13, .aload_n 0, 1), (14, .iconst 2, 1), (15, .aload_n 1, 1), (16, .iload_n 3, 1), (17, .invokevirtual 120, 3), (20, .iload 4, 2), (22, .iconst 3, 1), (23, .invokevirtual 109, 3), (26, .aload_n 0, 1), (27, .iconst 2, 1), (28, .aload_n 1, 1), (29, .iload_n 2, 1), (30, .invokevirtual 123, 3), (33, .iload 4, 2), (35, .iconst 3, 1), (36, .invokevirtual 109, 3), (39, .return_, 1)]
set_option maxRecDepth 100000 in
theorem kX0_gatherBorder_ok : ∀ (i : Nat) (q : Nat × Instr × Nat), kX0_gatherBorder[i]? = some q → decode cX0_gatherBorder q.1 = .ok q.2 := tbl_ok (by decide +kernel)
theorem okX0_gatherBorder : OKV RX0 yX0_gatherBorder cX0_gatherBorder 5 none 3 := ⟨w_346, w_347, w_326, w_348, rfl, by decide +kernel, by decide +kernel, by decide +kernel⟩
def kX0_gather : List (Nat × Instr × Nat) := [(0, .aload_n 0, 1), (1, .iconst 0, 1), (2, .putfield 53, 3), (5, .aload_n 0, 1), (6, .getfield 25, 3), (9, .iconst 0, 1), (10, .invokestatic 56, 3), (13, .iconst 0, 1), (14, .istore_n 3, 1), (15, .iload_n 3, 1), (16, .bipush 36, 2), (18, .if_icmp .ge 28, 3), (21, .aload_n 1, 1), (22, .iload_n 3, 1), (23, .invokevirtual 62, 3), (26, .astore 4, 2), (28, .aload 4, 2), (30, .ifnull 10, 3), (33, .aload_n 0, 1), (34, .aload 4, 2), (36, .iload_n 2, 1), (37, .invokevirtual 68, 3), (40, .iinc 3 1, 3), (43, .goto (-28), 3), (46, .aload_n 1, 1), (47, .invokevirtual 72, 3), (50, .istore_n 3, 1), (51, .aload_n 1, 1), (52, .invokevirtual 76, 3), (55, .istore 4, 2), (57, .iload_n 3, 1), (58, .ifCond .le 21, 3), (61, .aload_n 1, 1), (62, .getfield 79, 3), (65, .iconst 0, 1), (66, .iaload, 1), (67, .iload_n 2, 1), (68, .if_icmp .ne 11, 3), (71, .aload_n 0, 1), (72, .aload_n 1, 1), (73, .iload_n 3, 1), (74, .iload 4, 2), (76, .invokevirtual 82, 3), (79, .iload_n 3, 1), (80, .ifCond .le 21, 3), (83, .aload_n 1, 1), (84, .getfield 79, 3), (87, .iconst 1, 1), (88, .iaload, 1), (89, .iload_n 2, 1), (90, .if_icmp .ne 11, 3), (93, .aload_n 0, 1), (94, .aload_n 1, 1), (95, .iload_n 3, 1), (96, .iload 4, 2), (98, .invokevirtual 86, 3), (101, .return_, 1)]
set_option maxRecDepth 100000 in
theorem kX0_gather_ok : ∀ (i : Nat) (q : Nat × Instr × Nat), kX0_gather[i]? = some q → decode cX0_gather q.1 = .ok q.2 := tbl_ok (by decide +kernel)
theorem okX0_gather : OKV RX0 yX0_gather cX0_gather 5 none 2 := ⟨w_349, w_350, w_326, w_351, rfl, by decide +kernel, by decide +kernel, by decide +kernel⟩
def kX0_goesBefore : List (Nat × Instr × Nat) := [(0, .aload_n 0, 1), (1, .getfield 19, 3), (4, .iload_n 1, 1), (5, .iaload, 1), (6, .aload_n 0, 1), (7, .getfield 19, 3), (10, .iload_n 2, 1), (11, .iaload, 1), (12, .if_icmp .eq 24, 3), (15, .aload_n 0, 1), (16, .getfield 19, 3), (19, .iload_n 1, 1), (20, .iaload, 1), (21, .aload_n 0, 1), (22, .getfield 19, 3), (25, .iload_n 2, 1), (26, .iaload, 1), (27, .if_icmp .le 7, 3), (30, .iconst 1, 1), (31, .goto 4, 3), (34, .iconst 0, 1), (35, .ireturn, 1), (36, .aload_n 0, 1), (37, .getfield 15, 3), (40, .iload_n 1, 1), (41, .iaload, 1), (42, .aload_n 0, 1), (43, .getfield 15, 3), (46, .iload_n 2, 1), (47, .iaload, 1), (48, .if_icmp .le 7, 3), (51, .iconst 1, 1), (52, .goto 4, 3), (55, .iconst 0, 1), (56, .ireturn, 1)]
set_option maxRecDepth 100000 in
theorem kX0_goesBefore_ok : ∀ (i : Nat) (q : Nat × Instr × Nat), kX0_goesBefore[i]? = some q → decode cX0_goesBefore q.1 = .ok q.2 := tbl_ok (by decide +kernel)
theorem okX0_goesBefore : OKV RX0 yX0_goesBefore cX0_goesBefore 3 (some .boolean) 2 := ⟨w_352, w_353, w_326, w_354, rfl, by decide +kernel, by decide +kernel, by decide +kernel⟩
def kX0_merge : List (Nat × Instr × Nat) := [(0, .iload_n 1, 1), (1, .istore 4, 2), (3, .iload_n 2, 1), (4, .istore 5, 2), (6, .iload_n 1, 1), (7, .istore 6, 2), (9, .iload 6, 2), (11, .iload_n 3, 1), (12, .if_icmp .ge 103, 3), (15, .iload 4, 2), (17, .iload_n 2, 1), (18, .if_icmp .ge 7, 3), (21, .iconst 1, 1), (22, .goto 4, 3), (25, .iconst 0, 1), (26, .istore 7, 2), (28, .iload 5, 2), (30, .iload_n 3, 1), (31, .if_icmp .ge 7, 3), (34, .iconst 1, 1), (35, .goto 4, 3), (38, .iconst 0, 1), (39, .istore 8, 2), (41, .iload 8, 2), (43, .ifCond .eq 49, 3), (46, .iload 7, 2), (48, .ifCond .eq 24, 3), (51, .aload_n 0, 1), (52, .aload_n 0, 1), (53, .getfield 28, 3), (56, .iload 5, 2), (58, .iaload, 1), (59, .aload_n 0, 1), (60, .getfield 28, 3), (63, .iload 4, 2), (65, .iaload, 1), (66, .invokevirtual 144, 3), (69, .ifCond .eq 23, 3), (72, .aload_n 0, 1), (73, .getfield 31, 3), (76, .iload 6, 2), (78, .aload_n 0, 1), (79, .getfield 28, 3), (82, .iload 5, 2), (84, .iaload, 1), (85, .iastore, 1), (86, .iinc 5 1, 3), (89, .goto 20, 3), (92, .aload_n 0, 1), (93, .getfield 31, 3), (96, .iload 6, 2), (98, .aload_n 0, 1), (99, .getfield 28, 3), (102, .iload 4, 2), (104, .iaload, 1), (105, .iastore, 1), (106, .iinc 4 1, 3), (109, .iinc 6 1, 3), (112, .goto (-103), 3), (115, .return_, 1)]
set_option maxRecDepth 100000 in
theorem kX0_merge_ok : ∀ (i : Nat) (q : Nat × Instr × Nat), kX0_merge[i]? = some q → decode cX0_merge q.1 = .ok q.2 := tbl_ok (by decide +kernel)
theorem okX0_merge : OKV RX0 yX0_merge cX0_merge 9 none 3 := ⟨w_355, w_356, w_326, w_357, rfl, by decide +kernel, by decide +kernel, by decide +kernel⟩
def kX0_sort : List (Nat × Instr × Nat) := [(0, .iconst 0, 1), (1, .istore_n 1, 1), (2, .iload_n 1, 1), (3, .aload_n 0, 1), (4, .getfield 53, 3), (7, .if_icmp .ge 16, 3), (10, .aload_n 0, 1), (11, .getfield 28, 3), (14, .iload_n 1, 1), (15, .iload_n 1, 1), (16, .iastore, 1), (17, .iinc 1 1, 3), (20, .goto (-18), 3), (23, .iconst 1, 1), (24, .istore_n 1, 1), (25, .iload_n 1, 1), (26, .aload_n 0, 1), (27, .getfield 53, 3), (30, .if_icmp .ge 73, 3), (33, .iconst 0, 1), (34, .istore_n 2, 1), (35, .iload_n 2, 1), (36, .aload_n 0, 1), (37, .getfield 53, 3), (40, .if_icmp .ge 39, 3), (43, .aload_n 0, 1), (44, .iload_n 2, 1), (45, .iload_n 2, 1), (46, .iload_n 1, 1), (47, .iadd, 1), (48, .aload_n 0, 1), (49, .getfield 53, 3), (52, .invokestatic 132, 3), (55, .iload_n 2, 1), (56, .iconst 2, 1), (57, .iload_n 1, 1), (58, .imul, 1), (59, .iadd, 1), (60, .aload_n 0, 1), (61, .getfield 53, 3), (64, .invokestatic 132, 3), (67, .invokevirtual 135, 3), (70, .iload_n 2, 1), (71, .iconst 2, 1), (72, .iload_n 1, 1), (73, .imul, 1), (74, .iadd, 1), (75, .istore_n 2, 1), (76, .goto (-41), 3), (79, .aload_n 0, 1), (80, .getfield 31, 3), (83, .iconst 0, 1), (84, .aload_n 0, 1), (85, .getfield 28, 3), (88, .iconst 0, 1), (89, .aload_n 0, 1), (90, .getfield 53, 3), (93, .invokestatic 138, 3), (96, .iload_n 1, 1), (97, .iconst 2, 1), (98, .imul, 1), (99, .istore_n 1, 1), (100, .goto (-75), 3), (103, .return_, 1)]
set_option maxRecDepth 100000 in
theorem kX0_sort_ok : ∀ (i : Nat) (q : Nat × Instr × Nat), kX0_sort[i]? = some q → decode cX0_sort q.1 = .ok q.2 := tbl_ok (by decide +kernel)
theorem okX0_sort : OKV RX0 yX0_sort cX0_sort 3 none 0 := ⟨w_358, w_359, w_326, w_360, rfl, by decide +kernel, by decide +kernel, by decide +kernel⟩
def kX0_stripFor : List (Nat × Instr × Nat) := [(0, .iconst 0, 1), (1, .istore_n 2, 1), (2, .iload_n 2, 1), (3, .aload_n 0, 1), (4, .getfield 147, 3), (7, .if_icmp .ge 25, 3), (10, .sipush 1008, 3), (13, .aload_n 0, 1), (14, .getfield 40, 3), (17, .iload_n 2, 1), (18, .iaload, 1), (19, .isub, 1), (20, .iload_n 1, 1), (21, .if_icmp .lt 5, 3), (24, .iload_n 2, 1), (25, .ireturn, 1), (26, .iinc 2 1, 3), (29, .goto (-27), 3), (32, .aload_n 0, 1), (33, .getfield 147, 3), (36, .ireturn, 1)]
set_option maxRecDepth 100000 in
theorem kX0_stripFor_ok : ∀ (i : Nat) (q : Nat × Instr × Nat), kX0_stripFor[i]? = some q → decode cX0_stripFor q.1 = .ok q.2 := tbl_ok (by decide +kernel)
theorem okX0_stripFor : OKV RX0 yX0_stripFor cX0_stripFor 3 (some .int) 1 := ⟨w_361, w_362, w_326, w_363, rfl, by decide +kernel, by decide +kernel, by decide +kernel⟩
def kX0_layInOrder : List (Nat × Instr × Nat) := [(0, .aload_n 0, 1), (1, .iconst 0, 1), (2, .putfield 147, 3), (5, .aload_n 0, 1), (6, .iconst 0, 1), (7, .putfield 150, 3), (10, .iconst 0, 1), (11, .istore_n 1, 1), (12, .iload_n 1, 1), (13, .aload_n 0, 1), (14, .getfield 53, 3), (17, .if_icmp .ge 101, 3), (20, .aload_n 0, 1), (21, .getfield 28, 3), (24, .iload_n 1, 1), (25, .iaload, 1), (26, .istore_n 2, 1), (27, .aload_n 0, 1), (28, .aload_n 0, 1), (29, .getfield 15, 3), (32, .iload_n 2, 1), (33, .iaload, 1), (34, .invokevirtual 153, 3), (37, .istore_n 3, 1), (38, .iload_n 3, 1), (39, .aload_n 0, 1), (40, .getfield 147, 3), (43, .if_icmp .ne 35, 3), (46, .aload_n 0, 1), (47, .getfield 40, 3), (50, .iload_n 3, 1), (51, .iconst 0, 1), (52, .iastore, 1), (53, .aload_n 0, 1), (54, .dup, 1), (55, .getfield 147, 3), (58, .iconst 1, 1), (59, .iadd, 1), (60, .putfield 147, 3), (63, .aload_n 0, 1), (64, .dup, 1), (65, .getfield 150, 3), (68, .aload_n 0, 1), (69, .getfield 19, 3), (72, .iload_n 2, 1), (73, .iaload, 1), (74, .iadd, 1), (75, .putfield 150, 3), (78, .aload_n 0, 1), (79, .getfield 34, 3), (82, .iload_n 1, 1), (83, .iload_n 3, 1), (84, .iastore, 1), (85, .aload_n 0, 1), (86, .getfield 37, 3), (89, .iload_n 1, 1), (90, .aload_n 0, 1), (91, .getfield 40, 3), (94, .iload_n 3, 1), (95, .iaload, 1), (96, .iastore, 1), (97, .aload_n 0, 1), (98, .getfield 40, 3), (101, .iload_n 3, 1), (102, .dup2, 1), (103, .iaload, 1), (104, .aload_n 0, 1), (105, .getfield 15, 3), (108, .iload_n 2, 1), (109, .iaload, 1), (110, .iadd, 1), (111, .iastore, 1), (112, .iinc 1 1, 3), (115, .goto (-103), 3), (118, .return_, 1)]
set_option maxRecDepth 100000 in
theorem kX0_layInOrder_ok : ∀ (i : Nat) (q : Nat × Instr × Nat), kX0_layInOrder[i]? = some q → decode cX0_layInOrder q.1 = .ok q.2 := tbl_ok (by decide +kernel)
theorem okX0_layInOrder : OKV RX0 yX0_layInOrder cX0_layInOrder 4 none 0 := ⟨w_364, w_365, w_326, w_366, rfl, by decide +kernel, by decide +kernel, by decide +kernel⟩
def kX0_layAll : List (Nat × Instr × Nat) := [(0, .aload_n 0, 1), (1, .getfield 9, 3), (4, .iload_n 2, 1), (5, .if_icmp .ne 4, 3), (8, .return_, 1), (9, .aload_n 0, 1), (10, .aload_n 1, 1), (11, .iload_n 2, 1), (12, .invokevirtual 43, 3), (15, .aload_n 0, 1), (16, .invokevirtual 47, 3), (19, .aload_n 0, 1), (20, .invokevirtual 50, 3), (23, .aload_n 0, 1), (24, .iload_n 2, 1), (25, .putfield 9, 3), (28, .return_, 1)]
set_option maxRecDepth 100000 in
theorem kX0_layAll_ok : ∀ (i : Nat) (q : Nat × Instr × Nat), kX0_layAll[i]? = some q → decode cX0_layAll q.1 = .ok q.2 := tbl_ok (by decide +kernel)
theorem okX0_layAll : OKV RX0 yX0_layAll cX0_layAll 3 none 2 := ⟨w_367, w_368, w_326, w_369, rfl, by decide +kernel, by decide +kernel, by decide +kernel⟩
def kX5_thrown : List (Nat × Instr × Nat) := [(0, .aload_n 0, 1), (1, .getfield 71, 3), (4, .ireturn, 1)]
set_option maxRecDepth 100000 in
theorem kX5_thrown_ok : ∀ (i : Nat) (q : Nat × Instr × Nat), kX5_thrown[i]? = some q → decode cX5_thrown q.1 = .ok q.2 := tbl_ok (by decide +kernel)
theorem okX5_thrown : OKV RX5 yX5_thrown cX5_thrown 1 (some .int) 0 := ⟨w_370, w_371, w_372, w_373, rfl, by decide +kernel, by decide +kernel, by decide +kernel⟩
def kX5_goes : List (Nat × Instr × Nat) := [(0, .aload_n 0, 1), (1, .iload_n 1, 1), (2, .ifCond .ne 7, 3), (5, .iconst 1, 1), (6, .goto 12, 3), (9, .iload_n 2, 1), (10, .ifCond .ne 7, 3), (13, .iconst 2, 1), (14, .goto 4, 3), (17, .iconst 0, 1), (18, .putfield 71, 3), (21, .aload_n 0, 1), (22, .getfield 71, 3), (25, .ifCond .ne 7, 3), (28, .iconst 1, 1), (29, .goto 4, 3), (32, .iconst 0, 1), (33, .ireturn, 1)]
set_option maxRecDepth 100000 in
theorem kX5_goes_ok : ∀ (i : Nat) (q : Nat × Instr × Nat), kX5_goes[i]? = some q → decode cX5_goes q.1 = .ok q.2 := tbl_ok (by decide +kernel)
theorem okX5_goes : OKV RX5 yX5_goes cX5_goes 3 (some .boolean) 2 := ⟨w_374, w_375, w_372, w_376, rfl, by decide +kernel, by decide +kernel, by decide +kernel⟩
def kX5_within : List (Nat × Instr × Nat) := [(0, .iload_n 0, 1), (1, .iload_n 1, 1), (2, .if_icmp .lt 12, 3), (5, .iload_n 0, 1), (6, .iload_n 2, 1), (7, .if_icmp .gt 7, 3), (10, .iconst 1, 1), (11, .goto 4, 3), (14, .iconst 0, 1), (15, .ireturn, 1)]
set_option maxRecDepth 100000 in
theorem kX5_within_ok : ∀ (i : Nat) (q : Nat × Instr × Nat), kX5_within[i]? = some q → decode cX5_within q.1 = .ok q.2 := tbl_ok (by decide +kernel)
theorem okX5_within : OKS yX5_within cX5_within 3 (some .boolean) 3 := ⟨w_377, w_372, w_378, by decide +kernel, by decide +kernel, by decide +kernel⟩
def kX5_isPatch : List (Nat × Instr × Nat) := [(0, .iload_n 0, 1), (1, .ifCond .lt 13, 3), (4, .iload_n 0, 1), (5, .bipush 24, 2), (7, .if_icmp .ge 7, 3), (10, .iconst 1, 1), (11, .goto 4, 3), (14, .iconst 0, 1), (15, .ireturn, 1)]
set_option maxRecDepth 100000 in
theorem kX5_isPatch_ok : ∀ (i : Nat) (q : Nat × Instr × Nat), kX5_isPatch[i]? = some q → decode cX5_isPatch q.1 = .ok q.2 := tbl_ok (by decide +kernel)
theorem okX5_isPatch : OKS yX5_isPatch cX5_isPatch 1 (some .boolean) 1 := ⟨w_379, w_372, w_380, by decide +kernel, by decide +kernel, by decide +kernel⟩
def kX5_isCloth : List (Nat × Instr × Nat) := [(0, .iload_n 0, 1), (1, .ifCond .lt 13, 3), (4, .iload_n 0, 1), (5, .bipush 12, 2), (7, .if_icmp .ge 7, 3), (10, .iconst 1, 1), (11, .goto 4, 3), (14, .iconst 0, 1), (15, .ireturn, 1)]
set_option maxRecDepth 100000 in
theorem kX5_isCloth_ok : ∀ (i : Nat) (q : Nat × Instr × Nat), kX5_isCloth[i]? = some q → decode cX5_isCloth q.1 = .ok q.2 := tbl_ok (by decide +kernel)
theorem okX5_isCloth : OKS yX5_isCloth cX5_isCloth 1 (some .boolean) 1 := ⟨w_381, w_372, w_382, by decide +kernel, by decide +kernel, by decide +kernel⟩
def kX5_next : List (Nat × Instr × Nat) := [(0, .bipush 8, 2), (2, .iload_n 1, 1), (3, .imul, 1), (4, .iload_n 2, 1), (5, .iconst 1, 1), (6, .iadd, 1), (7, .aload_n 0, 1), (8, .getfield 7, 3), (11, .iload_n 1, 1), (12, .iaload, 1), (13, .if_icmp .ne 7, 3), (16, .iconst 0, 1), (17, .goto 6, 3), (20, .iload_n 2, 1), (21, .iconst 1, 1), (22, .iadd, 1), (23, .iadd, 1), (24, .ireturn, 1)]
set_option maxRecDepth 100000 in
theorem kX5_next_ok : ∀ (i : Nat) (q : Nat × Instr × Nat), kX5_next[i]? = some q → decode cX5_next q.1 = .ok q.2 := tbl_ok (by decide +kernel)
theorem okX5_next : OKV RX5 yX5_next cX5_next 3 (some .int) 2 := ⟨w_383, w_384, w_372, w_385, rfl, by decide +kernel, by decide +kernel, by decide +kernel⟩
def kX5_side : List (Nat × Instr × Nat) := [(0, .bipush 8, 2), (2, .iload_n 1, 1), (3, .imul, 1), (4, .iload_n 2, 1), (5, .iadd, 1), (6, .istore 5, 2), (8, .aload_n 0, 1), (9, .iload_n 1, 1), (10, .iload_n 2, 1), (11, .invokevirtual 75, 3), (14, .istore 6, 2), (16, .aload_n 0, 1), (17, .getfield 16, 3), (20, .iload 6, 2), (22, .iaload, 1), (23, .aload_n 0, 1), (24, .getfield 16, 3), (27, .iload 5, 2), (29, .iaload, 1), (30, .isub, 1), (31, .iload 4, 2), (33, .aload_n 0, 1), (34, .getfield 19, 3), (37, .iload 5, 2), (39, .iaload, 1), (40, .isub, 1), (41, .imul, 1), (42, .aload_n 0, 1), (43, .getfield 19, 3), (46, .iload 6, 2), (48, .iaload, 1), (49, .aload_n 0, 1), (50, .getfield 19, 3), (53, .iload 5, 2), (55, .iaload, 1), (56, .isub, 1), (57, .iload_n 3, 1), (58, .aload_n 0, 1), (59, .getfield 16, 3), (62, .iload 5, 2), (64, .iaload, 1), (65, .isub, 1), (66, .imul, 1), (67, .isub, 1), (68, .ireturn, 1)]
set_option maxRecDepth 100000 in
theorem kX5_side_ok : ∀ (i : Nat) (q : Nat × Instr × Nat), kX5_side[i]? = some q → decode cX5_side q.1 = .ok q.2 := tbl_ok (by decide +kernel)
theorem okX5_side : OKV RX5 yX5_side cX5_side 7 (some .int) 4 := ⟨w_386, w_387, w_372, w_388, rfl, by decide +kernel, by decide +kernel, by decide +kernel⟩
def kX5_areaOf : List (Nat × Instr × Nat) := [(0, .iconst 0, 1), (1, .istore_n 2, 1), (2, .iconst 0, 1), (3, .istore_n 3, 1), (4, .iload_n 3, 1), (5, .aload_n 0, 1), (6, .getfield 7, 3), (9, .iload_n 1, 1), (10, .iaload, 1), (11, .if_icmp .ge 59, 3), (14, .bipush 8, 2), (16, .iload_n 1, 1), (17, .imul, 1), (18, .iload_n 3, 1), (19, .iadd, 1), (20, .istore 4, 2), (22, .aload_n 0, 1), (23, .iload_n 1, 1), (24, .iload_n 3, 1), (25, .invokevirtual 75, 3), (28, .istore 5, 2), (30, .iload_n 2, 1), (31, .aload_n 0, 1), (32, .getfield 16, 3), (35, .iload 4, 2), (37, .iaload, 1), (38, .aload_n 0, 1), (39, .getfield 19, 3), (42, .iload 5, 2), (44, .iaload, 1), (45, .imul, 1), (46, .iadd, 1), (47, .aload_n 0, 1), (48, .getfield 16, 3), (51, .iload 5, 2), (53, .iaload, 1), (54, .aload_n 0, 1), (55, .getfield 19, 3), (58, .iload 4, 2), (60, .iaload, 1), (61, .imul, 1), (62, .isub, 1), (63, .istore_n 2, 1), (64, .iinc 3 1, 3), (67, .goto (-63), 3), (70, .iload_n 2, 1), (71, .ireturn, 1)]
set_option maxRecDepth 100000 in
theorem kX5_areaOf_ok : ∀ (i : Nat) (q : Nat × Instr × Nat), kX5_areaOf[i]? = some q → decode cX5_areaOf q.1 = .ok q.2 := tbl_ok (by decide +kernel)
theorem okX5_areaOf : OKV RX5 yX5_areaOf cX5_areaOf 6 (some .int) 1 := ⟨w_389, w_390, w_372, w_391, rfl, by decide +kernel, by decide +kernel, by decide +kernel⟩
def kX5_isConvex : List (Nat × Instr × Nat) := [(0, .iconst 1, 1), (1, .istore_n 2, 1), (2, .iconst 0, 1), (3, .istore_n 3, 1), (4, .iload_n 3, 1), (5, .aload_n 0, 1), (6, .getfield 7, 3), (9, .iload_n 1, 1), (10, .iaload, 1), (11, .if_icmp .ge 88, 3), (14, .iconst 0, 1), (15, .istore 4, 2), (17, .iload 4, 2), (19, .aload_n 0, 1), (20, .getfield 7, 3), (23, .iload_n 1, 1), (24, .iaload, 1), (25, .if_icmp .ge 68, 3), (28, .bipush 8, 2), (30, .iload_n 1, 1), (31, .imul, 1), (32, .iload 4, 2), (34, .iadd, 1), (35, .istore 5, 2), (37, .iload_n 2, 1), (38, .ifCond .eq 47, 3), (41, .iload 4, 2), (43, .iload_n 3, 1), (44, .if_icmp .eq 37, 3), (47, .iload 5, 2), (49, .aload_n 0, 1), (50, .iload_n 1, 1), (51, .iload_n 3, 1), (52, .invokevirtual 75, 3), (55, .if_icmp .eq 26, 3), (58, .aload_n 0, 1), (59, .iload_n 1, 1), (60, .iload_n 3, 1), (61, .aload_n 0, 1), (62, .getfield 16, 3), (65, .iload 5, 2), (67, .iaload, 1), (68, .aload_n 0, 1), (69, .getfield 19, 3), (72, .iload 5, 2), (74, .iaload, 1), (75, .invokevirtual 79, 3), (78, .ifCond .le 7, 3), (81, .iconst 1, 1), (82, .goto 4, 3), (85, .iconst 0, 1), (86, .istore_n 2, 1), (87, .iinc 4 1, 3), (90, .goto (-73), 3), (93, .iinc 3 1, 3), (96, .goto (-92), 3), (99, .iload_n 2, 1), (100, .ireturn, 1)]
set_option maxRecDepth 100000 in
theorem kX5_isConvex_ok : ∀ (i : Nat) (q : Nat × Instr × Nat), kX5_isConvex[i]? = some q → decode cX5_isConvex q.1 = .ok q.2 := tbl_ok (by decide +kernel)
theorem okX5_isConvex : OKV RX5 yX5_isConvex cX5_isConvex 6 (some .boolean) 1 := ⟨w_392, w_393, w_372, w_394, rfl, by decide +kernel, by decide +kernel, by decide +kernel⟩
def kX5_lies : List (Nat × Instr × Nat) := [(0, .iconst 1, 1), (1, .istore 4, 2), (3, .iconst 1, 1), (4, .istore 5, 2), (6, .iconst 0, 1), (7, .istore 6, 2), (9, .iload 6, 2), (11, .aload_n 0, 1), (12, .getfield 7, 3), (15, .iload_n 1, 1), (16, .iaload, 1), (17, .if_icmp .ge 75, 3), (20, .aload_n 0, 1), (21, .iload_n 2, 1), (22, .iload_n 3, 1), (23, .aload_n 0, 1), (24, .getfield 16, 3), (27, .bipush 8, 2), (29, .iload_n 1, 1), (30, .imul, 1), (31, .iload 6, 2), (33, .iadd, 1), (34, .iaload, 1), (35, .aload_n 0, 1), (36, .getfield 19, 3), (39, .bipush 8, 2), (41, .iload_n 1, 1), (42, .imul, 1), (43, .iload 6, 2), (45, .iadd, 1), (46, .iaload, 1), (47, .invokevirtual 79, 3), (50, .istore 7, 2), (52, .iload 4, 2), (54, .ifCond .eq 12, 3), (57, .iload 7, 2), (59, .ifCond .lt 7, 3), (62, .iconst 1, 1), (63, .goto 4, 3), (66, .iconst 0, 1), (67, .istore 4, 2), (69, .iload 5, 2), (71, .ifCond .eq 12, 3), (74, .iload 7, 2), (76, .ifCond .gt 7, 3), (79, .iconst 1, 1), (80, .goto 4, 3), (83, .iconst 0, 1), (84, .istore 5, 2), (86, .iinc 6 1, 3), (89, .goto (-80), 3), (92, .iload 4, 2), (94, .ifCond .eq 7, 3), (97, .iconst 1, 1), (98, .goto 13, 3), (101, .iload 5, 2), (103, .ifCond .eq 7, 3), (106, .iconst (-1), 1), (107, .goto 4, 3), (110, .iconst 0, 1), (111, .ireturn, 1)]
set_option maxRecDepth 100000 in
theorem kX5_lies_ok : ∀ (i : Nat) (q : Nat × Instr × Nat), kX5_lies[i]? = some q → decode cX5_lies q.1 = .ok q.2 := tbl_ok (by decide +kernel)
theorem okX5_lies : OKV RX5 yX5_lies cX5_lies 8 (some .int) 3 := ⟨w_395, w_396, w_372, w_397, rfl, by decide +kernel, by decide +kernel, by decide +kernel⟩
def kX5_apart : List (Nat × Instr × Nat) := [(0, .iconst 0, 1), (1, .istore_n 3, 1), (2, .iconst 0, 1), (3, .istore 4, 2), (5, .iload 4, 2), (7, .aload_n 0, 1), (8, .getfield 7, 3), (11, .iload_n 1, 1), (12, .iaload, 1), (13, .if_icmp .ge 31, 3), (16, .iload_n 3, 1), (17, .ifCond .ne 15, 3), (20, .aload_n 0, 1), (21, .iload_n 2, 1), (22, .iload_n 1, 1), (23, .iload 4, 2), (25, .invokevirtual 83, 3), (28, .iconst (-1), 1), (29, .if_icmp .ne 7, 3), (32, .iconst 1, 1), (33, .goto 4, 3), (36, .iconst 0, 1), (37, .istore_n 3, 1), (38, .iinc 4 1, 3), (41, .goto (-36), 3), (44, .iconst 0, 1), (45, .istore 4, 2), (47, .iload 4, 2), (49, .aload_n 0, 1), (50, .getfield 7, 3), (53, .iload_n 2, 1), (54, .iaload, 1), (55, .if_icmp .ge 31, 3), (58, .iload_n 3, 1), (59, .ifCond .ne 15, 3), (62, .aload_n 0, 1), (63, .iload_n 1, 1), (64, .iload_n 2, 1), (65, .iload 4, 2), (67, .invokevirtual 83, 3), (70, .iconst (-1), 1), (71, .if_icmp .ne 7, 3), (74, .iconst 1, 1), (75, .goto 4, 3), (78, .iconst 0, 1), (79, .istore_n 3, 1), (80, .iinc 4 1, 3), (83, .goto (-36), 3), (86, .iload_n 3, 1), (87, .ireturn, 1)]
set_option maxRecDepth 100000 in
theorem kX5_apart_ok : ∀ (i : Nat) (q : Nat × Instr × Nat), kX5_apart[i]? = some q → decode cX5_apart q.1 = .ok q.2 := tbl_ok (by decide +kernel)
theorem okX5_apart : OKV RX5 yX5_apart cX5_apart 5 (some .boolean) 2 := ⟨w_398, w_399, w_372, w_400, rfl, by decide +kernel, by decide +kernel, by decide +kernel⟩
def kX5_corner : List (Nat × Instr × Nat) := [(0, .aload_n 0, 1), (1, .iload_n 1, 1), (2, .invokestatic 87, 3), (5, .ifCond .eq 17, 3), (8, .iload_n 2, 1), (9, .iconst 0, 1), (10, .bipush 7, 2), (12, .invokestatic 91, 3), (15, .ifCond .eq 7, 3), (18, .iconst 1, 1), (19, .goto 4, 3), (22, .iconst 0, 1), (23, .iload_n 3, 1), (24, .iconst 0, 1), (25, .bipush 96, 2), (27, .invokestatic 91, 3), (30, .ifCond .eq 18, 3), (33, .iload 4, 2), (35, .iconst 0, 1), (36, .bipush 96, 2), (38, .invokestatic 91, 3), (41, .ifCond .eq 7, 3), (44, .iconst 1, 1), (45, .goto 4, 3), (48, .iconst 0, 1), (49, .invokevirtual 95, 3), (52, .ifCond .eq 47, 3), (55, .aload_n 0, 1), (56, .getfield 7, 3), (59, .sipush 240, 3), (62, .iload_n 1, 1), (63, .iadd, 1), (64, .iconst 0, 1), (65, .iastore, 1), (66, .aload_n 0, 1), (67, .getfield 16, 3), (70, .bipush 8, 2), (72, .sipush 240, 3), (75, .iload_n 1, 1), (76, .iadd, 1), (77, .imul, 1), (78, .iload_n 2, 1), (79, .iadd, 1), (80, .iload_n 3, 1), (81, .iastore, 1), (82, .aload_n 0, 1), (83, .getfield 19, 3), (86, .bipush 8, 2), (88, .sipush 240, 3), (91, .iload_n 1, 1), (92, .iadd, 1), (93, .imul, 1), (94, .iload_n 2, 1), (95, .iadd, 1), (96, .iload 4, 2), (98, .iastore, 1), (99, .return_, 1)]
set_option maxRecDepth 100000 in
theorem kX5_corner_ok : ∀ (i : Nat) (q : Nat × Instr × Nat), kX5_corner[i]? = some q → decode cX5_corner q.1 = .ok q.2 := tbl_ok (by decide +kernel)
theorem okX5_corner : OKV RX5 yX5_corner cX5_corner 5 none 4 := ⟨w_401, w_402, w_372, w_403, rfl, by decide +kernel, by decide +kernel, by decide +kernel⟩
def kX5_close : List (Nat × Instr × Nat) := [(0, .aload_n 0, 1), (1, .iload_n 1, 1), (2, .invokestatic 87, 3), (5, .ifCond .eq 14, 3), (8, .iload_n 3, 1), (9, .invokestatic 99, 3), (12, .ifCond .eq 7, 3), (15, .iconst 1, 1), (16, .goto 4, 3), (19, .iconst 0, 1), (20, .iload_n 2, 1), (21, .iconst 3, 1), (22, .bipush 8, 2), (24, .invokestatic 91, 3), (27, .invokevirtual 95, 3), (30, .ifCond .ne 5, 3), (33, .iconst 0, 1), (34, .ireturn, 1), (35, .sipush 240, 3), (38, .iload_n 1, 1), (39, .iadd, 1), (40, .istore 4, 2), (42, .aload_n 0, 1), (43, .getfield 7, 3), (46, .iload 4, 2), (48, .iload_n 2, 1), (49, .iastore, 1), (50, .aload_n 0, 1), (51, .getfield 13, 3), (54, .iload 4, 2), (56, .iload_n 3, 1), (57, .iastore, 1), (58, .aload_n 0, 1), (59, .iload 4, 2), (61, .invokevirtual 102, 3), (64, .ifCond .ne 13, 3), (67, .aload_n 0, 1), (68, .getfield 7, 3), (71, .iload 4, 2), (73, .iconst 0, 1), (74, .iastore, 1), (75, .iconst 0, 1), (76, .ireturn, 1), (77, .aload_n 0, 1), (78, .iload 4, 2), (80, .invokevirtual 105, 3), (83, .ireturn, 1)]
set_option maxRecDepth 100000 in
theorem kX5_close_ok : ∀ (i : Nat) (q : Nat × Instr × Nat), kX5_close[i]? = some q → decode cX5_close q.1 = .ok q.2 := tbl_ok (by decide +kernel)
theorem okX5_close : OKV RX5 yX5_close cX5_close 5 (some .int) 3 := ⟨w_404, w_405, w_372, w_406, rfl, by decide +kernel, by decide +kernel, by decide +kernel⟩
def kX5_open : List (Nat × Instr × Nat) := [(0, .aload_n 0, 1), (1, .iload_n 1, 1), (2, .invokestatic 87, 3), (5, .iconst 1, 1), (6, .invokevirtual 95, 3), (9, .ifCond .ne 5, 3), (12, .iconst 0, 1), (13, .ireturn, 1), (14, .aload_n 0, 1), (15, .getfield 7, 3), (18, .sipush 240, 3), (21, .iload_n 1, 1), (22, .iadd, 1), (23, .iaload, 1), (24, .ifCond .le 7, 3), (27, .iconst 1, 1), (28, .goto 4, 3), (31, .iconst 0, 1), (32, .istore_n 2, 1), (33, .aload_n 0, 1), (34, .getfield 7, 3), (37, .sipush 240, 3), (40, .iload_n 1, 1), (41, .iadd, 1), (42, .iconst 0, 1), (43, .iastore, 1), (44, .iload_n 2, 1), (45, .ireturn, 1)]
set_option maxRecDepth 100000 in
theorem kX5_open_ok : ∀ (i : Nat) (q : Nat × Instr × Nat), kX5_open[i]? = some q → decode cX5_open q.1 = .ok q.2 := tbl_ok (by decide +kernel)
theorem okX5_open : OKV RX5 yX5_open cX5_open 3 (some .boolean) 1 := ⟨w_407, w_408, w_372, w_409, rfl, by decide +kernel, by decide +kernel, by decide +kernel⟩
def kX5_closed : List (Nat × Instr × Nat) := [(0, .iconst 0, 1), (1, .istore_n 1, 1), (2, .sipush 240, 3), (5, .istore_n 2, 1), (6, .iload_n 2, 1), (7, .sipush 264, 3), (10, .if_icmp .ge 26, 3), (13, .aload_n 0, 1), (14, .getfield 7, 3), (17, .iload_n 2, 1), (18, .iaload, 1), (19, .ifCond .le 9, 3), (22, .iload_n 1, 1), (23, .iconst 1, 1), (24, .iadd, 1), (25, .goto 4, 3), (28, .iload_n 1, 1), (29, .istore_n 1, 1), (30, .iinc 2 1, 3), (33, .goto (-27), 3), (36, .iload_n 1, 1), (37, .ireturn, 1)]
set_option maxRecDepth 100000 in
theorem kX5_closed_ok : ∀ (i : Nat) (q : Nat × Instr × Nat), kX5_closed[i]? = some q → decode cX5_closed q.1 = .ok q.2 := tbl_ok (by decide +kernel)
theorem okX5_closed : OKV RX5 yX5_closed cX5_closed 3 (some .int) 0 := ⟨w_410, w_411, w_372, w_412, rfl, by decide +kernel, by decide +kernel, by decide +kernel⟩
def kX5_clear : List (Nat × Instr × Nat) := [(0, .aload_n 0, 1), (1, .iconst 0, 1), (2, .putfield 71, 3), (5, .aload_n 0, 1), (6, .invokevirtual 109, 3), (9, .istore_n 1, 1), (10, .sipush 240, 3), (13, .istore_n 2, 1), (14, .iload_n 2, 1), (15, .sipush 264, 3), (18, .if_icmp .ge 16, 3), (21, .aload_n 0, 1), (22, .getfield 7, 3), (25, .iload_n 2, 1), (26, .iconst 0, 1), (27, .iastore, 1), (28, .iinc 2 1, 3), (31, .goto (-17), 3), (34, .iload_n 1, 1), (35, .ireturn, 1)]
set_option maxRecDepth 100000 in
theorem kX5_clear_ok : ∀ (i : Nat) (q : Nat × Instr × Nat), kX5_clear[i]? = some q → decode cX5_clear q.1 = .ok q.2 := tbl_ok (by decide +kernel)
theorem okX5_clear : OKV RX5 yX5_clear cX5_clear 3 (some .int) 0 := ⟨w_413, w_414, w_372, w_415, rfl, by decide +kernel, by decide +kernel, by decide +kernel⟩
def kX5_overlapping : List (Nat × Instr × Nat) := [(0, .iconst 0, 1), (1, .istore_n 1, 1), (2, .iload_n 1, 1), (3, .sipush 576, 3), (6, .if_icmp .ge 61, 3), (9, .sipush 240, 3), (12, .iload_n 1, 1), (13, .bipush 24, 2), (15, .idiv, 1), (16, .iadd, 1), (17, .istore_n 2, 1), (18, .sipush 240, 3), (21, .iload_n 1, 1), (22, .bipush 24, 2), (24, .irem, 1), (25, .iadd, 1), (26, .istore_n 3, 1), (27, .iload_n 2, 1), (28, .iload_n 3, 1), (29, .if_icmp .ge 32, 3), (32, .aload_n 0, 1), (33, .getfield 7, 3), (36, .iload_n 2, 1), (37, .iaload, 1), (38, .ifCond .le 23, 3), (41, .aload_n 0, 1), (42, .getfield 7, 3), (45, .iload_n 3, 1), (46, .iaload, 1), (47, .ifCond .le 14, 3), (50, .aload_n 0, 1), (51, .iload_n 2, 1), (52, .iload_n 3, 1), (53, .invokevirtual 113, 3), (56, .ifCond .ne 5, 3), (59, .iload_n 1, 1), (60, .ireturn, 1), (61, .iinc 1 1, 3), (64, .goto (-62), 3), (67, .iconst (-1), 1), (68, .ireturn, 1)]
set_option maxRecDepth 100000 in
theorem kX5_overlapping_ok : ∀ (i : Nat) (q : Nat × Instr × Nat), kX5_overlapping[i]? = some q → decode cX5_overlapping q.1 = .ok q.2 := tbl_ok (by decide +kernel)
theorem okX5_overlapping : OKV RX5 yX5_overlapping cX5_overlapping 4 (some .int) 0 := ⟨w_416, w_417, w_372, w_418, rfl, by decide +kernel, by decide +kernel, by decide +kernel⟩
def kX5_state : List (Nat × Instr × Nat) := [(0, .iconst 0, 1), (1, .istore_n 1, 1), (2, .sipush 240, 3), (5, .istore_n 2, 1), (6, .iload_n 2, 1), (7, .sipush 264, 3), (10, .if_icmp .ge 30, 3), (13, .aload_n 0, 1), (14, .getfield 7, 3), (17, .iload_n 2, 1), (18, .iaload, 1), (19, .ifCond .le 13, 3), (22, .iload_n 1, 1), (23, .aload_n 0, 1), (24, .iload_n 2, 1), (25, .invokevirtual 105, 3), (28, .iadd, 1), (29, .goto 4, 3), (32, .iload_n 1, 1), (33, .istore_n 1, 1), (34, .iinc 2 1, 3), (37, .goto (-31), 3), (40, .aload_n 0, 1), (41, .invokevirtual 117, 3), (44, .iconst (-1), 1), (45, .if_icmp .eq 7, 3), (48, .iconst 2, 1), (49, .goto 15, 3), (52, .iload_n 1, 1), (53, .sipush 18432, 3), (56, .if_icmp .ne 7, 3), (59, .iconst 0, 1), (60, .goto 4, 3), (63, .iconst 1, 1), (64, .ireturn, 1)]
set_option maxRecDepth 100000 in
theorem kX5_state_ok : ∀ (i : Nat) (q : Nat × Instr × Nat), kX5_state[i]? = some q → decode cX5_state q.1 = .ok q.2 := tbl_ok (by decide +kernel)
theorem okX5_state : OKV RX5 yX5_state cX5_state 3 (some .int) 0 := ⟨w_419, w_420, w_372, w_421, rfl, by decide +kernel, by decide +kernel, by decide +kernel⟩
def kX5_check : List (Nat × Instr × Nat) := [(0, .aload_n 0, 1), (1, .iconst 0, 1), (2, .putfield 71, 3), (5, .aload_n 0, 1), (6, .invokevirtual 120, 3), (9, .ireturn, 1)]
set_option maxRecDepth 100000 in
theorem kX5_check_ok : ∀ (i : Nat) (q : Nat × Instr × Nat), kX5_check[i]? = some q → decode cX5_check q.1 = .ok q.2 := tbl_ok (by decide +kernel)
theorem okX5_check : OKV RX5 yX5_check cX5_check 1 (some .int) 0 := ⟨w_422, w_423, w_372, w_424, rfl, by decide +kernel, by decide +kernel, by decide +kernel⟩
def kX5_clash : List (Nat × Instr × Nat) := [(0, .aload_n 0, 1), (1, .iload_n 1, 1), (2, .iconst 0, 1), (3, .iconst 1, 1), (4, .invokestatic 91, 3), (7, .iconst 1, 1), (8, .invokevirtual 95, 3), (11, .ifCond .ne 5, 3), (14, .iconst 0, 1), (15, .ireturn, 1), (16, .aload_n 0, 1), (17, .invokevirtual 117, 3), (20, .istore_n 2, 1), (21, .iload_n 2, 1), (22, .iconst (-1), 1), (23, .if_icmp .ne 7, 3), (26, .iconst (-1), 1), (27, .goto 18, 3), (30, .iload_n 1, 1), (31, .ifCond .ne 10, 3), (34, .iload_n 2, 1), (35, .bipush 24, 2), (37, .idiv, 1), (38, .goto 7, 3), (41, .iload_n 2, 1), (42, .bipush 24, 2), (44, .irem, 1), (45, .ireturn, 1)]
set_option maxRecDepth 100000 in
theorem kX5_clash_ok : ∀ (i : Nat) (q : Nat × Instr × Nat), kX5_clash[i]? = some q → decode cX5_clash q.1 = .ok q.2 := tbl_ok (by decide +kernel)
theorem okX5_clash : OKV RX5 yX5_clash cX5_clash 3 (some .int) 1 := ⟨w_425, w_426, w_372, w_427, rfl, by decide +kernel, by decide +kernel, by decide +kernel⟩
def kX5_bits : List (Nat × Instr × Nat) := [(0, .iconst 0, 1), (1, .istore_n 1, 1), (2, .iconst 0, 1), (3, .istore_n 2, 1), (4, .iload_n 2, 1), (5, .bipush 24, 2), (7, .if_icmp .ge 17, 3), (10, .iload_n 1, 1), (11, .iload_n 0, 1), (12, .iload_n 2, 1), (13, .ishr, 1), (14, .iconst 1, 1), (15, .iand, 1), (16, .iadd, 1), (17, .istore_n 1, 1), (18, .iinc 2 1, 3), (21, .goto (-17), 3), (24, .iload_n 1, 1), (25, .ireturn, 1)]
set_option maxRecDepth 100000 in
theorem kX5_bits_ok : ∀ (i : Nat) (q : Nat × Instr × Nat), kX5_bits[i]? = some q → decode cX5_bits q.1 = .ok q.2 := tbl_ok (by decide +kernel)
theorem okX5_bits : OKS yX5_bits cX5_bits 3 (some .int) 1 := ⟨w_428, w_372, w_429, by decide +kernel, by decide +kernel, by decide +kernel⟩
def kX5_leftOf : List (Nat × Instr × Nat) := [(0, .iconst 0, 1), (1, .istore 4, 2), (3, .iconst 0, 1), (4, .istore 5, 2), (6, .iload 5, 2), (8, .bipush 24, 2), (10, .if_icmp .ge 73, 3), (13, .iload_n 1, 1), (14, .iload 5, 2), (16, .ishr, 1), (17, .iconst 1, 1), (18, .iand, 1), (19, .iconst 1, 1), (20, .if_icmp .ne 18, 3), (23, .aload_n 0, 1), (24, .sipush 240, 3), (27, .iload 5, 2), (29, .iadd, 1), (30, .iload_n 2, 1), (31, .iload_n 3, 1), (32, .invokevirtual 83, 3), (35, .goto 4, 3), (38, .iconst 1, 1), (39, .istore 6, 2), (41, .iload 6, 2), (43, .ifCond .ne 5, 3), (46, .iconst (-1), 1), (47, .ireturn, 1), (48, .iload_n 1, 1), (49, .iload 5, 2), (51, .ishr, 1), (52, .iconst 1, 1), (53, .iand, 1), (54, .iconst 1, 1), (55, .if_icmp .ne 18, 3), (58, .iload 6, 2), (60, .ifCond .le 13, 3), (63, .iload 4, 2), (65, .iconst 1, 1), (66, .iload 5, 2), (68, .ishl, 1), (69, .ior, 1), (70, .goto 5, 3), (73, .iload 4, 2), (75, .istore 4, 2), (77, .iinc 5 1, 3), (80, .goto (-74), 3), (83, .iload 4, 2), (85, .ifCond .eq 9, 3), (88, .iload 4, 2), (90, .iload_n 1, 1), (91, .if_icmp .ne 7, 3), (94, .iconst (-1), 1), (95, .goto 5, 3), (98, .iload 4, 2), (100, .ireturn, 1)]
set_option maxRecDepth 100000 in
theorem kX5_leftOf_ok : ∀ (i : Nat) (q : Nat × Instr × Nat), kX5_leftOf[i]? = some q → decode cX5_leftOf q.1 = .ok q.2 := tbl_ok (by decide +kernel)
theorem okX5_leftOf : OKV RX5 yX5_leftOf cX5_leftOf 7 (some .int) 3 := ⟨w_430, w_431, w_372, w_432, rfl, by decide +kernel, by decide +kernel, by decide +kernel⟩
def kX5_piece : List (Nat × Instr × Nat) := [(0, .aload_n 0, 1), (1, .iconst 0, 1), (2, .putfield 71, 3), (5, .iconst 0, 1), (6, .istore_n 1, 1), (7, .iconst 1, 1), (8, .istore_n 2, 1), (9, .aload_n 0, 1), (10, .getfield 22, 3), (13, .iconst 0, 1), (14, .iconst 0, 1), (15, .iastore, 1), (16, .iconst 0, 1), (17, .istore_n 3, 1), (18, .iload_n 3, 1), (19, .bipush 24, 2), (21, .if_icmp .ge 47, 3), (24, .aload_n 0, 1), (25, .getfield 22, 3), (28, .iconst 0, 1), (29, .aload_n 0, 1), (30, .getfield 7, 3), (33, .sipush 240, 3), (36, .iload_n 3, 1), (37, .iadd, 1), (38, .iaload, 1), (39, .ifCond .le 16, 3), (42, .aload_n 0, 1), (43, .getfield 22, 3), (46, .iconst 0, 1), (47, .iaload, 1), (48, .iconst 1, 1), (49, .iload_n 3, 1), (50, .ishl, 1), (51, .ior, 1), (52, .goto 9, 3), (55, .aload_n 0, 1), (56, .getfield 22, 3), (59, .iconst 0, 1), (60, .iaload, 1), (61, .iastore, 1), (62, .iinc 3 1, 3), (65, .goto (-47), 3), (68, .iload_n 2, 1), (69, .ifCond .le 238, 3), (72, .iinc 2 (-1), 3), (75, .aload_n 0, 1), (76, .getfield 22, 3), (79, .iload_n 2, 1), (80, .iaload, 1), (81, .istore_n 3, 1), (82, .iconst (-1), 1), (83, .istore 4, 2), (85, .iconst 0, 1), (86, .istore 5, 2), (88, .iload 5, 2), (90, .sipush 192, 3), (93, .if_icmp .ge 160, 3), (96, .iload 4, 2), (98, .iconst (-1), 1), (99, .if_icmp .ne 154, 3), (102, .iload_n 3, 1), (103, .invokestatic 123, 3), (106, .iconst 1, 1), (107, .if_icmp .le 146, 3), (110, .sipush 240, 3), (113, .iload 5, 2), (115, .bipush 8, 2), (117, .idiv, 1), (118, .iadd, 1), (119, .istore 6, 2), (121, .iload_n 3, 1), (122, .iload 5, 2), (124, .bipush 8, 2), (126, .idiv, 1), (127, .ishr, 1), (128, .iconst 1, 1), (129, .iand, 1), (130, .iconst 1, 1), (131, .if_icmp .ne 22, 3), (134, .iload 5, 2), (136, .bipush 8, 2), (138, .irem, 1), (139, .aload_n 0, 1), (140, .getfield 7, 3), (143, .iload 6, 2), (145, .iaload, 1), (146, .if_icmp .ge 7, 3), (149, .iconst 1, 1), (150, .goto 4, 3), (153, .iconst 0, 1), (154, .istore 7, 2), (156, .iload 7, 2), (158, .ifCond .eq 18, 3), (161, .aload_n 0, 1), (162, .iload_n 3, 1), (163, .iload 6, 2), (165, .iload 5, 2), (167, .bipush 8, 2), (169, .irem, 1), (170, .invokevirtual 126, 3), (173, .goto 4, 3), (176, .iconst (-1), 1), (177, .istore 4, 2), (179, .iload 4, 2), (181, .iconst (-1), 1), (182, .if_icmp .eq 65, 3), (185, .aload_n 0, 1), (186, .getfield 25, 3), (189, .iconst 4, 1), (190, .iload_n 1, 1), (191, .imul, 1), (192, .iload 5, 2), (194, .bipush 8, 2), (196, .idiv, 1), (197, .iastore, 1), (198, .aload_n 0, 1), (199, .getfield 25, 3), (202, .iconst 4, 1), (203, .iload_n 1, 1), (204, .imul, 1), (205, .iconst 1, 1), (206, .iadd, 1), (207, .iload 5, 2), (209, .bipush 8, 2), (211, .irem, 1), (212, .iastore, 1), (213, .aload_n 0, 1), (214, .getfield 25, 3), (217, .iconst 4, 1), (218, .iload_n 1, 1), (219, .imul, 1), (220, .iconst 2, 1), (221, .iadd, 1), (222, .iload 4, 2), (224, .invokestatic 123, 3), (227, .iastore, 1), (228, .aload_n 0, 1), (229, .getfield 25, 3), (232, .iconst 4, 1), (233, .iload_n 1, 1), (234, .imul, 1), (235, .iconst 3, 1), (236, .iadd, 1), (237, .iload_n 3, 1), (238, .iload 4, 2), (240, .iconst (-1), 1), (241, .ixor, 1), (242, .iand, 1), (243, .invokestatic 123, 3), (246, .iastore, 1), (247, .iinc 5 1, 3), (250, .goto (-162), 3), (253, .iload 4, 2), (255, .iconst (-1), 1), (256, .if_icmp .ne 13, 3), (259, .iload_n 3, 1), (260, .invokestatic 123, 3), (263, .iconst 1, 1), (264, .if_icmp .le 5, 3), (267, .iconst (-1), 1), (268, .ireturn, 1), (269, .iload 4, 2), (271, .iconst (-1), 1), (272, .if_icmp .eq 32, 3), (275, .iinc 1 1, 3), (278, .aload_n 0, 1), (279, .getfield 22, 3), (282, .iload_n 2, 1), (283, .iload_n 3, 1), (284, .iload 4, 2), (286, .iconst (-1), 1), (287, .ixor, 1), (288, .iand, 1), (289, .iastore, 1), (290, .aload_n 0, 1), (291, .getfield 22, 3), (294, .iload_n 2, 1), (295, .iconst 1, 1), (296, .iadd, 1), (297, .iload 4, 2), (299, .iastore, 1), (300, .iload_n 2, 1), (301, .iconst 2, 1), (302, .iadd, 1), (303, .istore_n 2, 1), (304, .goto (-236), 3), (307, .aload_n 0, 1), (308, .iload_n 1, 1), (309, .putfield 129, 3), (312, .iconst 0, 1), (313, .istore_n 3, 1), (314, .iload_n 3, 1), (315, .iconst 4, 1), (316, .iload_n 1, 1), (317, .imul, 1), (318, .if_icmp .ge 21, 3), (321, .aload_n 0, 1), (322, .getfield 28, 3), (325, .iload_n 3, 1), (326, .aload_n 0, 1), (327, .getfield 25, 3), (330, .iload_n 3, 1), (331, .iaload, 1), (332, .iastore, 1), (333, .iinc 3 1, 3), (336, .goto (-22), 3), (339, .iload_n 1, 1), (340, .ireturn, 1)]
set_option maxRecDepth 100000 in
theorem kX5_piece_ok : ∀ (i : Nat) (q : Nat × Instr × Nat), kX5_piece[i]? = some q → decode cX5_piece q.1 = .ok q.2 := tbl_ok (by decide +kernel)
theorem okX5_piece : OKV RX5 yX5_piece cX5_piece 8 (some .int) 0 := ⟨w_433, w_434, w_372, w_435, rfl, by decide +kernel, by decide +kernel, by decide +kernel⟩
def kX5_seam : List (Nat × Instr × Nat) := [(0, .aload_n 0, 1), (1, .iload_n 1, 1), (2, .ifCond .lt 15, 3), (5, .iload_n 1, 1), (6, .aload_n 0, 1), (7, .getfield 129, 3), (10, .if_icmp .ge 7, 3), (13, .iconst 1, 1), (14, .goto 4, 3), (17, .iconst 0, 1), (18, .iload_n 2, 1), (19, .iconst 0, 1), (20, .iconst 3, 1), (21, .invokestatic 91, 3), (24, .invokevirtual 95, 3), (27, .ifCond .eq 16, 3), (30, .aload_n 0, 1), (31, .getfield 28, 3), (34, .iconst 4, 1), (35, .iload_n 1, 1), (36, .imul, 1), (37, .iload_n 2, 1), (38, .iadd, 1), (39, .iaload, 1), (40, .goto 4, 3), (43, .iconst 0, 1), (44, .ireturn, 1)]
set_option maxRecDepth 100000 in
theorem kX5_seam_ok : ∀ (i : Nat) (q : Nat × Instr × Nat), kX5_seam[i]? = some q → decode cX5_seam q.1 = .ok q.2 := tbl_ok (by decide +kernel)
theorem okX5_seam : OKV RX5 yX5_seam cX5_seam 3 (some .int) 2 := ⟨w_436, w_437, w_372, w_438, rfl, by decide +kernel, by decide +kernel, by decide +kernel⟩
def kX5_keep : List (Nat × Instr × Nat) := [(0, .aload_n 0, 1), (1, .aload_n 0, 1), (2, .getfield 132, 3), (5, .bipush 10, 2), (7, .if_icmp .ge 14, 3), (10, .aload_n 0, 1), (11, .invokevirtual 120, 3), (14, .ifCond .ne 7, 3), (17, .iconst 1, 1), (18, .goto 4, 3), (21, .iconst 0, 1), (22, .iconst 1, 1), (23, .invokevirtual 95, 3), (26, .ifCond .ne 5, 3), (29, .iconst 0, 1), (30, .ireturn, 1), (31, .iconst 0, 1), (32, .istore_n 1, 1), (33, .iload_n 1, 1), (34, .bipush 24, 2), (36, .if_icmp .ge 117, 3), (39, .bipush 24, 2), (41, .aload_n 0, 1), (42, .getfield 132, 3), (45, .imul, 1), (46, .iload_n 1, 1), (47, .iadd, 1), (48, .istore_n 2, 1), (49, .aload_n 0, 1), (50, .getfield 7, 3), (53, .iload_n 2, 1), (54, .aload_n 0, 1), (55, .getfield 7, 3), (58, .sipush 240, 3), (61, .iload_n 1, 1), (62, .iadd, 1), (63, .iaload, 1), (64, .iastore, 1), (65, .aload_n 0, 1), (66, .getfield 13, 3), (69, .iload_n 2, 1), (70, .aload_n 0, 1), (71, .getfield 13, 3), (74, .sipush 240, 3), (77, .iload_n 1, 1), (78, .iadd, 1), (79, .iaload, 1), (80, .iastore, 1), (81, .iconst 0, 1), (82, .istore_n 3, 1), (83, .iload_n 3, 1), (84, .bipush 8, 2), (86, .if_icmp .ge 61, 3), (89, .aload_n 0, 1), (90, .getfield 16, 3), (93, .bipush 8, 2), (95, .iload_n 2, 1), (96, .imul, 1), (97, .iload_n 3, 1), (98, .iadd, 1), (99, .aload_n 0, 1), (100, .getfield 16, 3), (103, .sipush 1920, 3), (106, .bipush 8, 2), (108, .iload_n 1, 1), (109, .imul, 1), (110, .iadd, 1), (111, .iload_n 3, 1), (112, .iadd, 1), (113, .iaload, 1), (114, .iastore, 1), (115, .aload_n 0, 1), (116, .getfield 19, 3), (119, .bipush 8, 2), (121, .iload_n 2, 1), (122, .imul, 1), (123, .iload_n 3, 1), (124, .iadd, 1), (125, .aload_n 0, 1), (126, .getfield 19, 3), (129, .sipush 1920, 3), (132, .bipush 8, 2), (134, .iload_n 1, 1), (135, .imul, 1), (136, .iadd, 1), (137, .iload_n 3, 1), (138, .iadd, 1), (139, .iaload, 1), (140, .iastore, 1), (141, .iinc 3 1, 3), (144, .goto (-61), 3), (147, .iinc 1 1, 3), (150, .goto (-117), 3), (153, .aload_n 0, 1), (154, .dup, 1), (155, .getfield 132, 3), (158, .iconst 1, 1), (159, .iadd, 1), (160, .putfield 132, 3), (163, .aload_n 0, 1), (164, .getfield 132, 3), (167, .iconst 1, 1), (168, .isub, 1), (169, .ireturn, 1)]
set_option maxRecDepth 100000 in
theorem kX5_keep_ok : ∀ (i : Nat) (q : Nat × Instr × Nat), kX5_keep[i]? = some q → decode cX5_keep q.1 = .ok q.2 := tbl_ok (by decide +kernel)
theorem okX5_keep : OKV RX5 yX5_keep cX5_keep 4 (some .int) 0 := ⟨w_439, w_440, w_372, w_441, rfl, by decide +kernel, by decide +kernel, by decide +kernel⟩
def kX5_place : List (Nat × Instr × Nat) := [(0, .aload_n 0, 1), (1, .iload_n 1, 1), (2, .iconst 0, 1), (3, .iconst 5, 1), (4, .invokestatic 91, 3), (7, .ifCond .eq 29, 3), (10, .iload_n 2, 1), (11, .iconst 0, 1), (12, .iconst 5, 1), (13, .invokestatic 91, 3), (16, .ifCond .eq 20, 3), (19, .iload_n 3, 1), (20, .iconst (-1), 1), (21, .if_icmp .lt 15, 3), (24, .iload_n 3, 1), (25, .aload_n 0, 1), (26, .getfield 132, 3), (29, .if_icmp .ge 7, 3), (32, .iconst 1, 1), (33, .goto 4, 3), (36, .iconst 0, 1), (37, .iload 4, 2), (39, .iconst 0, 1), (40, .bipush 7, 2), (42, .invokestatic 91, 3), (45, .invokevirtual 95, 3), (48, .ifCond .ne 5, 3), (51, .iconst 0, 1), (52, .ireturn, 1), (53, .bipush 6, 2), (55, .iload_n 1, 1), (56, .imul, 1), (57, .iload_n 2, 1), (58, .iadd, 1), (59, .istore 5, 2), (61, .aload_n 0, 1), (62, .getfield 31, 3), (65, .iload 5, 2), (67, .iaload, 1), (68, .istore 6, 2), (70, .aload_n 0, 1), (71, .getfield 31, 3), (74, .iload 5, 2), (76, .iload_n 3, 1), (77, .iastore, 1), (78, .aload_n 0, 1), (79, .getfield 34, 3), (82, .iload 5, 2), (84, .iload 4, 2), (86, .iastore, 1), (87, .iload 6, 2), (89, .ireturn, 1)]
set_option maxRecDepth 100000 in
theorem kX5_place_ok : ∀ (i : Nat) (q : Nat × Instr × Nat), kX5_place[i]? = some q → decode cX5_place q.1 = .ok q.2 := tbl_ok (by decide +kernel)
theorem okX5_place : OKV RX5 yX5_place cX5_place 7 (some .int) 4 := ⟨w_442, w_443, w_372, w_444, rfl, by decide +kernel, by decide +kernel, by decide +kernel⟩
def kX5_frame : List (Nat × Instr × Nat) := [(0, .aload_n 0, 1), (1, .iload_n 1, 1), (2, .iconst 0, 1), (3, .iconst 1, 1), (4, .invokestatic 91, 3), (7, .ifCond .eq 14, 3), (10, .iload_n 3, 1), (11, .invokestatic 99, 3), (14, .ifCond .eq 7, 3), (17, .iconst 1, 1), (18, .goto 4, 3), (21, .iconst 0, 1), (22, .iload_n 2, 1), (23, .iconst 0, 1), (24, .bipush 60, 2), (26, .invokestatic 91, 3), (29, .invokevirtual 95, 3), (32, .ifCond .ne 5, 3), (35, .iconst 0, 1), (36, .ireturn, 1), (37, .aload_n 0, 1), (38, .getfield 37, 3), (41, .iload_n 1, 1), (42, .iaload, 1), (43, .istore 4, 2), (45, .aload_n 0, 1), (46, .getfield 37, 3), (49, .iload_n 1, 1), (50, .iload_n 2, 1), (51, .iastore, 1), (52, .aload_n 0, 1), (53, .getfield 40, 3), (56, .iload_n 1, 1), (57, .iload_n 3, 1), (58, .iastore, 1), (59, .iload 4, 2), (61, .ireturn, 1)]
set_option maxRecDepth 100000 in
theorem kX5_frame_ok : ∀ (i : Nat) (q : Nat × Instr × Nat), kX5_frame[i]? = some q → decode cX5_frame q.1 = .ok q.2 := tbl_ok (by decide +kernel)
theorem okX5_frame : OKV RX5 yX5_frame cX5_frame 5 (some .int) 3 := ⟨w_445, w_446, w_372, w_447, rfl, by decide +kernel, by decide +kernel, by decide +kernel⟩
def kX5_turned : List (Nat × Instr × Nat) := [(0, .iload_n 2, 1), (1, .iconst 4, 1), (2, .if_icmp .lt 10, 3), (5, .bipush 96, 2), (7, .iload_n 0, 1), (8, .isub, 1), (9, .goto 4, 3), (12, .iload_n 0, 1), (13, .istore 4, 2), (15, .iload_n 1, 1), (16, .istore 5, 2), (18, .iconst 0, 1), (19, .istore 6, 2), (21, .iload 6, 2), (23, .iload_n 2, 1), (24, .iconst 4, 1), (25, .irem, 1), (26, .if_icmp .ge 24, 3), (29, .iload 4, 2), (31, .istore 7, 2), (33, .bipush 96, 2), (35, .iload 5, 2), (37, .isub, 1), (38, .istore 4, 2), (40, .iload 7, 2), (42, .istore 5, 2), (44, .iinc 6 1, 3), (47, .goto (-26), 3), (50, .iload_n 3, 1), (51, .ifCond .ne 8, 3), (54, .iload 4, 2), (56, .goto 5, 3), (59, .iload 5, 2), (61, .ireturn, 1)]
set_option maxRecDepth 100000 in
theorem kX5_turned_ok : ∀ (i : Nat) (q : Nat × Instr × Nat), kX5_turned[i]? = some q → decode cX5_turned q.1 = .ok q.2 := tbl_ok (by decide +kernel)
theorem okX5_turned : OKS yX5_turned cX5_turned 8 (some .int) 4 := ⟨w_448, w_372, w_449, by decide +kernel, by decide +kernel, by decide +kernel⟩
def kX5_hasCorner : List (Nat × Instr × Nat) := [(0, .iconst 0, 1), (1, .istore 4, 2), (3, .bipush 24, 2), (5, .aload_n 0, 1), (6, .getfield 31, 3), (9, .iload_n 1, 1), (10, .iaload, 1), (11, .imul, 1), (12, .istore 5, 2), (14, .iload 5, 2), (16, .bipush 24, 2), (18, .aload_n 0, 1), (19, .getfield 31, 3), (22, .iload_n 1, 1), (23, .iaload, 1), (24, .imul, 1), (25, .bipush 24, 2), (27, .iadd, 1), (28, .if_icmp .ge 108, 3), (31, .iconst 0, 1), (32, .istore 6, 2), (34, .iload 6, 2), (36, .aload_n 0, 1), (37, .getfield 7, 3), (40, .iload 5, 2), (42, .iaload, 1), (43, .if_icmp .ge 87, 3), (46, .bipush 8, 2), (48, .iload 5, 2), (50, .imul, 1), (51, .iload 6, 2), (53, .iadd, 1), (54, .istore 7, 2), (56, .iload 4, 2), (58, .ifCond .ne 59, 3), (61, .aload_n 0, 1), (62, .getfield 16, 3), (65, .iload 7, 2), (67, .iaload, 1), (68, .aload_n 0, 1), (69, .getfield 19, 3), (72, .iload 7, 2), (74, .iaload, 1), (75, .aload_n 0, 1), (76, .getfield 34, 3), (79, .iload_n 1, 1), (80, .iaload, 1), (81, .iconst 0, 1), (82, .invokestatic 135, 3), (85, .iload_n 2, 1), (86, .if_icmp .ne 35, 3), (89, .aload_n 0, 1), (90, .getfield 16, 3), (93, .iload 7, 2), (95, .iaload, 1), (96, .aload_n 0, 1), (97, .getfield 19, 3), (100, .iload 7, 2), (102, .iaload, 1), (103, .aload_n 0, 1), (104, .getfield 34, 3), (107, .iload_n 1, 1), (108, .iaload, 1), (109, .iconst 1, 1), (110, .invokestatic 135, 3), (113, .iload_n 3, 1), (114, .if_icmp .ne 7, 3), (117, .iconst 1, 1), (118, .goto 4, 3), (121, .iconst 0, 1), (122, .istore 4, 2), (124, .iinc 6 1, 3), (127, .goto (-93), 3), (130, .iinc 5 1, 3), (133, .goto (-119), 3), (136, .iload 4, 2), (138, .ireturn, 1)]
set_option maxRecDepth 100000 in
theorem kX5_hasCorner_ok : ∀ (i : Nat) (q : Nat × Instr × Nat), kX5_hasCorner[i]? = some q → decode cX5_hasCorner q.1 = .ok q.2 := tbl_ok (by decide +kernel)
theorem okX5_hasCorner : OKV RX5 yX5_hasCorner cX5_hasCorner 8 (some .boolean) 3 := ⟨w_450, w_451, w_372, w_452, rfl, by decide +kernel, by decide +kernel, by decide +kernel⟩
def kX5_mismatch : List (Nat × Instr × Nat) := [(0, .aload_n 0, 1), (1, .iload_n 1, 1), (2, .iconst 0, 1), (3, .iconst 5, 1), (4, .invokestatic 91, 3), (7, .ifCond .eq 16, 3), (10, .iload_n 2, 1), (11, .iconst 0, 1), (12, .iconst 4, 1), (13, .invokestatic 91, 3), (16, .ifCond .eq 7, 3), (19, .iconst 1, 1), (20, .goto 4, 3), (23, .iconst 0, 1), (24, .iconst 1, 1), (25, .invokevirtual 95, 3), (28, .ifCond .ne 5, 3), (31, .iconst 0, 1), (32, .ireturn, 1), (33, .bipush 6, 2), (35, .iload_n 1, 1), (36, .imul, 1), (37, .iload_n 2, 1), (38, .iadd, 1), (39, .istore_n 3, 1), (40, .aload_n 0, 1), (41, .getfield 31, 3), (44, .iload_n 3, 1), (45, .iaload, 1), (46, .iconst (-1), 1), (47, .if_icmp .eq 15, 3), (50, .aload_n 0, 1), (51, .getfield 31, 3), (54, .iload_n 3, 1), (55, .iconst 1, 1), (56, .iadd, 1), (57, .iaload, 1), (58, .iconst (-1), 1), (59, .if_icmp .ne 5, 3), (62, .iconst (-1), 1), (63, .ireturn, 1), (64, .iconst 0, 1), (65, .istore 4, 2), (67, .iconst 0, 1), (68, .istore 5, 2), (70, .iload 5, 2), (72, .bipush 96, 2), (74, .if_icmp .gt 42, 3), (77, .aload_n 0, 1), (78, .iload_n 3, 1), (79, .bipush 96, 2), (81, .iload 5, 2), (83, .invokevirtual 138, 3), (86, .aload_n 0, 1), (87, .iload_n 3, 1), (88, .iconst 1, 1), (89, .iadd, 1), (90, .iconst 0, 1), (91, .iload 5, 2), (93, .invokevirtual 138, 3), (96, .if_icmp .eq 10, 3), (99, .iload 4, 2), (101, .iconst 1, 1), (102, .iadd, 1), (103, .goto 5, 3), (106, .iload 4, 2), (108, .istore 4, 2), (110, .iinc 5 1, 3), (113, .goto (-43), 3), (116, .iload 4, 2), (118, .ireturn, 1)]
set_option maxRecDepth 100000 in
theorem kX5_mismatch_ok : ∀ (i : Nat) (q : Nat × Instr × Nat), kX5_mismatch[i]? = some q → decode cX5_mismatch q.1 = .ok q.2 := tbl_ok (by decide +kernel)
theorem okX5_mismatch : OKV RX5 yX5_mismatch cX5_mismatch 6 (some .int) 2 := ⟨w_453, w_454, w_372, w_455, rfl, by decide +kernel, by decide +kernel, by decide +kernel⟩
def kX5_swapped : List (Nat × Instr × Nat) := [(0, .iload_n 0, 1), (1, .iload_n 1, 1), (2, .if_icmp .ne 7, 3), (5, .iload_n 2, 1), (6, .goto 13, 3), (9, .iload_n 0, 1), (10, .iload_n 2, 1), (11, .if_icmp .ne 7, 3), (14, .iload_n 1, 1), (15, .goto 4, 3), (18, .iload_n 0, 1), (19, .ireturn, 1)]
set_option maxRecDepth 100000 in
theorem kX5_swapped_ok : ∀ (i : Nat) (q : Nat × Instr × Nat), kX5_swapped[i]? = some q → decode cX5_swapped q.1 = .ok q.2 := tbl_ok (by decide +kernel)
theorem okX5_swapped : OKS yX5_swapped cX5_swapped 3 (some .int) 3 := ⟨w_456, w_372, w_457, by decide +kernel, by decide +kernel, by decide +kernel⟩
def kX5_swap : List (Nat × Instr × Nat) := [(0, .aload_n 0, 1), (1, .iload_n 1, 1), (2, .invokestatic 99, 3), (5, .ifCond .eq 14, 3), (8, .iload_n 2, 1), (9, .invokestatic 99, 3), (12, .ifCond .eq 7, 3), (15, .iconst 1, 1), (16, .goto 4, 3), (19, .iconst 0, 1), (20, .iconst 1, 1), (21, .invokevirtual 95, 3), (24, .ifCond .ne 5, 3), (27, .iconst 0, 1), (28, .ireturn, 1), (29, .iconst 0, 1), (30, .istore_n 3, 1), (31, .iconst 0, 1), (32, .istore 4, 2), (34, .iload 4, 2), (36, .sipush 264, 3), (39, .if_icmp .ge 100, 3), (42, .aload_n 0, 1), (43, .getfield 7, 3), (46, .iload 4, 2), (48, .iaload, 1), (49, .ifCond .le 27, 3), (52, .iload 4, 2), (54, .sipush 240, 3), (57, .if_icmp .ge 15, 3), (60, .iload 4, 2), (62, .bipush 24, 2), (64, .aload_n 0, 1), (65, .getfield 132, 3), (68, .imul, 1), (69, .if_icmp .ge 7, 3), (72, .iconst 1, 1), (73, .goto 4, 3), (76, .iconst 0, 1), (77, .istore 5, 2), (79, .iload 5, 2), (81, .ifCond .eq 31, 3), (84, .aload_n 0, 1), (85, .getfield 13, 3), (88, .iload 4, 2), (90, .iaload, 1), (91, .iload_n 1, 1), (92, .if_icmp .eq 14, 3), (95, .aload_n 0, 1), (96, .getfield 13, 3), (99, .iload 4, 2), (101, .iaload, 1), (102, .iload_n 2, 1), (103, .if_icmp .ne 9, 3), (106, .iload_n 3, 1), (107, .iconst 1, 1), (108, .iadd, 1), (109, .goto 4, 3), (112, .iload_n 3, 1), (113, .istore_n 3, 1), (114, .aload_n 0, 1), (115, .getfield 13, 3), (118, .iload 4, 2), (120, .aload_n 0, 1), (121, .getfield 13, 3), (124, .iload 4, 2), (126, .iaload, 1), (127, .iload_n 1, 1), (128, .iload_n 2, 1), (129, .invokestatic 141, 3), (132, .iastore, 1), (133, .iinc 4 1, 3), (136, .goto (-102), 3), (139, .aload_n 0, 1), (140, .getfield 40, 3), (143, .iconst 0, 1), (144, .aload_n 0, 1), (145, .getfield 40, 3), (148, .iconst 0, 1), (149, .iaload, 1), (150, .iload_n 1, 1), (151, .iload_n 2, 1), (152, .invokestatic 141, 3), (155, .iastore, 1), (156, .aload_n 0, 1), (157, .getfield 40, 3), (160, .iconst 1, 1), (161, .aload_n 0, 1), (162, .getfield 40, 3), (165, .iconst 1, 1), (166, .iaload, 1), (167, .iload_n 1, 1), (168, .iload_n 2, 1), (169, .invokestatic 141, 3), (172, .iastore, 1), (173, .iload_n 3, 1), (174, .ireturn, 1)]
set_option maxRecDepth 100000 in
theorem kX5_swap_ok : ∀ (i : Nat) (q : Nat × Instr × Nat), kX5_swap[i]? = some q → decode cX5_swap q.1 = .ok q.2 := tbl_ok (by decide +kernel)
theorem okX5_swap : OKV RX5 yX5_swap cX5_swap 6 (some .int) 2 := ⟨w_458, w_459, w_372, w_460, rfl, by decide +kernel, by decide +kernel, by decide +kernel⟩
def kX5_area : List (Nat × Instr × Nat) := [(0, .aload_n 0, 1), (1, .iload_n 1, 1), (2, .invokestatic 99, 3), (5, .iconst 1, 1), (6, .invokevirtual 95, 3), (9, .ifCond .ne 5, 3), (12, .iconst 0, 1), (13, .ireturn, 1), (14, .iconst 0, 1), (15, .istore_n 2, 1), (16, .iconst 0, 1), (17, .istore_n 3, 1), (18, .iload_n 3, 1), (19, .bipush 36, 2), (21, .if_icmp .ge 87, 3), (24, .bipush 24, 2), (26, .aload_n 0, 1), (27, .getfield 31, 3), (30, .iload_n 3, 1), (31, .iaload, 1), (32, .imul, 1), (33, .istore 4, 2), (35, .iload 4, 2), (37, .bipush 24, 2), (39, .aload_n 0, 1), (40, .getfield 31, 3), (43, .iload_n 3, 1), (44, .iaload, 1), (45, .imul, 1), (46, .bipush 24, 2), (48, .iadd, 1), (49, .if_icmp .ge 53, 3), (52, .aload_n 0, 1), (53, .getfield 31, 3), (56, .iload_n 3, 1), (57, .iaload, 1), (58, .iconst (-1), 1), (59, .if_icmp .eq 43, 3), (62, .aload_n 0, 1), (63, .getfield 7, 3), (66, .iload 4, 2), (68, .iaload, 1), (69, .ifCond .le 25, 3), (72, .aload_n 0, 1), (73, .getfield 13, 3), (76, .iload 4, 2), (78, .iaload, 1), (79, .iload_n 1, 1), (80, .if_icmp .ne 14, 3), (83, .iload_n 2, 1), (84, .aload_n 0, 1), (85, .iload 4, 2), (87, .invokevirtual 105, 3), (90, .iadd, 1), (91, .goto 4, 3), (94, .iload_n 2, 1), (95, .istore_n 2, 1), (96, .iinc 4 1, 3), (99, .goto (-64), 3), (102, .iinc 3 1, 3), (105, .goto (-87), 3), (108, .iload_n 2, 1), (109, .ireturn, 1)]
set_option maxRecDepth 100000 in
theorem kX5_area_ok : ∀ (i : Nat) (q : Nat × Instr × Nat), kX5_area[i]? = some q → decode cX5_area q.1 = .ok q.2 := tbl_ok (by decide +kernel)
theorem okX5_area : OKV RX5 yX5_area cX5_area 5 (some .int) 1 := ⟨w_461, w_462, w_372, w_463, rfl, by decide +kernel, by decide +kernel, by decide +kernel⟩
def kX5_rows : List (Nat × Instr × Nat) := [(0, .iconst 0, 1), (1, .istore_n 1, 1), (2, .iconst 0, 1), (3, .istore_n 2, 1), (4, .iload_n 2, 1), (5, .bipush 36, 2), (7, .if_icmp .ge 30, 3), (10, .aload_n 0, 1), (11, .getfield 31, 3), (14, .iload_n 2, 1), (15, .iaload, 1), (16, .iconst (-1), 1), (17, .if_icmp .eq 12, 3), (20, .iload_n 2, 1), (21, .bipush 6, 2), (23, .idiv, 1), (24, .iconst 1, 1), (25, .iadd, 1), (26, .goto 4, 3), (29, .iload_n 1, 1), (30, .istore_n 1, 1), (31, .iinc 2 1, 3), (34, .goto (-30), 3), (37, .iload_n 1, 1), (38, .ireturn, 1)]
set_option maxRecDepth 100000 in
theorem kX5_rows_ok : ∀ (i : Nat) (q : Nat × Instr × Nat), kX5_rows[i]? = some q → decode cX5_rows q.1 = .ok q.2 := tbl_ok (by decide +kernel)
theorem okX5_rows : OKV RX5 yX5_rows cX5_rows 3 (some .int) 0 := ⟨w_464, w_465, w_372, w_466, rfl, by decide +kernel, by decide +kernel, by decide +kernel⟩
def kX5_columns : List (Nat × Instr × Nat) := [(0, .iconst 0, 1), (1, .istore_n 1, 1), (2, .iconst 0, 1), (3, .istore_n 2, 1), (4, .iload_n 2, 1), (5, .bipush 36, 2), (7, .if_icmp .ge 40, 3), (10, .aload_n 0, 1), (11, .getfield 31, 3), (14, .iload_n 2, 1), (15, .iaload, 1), (16, .iconst (-1), 1), (17, .if_icmp .eq 22, 3), (20, .iload_n 2, 1), (21, .bipush 6, 2), (23, .irem, 1), (24, .iconst 1, 1), (25, .iadd, 1), (26, .iload_n 1, 1), (27, .if_icmp .le 12, 3), (30, .iload_n 2, 1), (31, .bipush 6, 2), (33, .irem, 1), (34, .iconst 1, 1), (35, .iadd, 1), (36, .goto 4, 3), (39, .iload_n 1, 1), (40, .istore_n 1, 1), (41, .iinc 2 1, 3), (44, .goto (-40), 3), (47, .iload_n 1, 1), (48, .ireturn, 1)]
set_option maxRecDepth 100000 in
theorem kX5_columns_ok : ∀ (i : Nat) (q : Nat × Instr × Nat), kX5_columns[i]? = some q → decode cX5_columns q.1 = .ok q.2 := tbl_ok (by decide +kernel)
theorem okX5_columns : OKV RX5 yX5_columns cX5_columns 3 (some .int) 0 := ⟨w_467, w_468, w_372, w_469, rfl, by decide +kernel, by decide +kernel, by decide +kernel⟩
def kX5_across : List (Nat × Instr × Nat) := [(0, .iload_n 1, 1), (1, .ifCond .ne 7, 3), (4, .iconst 0, 1), (5, .goto 18, 3), (8, .bipush 96, 2), (10, .iload_n 1, 1), (11, .imul, 1), (12, .aload_n 0, 1), (13, .getfield 37, 3), (16, .iconst 0, 1), (17, .iaload, 1), (18, .iload_n 1, 1), (19, .iconst 1, 1), (20, .isub, 1), (21, .imul, 1), (22, .iadd, 1), (23, .ireturn, 1)]
set_option maxRecDepth 100000 in
theorem kX5_across_ok : ∀ (i : Nat) (q : Nat × Instr × Nat), kX5_across[i]? = some q → decode cX5_across q.1 = .ok q.2 := tbl_ok (by decide +kernel)
theorem okX5_across : OKV RX5 yX5_across cX5_across 2 (some .int) 1 := ⟨w_470, w_471, w_372, w_472, rfl, by decide +kernel, by decide +kernel, by decide +kernel⟩
def kX5_cutOf : List (Nat × Instr × Nat) := [(0, .aload_n 0, 1), (1, .getfield 43, 3), (4, .aload_n 0, 1), (5, .getfield 144, 3), (8, .iload_n 1, 1), (9, .iload_n 2, 1), (10, .if_icmp .le 7, 3), (13, .iload_n 1, 1), (14, .goto 4, 3), (17, .iload_n 2, 1), (18, .iastore, 1), (19, .aload_n 0, 1), (20, .getfield 46, 3), (23, .aload_n 0, 1), (24, .getfield 144, 3), (27, .iload_n 1, 1), (28, .iload_n 2, 1), (29, .if_icmp .le 7, 3), (32, .iload_n 2, 1), (33, .goto 4, 3), (36, .iload_n 1, 1), (37, .iastore, 1), (38, .aload_n 0, 1), (39, .getfield 49, 3), (42, .aload_n 0, 1), (43, .getfield 144, 3), (46, .iload_n 3, 1), (47, .iastore, 1), (48, .aload_n 0, 1), (49, .dup, 1), (50, .getfield 144, 3), (53, .iconst 1, 1), (54, .iadd, 1), (55, .putfield 144, 3), (58, .return_, 1)]
set_option maxRecDepth 100000 in
theorem kX5_cutOf_ok : ∀ (i : Nat) (q : Nat × Instr × Nat), kX5_cutOf[i]? = some q → decode cX5_cutOf q.1 = .ok q.2 := tbl_ok (by decide +kernel)
theorem okX5_cutOf : OKV RX5 yX5_cutOf cX5_cutOf 4 none 3 := ⟨w_473, w_474, w_372, w_475, rfl, by decide +kernel, by decide +kernel, by decide +kernel⟩
def kX5_gap : List (Nat × Instr × Nat) := [(0, .iload_n 0, 1), (1, .iload_n 1, 1), (2, .if_icmp .le 9, 3), (5, .iload_n 0, 1), (6, .iload_n 1, 1), (7, .isub, 1), (8, .goto 6, 3), (11, .iload_n 1, 1), (12, .iload_n 0, 1), (13, .isub, 1), (14, .ireturn, 1)]
set_option maxRecDepth 100000 in
theorem kX5_gap_ok : ∀ (i : Nat) (q : Nat × Instr × Nat), kX5_gap[i]? = some q → decode cX5_gap q.1 = .ok q.2 := tbl_ok (by decide +kernel)
theorem okX5_gap : OKS yX5_gap cX5_gap 2 (some .int) 2 := ⟨w_476, w_372, w_477, by decide +kernel, by decide +kernel, by decide +kernel⟩
def kX5_half : List (Nat × Instr × Nat) := [(0, .aload_n 0, 1), (1, .getfield 7, 3), (4, .iload_n 1, 1), (5, .iaload, 1), (6, .iconst 3, 1), (7, .if_icmp .eq 5, 3), (10, .iconst 0, 1), (11, .ireturn, 1), (12, .iconst 0, 1), (13, .istore_n 2, 1), (14, .iconst 0, 1), (15, .istore_n 3, 1), (16, .iconst 0, 1), (17, .istore 4, 2), (19, .iload 4, 2), (21, .iconst 3, 1), (22, .if_icmp .ge 105, 3), (25, .bipush 8, 2), (27, .iload_n 1, 1), (28, .imul, 1), (29, .iload 4, 2), (31, .iadd, 1), (32, .istore 5, 2), (34, .aload_n 0, 1), (35, .iload_n 1, 1), (36, .iload 4, 2), (38, .invokevirtual 75, 3), (41, .istore 6, 2), (43, .aload_n 0, 1), (44, .getfield 19, 3), (47, .iload 5, 2), (49, .iaload, 1), (50, .aload_n 0, 1), (51, .getfield 19, 3), (54, .iload 6, 2), (56, .iaload, 1), (57, .if_icmp .ne 23, 3), (60, .aload_n 0, 1), (61, .getfield 16, 3), (64, .iload 5, 2), (66, .iaload, 1), (67, .aload_n 0, 1), (68, .getfield 16, 3), (71, .iload 6, 2), (73, .iaload, 1), (74, .invokestatic 147, 3), (77, .goto 4, 3), (80, .iload_n 2, 1), (81, .istore_n 2, 1), (82, .aload_n 0, 1), (83, .getfield 16, 3), (86, .iload 5, 2), (88, .iaload, 1), (89, .aload_n 0, 1), (90, .getfield 16, 3), (93, .iload 6, 2), (95, .iaload, 1), (96, .if_icmp .ne 23, 3), (99, .aload_n 0, 1), (100, .getfield 19, 3), (103, .iload 5, 2), (105, .iaload, 1), (106, .aload_n 0, 1), (107, .getfield 19, 3), (110, .iload 6, 2), (112, .iaload, 1), (113, .invokestatic 147, 3), (116, .goto 4, 3), (119, .iload_n 3, 1), (120, .istore_n 3, 1), (121, .iinc 4 1, 3), (124, .goto (-105), 3), (127, .iload_n 2, 1), (128, .iload_n 3, 1), (129, .if_icmp .ne 7, 3), (132, .iload_n 2, 1), (133, .goto 4, 3), (136, .iconst 0, 1), (137, .ireturn, 1)]
set_option maxRecDepth 100000 in
theorem kX5_half_ok : ∀ (i : Nat) (q : Nat × Instr × Nat), kX5_half[i]? = some q → decode cX5_half q.1 = .ok q.2 := tbl_ok (by decide +kernel)
theorem okX5_half : OKV RX5 yX5_half cX5_half 7 (some .int) 1 := ⟨w_478, w_479, w_372, w_480, rfl, by decide +kernel, by decide +kernel, by decide +kernel⟩
def kX5_spread : List (Nat × Instr × Nat) := [(0, .bipush 96, 2), (2, .istore_n 3, 1), (3, .iconst 0, 1), (4, .istore 4, 2), (6, .iconst 0, 1), (7, .istore 5, 2), (9, .iload 5, 2), (11, .aload_n 0, 1), (12, .getfield 7, 3), (15, .iload_n 1, 1), (16, .iaload, 1), (17, .if_icmp .ge 66, 3), (20, .aload_n 2, 1), (21, .bipush 8, 2), (23, .iload_n 1, 1), (24, .imul, 1), (25, .iload 5, 2), (27, .iadd, 1), (28, .iaload, 1), (29, .iload_n 3, 1), (30, .if_icmp .ge 15, 3), (33, .aload_n 2, 1), (34, .bipush 8, 2), (36, .iload_n 1, 1), (37, .imul, 1), (38, .iload 5, 2), (40, .iadd, 1), (41, .iaload, 1), (42, .goto 4, 3), (45, .iload_n 3, 1), (46, .istore_n 3, 1), (47, .aload_n 2, 1), (48, .bipush 8, 2), (50, .iload_n 1, 1), (51, .imul, 1), (52, .iload 5, 2), (54, .iadd, 1), (55, .iaload, 1), (56, .iload 4, 2), (58, .if_icmp .le 15, 3), (61, .aload_n 2, 1), (62, .bipush 8, 2), (64, .iload_n 1, 1), (65, .imul, 1), (66, .iload 5, 2), (68, .iadd, 1), (69, .iaload, 1), (70, .goto 5, 3), (73, .iload 4, 2), (75, .istore 4, 2), (77, .iinc 5 1, 3), (80, .goto (-71), 3), (83, .iload 4, 2), (85, .iload_n 3, 1), (86, .isub, 1), (87, .ireturn, 1)]
set_option maxRecDepth 100000 in
theorem kX5_spread_ok : ∀ (i : Nat) (q : Nat × Instr × Nat), kX5_spread[i]? = some q → decode cX5_spread q.1 = .ok q.2 := tbl_ok (by decide +kernel)
theorem okX5_spread : OKV RX5 yX5_spread cX5_spread 6 (some .int) 2 := ⟨w_481, w_482, w_372, w_483, rfl, by decide +kernel, by decide +kernel, by decide +kernel⟩
def kX5_cutPatch : List (Nat × Instr × Nat) := [(0, .aload_n 0, 1), (1, .iload_n 1, 1), (2, .invokevirtual 150, 3), (5, .istore_n 2, 1), (6, .iload_n 2, 1), (7, .ifCond .ne 33, 3), (10, .aload_n 0, 1), (11, .aload_n 0, 1), (12, .iload_n 1, 1), (13, .aload_n 0, 1), (14, .getfield 16, 3), (17, .invokevirtual 153, 3), (20, .bipush 12, 2), (22, .iadd, 1), (23, .aload_n 0, 1), (24, .iload_n 1, 1), (25, .aload_n 0, 1), (26, .getfield 19, 3), (29, .invokevirtual 153, 3), (32, .bipush 12, 2), (34, .iadd, 1), (35, .iconst 0, 1), (36, .invokevirtual 157, 3), (39, .return_, 1), (40, .aload_n 0, 1), (41, .getfield 56, 3), (44, .iload_n 2, 1), (45, .baload, 1), (46, .ifCond .ne 16, 3), (49, .aload_n 0, 1), (50, .iload_n 2, 1), (51, .bipush 21, 2), (53, .iadd, 1), (54, .iload_n 2, 1), (55, .bipush 21, 2), (57, .iadd, 1), (58, .iconst 1, 1), (59, .invokevirtual 157, 3), (62, .aload_n 0, 1), (63, .getfield 56, 3), (66, .iload_n 2, 1), (67, .aload_n 0, 1), (68, .getfield 56, 3), (71, .iload_n 2, 1), (72, .baload, 1), (73, .ifCond .ne 7, 3), (76, .iconst 1, 1), (77, .goto 4, 3), (80, .iconst 0, 1), (81, .bastore, 1), (82, .return_, 1)]
set_option maxRecDepth 100000 in
theorem kX5_cutPatch_ok : ∀ (i : Nat) (q : Nat × Instr × Nat), kX5_cutPatch[i]? = some q → decode cX5_cutPatch q.1 = .ok q.2 := tbl_ok (by decide +kernel)
theorem okX5_cutPatch : OKV RX5 yX5_cutPatch cX5_cutPatch 3 none 1 := ⟨w_484, w_485, w_372, w_486, rfl, by decide +kernel, by decide +kernel, by decide +kernel⟩
def kX5_list : List (Nat × Instr × Nat) := [(0, .aload_n 0, 1), (1, .iconst 0, 1), (2, .putfield 144, 3), (5, .iconst 0, 1), (6, .istore_n 2, 1), (7, .iload_n 2, 1), (8, .bipush 97, 2), (10, .if_icmp .ge 16, 3), (13, .aload_n 0, 1), (14, .getfield 56, 3), (17, .iload_n 2, 1), (18, .iconst 0, 1), (19, .bastore, 1), (20, .iinc 2 1, 3), (23, .goto (-16), 3), (26, .iconst 0, 1), (27, .istore_n 2, 1), (28, .iload_n 2, 1), (29, .bipush 36, 2), (31, .if_icmp .ge 75, 3), (34, .bipush 24, 2), (36, .aload_n 0, 1), (37, .getfield 31, 3), (40, .iload_n 2, 1), (41, .iaload, 1), (42, .imul, 1), (43, .istore_n 3, 1), (44, .iload_n 3, 1), (45, .bipush 24, 2), (47, .aload_n 0, 1), (48, .getfield 31, 3), (51, .iload_n 2, 1), (52, .iaload, 1), (53, .imul, 1), (54, .bipush 24, 2), (56, .iadd, 1), (57, .if_icmp .ge 43, 3), (60, .aload_n 0, 1), (61, .getfield 31, 3), (64, .iload_n 2, 1), (65, .iaload, 1), (66, .iconst (-1), 1), (67, .if_icmp .eq 33, 3), (70, .aload_n 0, 1), (71, .getfield 7, 3), (74, .iload_n 3, 1), (75, .iaload, 1), (76, .ifCond .le 18, 3), (79, .aload_n 0, 1), (80, .getfield 13, 3), (83, .iload_n 3, 1), (84, .iaload, 1), (85, .iload_n 1, 1), (86, .if_icmp .ne 8, 3), (89, .aload_n 0, 1), (90, .iload_n 3, 1), (91, .invokevirtual 161, 3), (94, .iinc 3 1, 3), (97, .goto (-53), 3), (100, .iinc 2 1, 3), (103, .goto (-75), 3), (106, .aload_n 0, 1), (107, .invokevirtual 165, 3), (110, .istore_n 2, 1), (111, .aload_n 0, 1), (112, .invokevirtual 168, 3), (115, .istore_n 3, 1), (116, .aload_n 0, 1), (117, .getfield 37, 3), (120, .iconst 0, 1), (121, .iaload, 1), (122, .ifCond .le 17, 3), (125, .aload_n 0, 1), (126, .getfield 40, 3), (129, .iconst 0, 1), (130, .iaload, 1), (131, .iload_n 1, 1), (132, .if_icmp .ne 7, 3), (135, .iconst 1, 1), (136, .goto 4, 3), (139, .iconst 0, 1), (140, .istore 4, 2), (142, .iconst 0, 1), (143, .istore 5, 2), (145, .iload 5, 2), (147, .iload_n 2, 1), (148, .iload_n 3, 1), (149, .iconst 1, 1), (150, .isub, 1), (151, .imul, 1), (152, .if_icmp .ge 30, 3), (155, .iload 4, 2), (157, .ifCond .eq 25, 3), (160, .aload_n 0, 1), (161, .bipush 108, 2), (163, .aload_n 0, 1), (164, .getfield 37, 3), (167, .iconst 0, 1), (168, .iaload, 1), (169, .bipush 12, 2), (171, .iadd, 1), (172, .iconst 2, 1), (173, .invokevirtual 157, 3), (176, .iinc 5 1, 3), (179, .goto (-34), 3), (182, .iconst 1, 1), (183, .istore 5, 2), (185, .iload 5, 2), (187, .iload_n 2, 1), (188, .if_icmp .ge 36, 3), (191, .iload 4, 2), (193, .ifCond .eq 31, 3), (196, .aload_n 0, 1), (197, .aload_n 0, 1), (198, .iload_n 3, 1), (199, .invokevirtual 171, 3), (202, .bipush 12, 2), (204, .iadd, 1), (205, .aload_n 0, 1), (206, .getfield 37, 3), (209, .iconst 0, 1), (210, .iaload, 1), (211, .bipush 12, 2), (213, .iadd, 1), (214, .iconst 2, 1), (215, .invokevirtual 157, 3), (218, .iinc 5 1, 3), (221, .goto (-36), 3), (224, .aload_n 0, 1), (225, .getfield 37, 3), (228, .iconst 1, 1), (229, .iaload, 1), (230, .ifCond .le 21, 3), (233, .aload_n 0, 1), (234, .getfield 40, 3), (237, .iconst 1, 1), (238, .iaload, 1), (239, .iload_n 1, 1), (240, .if_icmp .ne 11, 3), (243, .iload_n 2, 1), (244, .ifCond .le 7, 3), (247, .iconst 1, 1), (248, .goto 4, 3), (251, .iconst 0, 1), (252, .istore 5, 2), (254, .iconst 0, 1), (255, .istore 6, 2), (257, .iload 6, 2), (259, .iconst 4, 1), (260, .if_icmp .ge 62, 3), (263, .iload 5, 2), (265, .ifCond .eq 57, 3), (268, .aload_n 0, 1), (269, .iload 6, 2), (271, .iconst 2, 1), (272, .if_icmp .ge 14, 3), (275, .aload_n 0, 1), (276, .iload_n 3, 1), (277, .invokevirtual 171, 3), (280, .bipush 12, 2), (282, .iadd, 1), (283, .goto 20, 3), (286, .aload_n 0, 1), (287, .iload_n 2, 1), (288, .invokevirtual 171, 3), (291, .iconst 2, 1), (292, .aload_n 0, 1), (293, .getfield 37, 3), (296, .iconst 1, 1), (297, .iaload, 1), (298, .imul, 1), (299, .iadd, 1), (300, .bipush 12, 2), (302, .iadd, 1), (303, .aload_n 0, 1), (304, .getfield 37, 3), (307, .iconst 1, 1), (308, .iaload, 1), (309, .bipush 12, 2), (311, .iadd, 1), (312, .iconst 3, 1), (313, .invokevirtual 157, 3), (316, .iinc 6 1, 3), (319, .goto (-62), 3), (322, .return_, 1)]
set_option maxRecDepth 100000 in
theorem kX5_list_ok : ∀ (i : Nat) (q : Nat × Instr × Nat), kX5_list[i]? = some q → decode cX5_list q.1 = .ok q.2 := tbl_ok (by decide +kernel)
theorem okX5_list : OKV RX5 yX5_list cX5_list 7 none 1 := ⟨w_487, w_488, w_372, w_489, rfl, by decide +kernel, by decide +kernel, by decide +kernel⟩
def kX5_nextCut : List (Nat × Instr × Nat) := [(0, .iconst (-1), 1), (1, .istore_n 1, 1), (2, .iconst 0, 1), (3, .istore_n 2, 1), (4, .iload_n 2, 1), (5, .aload_n 0, 1), (6, .getfield 144, 3), (9, .if_icmp .ge 84, 3), (12, .aload_n 0, 1), (13, .getfield 52, 3), (16, .iload_n 2, 1), (17, .baload, 1), (18, .ifCond .ne 57, 3), (21, .iload_n 1, 1), (22, .iconst (-1), 1), (23, .if_icmp .eq 48, 3), (26, .aload_n 0, 1), (27, .getfield 46, 3), (30, .iload_n 2, 1), (31, .iaload, 1), (32, .aload_n 0, 1), (33, .getfield 46, 3), (36, .iload_n 1, 1), (37, .iaload, 1), (38, .if_icmp .gt 33, 3), (41, .aload_n 0, 1), (42, .getfield 46, 3), (45, .iload_n 2, 1), (46, .iaload, 1), (47, .aload_n 0, 1), (48, .getfield 46, 3), (51, .iload_n 1, 1), (52, .iaload, 1), (53, .if_icmp .ne 22, 3), (56, .aload_n 0, 1), (57, .getfield 43, 3), (60, .iload_n 2, 1), (61, .iaload, 1), (62, .aload_n 0, 1), (63, .getfield 43, 3), (66, .iload_n 1, 1), (67, .iaload, 1), (68, .if_icmp .le 7, 3), (71, .iconst 1, 1), (72, .goto 4, 3), (75, .iconst 0, 1), (76, .istore_n 3, 1), (77, .iload_n 3, 1), (78, .ifCond .eq 7, 3), (81, .iload_n 2, 1), (82, .goto 4, 3), (85, .iload_n 1, 1), (86, .istore_n 1, 1), (87, .iinc 2 1, 3), (90, .goto (-86), 3), (93, .iload_n 1, 1), (94, .ireturn, 1)]
set_option maxRecDepth 100000 in
theorem kX5_nextCut_ok : ∀ (i : Nat) (q : Nat × Instr × Nat), kX5_nextCut[i]? = some q → decode cX5_nextCut q.1 = .ok q.2 := tbl_ok (by decide +kernel)
theorem okX5_nextCut : OKV RX5 yX5_nextCut cX5_nextCut 4 (some .int) 0 := ⟨w_490, w_491, w_372, w_492, rfl, by decide +kernel, by decide +kernel, by decide +kernel⟩
def kX5_lay : List (Nat × Instr × Nat) := [(0, .aload_n 0, 1), (1, .iload_n 1, 1), (2, .invokevirtual 174, 3), (5, .aload_n 0, 1), (6, .iconst 0, 1), (7, .putfield 177, 3), (10, .aload_n 0, 1), (11, .iconst 0, 1), (12, .putfield 180, 3), (15, .iconst 0, 1), (16, .istore_n 2, 1), (17, .iload_n 2, 1), (18, .aload_n 0, 1), (19, .getfield 144, 3), (22, .if_icmp .ge 16, 3), (25, .aload_n 0, 1), (26, .getfield 52, 3), (29, .iload_n 2, 1), (30, .iconst 0, 1), (31, .bastore, 1), (32, .iinc 2 1, 3), (35, .goto (-18), 3), (38, .iconst 0, 1), (39, .istore_n 2, 1), (40, .iload_n 2, 1), (41, .aload_n 0, 1), (42, .getfield 144, 3), (45, .if_icmp .ge 150, 3), (48, .aload_n 0, 1), (49, .invokevirtual 183, 3), (52, .istore_n 3, 1), (53, .aload_n 0, 1), (54, .getfield 52, 3), (57, .iload_n 3, 1), (58, .iconst 1, 1), (59, .bastore, 1), (60, .iconst 0, 1), (61, .istore 4, 2), (63, .iload 4, 2), (65, .aload_n 0, 1), (66, .getfield 177, 3), (69, .if_icmp .ge 29, 3), (72, .aload_n 0, 1), (73, .getfield 68, 3), (76, .iload 4, 2), (78, .iaload, 1), (79, .aload_n 0, 1), (80, .getfield 43, 3), (83, .iload_n 3, 1), (84, .iaload, 1), (85, .iadd, 1), (86, .sipush 1008, 3), (89, .if_icmp .le 9, 3), (92, .iinc 4 1, 3), (95, .goto (-32), 3), (98, .iload 4, 2), (100, .aload_n 0, 1), (101, .getfield 177, 3), (104, .if_icmp .ne 36, 3), (107, .aload_n 0, 1), (108, .getfield 68, 3), (111, .iload 4, 2), (113, .iconst 0, 1), (114, .iastore, 1), (115, .aload_n 0, 1), (116, .dup, 1), (117, .getfield 177, 3), (120, .iconst 1, 1), (121, .iadd, 1), (122, .putfield 177, 3), (125, .aload_n 0, 1), (126, .aload_n 0, 1), (127, .getfield 180, 3), (130, .aload_n 0, 1), (131, .getfield 46, 3), (134, .iload_n 3, 1), (135, .iaload, 1), (136, .iadd, 1), (137, .putfield 180, 3), (140, .aload_n 0, 1), (141, .getfield 59, 3), (144, .iload_n 2, 1), (145, .iload_n 3, 1), (146, .iastore, 1), (147, .aload_n 0, 1), (148, .getfield 62, 3), (151, .iload_n 2, 1), (152, .iload 4, 2), (154, .iastore, 1), (155, .aload_n 0, 1), (156, .getfield 65, 3), (159, .iload_n 2, 1), (160, .aload_n 0, 1), (161, .getfield 68, 3), (164, .iload 4, 2), (166, .iaload, 1), (167, .iastore, 1), (168, .aload_n 0, 1), (169, .getfield 68, 3), (172, .iload 4, 2), (174, .aload_n 0, 1), (175, .getfield 68, 3), (178, .iload 4, 2), (180, .iaload, 1), (181, .aload_n 0, 1), (182, .getfield 43, 3), (185, .iload_n 3, 1), (186, .iaload, 1), (187, .iadd, 1), (188, .iastore, 1), (189, .iinc 2 1, 3), (192, .goto (-152), 3), (195, .return_, 1)]
set_option maxRecDepth 100000 in
theorem kX5_lay_ok : ∀ (i : Nat) (q : Nat × Instr × Nat), kX5_lay[i]? = some q → decode cX5_lay q.1 = .ok q.2 := tbl_ok (by decide +kernel)
theorem okX5_lay : OKV RX5 yX5_lay cX5_lay 5 none 1 := ⟨w_493, w_494, w_372, w_495, rfl, by decide +kernel, by decide +kernel, by decide +kernel⟩
def kX5_need : List (Nat × Instr × Nat) := [(0, .aload_n 0, 1), (1, .iload_n 1, 1), (2, .invokestatic 99, 3), (5, .iload_n 2, 1), (6, .iconst 0, 1), (7, .iconst 2, 1), (8, .invokestatic 91, 3), (11, .invokevirtual 95, 3), (14, .ifCond .ne 5, 3), (17, .iconst 0, 1), (18, .ireturn, 1), (19, .aload_n 0, 1), (20, .iload_n 1, 1), (21, .invokevirtual 186, 3), (24, .iload_n 2, 1), (25, .ifCond .ne 10, 3), (28, .aload_n 0, 1), (29, .getfield 144, 3), (32, .goto 19, 3), (35, .iload_n 2, 1), (36, .iconst 1, 1), (37, .if_icmp .ne 10, 3), (40, .aload_n 0, 1), (41, .getfield 177, 3), (44, .goto 7, 3), (47, .aload_n 0, 1), (48, .getfield 180, 3), (51, .ireturn, 1)]
set_option maxRecDepth 100000 in
theorem kX5_need_ok : ∀ (i : Nat) (q : Nat × Instr × Nat), kX5_need[i]? = some q → decode cX5_need q.1 = .ok q.2 := tbl_ok (by decide +kernel)
theorem okX5_need : OKV RX5 yX5_need cX5_need 3 (some .int) 2 := ⟨w_496, w_497, w_372, w_498, rfl, by decide +kernel, by decide +kernel, by decide +kernel⟩
def kX5_cut : List (Nat × Instr × Nat) := [(0, .iload_n 1, 1), (1, .invokestatic 99, 3), (4, .ifCond .eq 11, 3), (7, .iload_n 2, 1), (8, .ifCond .lt 7, 3), (11, .iconst 1, 1), (12, .goto 4, 3), (15, .iconst 0, 1), (16, .istore 4, 2), (18, .iload 4, 2), (20, .ifCond .eq 8, 3), (23, .aload_n 0, 1), (24, .iload_n 1, 1), (25, .invokevirtual 186, 3), (28, .aload_n 0, 1), (29, .iload 4, 2), (31, .ifCond .eq 15, 3), (34, .iload_n 2, 1), (35, .aload_n 0, 1), (36, .getfield 144, 3), (39, .if_icmp .ge 7, 3), (42, .iconst 1, 1), (43, .goto 4, 3), (46, .iconst 0, 1), (47, .iload_n 3, 1), (48, .iconst 0, 1), (49, .iconst 4, 1), (50, .invokestatic 91, 3), (53, .invokevirtual 95, 3), (56, .ifCond .ne 5, 3), (59, .iconst 0, 1), (60, .ireturn, 1), (61, .iload_n 3, 1), (62, .tableswitch 68 0 3 #[30, 37, 44, 56], 30), (92, .aload_n 0, 1), (93, .getfield 62, 3), (96, .iload_n 2, 1), (97, .iaload, 1), (98, .ireturn, 1), (99, .aload_n 0, 1), (100, .getfield 65, 3), (103, .iload_n 2, 1), (104, .iaload, 1), (105, .ireturn, 1), (106, .aload_n 0, 1), (107, .getfield 43, 3), (110, .aload_n 0, 1), (111, .getfield 59, 3), (114, .iload_n 2, 1), (115, .iaload, 1), (116, .iaload, 1), (117, .ireturn, 1), (118, .aload_n 0, 1), (119, .getfield 46, 3), (122, .aload_n 0, 1), (123, .getfield 59, 3), (126, .iload_n 2, 1), (127, .iaload, 1), (128, .iaload, 1), (129, .ireturn, 1), (130, .aload_n 0, 1), (131, .getfield 49, 3), (134, .aload_n 0, 1), (135, .getfield 59, 3), (138, .iload_n 2, 1), (139, .iaload, 1), (140, .iaload, 1), (141, .ireturn, 1)]
set_option maxRecDepth 100000 in
theorem kX5_cut_ok : ∀ (i : Nat) (q : Nat × Instr × Nat), kX5_cut[i]? = some q → decode cX5_cut q.1 = .ok q.2 := tbl_ok (by decide +kernel)
theorem okX5_cut : OKV RX5 yX5_cut cX5_cut 5 (some .int) 3 := ⟨w_499, w_500, w_372, w_501, rfl, by decide +kernel, by decide +kernel, by decide +kernel⟩
def kX5_count : List (Nat × Instr × Nat) := [(0, .aload_n 0, 1), (1, .iload_n 1, 1), (2, .iconst 0, 1), (3, .bipush 6, 2), (5, .invokestatic 91, 3), (8, .iconst 1, 1), (9, .invokevirtual 95, 3), (12, .ifCond .ne 5, 3), (15, .iconst 0, 1), (16, .ireturn, 1), (17, .iconst 0, 1), (18, .istore_n 2, 1), (19, .iconst 0, 1), (20, .istore_n 3, 1), (21, .iload_n 3, 1), (22, .bipush 36, 2), (24, .if_icmp .ge 27, 3), (27, .aload_n 0, 1), (28, .getfield 31, 3), (31, .iload_n 3, 1), (32, .iaload, 1), (33, .iconst (-1), 1), (34, .if_icmp .eq 9, 3), (37, .iload_n 2, 1), (38, .iconst 1, 1), (39, .iadd, 1), (40, .goto 4, 3), (43, .iload_n 2, 1), (44, .istore_n 2, 1), (45, .iinc 3 1, 3), (48, .goto (-27), 3), (51, .iload_n 1, 1), (52, .tableswitch 88 0 5 #[40, 45, 50, 52, 57, 62], 40), (92, .aload_n 0, 1), (93, .invokevirtual 109, 3), (96, .ireturn, 1), (97, .aload_n 0, 1), (98, .getfield 132, 3), (101, .ireturn, 1), (102, .iload_n 2, 1), (103, .ireturn, 1), (104, .aload_n 0, 1), (105, .invokevirtual 165, 3), (108, .ireturn, 1), (109, .aload_n 0, 1), (110, .invokevirtual 168, 3), (113, .ireturn, 1), (114, .iload_n 2, 1), (115, .ifCond .ne 7, 3), (118, .iconst 0, 1), (119, .goto 20, 3), (122, .aload_n 0, 1), (123, .aload_n 0, 1), (124, .invokevirtual 168, 3), (127, .invokevirtual 171, 3), (130, .iconst 2, 1), (131, .aload_n 0, 1), (132, .getfield 37, 3), (135, .iconst 1, 1), (136, .iaload, 1), (137, .imul, 1), (138, .iadd, 1), (139, .ireturn, 1), (140, .iload_n 2, 1), (141, .ifCond .ne 7, 3), (144, .iconst 0, 1), (145, .goto 20, 3), (148, .aload_n 0, 1), (149, .aload_n 0, 1), (150, .invokevirtual 165, 3), (153, .invokevirtual 171, 3), (156, .iconst 2, 1), (157, .aload_n 0, 1), (158, .getfield 37, 3), (161, .iconst 1, 1), (162, .iaload, 1), (163, .imul, 1), (164, .iadd, 1), (165, .ireturn, 1)]
set_option maxRecDepth 100000 in
theorem kX5_count_ok : ∀ (i : Nat) (q : Nat × Instr × Nat), kX5_count[i]? = some q → decode cX5_count q.1 = .ok q.2 := tbl_ok (by decide +kernel)
theorem okX5_count : OKV RX5 yX5_count cX5_count 4 (some .int) 1 := ⟨w_502, w_503, w_372, w_504, rfl, by decide +kernel, by decide +kernel, by decide +kernel⟩
def kX4_within : List (Nat × Instr × Nat) := [(0, .iload_n 0, 1), (1, .ifCond .lt 12, 3), (4, .iload_n 0, 1), (5, .iload_n 1, 1), (6, .if_icmp .ge 7, 3), (9, .iconst 1, 1), (10, .goto 4, 3), (13, .iconst 0, 1), (14, .ireturn, 1)]
set_option maxRecDepth 100000 in
theorem kX4_within_ok : ∀ (i : Nat) (q : Nat × Instr × Nat), kX4_within[i]? = some q → decode cX4_within q.1 = .ok q.2 := tbl_ok (by decide +kernel)
theorem okX4_within : OKS yX4_within cX4_within 2 (some .boolean) 2 := ⟨w_505, w_506, w_507, by decide +kernel, by decide +kernel, by decide +kernel⟩
def kX4_corner : List (Nat × Instr × Nat) := [(0, .iload_n 1, 1), (1, .bipush 24, 2), (3, .invokestatic 37, 3), (6, .ifCond .eq 16, 3), (9, .iload_n 2, 1), (10, .bipush 8, 2), (12, .invokestatic 37, 3), (15, .ifCond .eq 7, 3), (18, .iconst 1, 1), (19, .goto 4, 3), (22, .iconst 0, 1), (23, .invokestatic 41, 3), (26, .iload_n 3, 1), (27, .bipush 97, 2), (29, .invokestatic 37, 3), (32, .ifCond .eq 17, 3), (35, .iload 4, 2), (37, .bipush 97, 2), (39, .invokestatic 37, 3), (42, .ifCond .eq 7, 3), (45, .iconst 1, 1), (46, .goto 4, 3), (49, .iconst 0, 1), (50, .invokestatic 45, 3), (53, .aload_n 0, 1), (54, .getfield 12, 3), (57, .iload_n 1, 1), (58, .iload_n 2, 1), (59, .iload_n 3, 1), (60, .iload 4, 2), (62, .invokevirtual 48, 3), (65, .return_, 1)]
set_option maxRecDepth 100000 in
theorem kX4_corner_ok : ∀ (i : Nat) (q : Nat × Instr × Nat), kX4_corner[i]? = some q → decode cX4_corner q.1 = .ok q.2 := tbl_ok (by decide +kernel)
theorem okX4_corner : OKV RX4 yX4_corner cX4_corner 5 none 4 := ⟨w_508, w_509, w_506, w_510, rfl, by decide +kernel, by decide +kernel, by decide +kernel⟩
def kX4_close : List (Nat × Instr × Nat) := [(0, .iload_n 1, 1), (1, .bipush 24, 2), (3, .invokestatic 37, 3), (6, .ifCond .eq 16, 3), (9, .iload_n 3, 1), (10, .bipush 12, 2), (12, .invokestatic 37, 3), (15, .ifCond .eq 7, 3), (18, .iconst 1, 1), (19, .goto 4, 3), (22, .iconst 0, 1), (23, .invokestatic 41, 3), (26, .iload_n 2, 1), (27, .iconst 3, 1), (28, .if_icmp .lt 13, 3), (31, .iload_n 2, 1), (32, .bipush 8, 2), (34, .if_icmp .gt 7, 3), (37, .iconst 1, 1), (38, .goto 4, 3), (41, .iconst 0, 1), (42, .invokestatic 45, 3), (45, .aload_n 0, 1), (46, .getfield 12, 3), (49, .iload_n 1, 1), (50, .iload_n 2, 1), (51, .iload_n 3, 1), (52, .invokevirtual 52, 3), (55, .ireturn, 1)]
set_option maxRecDepth 100000 in
theorem kX4_close_ok : ∀ (i : Nat) (q : Nat × Instr × Nat), kX4_close[i]? = some q → decode cX4_close q.1 = .ok q.2 := tbl_ok (by decide +kernel)
theorem okX4_close : OKV RX4 yX4_close cX4_close 4 (some .int) 3 := ⟨w_511, w_512, w_506, w_513, rfl, by decide +kernel, by decide +kernel, by decide +kernel⟩
def kX4_open : List (Nat × Instr × Nat) := [(0, .iload_n 1, 1), (1, .bipush 24, 2), (3, .invokestatic 37, 3), (6, .invokestatic 41, 3), (9, .aload_n 0, 1), (10, .getfield 12, 3), (13, .iload_n 1, 1), (14, .invokevirtual 56, 3), (17, .istore_n 2, 1), (18, .aload_n 0, 1), (19, .getfield 12, 3), (22, .iload_n 1, 1), (23, .invokevirtual 60, 3), (26, .iload_n 2, 1), (27, .ireturn, 1)]
set_option maxRecDepth 100000 in
theorem kX4_open_ok : ∀ (i : Nat) (q : Nat × Instr × Nat), kX4_open[i]? = some q → decode cX4_open q.1 = .ok q.2 := tbl_ok (by decide +kernel)
theorem okX4_open : OKV RX4 yX4_open cX4_open 3 (some .boolean) 1 := ⟨w_514, w_515, w_506, w_516, rfl, by decide +kernel, by decide +kernel, by decide +kernel⟩
def kX4_clear : List (Nat × Instr × Nat) := [(0, .aload_n 0, 1), (1, .getfield 12, 3), (4, .invokevirtual 64, 3), (7, .istore_n 1, 1), (8, .iconst 0, 1), (9, .istore_n 2, 1), (10, .iload_n 2, 1), (11, .bipush 24, 2), (13, .if_icmp .ge 17, 3), (16, .aload_n 0, 1), (17, .getfield 12, 3), (20, .iload_n 2, 1), (21, .invokevirtual 60, 3), (24, .iinc 2 1, 3), (27, .goto (-17), 3), (30, .iload_n 1, 1), (31, .ireturn, 1)]
set_option maxRecDepth 100000 in
theorem kX4_clear_ok : ∀ (i : Nat) (q : Nat × Instr × Nat), kX4_clear[i]? = some q → decode cX4_clear q.1 = .ok q.2 := tbl_ok (by decide +kernel)
theorem okX4_clear : OKV RX4 yX4_clear cX4_clear 3 (some .int) 0 := ⟨w_517, w_518, w_506, w_519, rfl, by decide +kernel, by decide +kernel, by decide +kernel⟩
def kX4_check : List (Nat × Instr × Nat) := [(0, .aload_n 0, 1), (1, .getfield 12, 3), (4, .invokevirtual 68, 3), (7, .ireturn, 1)]
set_option maxRecDepth 100000 in
theorem kX4_check_ok : ∀ (i : Nat) (q : Nat × Instr × Nat), kX4_check[i]? = some q → decode cX4_check q.1 = .ok q.2 := tbl_ok (by decide +kernel)
theorem okX4_check : OKV RX4 yX4_check cX4_check 1 (some .int) 0 := ⟨w_520, w_521, w_506, w_522, rfl, by decide +kernel, by decide +kernel, by decide +kernel⟩
def kX4_clash : List (Nat × Instr × Nat) := [(0, .iload_n 1, 1), (1, .ifCond .eq 8, 3), (4, .iload_n 1, 1), (5, .iconst 1, 1), (6, .if_icmp .ne 7, 3), (9, .iconst 1, 1), (10, .goto 4, 3), (13, .iconst 0, 1), (14, .invokestatic 41, 3), (17, .aload_n 0, 1), (18, .getfield 12, 3), (21, .invokevirtual 71, 3), (24, .istore_n 2, 1), (25, .iload_n 2, 1), (26, .iconst (-1), 1), (27, .if_icmp .ne 5, 3), (30, .iconst (-1), 1), (31, .ireturn, 1), (32, .iload_n 1, 1), (33, .ifCond .ne 10, 3), (36, .iload_n 2, 1), (37, .bipush 24, 2), (39, .idiv, 1), (40, .goto 7, 3), (43, .iload_n 2, 1), (44, .bipush 24, 2), (46, .irem, 1), (47, .ireturn, 1)]
set_option maxRecDepth 100000 in
theorem kX4_clash_ok : ∀ (i : Nat) (q : Nat × Instr × Nat), kX4_clash[i]? = some q → decode cX4_clash q.1 = .ok q.2 := tbl_ok (by decide +kernel)
theorem okX4_clash : OKV RX4 yX4_clash cX4_clash 3 (some .int) 1 := ⟨w_523, w_524, w_506, w_525, rfl, by decide +kernel, by decide +kernel, by decide +kernel⟩
def kX4_piece : List (Nat × Instr × Nat) := [(0, .aload_n 0, 1), (1, .getfield 19, 3), (4, .aload_n 0, 1), (5, .getfield 12, 3), (8, .invokevirtual 74, 3), (11, .ireturn, 1)]
set_option maxRecDepth 100000 in
theorem kX4_piece_ok : ∀ (i : Nat) (q : Nat × Instr × Nat), kX4_piece[i]? = some q → decode cX4_piece q.1 = .ok q.2 := tbl_ok (by decide +kernel)
theorem okX4_piece : OKV RX4 yX4_piece cX4_piece 1 (some .int) 0 := ⟨w_526, w_527, w_506, w_528, rfl, by decide +kernel, by decide +kernel, by decide +kernel⟩
def kX4_seam : List (Nat × Instr × Nat) := [(0, .iload_n 1, 1), (1, .aload_n 0, 1), (2, .getfield 19, 3), (5, .getfield 78, 3), (8, .invokestatic 37, 3), (11, .invokestatic 41, 3), (14, .iload_n 2, 1), (15, .iconst 4, 1), (16, .invokestatic 37, 3), (19, .invokestatic 45, 3), (22, .aload_n 0, 1), (23, .getfield 19, 3), (26, .getfield 82, 3), (29, .iload_n 1, 1), (30, .iconst 4, 1), (31, .imul, 1), (32, .iload_n 2, 1), (33, .iadd, 1), (34, .iaload, 1), (35, .ireturn, 1)]
set_option maxRecDepth 100000 in
theorem kX4_seam_ok : ∀ (i : Nat) (q : Nat × Instr × Nat), kX4_seam[i]? = some q → decode cX4_seam q.1 = .ok q.2 := tbl_ok (by decide +kernel)
theorem okX4_seam : OKV RX4 yX4_seam cX4_seam 3 (some .int) 2 := ⟨w_529, w_530, w_506, w_531, rfl, by decide +kernel, by decide +kernel, by decide +kernel⟩
def kX4_place : List (Nat × Instr × Nat) := [(0, .iload_n 1, 1), (1, .bipush 6, 2), (3, .invokestatic 37, 3), (6, .ifCond .eq 16, 3), (9, .iload_n 2, 1), (10, .bipush 6, 2), (12, .invokestatic 37, 3), (15, .ifCond .eq 7, 3), (18, .iconst 1, 1), (19, .goto 4, 3), (22, .iconst 0, 1), (23, .invokestatic 41, 3), (26, .iload_n 3, 1), (27, .iconst (-1), 1), (28, .if_icmp .eq 17, 3), (31, .iload_n 3, 1), (32, .aload_n 0, 1), (33, .getfield 26, 3), (36, .getfield 86, 3), (39, .invokestatic 37, 3), (42, .ifCond .eq 7, 3), (45, .iconst 1, 1), (46, .goto 4, 3), (49, .iconst 0, 1), (50, .invokestatic 41, 3), (53, .iload 4, 2), (55, .bipush 8, 2), (57, .invokestatic 37, 3), (60, .invokestatic 45, 3), (63, .iload_n 1, 1), (64, .bipush 6, 2), (66, .imul, 1), (67, .iload_n 2, 1), (68, .iadd, 1), (69, .istore 5, 2), (71, .aload_n 0, 1), (72, .getfield 26, 3), (75, .getfield 103, 3), (78, .iload 5, 2), (80, .iaload, 1), (81, .istore 6, 2), (83, .aload_n 0, 1), (84, .getfield 26, 3), (87, .getfield 103, 3), (90, .iload 5, 2), (92, .iload_n 3, 1), (93, .iastore, 1), (94, .aload_n 0, 1), (95, .getfield 26, 3), (98, .getfield 106, 3), (101, .iload 5, 2), (103, .iload 4, 2), (105, .iastore, 1), (106, .aload_n 0, 1), (107, .getfield 33, 3), (110, .invokevirtual 109, 3), (113, .iload 6, 2), (115, .ireturn, 1)]
set_option maxRecDepth 100000 in
theorem kX4_place_ok : ∀ (i : Nat) (q : Nat × Instr × Nat), kX4_place[i]? = some q → decode cX4_place q.1 = .ok q.2 := tbl_ok (by decide +kernel)
theorem okX4_place : OKV RX4 yX4_place cX4_place 7 (some .int) 4 := ⟨w_532, w_533, w_506, w_534, rfl, by decide +kernel, by decide +kernel, by decide +kernel⟩
def kX4_frame : List (Nat × Instr × Nat) := [(0, .iload_n 1, 1), (1, .iconst 2, 1), (2, .invokestatic 37, 3), (5, .ifCond .eq 16, 3), (8, .iload_n 3, 1), (9, .bipush 12, 2), (11, .invokestatic 37, 3), (14, .ifCond .eq 7, 3), (17, .iconst 1, 1), (18, .goto 4, 3), (21, .iconst 0, 1), (22, .invokestatic 41, 3), (25, .iload_n 2, 1), (26, .bipush 61, 2), (28, .invokestatic 37, 3), (31, .invokestatic 45, 3), (34, .aload_n 0, 1), (35, .getfield 26, 3), (38, .getfield 112, 3), (41, .iload_n 1, 1), (42, .iaload, 1), (43, .istore 4, 2), (45, .aload_n 0, 1), (46, .getfield 26, 3), (49, .getfield 112, 3), (52, .iload_n 1, 1), (53, .iload_n 2, 1), (54, .iastore, 1), (55, .aload_n 0, 1), (56, .getfield 26, 3), (59, .getfield 115, 3), (62, .iload_n 1, 1), (63, .iload_n 3, 1), (64, .iastore, 1), (65, .aload_n 0, 1), (66, .getfield 33, 3), (69, .invokevirtual 109, 3), (72, .iload 4, 2), (74, .ireturn, 1)]
set_option maxRecDepth 100000 in
theorem kX4_frame_ok : ∀ (i : Nat) (q : Nat × Instr × Nat), kX4_frame[i]? = some q → decode cX4_frame q.1 = .ok q.2 := tbl_ok (by decide +kernel)
theorem okX4_frame : OKV RX4 yX4_frame cX4_frame 5 (some .int) 3 := ⟨w_535, w_536, w_506, w_537, rfl, by decide +kernel, by decide +kernel, by decide +kernel⟩
def kX4_mismatch : List (Nat × Instr × Nat) := [(0, .iload_n 1, 1), (1, .bipush 6, 2), (3, .invokestatic 37, 3), (6, .ifCond .eq 15, 3), (9, .iload_n 2, 1), (10, .iconst 5, 1), (11, .invokestatic 37, 3), (14, .ifCond .eq 7, 3), (17, .iconst 1, 1), (18, .goto 4, 3), (21, .iconst 0, 1), (22, .invokestatic 41, 3), (25, .aload_n 0, 1), (26, .getfield 26, 3), (29, .iload_n 1, 1), (30, .bipush 6, 2), (32, .imul, 1), (33, .iload_n 2, 1), (34, .iadd, 1), (35, .invokevirtual 118, 3), (38, .ireturn, 1)]
set_option maxRecDepth 100000 in
theorem kX4_mismatch_ok : ∀ (i : Nat) (q : Nat × Instr × Nat), kX4_mismatch[i]? = some q → decode cX4_mismatch q.1 = .ok q.2 := tbl_ok (by decide +kernel)
theorem okX4_mismatch : OKV RX4 yX4_mismatch cX4_mismatch 3 (some .int) 2 := ⟨w_538, w_539, w_506, w_540, rfl, by decide +kernel, by decide +kernel, by decide +kernel⟩
def kX4_swap : List (Nat × Instr × Nat) := [(0, .iload_n 1, 1), (1, .bipush 12, 2), (3, .invokestatic 37, 3), (6, .ifCond .eq 16, 3), (9, .iload_n 2, 1), (10, .bipush 12, 2), (12, .invokestatic 37, 3), (15, .ifCond .eq 7, 3), (18, .iconst 1, 1), (19, .goto 4, 3), (22, .iconst 0, 1), (23, .invokestatic 41, 3), (26, .aload_n 0, 1), (27, .getfield 33, 3), (30, .invokevirtual 109, 3), (33, .aload_n 0, 1), (34, .getfield 12, 3), (37, .iload_n 1, 1), (38, .iload_n 2, 1), (39, .invokevirtual 122, 3), (42, .aload_n 0, 1), (43, .getfield 26, 3), (46, .iload_n 1, 1), (47, .iload_n 2, 1), (48, .invokevirtual 126, 3), (51, .iadd, 1), (52, .ireturn, 1)]
set_option maxRecDepth 100000 in
theorem kX4_swap_ok : ∀ (i : Nat) (q : Nat × Instr × Nat), kX4_swap[i]? = some q → decode cX4_swap q.1 = .ok q.2 := tbl_ok (by decide +kernel)
theorem okX4_swap : OKV RX4 yX4_swap cX4_swap 3 (some .int) 2 := ⟨w_541, w_542, w_506, w_543, rfl, by decide +kernel, by decide +kernel, by decide +kernel⟩
def kX4_area : List (Nat × Instr × Nat) := [(0, .iload_n 1, 1), (1, .bipush 12, 2), (3, .invokestatic 37, 3), (6, .invokestatic 41, 3), (9, .aload_n 0, 1), (10, .getfield 26, 3), (13, .iload_n 1, 1), (14, .invokevirtual 127, 3), (17, .ireturn, 1)]
set_option maxRecDepth 100000 in
theorem kX4_area_ok : ∀ (i : Nat) (q : Nat × Instr × Nat), kX4_area[i]? = some q → decode cX4_area q.1 = .ok q.2 := tbl_ok (by decide +kernel)
theorem okX4_area : OKV RX4 yX4_area cX4_area 2 (some .int) 1 := ⟨w_544, w_545, w_506, w_546, rfl, by decide +kernel, by decide +kernel, by decide +kernel⟩
def kX4_need : List (Nat × Instr × Nat) := [(0, .iload_n 1, 1), (1, .bipush 12, 2), (3, .invokestatic 37, 3), (6, .invokestatic 41, 3), (9, .iload_n 2, 1), (10, .iconst 3, 1), (11, .invokestatic 37, 3), (14, .invokestatic 45, 3), (17, .aload_n 0, 1), (18, .getfield 33, 3), (21, .aload_n 0, 1), (22, .getfield 26, 3), (25, .iload_n 1, 1), (26, .invokevirtual 130, 3), (29, .iload_n 2, 1), (30, .lookupswitch 42 #[(0, 26), (1, 34)], 26), (56, .aload_n 0, 1), (57, .getfield 33, 3), (60, .getfield 134, 3), (63, .ireturn, 1), (64, .aload_n 0, 1), (65, .getfield 33, 3), (68, .getfield 137, 3), (71, .ireturn, 1), (72, .aload_n 0, 1), (73, .getfield 33, 3), (76, .getfield 140, 3), (79, .ireturn, 1)]
set_option maxRecDepth 100000 in
theorem kX4_need_ok : ∀ (i : Nat) (q : Nat × Instr × Nat), kX4_need[i]? = some q → decode cX4_need q.1 = .ok q.2 := tbl_ok (by decide +kernel)
theorem okX4_need : OKV RX4 yX4_need cX4_need 3 (some .int) 2 := ⟨w_547, w_548, w_506, w_549, rfl, by decide +kernel, by decide +kernel, by decide +kernel⟩
def kX4_cut : List (Nat × Instr × Nat) := [(0, .iload_n 1, 1), (1, .bipush 12, 2), (3, .invokestatic 37, 3), (6, .invokestatic 41, 3), (9, .aload_n 0, 1), (10, .getfield 33, 3), (13, .aload_n 0, 1), (14, .getfield 26, 3), (17, .iload_n 1, 1), (18, .invokevirtual 130, 3), (21, .iload_n 2, 1), (22, .aload_n 0, 1), (23, .getfield 33, 3), (26, .getfield 134, 3), (29, .invokestatic 37, 3), (32, .invokestatic 41, 3), (35, .iload_n 3, 1), (36, .iconst 5, 1), (37, .invokestatic 37, 3), (40, .invokestatic 45, 3), (43, .aload_n 0, 1), (44, .getfield 33, 3), (47, .iload_n 2, 1), (48, .iload_n 3, 1), (49, .invokevirtual 143, 3), (52, .ireturn, 1)]
set_option maxRecDepth 100000 in
theorem kX4_cut_ok : ∀ (i : Nat) (q : Nat × Instr × Nat), kX4_cut[i]? = some q → decode cX4_cut q.1 = .ok q.2 := tbl_ok (by decide +kernel)
theorem okX4_cut : OKV RX4 yX4_cut cX4_cut 4 (some .int) 3 := ⟨w_550, w_551, w_506, w_552, rfl, by decide +kernel, by decide +kernel, by decide +kernel⟩
def kX4_count : List (Nat × Instr × Nat) := [(0, .iload_n 1, 1), (1, .bipush 7, 2), (3, .invokestatic 37, 3), (6, .invokestatic 45, 3), (9, .iload_n 1, 1), (10, .tableswitch 93 0 5 #[38, 46, 54, 62, 70, 78], 38), (48, .aload_n 0, 1), (49, .getfield 12, 3), (52, .invokevirtual 64, 3), (55, .ireturn, 1), (56, .aload_n 0, 1), (57, .getfield 26, 3), (60, .getfield 86, 3), (63, .ireturn, 1), (64, .aload_n 0, 1), (65, .getfield 26, 3), (68, .invokevirtual 146, 3), (71, .ireturn, 1), (72, .aload_n 0, 1), (73, .getfield 26, 3), (76, .invokevirtual 149, 3), (79, .ireturn, 1), (80, .aload_n 0, 1), (81, .getfield 26, 3), (84, .invokevirtual 152, 3), (87, .ireturn, 1), (88, .aload_n 0, 1), (89, .getfield 26, 3), (92, .aload_n 0, 1), (93, .getfield 26, 3), (96, .invokevirtual 152, 3), (99, .invokevirtual 155, 3), (102, .ireturn, 1), (103, .aload_n 0, 1), (104, .getfield 26, 3), (107, .aload_n 0, 1), (108, .getfield 26, 3), (111, .invokevirtual 149, 3), (114, .invokevirtual 155, 3), (117, .ireturn, 1)]
set_option maxRecDepth 100000 in
theorem kX4_count_ok : ∀ (i : Nat) (q : Nat × Instr × Nat), kX4_count[i]? = some q → decode cX4_count q.1 = .ok q.2 := tbl_ok (by decide +kernel)
theorem okX4_count : OKV RX4 yX4_count cX4_count 2 (some .int) 1 := ⟨w_553, w_554, w_506, w_555, rfl, by decide +kernel, by decide +kernel, by decide +kernel⟩
def kX4_mustExist : List (Nat × Instr × Nat) := [(0, .iload_n 0, 1), (1, .ifCond .ne 13, 3), (4, .new 158, 3), (7, .dup, 1), (8, .ldc 160, 2), (10, .invokespecial 162, 3), (13, .athrow, 1), (14, .return_, 1)]
set_option maxRecDepth 100000 in
theorem kX4_mustExist_ok : ∀ (i : Nat) (q : Nat × Instr × Nat), kX4_mustExist[i]? = some q → decode cX4_mustExist q.1 = .ok q.2 := tbl_ok (by decide +kernel)
theorem okX4_mustExist : OKS yX4_mustExist cX4_mustExist 1 none 1 := ⟨w_556, w_506, w_557, by decide +kernel, by decide +kernel, by decide +kernel⟩
def kX4_mustFit : List (Nat × Instr × Nat) := [(0, .iload_n 0, 1), (1, .ifCond .ne 13, 3), (4, .new 163, 3), (7, .dup, 1), (8, .ldc 165, 2), (10, .invokespecial 167, 3), (13, .athrow, 1), (14, .return_, 1)]
set_option maxRecDepth 100000 in
theorem kX4_mustFit_ok : ∀ (i : Nat) (q : Nat × Instr × Nat), kX4_mustFit[i]? = some q → decode cX4_mustFit q.1 = .ok q.2 := tbl_ok (by decide +kernel)
theorem okX4_mustFit : OKS yX4_mustFit cX4_mustFit 1 none 1 := ⟨w_558, w_506, w_559, by decide +kernel, by decide +kernel, by decide +kernel⟩
end
section
section G12
variable {p : Program} {l : Launch} {e : Env} {s : State} {m : MethodId} {args : Array Value} {below : List Frame} {meth : Method} {c : Code} {D : va_G} {cA : Nat → ClassId} {ad : Nat → Nat} {n : Nat} {A : Nat → Prop} {sa : Nat → Nat} {out : Option Value ⊕ String} {M1 : Mem}
def J6_bitCount_0f7a4 (M : Mem) (l0 : Int32) : Option (Int32) := bnd ((l0 - (((l0 : Int32).toUInt32 >>> ((1 : Int32).toUInt32 &&& Int32.toUInt32 31)).toInt32 &&& 1431655765))) (fun t1 => bnd (((t1 &&& 858993459) + (((t1 : Int32).toUInt32 >>> ((2 : Int32).toUInt32 &&& Int32.toUInt32 31)).toInt32 &&& 858993459))) (fun t2 => bnd (((t2 + ((t2 : Int32).toUInt32 >>> ((4 : Int32).toUInt32 &&& Int32.toUInt32 31)).toInt32) &&& 252645135)) (fun t3 => bnd ((t3 + ((t3 : Int32).toUInt32 >>> ((8 : Int32).toUInt32 &&& Int32.toUInt32 31)).toInt32)) (fun t4 => bnd ((t4 + ((t4 : Int32).toUInt32 >>> ((16 : Int32).toUInt32 &&& Int32.toUInt32 31)).toInt32)) (fun t5 => some (t5 &&& 63))))))
set_option maxHeartbeats 4000000 in
set_option maxRecDepth 100000 in
theorem mJ6_bitCount_0f7a4 {l : Launch} {D : va_G} {cA : Nat → ClassId} {ad : Nat → Nat} {n : Nat} {A : Nat → Prop} {sa : Nat → Nat} {M : Mem} {l0 : Int32} {r : Int32} (h : J6_bitCount_0f7a4 M l0 = some r) : CT l D cA ad n A sa yJ6_bitCount_0f7a4 cJ6_bitCount_0f7a4 1 (some .int) 0 0 [.int l0] M (.inl (some (.int r))) M := by
  refine CT.of (kt := kJ6_bitCount_0f7a4) (by decide) kJ6_bitCount_0f7a4_ok (Nat.le_of_ble_eq_true rfl) ?_
  intro p e s m args below meth c hX hr ht
  unfold J6_bitCount_0f7a4 at h
  refine J.sub (L' := [(0, .int l0)]) [0] rfl ?_
  refine J.iload_n hX 0 0 rfl rfl ?_
  refine J.iload_n hX 1 0 rfl rfl ?_
  refine J.iconst (v := 1) hX 2 rfl (by decide) ?_
  refine J.iushr hX 3 rfl ?_
  refine J.ldcw (v := 1431655765) hX 4 rfl w_0 ?_
  refine J.iand hX 5 rfl ?_
  refine J.isub hX 6 rfl ?_
  obtain ⟨t1, et1, h⟩ := bnd_inv h
  refine J.nm et1 ?_
  refine J.istore_n (L' := [(0, .int t1)]) hX 7 rfl (by decide) rfl ?_
  refine J.iload_n hX 8 0 rfl rfl ?_
  refine J.ldcw (v := 858993459) hX 9 rfl w_1 ?_
  refine J.iand hX 10 rfl ?_
  refine J.iload_n hX 11 0 rfl rfl ?_
  refine J.iconst (v := 2) hX 12 rfl (by decide) ?_
  refine J.iushr hX 13 rfl ?_
  refine J.ldcw (v := 858993459) hX 14 rfl w_1 ?_
  refine J.iand hX 15 rfl ?_
  refine J.iadd hX 16 rfl ?_
  obtain ⟨t2, et2, h⟩ := bnd_inv h
  refine J.nm et2 ?_
  refine J.istore_n (L' := [(0, .int t2)]) hX 17 rfl (by decide) rfl ?_
  refine J.iload_n hX 18 0 rfl rfl ?_
  refine J.iload_n hX 19 0 rfl rfl ?_
  refine J.iconst (v := 4) hX 20 rfl (by decide) ?_
  refine J.iushr hX 21 rfl ?_
  refine J.iadd hX 22 rfl ?_
  refine J.ldcw (v := 252645135) hX 23 rfl w_2 ?_
  refine J.iand hX 24 rfl ?_
  obtain ⟨t3, et3, h⟩ := bnd_inv h
  refine J.nm et3 ?_
  refine J.istore_n (L' := [(0, .int t3)]) hX 25 rfl (by decide) rfl ?_
  refine J.iload_n hX 26 0 rfl rfl ?_
  refine J.iload_n hX 27 0 rfl rfl ?_
  refine J.bipush (v := 8) hX 28 rfl (by decide) ?_
  refine J.iushr hX 29 rfl ?_
  refine J.iadd hX 30 rfl ?_
  obtain ⟨t4, et4, h⟩ := bnd_inv h
  refine J.nm et4 ?_
  refine J.istore_n (L' := [(0, .int t4)]) hX 31 rfl (by decide) rfl ?_
  refine J.iload_n hX 32 0 rfl rfl ?_
  refine J.iload_n hX 33 0 rfl rfl ?_
  refine J.bipush (v := 16) hX 34 rfl (by decide) ?_
  refine J.iushr hX 35 rfl ?_
  refine J.iadd hX 36 rfl ?_
  obtain ⟨t5, et5, h⟩ := bnd_inv h
  refine J.nm et5 ?_
  refine J.istore_n (L' := [(0, .int t5)]) hX 37 rfl (by decide) rfl ?_
  refine J.iload_n hX 38 0 rfl rfl ?_
  refine J.bipush (v := 63) hX 39 rfl (by decide) ?_
  refine J.iand hX 40 rfl ?_
  cases h
  exact J.iret hX hr 41 rfl
def J7_fill_53178_L5 (k0 : Nat) (z0 : Nat) (l1 : Int32) (t2 : Int32) (q9 : Int32 × Mem) : Option ((Int32 × Mem) ⊕ (Mem)) := un2 q9 (fun c1 N1 => if t2 ≤ c1 then (some (.inr N1)) else (sto N1 k0 z0 c1 l1 (fun N2 => bnd (c1 + 1) (fun t3 => some (.inl (t3, N2))))))
def J7_fill_53178 (M : Mem) (k0 : Nat) (z0 : Nat) (l1 : Int32) : Option (Mem) := bnd ((Int32.ofNat z0)) (fun t2 => bd1 (loop (J7_fill_53178_L5 k0 z0 l1 t2) 3000 (0, M)) (fun N3 => some N3))
set_option maxHeartbeats 4000000 in
set_option maxRecDepth 100000 in
theorem J7_fill_53178_L5_ok (hX : Cx p s m args meth c D cA ad n A sa cJ7_fill_53178 4 RJ7 kJ7_fill_53178) {N1 : Mem} {k0 : Nat} {z0 : Nat} {l1 : Int32} {t2 : Int32} {c1 : Int32} (hk0 : k0 < n) (hs0 : sh0 k0 = .inl (0, z0)) {r : (Int32 × Mem) ⊕ (Mem)} (h : J7_fill_53178_L5 k0 z0 l1 t2 (c1, N1) = some r) (hin : ∀ (q0 : Int32) (Mq : Mem), r = .inl (q0, Mq) → JM 0 0 p l e s m args below meth c D cA ad n A 4 out M1 Mq 5 [(0, .ref (ad k0)), (1, .int l1), (2, .int q0), (3, .int t2)] []) (hex0 : ∀  (Mq : Mem), r = .inr Mq → JM 0 0 p l e s m args below meth c D cA ad n A 4 out M1 Mq 20 [] []) : JM 0 0 p l e s m args below meth c D cA ad n A 4 out M1 N1 5 [(0, .ref (ad k0)), (1, .int l1), (2, .int c1), (3, .int t2)] [] := by
  unfold J7_fill_53178_L5 at h
  have h := un2_inv h
  refine J.iload_n hX 5 2 rfl rfl ?_
  refine J.iload_n hX 6 3 rfl rfl ?_
  refine J.icmp_ge (tgt := 20) hX 7 rfl (by decide) (fun b1 => ?_) (fun b1 => ?_)
  · rw [if_pos b1] at h
    refine J.sub (L' := []) [] rfl ?_
    exact hex0 _ (Option.some.inj h).symm
  · rw [if_neg b1] at h
    refine J.aload_n hX 8 0 rfl rfl ?_
    refine J.iload_n hX 9 2 rfl rfl ?_
    refine J.iload_n hX 10 1 rfl rfl ?_
    obtain ⟨N2, eN2, hb, h⟩ := sto_inv h
    refine J.iastN hX 11 k0 hk0 hs0 hb eN2 rfl ?_
    obtain ⟨t3, et3, h⟩ := bnd_inv h
    refine J.iinc (q := 2) (L' := [(2, .int t3), (0, .ref (ad k0)), (1, .int l1), (3, .int t2)]) hX 12 rfl rfl et3 (by decide) rfl ?_
    refine J.goto (tgt := 5) hX 13 rfl (by decide) ?_
    refine J.sub (L' := [(0, .ref (ad k0)), (1, .int l1), (2, .int t3), (3, .int t2)]) [1, 2, 0, 3] rfl ?_
    exact hin _ _ (Option.some.inj h).symm
set_option maxHeartbeats 4000000 in
set_option maxRecDepth 100000 in
theorem mJ7_fill_53178 {l : Launch} {D : va_G} {cA : Nat → ClassId} {ad : Nat → Nat} {n : Nat} {A : Nat → Prop} {sa : Nat → Nat} {M : Mem} {k0 : Nat} {z0 : Nat} {l1 : Int32} {Mf : Mem} (hk0 : k0 < n) (hs0 : sh0 k0 = .inl (0, z0)) (h : J7_fill_53178 M k0 z0 l1 = some Mf) : CT l D cA ad n A sa yJ7_fill_53178 cJ7_fill_53178 4 none 0 0 [.ref (ad k0), .int l1] M (.inl none) Mf := by
  refine CT.of (kt := kJ7_fill_53178) (by decide) kJ7_fill_53178_ok (Nat.le_of_ble_eq_true rfl) ?_
  intro p e s m args below meth c hX hr ht
  unfold J7_fill_53178 at h
  refine J.sub (L' := [(0, .ref (ad k0)), (1, .int l1)]) [0, 1] rfl ?_
  refine J.iconst (v := 0) hX 0 rfl (by decide) ?_
  refine J.istore_n (L' := [(2, .int 0), (0, .ref (ad k0)), (1, .int l1)]) hX 1 rfl (by decide) rfl ?_
  refine J.aload_n hX 2 1 rfl rfl ?_
  refine J.alen (v := Int32.ofNat z0) hX 3 k0 hk0 hs0 rfl rfl ?_
  obtain ⟨t2, et2, h⟩ := bnd_inv h
  refine J.nm et2 ?_
  refine J.istore_n (L' := [(3, .int t2), (2, .int 0), (0, .ref (ad k0)), (1, .int l1)]) hX 4 rfl (by decide) rfl ?_
  refine J.sub (L' := [(0, .ref (ad k0)), (1, .int l1), (2, .int 0), (3, .int t2)]) [2, 3, 1, 0] rfl ?_
  obtain ⟨N3, hlp, h⟩ := bd1_inv h
  suffices hE : JM 0 0 p l e s m args below meth c D cA ad n A 4 (.inl none) Mf N3 20 [] [] by
    exact loop_ok (fun q9 : Int32 × Mem => JM 0 0 p l e s m args below meth c D cA ad n A 4 (.inl none) Mf q9.2 5 [(0, .ref (ad k0)), (1, .int l1), (2, .int q9.1), (3, .int t2)] []) (fun q9 r hB hst hex9 => J7_fill_53178_L5_ok hX hk0 hs0 hB (fun _ _ hr => hst _ hr) (fun _ hr => by cases hex9 _ hr; exact hE)) 3000 _ hlp
  cases h
  exact J.vret hX hr 14 rfl
end G12
end
section
section G13
variable {p : Program} {l : Launch} {e : Env} {s : State} {m : MethodId} {args : Array Value} {below : List Frame} {meth : Method} {c : Code} {D : va_G} {cA : Nat → ClassId} {ad : Nat → Nat} {n : Nat} {A : Nat → Prop} {sa : Nat → Nat} {out : Option Value ⊕ String} {M1 : Mem}
def X1_openPatch (M : Mem) (o : Nat) (l1 : Int32) : Option (Mem) := sto M (o + 3) 24 l1 0 (fun N1 => some N1)
set_option maxHeartbeats 4000000 in
set_option maxRecDepth 100000 in
theorem mX1_openPatch {l : Launch} {D : va_G} {cA : Nat → ClassId} {ad : Nat → Nat} {n : Nat} {A : Nat → Prop} {sa : Nat → Nat} {M : Mem} {o : Nat} {l1 : Int32} {Mf : Mem} (ho : DrOk n o) (h : X1_openPatch M o l1 = some Mf) : CT l D cA ad n A sa yX1_openPatch cX1_openPatch 2 none 0 0 [.ref (ad o), .int l1] M (.inl none) Mf := by
  refine CT.of (kt := kX1_openPatch) (by decide) kX1_openPatch_ok (Nat.le_of_ble_eq_true rfl) ?_
  intro p e s m args below meth c hX hr ht
  unfold X1_openPatch at h
  refine J.sub (L' := [(0, .ref (ad o)), (1, .int l1)]) [0, 1] rfl ?_
  refine J.aload_n hX 0 0 rfl rfl ?_
  refine J.getR hX 1 o 1 ho.lt0 ho.s0 rfl in_wsX10 2 (by decide) w_3 rfl rfl ?_
  refine J.iload_n hX 2 1 rfl rfl ?_
  refine J.iconst (v := 0) hX 3 rfl (by decide) ?_
  obtain ⟨N1, eN1, hb, h⟩ := sto_inv h
  refine J.iastN hX 4 (o + 3) ho.lt3 ho.s3 hb eN1 rfl ?_
  cases h
  exact J.vret hX hr 5 rfl
def X1_putCorner (M : Mem) (o : Nat) (l1 : Int32) (l2 : Int32) (l3 : Int32) (l4 : Int32) : Option (Mem) := sto M (o + 1) 192 ((l1 * 8) + l2) l3 (fun N1 => sto N1 (o + 2) 192 ((l1 * 8) + l2) l4 (fun N2 => bd1 (X1_openPatch N2 o l1) (fun N3 => some N3)))
set_option maxHeartbeats 4000000 in
set_option maxRecDepth 100000 in
theorem mX1_putCorner {l : Launch} {D : va_G} {cA : Nat → ClassId} {ad : Nat → Nat} {n : Nat} {A : Nat → Prop} {sa : Nat → Nat} {M : Mem} {o : Nat} {l1 : Int32} {l2 : Int32} {l3 : Int32} {l4 : Int32} {Mf : Mem} (ho : DrOk n o) (h : X1_putCorner M o l1 l2 l3 l4 = some Mf) : CT l D cA ad n A sa yX1_putCorner cX1_putCorner 5 none 1 21 [.ref (ad o), .int l1, .int l2, .int l3, .int l4] M (.inl none) Mf := by
  refine CT.of (kt := kX1_putCorner) (by decide) kX1_putCorner_ok (Nat.le_of_ble_eq_true rfl) ?_
  intro p e s m args below meth c hX hr ht
  unfold X1_putCorner at h
  refine J.sub (L' := [(0, .ref (ad o)), (1, .int l1), (2, .int l2), (3, .int l3), (4, .int l4)]) [0, 1, 2, 3, 4] rfl ?_
  refine J.aload_n hX 0 0 rfl rfl ?_
  refine J.getR hX 1 o 1 ho.lt0 ho.s0 rfl in_wsX10 0 (by decide) w_4 rfl rfl ?_
  refine J.iload_n hX 2 1 rfl rfl ?_
  refine J.bipush (v := 8) hX 3 rfl (by decide) ?_
  refine J.imul hX 4 rfl ?_
  refine J.iload_n hX 5 2 rfl rfl ?_
  refine J.iadd hX 6 rfl ?_
  refine J.iload_n hX 7 3 rfl rfl ?_
  obtain ⟨N1, eN1, hb, h⟩ := sto_inv h
  refine J.iastN hX 8 (o + 1) ho.lt1 ho.s1 hb eN1 rfl ?_
  refine J.aload_n hX 9 0 rfl rfl ?_
  refine J.getR hX 10 o 1 ho.lt0 ho.s0 rfl in_wsX10 1 (by decide) w_5 rfl rfl ?_
  refine J.iload_n hX 11 1 rfl rfl ?_
  refine J.bipush (v := 8) hX 12 rfl (by decide) ?_
  refine J.imul hX 13 rfl ?_
  refine J.iload_n hX 14 2 rfl rfl ?_
  refine J.iadd hX 15 rfl ?_
  refine J.iload hX 16 4 rfl rfl ?_
  obtain ⟨N2, eN2, hb, h⟩ := sto_inv h
  refine J.iastN hX 17 (o + 2) ho.lt2 ho.s2 hb eN2 rfl ?_
  refine J.aload_n hX 18 0 rfl rfl ?_
  refine J.iload_n hX 19 1 rfl rfl ?_
  obtain ⟨N3, hc, h⟩ := bd1_inv h
  refine J.callV0 (As := [.int l1]) (rest := []) (k := o) hX 20 rfl (mX1_openPatch ho hc) okX1_openPatch w_6 ho.lt0 ho.s0 rfl rfl rfl (Nat.le_of_ble_eq_true rfl) ⟨Nat.le_of_ble_eq_true rfl, Nat.le_of_ble_eq_true rfl⟩ ⟨Nat.zero_le _, Nat.zero_le _⟩ ?_
  cases h
  exact J.vret hX hr 21 rfl
def X1_next_j19 (M : Mem) (v1 : Int32) : Option (Int32) := some v1
def X1_next (M : Mem) (o : Nat) (l1 : Int32) (l2 : Int32) : Option (Int32) := ld M (o + 3) 24 l1 (fun t1 => if t1 ≤ (l2 + 1) then (X1_next_j19 M 0) else (X1_next_j19 M (l2 + 1)))
set_option maxHeartbeats 4000000 in
set_option maxRecDepth 100000 in
theorem X1_next_j19_ok (hX : Cx p s m args meth c D cA ad n A sa cX1_next 3 RX1 kX1_next) {M : Mem} {v1 : Int32} {r : Int32}  (hr : meth.sig.returnType = (some .int)) (ht : ∀ x ∈ c.exceptionTable.toList, False) (h : X1_next_j19 M v1 = some r) : JM 0 0 p l e s m args below meth c D cA ad n A 3 (.inl (some (.int r))) M M 19 [] [.int v1] := by
  unfold X1_next_j19 at h
  cases h
  exact J.iret hX hr 13 rfl
set_option maxHeartbeats 4000000 in
set_option maxRecDepth 100000 in
theorem mX1_next {l : Launch} {D : va_G} {cA : Nat → ClassId} {ad : Nat → Nat} {n : Nat} {A : Nat → Prop} {sa : Nat → Nat} {M : Mem} {o : Nat} {l1 : Int32} {l2 : Int32} {r : Int32} (ho : DrOk n o) (h : X1_next M o l1 l2 = some r) : CT l D cA ad n A sa yX1_next cX1_next 3 (some .int) 0 0 [.ref (ad o), .int l1, .int l2] M (.inl (some (.int r))) M := by
  refine CT.of (kt := kX1_next) (by decide) kX1_next_ok (Nat.le_of_ble_eq_true rfl) ?_
  intro p e s m args below meth c hX hr ht
  unfold X1_next at h
  refine J.sub (L' := [(0, .ref (ad o)), (1, .int l1), (2, .int l2)]) [0, 1, 2] rfl ?_
  refine J.iload_n hX 0 2 rfl rfl ?_
  refine J.iconst (v := 1) hX 1 rfl (by decide) ?_
  refine J.iadd hX 2 rfl ?_
  refine J.aload_n hX 3 0 rfl rfl ?_
  refine J.getR hX 4 o 1 ho.lt0 ho.s0 rfl in_wsX10 2 (by decide) w_3 rfl rfl ?_
  refine J.iload_n hX 5 1 rfl rfl ?_
  obtain ⟨t1, et1, hb, h⟩ := ld_inv h
  refine J.ialdN hX 6 (o + 3) ho.lt3 ho.s3 hb et1 rfl ?_
  refine J.icmp_ge (tgt := 18) hX 7 rfl (by decide) (fun b1 => ?_) (fun b1 => ?_)
  · rw [if_pos b1] at h
    refine J.iconst (v := 0) hX 12 rfl (by decide) ?_
    refine J.sub (L' := []) [] rfl ?_
    exact X1_next_j19_ok hX  hr ht h
  · rw [if_neg b1] at h
    refine J.iload_n hX 8 2 rfl rfl ?_
    refine J.iconst (v := 1) hX 9 rfl (by decide) ?_
    refine J.iadd hX 10 rfl ?_
    refine J.goto (tgt := 19) hX 11 rfl (by decide) ?_
    refine J.sub (L' := []) [] rfl ?_
    exact X1_next_j19_ok hX  hr ht h
def X1_bend (M : Mem) (o : Nat) (l1 : Int32) (l2 : Int32) (l3 : Int32) : Option (Int32) := ld M (o + 1) 192 l2 (fun t1 => ld M (o + 1) 192 l1 (fun t2 => ld M (o + 2) 192 l3 (fun t3 => ld M (o + 2) 192 l1 (fun t4 => ld M (o + 2) 192 l2 (fun t5 => ld M (o + 2) 192 l1 (fun t6 => ld M (o + 1) 192 l3 (fun t7 => ld M (o + 1) 192 l1 (fun t8 => some (((t1 - t2) * (t3 - t4)) - ((t5 - t6) * (t7 - t8)))))))))))
set_option maxHeartbeats 4000000 in
set_option maxRecDepth 100000 in
theorem mX1_bend {l : Launch} {D : va_G} {cA : Nat → ClassId} {ad : Nat → Nat} {n : Nat} {A : Nat → Prop} {sa : Nat → Nat} {M : Mem} {o : Nat} {l1 : Int32} {l2 : Int32} {l3 : Int32} {r : Int32} (ho : DrOk n o) (h : X1_bend M o l1 l2 l3 = some r) : CT l D cA ad n A sa yX1_bend cX1_bend 4 (some .int) 0 0 [.ref (ad o), .int l1, .int l2, .int l3] M (.inl (some (.int r))) M := by
  refine CT.of (kt := kX1_bend) (by decide) kX1_bend_ok (Nat.le_of_ble_eq_true rfl) ?_
  intro p e s m args below meth c hX hr ht
  unfold X1_bend at h
  refine J.sub (L' := [(0, .ref (ad o)), (1, .int l1), (2, .int l2), (3, .int l3)]) [0, 1, 2, 3] rfl ?_
  refine J.aload_n hX 0 0 rfl rfl ?_
  refine J.getR hX 1 o 1 ho.lt0 ho.s0 rfl in_wsX10 0 (by decide) w_4 rfl rfl ?_
  refine J.iload_n hX 2 2 rfl rfl ?_
  obtain ⟨t1, et1, hb, h⟩ := ld_inv h
  refine J.ialdN hX 3 (o + 1) ho.lt1 ho.s1 hb et1 rfl ?_
  refine J.aload_n hX 4 0 rfl rfl ?_
  refine J.getR hX 5 o 1 ho.lt0 ho.s0 rfl in_wsX10 0 (by decide) w_4 rfl rfl ?_
  refine J.iload_n hX 6 1 rfl rfl ?_
  obtain ⟨t2, et2, hb, h⟩ := ld_inv h
  refine J.ialdN hX 7 (o + 1) ho.lt1 ho.s1 hb et2 rfl ?_
  refine J.isub hX 8 rfl ?_
  refine J.aload_n hX 9 0 rfl rfl ?_
  refine J.getR hX 10 o 1 ho.lt0 ho.s0 rfl in_wsX10 1 (by decide) w_5 rfl rfl ?_
  refine J.iload_n hX 11 3 rfl rfl ?_
  obtain ⟨t3, et3, hb, h⟩ := ld_inv h
  refine J.ialdN hX 12 (o + 2) ho.lt2 ho.s2 hb et3 rfl ?_
  refine J.aload_n hX 13 0 rfl rfl ?_
  refine J.getR hX 14 o 1 ho.lt0 ho.s0 rfl in_wsX10 1 (by decide) w_5 rfl rfl ?_
  refine J.iload_n hX 15 1 rfl rfl ?_
  obtain ⟨t4, et4, hb, h⟩ := ld_inv h
  refine J.ialdN hX 16 (o + 2) ho.lt2 ho.s2 hb et4 rfl ?_
  refine J.isub hX 17 rfl ?_
  refine J.imul hX 18 rfl ?_
  refine J.aload_n hX 19 0 rfl rfl ?_
  refine J.getR hX 20 o 1 ho.lt0 ho.s0 rfl in_wsX10 1 (by decide) w_5 rfl rfl ?_
  refine J.iload_n hX 21 2 rfl rfl ?_
  obtain ⟨t5, et5, hb, h⟩ := ld_inv h
  refine J.ialdN hX 22 (o + 2) ho.lt2 ho.s2 hb et5 rfl ?_
  refine J.aload_n hX 23 0 rfl rfl ?_
  refine J.getR hX 24 o 1 ho.lt0 ho.s0 rfl in_wsX10 1 (by decide) w_5 rfl rfl ?_
  refine J.iload_n hX 25 1 rfl rfl ?_
  obtain ⟨t6, et6, hb, h⟩ := ld_inv h
  refine J.ialdN hX 26 (o + 2) ho.lt2 ho.s2 hb et6 rfl ?_
  refine J.isub hX 27 rfl ?_
  refine J.aload_n hX 28 0 rfl rfl ?_
  refine J.getR hX 29 o 1 ho.lt0 ho.s0 rfl in_wsX10 0 (by decide) w_4 rfl rfl ?_
  refine J.iload_n hX 30 3 rfl rfl ?_
  obtain ⟨t7, et7, hb, h⟩ := ld_inv h
  refine J.ialdN hX 31 (o + 1) ho.lt1 ho.s1 hb et7 rfl ?_
  refine J.aload_n hX 32 0 rfl rfl ?_
  refine J.getR hX 33 o 1 ho.lt0 ho.s0 rfl in_wsX10 0 (by decide) w_4 rfl rfl ?_
  refine J.iload_n hX 34 1 rfl rfl ?_
  obtain ⟨t8, et8, hb, h⟩ := ld_inv h
  refine J.ialdN hX 35 (o + 1) ho.lt1 ho.s1 hb et8 rfl ?_
  refine J.isub hX 36 rfl ?_
  refine J.imul hX 37 rfl ?_
  refine J.isub hX 38 rfl ?_
  cases h
  exact J.iret hX hr 39 rfl
def X1_isConvex_L35_j77 (M : Mem) (o : Nat) (l1 : Int32) (t1 : Int32) (c1 : Int32) (t3 : Int32) (t5 : Int32) (v1 : Int32) : Option ((Int32) ⊕ ((Unit) ⊕ (Unit))) := bnd (v1 + 1) (fun t7 => some (.inl t7))
def X1_isConvex_L35 (M : Mem) (o : Nat) (l1 : Int32) (t1 : Int32) (c1 : Int32) (t3 : Int32) (t5 : Int32) (q9 : Int32) : Option ((Int32) ⊕ ((Unit) ⊕ (Unit))) := un1 q9 (fun c2 => ld M (o + 3) 24 l1 (fun t6 => if (t1 + t6) ≤ c2 then (some (.inr (.inl ()))) else (if c2 = t3 then (X1_isConvex_L35_j77 M o l1 t1 c1 t3 t5 c2) else (if c2 = t5 then (X1_isConvex_L35_j77 M o l1 t1 c1 t3 t5 c2) else (bd1 (X1_bend M o t3 t5 c2) (fun t8 => if 0 < t8 then (X1_isConvex_L35_j77 M o l1 t1 c1 t3 t5 c2) else (some (.inr (.inr ())))))))))
def X1_isConvex_L7 (M : Mem) (o : Nat) (l1 : Int32) (t1 : Int32) (q9 : Int32) : Option ((Int32) ⊕ ((Unit) ⊕ (Unit))) := un1 q9 (fun c1 => ld M (o + 3) 24 l1 (fun t2 => if t2 ≤ c1 then (some (.inr (.inl ()))) else (bnd ((t1 + c1)) (fun t3 => bd1 (X1_next M o l1 c1) (fun t4 => bnd ((t1 + t4)) (fun t5 => bdS (loop (X1_isConvex_L35 M o l1 t1 c1 t3 t5) 3000 t1) (fun a9 => un0 a9 (bnd (c1 + 1) (fun t9 => some (.inl t9)))) (fun a9 => un0 a9 (some (.inr (.inr ()))))))))))
def X1_isConvex (M : Mem) (o : Nat) (l1 : Int32) : Option (Int32) := bnd ((l1 * 8)) (fun t1 => bdS (loop (X1_isConvex_L7 M o l1 t1) 3000 0) (fun a9 => un0 a9 (chk (isB 1) (some 1))) (fun a9 => un0 a9 (chk (isB 0) (some 0))))
set_option maxHeartbeats 4000000 in
set_option maxRecDepth 100000 in
theorem X1_isConvex_L35_j77_ok (hX : Cx p s m args meth c D cA ad n A sa cX1_isConvex 7 RX1 kX1_isConvex) {M : Mem} {o : Nat} {l1 : Int32} {t1 : Int32} {c1 : Int32} {t3 : Int32} {t5 : Int32} {v1 : Int32} (ho : DrOk n o) {r : (Int32) ⊕ ((Unit) ⊕ (Unit))} (h : X1_isConvex_L35_j77 M o l1 t1 c1 t3 t5 v1 = some r) (hin : ∀ (q0 : Int32), r = .inl q0 → JM 1 23 p l e s m args below meth c D cA ad n A 7 out M1 M 35 [(0, .ref (ad o)), (1, .int l1), (2, .int t1), (3, .int c1), (4, .int t3), (5, .int t5), (6, .int q0)] []) (hex0 : r = .inr (.inl ()) → JM 1 23 p l e s m args below meth c D cA ad n A 7 out M1 M 83 [(0, .ref (ad o)), (1, .int l1), (2, .int t1), (3, .int c1)] []) (hex1 : r = .inr (.inr ()) → JM 1 23 p l e s m args below meth c D cA ad n A 7 out M1 M 75 [] []) : JM 1 23 p l e s m args below meth c D cA ad n A 7 out M1 M 77 [(0, .ref (ad o)), (1, .int l1), (2, .int t1), (3, .int c1), (4, .int t3), (5, .int t5), (6, .int v1)] [] := by
  unfold X1_isConvex_L35_j77 at h
  obtain ⟨t7, et7, h⟩ := bnd_inv h
  refine J.iinc (q := 6) (L' := [(6, .int t7), (0, .ref (ad o)), (1, .int l1), (2, .int t1), (3, .int c1), (4, .int t3), (5, .int t5)]) hX 47 rfl rfl et7 (by decide) rfl ?_
  refine J.goto (tgt := 35) hX 48 rfl (by decide) ?_
  refine J.sub (L' := [(0, .ref (ad o)), (1, .int l1), (2, .int t1), (3, .int c1), (4, .int t3), (5, .int t5), (6, .int t7)]) [1, 2, 3, 4, 5, 6, 0] rfl ?_
  exact hin _ (Option.some.inj h).symm
set_option maxHeartbeats 4000000 in
set_option maxRecDepth 100000 in
theorem X1_isConvex_L35_ok (hX : Cx p s m args meth c D cA ad n A sa cX1_isConvex 7 RX1 kX1_isConvex) {M : Mem} {o : Nat} {l1 : Int32} {t1 : Int32} {c1 : Int32} {t3 : Int32} {t5 : Int32} {c2 : Int32} (ho : DrOk n o) {r : (Int32) ⊕ ((Unit) ⊕ (Unit))} (h : X1_isConvex_L35 M o l1 t1 c1 t3 t5 c2 = some r) (hin : ∀ (q0 : Int32), r = .inl q0 → JM 1 23 p l e s m args below meth c D cA ad n A 7 out M1 M 35 [(0, .ref (ad o)), (1, .int l1), (2, .int t1), (3, .int c1), (4, .int t3), (5, .int t5), (6, .int q0)] []) (hex0 : r = .inr (.inl ()) → JM 1 23 p l e s m args below meth c D cA ad n A 7 out M1 M 83 [(0, .ref (ad o)), (1, .int l1), (2, .int t1), (3, .int c1)] []) (hex1 : r = .inr (.inr ()) → JM 1 23 p l e s m args below meth c D cA ad n A 7 out M1 M 75 [] []) : JM 1 23 p l e s m args below meth c D cA ad n A 7 out M1 M 35 [(0, .ref (ad o)), (1, .int l1), (2, .int t1), (3, .int c1), (4, .int t3), (5, .int t5), (6, .int c2)] [] := by
  unfold X1_isConvex_L35 at h
  have h := un1_inv h
  refine J.iload hX 25 6 rfl rfl ?_
  refine J.iload_n hX 26 2 rfl rfl ?_
  refine J.aload_n hX 27 0 rfl rfl ?_
  refine J.getR hX 28 o 1 ho.lt0 ho.s0 rfl in_wsX10 2 (by decide) w_3 rfl rfl ?_
  refine J.iload_n hX 29 1 rfl rfl ?_
  obtain ⟨t6, et6, hb, h⟩ := ld_inv h
  refine J.ialdN hX 30 (o + 3) ho.lt3 ho.s3 hb et6 rfl ?_
  refine J.iadd hX 31 rfl ?_
  refine J.icmp_ge (tgt := 83) hX 32 rfl (by decide) (fun b2 => ?_) (fun b2 => ?_)
  · rw [if_pos b2] at h
    refine J.sub (L' := [(0, .ref (ad o)), (1, .int l1), (2, .int t1), (3, .int c1)]) [0, 1, 2, 3] rfl ?_
    exact hex0  (Option.some.inj h).symm
  · rw [if_neg b2] at h
    refine J.iload hX 33 6 rfl rfl ?_
    refine J.iload hX 34 4 rfl rfl ?_
    refine J.icmp_eq (tgt := 77) hX 35 rfl (by decide) (fun b3 => ?_) (fun b3 => ?_)
    · rw [if_pos b3] at h
      refine J.sub (L' := [(0, .ref (ad o)), (1, .int l1), (2, .int t1), (3, .int c1), (4, .int t3), (5, .int t5), (6, .int c2)]) [0, 1, 2, 3, 4, 5, 6] rfl ?_
      exact X1_isConvex_L35_j77_ok hX ho h hin hex0 hex1
    · rw [if_neg b3] at h
      refine J.iload hX 36 6 rfl rfl ?_
      refine J.iload hX 37 5 rfl rfl ?_
      refine J.icmp_eq (tgt := 77) hX 38 rfl (by decide) (fun b4 => ?_) (fun b4 => ?_)
      · rw [if_pos b4] at h
        refine J.sub (L' := [(0, .ref (ad o)), (1, .int l1), (2, .int t1), (3, .int c1), (4, .int t3), (5, .int t5), (6, .int c2)]) [0, 1, 2, 3, 4, 5, 6] rfl ?_
        exact X1_isConvex_L35_j77_ok hX ho h hin hex0 hex1
      · rw [if_neg b4] at h
        refine J.aload_n hX 39 0 rfl rfl ?_
        refine J.iload hX 40 4 rfl rfl ?_
        refine J.iload hX 41 5 rfl rfl ?_
        refine J.iload hX 42 6 rfl rfl ?_
        obtain ⟨t8, hc, h⟩ := bd1_inv h
        refine J.callV1 (As := [.int t3, .int t5, .int c2]) (rest := []) (k := o) hX 43 rfl (mX1_bend ho hc) okX1_bend w_8 ho.lt0 ho.s0 rfl rfl rfl (Nat.le_of_ble_eq_true rfl) ⟨Nat.le_of_ble_eq_true rfl, Nat.le_of_ble_eq_true rfl⟩ ⟨Nat.zero_le _, Nat.zero_le _⟩ ?_
        refine J.if_gt (tgt := 77) hX 44 rfl (by decide) (fun b5 => ?_) (fun b5 => ?_)
        · rw [if_pos b5] at h
          refine J.sub (L' := [(0, .ref (ad o)), (1, .int l1), (2, .int t1), (3, .int c1), (4, .int t3), (5, .int t5), (6, .int c2)]) [0, 1, 2, 3, 4, 5, 6] rfl ?_
          exact X1_isConvex_L35_j77_ok hX ho h hin hex0 hex1
        · rw [if_neg b5] at h
          refine J.sub (L' := []) [] rfl ?_
          exact hex1  (Option.some.inj h).symm
set_option maxHeartbeats 4000000 in
set_option maxRecDepth 100000 in
theorem X1_isConvex_L7_ok (hX : Cx p s m args meth c D cA ad n A sa cX1_isConvex 7 RX1 kX1_isConvex) {M : Mem} {o : Nat} {l1 : Int32} {t1 : Int32} {c1 : Int32} (ho : DrOk n o) {r : (Int32) ⊕ ((Unit) ⊕ (Unit))} (h : X1_isConvex_L7 M o l1 t1 c1 = some r) (hin : ∀ (q0 : Int32), r = .inl q0 → JM 1 23 p l e s m args below meth c D cA ad n A 7 out M1 M 7 [(0, .ref (ad o)), (1, .int l1), (2, .int t1), (3, .int q0)] []) (hex0 : r = .inr (.inl ()) → JM 1 23 p l e s m args below meth c D cA ad n A 7 out M1 M 89 [] []) (hex1 : r = .inr (.inr ()) → JM 1 23 p l e s m args below meth c D cA ad n A 7 out M1 M 75 [] []) : JM 1 23 p l e s m args below meth c D cA ad n A 7 out M1 M 7 [(0, .ref (ad o)), (1, .int l1), (2, .int t1), (3, .int c1)] [] := by
  unfold X1_isConvex_L7 at h
  have h := un1_inv h
  refine J.iload_n hX 6 3 rfl rfl ?_
  refine J.aload_n hX 7 0 rfl rfl ?_
  refine J.getR hX 8 o 1 ho.lt0 ho.s0 rfl in_wsX10 2 (by decide) w_3 rfl rfl ?_
  refine J.iload_n hX 9 1 rfl rfl ?_
  obtain ⟨t2, et2, hb, h⟩ := ld_inv h
  refine J.ialdN hX 10 (o + 3) ho.lt3 ho.s3 hb et2 rfl ?_
  refine J.icmp_ge (tgt := 89) hX 11 rfl (by decide) (fun b1 => ?_) (fun b1 => ?_)
  · rw [if_pos b1] at h
    refine J.sub (L' := []) [] rfl ?_
    exact hex0  (Option.some.inj h).symm
  · rw [if_neg b1] at h
    refine J.iload_n hX 12 2 rfl rfl ?_
    refine J.iload_n hX 13 3 rfl rfl ?_
    refine J.iadd hX 14 rfl ?_
    obtain ⟨t3, et3, h⟩ := bnd_inv h
    refine J.nm et3 ?_
    refine J.istore (L' := [(4, .int t3), (0, .ref (ad o)), (1, .int l1), (2, .int t1), (3, .int c1)]) hX 15 rfl (by decide) rfl ?_
    refine J.iload_n hX 16 3 rfl rfl ?_
    refine J.aload_n hX 17 1 rfl rfl ?_
    refine J.iload_n hX 18 2 rfl rfl ?_
    refine J.iload_n hX 19 4 rfl rfl ?_
    obtain ⟨t4, hc, h⟩ := bd1_inv h
    refine J.callV1 (As := [.int l1, .int c1]) (rest := [.int t1]) (k := o) hX 20 rfl (mX1_next ho hc) okX1_next w_7 ho.lt0 ho.s0 rfl rfl rfl (Nat.le_of_ble_eq_true rfl) ⟨Nat.le_of_ble_eq_true rfl, Nat.le_of_ble_eq_true rfl⟩ ⟨Nat.zero_le _, Nat.zero_le _⟩ ?_
    refine J.iadd hX 21 rfl ?_
    obtain ⟨t5, et5, h⟩ := bnd_inv h
    refine J.nm et5 ?_
    refine J.istore (L' := [(5, .int t5), (4, .int t3), (0, .ref (ad o)), (1, .int l1), (2, .int t1), (3, .int c1)]) hX 22 rfl (by decide) rfl ?_
    refine J.iload_n hX 23 4 rfl rfl ?_
    refine J.istore (L' := [(6, .int t1), (5, .int t5), (4, .int t3), (0, .ref (ad o)), (1, .int l1), (2, .int t1), (3, .int c1)]) hX 24 rfl (by decide) rfl ?_
    refine J.sub (L' := [(0, .ref (ad o)), (1, .int l1), (2, .int t1), (3, .int c1), (4, .int t3), (5, .int t5), (6, .int t1)]) [3, 4, 5, 6, 2, 1, 0] rfl ?_
    rcases bdS_inv h with ⟨a9, hlp, h⟩ | ⟨a9, hlp, h⟩
    · have h := un0_inv h
      suffices hE : JM 1 23 p l e s m args below meth c D cA ad n A 7 out M1 M 83 [(0, .ref (ad o)), (1, .int l1), (2, .int t1), (3, .int c1)] [] by
        exact loop_ok (fun q9 : Int32 => JM 1 23 p l e s m args below meth c D cA ad n A 7 out M1 M 35 [(0, .ref (ad o)), (1, .int l1), (2, .int t1), (3, .int c1), (4, .int t3), (5, .int t5), (6, .int q9)] []) (fun q9 r hB hst hex9 => X1_isConvex_L35_ok hX ho hB (fun _ hr => hst _ hr) (fun hr => by cases hex9 _ hr; exact hE) (fun hr => by cases hex9 _ hr)) 3000 _ hlp
      obtain ⟨t9, et9, h⟩ := bnd_inv h
      refine J.iinc (q := 3) (L' := [(3, .int t9), (0, .ref (ad o)), (1, .int l1), (2, .int t1)]) hX 49 rfl rfl et9 (by decide) rfl ?_
      refine J.goto (tgt := 7) hX 50 rfl (by decide) ?_
      refine J.sub (L' := [(0, .ref (ad o)), (1, .int l1), (2, .int t1), (3, .int t9)]) [1, 2, 3, 0] rfl ?_
      exact hin _ (Option.some.inj h).symm
    · have h := un0_inv h
      suffices hE : JM 1 23 p l e s m args below meth c D cA ad n A 7 out M1 M 75 [] [] by
        exact loop_ok (fun q9 : Int32 => JM 1 23 p l e s m args below meth c D cA ad n A 7 out M1 M 35 [(0, .ref (ad o)), (1, .int l1), (2, .int t1), (3, .int c1), (4, .int t3), (5, .int t5), (6, .int q9)] []) (fun q9 r hB hst hex9 => X1_isConvex_L35_ok hX ho hB (fun _ hr => hst _ hr) (fun hr => by cases hex9 _ hr) (fun hr => by cases hex9 _ hr; exact hE)) 3000 _ hlp
      refine J.sub (L' := []) [] rfl ?_
      exact hex1  (Option.some.inj h).symm
set_option maxHeartbeats 4000000 in
set_option maxRecDepth 100000 in
theorem mX1_isConvex {l : Launch} {D : va_G} {cA : Nat → ClassId} {ad : Nat → Nat} {n : Nat} {A : Nat → Prop} {sa : Nat → Nat} {M : Mem} {o : Nat} {l1 : Int32} {r : Int32} (ho : DrOk n o) (h : X1_isConvex M o l1 = some r) : CT l D cA ad n A sa yX1_isConvex cX1_isConvex 7 (some .boolean) 1 23 [.ref (ad o), .int l1] M (.inl (some (.int r))) M := by
  refine CT.of (kt := kX1_isConvex) (by decide) kX1_isConvex_ok (Nat.le_of_ble_eq_true rfl) ?_
  intro p e s m args below meth c hX hr ht
  unfold X1_isConvex at h
  refine J.sub (L' := [(0, .ref (ad o)), (1, .int l1)]) [0, 1] rfl ?_
  refine J.iload_n hX 0 1 rfl rfl ?_
  refine J.bipush (v := 8) hX 1 rfl (by decide) ?_
  refine J.imul hX 2 rfl ?_
  obtain ⟨t1, et1, h⟩ := bnd_inv h
  refine J.nm et1 ?_
  refine J.istore_n (L' := [(2, .int t1), (0, .ref (ad o)), (1, .int l1)]) hX 3 rfl (by decide) rfl ?_
  refine J.iconst (v := 0) hX 4 rfl (by decide) ?_
  refine J.istore_n (L' := [(3, .int 0), (2, .int t1), (0, .ref (ad o)), (1, .int l1)]) hX 5 rfl (by decide) rfl ?_
  refine J.sub (L' := [(0, .ref (ad o)), (1, .int l1), (2, .int t1), (3, .int 0)]) [2, 3, 1, 0] rfl ?_
  rcases bdS_inv h with ⟨a9, hlp, h⟩ | ⟨a9, hlp, h⟩
  · have h := un0_inv h
    suffices hE : JM 1 23 p l e s m args below meth c D cA ad n A 7 (.inl (some (.int r))) M M 89 [] [] by
      exact loop_ok (fun q9 : Int32 => JM 1 23 p l e s m args below meth c D cA ad n A 7 (.inl (some (.int r))) M M 7 [(0, .ref (ad o)), (1, .int l1), (2, .int t1), (3, .int q9)] []) (fun q9 r hB hst hex9 => X1_isConvex_L7_ok hX ho hB (fun _ hr => hst _ hr) (fun hr => by cases hex9 _ hr; exact hE) (fun hr => by cases hex9 _ hr)) 3000 _ hlp
    refine J.iconst (v := 1) hX 51 rfl (by decide) ?_
    obtain ⟨hz, h⟩ := chk_inv h
    cases h
    exact J.zret hX hr 52 (isB_nar hz) rfl
  · have h := un0_inv h
    suffices hE : JM 1 23 p l e s m args below meth c D cA ad n A 7 (.inl (some (.int r))) M M 75 [] [] by
      exact loop_ok (fun q9 : Int32 => JM 1 23 p l e s m args below meth c D cA ad n A 7 (.inl (some (.int r))) M M 7 [(0, .ref (ad o)), (1, .int l1), (2, .int t1), (3, .int q9)] []) (fun q9 r hB hst hex9 => X1_isConvex_L7_ok hX ho hB (fun _ hr => hst _ hr) (fun hr => by cases hex9 _ hr) (fun hr => by cases hex9 _ hr; exact hE)) 3000 _ hlp
    refine J.iconst (v := 0) hX 45 rfl (by decide) ?_
    obtain ⟨hz, h⟩ := chk_inv h
    cases h
    exact J.zret hX hr 46 (isB_nar hz) rfl
def X1_doubleArea_L4 (M : Mem) (o : Nat) (l1 : Int32) (q9 : Int32 × Int32) : Option ((Int32 × Int32) ⊕ (Int32)) := un2 q9 (fun c1 c2 => ld M (o + 3) 24 l1 (fun t1 => if t1 ≤ c2 then (some (.inr c1)) else (bnd (((l1 * 8) + c2)) (fun t2 => bd1 (X1_next M o l1 c2) (fun t3 => bnd (((l1 * 8) + t3)) (fun t4 => ld M (o + 1) 192 t2 (fun t5 => ld M (o + 2) 192 t4 (fun t6 => ld M (o + 1) 192 t4 (fun t7 => ld M (o + 2) 192 t2 (fun t8 => bnd ((c1 + ((t5 * t6) - (t7 * t8)))) (fun t9 => bnd (c2 + 1) (fun t10 => some (.inl (t9, t10))))))))))))))
def X1_doubleArea (M : Mem) (o : Nat) (l1 : Int32) : Option (Int32) := bd1 (loop (X1_doubleArea_L4 M o l1) 3000 (0, 0)) (fun x1 => some x1)
set_option maxHeartbeats 4000000 in
set_option maxRecDepth 100000 in
theorem X1_doubleArea_L4_ok (hX : Cx p s m args meth c D cA ad n A sa cX1_doubleArea 6 RX1 kX1_doubleArea) {M : Mem} {o : Nat} {l1 : Int32} {c1 : Int32} {c2 : Int32} (ho : DrOk n o) {r : (Int32 × Int32) ⊕ (Int32)} (h : X1_doubleArea_L4 M o l1 (c1, c2) = some r) (hin : ∀ (q0 : Int32) (q1 : Int32), r = .inl (q0, q1) → JM 1 22 p l e s m args below meth c D cA ad n A 6 out M1 M 4 [(0, .ref (ad o)), (1, .int l1), (2, .int q0), (3, .int q1)] []) (hex0 : ∀ (q0 : Int32), r = .inr q0 → JM 1 22 p l e s m args below meth c D cA ad n A 6 out M1 M 75 [(2, .int q0)] []) : JM 1 22 p l e s m args below meth c D cA ad n A 6 out M1 M 4 [(0, .ref (ad o)), (1, .int l1), (2, .int c1), (3, .int c2)] [] := by
  unfold X1_doubleArea_L4 at h
  have h := un2_inv h
  refine J.iload_n hX 4 3 rfl rfl ?_
  refine J.aload_n hX 5 0 rfl rfl ?_
  refine J.getR hX 6 o 1 ho.lt0 ho.s0 rfl in_wsX10 2 (by decide) w_3 rfl rfl ?_
  refine J.iload_n hX 7 1 rfl rfl ?_
  obtain ⟨t1, et1, hb, h⟩ := ld_inv h
  refine J.ialdN hX 8 (o + 3) ho.lt3 ho.s3 hb et1 rfl ?_
  refine J.icmp_ge (tgt := 75) hX 9 rfl (by decide) (fun b1 => ?_) (fun b1 => ?_)
  · rw [if_pos b1] at h
    refine J.sub (L' := [(2, .int c1)]) [2] rfl ?_
    exact hex0 _ (Option.some.inj h).symm
  · rw [if_neg b1] at h
    refine J.iload_n hX 10 1 rfl rfl ?_
    refine J.bipush (v := 8) hX 11 rfl (by decide) ?_
    refine J.imul hX 12 rfl ?_
    refine J.iload_n hX 13 3 rfl rfl ?_
    refine J.iadd hX 14 rfl ?_
    obtain ⟨t2, et2, h⟩ := bnd_inv h
    refine J.nm et2 ?_
    refine J.istore (L' := [(4, .int t2), (0, .ref (ad o)), (1, .int l1), (2, .int c1), (3, .int c2)]) hX 15 rfl (by decide) rfl ?_
    refine J.iload_n hX 16 2 rfl rfl ?_
    refine J.bipush (v := 8) hX 17 rfl (by decide) ?_
    refine J.imul hX 18 rfl ?_
    refine J.aload_n hX 19 1 rfl rfl ?_
    refine J.iload_n hX 20 2 rfl rfl ?_
    refine J.iload_n hX 21 4 rfl rfl ?_
    obtain ⟨t3, hc, h⟩ := bd1_inv h
    refine J.callV1 (As := [.int l1, .int c2]) (rest := [.int (l1 * 8)]) (k := o) hX 22 rfl (mX1_next ho hc) okX1_next w_7 ho.lt0 ho.s0 rfl rfl rfl (Nat.le_of_ble_eq_true rfl) ⟨Nat.le_of_ble_eq_true rfl, Nat.le_of_ble_eq_true rfl⟩ ⟨Nat.zero_le _, Nat.zero_le _⟩ ?_
    refine J.iadd hX 23 rfl ?_
    obtain ⟨t4, et4, h⟩ := bnd_inv h
    refine J.nm et4 ?_
    refine J.istore (L' := [(5, .int t4), (4, .int t2), (0, .ref (ad o)), (1, .int l1), (2, .int c1), (3, .int c2)]) hX 24 rfl (by decide) rfl ?_
    refine J.iload_n hX 25 4 rfl rfl ?_
    refine J.aload_n hX 26 2 rfl rfl ?_
    refine J.getR hX 27 o 1 ho.lt0 ho.s0 rfl in_wsX10 0 (by decide) w_4 rfl rfl ?_
    refine J.iload hX 28 1 rfl rfl ?_
    obtain ⟨t5, et5, hb, h⟩ := ld_inv h
    refine J.ialdN hX 29 (o + 1) ho.lt1 ho.s1 hb et5 rfl ?_
    refine J.aload_n hX 30 2 rfl rfl ?_
    refine J.getR hX 31 o 1 ho.lt0 ho.s0 rfl in_wsX10 1 (by decide) w_5 rfl rfl ?_
    refine J.iload hX 32 0 rfl rfl ?_
    obtain ⟨t6, et6, hb, h⟩ := ld_inv h
    refine J.ialdN hX 33 (o + 2) ho.lt2 ho.s2 hb et6 rfl ?_
    refine J.imul hX 34 rfl ?_
    refine J.aload_n hX 35 2 rfl rfl ?_
    refine J.getR hX 36 o 1 ho.lt0 ho.s0 rfl in_wsX10 0 (by decide) w_4 rfl rfl ?_
    refine J.iload hX 37 0 rfl rfl ?_
    obtain ⟨t7, et7, hb, h⟩ := ld_inv h
    refine J.ialdN hX 38 (o + 1) ho.lt1 ho.s1 hb et7 rfl ?_
    refine J.aload_n hX 39 2 rfl rfl ?_
    refine J.getR hX 40 o 1 ho.lt0 ho.s0 rfl in_wsX10 1 (by decide) w_5 rfl rfl ?_
    refine J.iload hX 41 1 rfl rfl ?_
    obtain ⟨t8, et8, hb, h⟩ := ld_inv h
    refine J.ialdN hX 42 (o + 2) ho.lt2 ho.s2 hb et8 rfl ?_
    refine J.imul hX 43 rfl ?_
    refine J.isub hX 44 rfl ?_
    refine J.iadd hX 45 rfl ?_
    obtain ⟨t9, et9, h⟩ := bnd_inv h
    refine J.nm et9 ?_
    refine J.istore_n (L' := [(2, .int t9), (5, .int t4), (4, .int t2), (0, .ref (ad o)), (1, .int l1), (3, .int c2)]) hX 46 rfl (by decide) rfl ?_
    obtain ⟨t10, et10, h⟩ := bnd_inv h
    refine J.iinc (q := 5) (L' := [(3, .int t10), (2, .int t9), (5, .int t4), (4, .int t2), (0, .ref (ad o)), (1, .int l1)]) hX 47 rfl rfl et10 (by decide) rfl ?_
    refine J.goto (tgt := 4) hX 48 rfl (by decide) ?_
    refine J.sub (L' := [(0, .ref (ad o)), (1, .int l1), (2, .int t9), (3, .int t10)]) [4, 5, 1, 0] rfl ?_
    exact hin _ _ (Option.some.inj h).symm
set_option maxHeartbeats 4000000 in
set_option maxRecDepth 100000 in
theorem mX1_doubleArea {l : Launch} {D : va_G} {cA : Nat → ClassId} {ad : Nat → Nat} {n : Nat} {A : Nat → Prop} {sa : Nat → Nat} {M : Mem} {o : Nat} {l1 : Int32} {r : Int32} (ho : DrOk n o) (h : X1_doubleArea M o l1 = some r) : CT l D cA ad n A sa yX1_doubleArea cX1_doubleArea 6 (some .int) 1 22 [.ref (ad o), .int l1] M (.inl (some (.int r))) M := by
  refine CT.of (kt := kX1_doubleArea) (by decide) kX1_doubleArea_ok (Nat.le_of_ble_eq_true rfl) ?_
  intro p e s m args below meth c hX hr ht
  unfold X1_doubleArea at h
  refine J.sub (L' := [(0, .ref (ad o)), (1, .int l1)]) [0, 1] rfl ?_
  refine J.iconst (v := 0) hX 0 rfl (by decide) ?_
  refine J.istore_n (L' := [(2, .int 0), (0, .ref (ad o)), (1, .int l1)]) hX 1 rfl (by decide) rfl ?_
  refine J.iconst (v := 0) hX 2 rfl (by decide) ?_
  refine J.istore_n (L' := [(3, .int 0), (2, .int 0), (0, .ref (ad o)), (1, .int l1)]) hX 3 rfl (by decide) rfl ?_
  refine J.sub (L' := [(0, .ref (ad o)), (1, .int l1), (2, .int 0), (3, .int 0)]) [2, 3, 1, 0] rfl ?_
  obtain ⟨x1, hlp, h⟩ := bd1_inv h
  suffices hE : JM 1 22 p l e s m args below meth c D cA ad n A 6 (.inl (some (.int r))) M M 75 [(2, .int x1)] [] by
    exact loop_ok (fun q9 : Int32 × Int32 => JM 1 22 p l e s m args below meth c D cA ad n A 6 (.inl (some (.int r))) M M 4 [(0, .ref (ad o)), (1, .int l1), (2, .int q9.1), (3, .int q9.2)] []) (fun q9 r hB hst hex9 => X1_doubleArea_L4_ok hX ho hB (fun _ _ hr => hst _ hr) (fun _ hr => by cases hex9 _ hr; exact hE)) 3000 _ hlp
  refine J.iload_n hX 49 0 rfl rfl ?_
  cases h
  exact J.iret hX hr 50 rfl
def X1_closePatch (M : Mem) (o : Nat) (l1 : Int32) (l2 : Int32) (l3 : Int32) : Option (Int32 × Mem) := sto M (o + 3) 24 l1 l2 (fun N1 => sto N1 (o + 4) 24 l1 l3 (fun N2 => bd1 (X1_isConvex N2 o l1) (fun t1 => if t1 = 0 then (bd1 (X1_openPatch N2 o l1) (fun N3 => some (0, N3))) else (bd1 (X1_doubleArea N2 o l1) (fun t2 => some (t2, N2))))))
set_option maxHeartbeats 4000000 in
set_option maxRecDepth 100000 in
theorem mX1_closePatch {l : Launch} {D : va_G} {cA : Nat → ClassId} {ad : Nat → Nat} {n : Nat} {A : Nat → Prop} {sa : Nat → Nat} {M : Mem} {o : Nat} {l1 : Int32} {l2 : Int32} {l3 : Int32} {r : Int32} {Mf : Mem} (ho : DrOk n o) (h : X1_closePatch M o l1 l2 l3 = some (r, Mf)) : CT l D cA ad n A sa yX1_closePatch cX1_closePatch 4 (some .int) 2 49 [.ref (ad o), .int l1, .int l2, .int l3] M (.inl (some (.int r))) Mf := by
  refine CT.of (kt := kX1_closePatch) (by decide) kX1_closePatch_ok (Nat.le_of_ble_eq_true rfl) ?_
  intro p e s m args below meth c hX hr ht
  unfold X1_closePatch at h
  refine J.sub (L' := [(0, .ref (ad o)), (1, .int l1), (2, .int l2), (3, .int l3)]) [0, 1, 2, 3] rfl ?_
  refine J.aload_n hX 0 0 rfl rfl ?_
  refine J.getR hX 1 o 1 ho.lt0 ho.s0 rfl in_wsX10 2 (by decide) w_3 rfl rfl ?_
  refine J.iload_n hX 2 1 rfl rfl ?_
  refine J.iload_n hX 3 2 rfl rfl ?_
  obtain ⟨N1, eN1, hb, h⟩ := sto_inv h
  refine J.iastN hX 4 (o + 3) ho.lt3 ho.s3 hb eN1 rfl ?_
  refine J.aload_n hX 5 0 rfl rfl ?_
  refine J.getR hX 6 o 1 ho.lt0 ho.s0 rfl in_wsX10 3 (by decide) w_9 rfl rfl ?_
  refine J.iload_n hX 7 1 rfl rfl ?_
  refine J.iload_n hX 8 3 rfl rfl ?_
  obtain ⟨N2, eN2, hb, h⟩ := sto_inv h
  refine J.iastN hX 9 (o + 4) ho.lt4 ho.s4 hb eN2 rfl ?_
  refine J.aload_n hX 10 0 rfl rfl ?_
  refine J.iload_n hX 11 1 rfl rfl ?_
  obtain ⟨t1, hc, h⟩ := bd1_inv h
  refine J.callV1 (As := [.int l1]) (rest := []) (k := o) hX 12 rfl (mX1_isConvex ho hc) okX1_isConvex w_10 ho.lt0 ho.s0 rfl rfl rfl (Nat.le_of_ble_eq_true rfl) ⟨Nat.le_of_ble_eq_true rfl, Nat.le_of_ble_eq_true rfl⟩ ⟨Nat.zero_le _, Nat.zero_le _⟩ ?_
  refine J.if_ne (tgt := 29) hX 13 rfl (by decide) (fun b1 => ?_) (fun b1 => ?_)
  · rw [if_neg b1] at h
    refine J.aload_n hX 19 0 rfl rfl ?_
    refine J.iload_n hX 20 1 rfl rfl ?_
    obtain ⟨t2, hc, h⟩ := bd1_inv h
    refine J.callV1 (As := [.int l1]) (rest := []) (k := o) hX 21 rfl (mX1_doubleArea ho hc) okX1_doubleArea w_11 ho.lt0 ho.s0 rfl rfl rfl (Nat.le_of_ble_eq_true rfl) ⟨Nat.le_of_ble_eq_true rfl, Nat.le_of_ble_eq_true rfl⟩ ⟨Nat.zero_le _, Nat.zero_le _⟩ ?_
    cases h
    exact J.iret hX hr 22 rfl
  · rw [if_pos b1] at h
    refine J.aload_n hX 14 0 rfl rfl ?_
    refine J.iload_n hX 15 1 rfl rfl ?_
    obtain ⟨N3, hc, h⟩ := bd1_inv h
    refine J.callV0 (As := [.int l1]) (rest := []) (k := o) hX 16 rfl (mX1_openPatch ho hc) okX1_openPatch w_6 ho.lt0 ho.s0 rfl rfl rfl (Nat.le_of_ble_eq_true rfl) ⟨Nat.le_of_ble_eq_true rfl, Nat.le_of_ble_eq_true rfl⟩ ⟨Nat.zero_le _, Nat.zero_le _⟩ ?_
    refine J.iconst (v := 0) hX 17 rfl (by decide) ?_
    cases h
    exact J.iret hX hr 18 rfl
def X1_isClosed_j14 (M : Mem) (v1 : Int32) : Option (Int32) := chk (isB v1) (some v1)
def X1_isClosed (M : Mem) (o : Nat) (l1 : Int32) : Option (Int32) := ld M (o + 3) 24 l1 (fun t1 => if t1 ≤ 0 then (X1_isClosed_j14 M 0) else (X1_isClosed_j14 M 1))
set_option maxHeartbeats 4000000 in
set_option maxRecDepth 100000 in
theorem X1_isClosed_j14_ok (hX : Cx p s m args meth c D cA ad n A sa cX1_isClosed 2 RX1 kX1_isClosed) {M : Mem} {v1 : Int32} {r : Int32}  (hr : meth.sig.returnType = (some .boolean)) (ht : ∀ x ∈ c.exceptionTable.toList, False) (h : X1_isClosed_j14 M v1 = some r) : JM 0 0 p l e s m args below meth c D cA ad n A 2 (.inl (some (.int r))) M M 14 [] [.int v1] := by
  unfold X1_isClosed_j14 at h
  obtain ⟨hz, h⟩ := chk_inv h
  cases h
  exact J.zret hX hr 8 (isB_nar hz) rfl
set_option maxHeartbeats 4000000 in
set_option maxRecDepth 100000 in
theorem mX1_isClosed {l : Launch} {D : va_G} {cA : Nat → ClassId} {ad : Nat → Nat} {n : Nat} {A : Nat → Prop} {sa : Nat → Nat} {M : Mem} {o : Nat} {l1 : Int32} {r : Int32} (ho : DrOk n o) (h : X1_isClosed M o l1 = some r) : CT l D cA ad n A sa yX1_isClosed cX1_isClosed 2 (some .boolean) 0 0 [.ref (ad o), .int l1] M (.inl (some (.int r))) M := by
  refine CT.of (kt := kX1_isClosed) (by decide) kX1_isClosed_ok (Nat.le_of_ble_eq_true rfl) ?_
  intro p e s m args below meth c hX hr ht
  unfold X1_isClosed at h
  refine J.sub (L' := [(0, .ref (ad o)), (1, .int l1)]) [0, 1] rfl ?_
  refine J.aload_n hX 0 0 rfl rfl ?_
  refine J.getR hX 1 o 1 ho.lt0 ho.s0 rfl in_wsX10 2 (by decide) w_3 rfl rfl ?_
  refine J.iload_n hX 2 1 rfl rfl ?_
  obtain ⟨t1, et1, hb, h⟩ := ld_inv h
  refine J.ialdN hX 3 (o + 3) ho.lt3 ho.s3 hb et1 rfl ?_
  refine J.if_le (tgt := 13) hX 4 rfl (by decide) (fun b1 => ?_) (fun b1 => ?_)
  · rw [if_pos b1] at h
    refine J.iconst (v := 0) hX 7 rfl (by decide) ?_
    refine J.sub (L' := []) [] rfl ?_
    exact X1_isClosed_j14_ok hX  hr ht h
  · rw [if_neg b1] at h
    refine J.iconst (v := 1) hX 5 rfl (by decide) ?_
    refine J.goto (tgt := 14) hX 6 rfl (by decide) ?_
    refine J.sub (L' := []) [] rfl ?_
    exact X1_isClosed_j14_ok hX  hr ht h
def X1_closedSet_L4_j24 (M : Mem) (o : Nat) (v1 : Int32) (v2 : Int32) : Option ((Int32 × Int32) ⊕ (Int32)) := bnd (v2 + 1) (fun t2 => some (.inl (v1, t2)))
def X1_closedSet_L4 (M : Mem) (o : Nat) (q9 : Int32 × Int32) : Option ((Int32 × Int32) ⊕ (Int32)) := un2 q9 (fun c1 c2 => if 24 ≤ c2 then (some (.inr c1)) else (bd1 (X1_isClosed M o c2) (fun t1 => if t1 = 0 then (X1_closedSet_L4_j24 M o c1 c2) else (bnd ((c1 ||| (1 <<< (c2 &&& 31)))) (fun t3 => X1_closedSet_L4_j24 M o t3 c2)))))
def X1_closedSet (M : Mem) (o : Nat) : Option (Int32) := bd1 (loop (X1_closedSet_L4 M o) 3000 (0, 0)) (fun x1 => some x1)
set_option maxHeartbeats 4000000 in
set_option maxRecDepth 100000 in
theorem X1_closedSet_L4_j24_ok (hX : Cx p s m args meth c D cA ad n A sa cX1_closedSet 3 RX1 kX1_closedSet) {M : Mem} {o : Nat} {v1 : Int32} {v2 : Int32} (ho : DrOk n o) {r : (Int32 × Int32) ⊕ (Int32)} (h : X1_closedSet_L4_j24 M o v1 v2 = some r) (hin : ∀ (q0 : Int32) (q1 : Int32), r = .inl (q0, q1) → JM 1 21 p l e s m args below meth c D cA ad n A 3 out M1 M 4 [(0, .ref (ad o)), (1, .int q0), (2, .int q1)] []) (hex0 : ∀ (q0 : Int32), r = .inr q0 → JM 1 21 p l e s m args below meth c D cA ad n A 3 out M1 M 30 [(1, .int q0)] []) : JM 1 21 p l e s m args below meth c D cA ad n A 3 out M1 M 24 [(0, .ref (ad o)), (1, .int v1), (2, .int v2)] [] := by
  unfold X1_closedSet_L4_j24 at h
  obtain ⟨t2, et2, h⟩ := bnd_inv h
  refine J.iinc (q := 2) (L' := [(2, .int t2), (0, .ref (ad o)), (1, .int v1)]) hX 17 rfl rfl et2 (by decide) rfl ?_
  refine J.goto (tgt := 4) hX 18 rfl (by decide) ?_
  refine J.sub (L' := [(0, .ref (ad o)), (1, .int v1), (2, .int t2)]) [1, 2, 0] rfl ?_
  exact hin _ _ (Option.some.inj h).symm
set_option maxHeartbeats 4000000 in
set_option maxRecDepth 100000 in
theorem X1_closedSet_L4_ok (hX : Cx p s m args meth c D cA ad n A sa cX1_closedSet 3 RX1 kX1_closedSet) {M : Mem} {o : Nat} {c1 : Int32} {c2 : Int32} (ho : DrOk n o) {r : (Int32 × Int32) ⊕ (Int32)} (h : X1_closedSet_L4 M o (c1, c2) = some r) (hin : ∀ (q0 : Int32) (q1 : Int32), r = .inl (q0, q1) → JM 1 21 p l e s m args below meth c D cA ad n A 3 out M1 M 4 [(0, .ref (ad o)), (1, .int q0), (2, .int q1)] []) (hex0 : ∀ (q0 : Int32), r = .inr q0 → JM 1 21 p l e s m args below meth c D cA ad n A 3 out M1 M 30 [(1, .int q0)] []) : JM 1 21 p l e s m args below meth c D cA ad n A 3 out M1 M 4 [(0, .ref (ad o)), (1, .int c1), (2, .int c2)] [] := by
  unfold X1_closedSet_L4 at h
  have h := un2_inv h
  refine J.iload_n hX 4 2 rfl rfl ?_
  refine J.bipush (v := 24) hX 5 rfl (by decide) ?_
  refine J.icmp_ge (tgt := 30) hX 6 rfl (by decide) (fun b1 => ?_) (fun b1 => ?_)
  · rw [if_pos b1] at h
    refine J.sub (L' := [(1, .int c1)]) [1] rfl ?_
    exact hex0 _ (Option.some.inj h).symm
  · rw [if_neg b1] at h
    refine J.aload_n hX 7 0 rfl rfl ?_
    refine J.iload_n hX 8 2 rfl rfl ?_
    obtain ⟨t1, hc, h⟩ := bd1_inv h
    refine J.callV1 (As := [.int c2]) (rest := []) (k := o) hX 9 rfl (mX1_isClosed ho hc) okX1_isClosed w_12 ho.lt0 ho.s0 rfl rfl rfl (Nat.le_of_ble_eq_true rfl) ⟨Nat.le_of_ble_eq_true rfl, Nat.le_of_ble_eq_true rfl⟩ ⟨Nat.zero_le _, Nat.zero_le _⟩ ?_
    refine J.if_eq (tgt := 24) hX 10 rfl (by decide) (fun b2 => ?_) (fun b2 => ?_)
    · rw [if_pos b2] at h
      refine J.sub (L' := [(0, .ref (ad o)), (1, .int c1), (2, .int c2)]) [0, 1, 2] rfl ?_
      exact X1_closedSet_L4_j24_ok hX ho h hin hex0
    · rw [if_neg b2] at h
      refine J.iload_n hX 11 1 rfl rfl ?_
      refine J.iconst (v := 1) hX 12 rfl (by decide) ?_
      refine J.iload_n hX 13 2 rfl rfl ?_
      refine J.ishl hX 14 rfl ?_
      refine J.ior hX 15 rfl ?_
      obtain ⟨t3, et3, h⟩ := bnd_inv h
      refine J.nm et3 ?_
      refine J.istore_n (L' := [(1, .int t3), (0, .ref (ad o)), (2, .int c2)]) hX 16 rfl (by decide) rfl ?_
      refine J.sub (L' := [(0, .ref (ad o)), (1, .int t3), (2, .int c2)]) [1, 0, 2] rfl ?_
      exact X1_closedSet_L4_j24_ok hX ho h hin hex0
set_option maxHeartbeats 4000000 in
set_option maxRecDepth 100000 in
theorem mX1_closedSet {l : Launch} {D : va_G} {cA : Nat → ClassId} {ad : Nat → Nat} {n : Nat} {A : Nat → Prop} {sa : Nat → Nat} {M : Mem} {o : Nat} {r : Int32} (ho : DrOk n o) (h : X1_closedSet M o = some r) : CT l D cA ad n A sa yX1_closedSet cX1_closedSet 3 (some .int) 1 21 [.ref (ad o)] M (.inl (some (.int r))) M := by
  refine CT.of (kt := kX1_closedSet) (by decide) kX1_closedSet_ok (Nat.le_of_ble_eq_true rfl) ?_
  intro p e s m args below meth c hX hr ht
  unfold X1_closedSet at h
  refine J.sub (L' := [(0, .ref (ad o))]) [0] rfl ?_
  refine J.iconst (v := 0) hX 0 rfl (by decide) ?_
  refine J.istore_n (L' := [(1, .int 0), (0, .ref (ad o))]) hX 1 rfl (by decide) rfl ?_
  refine J.iconst (v := 0) hX 2 rfl (by decide) ?_
  refine J.istore_n (L' := [(2, .int 0), (1, .int 0), (0, .ref (ad o))]) hX 3 rfl (by decide) rfl ?_
  refine J.sub (L' := [(0, .ref (ad o)), (1, .int 0), (2, .int 0)]) [2, 1, 0] rfl ?_
  obtain ⟨x1, hlp, h⟩ := bd1_inv h
  suffices hE : JM 1 21 p l e s m args below meth c D cA ad n A 3 (.inl (some (.int r))) M M 30 [(1, .int x1)] [] by
    exact loop_ok (fun q9 : Int32 × Int32 => JM 1 21 p l e s m args below meth c D cA ad n A 3 (.inl (some (.int r))) M M 4 [(0, .ref (ad o)), (1, .int q9.1), (2, .int q9.2)] []) (fun q9 r hB hst hex9 => X1_closedSet_L4_ok hX ho hB (fun _ _ hr => hst _ hr) (fun _ hr => by cases hex9 _ hr; exact hE)) 3000 _ hlp
  refine J.iload_n hX 19 0 rfl rfl ?_
  cases h
  exact J.iret hX hr 20 rfl
def X1_closedPatches (M : Mem) (o : Nat) : Option (Int32) := bd1 (X1_closedSet M o) (fun t1 => bd1 (J6_bitCount_0f7a4 M t1) (fun t2 => some t2))
set_option maxHeartbeats 4000000 in
set_option maxRecDepth 100000 in
theorem mX1_closedPatches {l : Launch} {D : va_G} {cA : Nat → ClassId} {ad : Nat → Nat} {n : Nat} {A : Nat → Prop} {sa : Nat → Nat} {M : Mem} {o : Nat} {r : Int32} (ho : DrOk n o) (h : X1_closedPatches M o = some r) : CT l D cA ad n A sa yX1_closedPatches cX1_closedPatches 1 (some .int) 2 43 [.ref (ad o)] M (.inl (some (.int r))) M := by
  refine CT.of (kt := kX1_closedPatches) (by decide) kX1_closedPatches_ok (Nat.le_of_ble_eq_true rfl) ?_
  intro p e s m args below meth c hX hr ht
  unfold X1_closedPatches at h
  refine J.sub (L' := [(0, .ref (ad o))]) [0] rfl ?_
  refine J.aload_n hX 0 0 rfl rfl ?_
  obtain ⟨t1, hc, h⟩ := bd1_inv h
  refine J.callV1 (As := []) (rest := []) (k := o) hX 1 rfl (mX1_closedSet ho hc) okX1_closedSet w_13 ho.lt0 ho.s0 rfl rfl rfl (Nat.le_of_ble_eq_true rfl) ⟨Nat.le_of_ble_eq_true rfl, Nat.le_of_ble_eq_true rfl⟩ ⟨Nat.zero_le _, Nat.zero_le _⟩ ?_
  obtain ⟨t2, hc, h⟩ := bd1_inv h
  refine J.callS1 (As := [.int t1]) (rest := []) hX 2 rfl (mJ6_bitCount_0f7a4  hc) okJ6_bitCount_0f7a4 w_14 rfl rfl (Nat.le_of_ble_eq_true rfl) ⟨Nat.le_of_ble_eq_true rfl, Nat.le_of_ble_eq_true rfl⟩ ⟨Nat.zero_le _, Nat.zero_le _⟩ ?_
  cases h
  exact J.iret hX hr 3 rfl
def X1_sideOf_L30_j90 (M : Mem) (o : Nat) (l3 : Int32) (t1 : Int32) (t3 : Int32) (v10 : Int32) (v11 : Int32) (v12 : Int32) : Option ((Int32 × Int32 × Int32) ⊕ (Int32 × Int32)) := bnd (v11 + 1) (fun t6 => some (.inl (v10, v12, t6)))
def X1_sideOf_L30_j85 (M : Mem) (o : Nat) (l3 : Int32) (t1 : Int32) (t3 : Int32) (v8 : Int32) (v9 : Int32) : Option ((Int32 × Int32 × Int32) ⊕ (Int32 × Int32)) := X1_sideOf_L30_j90 M o l3 t1 t3 v8 v9 1
def X1_sideOf_L30_j73 (M : Mem) (o : Nat) (l3 : Int32) (t1 : Int32) (t3 : Int32) (v4 : Int32) (v5 : Int32) (v6 : Int32) (v7 : Int32) : Option ((Int32 × Int32 × Int32) ⊕ (Int32 × Int32)) := if v4 = 0 then (if 0 ≤ v6 then (X1_sideOf_L30_j90 M o l3 t1 t3 v7 v5 0) else (X1_sideOf_L30_j85 M o l3 t1 t3 v7 v5)) else (X1_sideOf_L30_j85 M o l3 t1 t3 v7 v5)
def X1_sideOf_L30_j68 (M : Mem) (o : Nat) (l3 : Int32) (t1 : Int32) (t3 : Int32) (v1 : Int32) (v2 : Int32) (v3 : Int32) : Option ((Int32 × Int32 × Int32) ⊕ (Int32 × Int32)) := X1_sideOf_L30_j73 M o l3 t1 t3 v1 v2 v3 1
def X1_sideOf_L30 (M : Mem) (o : Nat) (l3 : Int32) (t1 : Int32) (t3 : Int32) (q9 : Int32 × Int32 × Int32) : Option ((Int32 × Int32 × Int32) ⊕ (Int32 × Int32)) := un3 q9 (fun c1 c2 c3 => ld M (o + 3) 24 l3 (fun t4 => if t4 ≤ c3 then (some (.inr (c1, c2))) else (bd1 (X1_bend M o t1 t3 ((l3 * 8) + c3)) (fun t5 => if c1 = 0 then (if t5 ≤ 0 then (X1_sideOf_L30_j73 M o l3 t1 t3 c2 c3 t5 0) else (X1_sideOf_L30_j68 M o l3 t1 t3 c2 c3 t5)) else (X1_sideOf_L30_j68 M o l3 t1 t3 c2 c3 t5)))))
def X1_sideOf_j117 (M : Mem) (v13 : Int32) : Option (Int32) := some v13
def X1_sideOf (M : Mem) (o : Nat) (l1 : Int32) (l2 : Int32) (l3 : Int32) : Option (Int32) := bnd (((l1 * 8) + l2)) (fun t1 => bd1 (X1_next M o l1 l2) (fun t2 => bnd (((l1 * 8) + t2)) (fun t3 => bd2 (loop (X1_sideOf_L30 M o l3 t1 t3) 3000 (0, 0, 0)) (fun x1 x2 => if x1 = x2 then (some 0) else (if x1 = 0 then (X1_sideOf_j117 M (-1)) else (X1_sideOf_j117 M 1))))))
set_option maxHeartbeats 4000000 in
set_option maxRecDepth 100000 in
theorem X1_sideOf_L30_j90_ok (hX : Cx p s m args meth c D cA ad n A sa cX1_sideOf 10 RX1 kX1_sideOf) {M : Mem} {o : Nat} {l3 : Int32} {t1 : Int32} {t3 : Int32} {v10 : Int32} {v11 : Int32} {v12 : Int32} (ho : DrOk n o) {r : (Int32 × Int32 × Int32) ⊕ (Int32 × Int32)} (h : X1_sideOf_L30_j90 M o l3 t1 t3 v10 v11 v12 = some r) (hin : ∀ (q0 : Int32) (q1 : Int32) (q2 : Int32), r = .inl (q0, q1, q2) → JM 1 23 p l e s m args below meth c D cA ad n A 10 out M1 M 30 [(0, .ref (ad o)), (3, .int l3), (4, .int t1), (5, .int t3), (6, .int q0), (7, .int q1), (8, .int q2)] []) (hex0 : ∀ (q0 : Int32) (q1 : Int32), r = .inr (q0, q1) → JM 1 23 p l e s m args below meth c D cA ad n A 10 out M1 M 98 [(6, .int q0), (7, .int q1)] []) : JM 1 23 p l e s m args below meth c D cA ad n A 10 out M1 M 90 [(0, .ref (ad o)), (3, .int l3), (4, .int t1), (5, .int t3), (6, .int v10), (8, .int v11)] [.int v12] := by
  unfold X1_sideOf_L30_j90 at h
  refine J.istore (L' := [(7, .int v12), (0, .ref (ad o)), (3, .int l3), (4, .int t1), (5, .int t3), (6, .int v10), (8, .int v11)]) hX 52 rfl (by decide) rfl ?_
  obtain ⟨t6, et6, h⟩ := bnd_inv h
  refine J.iinc (q := 6) (L' := [(8, .int t6), (7, .int v12), (0, .ref (ad o)), (3, .int l3), (4, .int t1), (5, .int t3), (6, .int v10)]) hX 53 rfl rfl et6 (by decide) rfl ?_
  refine J.goto (tgt := 30) hX 54 rfl (by decide) ?_
  refine J.sub (L' := [(0, .ref (ad o)), (3, .int l3), (4, .int t1), (5, .int t3), (6, .int v10), (7, .int v12), (8, .int t6)]) [2, 3, 4, 5, 6, 1, 0] rfl ?_
  exact hin _ _ _ (Option.some.inj h).symm
set_option maxHeartbeats 4000000 in
set_option maxRecDepth 100000 in
theorem X1_sideOf_L30_j85_ok (hX : Cx p s m args meth c D cA ad n A sa cX1_sideOf 10 RX1 kX1_sideOf) {M : Mem} {o : Nat} {l3 : Int32} {t1 : Int32} {t3 : Int32} {v8 : Int32} {v9 : Int32} (ho : DrOk n o) {r : (Int32 × Int32 × Int32) ⊕ (Int32 × Int32)} (h : X1_sideOf_L30_j85 M o l3 t1 t3 v8 v9 = some r) (hin : ∀ (q0 : Int32) (q1 : Int32) (q2 : Int32), r = .inl (q0, q1, q2) → JM 1 23 p l e s m args below meth c D cA ad n A 10 out M1 M 30 [(0, .ref (ad o)), (3, .int l3), (4, .int t1), (5, .int t3), (6, .int q0), (7, .int q1), (8, .int q2)] []) (hex0 : ∀ (q0 : Int32) (q1 : Int32), r = .inr (q0, q1) → JM 1 23 p l e s m args below meth c D cA ad n A 10 out M1 M 98 [(6, .int q0), (7, .int q1)] []) : JM 1 23 p l e s m args below meth c D cA ad n A 10 out M1 M 85 [(0, .ref (ad o)), (3, .int l3), (4, .int t1), (5, .int t3), (6, .int v8), (8, .int v9)] [] := by
  unfold X1_sideOf_L30_j85 at h
  refine J.iconst (v := 1) hX 49 rfl (by decide) ?_
  refine J.goto (tgt := 90) hX 50 rfl (by decide) ?_
  refine J.sub (L' := [(0, .ref (ad o)), (3, .int l3), (4, .int t1), (5, .int t3), (6, .int v8), (8, .int v9)]) [0, 1, 2, 3, 4, 5] rfl ?_
  exact X1_sideOf_L30_j90_ok hX ho h hin hex0
set_option maxHeartbeats 4000000 in
set_option maxRecDepth 100000 in
theorem X1_sideOf_L30_j73_ok (hX : Cx p s m args meth c D cA ad n A sa cX1_sideOf 10 RX1 kX1_sideOf) {M : Mem} {o : Nat} {l3 : Int32} {t1 : Int32} {t3 : Int32} {v4 : Int32} {v5 : Int32} {v6 : Int32} {v7 : Int32} (ho : DrOk n o) {r : (Int32 × Int32 × Int32) ⊕ (Int32 × Int32)} (h : X1_sideOf_L30_j73 M o l3 t1 t3 v4 v5 v6 v7 = some r) (hin : ∀ (q0 : Int32) (q1 : Int32) (q2 : Int32), r = .inl (q0, q1, q2) → JM 1 23 p l e s m args below meth c D cA ad n A 10 out M1 M 30 [(0, .ref (ad o)), (3, .int l3), (4, .int t1), (5, .int t3), (6, .int q0), (7, .int q1), (8, .int q2)] []) (hex0 : ∀ (q0 : Int32) (q1 : Int32), r = .inr (q0, q1) → JM 1 23 p l e s m args below meth c D cA ad n A 10 out M1 M 98 [(6, .int q0), (7, .int q1)] []) : JM 1 23 p l e s m args below meth c D cA ad n A 10 out M1 M 73 [(0, .ref (ad o)), (3, .int l3), (4, .int t1), (5, .int t3), (7, .int v4), (8, .int v5), (9, .int v6)] [.int v7] := by
  unfold X1_sideOf_L30_j73 at h
  refine J.istore (L' := [(6, .int v7), (0, .ref (ad o)), (3, .int l3), (4, .int t1), (5, .int t3), (7, .int v4), (8, .int v5), (9, .int v6)]) hX 44 rfl (by decide) rfl ?_
  refine J.iload hX 45 5 rfl rfl ?_
  refine J.if_ne (tgt := 85) hX 46 rfl (by decide) (fun b3 => ?_) (fun b3 => ?_)
  · rw [if_neg b3] at h
    refine J.sub (L' := [(0, .ref (ad o)), (3, .int l3), (4, .int t1), (5, .int t3), (6, .int v7), (8, .int v5)]) [1, 2, 3, 4, 0, 6] rfl ?_
    exact X1_sideOf_L30_j85_ok hX ho h hin hex0
  · rw [if_pos b3] at h
    refine J.iload hX 47 7 rfl rfl ?_
    refine J.if_ge (tgt := 89) hX 48 rfl (by decide) (fun b4 => ?_) (fun b4 => ?_)
    · rw [if_pos b4] at h
      refine J.iconst (v := 0) hX 51 rfl (by decide) ?_
      refine J.sub (L' := [(0, .ref (ad o)), (3, .int l3), (4, .int t1), (5, .int t3), (6, .int v7), (8, .int v5)]) [1, 2, 3, 4, 0, 6] rfl ?_
      exact X1_sideOf_L30_j90_ok hX ho h hin hex0
    · rw [if_neg b4] at h
      refine J.sub (L' := [(0, .ref (ad o)), (3, .int l3), (4, .int t1), (5, .int t3), (6, .int v7), (8, .int v5)]) [1, 2, 3, 4, 0, 6] rfl ?_
      exact X1_sideOf_L30_j85_ok hX ho h hin hex0
set_option maxHeartbeats 4000000 in
set_option maxRecDepth 100000 in
theorem X1_sideOf_L30_j68_ok (hX : Cx p s m args meth c D cA ad n A sa cX1_sideOf 10 RX1 kX1_sideOf) {M : Mem} {o : Nat} {l3 : Int32} {t1 : Int32} {t3 : Int32} {v1 : Int32} {v2 : Int32} {v3 : Int32} (ho : DrOk n o) {r : (Int32 × Int32 × Int32) ⊕ (Int32 × Int32)} (h : X1_sideOf_L30_j68 M o l3 t1 t3 v1 v2 v3 = some r) (hin : ∀ (q0 : Int32) (q1 : Int32) (q2 : Int32), r = .inl (q0, q1, q2) → JM 1 23 p l e s m args below meth c D cA ad n A 10 out M1 M 30 [(0, .ref (ad o)), (3, .int l3), (4, .int t1), (5, .int t3), (6, .int q0), (7, .int q1), (8, .int q2)] []) (hex0 : ∀ (q0 : Int32) (q1 : Int32), r = .inr (q0, q1) → JM 1 23 p l e s m args below meth c D cA ad n A 10 out M1 M 98 [(6, .int q0), (7, .int q1)] []) : JM 1 23 p l e s m args below meth c D cA ad n A 10 out M1 M 68 [(0, .ref (ad o)), (3, .int l3), (4, .int t1), (5, .int t3), (7, .int v1), (8, .int v2), (9, .int v3)] [] := by
  unfold X1_sideOf_L30_j68 at h
  refine J.iconst (v := 1) hX 41 rfl (by decide) ?_
  refine J.goto (tgt := 73) hX 42 rfl (by decide) ?_
  refine J.sub (L' := [(0, .ref (ad o)), (3, .int l3), (4, .int t1), (5, .int t3), (7, .int v1), (8, .int v2), (9, .int v3)]) [0, 1, 2, 3, 4, 5, 6] rfl ?_
  exact X1_sideOf_L30_j73_ok hX ho h hin hex0
set_option maxHeartbeats 4000000 in
set_option maxRecDepth 100000 in
theorem X1_sideOf_L30_ok (hX : Cx p s m args meth c D cA ad n A sa cX1_sideOf 10 RX1 kX1_sideOf) {M : Mem} {o : Nat} {l3 : Int32} {t1 : Int32} {t3 : Int32} {c1 : Int32} {c2 : Int32} {c3 : Int32} (ho : DrOk n o) {r : (Int32 × Int32 × Int32) ⊕ (Int32 × Int32)} (h : X1_sideOf_L30 M o l3 t1 t3 (c1, c2, c3) = some r) (hin : ∀ (q0 : Int32) (q1 : Int32) (q2 : Int32), r = .inl (q0, q1, q2) → JM 1 23 p l e s m args below meth c D cA ad n A 10 out M1 M 30 [(0, .ref (ad o)), (3, .int l3), (4, .int t1), (5, .int t3), (6, .int q0), (7, .int q1), (8, .int q2)] []) (hex0 : ∀ (q0 : Int32) (q1 : Int32), r = .inr (q0, q1) → JM 1 23 p l e s m args below meth c D cA ad n A 10 out M1 M 98 [(6, .int q0), (7, .int q1)] []) : JM 1 23 p l e s m args below meth c D cA ad n A 10 out M1 M 30 [(0, .ref (ad o)), (3, .int l3), (4, .int t1), (5, .int t3), (6, .int c1), (7, .int c2), (8, .int c3)] [] := by
  unfold X1_sideOf_L30 at h
  have h := un3_inv h
  refine J.iload hX 21 6 rfl rfl ?_
  refine J.aload_n hX 22 0 rfl rfl ?_
  refine J.getR hX 23 o 1 ho.lt0 ho.s0 rfl in_wsX10 2 (by decide) w_3 rfl rfl ?_
  refine J.iload_n hX 24 1 rfl rfl ?_
  obtain ⟨t4, et4, hb, h⟩ := ld_inv h
  refine J.ialdN hX 25 (o + 3) ho.lt3 ho.s3 hb et4 rfl ?_
  refine J.icmp_ge (tgt := 98) hX 26 rfl (by decide) (fun b1 => ?_) (fun b1 => ?_)
  · rw [if_pos b1] at h
    refine J.sub (L' := [(6, .int c1), (7, .int c2)]) [4, 5] rfl ?_
    exact hex0 _ _ (Option.some.inj h).symm
  · rw [if_neg b1] at h
    refine J.aload_n hX 27 0 rfl rfl ?_
    refine J.iload hX 28 2 rfl rfl ?_
    refine J.iload hX 29 3 rfl rfl ?_
    refine J.iload_n hX 30 1 rfl rfl ?_
    refine J.bipush (v := 8) hX 31 rfl (by decide) ?_
    refine J.imul hX 32 rfl ?_
    refine J.iload hX 33 6 rfl rfl ?_
    refine J.iadd hX 34 rfl ?_
    obtain ⟨t5, hc, h⟩ := bd1_inv h
    refine J.callV1 (As := [.int t1, .int t3, .int ((l3 * 8) + c3)]) (rest := []) (k := o) hX 35 rfl (mX1_bend ho hc) okX1_bend w_8 ho.lt0 ho.s0 rfl rfl rfl (Nat.le_of_ble_eq_true rfl) ⟨Nat.le_of_ble_eq_true rfl, Nat.le_of_ble_eq_true rfl⟩ ⟨Nat.zero_le _, Nat.zero_le _⟩ ?_
    refine J.istore (L' := [(9, .int t5), (0, .ref (ad o)), (3, .int l3), (4, .int t1), (5, .int t3), (6, .int c1), (7, .int c2), (8, .int c3)]) hX 36 rfl (by decide) rfl ?_
    refine J.iload hX 37 5 rfl rfl ?_
    refine J.if_ne (tgt := 68) hX 38 rfl (by decide) (fun b2 => ?_) (fun b2 => ?_)
    · rw [if_neg b2] at h
      refine J.sub (L' := [(0, .ref (ad o)), (3, .int l3), (4, .int t1), (5, .int t3), (7, .int c2), (8, .int c3), (9, .int t5)]) [1, 2, 3, 4, 6, 7, 0] rfl ?_
      exact X1_sideOf_L30_j68_ok hX ho h hin hex0
    · rw [if_pos b2] at h
      refine J.iload hX 39 0 rfl rfl ?_
      refine J.if_le (tgt := 72) hX 40 rfl (by decide) (fun b5 => ?_) (fun b5 => ?_)
      · rw [if_pos b5] at h
        refine J.iconst (v := 0) hX 43 rfl (by decide) ?_
        refine J.sub (L' := [(0, .ref (ad o)), (3, .int l3), (4, .int t1), (5, .int t3), (7, .int c2), (8, .int c3), (9, .int t5)]) [1, 2, 3, 4, 6, 7, 0] rfl ?_
        exact X1_sideOf_L30_j73_ok hX ho h hin hex0
      · rw [if_neg b5] at h
        refine J.sub (L' := [(0, .ref (ad o)), (3, .int l3), (4, .int t1), (5, .int t3), (7, .int c2), (8, .int c3), (9, .int t5)]) [1, 2, 3, 4, 6, 7, 0] rfl ?_
        exact X1_sideOf_L30_j68_ok hX ho h hin hex0
set_option maxHeartbeats 4000000 in
set_option maxRecDepth 100000 in
theorem X1_sideOf_j117_ok (hX : Cx p s m args meth c D cA ad n A sa cX1_sideOf 10 RX1 kX1_sideOf) {M : Mem} {v13 : Int32} {r : Int32}  (hr : meth.sig.returnType = (some .int)) (ht : ∀ x ∈ c.exceptionTable.toList, False) (h : X1_sideOf_j117 M v13 = some r) : JM 1 23 p l e s m args below meth c D cA ad n A 10 (.inl (some (.int r))) M M 117 [] [.int v13] := by
  unfold X1_sideOf_j117 at h
  cases h
  exact J.iret hX hr 65 rfl
set_option maxHeartbeats 4000000 in
set_option maxRecDepth 100000 in
theorem mX1_sideOf {l : Launch} {D : va_G} {cA : Nat → ClassId} {ad : Nat → Nat} {n : Nat} {A : Nat → Prop} {sa : Nat → Nat} {M : Mem} {o : Nat} {l1 : Int32} {l2 : Int32} {l3 : Int32} {r : Int32} (ho : DrOk n o) (h : X1_sideOf M o l1 l2 l3 = some r) : CT l D cA ad n A sa yX1_sideOf cX1_sideOf 10 (some .int) 1 23 [.ref (ad o), .int l1, .int l2, .int l3] M (.inl (some (.int r))) M := by
  refine CT.of (kt := kX1_sideOf) (by decide) kX1_sideOf_ok (Nat.le_of_ble_eq_true rfl) ?_
  intro p e s m args below meth c hX hr ht
  unfold X1_sideOf at h
  refine J.sub (L' := [(0, .ref (ad o)), (1, .int l1), (2, .int l2), (3, .int l3)]) [0, 1, 2, 3] rfl ?_
  refine J.iload_n hX 0 1 rfl rfl ?_
  refine J.bipush (v := 8) hX 1 rfl (by decide) ?_
  refine J.imul hX 2 rfl ?_
  refine J.iload_n hX 3 2 rfl rfl ?_
  refine J.iadd hX 4 rfl ?_
  obtain ⟨t1, et1, h⟩ := bnd_inv h
  refine J.nm et1 ?_
  refine J.istore (L' := [(4, .int t1), (0, .ref (ad o)), (1, .int l1), (2, .int l2), (3, .int l3)]) hX 5 rfl (by decide) rfl ?_
  refine J.iload_n hX 6 2 rfl rfl ?_
  refine J.bipush (v := 8) hX 7 rfl (by decide) ?_
  refine J.imul hX 8 rfl ?_
  refine J.aload_n hX 9 1 rfl rfl ?_
  refine J.iload_n hX 10 2 rfl rfl ?_
  refine J.iload_n hX 11 3 rfl rfl ?_
  obtain ⟨t2, hc, h⟩ := bd1_inv h
  refine J.callV1 (As := [.int l1, .int l2]) (rest := [.int (l1 * 8)]) (k := o) hX 12 rfl (mX1_next ho hc) okX1_next w_7 ho.lt0 ho.s0 rfl rfl rfl (Nat.le_of_ble_eq_true rfl) ⟨Nat.le_of_ble_eq_true rfl, Nat.le_of_ble_eq_true rfl⟩ ⟨Nat.zero_le _, Nat.zero_le _⟩ ?_
  refine J.iadd hX 13 rfl ?_
  obtain ⟨t3, et3, h⟩ := bnd_inv h
  refine J.nm et3 ?_
  refine J.istore (L' := [(5, .int t3), (4, .int t1), (0, .ref (ad o)), (1, .int l1), (2, .int l2), (3, .int l3)]) hX 14 rfl (by decide) rfl ?_
  refine J.iconst (v := 0) hX 15 rfl (by decide) ?_
  refine J.istore (L' := [(6, .int 0), (5, .int t3), (4, .int t1), (0, .ref (ad o)), (1, .int l1), (2, .int l2), (3, .int l3)]) hX 16 rfl (by decide) rfl ?_
  refine J.iconst (v := 0) hX 17 rfl (by decide) ?_
  refine J.istore (L' := [(7, .int 0), (6, .int 0), (5, .int t3), (4, .int t1), (0, .ref (ad o)), (1, .int l1), (2, .int l2), (3, .int l3)]) hX 18 rfl (by decide) rfl ?_
  refine J.iconst (v := 0) hX 19 rfl (by decide) ?_
  refine J.istore (L' := [(8, .int 0), (7, .int 0), (6, .int 0), (5, .int t3), (4, .int t1), (0, .ref (ad o)), (1, .int l1), (2, .int l2), (3, .int l3)]) hX 20 rfl (by decide) rfl ?_
  refine J.sub (L' := [(0, .ref (ad o)), (3, .int l3), (4, .int t1), (5, .int t3), (6, .int 0), (7, .int 0), (8, .int 0)]) [5, 8, 4, 3, 2, 1, 0] rfl ?_
  obtain ⟨x1, x2, hlp, h⟩ := bd2_inv h
  suffices hE : JM 1 23 p l e s m args below meth c D cA ad n A 10 (.inl (some (.int r))) M M 98 [(6, .int x1), (7, .int x2)] [] by
    exact loop_ok (fun q9 : Int32 × Int32 × Int32 => JM 1 23 p l e s m args below meth c D cA ad n A 10 (.inl (some (.int r))) M M 30 [(0, .ref (ad o)), (3, .int l3), (4, .int t1), (5, .int t3), (6, .int q9.1), (7, .int q9.2.1), (8, .int q9.2.2)] []) (fun q9 r hB hst hex9 => X1_sideOf_L30_ok hX ho hB (fun _ _ _ hr => hst _ hr) (fun _ _ hr => by cases hex9 _ hr; exact hE)) 3000 _ hlp
  refine J.iload hX 55 0 rfl rfl ?_
  refine J.iload hX 56 1 rfl rfl ?_
  refine J.icmp_ne (tgt := 107) hX 57 rfl (by decide) (fun b6 => ?_) (fun b6 => ?_)
  · rw [if_neg b6] at h
    refine J.iload hX 60 0 rfl rfl ?_
    refine J.if_eq (tgt := 116) hX 61 rfl (by decide) (fun b7 => ?_) (fun b7 => ?_)
    · rw [if_pos b7] at h
      refine J.iconst (v := (-1)) hX 64 rfl (by decide) ?_
      refine J.sub (L' := []) [] rfl ?_
      exact X1_sideOf_j117_ok hX  hr ht h
    · rw [if_neg b7] at h
      refine J.iconst (v := 1) hX 62 rfl (by decide) ?_
      refine J.goto (tgt := 117) hX 63 rfl (by decide) ?_
      refine J.sub (L' := []) [] rfl ?_
      exact X1_sideOf_j117_ok hX  hr ht h
  · rw [if_pos b6] at h
    refine J.iconst (v := 0) hX 58 rfl (by decide) ?_
    cases h
    exact J.iret hX hr 59 rfl
def X1_hasPartingEdge_L2 (M : Mem) (o : Nat) (l1 : Int32) (l2 : Int32) (q9 : Int32) : Option ((Int32) ⊕ ((Unit) ⊕ (Unit))) := un1 q9 (fun c1 => ld M (o + 3) 24 l1 (fun t1 => if t1 ≤ c1 then (some (.inr (.inl ()))) else (bd1 (X1_sideOf M o l1 c1 l2) (fun t2 => if t2 = (-1) then (some (.inr (.inr ()))) else (bnd (c1 + 1) (fun t3 => some (.inl t3)))))))
def X1_hasPartingEdge (M : Mem) (o : Nat) (l1 : Int32) (l2 : Int32) : Option (Int32) := bdS (loop (X1_hasPartingEdge_L2 M o l1 l2) 3000 0) (fun a9 => un0 a9 (chk (isB 0) (some 0))) (fun a9 => un0 a9 (chk (isB 1) (some 1)))
set_option maxHeartbeats 4000000 in
set_option maxRecDepth 100000 in
theorem X1_hasPartingEdge_L2_ok (hX : Cx p s m args meth c D cA ad n A sa cX1_hasPartingEdge 4 RX1 kX1_hasPartingEdge) {M : Mem} {o : Nat} {l1 : Int32} {l2 : Int32} {c1 : Int32} (ho : DrOk n o) {r : (Int32) ⊕ ((Unit) ⊕ (Unit))} (h : X1_hasPartingEdge_L2 M o l1 l2 c1 = some r) (hin : ∀ (q0 : Int32), r = .inl q0 → JM 2 52 p l e s m args below meth c D cA ad n A 4 out M1 M 2 [(0, .ref (ad o)), (1, .int l1), (2, .int l2), (3, .int q0)] []) (hex0 : r = .inr (.inl ()) → JM 2 52 p l e s m args below meth c D cA ad n A 4 out M1 M 31 [] []) (hex1 : r = .inr (.inr ()) → JM 2 52 p l e s m args below meth c D cA ad n A 4 out M1 M 23 [] []) : JM 2 52 p l e s m args below meth c D cA ad n A 4 out M1 M 2 [(0, .ref (ad o)), (1, .int l1), (2, .int l2), (3, .int c1)] [] := by
  unfold X1_hasPartingEdge_L2 at h
  have h := un1_inv h
  refine J.iload_n hX 2 3 rfl rfl ?_
  refine J.aload_n hX 3 0 rfl rfl ?_
  refine J.getR hX 4 o 1 ho.lt0 ho.s0 rfl in_wsX10 2 (by decide) w_3 rfl rfl ?_
  refine J.iload_n hX 5 1 rfl rfl ?_
  obtain ⟨t1, et1, hb, h⟩ := ld_inv h
  refine J.ialdN hX 6 (o + 3) ho.lt3 ho.s3 hb et1 rfl ?_
  refine J.icmp_ge (tgt := 31) hX 7 rfl (by decide) (fun b1 => ?_) (fun b1 => ?_)
  · rw [if_pos b1] at h
    refine J.sub (L' := []) [] rfl ?_
    exact hex0  (Option.some.inj h).symm
  · rw [if_neg b1] at h
    refine J.aload_n hX 8 0 rfl rfl ?_
    refine J.iload_n hX 9 1 rfl rfl ?_
    refine J.iload_n hX 10 3 rfl rfl ?_
    refine J.iload_n hX 11 2 rfl rfl ?_
    obtain ⟨t2, hc, h⟩ := bd1_inv h
    refine J.callV1 (As := [.int l1, .int c1, .int l2]) (rest := []) (k := o) hX 12 rfl (mX1_sideOf ho hc) okX1_sideOf w_15 ho.lt0 ho.s0 rfl rfl rfl (Nat.le_of_ble_eq_true rfl) ⟨Nat.le_of_ble_eq_true rfl, Nat.le_of_ble_eq_true rfl⟩ ⟨Nat.zero_le _, Nat.zero_le _⟩ ?_
    refine J.iconst (v := (-1)) hX 13 rfl (by decide) ?_
    refine J.icmp_ne (tgt := 25) hX 14 rfl (by decide) (fun b2 => ?_) (fun b2 => ?_)
    · rw [if_neg b2] at h
      obtain ⟨t3, et3, h⟩ := bnd_inv h
      refine J.iinc (q := 3) (L' := [(3, .int t3), (0, .ref (ad o)), (1, .int l1), (2, .int l2)]) hX 17 rfl rfl et3 (by decide) rfl ?_
      refine J.goto (tgt := 2) hX 18 rfl (by decide) ?_
      refine J.sub (L' := [(0, .ref (ad o)), (1, .int l1), (2, .int l2), (3, .int t3)]) [1, 2, 3, 0] rfl ?_
      exact hin _ (Option.some.inj h).symm
    · rw [if_pos b2] at h
      refine J.sub (L' := []) [] rfl ?_
      exact hex1  (Option.some.inj h).symm
set_option maxHeartbeats 4000000 in
set_option maxRecDepth 100000 in
theorem mX1_hasPartingEdge {l : Launch} {D : va_G} {cA : Nat → ClassId} {ad : Nat → Nat} {n : Nat} {A : Nat → Prop} {sa : Nat → Nat} {M : Mem} {o : Nat} {l1 : Int32} {l2 : Int32} {r : Int32} (ho : DrOk n o) (h : X1_hasPartingEdge M o l1 l2 = some r) : CT l D cA ad n A sa yX1_hasPartingEdge cX1_hasPartingEdge 4 (some .boolean) 2 52 [.ref (ad o), .int l1, .int l2] M (.inl (some (.int r))) M := by
  refine CT.of (kt := kX1_hasPartingEdge) (by decide) kX1_hasPartingEdge_ok (Nat.le_of_ble_eq_true rfl) ?_
  intro p e s m args below meth c hX hr ht
  unfold X1_hasPartingEdge at h
  refine J.sub (L' := [(0, .ref (ad o)), (1, .int l1), (2, .int l2)]) [0, 1, 2] rfl ?_
  refine J.iconst (v := 0) hX 0 rfl (by decide) ?_
  refine J.istore_n (L' := [(3, .int 0), (0, .ref (ad o)), (1, .int l1), (2, .int l2)]) hX 1 rfl (by decide) rfl ?_
  refine J.sub (L' := [(0, .ref (ad o)), (1, .int l1), (2, .int l2), (3, .int 0)]) [1, 2, 3, 0] rfl ?_
  rcases bdS_inv h with ⟨a9, hlp, h⟩ | ⟨a9, hlp, h⟩
  · have h := un0_inv h
    suffices hE : JM 2 52 p l e s m args below meth c D cA ad n A 4 (.inl (some (.int r))) M M 31 [] [] by
      exact loop_ok (fun q9 : Int32 => JM 2 52 p l e s m args below meth c D cA ad n A 4 (.inl (some (.int r))) M M 2 [(0, .ref (ad o)), (1, .int l1), (2, .int l2), (3, .int q9)] []) (fun q9 r hB hst hex9 => X1_hasPartingEdge_L2_ok hX ho hB (fun _ hr => hst _ hr) (fun hr => by cases hex9 _ hr; exact hE) (fun hr => by cases hex9 _ hr)) 3000 _ hlp
    refine J.iconst (v := 0) hX 19 rfl (by decide) ?_
    obtain ⟨hz, h⟩ := chk_inv h
    cases h
    exact J.zret hX hr 20 (isB_nar hz) rfl
  · have h := un0_inv h
    suffices hE : JM 2 52 p l e s m args below meth c D cA ad n A 4 (.inl (some (.int r))) M M 23 [] [] by
      exact loop_ok (fun q9 : Int32 => JM 2 52 p l e s m args below meth c D cA ad n A 4 (.inl (some (.int r))) M M 2 [(0, .ref (ad o)), (1, .int l1), (2, .int l2), (3, .int q9)] []) (fun q9 r hB hst hex9 => X1_hasPartingEdge_L2_ok hX ho hB (fun _ hr => hst _ hr) (fun hr => by cases hex9 _ hr) (fun hr => by cases hex9 _ hr; exact hE)) 3000 _ hlp
    refine J.iconst (v := 1) hX 15 rfl (by decide) ?_
    obtain ⟨hz, h⟩ := chk_inv h
    cases h
    exact J.zret hX hr 16 (isB_nar hz) rfl
def X1_overlap_j23 (M : Mem) (v1 : Int32) : Option (Int32) := chk (isB v1) (some v1)
def X1_overlap (M : Mem) (o : Nat) (l1 : Int32) (l2 : Int32) : Option (Int32) := bd1 (X1_hasPartingEdge M o l1 l2) (fun t1 => if t1 = 0 then (bd1 (X1_hasPartingEdge M o l2 l1) (fun t2 => if t2 = 0 then (X1_overlap_j23 M 1) else (X1_overlap_j23 M 0))) else (X1_overlap_j23 M 0))
set_option maxHeartbeats 4000000 in
set_option maxRecDepth 100000 in
theorem X1_overlap_j23_ok (hX : Cx p s m args meth c D cA ad n A sa cX1_overlap 3 RX1 kX1_overlap) {M : Mem} {v1 : Int32} {r : Int32}  (hr : meth.sig.returnType = (some .boolean)) (ht : ∀ x ∈ c.exceptionTable.toList, False) (h : X1_overlap_j23 M v1 = some r) : JM 3 75 p l e s m args below meth c D cA ad n A 3 (.inl (some (.int r))) M M 23 [] [.int v1] := by
  unfold X1_overlap_j23 at h
  obtain ⟨hz, h⟩ := chk_inv h
  cases h
  exact J.zret hX hr 13 (isB_nar hz) rfl
set_option maxHeartbeats 4000000 in
set_option maxRecDepth 100000 in
theorem mX1_overlap {l : Launch} {D : va_G} {cA : Nat → ClassId} {ad : Nat → Nat} {n : Nat} {A : Nat → Prop} {sa : Nat → Nat} {M : Mem} {o : Nat} {l1 : Int32} {l2 : Int32} {r : Int32} (ho : DrOk n o) (h : X1_overlap M o l1 l2 = some r) : CT l D cA ad n A sa yX1_overlap cX1_overlap 3 (some .boolean) 3 75 [.ref (ad o), .int l1, .int l2] M (.inl (some (.int r))) M := by
  refine CT.of (kt := kX1_overlap) (by decide) kX1_overlap_ok (Nat.le_of_ble_eq_true rfl) ?_
  intro p e s m args below meth c hX hr ht
  unfold X1_overlap at h
  refine J.sub (L' := [(0, .ref (ad o)), (1, .int l1), (2, .int l2)]) [0, 1, 2] rfl ?_
  refine J.aload_n hX 0 0 rfl rfl ?_
  refine J.iload_n hX 1 1 rfl rfl ?_
  refine J.iload_n hX 2 2 rfl rfl ?_
  obtain ⟨t1, hc, h⟩ := bd1_inv h
  refine J.callV1 (As := [.int l1, .int l2]) (rest := []) (k := o) hX 3 rfl (mX1_hasPartingEdge ho hc) okX1_hasPartingEdge w_16 ho.lt0 ho.s0 rfl rfl rfl (Nat.le_of_ble_eq_true rfl) ⟨Nat.le_of_ble_eq_true rfl, Nat.le_of_ble_eq_true rfl⟩ ⟨Nat.zero_le _, Nat.zero_le _⟩ ?_
  refine J.if_ne (tgt := 22) hX 4 rfl (by decide) (fun b1 => ?_) (fun b1 => ?_)
  · rw [if_neg b1] at h
    refine J.iconst (v := 0) hX 12 rfl (by decide) ?_
    refine J.sub (L' := []) [] rfl ?_
    exact X1_overlap_j23_ok hX  hr ht h
  · rw [if_pos b1] at h
    refine J.aload_n hX 5 0 rfl rfl ?_
    refine J.iload_n hX 6 2 rfl rfl ?_
    refine J.iload_n hX 7 1 rfl rfl ?_
    obtain ⟨t2, hc, h⟩ := bd1_inv h
    refine J.callV1 (As := [.int l2, .int l1]) (rest := []) (k := o) hX 8 rfl (mX1_hasPartingEdge ho hc) okX1_hasPartingEdge w_16 ho.lt0 ho.s0 rfl rfl rfl (Nat.le_of_ble_eq_true rfl) ⟨Nat.le_of_ble_eq_true rfl, Nat.le_of_ble_eq_true rfl⟩ ⟨Nat.zero_le _, Nat.zero_le _⟩ ?_
    refine J.if_ne (tgt := 22) hX 9 rfl (by decide) (fun b2 => ?_) (fun b2 => ?_)
    · rw [if_neg b2] at h
      refine J.iconst (v := 0) hX 12 rfl (by decide) ?_
      refine J.sub (L' := []) [] rfl ?_
      exact X1_overlap_j23_ok hX  hr ht h
    · rw [if_pos b2] at h
      refine J.iconst (v := 1) hX 10 rfl (by decide) ?_
      refine J.goto (tgt := 23) hX 11 rfl (by decide) ?_
      refine J.sub (L' := []) [] rfl ?_
      exact X1_overlap_j23_ok hX  hr ht h
def X1_firstOverlap_L12_j50 (M : Mem) (o : Nat) (c1 : Int32) (v1 : Int32) : Option ((Int32) ⊕ ((Unit) ⊕ (Int32))) := bnd (v1 + 1) (fun t3 => some (.inl t3))
def X1_firstOverlap_L12 (M : Mem) (o : Nat) (c1 : Int32) (q9 : Int32) : Option ((Int32) ⊕ ((Unit) ⊕ (Int32))) := un1 q9 (fun c2 => if 24 ≤ c2 then (some (.inr (.inl ()))) else (bd1 (X1_isClosed M o c1) (fun t2 => if t2 = 0 then (X1_firstOverlap_L12_j50 M o c1 c2) else (bd1 (X1_isClosed M o c2) (fun t4 => if t4 = 0 then (X1_firstOverlap_L12_j50 M o c1 c2) else (bd1 (X1_overlap M o c1 c2) (fun t5 => if t5 = 0 then (X1_firstOverlap_L12_j50 M o c1 c2) else (some (.inr (.inr c2))))))))))
def X1_firstOverlap_L2 (M : Mem) (o : Nat) (q9 : Int32) : Option ((Int32) ⊕ ((Unit) ⊕ (Int32 × Int32))) := un1 q9 (fun c1 => if 24 ≤ c1 then (some (.inr (.inl ()))) else (bnd ((c1 + 1)) (fun t1 => bdS (loop (X1_firstOverlap_L12 M o c1) 3000 t1) (fun a9 => un0 a9 (bnd (c1 + 1) (fun t6 => some (.inl t6)))) (fun a9 => un1 a9 (fun x1 => some (.inr (.inr (c1, x1))))))))
def X1_firstOverlap (M : Mem) (o : Nat) : Option (Int32) := bdS (loop (X1_firstOverlap_L2 M o) 3000 0) (fun a9 => un0 a9 (some (-1))) (fun a9 => un2 a9 (fun x2 x3 => some ((x2 * 24) + x3)))
set_option maxHeartbeats 4000000 in
set_option maxRecDepth 100000 in
theorem X1_firstOverlap_L12_j50_ok (hX : Cx p s m args meth c D cA ad n A sa cX1_firstOverlap 3 RX1 kX1_firstOverlap) {M : Mem} {o : Nat} {c1 : Int32} {v1 : Int32} (ho : DrOk n o) {r : (Int32) ⊕ ((Unit) ⊕ (Int32))} (h : X1_firstOverlap_L12_j50 M o c1 v1 = some r) (hin : ∀ (q0 : Int32), r = .inl q0 → JM 4 97 p l e s m args below meth c D cA ad n A 3 out M1 M 12 [(0, .ref (ad o)), (1, .int c1), (2, .int q0)] []) (hex0 : r = .inr (.inl ()) → JM 4 97 p l e s m args below meth c D cA ad n A 3 out M1 M 56 [(0, .ref (ad o)), (1, .int c1)] []) (hex1 : ∀ (q0 : Int32), r = .inr (.inr q0) → JM 4 97 p l e s m args below meth c D cA ad n A 3 out M1 M 43 [(1, .int c1), (2, .int q0)] []) : JM 4 97 p l e s m args below meth c D cA ad n A 3 out M1 M 50 [(0, .ref (ad o)), (1, .int c1), (2, .int v1)] [] := by
  unfold X1_firstOverlap_L12_j50 at h
  obtain ⟨t3, et3, h⟩ := bnd_inv h
  refine J.iinc (q := 2) (L' := [(2, .int t3), (0, .ref (ad o)), (1, .int c1)]) hX 31 rfl rfl et3 (by decide) rfl ?_
  refine J.goto (tgt := 12) hX 32 rfl (by decide) ?_
  refine J.sub (L' := [(0, .ref (ad o)), (1, .int c1), (2, .int t3)]) [1, 2, 0] rfl ?_
  exact hin _ (Option.some.inj h).symm
set_option maxHeartbeats 4000000 in
set_option maxRecDepth 100000 in
theorem X1_firstOverlap_L12_ok (hX : Cx p s m args meth c D cA ad n A sa cX1_firstOverlap 3 RX1 kX1_firstOverlap) {M : Mem} {o : Nat} {c1 : Int32} {c2 : Int32} (ho : DrOk n o) {r : (Int32) ⊕ ((Unit) ⊕ (Int32))} (h : X1_firstOverlap_L12 M o c1 c2 = some r) (hin : ∀ (q0 : Int32), r = .inl q0 → JM 4 97 p l e s m args below meth c D cA ad n A 3 out M1 M 12 [(0, .ref (ad o)), (1, .int c1), (2, .int q0)] []) (hex0 : r = .inr (.inl ()) → JM 4 97 p l e s m args below meth c D cA ad n A 3 out M1 M 56 [(0, .ref (ad o)), (1, .int c1)] []) (hex1 : ∀ (q0 : Int32), r = .inr (.inr q0) → JM 4 97 p l e s m args below meth c D cA ad n A 3 out M1 M 43 [(1, .int c1), (2, .int q0)] []) : JM 4 97 p l e s m args below meth c D cA ad n A 3 out M1 M 12 [(0, .ref (ad o)), (1, .int c1), (2, .int c2)] [] := by
  unfold X1_firstOverlap_L12 at h
  have h := un1_inv h
  refine J.iload_n hX 9 2 rfl rfl ?_
  refine J.bipush (v := 24) hX 10 rfl (by decide) ?_
  refine J.icmp_ge (tgt := 56) hX 11 rfl (by decide) (fun b2 => ?_) (fun b2 => ?_)
  · rw [if_pos b2] at h
    refine J.sub (L' := [(0, .ref (ad o)), (1, .int c1)]) [0, 1] rfl ?_
    exact hex0  (Option.some.inj h).symm
  · rw [if_neg b2] at h
    refine J.aload_n hX 12 0 rfl rfl ?_
    refine J.iload_n hX 13 1 rfl rfl ?_
    obtain ⟨t2, hc, h⟩ := bd1_inv h
    refine J.callV1 (As := [.int c1]) (rest := []) (k := o) hX 14 rfl (mX1_isClosed ho hc) okX1_isClosed w_12 ho.lt0 ho.s0 rfl rfl rfl (Nat.le_of_ble_eq_true rfl) ⟨Nat.le_of_ble_eq_true rfl, Nat.le_of_ble_eq_true rfl⟩ ⟨Nat.zero_le _, Nat.zero_le _⟩ ?_
    refine J.if_eq (tgt := 50) hX 15 rfl (by decide) (fun b3 => ?_) (fun b3 => ?_)
    · rw [if_pos b3] at h
      refine J.sub (L' := [(0, .ref (ad o)), (1, .int c1), (2, .int c2)]) [0, 1, 2] rfl ?_
      exact X1_firstOverlap_L12_j50_ok hX ho h hin hex0 hex1
    · rw [if_neg b3] at h
      refine J.aload_n hX 16 0 rfl rfl ?_
      refine J.iload_n hX 17 2 rfl rfl ?_
      obtain ⟨t4, hc, h⟩ := bd1_inv h
      refine J.callV1 (As := [.int c2]) (rest := []) (k := o) hX 18 rfl (mX1_isClosed ho hc) okX1_isClosed w_12 ho.lt0 ho.s0 rfl rfl rfl (Nat.le_of_ble_eq_true rfl) ⟨Nat.le_of_ble_eq_true rfl, Nat.le_of_ble_eq_true rfl⟩ ⟨Nat.zero_le _, Nat.zero_le _⟩ ?_
      refine J.if_eq (tgt := 50) hX 19 rfl (by decide) (fun b4 => ?_) (fun b4 => ?_)
      · rw [if_pos b4] at h
        refine J.sub (L' := [(0, .ref (ad o)), (1, .int c1), (2, .int c2)]) [0, 1, 2] rfl ?_
        exact X1_firstOverlap_L12_j50_ok hX ho h hin hex0 hex1
      · rw [if_neg b4] at h
        refine J.aload_n hX 20 0 rfl rfl ?_
        refine J.iload_n hX 21 1 rfl rfl ?_
        refine J.iload_n hX 22 2 rfl rfl ?_
        obtain ⟨t5, hc, h⟩ := bd1_inv h
        refine J.callV1 (As := [.int c1, .int c2]) (rest := []) (k := o) hX 23 rfl (mX1_overlap ho hc) okX1_overlap w_17 ho.lt0 ho.s0 rfl rfl rfl (Nat.le_of_ble_eq_true rfl) ⟨Nat.le_of_ble_eq_true rfl, Nat.le_of_ble_eq_true rfl⟩ ⟨Nat.zero_le _, Nat.zero_le _⟩ ?_
        refine J.if_eq (tgt := 50) hX 24 rfl (by decide) (fun b5 => ?_) (fun b5 => ?_)
        · rw [if_pos b5] at h
          refine J.sub (L' := [(0, .ref (ad o)), (1, .int c1), (2, .int c2)]) [0, 1, 2] rfl ?_
          exact X1_firstOverlap_L12_j50_ok hX ho h hin hex0 hex1
        · rw [if_neg b5] at h
          refine J.sub (L' := [(1, .int c1), (2, .int c2)]) [1, 2] rfl ?_
          exact hex1 _ (Option.some.inj h).symm
set_option maxHeartbeats 4000000 in
set_option maxRecDepth 100000 in
theorem X1_firstOverlap_L2_ok (hX : Cx p s m args meth c D cA ad n A sa cX1_firstOverlap 3 RX1 kX1_firstOverlap) {M : Mem} {o : Nat} {c1 : Int32} (ho : DrOk n o) {r : (Int32) ⊕ ((Unit) ⊕ (Int32 × Int32))} (h : X1_firstOverlap_L2 M o c1 = some r) (hin : ∀ (q0 : Int32), r = .inl q0 → JM 4 97 p l e s m args below meth c D cA ad n A 3 out M1 M 2 [(0, .ref (ad o)), (1, .int q0)] []) (hex0 : r = .inr (.inl ()) → JM 4 97 p l e s m args below meth c D cA ad n A 3 out M1 M 62 [] []) (hex1 : ∀ (q0 : Int32) (q1 : Int32), r = .inr (.inr (q0, q1)) → JM 4 97 p l e s m args below meth c D cA ad n A 3 out M1 M 43 [(1, .int q0), (2, .int q1)] []) : JM 4 97 p l e s m args below meth c D cA ad n A 3 out M1 M 2 [(0, .ref (ad o)), (1, .int c1)] [] := by
  unfold X1_firstOverlap_L2 at h
  have h := un1_inv h
  refine J.iload_n hX 2 1 rfl rfl ?_
  refine J.bipush (v := 24) hX 3 rfl (by decide) ?_
  refine J.icmp_ge (tgt := 62) hX 4 rfl (by decide) (fun b1 => ?_) (fun b1 => ?_)
  · rw [if_pos b1] at h
    refine J.sub (L' := []) [] rfl ?_
    exact hex0  (Option.some.inj h).symm
  · rw [if_neg b1] at h
    refine J.iload_n hX 5 1 rfl rfl ?_
    refine J.iconst (v := 1) hX 6 rfl (by decide) ?_
    refine J.iadd hX 7 rfl ?_
    obtain ⟨t1, et1, h⟩ := bnd_inv h
    refine J.nm et1 ?_
    refine J.istore_n (L' := [(2, .int t1), (0, .ref (ad o)), (1, .int c1)]) hX 8 rfl (by decide) rfl ?_
    refine J.sub (L' := [(0, .ref (ad o)), (1, .int c1), (2, .int t1)]) [1, 2, 0] rfl ?_
    rcases bdS_inv h with ⟨a9, hlp, h⟩ | ⟨a9, hlp, h⟩
    · have h := un0_inv h
      suffices hE : JM 4 97 p l e s m args below meth c D cA ad n A 3 out M1 M 56 [(0, .ref (ad o)), (1, .int c1)] [] by
        exact loop_ok (fun q9 : Int32 => JM 4 97 p l e s m args below meth c D cA ad n A 3 out M1 M 12 [(0, .ref (ad o)), (1, .int c1), (2, .int q9)] []) (fun q9 r hB hst hex9 => X1_firstOverlap_L12_ok hX ho hB (fun _ hr => hst _ hr) (fun hr => by cases hex9 _ hr; exact hE) (fun _ hr => by cases hex9 _ hr)) 3000 _ hlp
      obtain ⟨t6, et6, h⟩ := bnd_inv h
      refine J.iinc (q := 1) (L' := [(1, .int t6), (0, .ref (ad o))]) hX 33 rfl rfl et6 (by decide) rfl ?_
      refine J.goto (tgt := 2) hX 34 rfl (by decide) ?_
      refine J.sub (L' := [(0, .ref (ad o)), (1, .int t6)]) [1, 0] rfl ?_
      exact hin _ (Option.some.inj h).symm
    · obtain ⟨x1, rfl⟩ : ∃ z, z = a9 := ⟨_, rfl⟩
      have h := un1_inv h
      suffices hE : JM 4 97 p l e s m args below meth c D cA ad n A 3 out M1 M 43 [(1, .int c1), (2, .int x1)] [] by
        exact loop_ok (fun q9 : Int32 => JM 4 97 p l e s m args below meth c D cA ad n A 3 out M1 M 12 [(0, .ref (ad o)), (1, .int c1), (2, .int q9)] []) (fun q9 r hB hst hex9 => X1_firstOverlap_L12_ok hX ho hB (fun _ hr => hst _ hr) (fun hr => by cases hex9 _ hr) (fun _ hr => by cases hex9 _ hr; exact hE)) 3000 _ hlp
      refine J.sub (L' := [(1, .int c1), (2, .int x1)]) [0, 1] rfl ?_
      exact hex1 _ _ (Option.some.inj h).symm
set_option maxHeartbeats 4000000 in
set_option maxRecDepth 100000 in
theorem mX1_firstOverlap {l : Launch} {D : va_G} {cA : Nat → ClassId} {ad : Nat → Nat} {n : Nat} {A : Nat → Prop} {sa : Nat → Nat} {M : Mem} {o : Nat} {r : Int32} (ho : DrOk n o) (h : X1_firstOverlap M o = some r) : CT l D cA ad n A sa yX1_firstOverlap cX1_firstOverlap 3 (some .int) 4 97 [.ref (ad o)] M (.inl (some (.int r))) M := by
  refine CT.of (kt := kX1_firstOverlap) (by decide) kX1_firstOverlap_ok (Nat.le_of_ble_eq_true rfl) ?_
  intro p e s m args below meth c hX hr ht
  unfold X1_firstOverlap at h
  refine J.sub (L' := [(0, .ref (ad o))]) [0] rfl ?_
  refine J.iconst (v := 0) hX 0 rfl (by decide) ?_
  refine J.istore_n (L' := [(1, .int 0), (0, .ref (ad o))]) hX 1 rfl (by decide) rfl ?_
  refine J.sub (L' := [(0, .ref (ad o)), (1, .int 0)]) [1, 0] rfl ?_
  rcases bdS_inv h with ⟨a9, hlp, h⟩ | ⟨a9, hlp, h⟩
  · have h := un0_inv h
    suffices hE : JM 4 97 p l e s m args below meth c D cA ad n A 3 (.inl (some (.int r))) M M 62 [] [] by
      exact loop_ok (fun q9 : Int32 => JM 4 97 p l e s m args below meth c D cA ad n A 3 (.inl (some (.int r))) M M 2 [(0, .ref (ad o)), (1, .int q9)] []) (fun q9 r hB hst hex9 => X1_firstOverlap_L2_ok hX ho hB (fun _ hr => hst _ hr) (fun hr => by cases hex9 _ hr; exact hE) (fun _ _ hr => by cases hex9 _ hr)) 3000 _ hlp
    refine J.iconst (v := (-1)) hX 35 rfl (by decide) ?_
    cases h
    exact J.iret hX hr 36 rfl
  · obtain ⟨x2, x3⟩ := a9
    have h := un2_inv h
    suffices hE : JM 4 97 p l e s m args below meth c D cA ad n A 3 (.inl (some (.int r))) M M 43 [(1, .int x2), (2, .int x3)] [] by
      exact loop_ok (fun q9 : Int32 => JM 4 97 p l e s m args below meth c D cA ad n A 3 (.inl (some (.int r))) M M 2 [(0, .ref (ad o)), (1, .int q9)] []) (fun q9 r hB hst hex9 => X1_firstOverlap_L2_ok hX ho hB (fun _ hr => hst _ hr) (fun hr => by cases hex9 _ hr) (fun _ _ hr => by cases hex9 _ hr; exact hE)) 3000 _ hlp
    refine J.iload_n hX 25 0 rfl rfl ?_
    refine J.bipush (v := 24) hX 26 rfl (by decide) ?_
    refine J.imul hX 27 rfl ?_
    refine J.iload_n hX 28 1 rfl rfl ?_
    refine J.iadd hX 29 rfl ?_
    cases h
    exact J.iret hX hr 30 rfl
def X1_state_L14 (M : Mem) (o : Nat) (q9 : Int32 × Int32) : Option ((Int32 × Int32) ⊕ (Int32)) := un2 q9 (fun c1 c2 => if 24 ≤ c2 then (some (.inr c1)) else (bd1 (X1_doubleArea M o c2) (fun t2 => bnd ((c1 + t2)) (fun t3 => bnd (c2 + 1) (fun t4 => some (.inl (t3, t4)))))))
def X1_state_j46 (M : Mem) (v1 : Int32) : Option (Int32) := some v1
def X1_state (M : Mem) (o : Nat) : Option (Int32) := bd1 (X1_firstOverlap M o) (fun t1 => if t1 = (-1) then (bd1 (loop (X1_state_L14 M o) 3000 (0, 0)) (fun x1 => if x1 = 18432 then (X1_state_j46 M 0) else (X1_state_j46 M 1))) else (some 2))
set_option maxHeartbeats 4000000 in
set_option maxRecDepth 100000 in
theorem X1_state_L14_ok (hX : Cx p s m args meth c D cA ad n A sa cX1_state 3 RX1 kX1_state) {M : Mem} {o : Nat} {c1 : Int32} {c2 : Int32} (ho : DrOk n o) {r : (Int32 × Int32) ⊕ (Int32)} (h : X1_state_L14 M o (c1, c2) = some r) (hin : ∀ (q0 : Int32) (q1 : Int32), r = .inl (q0, q1) → JM 5 119 p l e s m args below meth c D cA ad n A 3 out M1 M 14 [(0, .ref (ad o)), (1, .int q0), (2, .int q1)] []) (hex0 : ∀ (q0 : Int32), r = .inr q0 → JM 5 119 p l e s m args below meth c D cA ad n A 3 out M1 M 34 [(1, .int q0)] []) : JM 5 119 p l e s m args below meth c D cA ad n A 3 out M1 M 14 [(0, .ref (ad o)), (1, .int c1), (2, .int c2)] [] := by
  unfold X1_state_L14 at h
  have h := un2_inv h
  refine J.iload_n hX 10 2 rfl rfl ?_
  refine J.bipush (v := 24) hX 11 rfl (by decide) ?_
  refine J.icmp_ge (tgt := 34) hX 12 rfl (by decide) (fun b2 => ?_) (fun b2 => ?_)
  · rw [if_pos b2] at h
    refine J.sub (L' := [(1, .int c1)]) [1] rfl ?_
    exact hex0 _ (Option.some.inj h).symm
  · rw [if_neg b2] at h
    refine J.iload_n hX 13 1 rfl rfl ?_
    refine J.aload_n hX 14 0 rfl rfl ?_
    refine J.iload_n hX 15 2 rfl rfl ?_
    obtain ⟨t2, hc, h⟩ := bd1_inv h
    refine J.callV1 (As := [.int c2]) (rest := [.int c1]) (k := o) hX 16 rfl (mX1_doubleArea ho hc) okX1_doubleArea w_11 ho.lt0 ho.s0 rfl rfl rfl (Nat.le_of_ble_eq_true rfl) ⟨Nat.le_of_ble_eq_true rfl, Nat.le_of_ble_eq_true rfl⟩ ⟨Nat.zero_le _, Nat.zero_le _⟩ ?_
    refine J.iadd hX 17 rfl ?_
    obtain ⟨t3, et3, h⟩ := bnd_inv h
    refine J.nm et3 ?_
    refine J.istore_n (L' := [(1, .int t3), (0, .ref (ad o)), (2, .int c2)]) hX 18 rfl (by decide) rfl ?_
    obtain ⟨t4, et4, h⟩ := bnd_inv h
    refine J.iinc (q := 2) (L' := [(2, .int t4), (1, .int t3), (0, .ref (ad o))]) hX 19 rfl rfl et4 (by decide) rfl ?_
    refine J.goto (tgt := 14) hX 20 rfl (by decide) ?_
    refine J.sub (L' := [(0, .ref (ad o)), (1, .int t3), (2, .int t4)]) [2, 1, 0] rfl ?_
    exact hin _ _ (Option.some.inj h).symm
set_option maxHeartbeats 4000000 in
set_option maxRecDepth 100000 in
theorem X1_state_j46_ok (hX : Cx p s m args meth c D cA ad n A sa cX1_state 3 RX1 kX1_state) {M : Mem} {v1 : Int32} {r : Int32}  (hr : meth.sig.returnType = (some .int)) (ht : ∀ x ∈ c.exceptionTable.toList, False) (h : X1_state_j46 M v1 = some r) : JM 5 119 p l e s m args below meth c D cA ad n A 3 (.inl (some (.int r))) M M 46 [] [.int v1] := by
  unfold X1_state_j46 at h
  cases h
  exact J.iret hX hr 27 rfl
set_option maxHeartbeats 4000000 in
set_option maxRecDepth 100000 in
theorem mX1_state {l : Launch} {D : va_G} {cA : Nat → ClassId} {ad : Nat → Nat} {n : Nat} {A : Nat → Prop} {sa : Nat → Nat} {M : Mem} {o : Nat} {r : Int32} (ho : DrOk n o) (h : X1_state M o = some r) : CT l D cA ad n A sa yX1_state cX1_state 3 (some .int) 5 119 [.ref (ad o)] M (.inl (some (.int r))) M := by
  refine CT.of (kt := kX1_state) (by decide) kX1_state_ok (Nat.le_of_ble_eq_true rfl) ?_
  intro p e s m args below meth c hX hr ht
  unfold X1_state at h
  refine J.sub (L' := [(0, .ref (ad o))]) [0] rfl ?_
  refine J.aload_n hX 0 0 rfl rfl ?_
  obtain ⟨t1, hc, h⟩ := bd1_inv h
  refine J.callV1 (As := []) (rest := []) (k := o) hX 1 rfl (mX1_firstOverlap ho hc) okX1_firstOverlap w_18 ho.lt0 ho.s0 rfl rfl rfl (Nat.le_of_ble_eq_true rfl) ⟨Nat.le_of_ble_eq_true rfl, Nat.le_of_ble_eq_true rfl⟩ ⟨Nat.zero_le _, Nat.zero_le _⟩ ?_
  refine J.iconst (v := (-1)) hX 2 rfl (by decide) ?_
  refine J.icmp_eq (tgt := 10) hX 3 rfl (by decide) (fun b1 => ?_) (fun b1 => ?_)
  · rw [if_pos b1] at h
    refine J.iconst (v := 0) hX 6 rfl (by decide) ?_
    refine J.istore_n (L' := [(1, .int 0), (0, .ref (ad o))]) hX 7 rfl (by decide) rfl ?_
    refine J.iconst (v := 0) hX 8 rfl (by decide) ?_
    refine J.istore_n (L' := [(2, .int 0), (1, .int 0), (0, .ref (ad o))]) hX 9 rfl (by decide) rfl ?_
    refine J.sub (L' := [(0, .ref (ad o)), (1, .int 0), (2, .int 0)]) [2, 1, 0] rfl ?_
    obtain ⟨x1, hlp, h⟩ := bd1_inv h
    suffices hE : JM 5 119 p l e s m args below meth c D cA ad n A 3 (.inl (some (.int r))) M M 34 [(1, .int x1)] [] by
      exact loop_ok (fun q9 : Int32 × Int32 => JM 5 119 p l e s m args below meth c D cA ad n A 3 (.inl (some (.int r))) M M 14 [(0, .ref (ad o)), (1, .int q9.1), (2, .int q9.2)] []) (fun q9 r hB hst hex9 => X1_state_L14_ok hX ho hB (fun _ _ hr => hst _ hr) (fun _ hr => by cases hex9 _ hr; exact hE)) 3000 _ hlp
    refine J.iload_n hX 21 0 rfl rfl ?_
    refine J.sipush (v := 18432) hX 22 rfl (by decide) ?_
    refine J.icmp_ne (tgt := 45) hX 23 rfl (by decide) (fun b3 => ?_) (fun b3 => ?_)
    · rw [if_neg b3] at h
      refine J.iconst (v := 1) hX 26 rfl (by decide) ?_
      refine J.sub (L' := []) [] rfl ?_
      exact X1_state_j46_ok hX  hr ht h
    · rw [if_pos b3] at h
      refine J.iconst (v := 0) hX 24 rfl (by decide) ?_
      refine J.goto (tgt := 46) hX 25 rfl (by decide) ?_
      refine J.sub (L' := []) [] rfl ?_
      exact X1_state_j46_ok hX  hr ht h
  · rw [if_neg b1] at h
    refine J.iconst (v := 2) hX 4 rfl (by decide) ?_
    cases h
    exact J.iret hX hr 5 rfl
def X1_isOfCloth_j23 (M : Mem) (v1 : Int32) : Option (Int32) := chk (isB v1) (some v1)
def X1_isOfCloth (M : Mem) (o : Nat) (l1 : Int32) (l2 : Int32) : Option (Int32) := bd1 (X1_isClosed M o l1) (fun t1 => if t1 = 0 then (X1_isOfCloth_j23 M 0) else (ld M (o + 4) 24 l1 (fun t2 => if t2 = l2 then (X1_isOfCloth_j23 M 1) else (X1_isOfCloth_j23 M 0))))
set_option maxHeartbeats 4000000 in
set_option maxRecDepth 100000 in
theorem X1_isOfCloth_j23_ok (hX : Cx p s m args meth c D cA ad n A sa cX1_isOfCloth 3 RX1 kX1_isOfCloth) {M : Mem} {v1 : Int32} {r : Int32}  (hr : meth.sig.returnType = (some .boolean)) (ht : ∀ x ∈ c.exceptionTable.toList, False) (h : X1_isOfCloth_j23 M v1 = some r) : JM 1 21 p l e s m args below meth c D cA ad n A 3 (.inl (some (.int r))) M M 23 [] [.int v1] := by
  unfold X1_isOfCloth_j23 at h
  obtain ⟨hz, h⟩ := chk_inv h
  cases h
  exact J.zret hX hr 13 (isB_nar hz) rfl
set_option maxHeartbeats 4000000 in
set_option maxRecDepth 100000 in
theorem mX1_isOfCloth {l : Launch} {D : va_G} {cA : Nat → ClassId} {ad : Nat → Nat} {n : Nat} {A : Nat → Prop} {sa : Nat → Nat} {M : Mem} {o : Nat} {l1 : Int32} {l2 : Int32} {r : Int32} (ho : DrOk n o) (h : X1_isOfCloth M o l1 l2 = some r) : CT l D cA ad n A sa yX1_isOfCloth cX1_isOfCloth 3 (some .boolean) 1 21 [.ref (ad o), .int l1, .int l2] M (.inl (some (.int r))) M := by
  refine CT.of (kt := kX1_isOfCloth) (by decide) kX1_isOfCloth_ok (Nat.le_of_ble_eq_true rfl) ?_
  intro p e s m args below meth c hX hr ht
  unfold X1_isOfCloth at h
  refine J.sub (L' := [(0, .ref (ad o)), (1, .int l1), (2, .int l2)]) [0, 1, 2] rfl ?_
  refine J.aload_n hX 0 0 rfl rfl ?_
  refine J.iload_n hX 1 1 rfl rfl ?_
  obtain ⟨t1, hc, h⟩ := bd1_inv h
  refine J.callV1 (As := [.int l1]) (rest := []) (k := o) hX 2 rfl (mX1_isClosed ho hc) okX1_isClosed w_12 ho.lt0 ho.s0 rfl rfl rfl (Nat.le_of_ble_eq_true rfl) ⟨Nat.le_of_ble_eq_true rfl, Nat.le_of_ble_eq_true rfl⟩ ⟨Nat.zero_le _, Nat.zero_le _⟩ ?_
  refine J.if_eq (tgt := 22) hX 3 rfl (by decide) (fun b1 => ?_) (fun b1 => ?_)
  · rw [if_pos b1] at h
    refine J.iconst (v := 0) hX 12 rfl (by decide) ?_
    refine J.sub (L' := []) [] rfl ?_
    exact X1_isOfCloth_j23_ok hX  hr ht h
  · rw [if_neg b1] at h
    refine J.aload_n hX 4 0 rfl rfl ?_
    refine J.getR hX 5 o 1 ho.lt0 ho.s0 rfl in_wsX10 3 (by decide) w_9 rfl rfl ?_
    refine J.iload_n hX 6 1 rfl rfl ?_
    obtain ⟨t2, et2, hb, h⟩ := ld_inv h
    refine J.ialdN hX 7 (o + 4) ho.lt4 ho.s4 hb et2 rfl ?_
    refine J.iload_n hX 8 2 rfl rfl ?_
    refine J.icmp_ne (tgt := 22) hX 9 rfl (by decide) (fun b2 => ?_) (fun b2 => ?_)
    · rw [if_neg b2] at h
      refine J.iconst (v := 0) hX 12 rfl (by decide) ?_
      refine J.sub (L' := []) [] rfl ?_
      exact X1_isOfCloth_j23_ok hX  hr ht h
    · rw [if_pos b2] at h
      refine J.iconst (v := 1) hX 10 rfl (by decide) ?_
      refine J.goto (tgt := 23) hX 11 rfl (by decide) ?_
      refine J.sub (L' := []) [] rfl ?_
      exact X1_isOfCloth_j23_ok hX  hr ht h
def X1_swapCloths_L5_j57 (N2 : Mem) (o : Nat) (l1 : Int32) (l2 : Int32) (v1 : Int32) (v2 : Int32) : Option ((Int32 × Int32 × Mem) ⊕ (Int32 × Mem)) := bnd (v2 + 1) (fun t3 => some (.inl (v1, t3, N2)))
def X1_swapCloths_L5 (o : Nat) (l1 : Int32) (l2 : Int32) (q9 : Int32 × Int32 × Mem) : Option ((Int32 × Int32 × Mem) ⊕ (Int32 × Mem)) := un3 q9 (fun c1 c2 N1 => if 24 ≤ c2 then (some (.inr (c1, N1))) else (bd1 (X1_isOfCloth N1 o c2 l1) (fun t1 => if t1 = 0 then (bd1 (X1_isOfCloth N1 o c2 l2) (fun t2 => if t2 = 0 then (X1_swapCloths_L5_j57 N1 o l1 l2 c1 c2) else (sto N1 (o + 4) 24 c2 l1 (fun N3 => bnd (c1 + 1) (fun t4 => X1_swapCloths_L5_j57 N3 o l1 l2 t4 c2))))) else (sto N1 (o + 4) 24 c2 l2 (fun N4 => bnd (c1 + 1) (fun t5 => X1_swapCloths_L5_j57 N4 o l1 l2 t5 c2))))))
def X1_swapCloths (M : Mem) (o : Nat) (l1 : Int32) (l2 : Int32) : Option (Int32 × Mem) := bd2 (loop (X1_swapCloths_L5 o l1 l2) 3000 (0, 0, M)) (fun x1 N5 => some (x1, N5))
set_option maxHeartbeats 4000000 in
set_option maxRecDepth 100000 in
theorem X1_swapCloths_L5_j57_ok (hX : Cx p s m args meth c D cA ad n A sa cX1_swapCloths 5 RX1 kX1_swapCloths) {N2 : Mem} {o : Nat} {l1 : Int32} {l2 : Int32} {v1 : Int32} {v2 : Int32} (ho : DrOk n o) {r : (Int32 × Int32 × Mem) ⊕ (Int32 × Mem)} (h : X1_swapCloths_L5_j57 N2 o l1 l2 v1 v2 = some r) (hin : ∀ (q0 : Int32) (q1 : Int32) (Mq : Mem), r = .inl (q0, q1, Mq) → JM 2 43 p l e s m args below meth c D cA ad n A 5 out M1 Mq 5 [(0, .ref (ad o)), (1, .int l1), (2, .int l2), (3, .int q0), (4, .int q1)] []) (hex0 : ∀ (q0 : Int32) (Mq : Mem), r = .inr (q0, Mq) → JM 2 43 p l e s m args below meth c D cA ad n A 5 out M1 Mq 63 [(3, .int q0)] []) : JM 2 43 p l e s m args below meth c D cA ad n A 5 out M1 N2 57 [(0, .ref (ad o)), (1, .int l1), (2, .int l2), (3, .int v1), (4, .int v2)] [] := by
  unfold X1_swapCloths_L5_j57 at h
  obtain ⟨t3, et3, h⟩ := bnd_inv h
  refine J.iinc (q := 4) (L' := [(4, .int t3), (0, .ref (ad o)), (1, .int l1), (2, .int l2), (3, .int v1)]) hX 30 rfl rfl et3 (by decide) rfl ?_
  refine J.goto (tgt := 5) hX 31 rfl (by decide) ?_
  refine J.sub (L' := [(0, .ref (ad o)), (1, .int l1), (2, .int l2), (3, .int v1), (4, .int t3)]) [1, 2, 3, 4, 0] rfl ?_
  exact hin _ _ _ (Option.some.inj h).symm
set_option maxHeartbeats 4000000 in
set_option maxRecDepth 100000 in
theorem X1_swapCloths_L5_ok (hX : Cx p s m args meth c D cA ad n A sa cX1_swapCloths 5 RX1 kX1_swapCloths) {N1 : Mem} {o : Nat} {l1 : Int32} {l2 : Int32} {c1 : Int32} {c2 : Int32} (ho : DrOk n o) {r : (Int32 × Int32 × Mem) ⊕ (Int32 × Mem)} (h : X1_swapCloths_L5 o l1 l2 (c1, c2, N1) = some r) (hin : ∀ (q0 : Int32) (q1 : Int32) (Mq : Mem), r = .inl (q0, q1, Mq) → JM 2 43 p l e s m args below meth c D cA ad n A 5 out M1 Mq 5 [(0, .ref (ad o)), (1, .int l1), (2, .int l2), (3, .int q0), (4, .int q1)] []) (hex0 : ∀ (q0 : Int32) (Mq : Mem), r = .inr (q0, Mq) → JM 2 43 p l e s m args below meth c D cA ad n A 5 out M1 Mq 63 [(3, .int q0)] []) : JM 2 43 p l e s m args below meth c D cA ad n A 5 out M1 N1 5 [(0, .ref (ad o)), (1, .int l1), (2, .int l2), (3, .int c1), (4, .int c2)] [] := by
  unfold X1_swapCloths_L5 at h
  have h := un3_inv h
  refine J.iload hX 4 4 rfl rfl ?_
  refine J.bipush (v := 24) hX 5 rfl (by decide) ?_
  refine J.icmp_ge (tgt := 63) hX 6 rfl (by decide) (fun b1 => ?_) (fun b1 => ?_)
  · rw [if_pos b1] at h
    refine J.sub (L' := [(3, .int c1)]) [3] rfl ?_
    exact hex0 _ _ (Option.some.inj h).symm
  · rw [if_neg b1] at h
    refine J.aload_n hX 7 0 rfl rfl ?_
    refine J.iload hX 8 4 rfl rfl ?_
    refine J.iload_n hX 9 1 rfl rfl ?_
    obtain ⟨t1, hc, h⟩ := bd1_inv h
    refine J.callV1 (As := [.int c2, .int l1]) (rest := []) (k := o) hX 10 rfl (mX1_isOfCloth ho hc) okX1_isOfCloth w_19 ho.lt0 ho.s0 rfl rfl rfl (Nat.le_of_ble_eq_true rfl) ⟨Nat.le_of_ble_eq_true rfl, Nat.le_of_ble_eq_true rfl⟩ ⟨Nat.zero_le _, Nat.zero_le _⟩ ?_
    refine J.if_eq (tgt := 36) hX 11 rfl (by decide) (fun b2 => ?_) (fun b2 => ?_)
    · rw [if_pos b2] at h
      refine J.aload_n hX 19 0 rfl rfl ?_
      refine J.iload hX 20 4 rfl rfl ?_
      refine J.iload_n hX 21 2 rfl rfl ?_
      obtain ⟨t2, hc, h⟩ := bd1_inv h
      refine J.callV1 (As := [.int c2, .int l2]) (rest := []) (k := o) hX 22 rfl (mX1_isOfCloth ho hc) okX1_isOfCloth w_19 ho.lt0 ho.s0 rfl rfl rfl (Nat.le_of_ble_eq_true rfl) ⟨Nat.le_of_ble_eq_true rfl, Nat.le_of_ble_eq_true rfl⟩ ⟨Nat.zero_le _, Nat.zero_le _⟩ ?_
      refine J.if_eq (tgt := 57) hX 23 rfl (by decide) (fun b3 => ?_) (fun b3 => ?_)
      · rw [if_pos b3] at h
        refine J.sub (L' := [(0, .ref (ad o)), (1, .int l1), (2, .int l2), (3, .int c1), (4, .int c2)]) [0, 1, 2, 3, 4] rfl ?_
        exact X1_swapCloths_L5_j57_ok hX ho h hin hex0
      · rw [if_neg b3] at h
        refine J.aload_n hX 24 0 rfl rfl ?_
        refine J.getR hX 25 o 1 ho.lt0 ho.s0 rfl in_wsX10 3 (by decide) w_9 rfl rfl ?_
        refine J.iload hX 26 4 rfl rfl ?_
        refine J.iload_n hX 27 1 rfl rfl ?_
        obtain ⟨N3, eN3, hb, h⟩ := sto_inv h
        refine J.iastN hX 28 (o + 4) ho.lt4 ho.s4 hb eN3 rfl ?_
        obtain ⟨t4, et4, h⟩ := bnd_inv h
        refine J.iinc (q := 3) (L' := [(3, .int t4), (0, .ref (ad o)), (1, .int l1), (2, .int l2), (4, .int c2)]) hX 29 rfl rfl et4 (by decide) rfl ?_
        refine J.sub (L' := [(0, .ref (ad o)), (1, .int l1), (2, .int l2), (3, .int t4), (4, .int c2)]) [1, 2, 3, 0, 4] rfl ?_
        exact X1_swapCloths_L5_j57_ok hX ho h hin hex0
    · rw [if_neg b2] at h
      refine J.aload_n hX 12 0 rfl rfl ?_
      refine J.getR hX 13 o 1 ho.lt0 ho.s0 rfl in_wsX10 3 (by decide) w_9 rfl rfl ?_
      refine J.iload hX 14 4 rfl rfl ?_
      refine J.iload_n hX 15 2 rfl rfl ?_
      obtain ⟨N4, eN4, hb, h⟩ := sto_inv h
      refine J.iastN hX 16 (o + 4) ho.lt4 ho.s4 hb eN4 rfl ?_
      obtain ⟨t5, et5, h⟩ := bnd_inv h
      refine J.iinc (q := 3) (L' := [(3, .int t5), (0, .ref (ad o)), (1, .int l1), (2, .int l2), (4, .int c2)]) hX 17 rfl rfl et5 (by decide) rfl ?_
      refine J.goto (tgt := 57) hX 18 rfl (by decide) ?_
      refine J.sub (L' := [(0, .ref (ad o)), (1, .int l1), (2, .int l2), (3, .int t5), (4, .int c2)]) [1, 2, 3, 0, 4] rfl ?_
      exact X1_swapCloths_L5_j57_ok hX ho h hin hex0
set_option maxHeartbeats 4000000 in
set_option maxRecDepth 100000 in
theorem mX1_swapCloths {l : Launch} {D : va_G} {cA : Nat → ClassId} {ad : Nat → Nat} {n : Nat} {A : Nat → Prop} {sa : Nat → Nat} {M : Mem} {o : Nat} {l1 : Int32} {l2 : Int32} {r : Int32} {Mf : Mem} (ho : DrOk n o) (h : X1_swapCloths M o l1 l2 = some (r, Mf)) : CT l D cA ad n A sa yX1_swapCloths cX1_swapCloths 5 (some .int) 2 43 [.ref (ad o), .int l1, .int l2] M (.inl (some (.int r))) Mf := by
  refine CT.of (kt := kX1_swapCloths) (by decide) kX1_swapCloths_ok (Nat.le_of_ble_eq_true rfl) ?_
  intro p e s m args below meth c hX hr ht
  unfold X1_swapCloths at h
  refine J.sub (L' := [(0, .ref (ad o)), (1, .int l1), (2, .int l2)]) [0, 1, 2] rfl ?_
  refine J.iconst (v := 0) hX 0 rfl (by decide) ?_
  refine J.istore_n (L' := [(3, .int 0), (0, .ref (ad o)), (1, .int l1), (2, .int l2)]) hX 1 rfl (by decide) rfl ?_
  refine J.iconst (v := 0) hX 2 rfl (by decide) ?_
  refine J.istore (L' := [(4, .int 0), (3, .int 0), (0, .ref (ad o)), (1, .int l1), (2, .int l2)]) hX 3 rfl (by decide) rfl ?_
  refine J.sub (L' := [(0, .ref (ad o)), (1, .int l1), (2, .int l2), (3, .int 0), (4, .int 0)]) [2, 3, 4, 1, 0] rfl ?_
  obtain ⟨x1, N5, hlp, h⟩ := bd2_inv h
  suffices hE : JM 2 43 p l e s m args below meth c D cA ad n A 5 (.inl (some (.int r))) Mf N5 63 [(3, .int x1)] [] by
    exact loop_ok (fun q9 : Int32 × Int32 × Mem => JM 2 43 p l e s m args below meth c D cA ad n A 5 (.inl (some (.int r))) Mf q9.2.2 5 [(0, .ref (ad o)), (1, .int l1), (2, .int l2), (3, .int q9.1), (4, .int q9.2.1)] []) (fun q9 r hB hst hex9 => X1_swapCloths_L5_ok hX ho hB (fun _ _ _ hr => hst _ hr) (fun _ _ hr => by cases hex9 _ hr; exact hE)) 3000 _ hlp
  refine J.iload_n hX 32 0 rfl rfl ?_
  cases h
  exact J.iret hX hr 33 rfl
def X1_clothArea_L4_j27 (M : Mem) (o : Nat) (l1 : Int32) (v1 : Int32) (v2 : Int32) : Option ((Int32 × Int32) ⊕ (Int32)) := bnd (v2 + 1) (fun t2 => some (.inl (v1, t2)))
def X1_clothArea_L4 (M : Mem) (o : Nat) (l1 : Int32) (q9 : Int32 × Int32) : Option ((Int32 × Int32) ⊕ (Int32)) := un2 q9 (fun c1 c2 => if 24 ≤ c2 then (some (.inr c1)) else (bd1 (X1_isOfCloth M o c2 l1) (fun t1 => if t1 = 0 then (X1_clothArea_L4_j27 M o l1 c1 c2) else (bd1 (X1_doubleArea M o c2) (fun t3 => bnd ((c1 + t3)) (fun t4 => X1_clothArea_L4_j27 M o l1 t4 c2))))))
def X1_clothArea (M : Mem) (o : Nat) (l1 : Int32) : Option (Int32) := bd1 (loop (X1_clothArea_L4 M o l1) 3000 (0, 0)) (fun x1 => some x1)
set_option maxHeartbeats 4000000 in
set_option maxRecDepth 100000 in
theorem X1_clothArea_L4_j27_ok (hX : Cx p s m args meth c D cA ad n A sa cX1_clothArea 4 RX1 kX1_clothArea) {M : Mem} {o : Nat} {l1 : Int32} {v1 : Int32} {v2 : Int32} (ho : DrOk n o) {r : (Int32 × Int32) ⊕ (Int32)} (h : X1_clothArea_L4_j27 M o l1 v1 v2 = some r) (hin : ∀ (q0 : Int32) (q1 : Int32), r = .inl (q0, q1) → JM 2 47 p l e s m args below meth c D cA ad n A 4 out M1 M 4 [(0, .ref (ad o)), (1, .int l1), (2, .int q0), (3, .int q1)] []) (hex0 : ∀ (q0 : Int32), r = .inr q0 → JM 2 47 p l e s m args below meth c D cA ad n A 4 out M1 M 33 [(2, .int q0)] []) : JM 2 47 p l e s m args below meth c D cA ad n A 4 out M1 M 27 [(0, .ref (ad o)), (1, .int l1), (2, .int v1), (3, .int v2)] [] := by
  unfold X1_clothArea_L4_j27 at h
  obtain ⟨t2, et2, h⟩ := bnd_inv h
  refine J.iinc (q := 3) (L' := [(3, .int t2), (0, .ref (ad o)), (1, .int l1), (2, .int v1)]) hX 18 rfl rfl et2 (by decide) rfl ?_
  refine J.goto (tgt := 4) hX 19 rfl (by decide) ?_
  refine J.sub (L' := [(0, .ref (ad o)), (1, .int l1), (2, .int v1), (3, .int t2)]) [1, 2, 3, 0] rfl ?_
  exact hin _ _ (Option.some.inj h).symm
set_option maxHeartbeats 4000000 in
set_option maxRecDepth 100000 in
theorem X1_clothArea_L4_ok (hX : Cx p s m args meth c D cA ad n A sa cX1_clothArea 4 RX1 kX1_clothArea) {M : Mem} {o : Nat} {l1 : Int32} {c1 : Int32} {c2 : Int32} (ho : DrOk n o) {r : (Int32 × Int32) ⊕ (Int32)} (h : X1_clothArea_L4 M o l1 (c1, c2) = some r) (hin : ∀ (q0 : Int32) (q1 : Int32), r = .inl (q0, q1) → JM 2 47 p l e s m args below meth c D cA ad n A 4 out M1 M 4 [(0, .ref (ad o)), (1, .int l1), (2, .int q0), (3, .int q1)] []) (hex0 : ∀ (q0 : Int32), r = .inr q0 → JM 2 47 p l e s m args below meth c D cA ad n A 4 out M1 M 33 [(2, .int q0)] []) : JM 2 47 p l e s m args below meth c D cA ad n A 4 out M1 M 4 [(0, .ref (ad o)), (1, .int l1), (2, .int c1), (3, .int c2)] [] := by
  unfold X1_clothArea_L4 at h
  have h := un2_inv h
  refine J.iload_n hX 4 3 rfl rfl ?_
  refine J.bipush (v := 24) hX 5 rfl (by decide) ?_
  refine J.icmp_ge (tgt := 33) hX 6 rfl (by decide) (fun b1 => ?_) (fun b1 => ?_)
  · rw [if_pos b1] at h
    refine J.sub (L' := [(2, .int c1)]) [2] rfl ?_
    exact hex0 _ (Option.some.inj h).symm
  · rw [if_neg b1] at h
    refine J.aload_n hX 7 0 rfl rfl ?_
    refine J.iload_n hX 8 3 rfl rfl ?_
    refine J.iload_n hX 9 1 rfl rfl ?_
    obtain ⟨t1, hc, h⟩ := bd1_inv h
    refine J.callV1 (As := [.int c2, .int l1]) (rest := []) (k := o) hX 10 rfl (mX1_isOfCloth ho hc) okX1_isOfCloth w_19 ho.lt0 ho.s0 rfl rfl rfl (Nat.le_of_ble_eq_true rfl) ⟨Nat.le_of_ble_eq_true rfl, Nat.le_of_ble_eq_true rfl⟩ ⟨Nat.zero_le _, Nat.zero_le _⟩ ?_
    refine J.if_eq (tgt := 27) hX 11 rfl (by decide) (fun b2 => ?_) (fun b2 => ?_)
    · rw [if_pos b2] at h
      refine J.sub (L' := [(0, .ref (ad o)), (1, .int l1), (2, .int c1), (3, .int c2)]) [0, 1, 2, 3] rfl ?_
      exact X1_clothArea_L4_j27_ok hX ho h hin hex0
    · rw [if_neg b2] at h
      refine J.iload_n hX 12 2 rfl rfl ?_
      refine J.aload_n hX 13 0 rfl rfl ?_
      refine J.iload_n hX 14 3 rfl rfl ?_
      obtain ⟨t3, hc, h⟩ := bd1_inv h
      refine J.callV1 (As := [.int c2]) (rest := [.int c1]) (k := o) hX 15 rfl (mX1_doubleArea ho hc) okX1_doubleArea w_11 ho.lt0 ho.s0 rfl rfl rfl (Nat.le_of_ble_eq_true rfl) ⟨Nat.le_of_ble_eq_true rfl, Nat.le_of_ble_eq_true rfl⟩ ⟨Nat.zero_le _, Nat.zero_le _⟩ ?_
      refine J.iadd hX 16 rfl ?_
      obtain ⟨t4, et4, h⟩ := bnd_inv h
      refine J.nm et4 ?_
      refine J.istore_n (L' := [(2, .int t4), (0, .ref (ad o)), (1, .int l1), (3, .int c2)]) hX 17 rfl (by decide) rfl ?_
      refine J.sub (L' := [(0, .ref (ad o)), (1, .int l1), (2, .int t4), (3, .int c2)]) [1, 2, 0, 3] rfl ?_
      exact X1_clothArea_L4_j27_ok hX ho h hin hex0
set_option maxHeartbeats 4000000 in
set_option maxRecDepth 100000 in
theorem mX1_clothArea {l : Launch} {D : va_G} {cA : Nat → ClassId} {ad : Nat → Nat} {n : Nat} {A : Nat → Prop} {sa : Nat → Nat} {M : Mem} {o : Nat} {l1 : Int32} {r : Int32} (ho : DrOk n o) (h : X1_clothArea M o l1 = some r) : CT l D cA ad n A sa yX1_clothArea cX1_clothArea 4 (some .int) 2 47 [.ref (ad o), .int l1] M (.inl (some (.int r))) M := by
  refine CT.of (kt := kX1_clothArea) (by decide) kX1_clothArea_ok (Nat.le_of_ble_eq_true rfl) ?_
  intro p e s m args below meth c hX hr ht
  unfold X1_clothArea at h
  refine J.sub (L' := [(0, .ref (ad o)), (1, .int l1)]) [0, 1] rfl ?_
  refine J.iconst (v := 0) hX 0 rfl (by decide) ?_
  refine J.istore_n (L' := [(2, .int 0), (0, .ref (ad o)), (1, .int l1)]) hX 1 rfl (by decide) rfl ?_
  refine J.iconst (v := 0) hX 2 rfl (by decide) ?_
  refine J.istore_n (L' := [(3, .int 0), (2, .int 0), (0, .ref (ad o)), (1, .int l1)]) hX 3 rfl (by decide) rfl ?_
  refine J.sub (L' := [(0, .ref (ad o)), (1, .int l1), (2, .int 0), (3, .int 0)]) [2, 3, 1, 0] rfl ?_
  obtain ⟨x1, hlp, h⟩ := bd1_inv h
  suffices hE : JM 2 47 p l e s m args below meth c D cA ad n A 4 (.inl (some (.int r))) M M 33 [(2, .int x1)] [] by
    exact loop_ok (fun q9 : Int32 × Int32 => JM 2 47 p l e s m args below meth c D cA ad n A 4 (.inl (some (.int r))) M M 4 [(0, .ref (ad o)), (1, .int l1), (2, .int q9.1), (3, .int q9.2)] []) (fun q9 r hB hst hex9 => X1_clothArea_L4_ok hX ho hB (fun _ _ hr => hst _ hr) (fun _ hr => by cases hex9 _ hr; exact hE)) 3000 _ hlp
  refine J.iload_n hX 20 0 rfl rfl ?_
  cases h
  exact J.iret hX hr 21 rfl
def X1_extent_L9 (M : Mem) (o : Nat) (l1 : Int32) (k2 : Nat) (z2 : Nat) (q9 : Int32 × Int32 × Int32) : Option ((Int32 × Int32 × Int32) ⊕ (Int32 × Int32)) := un3 q9 (fun c1 c2 c3 => ld M (o + 3) 24 l1 (fun t1 => if t1 ≤ c3 then (some (.inr (c1, c2))) else (ld M k2 z2 ((l1 * 8) + c3) (fun t2 => bnd (if t2 < c1 then t2 else c1) (fun t3 => bnd (if c2 < t2 then t2 else c2) (fun t4 => bnd (c3 + 1) (fun t5 => some (.inl (t3, t4, t5)))))))))
def X1_extent (M : Mem) (o : Nat) (l1 : Int32) (k2 : Nat) (z2 : Nat) : Option (Int32) := bd2 (loop (X1_extent_L9 M o l1 k2 z2) 3000 (96, 0, 0)) (fun x1 x2 => some (x2 - x1))
set_option maxHeartbeats 4000000 in
set_option maxRecDepth 100000 in
theorem X1_extent_L9_ok (hX : Cx p s m args meth c D cA ad n A sa cX1_extent 7 RX1 kX1_extent) {M : Mem} {o : Nat} {l1 : Int32} {k2 : Nat} {z2 : Nat} {c1 : Int32} {c2 : Int32} {c3 : Int32} (ho : DrOk n o) (hk2 : k2 < n) (hs2 : sh0 k2 = .inl (0, z2)) {r : (Int32 × Int32 × Int32) ⊕ (Int32 × Int32)} (h : X1_extent_L9 M o l1 k2 z2 (c1, c2, c3) = some r) (hin : ∀ (q0 : Int32) (q1 : Int32) (q2 : Int32), r = .inl (q0, q1, q2) → JM 1 21 p l e s m args below meth c D cA ad n A 7 out M1 M 9 [(0, .ref (ad o)), (1, .int l1), (2, .ref (ad k2)), (3, .int q0), (4, .int q1), (5, .int q2)] []) (hex0 : ∀ (q0 : Int32) (q1 : Int32), r = .inr (q0, q1) → JM 1 21 p l e s m args below meth c D cA ad n A 7 out M1 M 53 [(3, .int q0), (4, .int q1)] []) : JM 1 21 p l e s m args below meth c D cA ad n A 7 out M1 M 9 [(0, .ref (ad o)), (1, .int l1), (2, .ref (ad k2)), (3, .int c1), (4, .int c2), (5, .int c3)] [] := by
  unfold X1_extent_L9 at h
  have h := un3_inv h
  refine J.iload hX 6 5 rfl rfl ?_
  refine J.aload_n hX 7 0 rfl rfl ?_
  refine J.getR hX 8 o 1 ho.lt0 ho.s0 rfl in_wsX10 2 (by decide) w_3 rfl rfl ?_
  refine J.iload_n hX 9 1 rfl rfl ?_
  obtain ⟨t1, et1, hb, h⟩ := ld_inv h
  refine J.ialdN hX 10 (o + 3) ho.lt3 ho.s3 hb et1 rfl ?_
  refine J.icmp_ge (tgt := 53) hX 11 rfl (by decide) (fun b1 => ?_) (fun b1 => ?_)
  · rw [if_pos b1] at h
    refine J.sub (L' := [(3, .int c1), (4, .int c2)]) [3, 4] rfl ?_
    exact hex0 _ _ (Option.some.inj h).symm
  · rw [if_neg b1] at h
    refine J.aload_n hX 12 2 rfl rfl ?_
    refine J.iload_n hX 13 1 rfl rfl ?_
    refine J.bipush (v := 8) hX 14 rfl (by decide) ?_
    refine J.imul hX 15 rfl ?_
    refine J.iload hX 16 5 rfl rfl ?_
    refine J.iadd hX 17 rfl ?_
    obtain ⟨t2, et2, hb, h⟩ := ld_inv h
    refine J.ialdN hX 18 k2 hk2 hs2 hb et2 rfl ?_
    refine J.istore (L' := [(6, .int t2), (0, .ref (ad o)), (1, .int l1), (2, .ref (ad k2)), (3, .int c1), (4, .int c2), (5, .int c3)]) hX 19 rfl (by decide) rfl ?_
    refine J.iload_n hX 20 4 rfl rfl ?_
    refine J.iload hX 21 0 rfl rfl ?_
    obtain ⟨t3, et3, h⟩ := bnd_inv h
    refine J.mmin hX 22 rfl w_20 w_21 w_22 w_23 (Nat.le_of_ble_eq_true rfl) (Nat.le_of_ble_eq_true rfl) (Nat.zero_le _) (Nat.zero_le _) ?_
    refine J.nm et3 ?_
    refine J.istore_n (L' := [(3, .int t3), (6, .int t2), (0, .ref (ad o)), (1, .int l1), (2, .ref (ad k2)), (4, .int c2), (5, .int c3)]) hX 23 rfl (by decide) rfl ?_
    refine J.iload hX 24 5 rfl rfl ?_
    refine J.iload hX 25 1 rfl rfl ?_
    obtain ⟨t4, et4, h⟩ := bnd_inv h
    refine J.mmax hX 26 rfl w_24 w_25 w_22 w_26 (Nat.le_of_ble_eq_true rfl) (Nat.le_of_ble_eq_true rfl) (Nat.zero_le _) (Nat.zero_le _) ?_
    refine J.nm et4 ?_
    refine J.istore (L' := [(4, .int t4), (3, .int t3), (6, .int t2), (0, .ref (ad o)), (1, .int l1), (2, .ref (ad k2)), (5, .int c3)]) hX 27 rfl (by decide) rfl ?_
    obtain ⟨t5, et5, h⟩ := bnd_inv h
    refine J.iinc (q := 6) (L' := [(5, .int t5), (4, .int t4), (3, .int t3), (6, .int t2), (0, .ref (ad o)), (1, .int l1), (2, .ref (ad k2))]) hX 28 rfl rfl et5 (by decide) rfl ?_
    refine J.goto (tgt := 9) hX 29 rfl (by decide) ?_
    refine J.sub (L' := [(0, .ref (ad o)), (1, .int l1), (2, .ref (ad k2)), (3, .int t3), (4, .int t4), (5, .int t5)]) [4, 5, 6, 2, 1, 0] rfl ?_
    exact hin _ _ _ (Option.some.inj h).symm
set_option maxHeartbeats 4000000 in
set_option maxRecDepth 100000 in
theorem mX1_extent {l : Launch} {D : va_G} {cA : Nat → ClassId} {ad : Nat → Nat} {n : Nat} {A : Nat → Prop} {sa : Nat → Nat} {M : Mem} {o : Nat} {l1 : Int32} {k2 : Nat} {z2 : Nat} {r : Int32} (ho : DrOk n o) (hk2 : k2 < n) (hs2 : sh0 k2 = .inl (0, z2)) (h : X1_extent M o l1 k2 z2 = some r) : CT l D cA ad n A sa yX1_extent cX1_extent 7 (some .int) 1 21 [.ref (ad o), .int l1, .ref (ad k2)] M (.inl (some (.int r))) M := by
  refine CT.of (kt := kX1_extent) (by decide) kX1_extent_ok (Nat.le_of_ble_eq_true rfl) ?_
  intro p e s m args below meth c hX hr ht
  unfold X1_extent at h
  refine J.sub (L' := [(0, .ref (ad o)), (1, .int l1), (2, .ref (ad k2))]) [0, 1, 2] rfl ?_
  refine J.bipush (v := 96) hX 0 rfl (by decide) ?_
  refine J.istore_n (L' := [(3, .int 96), (0, .ref (ad o)), (1, .int l1), (2, .ref (ad k2))]) hX 1 rfl (by decide) rfl ?_
  refine J.iconst (v := 0) hX 2 rfl (by decide) ?_
  refine J.istore (L' := [(4, .int 0), (3, .int 96), (0, .ref (ad o)), (1, .int l1), (2, .ref (ad k2))]) hX 3 rfl (by decide) rfl ?_
  refine J.iconst (v := 0) hX 4 rfl (by decide) ?_
  refine J.istore (L' := [(5, .int 0), (4, .int 0), (3, .int 96), (0, .ref (ad o)), (1, .int l1), (2, .ref (ad k2))]) hX 5 rfl (by decide) rfl ?_
  refine J.sub (L' := [(0, .ref (ad o)), (1, .int l1), (2, .ref (ad k2)), (3, .int 96), (4, .int 0), (5, .int 0)]) [3, 4, 5, 2, 1, 0] rfl ?_
  obtain ⟨x1, x2, hlp, h⟩ := bd2_inv h
  suffices hE : JM 1 21 p l e s m args below meth c D cA ad n A 7 (.inl (some (.int r))) M M 53 [(3, .int x1), (4, .int x2)] [] by
    exact loop_ok (fun q9 : Int32 × Int32 × Int32 => JM 1 21 p l e s m args below meth c D cA ad n A 7 (.inl (some (.int r))) M M 9 [(0, .ref (ad o)), (1, .int l1), (2, .ref (ad k2)), (3, .int q9.1), (4, .int q9.2.1), (5, .int q9.2.2)] []) (fun q9 r hB hst hex9 => X1_extent_L9_ok hX ho hk2 hs2 hB (fun _ _ _ hr => hst _ hr) (fun _ _ hr => by cases hex9 _ hr; exact hE)) 3000 _ hlp
  refine J.iload hX 30 1 rfl rfl ?_
  refine J.iload_n hX 31 0 rfl rfl ?_
  refine J.isub hX 32 rfl ?_
  cases h
  exact J.iret hX hr 33 rfl
def X1_patchWidth (M : Mem) (o : Nat) (l1 : Int32) : Option (Int32) := bd1 (X1_extent M o l1 (o + 1) 192) (fun t1 => some t1)
set_option maxHeartbeats 4000000 in
set_option maxRecDepth 100000 in
theorem mX1_patchWidth {l : Launch} {D : va_G} {cA : Nat → ClassId} {ad : Nat → Nat} {n : Nat} {A : Nat → Prop} {sa : Nat → Nat} {M : Mem} {o : Nat} {l1 : Int32} {r : Int32} (ho : DrOk n o) (h : X1_patchWidth M o l1 = some r) : CT l D cA ad n A sa yX1_patchWidth cX1_patchWidth 2 (some .int) 2 47 [.ref (ad o), .int l1] M (.inl (some (.int r))) M := by
  refine CT.of (kt := kX1_patchWidth) (by decide) kX1_patchWidth_ok (Nat.le_of_ble_eq_true rfl) ?_
  intro p e s m args below meth c hX hr ht
  unfold X1_patchWidth at h
  refine J.sub (L' := [(0, .ref (ad o)), (1, .int l1)]) [0, 1] rfl ?_
  refine J.aload_n hX 0 0 rfl rfl ?_
  refine J.iload_n hX 1 1 rfl rfl ?_
  refine J.aload_n hX 2 0 rfl rfl ?_
  refine J.getR hX 3 o 1 ho.lt0 ho.s0 rfl in_wsX10 0 (by decide) w_4 rfl rfl ?_
  obtain ⟨t1, hc, h⟩ := bd1_inv h
  refine J.callV1 (As := [.int l1, .ref (ad (o + 1))]) (rest := []) (k := o) hX 4 rfl (mX1_extent ho ho.lt1 ho.s1 hc) okX1_extent w_27 ho.lt0 ho.s0 rfl rfl rfl (Nat.le_of_ble_eq_true rfl) ⟨Nat.le_of_ble_eq_true rfl, Nat.le_of_ble_eq_true rfl⟩ ⟨Nat.zero_le _, Nat.zero_le _⟩ ?_
  cases h
  exact J.iret hX hr 5 rfl
def X1_patchHeight (M : Mem) (o : Nat) (l1 : Int32) : Option (Int32) := bd1 (X1_extent M o l1 (o + 2) 192) (fun t1 => some t1)
set_option maxHeartbeats 4000000 in
set_option maxRecDepth 100000 in
theorem mX1_patchHeight {l : Launch} {D : va_G} {cA : Nat → ClassId} {ad : Nat → Nat} {n : Nat} {A : Nat → Prop} {sa : Nat → Nat} {M : Mem} {o : Nat} {l1 : Int32} {r : Int32} (ho : DrOk n o) (h : X1_patchHeight M o l1 = some r) : CT l D cA ad n A sa yX1_patchHeight cX1_patchHeight 2 (some .int) 2 47 [.ref (ad o), .int l1] M (.inl (some (.int r))) M := by
  refine CT.of (kt := kX1_patchHeight) (by decide) kX1_patchHeight_ok (Nat.le_of_ble_eq_true rfl) ?_
  intro p e s m args below meth c hX hr ht
  unfold X1_patchHeight at h
  refine J.sub (L' := [(0, .ref (ad o)), (1, .int l1)]) [0, 1] rfl ?_
  refine J.aload_n hX 0 0 rfl rfl ?_
  refine J.iload_n hX 1 1 rfl rfl ?_
  refine J.aload_n hX 2 0 rfl rfl ?_
  refine J.getR hX 3 o 1 ho.lt0 ho.s0 rfl in_wsX10 1 (by decide) w_5 rfl rfl ?_
  obtain ⟨t1, hc, h⟩ := bd1_inv h
  refine J.callV1 (As := [.int l1, .ref (ad (o + 2))]) (rest := []) (k := o) hX 4 rfl (mX1_extent ho ho.lt2 ho.s2 hc) okX1_extent w_27 ho.lt0 ho.s0 rfl rfl rfl (Nat.le_of_ble_eq_true rfl) ⟨Nat.le_of_ble_eq_true rfl, Nat.le_of_ble_eq_true rfl⟩ ⟨Nat.zero_le _, Nat.zero_le _⟩ ?_
  cases h
  exact J.iret hX hr 5 rfl
def X1_halfSquareEdge_L19_j120 (M : Mem) (o : Nat) (l1 : Int32) (v6 : Int32) (v7 : Int32) (v8 : Int32) : Option ((Int32 × Int32 × Int32) ⊕ (Int32 × Int32)) := bnd (v8 + 1) (fun t9 => some (.inl (v6, v7, t9)))
def X1_halfSquareEdge_L19_j84 (M : Mem) (o : Nat) (l1 : Int32) (v1 : Int32) (v2 : Int32) (v3 : Int32) (v4 : Int32) (v5 : Int32) : Option ((Int32 × Int32 × Int32) ⊕ (Int32 × Int32)) := ld M (o + 1) 192 v4 (fun t7 => ld M (o + 1) 192 v5 (fun t8 => if t7 = t8 then (ld M (o + 2) 192 v5 (fun t10 => ld M (o + 2) 192 v4 (fun t11 => bnd (if 0 ≤ (t10 - t11) then (t10 - t11) else 0 - (t10 - t11)) (fun t12 => X1_halfSquareEdge_L19_j120 M o l1 v1 t12 v3)))) else (X1_halfSquareEdge_L19_j120 M o l1 v1 v2 v3)))
def X1_halfSquareEdge_L19 (M : Mem) (o : Nat) (l1 : Int32) (q9 : Int32 × Int32 × Int32) : Option ((Int32 × Int32 × Int32) ⊕ (Int32 × Int32)) := un3 q9 (fun c1 c2 c3 => if 3 ≤ c3 then (some (.inr (c1, c2))) else (bnd (((l1 * 8) + c3)) (fun t2 => bd1 (X1_next M o l1 c3) (fun t3 => bnd (((l1 * 8) + t3)) (fun t4 => ld M (o + 2) 192 t2 (fun t5 => ld M (o + 2) 192 t4 (fun t6 => if t5 = t6 then (ld M (o + 1) 192 t4 (fun t13 => ld M (o + 1) 192 t2 (fun t14 => bnd (if 0 ≤ (t13 - t14) then (t13 - t14) else 0 - (t13 - t14)) (fun t15 => X1_halfSquareEdge_L19_j84 M o l1 t15 c2 c3 t2 t4)))) else (X1_halfSquareEdge_L19_j84 M o l1 c1 c2 c3 t2 t4))))))))
def X1_halfSquareEdge_j136 (M : Mem) (v9 : Int32) : Option (Int32) := some v9
def X1_halfSquareEdge (M : Mem) (o : Nat) (l1 : Int32) : Option (Int32) := ld M (o + 3) 24 l1 (fun t1 => if t1 = 3 then (bd2 (loop (X1_halfSquareEdge_L19 M o l1) 3000 (0, 0, 0)) (fun x1 x2 => if x1 = x2 then (X1_halfSquareEdge_j136 M x1) else (X1_halfSquareEdge_j136 M 0))) else (some 0))
set_option maxHeartbeats 4000000 in
set_option maxRecDepth 100000 in
theorem X1_halfSquareEdge_L19_j120_ok (hX : Cx p s m args meth c D cA ad n A sa cX1_halfSquareEdge 7 RX1 kX1_halfSquareEdge) {M : Mem} {o : Nat} {l1 : Int32} {v6 : Int32} {v7 : Int32} {v8 : Int32} (ho : DrOk n o) {r : (Int32 × Int32 × Int32) ⊕ (Int32 × Int32)} (h : X1_halfSquareEdge_L19_j120 M o l1 v6 v7 v8 = some r) (hin : ∀ (q0 : Int32) (q1 : Int32) (q2 : Int32), r = .inl (q0, q1, q2) → JM 1 22 p l e s m args below meth c D cA ad n A 7 out M1 M 19 [(0, .ref (ad o)), (1, .int l1), (2, .int q0), (3, .int q1), (4, .int q2)] []) (hex0 : ∀ (q0 : Int32) (q1 : Int32), r = .inr (q0, q1) → JM 1 22 p l e s m args below meth c D cA ad n A 7 out M1 M 126 [(2, .int q0), (3, .int q1)] []) : JM 1 22 p l e s m args below meth c D cA ad n A 7 out M1 M 120 [(0, .ref (ad o)), (1, .int l1), (2, .int v6), (3, .int v7), (4, .int v8)] [] := by
  unfold X1_halfSquareEdge_L19_j120 at h
  obtain ⟨t9, et9, h⟩ := bnd_inv h
  refine J.iinc (q := 4) (L' := [(4, .int t9), (0, .ref (ad o)), (1, .int l1), (2, .int v6), (3, .int v7)]) hX 72 rfl rfl et9 (by decide) rfl ?_
  refine J.goto (tgt := 19) hX 73 rfl (by decide) ?_
  refine J.sub (L' := [(0, .ref (ad o)), (1, .int l1), (2, .int v6), (3, .int v7), (4, .int t9)]) [1, 2, 3, 4, 0] rfl ?_
  exact hin _ _ _ (Option.some.inj h).symm
set_option maxHeartbeats 4000000 in
set_option maxRecDepth 100000 in
theorem X1_halfSquareEdge_L19_j84_ok (hX : Cx p s m args meth c D cA ad n A sa cX1_halfSquareEdge 7 RX1 kX1_halfSquareEdge) {M : Mem} {o : Nat} {l1 : Int32} {v1 : Int32} {v2 : Int32} {v3 : Int32} {v4 : Int32} {v5 : Int32} (ho : DrOk n o) {r : (Int32 × Int32 × Int32) ⊕ (Int32 × Int32)} (h : X1_halfSquareEdge_L19_j84 M o l1 v1 v2 v3 v4 v5 = some r) (hin : ∀ (q0 : Int32) (q1 : Int32) (q2 : Int32), r = .inl (q0, q1, q2) → JM 1 22 p l e s m args below meth c D cA ad n A 7 out M1 M 19 [(0, .ref (ad o)), (1, .int l1), (2, .int q0), (3, .int q1), (4, .int q2)] []) (hex0 : ∀ (q0 : Int32) (q1 : Int32), r = .inr (q0, q1) → JM 1 22 p l e s m args below meth c D cA ad n A 7 out M1 M 126 [(2, .int q0), (3, .int q1)] []) : JM 1 22 p l e s m args below meth c D cA ad n A 7 out M1 M 84 [(0, .ref (ad o)), (1, .int l1), (2, .int v1), (3, .int v2), (4, .int v3), (5, .int v4), (6, .int v5)] [] := by
  unfold X1_halfSquareEdge_L19_j84 at h
  refine J.aload_n hX 52 0 rfl rfl ?_
  refine J.getR hX 53 o 1 ho.lt0 ho.s0 rfl in_wsX10 0 (by decide) w_4 rfl rfl ?_
  refine J.iload hX 54 5 rfl rfl ?_
  obtain ⟨t7, et7, hb, h⟩ := ld_inv h
  refine J.ialdN hX 55 (o + 1) ho.lt1 ho.s1 hb et7 rfl ?_
  refine J.aload_n hX 56 0 rfl rfl ?_
  refine J.getR hX 57 o 1 ho.lt0 ho.s0 rfl in_wsX10 0 (by decide) w_4 rfl rfl ?_
  refine J.iload hX 58 6 rfl rfl ?_
  obtain ⟨t8, et8, hb, h⟩ := ld_inv h
  refine J.ialdN hX 59 (o + 1) ho.lt1 ho.s1 hb et8 rfl ?_
  refine J.icmp_ne (tgt := 120) hX 60 rfl (by decide) (fun b4 => ?_) (fun b4 => ?_)
  · rw [if_neg b4] at h
    refine J.sub (L' := [(0, .ref (ad o)), (1, .int l1), (2, .int v1), (3, .int v2), (4, .int v3)]) [0, 1, 2, 3, 4] rfl ?_
    exact X1_halfSquareEdge_L19_j120_ok hX ho h hin hex0
  · rw [if_pos b4] at h
    refine J.aload_n hX 61 0 rfl rfl ?_
    refine J.getR hX 62 o 1 ho.lt0 ho.s0 rfl in_wsX10 1 (by decide) w_5 rfl rfl ?_
    refine J.iload hX 63 6 rfl rfl ?_
    obtain ⟨t10, et10, hb, h⟩ := ld_inv h
    refine J.ialdN hX 64 (o + 2) ho.lt2 ho.s2 hb et10 rfl ?_
    refine J.aload_n hX 65 0 rfl rfl ?_
    refine J.getR hX 66 o 1 ho.lt0 ho.s0 rfl in_wsX10 1 (by decide) w_5 rfl rfl ?_
    refine J.iload hX 67 5 rfl rfl ?_
    obtain ⟨t11, et11, hb, h⟩ := ld_inv h
    refine J.ialdN hX 68 (o + 2) ho.lt2 ho.s2 hb et11 rfl ?_
    refine J.isub hX 69 rfl ?_
    obtain ⟨t12, et12, h⟩ := bnd_inv h
    refine J.mabs hX 70 rfl w_28 w_29 w_22 w_30 (Nat.le_of_ble_eq_true rfl) (Nat.le_of_ble_eq_true rfl) (Nat.zero_le _) (Nat.zero_le _) ?_
    refine J.nm et12 ?_
    refine J.istore_n (L' := [(3, .int t12), (0, .ref (ad o)), (1, .int l1), (2, .int v1), (4, .int v3), (5, .int v4), (6, .int v5)]) hX 71 rfl (by decide) rfl ?_
    refine J.sub (L' := [(0, .ref (ad o)), (1, .int l1), (2, .int v1), (3, .int t12), (4, .int v3)]) [1, 2, 3, 0, 4] rfl ?_
    exact X1_halfSquareEdge_L19_j120_ok hX ho h hin hex0
set_option maxHeartbeats 4000000 in
set_option maxRecDepth 100000 in
theorem X1_halfSquareEdge_L19_ok (hX : Cx p s m args meth c D cA ad n A sa cX1_halfSquareEdge 7 RX1 kX1_halfSquareEdge) {M : Mem} {o : Nat} {l1 : Int32} {c1 : Int32} {c2 : Int32} {c3 : Int32} (ho : DrOk n o) {r : (Int32 × Int32 × Int32) ⊕ (Int32 × Int32)} (h : X1_halfSquareEdge_L19 M o l1 (c1, c2, c3) = some r) (hin : ∀ (q0 : Int32) (q1 : Int32) (q2 : Int32), r = .inl (q0, q1, q2) → JM 1 22 p l e s m args below meth c D cA ad n A 7 out M1 M 19 [(0, .ref (ad o)), (1, .int l1), (2, .int q0), (3, .int q1), (4, .int q2)] []) (hex0 : ∀ (q0 : Int32) (q1 : Int32), r = .inr (q0, q1) → JM 1 22 p l e s m args below meth c D cA ad n A 7 out M1 M 126 [(2, .int q0), (3, .int q1)] []) : JM 1 22 p l e s m args below meth c D cA ad n A 7 out M1 M 19 [(0, .ref (ad o)), (1, .int l1), (2, .int c1), (3, .int c2), (4, .int c3)] [] := by
  unfold X1_halfSquareEdge_L19 at h
  have h := un3_inv h
  refine J.iload hX 14 4 rfl rfl ?_
  refine J.iconst (v := 3) hX 15 rfl (by decide) ?_
  refine J.icmp_ge (tgt := 126) hX 16 rfl (by decide) (fun b2 => ?_) (fun b2 => ?_)
  · rw [if_pos b2] at h
    refine J.sub (L' := [(2, .int c1), (3, .int c2)]) [2, 3] rfl ?_
    exact hex0 _ _ (Option.some.inj h).symm
  · rw [if_neg b2] at h
    refine J.iload_n hX 17 1 rfl rfl ?_
    refine J.bipush (v := 8) hX 18 rfl (by decide) ?_
    refine J.imul hX 19 rfl ?_
    refine J.iload hX 20 4 rfl rfl ?_
    refine J.iadd hX 21 rfl ?_
    obtain ⟨t2, et2, h⟩ := bnd_inv h
    refine J.nm et2 ?_
    refine J.istore (L' := [(5, .int t2), (0, .ref (ad o)), (1, .int l1), (2, .int c1), (3, .int c2), (4, .int c3)]) hX 22 rfl (by decide) rfl ?_
    refine J.iload_n hX 23 2 rfl rfl ?_
    refine J.bipush (v := 8) hX 24 rfl (by decide) ?_
    refine J.imul hX 25 rfl ?_
    refine J.aload_n hX 26 1 rfl rfl ?_
    refine J.iload_n hX 27 2 rfl rfl ?_
    refine J.iload hX 28 5 rfl rfl ?_
    obtain ⟨t3, hc, h⟩ := bd1_inv h
    refine J.callV1 (As := [.int l1, .int c3]) (rest := [.int (l1 * 8)]) (k := o) hX 29 rfl (mX1_next ho hc) okX1_next w_7 ho.lt0 ho.s0 rfl rfl rfl (Nat.le_of_ble_eq_true rfl) ⟨Nat.le_of_ble_eq_true rfl, Nat.le_of_ble_eq_true rfl⟩ ⟨Nat.zero_le _, Nat.zero_le _⟩ ?_
    refine J.iadd hX 30 rfl ?_
    obtain ⟨t4, et4, h⟩ := bnd_inv h
    refine J.nm et4 ?_
    refine J.istore (L' := [(6, .int t4), (5, .int t2), (0, .ref (ad o)), (1, .int l1), (2, .int c1), (3, .int c2), (4, .int c3)]) hX 31 rfl (by decide) rfl ?_
    refine J.aload_n hX 32 2 rfl rfl ?_
    refine J.getR hX 33 o 1 ho.lt0 ho.s0 rfl in_wsX10 1 (by decide) w_5 rfl rfl ?_
    refine J.iload hX 34 1 rfl rfl ?_
    obtain ⟨t5, et5, hb, h⟩ := ld_inv h
    refine J.ialdN hX 35 (o + 2) ho.lt2 ho.s2 hb et5 rfl ?_
    refine J.aload_n hX 36 2 rfl rfl ?_
    refine J.getR hX 37 o 1 ho.lt0 ho.s0 rfl in_wsX10 1 (by decide) w_5 rfl rfl ?_
    refine J.iload hX 38 0 rfl rfl ?_
    obtain ⟨t6, et6, hb, h⟩ := ld_inv h
    refine J.ialdN hX 39 (o + 2) ho.lt2 ho.s2 hb et6 rfl ?_
    refine J.icmp_ne (tgt := 84) hX 40 rfl (by decide) (fun b3 => ?_) (fun b3 => ?_)
    · rw [if_neg b3] at h
      refine J.sub (L' := [(0, .ref (ad o)), (1, .int l1), (2, .int c1), (3, .int c2), (4, .int c3), (5, .int t2), (6, .int t4)]) [2, 3, 4, 5, 6, 1, 0] rfl ?_
      exact X1_halfSquareEdge_L19_j84_ok hX ho h hin hex0
    · rw [if_pos b3] at h
      refine J.aload_n hX 41 2 rfl rfl ?_
      refine J.getR hX 42 o 1 ho.lt0 ho.s0 rfl in_wsX10 0 (by decide) w_4 rfl rfl ?_
      refine J.iload hX 43 0 rfl rfl ?_
      obtain ⟨t13, et13, hb, h⟩ := ld_inv h
      refine J.ialdN hX 44 (o + 1) ho.lt1 ho.s1 hb et13 rfl ?_
      refine J.aload_n hX 45 2 rfl rfl ?_
      refine J.getR hX 46 o 1 ho.lt0 ho.s0 rfl in_wsX10 0 (by decide) w_4 rfl rfl ?_
      refine J.iload hX 47 1 rfl rfl ?_
      obtain ⟨t14, et14, hb, h⟩ := ld_inv h
      refine J.ialdN hX 48 (o + 1) ho.lt1 ho.s1 hb et14 rfl ?_
      refine J.isub hX 49 rfl ?_
      obtain ⟨t15, et15, h⟩ := bnd_inv h
      refine J.mabs hX 50 rfl w_28 w_29 w_22 w_30 (Nat.le_of_ble_eq_true rfl) (Nat.le_of_ble_eq_true rfl) (Nat.zero_le _) (Nat.zero_le _) ?_
      refine J.nm et15 ?_
      refine J.istore_n (L' := [(2, .int t15), (6, .int t4), (5, .int t2), (0, .ref (ad o)), (1, .int l1), (3, .int c2), (4, .int c3)]) hX 51 rfl (by decide) rfl ?_
      refine J.sub (L' := [(0, .ref (ad o)), (1, .int l1), (2, .int t15), (3, .int c2), (4, .int c3), (5, .int t2), (6, .int t4)]) [3, 4, 0, 5, 6, 2, 1] rfl ?_
      exact X1_halfSquareEdge_L19_j84_ok hX ho h hin hex0
set_option maxHeartbeats 4000000 in
set_option maxRecDepth 100000 in
theorem X1_halfSquareEdge_j136_ok (hX : Cx p s m args meth c D cA ad n A sa cX1_halfSquareEdge 7 RX1 kX1_halfSquareEdge) {M : Mem} {v9 : Int32} {r : Int32}  (hr : meth.sig.returnType = (some .int)) (ht : ∀ x ∈ c.exceptionTable.toList, False) (h : X1_halfSquareEdge_j136 M v9 = some r) : JM 1 22 p l e s m args below meth c D cA ad n A 7 (.inl (some (.int r))) M M 136 [] [.int v9] := by
  unfold X1_halfSquareEdge_j136 at h
  cases h
  exact J.iret hX hr 80 rfl
set_option maxHeartbeats 4000000 in
set_option maxRecDepth 100000 in
theorem mX1_halfSquareEdge {l : Launch} {D : va_G} {cA : Nat → ClassId} {ad : Nat → Nat} {n : Nat} {A : Nat → Prop} {sa : Nat → Nat} {M : Mem} {o : Nat} {l1 : Int32} {r : Int32} (ho : DrOk n o) (h : X1_halfSquareEdge M o l1 = some r) : CT l D cA ad n A sa yX1_halfSquareEdge cX1_halfSquareEdge 7 (some .int) 1 22 [.ref (ad o), .int l1] M (.inl (some (.int r))) M := by
  refine CT.of (kt := kX1_halfSquareEdge) (by decide) kX1_halfSquareEdge_ok (Nat.le_of_ble_eq_true rfl) ?_
  intro p e s m args below meth c hX hr ht
  unfold X1_halfSquareEdge at h
  refine J.sub (L' := [(0, .ref (ad o)), (1, .int l1)]) [0, 1] rfl ?_
  refine J.aload_n hX 0 0 rfl rfl ?_
  refine J.getR hX 1 o 1 ho.lt0 ho.s0 rfl in_wsX10 2 (by decide) w_3 rfl rfl ?_
  refine J.iload_n hX 2 1 rfl rfl ?_
  obtain ⟨t1, et1, hb, h⟩ := ld_inv h
  refine J.ialdN hX 3 (o + 3) ho.lt3 ho.s3 hb et1 rfl ?_
  refine J.iconst (v := 3) hX 4 rfl (by decide) ?_
  refine J.icmp_eq (tgt := 12) hX 5 rfl (by decide) (fun b1 => ?_) (fun b1 => ?_)
  · rw [if_pos b1] at h
    refine J.iconst (v := 0) hX 8 rfl (by decide) ?_
    refine J.istore_n (L' := [(2, .int 0), (0, .ref (ad o)), (1, .int l1)]) hX 9 rfl (by decide) rfl ?_
    refine J.iconst (v := 0) hX 10 rfl (by decide) ?_
    refine J.istore_n (L' := [(3, .int 0), (2, .int 0), (0, .ref (ad o)), (1, .int l1)]) hX 11 rfl (by decide) rfl ?_
    refine J.iconst (v := 0) hX 12 rfl (by decide) ?_
    refine J.istore (L' := [(4, .int 0), (3, .int 0), (2, .int 0), (0, .ref (ad o)), (1, .int l1)]) hX 13 rfl (by decide) rfl ?_
    refine J.sub (L' := [(0, .ref (ad o)), (1, .int l1), (2, .int 0), (3, .int 0), (4, .int 0)]) [3, 4, 2, 1, 0] rfl ?_
    obtain ⟨x1, x2, hlp, h⟩ := bd2_inv h
    suffices hE : JM 1 22 p l e s m args below meth c D cA ad n A 7 (.inl (some (.int r))) M M 126 [(2, .int x1), (3, .int x2)] [] by
      exact loop_ok (fun q9 : Int32 × Int32 × Int32 => JM 1 22 p l e s m args below meth c D cA ad n A 7 (.inl (some (.int r))) M M 19 [(0, .ref (ad o)), (1, .int l1), (2, .int q9.1), (3, .int q9.2.1), (4, .int q9.2.2)] []) (fun q9 r hB hst hex9 => X1_halfSquareEdge_L19_ok hX ho hB (fun _ _ _ hr => hst _ hr) (fun _ _ hr => by cases hex9 _ hr; exact hE)) 3000 _ hlp
    refine J.iload_n hX 74 0 rfl rfl ?_
    refine J.iload_n hX 75 1 rfl rfl ?_
    refine J.icmp_ne (tgt := 135) hX 76 rfl (by decide) (fun b5 => ?_) (fun b5 => ?_)
    · rw [if_neg b5] at h
      refine J.iconst (v := 0) hX 79 rfl (by decide) ?_
      refine J.sub (L' := []) [] rfl ?_
      exact X1_halfSquareEdge_j136_ok hX  hr ht h
    · rw [if_pos b5] at h
      refine J.iload_n hX 77 0 rfl rfl ?_
      refine J.goto (tgt := 136) hX 78 rfl (by decide) ?_
      refine J.sub (L' := []) [] rfl ?_
      exact X1_halfSquareEdge_j136_ok hX  hr ht h
  · rw [if_neg b1] at h
    refine J.iconst (v := 0) hX 6 rfl (by decide) ?_
    cases h
    exact J.iret hX hr 7 rfl
end G13
end
