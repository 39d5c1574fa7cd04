section
-- ===== PART A: goes FIRST, ahead of the names: the tables' words, and 'selects' of the private methods out of them =====
/-- a private method of a class that the tables say can be made, by its rows of tables_1 -/
def lw_okq (q : MethodName × Nat) : Prop := (q.1.cls ≠ "java/lang/invoke/MethodHandle" ∧ q.1.cls ≠ "java/lang/invoke/VarHandle") ∧ Cond.instantiable q.1.cls q.2 ∈ tables_1 ∧ Cond.privateMethod q.1 ∈ tables_1 ∧ Cond.instanceMethod q.1 ∈ tables_1
theorem lw_p0 : lw_okq (⟨"QuiltDesk$Piecing", "putWaiting", "(II)I"⟩, 4) := ⟨⟨by decide +kernel, by decide +kernel⟩, List.mem_of_getElem? (i := 50) (by decide +kernel), List.mem_of_getElem? (i := 244) (by decide +kernel), List.mem_of_getElem? (i := 245) (by decide +kernel)⟩
theorem lw_p1 : lw_okq (⟨"QuiltDesk$Piecing", "firstSeam", "(LQuiltDesk$Drawing;I)I"⟩, 4) := ⟨⟨by decide +kernel, by decide +kernel⟩, List.mem_of_getElem? (i := 50) (by decide +kernel), List.mem_of_getElem? (i := 249) (by decide +kernel), List.mem_of_getElem? (i := 250) (by decide +kernel)⟩
theorem lw_p2 : lw_okq (⟨"QuiltDesk$Piecing", "leftPart", "(LQuiltDesk$Drawing;II)I"⟩, 4) := ⟨⟨by decide +kernel, by decide +kernel⟩, List.mem_of_getElem? (i := 50) (by decide +kernel), List.mem_of_getElem? (i := 253) (by decide +kernel), List.mem_of_getElem? (i := 254) (by decide +kernel)⟩
theorem lw_p3 : lw_okq (⟨"QuiltDesk$Piecing", "noteSeam", "(IIII)V"⟩, 4) := ⟨⟨by decide +kernel, by decide +kernel⟩, List.mem_of_getElem? (i := 50) (by decide +kernel), List.mem_of_getElem? (i := 258) (by decide +kernel), List.mem_of_getElem? (i := 259) (by decide +kernel)⟩
theorem lw_p4 : lw_okq (⟨"java/lang/Throwable", "fillInStackTrace", "(I)Ljava/lang/Throwable;"⟩, 6) := ⟨⟨by decide +kernel, by decide +kernel⟩, List.mem_of_getElem? (i := 318) (by decide +kernel), List.mem_of_getElem? (i := 316) (by decide +kernel), List.mem_of_getElem? (i := 317) (by decide +kernel)⟩
theorem lw_p5 : lw_okq (⟨"QuiltDesk$Top", "markCorners", "(LQuiltDesk$Drawing;III)V"⟩, 7) := ⟨⟨by decide +kernel, by decide +kernel⟩, List.mem_of_getElem? (i := 71) (by decide +kernel), List.mem_of_getElem? (i := 478) (by decide +kernel), List.mem_of_getElem? (i := 479) (by decide +kernel)⟩
theorem lw_p6 : lw_okq (⟨"QuiltDesk$Cutting", "gather", "(LQuiltDesk$Top;I)V"⟩, 13) := ⟨⟨by decide +kernel, by decide +kernel⟩, List.mem_of_getElem? (i := 111) (by decide +kernel), List.mem_of_getElem? (i := 537) (by decide +kernel), List.mem_of_getElem? (i := 538) (by decide +kernel)⟩
theorem lw_p7 : lw_okq (⟨"QuiltDesk$Cutting", "gatherPatches", "(LQuiltDesk$Drawing;I)V"⟩, 13) := ⟨⟨by decide +kernel, by decide +kernel⟩, List.mem_of_getElem? (i := 111) (by decide +kernel), List.mem_of_getElem? (i := 543) (by decide +kernel), List.mem_of_getElem? (i := 544) (by decide +kernel)⟩
theorem lw_p8 : lw_okq (⟨"QuiltDesk$Cutting", "gatherHalf", "(I)V"⟩, 13) := ⟨⟨by decide +kernel, by decide +kernel⟩, List.mem_of_getElem? (i := 111) (by decide +kernel), List.mem_of_getElem? (i := 555) (by decide +kernel), List.mem_of_getElem? (i := 556) (by decide +kernel)⟩
theorem lw_p9 : lw_okq (⟨"QuiltDesk$Cutting", "gatherCut", "(III)V"⟩, 13) := ⟨⟨by decide +kernel, by decide +kernel⟩, List.mem_of_getElem? (i := 111) (by decide +kernel), List.mem_of_getElem? (i := 559) (by decide +kernel), List.mem_of_getElem? (i := 560) (by decide +kernel)⟩
theorem lw_p10 : lw_okq (⟨"QuiltDesk$Drawing", "extent", "(I[I)I"⟩, 4) := ⟨⟨by decide +kernel, by decide +kernel⟩, List.mem_of_getElem? (i := 26) (by decide +kernel), List.mem_of_getElem? (i := 567) (by decide +kernel), List.mem_of_getElem? (i := 568) (by decide +kernel)⟩
theorem lw_p11 : lw_okq (⟨"QuiltDesk$Cutting", "gatherPieces", "(IIII)V"⟩, 13) := ⟨⟨by decide +kernel, by decide +kernel⟩, List.mem_of_getElem? (i := 111) (by decide +kernel), List.mem_of_getElem? (i := 581) (by decide +kernel), List.mem_of_getElem? (i := 582) (by decide +kernel)⟩
theorem lw_p12 : lw_okq (⟨"QuiltDesk$Cutting", "gatherSashes", "(LQuiltDesk$Top;II)V"⟩, 13) := ⟨⟨by decide +kernel, by decide +kernel⟩, List.mem_of_getElem? (i := 111) (by decide +kernel), List.mem_of_getElem? (i := 596) (by decide +kernel), List.mem_of_getElem? (i := 597) (by decide +kernel)⟩
theorem lw_p13 : lw_okq (⟨"QuiltDesk$Cutting", "gatherBorder", "(LQuiltDesk$Top;II)V"⟩, 13) := ⟨⟨by decide +kernel, by decide +kernel⟩, List.mem_of_getElem? (i := 111) (by decide +kernel), List.mem_of_getElem? (i := 604) (by decide +kernel), List.mem_of_getElem? (i := 605) (by decide +kernel)⟩
theorem lw_p14 : lw_okq (⟨"QuiltDesk$Cutting", "sort", "()V"⟩, 13) := ⟨⟨by decide +kernel, by decide +kernel⟩, List.mem_of_getElem? (i := 111) (by decide +kernel), List.mem_of_getElem? (i := 613) (by decide +kernel), List.mem_of_getElem? (i := 614) (by decide +kernel)⟩
theorem lw_p15 : lw_okq (⟨"QuiltDesk$Cutting", "merge", "(III)V"⟩, 13) := ⟨⟨by decide +kernel, by decide +kernel⟩, List.mem_of_getElem? (i := 111) (by decide +kernel), List.mem_of_getElem? (i := 617) (by decide +kernel), List.mem_of_getElem? (i := 618) (by decide +kernel)⟩
def lw_privs_1 : List (MethodName × Nat) := [(⟨"QuiltDesk$Piecing", "putWaiting", "(II)I"⟩, 4), (⟨"QuiltDesk$Piecing", "firstSeam", "(LQuiltDesk$Drawing;I)I"⟩, 4), (⟨"QuiltDesk$Piecing", "leftPart", "(LQuiltDesk$Drawing;II)I"⟩, 4), (⟨"QuiltDesk$Piecing", "noteSeam", "(IIII)V"⟩, 4), (⟨"java/lang/Throwable", "fillInStackTrace", "(I)Ljava/lang/Throwable;"⟩, 6), (⟨"QuiltDesk$Top", "markCorners", "(LQuiltDesk$Drawing;III)V"⟩, 7), (⟨"QuiltDesk$Cutting", "gather", "(LQuiltDesk$Top;I)V"⟩, 13), (⟨"QuiltDesk$Cutting", "gatherPatches", "(LQuiltDesk$Drawing;I)V"⟩, 13), (⟨"QuiltDesk$Cutting", "gatherHalf", "(I)V"⟩, 13), (⟨"QuiltDesk$Cutting", "gatherCut", "(III)V"⟩, 13), (⟨"QuiltDesk$Drawing", "extent", "(I[I)I"⟩, 4), (⟨"QuiltDesk$Cutting", "gatherPieces", "(IIII)V"⟩, 13), (⟨"QuiltDesk$Cutting", "gatherSashes", "(LQuiltDesk$Top;II)V"⟩, 13), (⟨"QuiltDesk$Cutting", "gatherBorder", "(LQuiltDesk$Top;II)V"⟩, 13), (⟨"QuiltDesk$Cutting", "sort", "()V"⟩, 13), (⟨"QuiltDesk$Cutting", "merge", "(III)V"⟩, 13)]
theorem lw_r1 : ∀ q ∈ lw_privs_1, lw_okq q := List.forall_mem_cons.mpr ⟨lw_p0, List.forall_mem_cons.mpr ⟨lw_p1, List.forall_mem_cons.mpr ⟨lw_p2, List.forall_mem_cons.mpr ⟨lw_p3, List.forall_mem_cons.mpr ⟨lw_p4, List.forall_mem_cons.mpr ⟨lw_p5, List.forall_mem_cons.mpr ⟨lw_p6, List.forall_mem_cons.mpr ⟨lw_p7, List.forall_mem_cons.mpr ⟨lw_p8, List.forall_mem_cons.mpr ⟨lw_p9, List.forall_mem_cons.mpr ⟨lw_p10, List.forall_mem_cons.mpr ⟨lw_p11, List.forall_mem_cons.mpr ⟨lw_p12, List.forall_mem_cons.mpr ⟨lw_p13, List.forall_mem_cons.mpr ⟨lw_p14, List.forall_mem_cons.mpr ⟨lw_p15, fun _ h => absurd h List.not_mem_nil⟩⟩⟩⟩⟩⟩⟩⟩⟩⟩⟩⟩⟩⟩⟩⟩
theorem lw_p16 : lw_okq (⟨"QuiltDesk$Cutting", "goesBefore", "(II)Z"⟩, 13) := ⟨⟨by decide +kernel, by decide +kernel⟩, List.mem_of_getElem? (i := 111) (by decide +kernel), List.mem_of_getElem? (i := 621) (by decide +kernel), List.mem_of_getElem? (i := 622) (by decide +kernel)⟩
theorem lw_p17 : lw_okq (⟨"QuiltDesk$Cutting", "layInOrder", "()V"⟩, 13) := ⟨⟨by decide +kernel, by decide +kernel⟩, List.mem_of_getElem? (i := 111) (by decide +kernel), List.mem_of_getElem? (i := 626) (by decide +kernel), List.mem_of_getElem? (i := 627) (by decide +kernel)⟩
theorem lw_p18 : lw_okq (⟨"QuiltDesk$Cutting", "stripFor", "(I)I"⟩, 13) := ⟨⟨by decide +kernel, by decide +kernel⟩, List.mem_of_getElem? (i := 111) (by decide +kernel), List.mem_of_getElem? (i := 630) (by decide +kernel), List.mem_of_getElem? (i := 631) (by decide +kernel)⟩
theorem lw_p19 : lw_okq (⟨"QuiltDeskModel", "goes", "(ZZ)Z"⟩, 26) := ⟨⟨by decide +kernel, by decide +kernel⟩, List.mem_of_getElem? (i := 659) (by decide +kernel), List.mem_of_getElem? (i := 759) (by decide +kernel), List.mem_of_getElem? (i := 760) (by decide +kernel)⟩
theorem lw_p20 : lw_okq (⟨"QuiltDeskModel", "isConvex", "(I)Z"⟩, 26) := ⟨⟨by decide +kernel, by decide +kernel⟩, List.mem_of_getElem? (i := 659) (by decide +kernel), List.mem_of_getElem? (i := 770) (by decide +kernel), List.mem_of_getElem? (i := 771) (by decide +kernel)⟩
theorem lw_p21 : lw_okq (⟨"QuiltDeskModel", "next", "(II)I"⟩, 26) := ⟨⟨by decide +kernel, by decide +kernel⟩, List.mem_of_getElem? (i := 659) (by decide +kernel), List.mem_of_getElem? (i := 774) (by decide +kernel), List.mem_of_getElem? (i := 775) (by decide +kernel)⟩
theorem lw_p22 : lw_okq (⟨"QuiltDeskModel", "side", "(IIII)I"⟩, 26) := ⟨⟨by decide +kernel, by decide +kernel⟩, List.mem_of_getElem? (i := 659) (by decide +kernel), List.mem_of_getElem? (i := 778) (by decide +kernel), List.mem_of_getElem? (i := 779) (by decide +kernel)⟩
theorem lw_p23 : lw_okq (⟨"QuiltDeskModel", "areaOf", "(I)I"⟩, 26) := ⟨⟨by decide +kernel, by decide +kernel⟩, List.mem_of_getElem? (i := 659) (by decide +kernel), List.mem_of_getElem? (i := 782) (by decide +kernel), List.mem_of_getElem? (i := 783) (by decide +kernel)⟩
theorem lw_p24 : lw_okq (⟨"QuiltDeskModel", "closed", "()I"⟩, 26) := ⟨⟨by decide +kernel, by decide +kernel⟩, List.mem_of_getElem? (i := 659) (by decide +kernel), List.mem_of_getElem? (i := 794) (by decide +kernel), List.mem_of_getElem? (i := 795) (by decide +kernel)⟩
theorem lw_p25 : lw_okq (⟨"QuiltDeskModel", "state", "()I"⟩, 26) := ⟨⟨by decide +kernel, by decide +kernel⟩, List.mem_of_getElem? (i := 659) (by decide +kernel), List.mem_of_getElem? (i := 802) (by decide +kernel), List.mem_of_getElem? (i := 803) (by decide +kernel)⟩
theorem lw_p26 : lw_okq (⟨"QuiltDeskModel", "overlapping", "()I"⟩, 26) := ⟨⟨by decide +kernel, by decide +kernel⟩, List.mem_of_getElem? (i := 659) (by decide +kernel), List.mem_of_getElem? (i := 806) (by decide +kernel), List.mem_of_getElem? (i := 807) (by decide +kernel)⟩
theorem lw_p27 : lw_okq (⟨"QuiltDeskModel", "apart", "(II)Z"⟩, 26) := ⟨⟨by decide +kernel, by decide +kernel⟩, List.mem_of_getElem? (i := 659) (by decide +kernel), List.mem_of_getElem? (i := 810) (by decide +kernel), List.mem_of_getElem? (i := 811) (by decide +kernel)⟩
theorem lw_p28 : lw_okq (⟨"QuiltDeskModel", "lies", "(III)I"⟩, 26) := ⟨⟨by decide +kernel, by decide +kernel⟩, List.mem_of_getElem? (i := 659) (by decide +kernel), List.mem_of_getElem? (i := 814) (by decide +kernel), List.mem_of_getElem? (i := 815) (by decide +kernel)⟩
theorem lw_p29 : lw_okq (⟨"QuiltDeskModel", "leftOf", "(III)I"⟩, 26) := ⟨⟨by decide +kernel, by decide +kernel⟩, List.mem_of_getElem? (i := 659) (by decide +kernel), List.mem_of_getElem? (i := 829) (by decide +kernel), List.mem_of_getElem? (i := 830) (by decide +kernel)⟩
theorem lw_p30 : lw_okq (⟨"QuiltDeskModel", "hasCorner", "(III)Z"⟩, 26) := ⟨⟨by decide +kernel, by decide +kernel⟩, List.mem_of_getElem? (i := 659) (by decide +kernel), List.mem_of_getElem? (i := 853) (by decide +kernel), List.mem_of_getElem? (i := 854) (by decide +kernel)⟩
theorem lw_p31 : lw_okq (⟨"QuiltDeskModel", "lay", "(I)V"⟩, 26) := ⟨⟨by decide +kernel, by decide +kernel⟩, List.mem_of_getElem? (i := 659) (by decide +kernel), List.mem_of_getElem? (i := 875) (by decide +kernel), List.mem_of_getElem? (i := 876) (by decide +kernel)⟩
def lw_privs_2 : List (MethodName × Nat) := [(⟨"QuiltDesk$Cutting", "goesBefore", "(II)Z"⟩, 13), (⟨"QuiltDesk$Cutting", "layInOrder", "()V"⟩, 13), (⟨"QuiltDesk$Cutting", "stripFor", "(I)I"⟩, 13), (⟨"QuiltDeskModel", "goes", "(ZZ)Z"⟩, 26), (⟨"QuiltDeskModel", "isConvex", "(I)Z"⟩, 26), (⟨"QuiltDeskModel", "next", "(II)I"⟩, 26), (⟨"QuiltDeskModel", "side", "(IIII)I"⟩, 26), (⟨"QuiltDeskModel", "areaOf", "(I)I"⟩, 26), (⟨"QuiltDeskModel", "closed", "()I"⟩, 26), (⟨"QuiltDeskModel", "state", "()I"⟩, 26), (⟨"QuiltDeskModel", "overlapping", "()I"⟩, 26), (⟨"QuiltDeskModel", "apart", "(II)Z"⟩, 26), (⟨"QuiltDeskModel", "lies", "(III)I"⟩, 26), (⟨"QuiltDeskModel", "leftOf", "(III)I"⟩, 26), (⟨"QuiltDeskModel", "hasCorner", "(III)Z"⟩, 26), (⟨"QuiltDeskModel", "lay", "(I)V"⟩, 26)]
theorem lw_r2 : ∀ q ∈ lw_privs_2, lw_okq q := List.forall_mem_cons.mpr ⟨lw_p16, List.forall_mem_cons.mpr ⟨lw_p17, List.forall_mem_cons.mpr ⟨lw_p18, List.forall_mem_cons.mpr ⟨lw_p19, List.forall_mem_cons.mpr ⟨lw_p20, List.forall_mem_cons.mpr ⟨lw_p21, List.forall_mem_cons.mpr ⟨lw_p22, List.forall_mem_cons.mpr ⟨lw_p23, List.forall_mem_cons.mpr ⟨lw_p24, List.forall_mem_cons.mpr ⟨lw_p25, List.forall_mem_cons.mpr ⟨lw_p26, List.forall_mem_cons.mpr ⟨lw_p27, List.forall_mem_cons.mpr ⟨lw_p28, List.forall_mem_cons.mpr ⟨lw_p29, List.forall_mem_cons.mpr ⟨lw_p30, List.forall_mem_cons.mpr ⟨lw_p31, fun _ h => absurd h List.not_mem_nil⟩⟩⟩⟩⟩⟩⟩⟩⟩⟩⟩⟩⟩⟩⟩⟩
theorem lw_p32 : lw_okq (⟨"QuiltDeskModel", "list", "(I)V"⟩, 26) := ⟨⟨by decide +kernel, by decide +kernel⟩, List.mem_of_getElem? (i := 659) (by decide +kernel), List.mem_of_getElem? (i := 879) (by decide +kernel), List.mem_of_getElem? (i := 880) (by decide +kernel)⟩
theorem lw_p33 : lw_okq (⟨"QuiltDeskModel", "cutPatch", "(I)V"⟩, 26) := ⟨⟨by decide +kernel, by decide +kernel⟩, List.mem_of_getElem? (i := 659) (by decide +kernel), List.mem_of_getElem? (i := 883) (by decide +kernel), List.mem_of_getElem? (i := 884) (by decide +kernel)⟩
theorem lw_p34 : lw_okq (⟨"QuiltDeskModel", "half", "(I)I"⟩, 26) := ⟨⟨by decide +kernel, by decide +kernel⟩, List.mem_of_getElem? (i := 659) (by decide +kernel), List.mem_of_getElem? (i := 887) (by decide +kernel), List.mem_of_getElem? (i := 888) (by decide +kernel)⟩
theorem lw_p35 : lw_okq (⟨"QuiltDeskModel", "spread", "(I[I)I"⟩, 26) := ⟨⟨by decide +kernel, by decide +kernel⟩, List.mem_of_getElem? (i := 659) (by decide +kernel), List.mem_of_getElem? (i := 894) (by decide +kernel), List.mem_of_getElem? (i := 895) (by decide +kernel)⟩
theorem lw_p36 : lw_okq (⟨"QuiltDeskModel", "cutOf", "(III)V"⟩, 26) := ⟨⟨by decide +kernel, by decide +kernel⟩, List.mem_of_getElem? (i := 659) (by decide +kernel), List.mem_of_getElem? (i := 898) (by decide +kernel), List.mem_of_getElem? (i := 899) (by decide +kernel)⟩
theorem lw_p37 : lw_okq (⟨"QuiltDeskModel", "rows", "()I"⟩, 26) := ⟨⟨by decide +kernel, by decide +kernel⟩, List.mem_of_getElem? (i := 659) (by decide +kernel), List.mem_of_getElem? (i := 902) (by decide +kernel), List.mem_of_getElem? (i := 903) (by decide +kernel)⟩
theorem lw_p38 : lw_okq (⟨"QuiltDeskModel", "columns", "()I"⟩, 26) := ⟨⟨by decide +kernel, by decide +kernel⟩, List.mem_of_getElem? (i := 659) (by decide +kernel), List.mem_of_getElem? (i := 906) (by decide +kernel), List.mem_of_getElem? (i := 907) (by decide +kernel)⟩
theorem lw_p39 : lw_okq (⟨"QuiltDeskModel", "across", "(I)I"⟩, 26) := ⟨⟨by decide +kernel, by decide +kernel⟩, List.mem_of_getElem? (i := 659) (by decide +kernel), List.mem_of_getElem? (i := 910) (by decide +kernel), List.mem_of_getElem? (i := 911) (by decide +kernel)⟩
theorem lw_p40 : lw_okq (⟨"QuiltDeskModel", "nextCut", "()I"⟩, 26) := ⟨⟨by decide +kernel, by decide +kernel⟩, List.mem_of_getElem? (i := 659) (by decide +kernel), List.mem_of_getElem? (i := 914) (by decide +kernel), List.mem_of_getElem? (i := 915) (by decide +kernel)⟩
def lw_privs_3 : List (MethodName × Nat) := [(⟨"QuiltDeskModel", "list", "(I)V"⟩, 26), (⟨"QuiltDeskModel", "cutPatch", "(I)V"⟩, 26), (⟨"QuiltDeskModel", "half", "(I)I"⟩, 26), (⟨"QuiltDeskModel", "spread", "(I[I)I"⟩, 26), (⟨"QuiltDeskModel", "cutOf", "(III)V"⟩, 26), (⟨"QuiltDeskModel", "rows", "()I"⟩, 26), (⟨"QuiltDeskModel", "columns", "()I"⟩, 26), (⟨"QuiltDeskModel", "across", "(I)I"⟩, 26), (⟨"QuiltDeskModel", "nextCut", "()I"⟩, 26)]
theorem lw_r3 : ∀ q ∈ lw_privs_3, lw_okq q := List.forall_mem_cons.mpr ⟨lw_p32, List.forall_mem_cons.mpr ⟨lw_p33, List.forall_mem_cons.mpr ⟨lw_p34, List.forall_mem_cons.mpr ⟨lw_p35, List.forall_mem_cons.mpr ⟨lw_p36, List.forall_mem_cons.mpr ⟨lw_p37, List.forall_mem_cons.mpr ⟨lw_p38, List.forall_mem_cons.mpr ⟨lw_p39, List.forall_mem_cons.mpr ⟨lw_p40, fun _ h => absurd h List.not_mem_nil⟩⟩⟩⟩⟩⟩⟩⟩⟩
def lw_privs : List (MethodName × Nat) := lw_privs_1 ++ (lw_privs_2 ++ (lw_privs_3))
def lw_tbl : List Cond := k2_sels lw_privs ++ tables_1
theorem lw_privs_ok : ∀ q ∈ lw_privs, lw_okq q := by
  show ∀ q ∈ lw_privs_1 ++ (lw_privs_2 ++ (lw_privs_3)), lw_okq q
  exact List.forall_mem_append.mpr ⟨lw_r1, List.forall_mem_append.mpr ⟨lw_r2, lw_r3⟩⟩
end
section
/-! ===== BEGIN words of one list among another's, by their places ===== -/
theorem goodIn_r {big : List Cond} (ws : List Cond) (ps : List Nat) (hp : ws = ps.filterMap (fun i => big[i]?)) (h : ws.all goodWord = true) : GoodIn big ws := by
  intro w hw
  have h1 := List.all_eq_true.mp h w hw
  rw [hp] at hw
  obtain ⟨i, -, hi⟩ := List.mem_filterMap.mp hw
  have hm : w ∈ big := by first | exact List.mem_of_getElem? hi | exact List.getElem?_mem hi
  exact ⟨hm, good_of_word h1⟩
theorem goodIn_app {big a b : List Cond} (ha : GoodIn big a) (hb : GoodIn big b) : GoodIn big (a ++ b) := fun w h => (List.mem_append.mp h).elim (ha w) (hb w)
theorem goodIn_ca {big a b : List Cond} {c : Cond} (ha : GoodIn big (c :: a)) (hb : GoodIn big b) : GoodIn big (c :: (a ++ b)) := fun w h => (List.mem_cons.mp h).elim (fun e => ha w (List.mem_cons.mpr (Or.inl e))) (fun h => (List.mem_append.mp h).elim (fun h => ha w (List.mem_cons.mpr (Or.inr h))) (hb w))
theorem goodIn_sub {big ws : List Cond} (hm : ∀ w ∈ ws, w ∈ big) (h : ws.all goodWord = true) : GoodIn big ws := fun w hw => ⟨hm w hw, good_of_word (List.all_eq_true.mp h w hw)⟩
/-! ===== END ===== -/

/-! ===== BEGIN exceptions that leave a method, and their catching by the caller (launches without stack traces) ===== -/
section VXA
/-! The laws vx_back, vx_callV, vx_callS, vx_callSW, vx_throw0, vx_throwS follow proofs of the library, with one case more: JvmDerived/Free/Laws.lean (Back.of_free), Shelf42/LK1.lean (callV, callS), Shelf/KitTraced.lean (throwNew0V, throwNewS). -/
/-- where a method has thrown q: the class by its name, the cell, what was written, the world -/
def vx_T (XC : String → State → State → Prop) (st : State) (q : Addr) (t : State) (mc ms : Nat) (free : Addr → Prop) : Prop :=
  ∃ (E : String) (ce : Cell) (L : List Loc), XC E st t ∧ t.heap[q]? = some ce ∧ ce.vm = .none ∧ st.vm.findClass E = some ce.cls ∧ st.WarmedH t.vm ∧ st.sameButNew ({ t with vm := st.vm } : State) L mc ms ∧ ∀ z ∈ L, free z.base
def vx_Q (Qc : Array Value → State → Outcome → State → Prop) (XC : String → State → State → Prop) (mc ms : Nat) (free : Addr → Prop) : Array Value → State → Outcome → State → Prop := fun a st o t =>
  (Qc a st o t ∧ ∃ L, FrameEnd st o t L mc ms ∧ ∀ q ∈ L, free q.base) ∨ ∃ q, o = .threw q ∧ vx_T XC st q t mc ms free
/-- a callee that returns or throws -/
def vx_Met (l : Launch) (y : MethodName) (ws : List Cond) (rm : Room) (Pc : Array Value → State → Prop) (Qc : Array Value → State → Outcome → State → Prop) (XC : String → State → State → Prop) (mc ms : Nat) (free : Addr → Prop) : Prop :=
  MetFree l y (headSpec ws rm) Pc (fun _ _ _ _ _ => True) (vx_Q Qc XC mc ms free)
def vx_Post (XC : String → State → State → Prop) (mc ms : Nat) (free : Addr → Prop) : Pt → Array Value → Addr → Pt → Prop := fun A a q B =>
  ∃ (g : JFrame) (mk : MethodId) (t : State) (L : List Loc) (E : String) (ce : Cell), B.U.heap = t.heap ∧ B.U.vm = t.vm ∧ XC E (A.U.calling g mk a) t ∧ t.heap[q]? = some ce ∧ ce.vm = .none ∧ A.U.vm.findClass E = some ce.cls ∧ B.locs = A.locs ++ L ∧ (∀ z ∈ L, free z.base) ∧ B.cells = A.cells + mc ∧ B.slots = A.slots + ms
def vx_Back (l : Launch) (R : Room) (p : Program) (e : Env) (below : List Frame) (s : State) (sargs : Array Value) (y : MethodName) (len W9 : Nat)
    (Pre : Pt → Array Value → Prop) (Post : Pt → Array Value → Option Value → Pt → Prop) (PostX : Pt → Array Value → Addr → Pt → Prop) : Prop :=
  ∀ (m : MethodId) (meth : Method) (c : Code) (A : Pt) (g : JFrame) (ig : Instr) (mk : MethodId) (a : Array Value),
    Stand p l e R s m sargs below meth c A.U A.locs A.cells A.slots → g.method = m → g.locals.size = c.maxLocals → decode c.code g.pc = .ok (ig, len) →
    2 * g.monitorRoom + (g.stack.map fun v => v.category).sum ≤ W9 → A.U.methodNamed? y = some mk → Pre A a →
    (∃ (v : Option Value) (B : Pt), Stand p l e R s m sargs below meth c B.U B.locs B.cells B.slots ∧ Post A a v B ∧
      Steps p.tables e below (doInvoke e (A.U.setTop g) [] mk a).1 (B.U.setTop { g with pc := g.pc + len, stack := v.toList ++ g.stack })) ∨
    (∃ (q : Addr) (B : Pt), Stand p l e R s m sargs below meth c B.U B.locs B.cells B.slots ∧ PostX A a q B ∧
      Steps p.tables e below (doInvoke e (A.U.setTop g) [] mk a).1 ((B.U.setTop g).pushFrame (.throwing q)))
section Payer
variable {l : Launch} {R : Room} {p : Program} {e : Env} {below : List Frame} {s : State} {sargs : Array Value} {y : MethodName} {len W9 : Nat}
theorem vx_back {ws : List Cond} {rm : Room} {Pc : Array Value → State → Prop} {Qc : Array Value → State → Outcome → State → Prop} {XC : String → State → State → Prop} {mc ms : Nat} {free : Addr → Prop} {bytes : ByteArray} {maxL : Nat} {ret : Option FieldType}
    (hM : vx_Met l y ws rm Pc Qc XC mc ms free) (hblind : FrameBlind Pc) (hrc : rm.cells = mc) (hrs : rm.slots = ms)
    (hframes : rm.frames + 1 ≤ R.frames) (hlocals : W9 + (maxL + 11) + rm.locals ≤ R.locals)
    (hws : ∀ w ∈ ws, ∀ a' U, s.WarmedH U.vm → w.before a' U = true) (hcode : Cond.code y bytes maxL ret ∈ ws) (hinit : ∀ a' U, s.WarmedH U.vm → (Cond.initialized y.cls).before a' U = true) :
    vx_Back l R p e below s sargs y len W9 (PreOf R mc ms Pc) (PostOf Qc mc ms free) (vx_Post XC mc ms free) := by
  intro m meth c A g ig mk a X hg hsize hdg hW hn hp
  have h1 : (headSpec ws rm).pre.before a A.U = true := atoms_intro fun w hw => hws w hw _ _ X.warmed
  have h2 : (Cond.code y bytes maxL ret).before a A.U = true := hws _ hcode _ _ X.warmed
  have h3 : (Cond.initialized y.cls).before a A.U = true := hinit _ _ X.warmed
  have h4 : A.cells + (headSpec ws rm).room.cells ≤ R.cells := by rw [show (headSpec ws rm).room.cells = mc from hrc]; exact hp.1
  have h5 : A.slots + (headSpec ws rm).room.slots ≤ R.slots := by rw [show (headSpec ws rm).room.slots = ms from hrs]; exact hp.2.1
  have hPc : Pc a (A.U.calling g mk a) := hblind _ _ _ _ hp.2.2
  obtain ⟨U, Ls, c0, s0⟩ := A
  dsimp only [Pt.U, Pt.locs, Pt.cells, Pt.slots] at h1 h2 h3 h4 h5 X hn hPc ⊢
  obtain ⟨methY, cY, hmY, hcY, -, hlY, -, -, -, -⟩ := Cond.code_spec hn h2
  obtain ⟨kY, hkY, -⟩ := className_of_methodNamed hn
  have hinitY : kY.init = .initialized := Cond.initialized_spec (findClass_of_methodNamed hn) hkY h3
  have h : At U g.method c below := by rw [hg]; exact X.here
  have hlocals9 : W9 + (maxL + 11) + (headSpec ws rm).room.locals ≤ R.locals := hlocals
  have happ : (headSpec ws rm).appliesLoose y e.platform (U.calling g mk a) = true :=
    Spec.appliesLoose_calling (g := g) h hdg hn hkY hinitY
      (X.room_calling (g := g) (R' := (headSpec ws rm).room) hsize hmY hcY hframes (by rw [hlY]; omega) h4 h5) h1
  obtain ⟨mid, hmid⟩ := h.above
  have hfr : (U.setTop g).frames = (.java g :: mid) ++ below := by rw [State.frames_setTop' g h.top, hmid]; rfl
  obtain ⟨o, s₂, hsteps, -, hend, hq⟩ := Steps.callFree hM p X.admits X.cas X.clock (acts := []) hfr happ hPc trivial
  have hq' : vx_Q Qc XC mc ms free a (U.calling g mk a) o s₂ := hq
  rw [State.frames_setTop' g h.top] at hend
  obtain ⟨g₀, hg0⟩ := Option.isSome_iff_exists.mp h.top
  obtain ⟨r, hr⟩ := State.topJava?_eq_some.mp hg0
  have hr' : (({ U with heap := s₂.heap, slotsUsed := s₂.slotsUsed } : State).setVm s₂.vm).frames = .java g₀ :: r := hr
  rcases hq' with ⟨hqc, L, hfe, hL⟩ | ⟨q, rfl, E, ce, L, hx, hce, hcv, hcl, hW₂, hsm, hL⟩
  · obtain ⟨⟨v, rfl⟩, hW₂, e2, q2, q3, q4, q5, q6⟩ := id hfe
    have e3 : s₂ = ({ (U.calling g mk a).setFrames s₂.frames with heap := s₂.heap, slotsUsed := s₂.slotsUsed } : State).setVm s₂.vm := by
      have : s₂ = ({ s₂ with vm := (U.calling g mk a).vm } : State).setVm s₂.vm := rfl
      rw [e2] at this
      exact this
    obtain ⟨c₂, i₂, len₂, hc₂, hd₂, hf₂⟩ := hend
    have hW' : U.WarmedH s₂.vm := hW₂
    have hcc : c₂ = c := by
      have h1 : s₂.code? g.method = U.code? g.method := by
        rw [State.code?_eq, State.code?_eq, hW'.alike.method?]
      exact Option.some.inj (hc₂.symm.trans (h1.trans h.code))
    subst hcc
    have hlen : len₂ = len := by rw [hdg] at hd₂; cases hd₂; rfl
    subst hlen
    have hs₂ : s₂ = (({ U with heap := s₂.heap, slotsUsed := s₂.slotsUsed } : State).setVm s₂.vm).setTop { g with pc := g.pc + len₂, stack := v.toList ++ g.stack } := by
      refine e3.trans ?_
      rw [hf₂, State.calling_eq h.top, State.setFrames_setFrames, State.setTop_of_frames _ hr', hr]
      rfl
    have hsame : U.sameButNew ({ U with heap := s₂.heap, slotsUsed := s₂.slotsUsed } : State) L mc ms := by
      refine ⟨?_, q2, q3, q4, q5, q6⟩
      obtain ⟨t, ht, -⟩ := State.frames_cons hr
      show ({ U with heap := s₂.heap, slotsUsed := s₂.slotsUsed } : State) = { U.setFrames U.frames with heap := s₂.heap, slotsUsed := s₂.slotsUsed }
      rw [State.setFrames_self ht]
    subst hg
    refine Or.inl ⟨v, ⟨(({ U with heap := s₂.heap, slotsUsed := s₂.slotsUsed } : State).setVm s₂.vm), Ls ++ L, c0 + mc, s0 + ms⟩,
      ⟨X.admits, X.cas, X.clock, X.frames, X.room, X.hears, X.method, X.code, (X.here.setHeapUsed s₂.heap s₂.slotsUsed).setVm hW'.alike, X.tail, State.WarmedH.trans X.warmed hW', X.limits, X.bytes, X.same.trans (hsame.setVm s.vm)⟩,
      ⟨g, mk, s₂, L, rfl, rfl, hqc, rfl, hL, rfl, rfl⟩, ?_⟩
    show Steps p.tables e below _ ((({ U with heap := s₂.heap, slotsUsed := s₂.slotsUsed } : State).setVm s₂.vm).setTop { g with pc := g.pc + len₂, stack := v.toList ++ g.stack })
    rw [← hs₂]
    exact hsteps
  · obtain ⟨e2, q2, q3, q4, q5, q6⟩ := id hsm
    have e3 : s₂ = ({ (U.calling g mk a).setFrames s₂.frames with heap := s₂.heap, slotsUsed := s₂.slotsUsed } : State).setVm s₂.vm := by
      have : s₂ = ({ s₂ with vm := (U.calling g mk a).vm } : State).setVm s₂.vm := rfl
      rw [e2] at this
      exact this
    have hf₂ : s₂.frames = .throwing q :: .java g :: U.frames.tail := hend
    have hW' : U.WarmedH s₂.vm := hW₂
    have hs₂ : s₂ = ((({ U with heap := s₂.heap, slotsUsed := s₂.slotsUsed } : State).setVm s₂.vm).setTop g).pushFrame (.throwing q) := by
      refine e3.trans ?_
      rw [hf₂, State.calling_eq h.top, State.setFrames_setFrames, State.pushFrame, State.frames_setTop _ hr', State.setTop_of_frames _ hr', State.setFrames_setFrames, hr]
      rfl
    have hsame : U.sameButNew ({ U with heap := s₂.heap, slotsUsed := s₂.slotsUsed } : State) L mc ms := by
      refine ⟨?_, q2, q3, q4, q5, q6⟩
      obtain ⟨t, ht, -⟩ := State.frames_cons hr
      show ({ U with heap := s₂.heap, slotsUsed := s₂.slotsUsed } : State) = { U.setFrames U.frames with heap := s₂.heap, slotsUsed := s₂.slotsUsed }
      rw [State.setFrames_self ht]
    subst hg
    refine Or.inr ⟨q, ⟨(({ U with heap := s₂.heap, slotsUsed := s₂.slotsUsed } : State).setVm s₂.vm), Ls ++ L, c0 + mc, s0 + ms⟩,
      ⟨X.admits, X.cas, X.clock, X.frames, X.room, X.hears, X.method, X.code, (X.here.setHeapUsed s₂.heap s₂.slotsUsed).setVm hW'.alike, X.tail, State.WarmedH.trans X.warmed hW', X.limits, X.bytes, X.same.trans (hsame.setVm s.vm)⟩,
      ⟨g, mk, s₂, L, E, ce, rfl, rfl, hx, hce, hcv, hcl, rfl, hL, rfl, rfl⟩, ?_⟩
    show Steps p.tables e below _ (((({ U with heap := s₂.heap, slotsUsed := s₂.slotsUsed } : State).setVm s₂.vm).setTop g).pushFrame (.throwing q))
    rw [← hs₂]
    exact hsteps
end Payer
section Calls
variable {p : Program} {l : Launch} {e : Env} {R : Room} {s : State} {m : MethodId} {args : Array Value} {below : List Frame} {meth : Method} {c : Code} {T : State} {locs : List Loc} {cells slots : Nat}
theorem vx_callV (X : Stand p l e R s m args below meth c T locs cells slots) (hexec : p.tables.exec = Jvm.exec) {own C : String} {index : Nat} {y : MethodName} {bytes : ByteArray} {maxL : Nat} {ret : Option FieldType}
    (hown : s.vm.findClass own = some m.cls) (hlink : (Cond.methodLink own index y).before args s = true) (hinst : (Cond.instanceMethod y).before args s = true) (hsel : (Cond.selects C y y).before args s = true)
    (hcode : (Cond.code y bytes maxL ret).before args s = true) (hy : y.cls ≠ "java/lang/invoke/MethodHandle" ∧ y.cls ≠ "java/lang/invoke/VarHandle")
    {W9 : Nat} {Pre : Pt → Array Value → Prop} {Post : Pt → Array Value → Option Value → Pt → Prop} {PostX : Pt → Array Value → Addr → Pt → Prop} (hK : vx_Back l R p e below s args y 3 W9 Pre Post PostX)
    {b : Addr} {cellB : Cell} (hcell : T.heap[b]? = some cellB) (hobj : cellB.vm.isStatics = false) (hcls : s.vm.findClass C = some cellB.cls)
    {g : JFrame} (hg : g.method = m) (hsize : g.locals.size = c.maxLocals) {argsL rest : List Value} (hlen : ∀ sig, parseMethodDescriptor y.desc = some sig → argsL.length = sig.parameters.length)
    (hstack : g.stack = argsL.reverse ++ .ref b :: rest) (hW : 2 * g.monitorRoom + (rest.map fun v => v.category).sum ≤ W9) (hdg : decode c.code g.pc = .ok (.invokevirtual index, 3))
    (hpre : ∀ vm₁, s.WarmedH vm₁ → Pre ⟨T.setVm vm₁, locs, cells, slots⟩ (Value.ref b :: argsL).toArray) :
    (∃ (v : Option Value) (vm₁ : Vm) (B : Pt), s.WarmedH vm₁ ∧ Stand p l e R s m args below meth c B.U B.locs B.cells B.slots ∧ Post ⟨T.setVm vm₁, locs, cells, slots⟩ (Value.ref b :: argsL).toArray v B ∧
      ∀ target, Steps p.tables e below (B.U.setTop { g with pc := g.pc + 3, stack := v.toList ++ rest }) target → Steps p.tables e below (T.setTop g) target) ∨
    (∃ (q : Addr) (vm₁ : Vm) (B : Pt), s.WarmedH vm₁ ∧ Stand p l e R s m args below meth c B.U B.locs B.cells B.slots ∧ PostX ⟨T.setVm vm₁, locs, cells, slots⟩ (Value.ref b :: argsL).toArray q B ∧
      Steps p.tables e below (T.setTop g) ((B.U.setTop { g with stack := rest }).pushFrame (.throwing q))) := by
  obtain ⟨mk, methM, hnamed, hmethM, hstM, habM⟩ := Cond.instanceMethod_spec hinst
  obtain ⟨methM', cM, hmethM', -, -, -, -, -, -, hsigM⟩ := Cond.code_spec hnamed hcode
  cases hmethM.symm.trans hmethM'
  obtain ⟨c2, r2, m2, q1, q2, q3, q4, kP, hkP, hkPi⟩ := Cond.selects_spec hsel
  cases hcls.symm.trans q1
  cases (State.methodFound?_of_named hnamed hy).symm.trans q2
  cases hnamed.symm.trans q3
  have hselP : selectMethod e.platform s.vm cellB.cls mk = .method mk := by rw [Launch.admits_selectMethod X.admits]; exact q4
  obtain ⟨vm₁, X₁, hstep₁⟩ := X.invokevirtual hexec hown hlink hnamed hmethM hstM hkP hkPi hy (a := b) (cell := cellB) hcell
    (fun z h => by rw [h] at hobj; cases hobj) hselP hmethM habM hkP hkPi (g := g) hg (argsL := argsL) (rest := rest) (hlen _ hsigM) hstack hdg
  rcases hK m meth c ⟨T.setVm vm₁, locs, cells, slots⟩ { g with stack := rest } (.invokevirtual index) mk (Value.ref b :: argsL).toArray X₁ hg hsize hdg hW (X₁.named hnamed) (hpre vm₁ X₁.warmed) with ⟨v, B, X', hpost, hsteps⟩ | ⟨q, B, X', hpost, hsteps⟩
  · exact Or.inl ⟨v, vm₁, B, X₁.warmed, X', hpost, fun target h => hstep₁ _ fun acts => by rw [doInvoke_state]; exact hsteps.trans h⟩
  · exact Or.inr ⟨q, vm₁, B, X₁.warmed, X', hpost, hstep₁ _ fun acts => by rw [doInvoke_state]; exact hsteps⟩
theorem vx_callS (X : Stand p l e R s m args below meth c T locs cells slots) (hexec : p.tables.exec = Jvm.exec) {own : String} {index : Nat} {y : MethodName} {bytes : ByteArray} {maxL : Nat} {ret : Option FieldType}
    (hown : s.vm.findClass own = some m.cls) (hlink : (Cond.methodLink own index y).before args s = true) (hstat : (Cond.static y).before args s = true) (hinit : (Cond.initialized y.cls).before args s = true)
    (hcode : (Cond.code y bytes maxL ret).before args s = true) (hy : y.cls ≠ "java/lang/invoke/MethodHandle" ∧ y.cls ≠ "java/lang/invoke/VarHandle")
    {W9 : Nat} {Pre : Pt → Array Value → Prop} {Post : Pt → Array Value → Option Value → Pt → Prop} {PostX : Pt → Array Value → Addr → Pt → Prop} (hK : vx_Back l R p e below s args y 3 W9 Pre Post PostX)
    {g : JFrame} (hg : g.method = m) (hsize : g.locals.size = c.maxLocals) {argsL rest : List Value} (hlen : ∀ sig, parseMethodDescriptor y.desc = some sig → argsL.length = sig.parameters.length)
    (hstack : g.stack = argsL.reverse ++ rest) (hW : 2 * g.monitorRoom + (rest.map fun v => v.category).sum ≤ W9) (hdg : decode c.code g.pc = .ok (.invokestatic index, 3))
    (hpre : ∀ vm₁, s.WarmedH vm₁ → Pre ⟨T.setVm vm₁, locs, cells, slots⟩ argsL.toArray) :
    (∃ (v : Option Value) (vm₁ : Vm) (B : Pt), s.WarmedH vm₁ ∧ Stand p l e R s m args below meth c B.U B.locs B.cells B.slots ∧ Post ⟨T.setVm vm₁, locs, cells, slots⟩ argsL.toArray v B ∧
      ∀ target, Steps p.tables e below (B.U.setTop { g with pc := g.pc + 3, stack := v.toList ++ rest }) target → Steps p.tables e below (T.setTop g) target) ∨
    (∃ (q : Addr) (vm₁ : Vm) (B : Pt), s.WarmedH vm₁ ∧ Stand p l e R s m args below meth c B.U B.locs B.cells B.slots ∧ PostX ⟨T.setVm vm₁, locs, cells, slots⟩ argsL.toArray q B ∧
      Steps p.tables e below (T.setTop g) ((B.U.setTop { g with stack := rest }).pushFrame (.throwing q))) := by
  obtain ⟨mk, hnamed⟩ := Cond.code_named hcode
  obtain ⟨methM, cM, hmethM, -, -, -, -, -, -, hsigM⟩ := Cond.code_spec hnamed hcode
  have hstatic : methM.isStatic = true := Cond.static_spec hnamed hmethM hstat
  obtain ⟨kP, hkP, -⟩ := className_of_methodNamed hnamed
  have hinitP : kP.init = .initialized := Cond.initialized_spec (findClass_of_methodNamed hnamed) hkP hinit
  obtain ⟨vm₁, X₁, hstep₁⟩ := X.invokestatic hexec hown hlink hnamed hmethM hstatic hkP hinitP hy (g := g) hg (argsL := argsL) (rest := rest) (hlen _ hsigM) hstack hdg
  rcases hK m meth c ⟨T.setVm vm₁, locs, cells, slots⟩ { g with stack := rest } (.invokestatic index) mk argsL.toArray X₁ hg hsize hdg hW (X₁.named hnamed) (hpre vm₁ X₁.warmed) with ⟨v, B, X', hpost, hsteps⟩ | ⟨q, B, X', hpost, hsteps⟩
  · exact Or.inl ⟨v, vm₁, B, X₁.warmed, X', hpost, fun target h => hstep₁ _ fun acts => by rw [doInvoke_state]; exact hsteps.trans h⟩
  · exact Or.inr ⟨q, vm₁, B, X₁.warmed, X', hpost, hstep₁ _ fun acts => by rw [doInvoke_state]; exact hsteps⟩
end Calls
theorem vx_cls {s : State} {T : State} {vm₁ : Vm} {E : String} {k : ClassId} (hW : s.WarmedH vm₁) (h : (T.setVm vm₁).vm.findClass E = some k) : s.vm.findClass E = some k := by
  have h1 : vm₁.findClass E = some k := h
  rw [hW.alike.findClass] at h1
  exact h1
/-- the method's frame g, with q thrown over it -/
def vx_W (p : Program) (l : Launch) (e : Env) (R : Room) (s : State) (m : MethodId) (args : Array Value) (below : List Frame) (meth : Method) (c : Code) (H : Heap) (locs : List Loc) (cells slots : Nat) (Q : State → Prop) (g : JFrame) (q : Addr) : Prop :=
  ∀ T : State, T.heap = H → Stand p l e R s m args below meth c T locs cells slots → ∃ t, Steps p.tables e below ((T.setTop g).pushFrame (.throwing q)) t ∧ Q t
def vx_Run (p : Program) (l : Launch) (e : Env) (R : Room) (s : State) (m : MethodId) (args : Array Value) (below : List Frame) (meth : Method) (c : Code) (H : Heap) (locs : List Loc) (cells slots mc ms : Nat) (g : JFrame) (rest : List Value) (Qa : State → Outcome → State → Prop) (XC : String → State → State → Prop) (free : Addr → Prop) : Prop :=
  ∀ T : State, T.heap = H → Stand p l e R s m args below meth c T locs cells slots →
    (∃ (v : Option Value) (st₀ t T' : State) (L : List Loc), st₀.heap = H ∧ Stand p l e R s m args below meth c T' (locs ++ L) (cells + mc) (slots + ms) ∧ (∀ q ∈ L, free q.base) ∧ T'.heap = t.heap ∧ T'.vm = t.vm ∧ Qa st₀ (.returned v) t ∧
      Goes p e below T g T' { g with pc := g.pc + 3, stack := v.toList ++ rest }) ∨
    (∃ (q : Addr) (st₀ t T' : State) (L : List Loc) (E : String) (ce : Cell), st₀.heap = H ∧ Stand p l e R s m args below meth c T' (locs ++ L) (cells + mc) (slots + ms) ∧ (∀ z ∈ L, free z.base) ∧ T'.heap = t.heap ∧ T'.vm = t.vm ∧ XC E st₀ t ∧ t.heap[q]? = some ce ∧ ce.vm = .none ∧ s.vm.findClass E = some ce.cls ∧
      Steps p.tables e below (T.setTop g) ((T'.setTop { g with stack := rest }).pushFrame (.throwing q)))
def vx_X {S : Type} (px : S → Prop) (B : String → S → State → Prop) (A : Nat → Prop) : String → State → State → Prop := fun E st t => ∃ u : S, px u ∧ B E u t ∧ va_F A st t
section Runs
variable {p : Program} {l : Launch} {e : Env} {R : Room} {s : State} {m : MethodId} {args : Array Value} {below : List Frame} {meth : Method} {c : Code} {H : Heap} {locs : List Loc} {cells slots : Nat}
variable {y : MethodName} {bytes cc : ByteArray} {maxL nL mc ms n index : Nat} {ret : Option FieldType} {ws : List Cond} {rm : Room} {Pc : Array Value → State → Prop} {Qc : Array Value → State → Outcome → State → Prop} {XC : String → State → State → Prop} {free : Addr → Prop} {Ts : List Cond} {own C : String} {b : Addr} {As rest : List Value} {g : JFrame}
theorem vx_callBack (cb : CallB R s args own index y bytes maxL ret ws rm mc ms n) (hM : vx_Met l y ws rm Pc Qc XC mc ms free) (hbl : FrameBlind Pc) : vx_Back l R p e below s args y 3 8 (PreOf R mc ms Pc) (PostOf Qc mc ms free) (vx_Post XC mc ms free) := by
  obtain ⟨hrc, hrs, hfr, hlo, hws, hcw, -, hini, -⟩ := cb
  exact vx_back (bytes := bytes) (maxL := maxL) (ret := ret) hM hbl hrc hrs hfr hlo hws hcw (fun a' U hW => word_at hW (Or.inl (by first | rfl | simp [Cond.onTables, Cond.keeps, Cond.steady])) hini)
theorem vx_runV (S : CallFix p m c cc nL s args Ts own) (hM : vx_Met l y ws rm Pc Qc XC mc ms free) (cw : CallW R s args own C index y bytes maxL ret ws rm mc ms n) (hp : PreV s H C b Pc As)
    (hg : g.method = m) (hn : As.length = n) (hsize : g.locals.size = nL) (hstack : g.stack = As.reverse ++ .ref b :: rest) (hW : 2 * g.monitorRoom + (rest.map fun v => v.category).sum ≤ 8) (hdg : decode cc g.pc = .ok (.invokevirtual index, 3)) (hf : cells + mc ≤ R.cells ∧ slots + ms ≤ R.slots) :
    vx_Run p l e R s m args below meth c H locs cells slots mc ms g rest (Qc (Value.ref b :: As).toArray) XC free := by
  have hK : vx_Back l R p e below s args y 3 8 (PreOf R mc ms Pc) (PostOf Qc mc ms free) (vx_Post XC mc ms free) := vx_callBack cw.1 hM hp.1
  obtain ⟨⟨-, -, -, -, -, -, hcode, -, hy, hlen, hl⟩, hin, hse⟩ := cw
  obtain ⟨hx, hb, hml, ho, -⟩ := S
  obtain ⟨-, ⟨cellB, hcB, hoB, hclB⟩, hPc⟩ := hp
  intro T hT X
  rcases vx_callV X hx (C := C) (bytes := bytes) (maxL := maxL) (ret := ret) ho hl hin hse hcode hy hK (by rw [hT]; exact hcB) hoB hclB hg (hsize.trans hml.symm) (argsL := As) (rest := rest) (fun sig h => hn.trans (hlen sig h)) hstack hW (by rw [hb]; exact hdg)
    (fun vm₁ hW₁ => ⟨hf.1, hf.2, hPc (T.setVm vm₁) hT hW₁⟩) with ⟨v, vm₁, ⟨U', l2, c2, s2⟩, hW₁, X', ⟨g', mk, t, L, e1, e2, hq, h1, hL, h2, h3⟩, st⟩ | ⟨q, vm₁, ⟨U', l2, c2, s2⟩, hW₁, X', ⟨g', mk, t, L, E, ce, e1, e2, hq, hce, hcv, hcl, h1, hL, h2, h3⟩, st⟩
  · dsimp only [Pt.U, Pt.locs, Pt.cells, Pt.slots] at X' e1 e2 h1 h2 h3 st
    subst h1; subst h2; subst h3
    exact Or.inl ⟨v, (T.setVm vm₁).calling g' mk (Value.ref b :: As).toArray, t, U', L, hT, X', hL, e1, e2, hq, st⟩
  · dsimp only [Pt.U, Pt.locs, Pt.cells, Pt.slots] at X' e1 e2 h1 h2 h3 st hcl
    subst h1; subst h2; subst h3
    exact Or.inr ⟨q, (T.setVm vm₁).calling g' mk (Value.ref b :: As).toArray, t, U', L, E, ce, hT, X', hL, e1, e2, hq, hce, hcv, vx_cls hW₁ hcl, st⟩
theorem vx_runS (S : CallFix p m c cc nL s args Ts own) (hM : vx_Met l y ws rm Pc Qc XC mc ms free) (cw : CallB R s args own index y bytes maxL ret ws rm mc ms n ∧ (Cond.static y).before args s = true) (hp : PreS s H Pc As)
    (hg : g.method = m) (hn : As.length = n) (hsize : g.locals.size = nL) (hstack : g.stack = As.reverse ++ rest) (hW : 2 * g.monitorRoom + (rest.map fun v => v.category).sum ≤ 8) (hdg : decode cc g.pc = .ok (.invokestatic index, 3)) (hf : cells + mc ≤ R.cells ∧ slots + ms ≤ R.slots) :
    vx_Run p l e R s m args below meth c H locs cells slots mc ms g rest (Qc As.toArray) XC free := by
  have hK : vx_Back l R p e below s args y 3 8 (PreOf R mc ms Pc) (PostOf Qc mc ms free) (vx_Post XC mc ms free) := vx_callBack cw.1 hM hp.1
  obtain ⟨⟨-, -, -, -, -, -, hcode, hini, hy, hlen, hl⟩, hstt⟩ := cw
  obtain ⟨hx, hb, hml, ho, -⟩ := S
  intro T hT X
  rcases vx_callS X hx (bytes := bytes) (maxL := maxL) (ret := ret) ho hl hstt hini hcode hy hK hg (hsize.trans hml.symm) (argsL := As) (rest := rest) (fun sig h => hn.trans (hlen sig h)) hstack hW (by rw [hb]; exact hdg)
    (fun vm₁ hW₁ => ⟨hf.1, hf.2, hp.2 (T.setVm vm₁) hT hW₁⟩) with ⟨v, vm₁, ⟨U', l2, c2, s2⟩, hW₁, X', ⟨g', mk, t, L, e1, e2, hq, h1, hL, h2, h3⟩, st⟩ | ⟨q, vm₁, ⟨U', l2, c2, s2⟩, hW₁, X', ⟨g', mk, t, L, E, ce, e1, e2, hq, hce, hcv, hcl, h1, hL, h2, h3⟩, st⟩
  · dsimp only [Pt.U, Pt.locs, Pt.cells, Pt.slots] at X' e1 e2 h1 h2 h3 st
    subst h1; subst h2; subst h3
    exact Or.inl ⟨v, (T.setVm vm₁).calling g' mk As.toArray, t, U', L, hT, X', hL, e1, e2, hq, st⟩
  · dsimp only [Pt.U, Pt.locs, Pt.cells, Pt.slots] at X' e1 e2 h1 h2 h3 st hcl
    subst h1; subst h2; subst h3
    exact Or.inr ⟨q, (T.setVm vm₁).calling g' mk As.toArray, t, U', L, E, ce, hT, X', hL, e1, e2, hq, hce, hcv, vx_cls hW₁ hcl, st⟩
end Runs
section Rows
variable {p : Program} {l : Launch} {e : Env} {R : Room} {s : State} {m : MethodId} {args : Array Value} {below : List Frame} {meth : Method} {c : Code} {H : Heap} {locs : List Loc} {cells slots : Nat} {Q : State → Prop}
variable {mc ms : Nat} {free : Addr → Prop} {A0 A1 : Nat → Prop} {H0 : Heap} {a : Array Value} {pc : Nat} {ls : Array Slot} {st0 rest : List Value}
theorem vx_keep {st₀ t T' : State} {L : List Loc} (h0 : st₀.heap = H) (e1 : T'.heap = t.heap) (hS : va_S A0 H0 H locs) (hA : ∀ q, q < H.size → A1 q → A0 q) (hf : ∀ q, free q → A0 q) (hL : ∀ q ∈ L, free q.base) (hF : va_F A1 st₀ t) :
    H.size ≤ T'.heap.size ∧ (∀ q : Nat, q < H.size → ¬ A1 q → T'.heap[q]? = H[q]?) ∧ va_S A0 H0 T'.heap (locs ++ L) := by
  obtain ⟨hz, hk⟩ := hF
  rw [h0] at hz hk
  exact ⟨by rw [e1]; exact hz, fun q h1 h2 => by rw [e1]; exact hk q h1 h2,
    ⟨Nat.le_trans hS.1 (by rw [e1]; exact hz), fun q h1 h2 => by rw [e1, hk q (Nat.lt_of_lt_of_le h1 hS.1) (fun z => h2 (hA q (Nat.lt_of_lt_of_le h1 hS.1) z))]; exact hS.2.1 q h1 h2, fun q hq => by
      rcases List.mem_append.mp hq with h | h
      · exact hS.2.2 q h
      · exact hf _ (hL q h)⟩⟩
theorem vx_calli {S SX : Type} {post : Int32 → S → Prop} {px : SX → Prop} {B : S → State → Prop} {BX : String → SX → State → Prop} {AX : Nat → Prop} (hr : vx_Run p l e R s m args below meth c H locs cells slots mc ms (F0 m pc ls st0) rest (va_Qi post B A1 a) (vx_X px BX AX) free) (hS : va_S A0 H0 H locs) (hA : ∀ q, q < H.size → A1 q → A0 q) (hf : ∀ q, free q → A0 q) (hAX : ∀ q, q < H.size → AX q → A0 q)
    (kx : ∀ (E : String) (ce : Cell) (q9 : Addr) (u : SX) (t : State) (H1 : Heap) (locs1 : List Loc), t.heap = H1 → s.vm.Alike t.vm → px u → BX E u t → H.size ≤ H1.size → (∀ q : Nat, q < H.size → ¬ AX q → H1[q]? = H[q]?) → va_S A0 H0 H1 locs1 → H1[q9]? = some ce → ce.vm = .none → s.vm.findClass E = some ce.cls → vx_W p l e R s m args below meth c H1 locs1 (cells + mc) (slots + ms) Q (F0 m pc ls rest) q9)
    (kk : ∀ (r : Int32) (u : S) (t : State) (H1 : Heap) (locs1 : List Loc), t.heap = H1 → s.vm.Alike t.vm → post r u → B u t → H.size ≤ H1.size → (∀ q : Nat, q < H.size → ¬ A1 q → H1[q]? = H[q]?) → va_S A0 H0 H1 locs1 → W p l e R s m args below meth c H1 locs1 (cells + mc) (slots + ms) Q (F0 m (pc + 3) ls (.int r :: rest))) : W p l e R s m args below meth c H locs cells slots Q (F0 m pc ls st0) := by
  intro T hT X
  rcases hr T hT X with ⟨v, st₀, t, T', L, h0, X', hL, e1, e2, ⟨⟨r, u, hv, hp, hb⟩, hF⟩, st⟩ | ⟨q, st₀, t, T', L, E, ce, h0, X', hL, e1, e2, ⟨u, hp, hb, hF⟩, hce, hcv, hcl, st⟩
  · cases hv
    obtain ⟨k1, k2, k3⟩ := vx_keep h0 e1 hS hA hf hL hF
    obtain ⟨t2, a1, b1⟩ := kk r u t T'.heap (locs ++ L) e1.symm (by rw [← e2]; exact X'.warmed.alike) hp hb k1 k2 k3 T' rfl X'
    exact ⟨t2, st t2 a1, b1⟩
  · obtain ⟨k1, k2, k3⟩ := vx_keep h0 e1 hS hAX hf hL hF
    obtain ⟨t2, a1, b1⟩ := kx E ce q u t T'.heap (locs ++ L) e1.symm (by rw [← e2]; exact X'.warmed.alike) hp hb k1 k2 k3 (by rw [e1]; exact hce) hcv hcl T' rfl X'
    exact ⟨t2, st.trans a1, b1⟩
theorem vx_calll {S SX : Type} {post : Int64 → S → Prop} {px : SX → Prop} {B : S → State → Prop} {BX : String → SX → State → Prop} {AX : Nat → Prop} (hr : vx_Run p l e R s m args below meth c H locs cells slots mc ms (F0 m pc ls st0) rest (va_Ql post B A1 a) (vx_X px BX AX) free) (hS : va_S A0 H0 H locs) (hA : ∀ q, q < H.size → A1 q → A0 q) (hf : ∀ q, free q → A0 q) (hAX : ∀ q, q < H.size → AX q → A0 q)
    (kx : ∀ (E : String) (ce : Cell) (q9 : Addr) (u : SX) (t : State) (H1 : Heap) (locs1 : List Loc), t.heap = H1 → s.vm.Alike t.vm → px u → BX E u t → H.size ≤ H1.size → (∀ q : Nat, q < H.size → ¬ AX q → H1[q]? = H[q]?) → va_S A0 H0 H1 locs1 → H1[q9]? = some ce → ce.vm = .none → s.vm.findClass E = some ce.cls → vx_W p l e R s m args below meth c H1 locs1 (cells + mc) (slots + ms) Q (F0 m pc ls rest) q9)
    (kk : ∀ (r : Int64) (u : S) (t : State) (H1 : Heap) (locs1 : List Loc), t.heap = H1 → s.vm.Alike t.vm → post r u → B u t → H.size ≤ H1.size → (∀ q : Nat, q < H.size → ¬ A1 q → H1[q]? = H[q]?) → va_S A0 H0 H1 locs1 → W p l e R s m args below meth c H1 locs1 (cells + mc) (slots + ms) Q (F0 m (pc + 3) ls (.long r :: rest))) : W p l e R s m args below meth c H locs cells slots Q (F0 m pc ls st0) := by
  intro T hT X
  rcases hr T hT X with ⟨v, st₀, t, T', L, h0, X', hL, e1, e2, ⟨⟨r, u, hv, hp, hb⟩, hF⟩, st⟩ | ⟨q, st₀, t, T', L, E, ce, h0, X', hL, e1, e2, ⟨u, hp, hb, hF⟩, hce, hcv, hcl, st⟩
  · cases hv
    obtain ⟨k1, k2, k3⟩ := vx_keep h0 e1 hS hA hf hL hF
    obtain ⟨t2, a1, b1⟩ := kk r u t T'.heap (locs ++ L) e1.symm (by rw [← e2]; exact X'.warmed.alike) hp hb k1 k2 k3 T' rfl X'
    exact ⟨t2, st t2 a1, b1⟩
  · obtain ⟨k1, k2, k3⟩ := vx_keep h0 e1 hS hAX hf hL hF
    obtain ⟨t2, a1, b1⟩ := kx E ce q u t T'.heap (locs ++ L) e1.symm (by rw [← e2]; exact X'.warmed.alike) hp hb k1 k2 k3 (by rw [e1]; exact hce) hcv hcl T' rfl X'
    exact ⟨t2, st.trans a1, b1⟩
theorem vx_callf {S SX : Type} {post : UInt32 → S → Prop} {px : SX → Prop} {B : S → State → Prop} {BX : String → SX → State → Prop} {AX : Nat → Prop} (hr : vx_Run p l e R s m args below meth c H locs cells slots mc ms (F0 m pc ls st0) rest (va_Qf post B A1 a) (vx_X px BX AX) free) (hS : va_S A0 H0 H locs) (hA : ∀ q, q < H.size → A1 q → A0 q) (hf : ∀ q, free q → A0 q) (hAX : ∀ q, q < H.size → AX q → A0 q)
    (kx : ∀ (E : String) (ce : Cell) (q9 : Addr) (u : SX) (t : State) (H1 : Heap) (locs1 : List Loc), t.heap = H1 → s.vm.Alike t.vm → px u → BX E u t → H.size ≤ H1.size → (∀ q : Nat, q < H.size → ¬ AX q → H1[q]? = H[q]?) → va_S A0 H0 H1 locs1 → H1[q9]? = some ce → ce.vm = .none → s.vm.findClass E = some ce.cls → vx_W p l e R s m args below meth c H1 locs1 (cells + mc) (slots + ms) Q (F0 m pc ls rest) q9)
    (kk : ∀ (r : UInt32) (u : S) (t : State) (H1 : Heap) (locs1 : List Loc), t.heap = H1 → s.vm.Alike t.vm → post r u → B u t → H.size ≤ H1.size → (∀ q : Nat, q < H.size → ¬ A1 q → H1[q]? = H[q]?) → va_S A0 H0 H1 locs1 → W p l e R s m args below meth c H1 locs1 (cells + mc) (slots + ms) Q (F0 m (pc + 3) ls (.float r :: rest))) : W p l e R s m args below meth c H locs cells slots Q (F0 m pc ls st0) := by
  intro T hT X
  rcases hr T hT X with ⟨v, st₀, t, T', L, h0, X', hL, e1, e2, ⟨⟨r, u, hv, hp, hb⟩, hF⟩, st⟩ | ⟨q, st₀, t, T', L, E, ce, h0, X', hL, e1, e2, ⟨u, hp, hb, hF⟩, hce, hcv, hcl, st⟩
  · cases hv
    obtain ⟨k1, k2, k3⟩ := vx_keep h0 e1 hS hA hf hL hF
    obtain ⟨t2, a1, b1⟩ := kk r u t T'.heap (locs ++ L) e1.symm (by rw [← e2]; exact X'.warmed.alike) hp hb k1 k2 k3 T' rfl X'
    exact ⟨t2, st t2 a1, b1⟩
  · obtain ⟨k1, k2, k3⟩ := vx_keep h0 e1 hS hAX hf hL hF
    obtain ⟨t2, a1, b1⟩ := kx E ce q u t T'.heap (locs ++ L) e1.symm (by rw [← e2]; exact X'.warmed.alike) hp hb k1 k2 k3 (by rw [e1]; exact hce) hcv hcl T' rfl X'
    exact ⟨t2, st.trans a1, b1⟩
theorem vx_calld {S SX : Type} {post : UInt64 → S → Prop} {px : SX → Prop} {B : S → State → Prop} {BX : String → SX → State → Prop} {AX : Nat → Prop} (hr : vx_Run p l e R s m args below meth c H locs cells slots mc ms (F0 m pc ls st0) rest (va_Qd post B A1 a) (vx_X px BX AX) free) (hS : va_S A0 H0 H locs) (hA : ∀ q, q < H.size → A1 q → A0 q) (hf : ∀ q, free q → A0 q) (hAX : ∀ q, q < H.size → AX q → A0 q)
    (kx : ∀ (E : String) (ce : Cell) (q9 : Addr) (u : SX) (t : State) (H1 : Heap) (locs1 : List Loc), t.heap = H1 → s.vm.Alike t.vm → px u → BX E u t → H.size ≤ H1.size → (∀ q : Nat, q < H.size → ¬ AX q → H1[q]? = H[q]?) → va_S A0 H0 H1 locs1 → H1[q9]? = some ce → ce.vm = .none → s.vm.findClass E = some ce.cls → vx_W p l e R s m args below meth c H1 locs1 (cells + mc) (slots + ms) Q (F0 m pc ls rest) q9)
    (kk : ∀ (r : UInt64) (u : S) (t : State) (H1 : Heap) (locs1 : List Loc), t.heap = H1 → s.vm.Alike t.vm → post r u → B u t → H.size ≤ H1.size → (∀ q : Nat, q < H.size → ¬ A1 q → H1[q]? = H[q]?) → va_S A0 H0 H1 locs1 → W p l e R s m args below meth c H1 locs1 (cells + mc) (slots + ms) Q (F0 m (pc + 3) ls (.double r :: rest))) : W p l e R s m args below meth c H locs cells slots Q (F0 m pc ls st0) := by
  intro T hT X
  rcases hr T hT X with ⟨v, st₀, t, T', L, h0, X', hL, e1, e2, ⟨⟨r, u, hv, hp, hb⟩, hF⟩, st⟩ | ⟨q, st₀, t, T', L, E, ce, h0, X', hL, e1, e2, ⟨u, hp, hb, hF⟩, hce, hcv, hcl, st⟩
  · cases hv
    obtain ⟨k1, k2, k3⟩ := vx_keep h0 e1 hS hA hf hL hF
    obtain ⟨t2, a1, b1⟩ := kk r u t T'.heap (locs ++ L) e1.symm (by rw [← e2]; exact X'.warmed.alike) hp hb k1 k2 k3 T' rfl X'
    exact ⟨t2, st t2 a1, b1⟩
  · obtain ⟨k1, k2, k3⟩ := vx_keep h0 e1 hS hAX hf hL hF
    obtain ⟨t2, a1, b1⟩ := kx E ce q u t T'.heap (locs ++ L) e1.symm (by rw [← e2]; exact X'.warmed.alike) hp hb k1 k2 k3 (by rw [e1]; exact hce) hcv hcl T' rfl X'
    exact ⟨t2, st.trans a1, b1⟩
theorem vx_callv {S SX : Type} {post : S → Prop} {px : SX → Prop} {B : S → State → Prop} {BX : String → SX → State → Prop} {AX : Nat → Prop} (hr : vx_Run p l e R s m args below meth c H locs cells slots mc ms (F0 m pc ls st0) rest (va_Qv post B A1 a) (vx_X px BX AX) free) (hS : va_S A0 H0 H locs) (hA : ∀ q, q < H.size → A1 q → A0 q) (hf : ∀ q, free q → A0 q) (hAX : ∀ q, q < H.size → AX q → A0 q)
    (kx : ∀ (E : String) (ce : Cell) (q9 : Addr) (u : SX) (t : State) (H1 : Heap) (locs1 : List Loc), t.heap = H1 → s.vm.Alike t.vm → px u → BX E u t → H.size ≤ H1.size → (∀ q : Nat, q < H.size → ¬ AX q → H1[q]? = H[q]?) → va_S A0 H0 H1 locs1 → H1[q9]? = some ce → ce.vm = .none → s.vm.findClass E = some ce.cls → vx_W p l e R s m args below meth c H1 locs1 (cells + mc) (slots + ms) Q (F0 m pc ls rest) q9)
    (kk : ∀ (u : S) (t : State) (H1 : Heap) (locs1 : List Loc), t.heap = H1 → s.vm.Alike t.vm → post u → B u t → H.size ≤ H1.size → (∀ q : Nat, q < H.size → ¬ A1 q → H1[q]? = H[q]?) → va_S A0 H0 H1 locs1 → W p l e R s m args below meth c H1 locs1 (cells + mc) (slots + ms) Q (F0 m (pc + 3) ls (rest))) : W p l e R s m args below meth c H locs cells slots Q (F0 m pc ls st0) := by
  intro T hT X
  rcases hr T hT X with ⟨v, st₀, t, T', L, h0, X', hL, e1, e2, ⟨⟨u, hv, hp, hb⟩, hF⟩, st⟩ | ⟨q, st₀, t, T', L, E, ce, h0, X', hL, e1, e2, ⟨u, hp, hb, hF⟩, hce, hcv, hcl, st⟩
  · cases hv
    obtain ⟨k1, k2, k3⟩ := vx_keep h0 e1 hS hA hf hL hF
    obtain ⟨t2, a1, b1⟩ := kk u t T'.heap (locs ++ L) e1.symm (by rw [← e2]; exact X'.warmed.alike) hp hb k1 k2 k3 T' rfl X'
    exact ⟨t2, st t2 a1, b1⟩
  · obtain ⟨k1, k2, k3⟩ := vx_keep h0 e1 hS hAX hf hL hF
    obtain ⟨t2, a1, b1⟩ := kx E ce q u t T'.heap (locs ++ L) e1.symm (by rw [← e2]; exact X'.warmed.alike) hp hb k1 k2 k3 (by rw [e1]; exact hce) hcv hcl T' rfl X'
    exact ⟨t2, st.trans a1, b1⟩
end Rows
section Ends
variable {p : Program} {l : Launch} {e : Env} {R : Room} {s : State} {m : MethodId} {args : Array Value} {below : List Frame} {meth : Method} {c : Code} {H : Heap} {locs : List Loc} {cells slots : Nat} {Q : State → Prop}
variable {mc ms : Nat} {free : Addr → Prop} {A0 A1 : Nat → Prop} {H0 : Heap} {a : Array Value} {ls : Array Slot} {st0 rest : List Value}
variable {Qc : Array Value → State → Outcome → State → Prop} {XC : String → State → State → Prop}
/-- what a body that may throw owes at its end -/
def vx_MQ (below : List Frame) (Qc : Array Value → State → Outcome → State → Prop) (XC : String → State → State → Prop) (a : Array Value) (s : State) (mc ms : Nat) (free : Addr → Prop) : State → Prop := fun t =>
  ∃ o, t.status = .running ∧ Ended t below o ∧ vx_Q Qc XC mc ms free a s o t
theorem vx_ret {g : JFrame} {mc ms : Nat} (k : W p l e R s m args below meth c H locs cells slots (MQ below Qc args s mc ms free) g) : W p l e R s m args below meth c H locs cells slots (vx_MQ below Qc XC args s mc ms free) g := by
  intro T hT X
  obtain ⟨t, a1, o, b1, b2, b3, b4⟩ := k T hT X
  exact ⟨t, a1, o, b1, b2, Or.inl ⟨b3, b4⟩⟩
/-- not caught here: it goes on to the caller -/
theorem vx_widen {g : JFrame} {q : Addr} {k n : Nat} (h1 : cells ≤ k) (h2 : slots ≤ n) (kk : vx_W p l e R s m args below meth c H locs k n Q g q) : vx_W p l e R s m args below meth c H locs cells slots Q g q := fun T hT X => kk T hT (stand_widen X h1 h2)
theorem vx_out {pc : Nat} {E : String} {ce : Cell} {q : Addr} {mc ms : Nat} (hout : ∀ x ∈ c.exceptionTable.toList, covers x pc = false) (hlocks : meth.locks = false) (hcell : H[q]? = some ce) (hv : ce.vm = .none) (hcl : s.vm.findClass E = some ce.cls)
    (hx : ∀ t : State, t.heap = H → s.vm.Alike t.vm → XC E s t) (hf : ∀ z ∈ locs, free z.base) (hc : cells ≤ mc) (hs : slots ≤ ms) :
    vx_W p l e R s m args below meth c H locs cells slots (vx_MQ below Qc XC args s mc ms free) (F0 m pc ls rest) q := by
  intro T hT X
  obtain ⟨st1, hrun, hend, hW, hsm⟩ := X.leaveThrown q (g := F0 m pc ls rest) rfl rfl rfl hout hlocks
  have hcell9 : (T.setFrames (.throwing q :: below)).heap[q]? = some ce := by
    show T.heap[q]? = some ce
    rw [hT]; exact hcell
  exact ⟨_, st1, .threw q, hrun, hend, Or.inr ⟨q, rfl, E, ce, locs, hx _ hT hW.alike, hcell9, hv, hcl, hW, hsm.mono hc hs, hf⟩⟩
theorem vx_frame {U : State} {k n : Nat} (h : s.sameButNew ({ U with vm := s.vm } : State) locs k n) : s.heap.size ≤ U.heap.size ∧ ∀ q : Nat, q < s.heap.size → (∀ z ∈ locs, z.base ≠ q) → U.heap[q]? = s.heap[q]? := by
  obtain ⟨-, h2, -, -, -, h6⟩ := h
  refine ⟨h2, fun q hq hz => ?_⟩
  obtain ⟨c9, e1, e2, e3, e4⟩ := h6 q _ (Array.getElem?_eq_getElem hq)
  have hs : c9.slots = (s.heap[q]).slots := Array.ext_getElem? fun i => e4 i fun hm => hz _ hm rfl
  have h9 : c9 = s.heap[q] := by
    rw [hs] at e2
    exact e2
  have e5 : U.heap[q]? = some c9 := e1
  rw [e5, h9, Array.getElem?_eq_getElem hq]
/-- the words of a throw but the four that speak of the heap -/
def vx_no (w : Cond) : Bool := decide (w ≠ .isRef (.static Bundle.tN "UNASSIGNED_STACK" Bundle.steD)) && decide (w ≠ .isRef (.static Bundle.tN "SUPPRESSED_SENTINEL" Bundle.listD)) && decide (w ≠ .laysStatic Bundle.tN "UNASSIGNED_STACK" Bundle.steD) && decide (w ≠ .laysStatic Bundle.tN "SUPPRESSED_SENTINEL" Bundle.listD)
def vx_at0 (own : String) (ic : Nat) (X : String) (names : List String) : List Cond := (Bundle.ownAtoms0 own ic X names).filter vx_no
def vx_atS (own : String) (ic : Nat) (X : String) (names : List String) : List Cond := (Bundle.ownAtoms own ic X names).filter vx_no
/-- a word that the tables alone decide, or a good one -/
def vx_ot (w : Cond) : Bool := w.onTables || goodWord w
theorem vx_ot_at {args a' : Array Value} {s U : State} {w : Cond} (hW : s.WarmedH U.vm) (hvm : s.vm = U.vm) (hg : vx_ot w = true) (h : w.before args s = true) : w.before a' U = true := by
  simp only [vx_ot, Bool.or_eq_true] at hg
  rcases hg with hg | hg
  · exact va_tabs hg hvm h
  · exact word_at hW (good_of_word hg) h
/-- a list's words: the good ones out of the method's own list, the others by premises of their own -/
theorem vx_hat {args : Array Value} {s : State} {L B : List Cond} (h1 : ∀ w ∈ L.filter goodWord, w.before args s = true) (h2 : ∀ w ∈ L.filter (fun w => !goodWord w), w ∈ B) (h3 : ∀ w ∈ B, w.before args s = true) : ∀ w ∈ L, w.before args s = true := by
  intro w hw
  by_cases g : goodWord w = true
  · exact h1 w (List.mem_filter.mpr ⟨hw, g⟩)
  · refine h3 w (h2 w (List.mem_filter.mpr ⟨hw, ?_⟩))
    show (!goodWord w) = true
    cases hgw : goodWord w
    · rfl
    · exact absurd hgw g
theorem vx_c {args : Array Value} {s : State} {w : Cond} {B : List Cond} (h : w.before args s = true) (t : ∀ w ∈ B, w.before args s = true) : ∀ w' ∈ w :: B, w'.before args s = true := fun w' h' => (List.mem_cons.mp h').elim (fun e => by rw [e]; exact h) (t w')
theorem vx_n {args : Array Value} {s : State} : ∀ w ∈ ([] : List Cond), w.before args s = true := fun _ h => nomatch h
theorem vx_own {args : Array Value} {s : State} {L : List Cond} (h1 : ∀ w ∈ L.filter vx_no, w.before args s = true)
    (hU : (Cond.isRef (.static Bundle.tN "UNASSIGNED_STACK" Bundle.steD)).before args s = true) (hN : (Cond.isRef (.static Bundle.tN "SUPPRESSED_SENTINEL" Bundle.listD)).before args s = true)
    (lU : (Cond.laysStatic Bundle.tN "UNASSIGNED_STACK" Bundle.steD).before args s = true) (lN : (Cond.laysStatic Bundle.tN "SUPPRESSED_SENTINEL" Bundle.listD).before args s = true) : ∀ w ∈ L, w.before args s = true := by
  intro w hw
  by_cases e1 : w = .isRef (.static Bundle.tN "UNASSIGNED_STACK" Bundle.steD)
  · rw [e1]; exact hU
  · by_cases e2 : w = .isRef (.static Bundle.tN "SUPPRESSED_SENTINEL" Bundle.listD)
    · rw [e2]; exact hN
    · by_cases e3 : w = .laysStatic Bundle.tN "UNASSIGNED_STACK" Bundle.steD
      · rw [e3]; exact lU
      · by_cases e4 : w = .laysStatic Bundle.tN "SUPPRESSED_SENTINEL" Bundle.listD
        · rw [e4]; exact lN
        · exact h1 w (List.mem_filter.mpr ⟨hw, by unfold vx_no; rw [decide_eq_true e1, decide_eq_true e2, decide_eq_true e3, decide_eq_true e4]; rfl⟩)
/-- where a static field lies, its class's statics cell in H -/
def vx_L (C n d : String) (A : Nat → Prop) (U : State) (H : Heap) : Prop := ∃ (c : ClassId) (k : Class) (i : Nat) (f : Field) (a : Nat) (cell : Cell), U.vm.findClass C = some c ∧ U.fieldFound? C n d = some (c, k, i, f) ∧ f.isStatic = true ∧ k.statics = some a ∧ H[a]? = some cell ∧ cell.vm.isStatics = true ∧ cell.cls = c ∧ f.slot < cell.slots.size ∧ k.staticTypes[f.slot]? = some f.type ∧ ¬ A a
theorem vx_L.moved {C n d : String} {A : Nat → Prop} {u U : State} {H : Heap} (hvm : u.vm.Alike U.vm) (h : vx_L C n d A u H) : vx_L C n d A U H := by
  obtain ⟨c, k, i, f, a, cell, h1, h2, h3, h4, h5, h6, h7, h8, h9, h10⟩ := h
  obtain ⟨k', hi', he⟩ := State.fieldFound?_setVm hvm h2
  exact ⟨c, k', i, f, a, cell, by rw [hvm.findClass]; exact h1, hi', h3, by rw [he]; exact h4, h5, h6, h7, h8, by rw [he]; exact h9, h10⟩
theorem vx_L.kept {C n d : String} {A : Nat → Prop} {U : State} {H H1 : Heap} (h : vx_L C n d A U H) (hq : ∀ a : Nat, a < H.size → ¬ A a → H1[a]? = H[a]?) : vx_L C n d A U H1 := by
  obtain ⟨c, k, i, f, a, cell, h1, h2, h3, h4, h5, h6, h7, h8, h9, h10⟩ := h
  exact ⟨c, k, i, f, a, cell, h1, h2, h3, h4, by rw [hq a (Array.getElem?_eq_some_iff.mp h5).1 h10]; exact h5, h6, h7, h8, h9, h10⟩
theorem vx_L.narrow {C n d : String} {A B : Nat → Prop} {U : State} {H : Heap} (h : vx_L C n d A U H) (hAB : ∀ q, B q → A q) : vx_L C n d B U H := by
  obtain ⟨c, k, i, f, a, cell, h1, h2, h3, h4, h5, h6, h7, h8, h9, h10⟩ := h
  exact ⟨c, k, i, f, a, cell, h1, h2, h3, h4, h5, h6, h7, h8, h9, fun z => h10 (hAB _ z)⟩
theorem vx_L.word {C n d : String} {A : Nat → Prop} {s : State} {args : Array Value} (h : vx_L C n d A s s.heap) : (Cond.laysStatic C n d).before args s = true := by
  obtain ⟨c, k, i, f, a, cell, h1, h2, h3, h4, h5, h6, h7, h8, h9, -⟩ := h
  show (Cond.laysStatic C n d).holds args s none s [] = true
  exact Cond.laysStatic_of h1 h2 h3 h4 h5 h6 h7 h8 h9
/-- .. and what it holds: null or some reference -/
def vx_Zq (C n d : String) (A : Nat → Prop) (U : State) (H : Heap) : Prop := va_Zq C n d A U H ∧ vx_L C n d A U H
theorem vx_Zq.moved {C n d : String} {A : Nat → Prop} {u U : State} {H : Heap} (hvm : u.vm.Alike U.vm) (h : vx_Zq C n d A u H) : vx_Zq C n d A U H := ⟨va_Zq.moved hvm h.1, vx_L.moved hvm h.2⟩
theorem vx_Zq.kept {C n d : String} {A : Nat → Prop} {U : State} {H H1 : Heap} (h : vx_Zq C n d A U H) (hq : ∀ a : Nat, a < H.size → ¬ A a → H1[a]? = H[a]?) : vx_Zq C n d A U H1 := ⟨va_Zq.kept h.1 hq, vx_L.kept h.2 hq⟩
theorem vx_Zq.narrow {C n d : String} {A B : Nat → Prop} {U : State} {H : Heap} (h : vx_Zq C n d A U H) (hAB : ∀ q, B q → A q) : vx_Zq C n d B U H := ⟨va_Zq.narrow h.1 hAB, vx_L.narrow h.2 hAB⟩
theorem vx_Zqof {args : Array Value} {s : State} {C n d : String} {A : Nat → Prop} (hl : (Cond.laysStatic C n d).before args s = true) (hini : (Cond.initialized C).before args s = true) (h : (Cond.isRef (.static C n d)).before args s = true) (hA : ∀ a : Nat, a < s.heap.size → ¬ A a) : vx_Zq C n d A s s.heap := by
  refine ⟨va_Zqof hl hini h hA, ?_⟩
  obtain ⟨c, k, i, f, a, cell, h1, h2, h3, h4, h5, h6, h7, h8, h9⟩ := Cond.laysStatic_spec hl
  exact ⟨c, k, i, f, a, cell, h1, h2, h3, h4, h5, h6, h7, h8, h9, hA a (Array.getElem?_eq_some_iff.mp h5).1⟩
theorem vx_isRef {C n d : String} {v : Value} {A : Nat → Prop} {s : State} {args : Array Value} (h : va_Z C n d v A s s.heap) (hv : v.isRef = true) : (Cond.isRef (.static C n d)).before args s = true := by
  obtain ⟨cf, kf, fi, f, a, cell, h1, h2, h3, h4, h5, h6, h7, -⟩ := h
  have he : (Term.static C n d).eval args s none [] s = some v := by
    simp [Term.eval, State.fieldNamed?, h1, h2, h4, h5, h6, h7]
  simp only [Cond.before, Cond.holds, Cond.value, he]
  cases v <;> simp_all [Value.isRef]
theorem vx_isRefq {C n d : String} {A : Nat → Prop} {s : State} {args : Array Value} (h : va_Zq C n d A s s.heap) : (Cond.isRef (.static C n d)).before args s = true := by
  rcases h with h | ⟨t, h⟩
  · exact vx_isRef h rfl
  · exact vx_isRef h rfl
/-- the same frame, seen from here: as if the method were called anew in this heap -/
theorem vx_rebase {T : State} (X : Stand p l e R s m args below meth c T locs cells slots) {R' : Room} (hf : R'.frames ≤ R.frames) (hl : R'.locals ≤ R.locals) (hc : cells + R'.cells ≤ R.cells) (hs : slots + R'.slots ≤ R.slots) :
    Stand p l e R' ((T.setVm s.vm).setFrames (.invoking m args :: below)) m args below meth c T [] 0 0 := by
  have htop : (T.setVm s.vm).topJava?.isSome := X.here.top
  have hF : ((T.setVm s.vm).setFrames (.invoking m args :: below)).frames = .invoking m args :: below := State.frames_setFrames _ (State.cur_lt_of_top htop)
  obtain ⟨g₀, hg0⟩ := Option.isSome_iff_exists.mp htop
  obtain ⟨r, hr⟩ := State.topJava?_eq_some.mp hg0
  have hl9 : e.platform.stackLimits (T.setVm s.vm).me = e.platform.stackLimits s.me := X.limits
  have hb9 : (T.setVm s.vm).me.stackBytes = s.me.stackBytes := X.bytes
  refine ⟨X.admits, X.cas, X.clock, hF, ?_, X.hears, X.method, X.code, X.here, X.tail, X.warmed, ?_, ?_, ?_⟩
  · have h := X.room
    have hU : ((T.setVm s.vm).setFrames (.invoking m args :: below)).localsInUse = s.localsInUse := by
      rw [State.localsInUse_invoking hF (meth := meth) (c := c) X.method X.code, State.localsInUse_invoking X.frames X.method X.code]
    simp only [State.hasRoom, Bool.and_eq_true, decide_eq_true_eq] at h ⊢
    obtain ⟨⟨⟨⟨h1, h2, h3, h4, h5, h6⟩, h7⟩, h8⟩, h9⟩ := h
    rw [X.frames, List.length_cons] at h2 h3
    have q1 := X.heapSize
    have q2 := X.used
    simp only [hF, hU, List.length_cons, State.stackLimits_setFrames, State.stackBytes_setFrames, hl9, hb9]
    refine ⟨⟨⟨⟨by omega, by omega, by omega, by omega, by omega, h6⟩, ?_⟩, ?_⟩, X.book⟩
    · show T.heap.size + R'.cells ≤ e.platform.maxCells
      omega
    · show T.slotsUsed + R'.slots ≤ e.platform.maxSlots
      omega
  · rw [State.stackLimits_setFrames]; rfl
  · rw [State.stackBytes_setFrames]; rfl
  · refine ⟨?_, Nat.le_refl _, Nat.le_refl _, ?_, ?_, fun a c9 h9 => ⟨c9, h9, rfl, rfl, fun _ _ => rfl⟩⟩
    · obtain ⟨t, ht, -⟩ := State.frames_cons hr
      show T.setVm s.vm = { ((T.setVm s.vm).setFrames (.invoking m args :: below)).setFrames (T.setVm s.vm).frames with heap := T.heap, slotsUsed := T.slotsUsed }
      rw [State.setFrames_setFrames, State.setFrames_self ht]
      rfl
    · show T.slotsUsed = T.slotsUsed + ((T.heap.toList.drop T.heap.size).map (·.slots.size)).sum
      rw [List.drop_eq_nil_of_le (Nat.le_of_eq Array.length_toList)]
      rfl
    · show ((T.heap.toList.drop T.heap.size).map (·.slots.size)).sum ≤ 0
      rw [List.drop_eq_nil_of_le (Nat.le_of_eq Array.length_toList)]
      exact Nat.le_refl _
/-- 'throw new E()': new; dup; invokespecial; athrow -/
theorem vx_throw0 {cc : ByteArray} {pc : Nat} (hexec : p.tables.exec = Jvm.exec) (hb : c.code = cc) (hl : l.stackTraces = false) {own cls : String} {names : List String} {ik ic mc ms : Nat} {A : Nat → Prop}
    (hown : s.vm.findClass own = some m.cls) (hcls : Bundle.fit cls = true) (hnames : ∀ n ∈ names, Bundle.fit n = true)
    (hk : (Cond.classLink own ik cls).before args s = true) (hini : (Cond.initialized cls).before args s = true) (hat : ∀ w ∈ vx_at0 own ic cls names, w.before args s = true)
    (hgood : ∀ w ∈ Cond.classLink own ik cls :: Cond.initialized cls :: vx_at0 own ic cls names, vx_ot w = true)
    (hU : vx_Zq Bundle.tN "UNASSIGNED_STACK" Bundle.steD A s s.heap) (hN : vx_Zq Bundle.tN "SUPPRESSED_SENTINEL" Bundle.listD A s s.heap) (hS : va_S A s.heap H locs) (hsize : ls.size = c.maxLocals)
    (d0 : decode cc pc = .ok (.new ik, 3)) (d3 : decode cc (pc + 3) = .ok (.dup, 1)) (d4 : decode cc (pc + 4) = .ok (.invokespecial ic, 3)) (d7 : decode cc (pc + 7) = .ok (.athrow, 1))
    (hout : ∀ x ∈ c.exceptionTable.toList, covers x (pc + 7) = false)
    (hRframes : names.length + 3 < R.frames) (hRlocals : (rest.map fun v => v.category).sum + (13 * (names.length + 1) + 42) ≤ R.locals) (hRcells : cells + 1 ≤ R.cells) (hRslots : slots + 6 ≤ R.slots) (hlocks : meth.locks = false)
    (hx : ∀ t : State, s.vm.Alike t.vm → H.size ≤ t.heap.size → (∀ q : Nat, q < H.size → t.heap[q]? = H[q]?) → XC cls s t)
    (hf : ∀ z ∈ locs, free z.base) (hc : cells + 1 ≤ mc) (hs : slots + 6 ≤ ms) :
    W p l e R s m args below meth c H locs cells slots (vx_MQ below Qc XC args s mc ms free) (F0 m pc ls rest) := by
  intro T hT X
  have htr : e.platform.stackTraces = false := (show e.platform.stackTraces = l.stackTraces by rw [X.admits.platform]).trans hl
  have Y := vx_rebase X (R' := { frames := R.frames, locals := R.locals, cells := 1, slots := 6 }) (Nat.le_refl _) (Nat.le_refl _) hRcells hRslots
  obtain ⟨s', hA⟩ : ∃ z, z = (T.setVm s.vm).setFrames (.invoking m args :: below) := ⟨_, rfl⟩
  rw [← hA] at Y
  have hvm : s'.vm = s.vm := by rw [hA]; rfl
  have hhp : s'.heap = H := by rw [hA]; exact hT
  have hW0 : s.WarmedH s'.vm := by rw [hvm]; exact State.WarmedH.refl s
  have hat' : ∀ w ∈ vx_at0 own ic cls names, w.before args s' = true := fun w hw => vx_ot_at hW0 hvm.symm (hgood w (List.mem_cons_of_mem _ (List.mem_cons_of_mem _ hw))) (hat w hw)
  have hk' : (Cond.classLink own ik cls).before args s' = true := vx_ot_at hW0 hvm.symm (hgood _ List.mem_cons_self) hk
  have hini' : (Cond.initialized cls).before args s' = true := vx_ot_at hW0 hvm.symm (hgood _ (List.mem_cons_of_mem _ List.mem_cons_self)) hini
  have hU' : vx_Zq Bundle.tN "UNASSIGNED_STACK" Bundle.steD A s' s'.heap := by rw [hhp]; exact vx_Zq.moved hW0.alike (hU.kept hS.2.1)
  have hN' : vx_Zq Bundle.tN "SUPPRESSED_SENTINEL" Bundle.listD A s' s'.heap := by rw [hhp]; exact vx_Zq.moved hW0.alike (hN.kept hS.2.1)
  have h : ∀ w ∈ Bundle.ownAtoms0 own ic cls names, w.before args s' = true := vx_own hat' (vx_isRefq hU'.1) (vx_isRefq hN'.1) hU'.2.word hN'.2.word
  have hown' : s'.vm.findClass own = some m.cls := by rw [hvm]; exact hown
  have hins : (Cond.instantiable cls 6).before args s' = true := h _ (by simp [Bundle.ownAtoms0])
  obtain ⟨vm₁, cX, kX, hfX, hkX, -, -, X₁, st1⟩ := Y.newCold hexec (own := own) (C := cls) (index := ik) (n := 6) hown' hk' hins hini'
    (g := F0 m pc ls rest) rfl (by rw [hb]; exact d0) (Nat.le_refl _) (Nat.le_refl _)
  generalize hT1 : (T.setVm vm₁).pushCell { cls := cX, slots := kX.instanceTypes.map defaultValue, vm := .none } = T1 at X₁ st1
  have hcat : (Value.ref T.heap.size).category = 1 := rfl
  have hcellA : T1.heap[T.heap.size]? = some (freshCell cX kX) := by rw [← hT1]; exact State.heap_pushCell_size _ _
  have d3' : decode c.code (pc + 3) = .ok (.dup, 1) := by rw [hb]; exact d3
  obtain ⟨U, hsteps, hrun, hend, hW, hsame, ce, hce, hO⟩ := X₁.ctorThrow0 hexec htr (own := own) (cls := cls) (names := names) (ic := ic) hown' hcls hnames h (fun x hx => nomatch hx) hfX hkX hcellA (by rw [hhp, hT]; exact Nat.le_refl _)
    (g := { method := m, pc := pc + 4, locals := ls, stack := .ref T.heap.size :: .ref T.heap.size :: rest, locked := none }) rfl hsize rfl rfl (rest := rest) rfl
    (by rw [hb]; exact d4) (by rw [hb]; exact d7) hout hRframes (by simp only [List.map_cons, List.sum_cons, hcat]; omega) hlocks
  obtain ⟨f1, f2⟩ := vx_frame hsame
  rw [hhp] at f1 f2
  have hWs : s.WarmedH U.vm := State.WarmedH.trans hW0 hW
  have hcl : s.vm.findClass cls = some ce.cls := by
    have h9 := hO.cls
    rw [hvm] at h9
    exact h9
  have hall : s.sameButNew ({ U with vm := s.vm } : State) locs mc ms := by
    subst hA
    obtain ⟨e1, e2⟩ := hsame
    rw [State.setFrames_setFrames] at e1
    have h2 : (T.setVm s.vm).sameButNew ({ U with vm := s.vm } : State) [] (0 + 1) (0 + 6) := ⟨e1, e2⟩
    have h3 := X.same.trans h2
    rw [List.append_nil] at h3
    exact h3.mono hc hs
  refine ⟨U, ?_, .threw T.heap.size, hrun, hend, Or.inr ⟨T.heap.size, rfl, cls, ce, locs, hx U hWs.alike f1 (fun q hq => f2 q hq (fun z hz => nomatch hz)), hce, hO.vm, hcl, hWs, hall, hf⟩⟩
  refine st1 _ ?_
  show Steps p.tables e below (T1.setTop { method := m, pc := pc + 3, locals := ls, stack := .ref T.heap.size :: rest, locked := none }) _
  jvm_step X₁.here [X₁.here.top, hexec, d3', Value.category]
  exact hsteps
/-- 'throw new E("text")': new; dup; ldc; invokespecial; athrow -/
theorem vx_throwS {cc : ByteArray} {pc : Nat} (hexec : p.tables.exec = Jvm.exec) (hb : c.code = cc) (hl : l.stackTraces = false) {own cls text : String} {names : List String} {ik is ic mc ms sa : Nat} {A : Nat → Prop}
    (hown : s.vm.findClass own = some m.cls) (hcls : Bundle.fit cls = true) (hnames : ∀ n ∈ names, Bundle.fit n = true)
    (hk : (Cond.classLink own ik cls).before args s = true) (hini : (Cond.initialized cls).before args s = true) (hstr : vk_R own is text sa s) (hat : ∀ w ∈ vx_atS own ic cls names, w.before args s = true)
    (hgood : ∀ w ∈ Cond.classLink own ik cls :: Cond.initialized cls :: vx_atS own ic cls names, vx_ot w = true)
    (hU : vx_Zq Bundle.tN "UNASSIGNED_STACK" Bundle.steD A s s.heap) (hN : vx_Zq Bundle.tN "SUPPRESSED_SENTINEL" Bundle.listD A s s.heap) (hS : va_S A s.heap H locs) (hsize : ls.size = c.maxLocals)
    (d0 : decode cc pc = .ok (.new ik, 3)) (d3 : decode cc (pc + 3) = .ok (.dup, 1)) (d4 : decode cc (pc + 4) = .ok (.ldc is, 2)) (d6 : decode cc (pc + 6) = .ok (.invokespecial ic, 3)) (d9 : decode cc (pc + 9) = .ok (.athrow, 1))
    (hout : ∀ x ∈ c.exceptionTable.toList, covers x (pc + 9) = false)
    (hRframes : names.length + 3 < R.frames) (hRlocals : (rest.map fun v => v.category).sum + (13 * (names.length + 1) + 43) ≤ R.locals) (hRcells : cells + 1 ≤ R.cells) (hRslots : slots + 6 ≤ R.slots) (hlocks : meth.locks = false)
    (hx : ∀ t : State, s.vm.Alike t.vm → H.size ≤ t.heap.size → (∀ q : Nat, q < H.size → t.heap[q]? = H[q]?) → XC cls s t)
    (hf : ∀ z ∈ locs, free z.base) (hc : cells + 1 ≤ mc) (hs : slots + 6 ≤ ms) :
    W p l e R s m args below meth c H locs cells slots (vx_MQ below Qc XC args s mc ms free) (F0 m pc ls rest) := by
  intro T hT X
  have htr : e.platform.stackTraces = false := (show e.platform.stackTraces = l.stackTraces by rw [X.admits.platform]).trans hl
  have Y := vx_rebase X (R' := { frames := R.frames, locals := R.locals, cells := 1, slots := 6 }) (Nat.le_refl _) (Nat.le_refl _) hRcells hRslots
  obtain ⟨s', hA⟩ : ∃ z, z = (T.setVm s.vm).setFrames (.invoking m args :: below) := ⟨_, rfl⟩
  rw [← hA] at Y
  have hvm : s'.vm = s.vm := by rw [hA]; rfl
  have hhp : s'.heap = H := by rw [hA]; exact hT
  have hW0 : s.WarmedH s'.vm := by rw [hvm]; exact State.WarmedH.refl s
  have hat' : ∀ w ∈ vx_atS own ic cls names, w.before args s' = true := fun w hw => vx_ot_at hW0 hvm.symm (hgood w (List.mem_cons_of_mem _ (List.mem_cons_of_mem _ hw))) (hat w hw)
  have hk' : (Cond.classLink own ik cls).before args s' = true := vx_ot_at hW0 hvm.symm (hgood _ List.mem_cons_self) hk
  have hini' : (Cond.initialized cls).before args s' = true := vx_ot_at hW0 hvm.symm (hgood _ (List.mem_cons_of_mem _ List.mem_cons_self)) hini
  have hU' : vx_Zq Bundle.tN "UNASSIGNED_STACK" Bundle.steD A s' s'.heap := by rw [hhp]; exact vx_Zq.moved hW0.alike (hU.kept hS.2.1)
  have hN' : vx_Zq Bundle.tN "SUPPRESSED_SENTINEL" Bundle.listD A s' s'.heap := by rw [hhp]; exact vx_Zq.moved hW0.alike (hN.kept hS.2.1)
  have h : ∀ w ∈ Bundle.ownAtoms own ic cls names, w.before args s' = true := vx_own hat' (vx_isRefq hU'.1) (vx_isRefq hN'.1) hU'.2.word hN'.2.word
  have hown' : s'.vm.findClass own = some m.cls := by rw [hvm]; exact hown
  have hins : (Cond.instantiable cls 6).before args s' = true := h _ (by simp [Bundle.ownAtoms])
  obtain ⟨vm₁, cX, kX, hfX, hkX, -, -, X₁, st1⟩ := Y.newCold hexec (own := own) (C := cls) (index := ik) (n := 6) hown' hk' hins hini'
    (g := F0 m pc ls rest) rfl (by rw [hb]; exact d0) (Nat.le_refl _) (Nat.le_refl _)
  generalize hT1 : (T.setVm vm₁).pushCell { cls := cX, slots := kX.instanceTypes.map defaultValue, vm := .none } = T1 at X₁ st1
  have hcat : (Value.ref T.heap.size).category = 1 := rfl
  have hcellA : T1.heap[T.heap.size]? = some (freshCell cX kX) := by rw [← hT1]; exact State.heap_pushCell_size _ _
  have d3' : decode c.code (pc + 3) = .ok (.dup, 1) := by rw [hb]; exact d3
  have d4' : decode c.code (pc + 4) = .ok (.ldc is, 2) := by rw [hb]; exact d4
  have hstr' : vk_R own is text sa s' := vk_R.warm hW0 hstr
  obtain ⟨U, hsteps, hrun, hend, hW, hsame, ce, hce, hO⟩ := X₁.ctorThrowS hexec htr (own := own) (cls := cls) (names := names) (ic := ic) hown' hcls hnames h (fun x hx => nomatch hx) hfX hkX hcellA (by rw [hhp, hT]; exact Nat.le_refl _) (msg := .ref sa) rfl
    (g := { method := m, pc := pc + 6, locals := ls, stack := .ref sa :: .ref T.heap.size :: .ref T.heap.size :: rest, locked := none }) rfl hsize rfl rfl (rest := rest) rfl
    (by rw [hb]; exact d6) (by rw [hb]; exact d9) hout hRframes (by simp only [List.map_cons, List.sum_cons, hcat]; omega) hlocks
  obtain ⟨f1, f2⟩ := vx_frame hsame
  rw [hhp] at f1 f2
  have hWs : s.WarmedH U.vm := State.WarmedH.trans hW0 hW
  have hcl : s.vm.findClass cls = some ce.cls := by
    have h9 := hO.cls
    rw [hvm] at h9
    exact h9
  have hall : s.sameButNew ({ U with vm := s.vm } : State) locs mc ms := by
    subst hA
    obtain ⟨e1, e2⟩ := hsame
    rw [State.setFrames_setFrames] at e1
    have h2 : (T.setVm s.vm).sameButNew ({ U with vm := s.vm } : State) [] (0 + 1) (0 + 6) := ⟨e1, e2⟩
    have h3 := X.same.trans h2
    rw [List.append_nil] at h3
    exact h3.mono hc hs
  refine ⟨U, ?_, .threw T.heap.size, hrun, hend, Or.inr ⟨T.heap.size, rfl, cls, ce, locs, hx U hWs.alike f1 (fun q hq => f2 q hq (fun z hz => nomatch hz)), hce, hO.vm, hcl, hWs, hall, hf⟩⟩
  refine st1 _ ?_
  show Steps p.tables e below (T1.setTop { method := m, pc := pc + 3, locals := ls, stack := .ref T.heap.size :: rest, locked := none }) _
  jvm_step X₁.here [X₁.here.top, hexec, d3', Value.category]
  exact X₁.ldcString hexec (own := own) (text := text) (index := is) (a := sa) hown' hstr'.1 hstr'.2
    (g := { method := m, pc := pc + 4, locals := ls, stack := .ref T.heap.size :: .ref T.heap.size :: rest, locked := none }) rfl d4' _ hsteps
/-- 'throw new E("text")', the text by a wide index -/
theorem vx_throwSW {cc : ByteArray} {pc : Nat} (hexec : p.tables.exec = Jvm.exec) (hb : c.code = cc) (hl : l.stackTraces = false) {own cls text : String} {names : List String} {ik is ic mc ms sa : Nat} {A : Nat → Prop}
    (hown : s.vm.findClass own = some m.cls) (hcls : Bundle.fit cls = true) (hnames : ∀ n ∈ names, Bundle.fit n = true)
    (hk : (Cond.classLink own ik cls).before args s = true) (hini : (Cond.initialized cls).before args s = true) (hstr : vk_R own is text sa s) (hat : ∀ w ∈ vx_atS own ic cls names, w.before args s = true)
    (hgood : ∀ w ∈ Cond.classLink own ik cls :: Cond.initialized cls :: vx_atS own ic cls names, vx_ot w = true)
    (hU : vx_Zq Bundle.tN "UNASSIGNED_STACK" Bundle.steD A s s.heap) (hN : vx_Zq Bundle.tN "SUPPRESSED_SENTINEL" Bundle.listD A s s.heap) (hS : va_S A s.heap H locs) (hsize : ls.size = c.maxLocals)
    (d0 : decode cc pc = .ok (.new ik, 3)) (d3 : decode cc (pc + 3) = .ok (.dup, 1)) (d4 : decode cc (pc + 4) = .ok (.ldc_w is, 3)) (d7 : decode cc (pc + 7) = .ok (.invokespecial ic, 3)) (d10 : decode cc (pc + 10) = .ok (.athrow, 1))
    (hout : ∀ x ∈ c.exceptionTable.toList, covers x (pc + 10) = false)
    (hRframes : names.length + 3 < R.frames) (hRlocals : (rest.map fun v => v.category).sum + (13 * (names.length + 1) + 43) ≤ R.locals) (hRcells : cells + 1 ≤ R.cells) (hRslots : slots + 6 ≤ R.slots) (hlocks : meth.locks = false)
    (hx : ∀ t : State, s.vm.Alike t.vm → H.size ≤ t.heap.size → (∀ q : Nat, q < H.size → t.heap[q]? = H[q]?) → XC cls s t)
    (hf : ∀ z ∈ locs, free z.base) (hc : cells + 1 ≤ mc) (hs : slots + 6 ≤ ms) :
    W p l e R s m args below meth c H locs cells slots (vx_MQ below Qc XC args s mc ms free) (F0 m pc ls rest) := by
  intro T hT X
  have htr : e.platform.stackTraces = false := (show e.platform.stackTraces = l.stackTraces by rw [X.admits.platform]).trans hl
  have Y := vx_rebase X (R' := { frames := R.frames, locals := R.locals, cells := 1, slots := 6 }) (Nat.le_refl _) (Nat.le_refl _) hRcells hRslots
  obtain ⟨s', hA⟩ : ∃ z, z = (T.setVm s.vm).setFrames (.invoking m args :: below) := ⟨_, rfl⟩
  rw [← hA] at Y
  have hvm : s'.vm = s.vm := by rw [hA]; rfl
  have hhp : s'.heap = H := by rw [hA]; exact hT
  have hW0 : s.WarmedH s'.vm := by rw [hvm]; exact State.WarmedH.refl s
  have hat' : ∀ w ∈ vx_atS own ic cls names, w.before args s' = true := fun w hw => vx_ot_at hW0 hvm.symm (hgood w (List.mem_cons_of_mem _ (List.mem_cons_of_mem _ hw))) (hat w hw)
  have hk' : (Cond.classLink own ik cls).before args s' = true := vx_ot_at hW0 hvm.symm (hgood _ List.mem_cons_self) hk
  have hini' : (Cond.initialized cls).before args s' = true := vx_ot_at hW0 hvm.symm (hgood _ (List.mem_cons_of_mem _ List.mem_cons_self)) hini
  have hU' : vx_Zq Bundle.tN "UNASSIGNED_STACK" Bundle.steD A s' s'.heap := by rw [hhp]; exact vx_Zq.moved hW0.alike (hU.kept hS.2.1)
  have hN' : vx_Zq Bundle.tN "SUPPRESSED_SENTINEL" Bundle.listD A s' s'.heap := by rw [hhp]; exact vx_Zq.moved hW0.alike (hN.kept hS.2.1)
  have h : ∀ w ∈ Bundle.ownAtoms own ic cls names, w.before args s' = true := vx_own hat' (vx_isRefq hU'.1) (vx_isRefq hN'.1) hU'.2.word hN'.2.word
  have hown' : s'.vm.findClass own = some m.cls := by rw [hvm]; exact hown
  have hins : (Cond.instantiable cls 6).before args s' = true := h _ (by simp [Bundle.ownAtoms])
  obtain ⟨vm₁, cX, kX, hfX, hkX, -, -, X₁, st1⟩ := Y.newCold hexec (own := own) (C := cls) (index := ik) (n := 6) hown' hk' hins hini'
    (g := F0 m pc ls rest) rfl (by rw [hb]; exact d0) (Nat.le_refl _) (Nat.le_refl _)
  generalize hT1 : (T.setVm vm₁).pushCell { cls := cX, slots := kX.instanceTypes.map defaultValue, vm := .none } = T1 at X₁ st1
  have hcat : (Value.ref T.heap.size).category = 1 := rfl
  have hcellA : T1.heap[T.heap.size]? = some (freshCell cX kX) := by rw [← hT1]; exact State.heap_pushCell_size _ _
  have d3' : decode c.code (pc + 3) = .ok (.dup, 1) := by rw [hb]; exact d3
  have d4' : decode c.code (pc + 4) = .ok (.ldc_w is, 3) := by rw [hb]; exact d4
  have hstr' : vk_R own is text sa s' := vk_R.warm hW0 hstr
  obtain ⟨U, hsteps, hrun, hend, hW, hsame, ce, hce, hO⟩ := X₁.ctorThrowS hexec htr (own := own) (cls := cls) (names := names) (ic := ic) hown' hcls hnames h (fun x hx => nomatch hx) hfX hkX hcellA (by rw [hhp, hT]; exact Nat.le_refl _) (msg := .ref sa) rfl
    (g := { method := m, pc := pc + 7, locals := ls, stack := .ref sa :: .ref T.heap.size :: .ref T.heap.size :: rest, locked := none }) rfl hsize rfl rfl (rest := rest) rfl
    (by rw [hb]; exact d7) (by rw [hb]; exact d10) hout hRframes (by simp only [List.map_cons, List.sum_cons, hcat]; omega) hlocks
  obtain ⟨f1, f2⟩ := vx_frame hsame
  rw [hhp] at f1 f2
  have hWs : s.WarmedH U.vm := State.WarmedH.trans hW0 hW
  have hcl : s.vm.findClass cls = some ce.cls := by
    have h9 := hO.cls
    rw [hvm] at h9
    exact h9
  have hall : s.sameButNew ({ U with vm := s.vm } : State) locs mc ms := by
    subst hA
    obtain ⟨e1, e2⟩ := hsame
    rw [State.setFrames_setFrames] at e1
    have h2 : (T.setVm s.vm).sameButNew ({ U with vm := s.vm } : State) [] (0 + 1) (0 + 6) := ⟨e1, e2⟩
    have h3 := X.same.trans h2
    rw [List.append_nil] at h3
    exact h3.mono hc hs
  refine ⟨U, ?_, .threw T.heap.size, hrun, hend, Or.inr ⟨T.heap.size, rfl, cls, ce, locs, hx U hWs.alike f1 (fun q hq => f2 q hq (fun z hz => nomatch hz)), hce, hO.vm, hcl, hWs, hall, hf⟩⟩
  refine st1 _ ?_
  show Steps p.tables e below (T1.setTop { method := m, pc := pc + 3, locals := ls, stack := .ref T.heap.size :: rest, locked := none }) _
  jvm_step X₁.here [X₁.here.top, hexec, d3', Value.category]
  exact X₁.ldcStringW hexec (own := own) (text := text) (index := is) (a := sa) hown' hstr'.1 hstr'.2
    (g := { method := m, pc := pc + 4, locals := ls, stack := .ref T.heap.size :: .ref T.heap.size :: rest, locked := none }) rfl d4' _ hsteps
end Ends
section Bodies
variable {l : Launch}
theorem vx_ofW {y : MethodName} {ws ws' : List Cond} {rm : Room} {Pc : Array Value → State → Prop} {Qc : Array Value → State → Outcome → State → Prop} {XC : String → State → State → Prop} {mc ms : Nat} {free : Addr → Prop} {cc : ByteArray} {maxL : Nat} {ret : Option FieldType}
    (hy : plainName y.cls = true) (hw : ws = Cond.code y cc maxL ret :: ws')
    (body : ∀ p e s m args below meth c s₁, BodyLoose p l y (headSpec ws rm) cc maxL ret e s m args below meth c s₁ → c.maxLocals = maxL → (∀ x ∈ c.exceptionTable.toList, False) → Pc args s →
      W p l e (headSpec ws rm).room s m args below meth c s.heap [] 0 0 (vx_MQ below Qc XC args s mc ms free) (entryFrame m args maxL)) : vx_Met l y ws rm Pc Qc XC mc ms free := by
  refine MetFree.of_bodyS (code := cc) (maxLocals := maxL) (ret := ret) hy ?_ ?_
  · intro args s m h hn
    obtain ⟨meth, c, h1, h2, h3, h4, h5, h6, -, -⟩ := Cond.code_spec hn (atoms_spec (ws := ws) h _ (by rw [hw]; exact List.mem_cons_self))
    exact ⟨meth, c, h1, h2, h3, h4, h5, h6⟩
  · intro p e s m args below meth c s₁ B hml hP _
    have hh0 : s₁.heap = s.heap := by rw [B.state]; rfl
    have ht : ∀ x ∈ c.exceptionTable.toList, False := by
      obtain ⟨meth9, c9, h1, h2, -, -, -, -, h7, -⟩ := Cond.code_spec B.named (atoms_spec (ws := ws) B.pre _ (by rw [hw]; exact List.mem_cons_self))
      cases Option.some.inj (h1.symm.trans B.method)
      cases Option.some.inj (h2.symm.trans (Stand.of_body B).code)
      intro x hx
      rw [Array.isEmpty_iff.mp h7] at hx
      cases hx
    obtain ⟨t, a1, o, b1, b2, b3⟩ := body p e s m args below meth c s₁ B hml ht hP s₁ hh0 (Stand.of_body B)
    exact ⟨t, o, a1, b1, b2, b3⟩
/-- the table of a body with handlers -/
theorem vx_table {p : Program} {x y : MethodName} {S : Spec} {cc bytes : ByteArray} {maxL maxL' : Nat} {ret ret' : Option FieldType} {e : Env} {s s₁ : State} {m : MethodId} {args : Array Value} {below : List Frame} {meth : Method} {c : Code} {hh : List (Nat × Nat × Nat × Nat)}
    (B : BodyLoose p l y S cc maxL ret e s m args below meth c s₁) (h : (Cond.codeWith y bytes maxL' ret' hh).before args s = true) : c.exceptionTable.toList = tableOf hh := by
  obtain ⟨m9, meth9, c9, hn9, h1, h2, -, -, h6, -⟩ := Cond.codeWith_spec h
  cases Option.some.inj (hn9.symm.trans B.named)
  cases Option.some.inj (h1.symm.trans B.method)
  cases Option.some.inj (h2.symm.trans (Stand.of_body B).code)
  rw [← h6, table_eq]
end Bodies
end VXA
/-! ===== END ===== -/
/-! ===== BEGIN a static call of a method with an exception table ===== -/
section VXS
variable {p : Program} {l : Launch} {e : Env} {R : Room} {s : State} {m : MethodId} {args : Array Value} {below : List Frame} {meth : Method} {c : Code} {T : State} {H : Heap} {locs : List Loc} {cells slots : Nat}
abbrev vx_CSW (R : Room) (s : State) (args : Array Value) (own : String) (index : Nat) (y : MethodName) (bytes : ByteArray) (maxL : Nat) (ret : Option FieldType) (hh : List (Nat × Nat × Nat × Nat)) (ws : List Cond) (rm : Room) (mc ms n : Nat) : Prop :=
  (rm.cells = mc ∧ rm.slots = ms ∧ rm.frames + 1 ≤ R.frames ∧ 8 + (maxL + 11) + rm.locals ≤ R.locals ∧ (∀ w ∈ ws, ∀ (a' : Array Value) (U : State), s.WarmedH U.vm → w.before a' U = true) ∧ Cond.codeWith y bytes maxL ret hh ∈ ws) ∧
  (Cond.codeWith y bytes maxL ret hh).before args s = true ∧ (Cond.initialized y.cls).before args s = true ∧ (y.cls ≠ "java/lang/invoke/MethodHandle" ∧ y.cls ≠ "java/lang/invoke/VarHandle") ∧
  (∀ sig, parseMethodDescriptor y.desc = some sig → n = sig.parameters.length) ∧ (Cond.methodLink own index y).before args s = true ∧ (Cond.static y).before args s = true
theorem vx_cwSW {own : String} {index maxL mc ms : Nat} {y : MethodName} {bytes : ByteArray} {ret : Option FieldType} {hh : List (Nat × Nat × Nat × Nat)} {Ts ws ws' : List Cond} {rm : Room} (n : Nat) (ht : ∀ w ∈ Ts, w.before args s = true) (hT : GoodIn Ts (va_wsS own index y ws)) (hw : ws = Cond.codeWith y bytes maxL ret hh :: ws') (hrc : rm.cells = mc) (hrs : rm.slots = ms)
    (hd : y.cls ≠ "java/lang/invoke/MethodHandle" ∧ y.cls ≠ "java/lang/invoke/VarHandle" ∧ (parseMethodDescriptor y.desc).map (fun d => d.parameters.length) = some n) (hR : rm.frames + 1 ≤ R.frames ∧ 8 + (maxL + 11) + rm.locals ≤ R.locals) :
    vx_CSW R s args own index y bytes maxL ret hh ws rm mc ms n := by
  have ok : ∀ w ∈ va_wsS own index y ws, w.before args s = true := fun w h => ht w (hT w h).1
  have hG : GoodIn Ts ws := fun w h => hT w (by unfold va_wsS; exact List.mem_append_right _ h)
  have hc : Cond.codeWith y bytes maxL ret hh ∈ ws := by rw [hw]; exact List.mem_cons_self
  refine ⟨⟨hrc, hrs, hR.1, hR.2, pay_in ht hG, hc⟩, ht _ (hG _ hc).1, ok _ (by simp [va_wsS]), ⟨hd.1, hd.2.1⟩, fun sig h => ?_, ok _ (by simp [va_wsS]), ok _ (by simp [va_wsS])⟩
  have h2 := hd.2.2
  rw [h] at h2
  exact (Option.some.inj h2).symm
theorem vx_callSW (X : Stand p l e R s m args below meth c T locs cells slots) (hexec : p.tables.exec = Jvm.exec) {own : String} {index : Nat} {y : MethodName} {bytes : ByteArray} {maxL : Nat} {ret : Option FieldType} {hh : List (Nat × Nat × Nat × Nat)}
    (hown : s.vm.findClass own = some m.cls) (hlink : (Cond.methodLink own index y).before args s = true) (hstat : (Cond.static y).before args s = true) (hinit : (Cond.initialized y.cls).before args s = true)
    (hcode : (Cond.codeWith y bytes maxL ret hh).before args s = true) (hy : y.cls ≠ "java/lang/invoke/MethodHandle" ∧ y.cls ≠ "java/lang/invoke/VarHandle")
    {W9 : Nat} {Pre : Pt → Array Value → Prop} {Post : Pt → Array Value → Option Value → Pt → Prop} (hK : Back l R p e below s args y 3 W9 Pre Post)
    {g : JFrame} (hg : g.method = m) (hsize : g.locals.size = c.maxLocals) {argsL rest : List Value} (hlen : ∀ sig, parseMethodDescriptor y.desc = some sig → argsL.length = sig.parameters.length)
    (hstack : g.stack = argsL.reverse ++ rest) (hW : 2 * g.monitorRoom + (rest.map fun v => v.category).sum ≤ W9) (hdg : decode c.code g.pc = .ok (.invokestatic index, 3))
    (hpre : ∀ vm₁, s.WarmedH vm₁ → Pre ⟨T.setVm vm₁, locs, cells, slots⟩ argsL.toArray) :
    ∃ (v : Option Value) (vm₁ : Vm) (B : Pt), s.WarmedH vm₁ ∧ Stand p l e R s m args below meth c B.U B.locs B.cells B.slots ∧ Post ⟨T.setVm vm₁, locs, cells, slots⟩ argsL.toArray v B ∧
      ∀ target, Steps p.tables e below (B.U.setTop { g with pc := g.pc + 3, stack := v.toList ++ rest }) target → Steps p.tables e below (T.setTop g) target := by
  obtain ⟨mk, methM, cM, hnamed, hmethM, -, -, -, -, -, -, hsigM⟩ := Cond.codeWith_spec hcode
  have hstatic : methM.isStatic = true := Cond.static_spec hnamed hmethM hstat
  obtain ⟨kP, hkP, -⟩ := className_of_methodNamed hnamed
  have hinitP : kP.init = .initialized := Cond.initialized_spec (findClass_of_methodNamed hnamed) hkP hinit
  obtain ⟨vm₁, X₁, hstep₁⟩ := X.invokestatic hexec hown hlink hnamed hmethM hstatic hkP hinitP hy (g := g) hg (argsL := argsL) (rest := rest) (hlen _ hsigM) hstack hdg
  obtain ⟨v, B, X', hpost, hsteps⟩ := hK m meth c ⟨T.setVm vm₁, locs, cells, slots⟩ { g with stack := rest } (.invokestatic index) mk argsL.toArray X₁ hg hsize hdg hW (X₁.named hnamed) (hpre vm₁ X₁.warmed)
  exact ⟨v, vm₁, B, X₁.warmed, X', hpost, fun target h => hstep₁ _ fun acts => by rw [doInvoke_state]; exact hsteps.trans h⟩
theorem vx_runSW {y : MethodName} {bytes cc : ByteArray} {maxL nL mc ms n index : Nat} {ret : Option FieldType} {hh : List (Nat × Nat × Nat × Nat)} {ws : List Cond} {rm : Room} {Pc : Array Value → State → Prop} {Qc : Array Value → State → Outcome → State → Prop} {free : Addr → Prop} {Ts : List Cond} {own : String} {As rest : List Value} {g : JFrame}
    (S : CallFix p m c cc nL s args Ts own) (hM : Met l y ws rm Pc Qc mc ms free) (cw : vx_CSW R s args own index y bytes maxL ret hh ws rm mc ms n) (hp : PreS s H Pc As)
    (hg : g.method = m) (hn : As.length = n) (hsize : g.locals.size = nL) (hstack : g.stack = As.reverse ++ rest) (hW : 2 * g.monitorRoom + (rest.map fun v => v.category).sum ≤ 8) (hdg : decode cc g.pc = .ok (.invokestatic index, 3)) (hf : cells + mc ≤ R.cells ∧ slots + ms ≤ R.slots) :
    va_Run p l e R s m args below meth c H locs cells slots mc ms g rest (Qc As.toArray) (free) := by
  obtain ⟨⟨hrc, hrs, hfr, hlo, hws, hcw⟩, hcode, hini, hy, hlen, hl, hstt⟩ := cw
  have hK : Back l R p e below s args y 3 8 (PreOf R mc ms Pc) (PostOf Qc mc ms free) := va_backW (hh := hh) (bytes := bytes) (maxL := maxL) (ret := ret) hM hp.1 hrc hrs hfr hlo hws hcw (fun a' U hW => word_at hW (Or.inl (by first | rfl | simp [Cond.onTables, Cond.keeps, Cond.steady])) hini)
  obtain ⟨hx, hb, hml, ho, -⟩ := S
  intro T hT X
  obtain ⟨v, vm₁, ⟨U', l2, c2, s2⟩, hW₁, X', ⟨g', mk, t, L, e1, e2, hq, h1, hL, h2, h3⟩, st⟩ := vx_callSW X hx (hh := hh) (bytes := bytes) (maxL := maxL) (ret := ret) ho hl hstt hini hcode hy hK hg (hsize.trans hml.symm) (argsL := As) (rest := rest) (fun sig h => hn.trans (hlen sig h)) hstack hW (by rw [hb]; exact hdg)
    (fun vm₁ hW₁ => ⟨hf.1, hf.2, hp.2 (T.setVm vm₁) hT hW₁⟩)
  dsimp only [Pt.U, Pt.locs, Pt.cells, Pt.slots] at X' e1 e2 h1 h2 h3 st
  subst h1; subst h2; subst h3
  exact ⟨v, (T.setVm vm₁).calling g' mk As.toArray, t, U', L, hT, X', hL, e1, e2, hq, st⟩
/-- a thing of a world lies in the heap -/
theorem vx_lt {D : va_G} {cl : List vw_C} {ws : va_W} {H1 : Heap} (h : va_P D cl ws H1) {k : Nat} {q : Nat × va_E} (hk : ws[k]? = some q) : q.1 < H1.size := (h k q hk).lt
end VXS
/-! ===== END ===== -/
/-! ===== BEGIN methods with a table of their own: called by a name, returning or throwing ===== -/
section VXH
/-! vx_backW, vx_callVX, vx_callSX, vx_callVW, vx_runVW, vx_runVX, vx_runSX, vx_ofWH follow the same proofs as their sisters above (Free/Laws.lean, Shelf42/LK1.lean); vx_outP calls Shelf42/NT130.lean (outThrough). -/
section
variable {l : Launch} {R : Room} {p : Program} {e : Env} {below : List Frame} {s : State} {sargs : Array Value} {y : MethodName} {len W9 : Nat}
theorem vx_backW {ws : List Cond} {rm : Room} {Pc : Array Value → State → Prop} {Qc : Array Value → State → Outcome → State → Prop} {XC : String → State → State → Prop} {mc ms : Nat} {free : Addr → Prop} {bytes : ByteArray} {maxL : Nat} {ret : Option FieldType} {hh : List (Nat × Nat × Nat × Nat)}
    (hM : vx_Met l y ws rm Pc Qc XC mc ms free) (hblind : FrameBlind Pc) (hrc : rm.cells = mc) (hrs : rm.slots = ms)
    (hframes : rm.frames + 1 ≤ R.frames) (hlocals : W9 + (maxL + 11) + rm.locals ≤ R.locals)
    (hws : ∀ w ∈ ws, ∀ a' U, s.WarmedH U.vm → w.before a' U = true) (hcode : Cond.codeWith y bytes maxL ret hh ∈ ws) (hinit : ∀ a' U, s.WarmedH U.vm → (Cond.initialized y.cls).before a' U = true) :
    vx_Back l R p e below s sargs y len W9 (PreOf R mc ms Pc) (PostOf Qc mc ms free) (vx_Post XC mc ms free) := by
  intro m meth c A g ig mk a X hg hsize hdg hW hn hp
  have h1 : (headSpec ws rm).pre.before a A.U = true := atoms_intro fun w hw => hws w hw _ _ X.warmed
  have h2 : (Cond.codeWith y bytes maxL ret hh).before a A.U = true := hws _ hcode _ _ X.warmed
  have h3 : (Cond.initialized y.cls).before a A.U = true := hinit _ _ X.warmed
  have h4 : A.cells + (headSpec ws rm).room.cells ≤ R.cells := by rw [show (headSpec ws rm).room.cells = mc from hrc]; exact hp.1
  have h5 : A.slots + (headSpec ws rm).room.slots ≤ R.slots := by rw [show (headSpec ws rm).room.slots = ms from hrs]; exact hp.2.1
  have hPc : Pc a (A.U.calling g mk a) := hblind _ _ _ _ hp.2.2
  obtain ⟨U, Ls, c0, s0⟩ := A
  dsimp only [Pt.U, Pt.locs, Pt.cells, Pt.slots] at h1 h2 h3 h4 h5 X hn hPc ⊢
  obtain ⟨m9, methY, cY, hn9, hmY, hcY, -, hlY, -⟩ := Cond.codeWith_spec h2
  cases Option.some.inj (hn9.symm.trans hn)
  obtain ⟨kY, hkY, -⟩ := className_of_methodNamed hn
  have hinitY : kY.init = .initialized := Cond.initialized_spec (findClass_of_methodNamed hn) hkY h3
  have h : At U g.method c below := by rw [hg]; exact X.here
  have hlocals9 : W9 + (maxL + 11) + (headSpec ws rm).room.locals ≤ R.locals := hlocals
  have happ : (headSpec ws rm).appliesLoose y e.platform (U.calling g mk a) = true :=
    Spec.appliesLoose_calling (g := g) h hdg hn hkY hinitY
      (X.room_calling (g := g) (R' := (headSpec ws rm).room) hsize hmY hcY hframes (by rw [hlY]; omega) h4 h5) h1
  obtain ⟨mid, hmid⟩ := h.above
  have hfr : (U.setTop g).frames = (.java g :: mid) ++ below := by rw [State.frames_setTop' g h.top, hmid]; rfl
  obtain ⟨o, s₂, hsteps, -, hend, hq⟩ := Steps.callFree hM p X.admits X.cas X.clock (acts := []) hfr happ hPc trivial
  have hq' : vx_Q Qc XC mc ms free a (U.calling g mk a) o s₂ := hq
  rw [State.frames_setTop' g h.top] at hend
  obtain ⟨g₀, hg0⟩ := Option.isSome_iff_exists.mp h.top
  obtain ⟨r, hr⟩ := State.topJava?_eq_some.mp hg0
  have hr' : (({ U with heap := s₂.heap, slotsUsed := s₂.slotsUsed } : State).setVm s₂.vm).frames = .java g₀ :: r := hr
  rcases hq' with ⟨hqc, L, hfe, hL⟩ | ⟨q, rfl, E, ce, L, hx, hce, hcv, hcl, hW₂, hsm, hL⟩
  · obtain ⟨⟨v, rfl⟩, hW₂, e2, q2, q3, q4, q5, q6⟩ := id hfe
    have e3 : s₂ = ({ (U.calling g mk a).setFrames s₂.frames with heap := s₂.heap, slotsUsed := s₂.slotsUsed } : State).setVm s₂.vm := by
      have : s₂ = ({ s₂ with vm := (U.calling g mk a).vm } : State).setVm s₂.vm := rfl
      rw [e2] at this
      exact this
    obtain ⟨c₂, i₂, len₂, hc₂, hd₂, hf₂⟩ := hend
    have hW' : U.WarmedH s₂.vm := hW₂
    have hcc : c₂ = c := by
      have h1 : s₂.code? g.method = U.code? g.method := by
        rw [State.code?_eq, State.code?_eq, hW'.alike.method?]
      exact Option.some.inj (hc₂.symm.trans (h1.trans h.code))
    subst hcc
    have hlen : len₂ = len := by rw [hdg] at hd₂; cases hd₂; rfl
    subst hlen
    have hs₂ : s₂ = (({ U with heap := s₂.heap, slotsUsed := s₂.slotsUsed } : State).setVm s₂.vm).setTop { g with pc := g.pc + len₂, stack := v.toList ++ g.stack } := by
      refine e3.trans ?_
      rw [hf₂, State.calling_eq h.top, State.setFrames_setFrames, State.setTop_of_frames _ hr', hr]
      rfl
    have hsame : U.sameButNew ({ U with heap := s₂.heap, slotsUsed := s₂.slotsUsed } : State) L mc ms := by
      refine ⟨?_, q2, q3, q4, q5, q6⟩
      obtain ⟨t, ht, -⟩ := State.frames_cons hr
      show ({ U with heap := s₂.heap, slotsUsed := s₂.slotsUsed } : State) = { U.setFrames U.frames with heap := s₂.heap, slotsUsed := s₂.slotsUsed }
      rw [State.setFrames_self ht]
    subst hg
    refine Or.inl ⟨v, ⟨(({ U with heap := s₂.heap, slotsUsed := s₂.slotsUsed } : State).setVm s₂.vm), Ls ++ L, c0 + mc, s0 + ms⟩,
      ⟨X.admits, X.cas, X.clock, X.frames, X.room, X.hears, X.method, X.code, (X.here.setHeapUsed s₂.heap s₂.slotsUsed).setVm hW'.alike, X.tail, State.WarmedH.trans X.warmed hW', X.limits, X.bytes, X.same.trans (hsame.setVm s.vm)⟩,
      ⟨g, mk, s₂, L, rfl, rfl, hqc, rfl, hL, rfl, rfl⟩, ?_⟩
    show Steps p.tables e below _ ((({ U with heap := s₂.heap, slotsUsed := s₂.slotsUsed } : State).setVm s₂.vm).setTop { g with pc := g.pc + len₂, stack := v.toList ++ g.stack })
    rw [← hs₂]
    exact hsteps
  · obtain ⟨e2, q2, q3, q4, q5, q6⟩ := id hsm
    have e3 : s₂ = ({ (U.calling g mk a).setFrames s₂.frames with heap := s₂.heap, slotsUsed := s₂.slotsUsed } : State).setVm s₂.vm := by
      have : s₂ = ({ s₂ with vm := (U.calling g mk a).vm } : State).setVm s₂.vm := rfl
      rw [e2] at this
      exact this
    have hf₂ : s₂.frames = .throwing q :: .java g :: U.frames.tail := hend
    have hW' : U.WarmedH s₂.vm := hW₂
    have hs₂ : s₂ = ((({ U with heap := s₂.heap, slotsUsed := s₂.slotsUsed } : State).setVm s₂.vm).setTop g).pushFrame (.throwing q) := by
      refine e3.trans ?_
      rw [hf₂, State.calling_eq h.top, State.setFrames_setFrames, State.pushFrame, State.frames_setTop _ hr', State.setTop_of_frames _ hr', State.setFrames_setFrames, hr]
      rfl
    have hsame : U.sameButNew ({ U with heap := s₂.heap, slotsUsed := s₂.slotsUsed } : State) L mc ms := by
      refine ⟨?_, q2, q3, q4, q5, q6⟩
      obtain ⟨t, ht, -⟩ := State.frames_cons hr
      show ({ U with heap := s₂.heap, slotsUsed := s₂.slotsUsed } : State) = { U.setFrames U.frames with heap := s₂.heap, slotsUsed := s₂.slotsUsed }
      rw [State.setFrames_self ht]
    subst hg
    refine Or.inr ⟨q, ⟨(({ U with heap := s₂.heap, slotsUsed := s₂.slotsUsed } : State).setVm s₂.vm), Ls ++ L, c0 + mc, s0 + ms⟩,
      ⟨X.admits, X.cas, X.clock, X.frames, X.room, X.hears, X.method, X.code, (X.here.setHeapUsed s₂.heap s₂.slotsUsed).setVm hW'.alike, X.tail, State.WarmedH.trans X.warmed hW', X.limits, X.bytes, X.same.trans (hsame.setVm s.vm)⟩,
      ⟨g, mk, s₂, L, E, ce, rfl, rfl, hx, hce, hcv, hcl, rfl, hL, rfl, rfl⟩, ?_⟩
    show Steps p.tables e below _ (((({ U with heap := s₂.heap, slotsUsed := s₂.slotsUsed } : State).setVm s₂.vm).setTop g).pushFrame (.throwing q))
    rw [← hs₂]
    exact hsteps
end
variable {p : Program} {l : Launch} {e : Env} {R : Room} {s : State} {m : MethodId} {args : Array Value} {below : List Frame} {meth : Method} {c : Code} {T : State} {H : Heap} {locs : List Loc} {cells slots : Nat}
theorem vx_callVX (X : Stand p l e R s m args below meth c T locs cells slots) (hexec : p.tables.exec = Jvm.exec) {own C : String} {index : Nat} {y : MethodName} {bytes : ByteArray} {maxL : Nat} {ret : Option FieldType} {hh : List (Nat × Nat × Nat × Nat)}
    (hown : s.vm.findClass own = some m.cls) (hlink : (Cond.methodLink own index y).before args s = true) (hinst : (Cond.instanceMethod y).before args s = true) (hsel : (Cond.selects C y y).before args s = true)
    (hcode : (Cond.codeWith y bytes maxL ret hh).before args s = true) (hy : y.cls ≠ "java/lang/invoke/MethodHandle" ∧ y.cls ≠ "java/lang/invoke/VarHandle")
    {W9 : Nat} {Pre : Pt → Array Value → Prop} {Post : Pt → Array Value → Option Value → Pt → Prop} {PostX : Pt → Array Value → Addr → Pt → Prop} (hK : vx_Back l R p e below s args y 3 W9 Pre Post PostX)
    {b : Addr} {cellB : Cell} (hcell : T.heap[b]? = some cellB) (hobj : cellB.vm.isStatics = false) (hcls : s.vm.findClass C = some cellB.cls)
    {g : JFrame} (hg : g.method = m) (hsize : g.locals.size = c.maxLocals) {argsL rest : List Value} (hlen : ∀ sig, parseMethodDescriptor y.desc = some sig → argsL.length = sig.parameters.length)
    (hstack : g.stack = argsL.reverse ++ .ref b :: rest) (hW : 2 * g.monitorRoom + (rest.map fun v => v.category).sum ≤ W9) (hdg : decode c.code g.pc = .ok (.invokevirtual index, 3))
    (hpre : ∀ vm₁, s.WarmedH vm₁ → Pre ⟨T.setVm vm₁, locs, cells, slots⟩ (Value.ref b :: argsL).toArray) :
    (∃ (v : Option Value) (vm₁ : Vm) (B : Pt), s.WarmedH vm₁ ∧ Stand p l e R s m args below meth c B.U B.locs B.cells B.slots ∧ Post ⟨T.setVm vm₁, locs, cells, slots⟩ (Value.ref b :: argsL).toArray v B ∧
      ∀ target, Steps p.tables e below (B.U.setTop { g with pc := g.pc + 3, stack := v.toList ++ rest }) target → Steps p.tables e below (T.setTop g) target) ∨
    (∃ (q : Addr) (vm₁ : Vm) (B : Pt), s.WarmedH vm₁ ∧ Stand p l e R s m args below meth c B.U B.locs B.cells B.slots ∧ PostX ⟨T.setVm vm₁, locs, cells, slots⟩ (Value.ref b :: argsL).toArray q B ∧
      Steps p.tables e below (T.setTop g) ((B.U.setTop { g with stack := rest }).pushFrame (.throwing q))) := by
  obtain ⟨mk, methM, hnamed, hmethM, hstM, habM⟩ := Cond.instanceMethod_spec hinst
  obtain ⟨m8, methM', cM, hn8, hmethM', -, -, -, -, -, -, hsigM⟩ := Cond.codeWith_spec hcode
  cases Option.some.inj (hn8.symm.trans hnamed)
  cases hmethM.symm.trans hmethM'
  obtain ⟨c2, r2, m2, q1, q2, q3, q4, kP, hkP, hkPi⟩ := Cond.selects_spec hsel
  cases hcls.symm.trans q1
  cases (State.methodFound?_of_named hnamed hy).symm.trans q2
  cases hnamed.symm.trans q3
  have hselP : selectMethod e.platform s.vm cellB.cls mk = .method mk := by rw [Launch.admits_selectMethod X.admits]; exact q4
  obtain ⟨vm₁, X₁, hstep₁⟩ := X.invokevirtual hexec hown hlink hnamed hmethM hstM hkP hkPi hy (a := b) (cell := cellB) hcell
    (fun z h => by rw [h] at hobj; cases hobj) hselP hmethM habM hkP hkPi (g := g) hg (argsL := argsL) (rest := rest) (hlen _ hsigM) hstack hdg
  rcases hK m meth c ⟨T.setVm vm₁, locs, cells, slots⟩ { g with stack := rest } (.invokevirtual index) mk (Value.ref b :: argsL).toArray X₁ hg hsize hdg hW (X₁.named hnamed) (hpre vm₁ X₁.warmed) with ⟨v, B, X', hpost, hsteps⟩ | ⟨q, B, X', hpost, hsteps⟩
  · exact Or.inl ⟨v, vm₁, B, X₁.warmed, X', hpost, fun target h => hstep₁ _ fun acts => by rw [doInvoke_state]; exact hsteps.trans h⟩
  · exact Or.inr ⟨q, vm₁, B, X₁.warmed, X', hpost, hstep₁ _ fun acts => by rw [doInvoke_state]; exact hsteps⟩
theorem vx_callSX (X : Stand p l e R s m args below meth c T locs cells slots) (hexec : p.tables.exec = Jvm.exec) {own : String} {index : Nat} {y : MethodName} {bytes : ByteArray} {maxL : Nat} {ret : Option FieldType} {hh : List (Nat × Nat × Nat × Nat)}
    (hown : s.vm.findClass own = some m.cls) (hlink : (Cond.methodLink own index y).before args s = true) (hstat : (Cond.static y).before args s = true) (hinit : (Cond.initialized y.cls).before args s = true)
    (hcode : (Cond.codeWith y bytes maxL ret hh).before args s = true) (hy : y.cls ≠ "java/lang/invoke/MethodHandle" ∧ y.cls ≠ "java/lang/invoke/VarHandle")
    {W9 : Nat} {Pre : Pt → Array Value → Prop} {Post : Pt → Array Value → Option Value → Pt → Prop} {PostX : Pt → Array Value → Addr → Pt → Prop} (hK : vx_Back l R p e below s args y 3 W9 Pre Post PostX)
    {g : JFrame} (hg : g.method = m) (hsize : g.locals.size = c.maxLocals) {argsL rest : List Value} (hlen : ∀ sig, parseMethodDescriptor y.desc = some sig → argsL.length = sig.parameters.length)
    (hstack : g.stack = argsL.reverse ++ rest) (hW : 2 * g.monitorRoom + (rest.map fun v => v.category).sum ≤ W9) (hdg : decode c.code g.pc = .ok (.invokestatic index, 3))
    (hpre : ∀ vm₁, s.WarmedH vm₁ → Pre ⟨T.setVm vm₁, locs, cells, slots⟩ argsL.toArray) :
    (∃ (v : Option Value) (vm₁ : Vm) (B : Pt), s.WarmedH vm₁ ∧ Stand p l e R s m args below meth c B.U B.locs B.cells B.slots ∧ Post ⟨T.setVm vm₁, locs, cells, slots⟩ argsL.toArray v B ∧
      ∀ target, Steps p.tables e below (B.U.setTop { g with pc := g.pc + 3, stack := v.toList ++ rest }) target → Steps p.tables e below (T.setTop g) target) ∨
    (∃ (q : Addr) (vm₁ : Vm) (B : Pt), s.WarmedH vm₁ ∧ Stand p l e R s m args below meth c B.U B.locs B.cells B.slots ∧ PostX ⟨T.setVm vm₁, locs, cells, slots⟩ argsL.toArray q B ∧
      Steps p.tables e below (T.setTop g) ((B.U.setTop { g with stack := rest }).pushFrame (.throwing q))) := by
  obtain ⟨mk, methM, cM, hnamed, hmethM, -, -, -, -, -, -, hsigM⟩ := Cond.codeWith_spec hcode
  have hstatic : methM.isStatic = true := Cond.static_spec hnamed hmethM hstat
  obtain ⟨kP, hkP, -⟩ := className_of_methodNamed hnamed
  have hinitP : kP.init = .initialized := Cond.initialized_spec (findClass_of_methodNamed hnamed) hkP hinit
  obtain ⟨vm₁, X₁, hstep₁⟩ := X.invokestatic hexec hown hlink hnamed hmethM hstatic hkP hinitP hy (g := g) hg (argsL := argsL) (rest := rest) (hlen _ hsigM) hstack hdg
  rcases hK m meth c ⟨T.setVm vm₁, locs, cells, slots⟩ { g with stack := rest } (.invokestatic index) mk argsL.toArray X₁ hg hsize hdg hW (X₁.named hnamed) (hpre vm₁ X₁.warmed) with ⟨v, B, X', hpost, hsteps⟩ | ⟨q, B, X', hpost, hsteps⟩
  · exact Or.inl ⟨v, vm₁, B, X₁.warmed, X', hpost, fun target h => hstep₁ _ fun acts => by rw [doInvoke_state]; exact hsteps.trans h⟩
  · exact Or.inr ⟨q, vm₁, B, X₁.warmed, X', hpost, hstep₁ _ fun acts => by rw [doInvoke_state]; exact hsteps⟩
theorem vx_callVW (X : Stand p l e R s m args below meth c T locs cells slots) (hexec : p.tables.exec = Jvm.exec) {own C : String} {index : Nat} {y : MethodName} {bytes : ByteArray} {maxL : Nat} {ret : Option FieldType} {hh : List (Nat × Nat × Nat × Nat)}
    (hown : s.vm.findClass own = some m.cls) (hlink : (Cond.methodLink own index y).before args s = true) (hinst : (Cond.instanceMethod y).before args s = true) (hsel : (Cond.selects C y y).before args s = true)
    (hcode : (Cond.codeWith y bytes maxL ret hh).before args s = true) (hy : y.cls ≠ "java/lang/invoke/MethodHandle" ∧ y.cls ≠ "java/lang/invoke/VarHandle")
    {W9 : Nat} {Pre : Pt → Array Value → Prop} {Post : Pt → Array Value → Option Value → Pt → Prop} (hK : Back l R p e below s args y 3 W9 Pre Post)
    {b : Addr} {cellB : Cell} (hcell : T.heap[b]? = some cellB) (hobj : cellB.vm.isStatics = false) (hcls : s.vm.findClass C = some cellB.cls)
    {g : JFrame} (hg : g.method = m) (hsize : g.locals.size = c.maxLocals) {argsL rest : List Value} (hlen : ∀ sig, parseMethodDescriptor y.desc = some sig → argsL.length = sig.parameters.length)
    (hstack : g.stack = argsL.reverse ++ .ref b :: rest) (hW : 2 * g.monitorRoom + (rest.map fun v => v.category).sum ≤ W9) (hdg : decode c.code g.pc = .ok (.invokevirtual index, 3))
    (hpre : ∀ vm₁, s.WarmedH vm₁ → Pre ⟨T.setVm vm₁, locs, cells, slots⟩ (Value.ref b :: argsL).toArray) :
    ∃ (v : Option Value) (vm₁ : Vm) (B : Pt), s.WarmedH vm₁ ∧ Stand p l e R s m args below meth c B.U B.locs B.cells B.slots ∧ Post ⟨T.setVm vm₁, locs, cells, slots⟩ (Value.ref b :: argsL).toArray v B ∧
      ∀ target, Steps p.tables e below (B.U.setTop { g with pc := g.pc + 3, stack := v.toList ++ rest }) target → Steps p.tables e below (T.setTop g) target := by
  obtain ⟨mk, methM, hnamed, hmethM, hstM, habM⟩ := Cond.instanceMethod_spec hinst
  obtain ⟨m8, methM', cM, hn8, hmethM', -, -, -, -, -, -, hsigM⟩ := Cond.codeWith_spec hcode
  cases Option.some.inj (hn8.symm.trans hnamed)
  cases hmethM.symm.trans hmethM'
  obtain ⟨c2, r2, m2, q1, q2, q3, q4, kP, hkP, hkPi⟩ := Cond.selects_spec hsel
  cases hcls.symm.trans q1
  cases (State.methodFound?_of_named hnamed hy).symm.trans q2
  cases hnamed.symm.trans q3
  have hselP : selectMethod e.platform s.vm cellB.cls mk = .method mk := by rw [Launch.admits_selectMethod X.admits]; exact q4
  obtain ⟨vm₁, X₁, hstep₁⟩ := X.invokevirtual hexec hown hlink hnamed hmethM hstM hkP hkPi hy (a := b) (cell := cellB) hcell
    (fun z h => by rw [h] at hobj; cases hobj) hselP hmethM habM hkP hkPi (g := g) hg (argsL := argsL) (rest := rest) (hlen _ hsigM) hstack hdg
  obtain ⟨v, B, X', hpost, hsteps⟩ := hK m meth c ⟨T.setVm vm₁, locs, cells, slots⟩ { g with stack := rest } (.invokevirtual index) mk (Value.ref b :: argsL).toArray X₁ hg hsize hdg hW (X₁.named hnamed) (hpre vm₁ X₁.warmed)
  exact ⟨v, vm₁, B, X₁.warmed, X', hpost, fun target h => hstep₁ _ fun acts => by rw [doInvoke_state]; exact hsteps.trans h⟩
abbrev vx_CVW (R : Room) (s : State) (args : Array Value) (own C : String) (index : Nat) (y : MethodName) (bytes : ByteArray) (maxL : Nat) (ret : Option FieldType) (hh : List (Nat × Nat × Nat × Nat)) (ws : List Cond) (rm : Room) (mc ms n : Nat) : Prop :=
  (rm.cells = mc ∧ rm.slots = ms ∧ rm.frames + 1 ≤ R.frames ∧ 8 + (maxL + 11) + rm.locals ≤ R.locals ∧ (∀ w ∈ ws, ∀ (a' : Array Value) (U : State), s.WarmedH U.vm → w.before a' U = true) ∧ Cond.codeWith y bytes maxL ret hh ∈ ws) ∧
  (Cond.codeWith y bytes maxL ret hh).before args s = true ∧ (Cond.initialized y.cls).before args s = true ∧ (y.cls ≠ "java/lang/invoke/MethodHandle" ∧ y.cls ≠ "java/lang/invoke/VarHandle") ∧
  (∀ sig, parseMethodDescriptor y.desc = some sig → n = sig.parameters.length) ∧ (Cond.methodLink own index y).before args s = true ∧ (Cond.instanceMethod y).before args s = true ∧ (Cond.selects C y y).before args s = true
theorem vx_cwVW {own C : String} {index maxL mc ms : Nat} {y : MethodName} {bytes : ByteArray} {ret : Option FieldType} {hh : List (Nat × Nat × Nat × Nat)} {Ts ws ws' : List Cond} {rm : Room} (n : Nat) (ht : ∀ w ∈ Ts, w.before args s = true) (hT : GoodIn Ts (wsV own index C y ws)) (hw : ws = Cond.codeWith y bytes maxL ret hh :: ws') (hrc : rm.cells = mc) (hrs : rm.slots = ms)
    (hd : y.cls = C ∧ y.cls ≠ "java/lang/invoke/MethodHandle" ∧ y.cls ≠ "java/lang/invoke/VarHandle" ∧ (parseMethodDescriptor y.desc).map (fun d => d.parameters.length) = some n) (hR : rm.frames + 1 ≤ R.frames ∧ 8 + (maxL + 11) + rm.locals ≤ R.locals) :
    vx_CVW R s args own C index y bytes maxL ret hh ws rm mc ms n := by
  obtain ⟨hC, hd⟩ := hd
  subst hC
  have ok : ∀ w ∈ wsV own index y.cls y ws, w.before args s = true := fun w h => ht w (hT w h).1
  have hG : GoodIn Ts ws := fun w h => hT w (by unfold wsV; exact List.mem_append_right _ h)
  have hc : Cond.codeWith y bytes maxL ret hh ∈ ws := by rw [hw]; exact List.mem_cons_self
  refine ⟨⟨hrc, hrs, hR.1, hR.2, pay_in ht hG, hc⟩, ht _ (hG _ hc).1, ok _ (by simp [wsV]), ⟨hd.1, hd.2.1⟩, fun sig h => ?_, ok _ (by simp [wsV]), ok _ (by simp [wsV]), ok _ (by simp [wsV])⟩
  have h2 := hd.2.2
  rw [h] at h2
  exact (Option.some.inj h2).symm
theorem vx_runVW {y : MethodName} {bytes cc : ByteArray} {maxL nL mc ms n index : Nat} {ret : Option FieldType} {hh : List (Nat × Nat × Nat × Nat)} {ws : List Cond} {rm : Room} {Pc : Array Value → State → Prop} {Qc : Array Value → State → Outcome → State → Prop} {free : Addr → Prop} {Ts : List Cond} {own C : String} {b : Addr} {As rest : List Value} {g : JFrame}
    (S : CallFix p m c cc nL s args Ts own) (hM : Met l y ws rm Pc Qc mc ms free) (cw : vx_CVW R s args own C index y bytes maxL ret hh ws rm mc ms n) (hp : PreV s H C b Pc As)
    (hg : g.method = m) (hn : As.length = n) (hsize : g.locals.size = nL) (hstack : g.stack = As.reverse ++ .ref b :: rest) (hW : 2 * g.monitorRoom + (rest.map fun v => v.category).sum ≤ 8) (hdg : decode cc g.pc = .ok (.invokevirtual index, 3)) (hf : cells + mc ≤ R.cells ∧ slots + ms ≤ R.slots) :
    va_Run p l e R s m args below meth c H locs cells slots mc ms g rest (Qc (Value.ref b :: As).toArray) free := by
  obtain ⟨⟨hrc, hrs, hfr, hlo, hws, hcw⟩, hcode, hini, hy, hlen, hl, hin, hse⟩ := cw
  have hK : Back l R p e below s args y 3 8 (PreOf R mc ms Pc) (PostOf Qc mc ms free) := va_backW (hh := hh) (bytes := bytes) (maxL := maxL) (ret := ret) hM hp.1 hrc hrs hfr hlo hws hcw (fun a' U hW => word_at hW (Or.inl (by first | rfl | simp [Cond.onTables, Cond.keeps, Cond.steady])) hini)
  obtain ⟨hx, hb, hml, ho, -⟩ := S
  obtain ⟨-, ⟨cellB, hcB, hoB, hclB⟩, hPc⟩ := hp
  intro T hT X
  obtain ⟨v, vm₁, ⟨U', l2, c2, s2⟩, hW₁, X', ⟨g', mk, t, L, e1, e2, hq, h1, hL, h2, h3⟩, st⟩ := vx_callVW X hx (C := C) (hh := hh) (bytes := bytes) (maxL := maxL) (ret := ret) ho hl hin hse hcode hy hK (by rw [hT]; exact hcB) hoB hclB hg (hsize.trans hml.symm) (argsL := As) (rest := rest) (fun sig h => hn.trans (hlen sig h)) hstack hW (by rw [hb]; exact hdg)
    (fun vm₁ hW₁ => ⟨hf.1, hf.2, hPc (T.setVm vm₁) hT hW₁⟩)
  dsimp only [Pt.U, Pt.locs, Pt.cells, Pt.slots] at X' e1 e2 h1 h2 h3 st
  subst h1; subst h2; subst h3
  exact ⟨v, (T.setVm vm₁).calling g' mk (Value.ref b :: As).toArray, t, U', L, hT, X', hL, e1, e2, hq, st⟩
section
variable {y : MethodName} {bytes cc : ByteArray} {maxL nL mc ms n index : Nat} {ret : Option FieldType} {ws : List Cond} {rm : Room} {Pc : Array Value → State → Prop} {Qc : Array Value → State → Outcome → State → Prop} {XC : String → State → State → Prop} {free : Addr → Prop} {Ts : List Cond} {own C : String} {b : Addr} {As rest : List Value} {g : JFrame}
theorem vx_runVX {hh : List (Nat × Nat × Nat × Nat)} (S : CallFix p m c cc nL s args Ts own) (hM : vx_Met l y ws rm Pc Qc XC mc ms free) (cw : vx_CVW R s args own C index y bytes maxL ret hh ws rm mc ms n) (hp : PreV s H C b Pc As)
    (hg : g.method = m) (hn : As.length = n) (hsize : g.locals.size = nL) (hstack : g.stack = As.reverse ++ .ref b :: rest) (hW : 2 * g.monitorRoom + (rest.map fun v => v.category).sum ≤ 8) (hdg : decode cc g.pc = .ok (.invokevirtual index, 3)) (hf : cells + mc ≤ R.cells ∧ slots + ms ≤ R.slots) :
    vx_Run p l e R s m args below meth c H locs cells slots mc ms g rest (Qc (Value.ref b :: As).toArray) XC free := by
  obtain ⟨⟨hrc, hrs, hfr, hlo, hws, hcw⟩, hcode, hini, hy, hlen, hl, hin, hse⟩ := cw
  have hK : vx_Back l R p e below s args y 3 8 (PreOf R mc ms Pc) (PostOf Qc mc ms free) (vx_Post XC mc ms free) := vx_backW (hh := hh) (bytes := bytes) (maxL := maxL) (ret := ret) hM hp.1 hrc hrs hfr hlo hws hcw (fun a' U hW => word_at hW (Or.inl (by first | rfl | simp [Cond.onTables, Cond.keeps, Cond.steady])) hini)
  obtain ⟨hx, hb, hml, ho, -⟩ := S
  obtain ⟨-, ⟨cellB, hcB, hoB, hclB⟩, hPc⟩ := hp
  intro T hT X
  rcases vx_callVX X hx (C := C) (hh := hh) (bytes := bytes) (maxL := maxL) (ret := ret) ho hl hin hse hcode hy hK (by rw [hT]; exact hcB) hoB hclB hg (hsize.trans hml.symm) (argsL := As) (rest := rest) (fun sig h => hn.trans (hlen sig h)) hstack hW (by rw [hb]; exact hdg)
    (fun vm₁ hW₁ => ⟨hf.1, hf.2, hPc (T.setVm vm₁) hT hW₁⟩) with ⟨v, vm₁, ⟨U', l2, c2, s2⟩, hW₁, X', ⟨g', mk, t, L, e1, e2, hq, h1, hL, h2, h3⟩, st⟩ | ⟨q, vm₁, ⟨U', l2, c2, s2⟩, hW₁, X', ⟨g', mk, t, L, E, ce, e1, e2, hq, hce, hcv, hcl, h1, hL, h2, h3⟩, st⟩
  · dsimp only [Pt.U, Pt.locs, Pt.cells, Pt.slots] at X' e1 e2 h1 h2 h3 st
    subst h1; subst h2; subst h3
    exact Or.inl ⟨v, (T.setVm vm₁).calling g' mk (Value.ref b :: As).toArray, t, U', L, hT, X', hL, e1, e2, hq, st⟩
  · dsimp only [Pt.U, Pt.locs, Pt.cells, Pt.slots] at X' e1 e2 h1 h2 h3 st hcl
    subst h1; subst h2; subst h3
    exact Or.inr ⟨q, (T.setVm vm₁).calling g' mk (Value.ref b :: As).toArray, t, U', L, E, ce, hT, X', hL, e1, e2, hq, hce, hcv, vx_cls hW₁ hcl, st⟩
theorem vx_runSX {hh : List (Nat × Nat × Nat × Nat)} (S : CallFix p m c cc nL s args Ts own) (hM : vx_Met l y ws rm Pc Qc XC mc ms free) (cw : vx_CSW R s args own index y bytes maxL ret hh ws rm mc ms n) (hp : PreS s H Pc As)
    (hg : g.method = m) (hn : As.length = n) (hsize : g.locals.size = nL) (hstack : g.stack = As.reverse ++ rest) (hW : 2 * g.monitorRoom + (rest.map fun v => v.category).sum ≤ 8) (hdg : decode cc g.pc = .ok (.invokestatic index, 3)) (hf : cells + mc ≤ R.cells ∧ slots + ms ≤ R.slots) :
    vx_Run p l e R s m args below meth c H locs cells slots mc ms g rest (Qc As.toArray) XC free := by
  obtain ⟨⟨hrc, hrs, hfr, hlo, hws, hcw⟩, hcode, hini, hy, hlen, hl, hstt⟩ := cw
  have hK : vx_Back l R p e below s args y 3 8 (PreOf R mc ms Pc) (PostOf Qc mc ms free) (vx_Post XC mc ms free) := vx_backW (hh := hh) (bytes := bytes) (maxL := maxL) (ret := ret) hM hp.1 hrc hrs hfr hlo hws hcw (fun a' U hW => word_at hW (Or.inl (by first | rfl | simp [Cond.onTables, Cond.keeps, Cond.steady])) hini)
  obtain ⟨hx, hb, hml, ho, -⟩ := S
  intro T hT X
  rcases vx_callSX X hx (hh := hh) (bytes := bytes) (maxL := maxL) (ret := ret) ho hl hstt hini hcode hy hK hg (hsize.trans hml.symm) (argsL := As) (rest := rest) (fun sig h => hn.trans (hlen sig h)) hstack hW (by rw [hb]; exact hdg)
    (fun vm₁ hW₁ => ⟨hf.1, hf.2, hp.2 (T.setVm vm₁) hT hW₁⟩) with ⟨v, vm₁, ⟨U', l2, c2, s2⟩, hW₁, X', ⟨g', mk, t, L, e1, e2, hq, h1, hL, h2, h3⟩, st⟩ | ⟨q, vm₁, ⟨U', l2, c2, s2⟩, hW₁, X', ⟨g', mk, t, L, E, ce, e1, e2, hq, hce, hcv, hcl, h1, hL, h2, h3⟩, st⟩
  · dsimp only [Pt.U, Pt.locs, Pt.cells, Pt.slots] at X' e1 e2 h1 h2 h3 st
    subst h1; subst h2; subst h3
    exact Or.inl ⟨v, (T.setVm vm₁).calling g' mk As.toArray, t, U', L, hT, X', hL, e1, e2, hq, st⟩
  · dsimp only [Pt.U, Pt.locs, Pt.cells, Pt.slots] at X' e1 e2 h1 h2 h3 st hcl
    subst h1; subst h2; subst h3
    exact Or.inr ⟨q, (T.setVm vm₁).calling g' mk As.toArray, t, U', L, E, ce, hT, X', hL, e1, e2, hq, hce, hcv, vx_cls hW₁ hcl, st⟩
end
end VXH
theorem vx_ofWH {l : Launch} {y : MethodName} {ws ws' : List Cond} {rm : Room} {Pc : Array Value → State → Prop} {Qc : Array Value → State → Outcome → State → Prop} {XC : String → State → State → Prop} {mc ms : Nat} {free : Addr → Prop} {cc : ByteArray} {maxL : Nat} {ret : Option FieldType} {hh : List (Nat × Nat × Nat × Nat)}
    (hy : plainName y.cls = true) (hw : ws = Cond.codeWith y cc maxL ret hh :: ws')
    (body : ∀ p e s m args below meth c s₁, BodyLoose p l y (headSpec ws rm) cc maxL ret e s m args below meth c s₁ → c.maxLocals = maxL → Pc args s →
      W p l e (headSpec ws rm).room s m args below meth c s.heap [] 0 0 (vx_MQ below Qc XC args s mc ms free) (entryFrame m args maxL)) : vx_Met l y ws rm Pc Qc XC mc ms free := by
  refine MetFree.of_bodyS (code := cc) (maxLocals := maxL) (ret := ret) hy ?_ ?_
  · intro args s m h hn
    obtain ⟨m9, meth, c, hn9, h1, h2, h3, h4, -, h5, h6, -⟩ := Cond.codeWith_spec (atoms_spec (ws := ws) h _ (by rw [hw]; exact List.mem_cons_self))
    cases hn.symm.trans hn9
    exact ⟨meth, c, h1, h2, h3, h4, h5, h6⟩
  · intro p e s m args below meth c s₁ B hml hP _
    have hh0 : s₁.heap = s.heap := by rw [B.state]; rfl
    obtain ⟨t, a1, o, b1, b2, b3⟩ := body p e s m args below meth c s₁ B hml hP s₁ hh0 (Stand.of_body B)
    exact ⟨t, o, a1, b1, b2, b3⟩
/-! ===== END ===== -/
end
section
def RX0 : String := "QuiltDesk$Cutting"
def TX0 : u_T := fun k => match k with
  | 0 => ("QuiltDesk$Cutting", "heldCloth", "I", false)
  | 1 => ("QuiltDesk$Cutting", "cuts", "I", false)
  | 2 => ("QuiltDesk$Cutting", "lengths", "[I", true)
  | 3 => ("QuiltDesk$Cutting", "heights", "[I", true)
  | 4 => ("QuiltDesk$Cutting", "kinds", "[I", true)
  | 5 => ("QuiltDesk$Cutting", "halvesLeft", "[I", true)
  | 6 => ("QuiltDesk$Cutting", "order", "[I", true)
  | 7 => ("QuiltDesk$Cutting", "merged", "[I", true)
  | 8 => ("QuiltDesk$Cutting", "strips", "[I", true)
  | 9 => ("QuiltDesk$Cutting", "begins", "[I", true)
  | 10 => ("QuiltDesk$Cutting", "usedLengths", "[I", true)
  | 11 => ("QuiltDesk$Cutting", "stripsUsed", "I", false)
  | _ => ("QuiltDesk$Cutting", "stripHeights", "I", false)
def tyX0 : Nat → FieldType := fun k => match k with
  | 0 => .int
  | 1 => .int
  | 2 => .array .int
  | 3 => .array .int
  | 4 => .array .int
  | 5 => .array .int
  | 6 => .array .int
  | 7 => .array .int
  | 8 => .array .int
  | 9 => .array .int
  | 10 => .array .int
  | 11 => .int
  | _ => .int
abbrev wsX00 : List Cond := u_ws RX0 TX0 13
theorem nmX0 : ∀ a, a < 13 → ∀ b, b < 13 → a ≠ b → (TX0 a).2.1 ≠ (TX0 b).2.1 := by decide +kernel
theorem tyX0_ok : ∀ k, k < 13 → parseFieldDescriptor (TX0 k).2.2.1 = some (tyX0 k) := by decide +kernel
abbrev cX0_init : ByteArray := prog_2_method_1_code
def yX0_init : MethodName := ⟨RX0, "<init>", "()V"⟩
abbrev cX0_forget : ByteArray := prog_2_method_2_code
def yX0_forget : MethodName := ⟨RX0, "forget", "()V"⟩
abbrev cX0_fact : ByteArray := prog_2_method_3_code
def yX0_fact : MethodName := ⟨RX0, "fact", "(II)I"⟩
abbrev cX0_layAll : ByteArray := prog_2_method_4_code
def yX0_layAll : MethodName := ⟨RX0, "layAll", "(LQuiltDesk$Top;I)V"⟩
abbrev cX0_gather : ByteArray := prog_2_method_5_code
def yX0_gather : MethodName := ⟨RX0, "gather", "(LQuiltDesk$Top;I)V"⟩
abbrev cX0_gatherPatches : ByteArray := prog_2_method_6_code
def yX0_gatherPatches : MethodName := ⟨RX0, "gatherPatches", "(LQuiltDesk$Drawing;I)V"⟩
abbrev cX0_gatherHalf : ByteArray := prog_2_method_7_code
def yX0_gatherHalf : MethodName := ⟨RX0, "gatherHalf", "(I)V"⟩
abbrev cX0_gatherSashes : ByteArray := prog_2_method_8_code
def yX0_gatherSashes : MethodName := ⟨RX0, "gatherSashes", "(LQuiltDesk$Top;II)V"⟩
abbrev cX0_gatherBorder : ByteArray := prog_2_method_9_code
def yX0_gatherBorder : MethodName := ⟨RX0, "gatherBorder", "(LQuiltDesk$Top;II)V"⟩
abbrev cX0_gatherPieces : ByteArray := prog_2_method_10_code
def yX0_gatherPieces : MethodName := ⟨RX0, "gatherPieces", "(IIII)V"⟩
abbrev cX0_gatherCut : ByteArray := prog_2_method_11_code
def yX0_gatherCut : MethodName := ⟨RX0, "gatherCut", "(III)V"⟩
abbrev cX0_sort : ByteArray := prog_2_method_12_code
def yX0_sort : MethodName := ⟨RX0, "sort", "()V"⟩
abbrev cX0_merge : ByteArray := prog_2_method_13_code
def yX0_merge : MethodName := ⟨RX0, "merge", "(III)V"⟩
abbrev cX0_goesBefore : ByteArray := prog_2_method_14_code
def yX0_goesBefore : MethodName := ⟨RX0, "goesBefore", "(II)Z"⟩
abbrev cX0_layInOrder : ByteArray := prog_2_method_15_code
def yX0_layInOrder : MethodName := ⟨RX0, "layInOrder", "()V"⟩
abbrev cX0_stripFor : ByteArray := prog_2_method_16_code
def yX0_stripFor : MethodName := ⟨RX0, "stripFor", "(I)I"⟩
def RX1 : String := "QuiltDesk$Drawing"
def TX1 : u_T := fun k => match k with
  | 0 => ("QuiltDesk$Drawing", "xs", "[I", true)
  | 1 => ("QuiltDesk$Drawing", "ys", "[I", true)
  | 2 => ("QuiltDesk$Drawing", "corners", "[I", true)
  | _ => ("QuiltDesk$Drawing", "cloths", "[I", true)
def tyX1 : Nat → FieldType := fun k => match k with
  | 0 => .array .int
  | 1 => .array .int
  | 2 => .array .int
  | _ => .array .int
abbrev wsX10 : List Cond := u_ws RX1 TX1 4
theorem nmX1 : ∀ a, a < 4 → ∀ b, b < 4 → a ≠ b → (TX1 a).2.1 ≠ (TX1 b).2.1 := by decide +kernel
theorem tyX1_ok : ∀ k, k < 4 → parseFieldDescriptor (TX1 k).2.2.1 = some (tyX1 k) := by decide +kernel
abbrev cX1_init : ByteArray := prog_3_method_1_code
def yX1_init : MethodName := ⟨RX1, "<init>", "()V"⟩
abbrev cX1_putCorner : ByteArray := prog_3_method_2_code
def yX1_putCorner : MethodName := ⟨RX1, "putCorner", "(IIII)V"⟩
abbrev cX1_closePatch : ByteArray := prog_3_method_3_code
def yX1_closePatch : MethodName := ⟨RX1, "closePatch", "(III)I"⟩
abbrev cX1_openPatch : ByteArray := prog_3_method_4_code
def yX1_openPatch : MethodName := ⟨RX1, "openPatch", "(I)V"⟩
abbrev cX1_isClosed : ByteArray := prog_3_method_5_code
def yX1_isClosed : MethodName := ⟨RX1, "isClosed", "(I)Z"⟩
abbrev cX1_closedPatches : ByteArray := prog_3_method_6_code
def yX1_closedPatches : MethodName := ⟨RX1, "closedPatches", "()I"⟩
abbrev cX1_closedSet : ByteArray := prog_3_method_7_code
def yX1_closedSet : MethodName := ⟨RX1, "closedSet", "()I"⟩
abbrev cX1_isConvex : ByteArray := prog_3_method_8_code
def yX1_isConvex : MethodName := ⟨RX1, "isConvex", "(I)Z"⟩
abbrev cX1_next : ByteArray := prog_3_method_9_code
def yX1_next : MethodName := ⟨RX1, "next", "(II)I"⟩
abbrev cX1_bend : ByteArray := prog_3_method_10_code
def yX1_bend : MethodName := ⟨RX1, "bend", "(III)I"⟩
abbrev cX1_sideOf : ByteArray := prog_3_method_11_code
def yX1_sideOf : MethodName := ⟨RX1, "sideOf", "(III)I"⟩
abbrev cX1_doubleArea : ByteArray := prog_3_method_12_code
def yX1_doubleArea : MethodName := ⟨RX1, "doubleArea", "(I)I"⟩
abbrev cX1_state : ByteArray := prog_3_method_13_code
def yX1_state : MethodName := ⟨RX1, "state", "()I"⟩
abbrev cX1_firstOverlap : ByteArray := prog_3_method_14_code
def yX1_firstOverlap : MethodName := ⟨RX1, "firstOverlap", "()I"⟩
abbrev cX1_overlap : ByteArray := prog_3_method_15_code
def yX1_overlap : MethodName := ⟨RX1, "overlap", "(II)Z"⟩
abbrev cX1_hasPartingEdge : ByteArray := prog_3_method_16_code
def yX1_hasPartingEdge : MethodName := ⟨RX1, "hasPartingEdge", "(II)Z"⟩
abbrev cX1_copied : ByteArray := prog_3_method_17_code
def yX1_copied : MethodName := ⟨RX1, "copied", "()LQuiltDesk$Drawing;"⟩
abbrev cX1_isOfCloth : ByteArray := prog_3_method_18_code
def yX1_isOfCloth : MethodName := ⟨RX1, "isOfCloth", "(II)Z"⟩
abbrev cX1_swapCloths : ByteArray := prog_3_method_19_code
def yX1_swapCloths : MethodName := ⟨RX1, "swapCloths", "(II)I"⟩
abbrev cX1_clothArea : ByteArray := prog_3_method_20_code
def yX1_clothArea : MethodName := ⟨RX1, "clothArea", "(I)I"⟩
abbrev cX1_patchWidth : ByteArray := prog_3_method_21_code
def yX1_patchWidth : MethodName := ⟨RX1, "patchWidth", "(I)I"⟩
abbrev cX1_patchHeight : ByteArray := prog_3_method_22_code
def yX1_patchHeight : MethodName := ⟨RX1, "patchHeight", "(I)I"⟩
abbrev cX1_extent : ByteArray := prog_3_method_23_code
def yX1_extent : MethodName := ⟨RX1, "extent", "(I[I)I"⟩
abbrev cX1_halfSquareEdge : ByteArray := prog_3_method_24_code
def yX1_halfSquareEdge : MethodName := ⟨RX1, "halfSquareEdge", "(I)I"⟩
def RX2 : String := "QuiltDesk$Piecing"
def TX2 : u_T := fun k => match k with
  | 0 => ("QuiltDesk$Piecing", "waiting", "[I", true)
  | 1 => ("QuiltDesk$Piecing", "tried", "[I", true)
  | 2 => ("QuiltDesk$Piecing", "found", "[I", true)
  | _ => ("QuiltDesk$Piecing", "foundSeams", "I", false)
def tyX2 : Nat → FieldType := fun k => match k with
  | 0 => .array .int
  | 1 => .array .int
  | 2 => .array .int
  | _ => .int
abbrev wsX20 : List Cond := u_ws RX2 TX2 4
theorem nmX2 : ∀ a, a < 4 → ∀ b, b < 4 → a ≠ b → (TX2 a).2.1 ≠ (TX2 b).2.1 := by decide +kernel
theorem tyX2_ok : ∀ k, k < 4 → parseFieldDescriptor (TX2 k).2.2.1 = some (tyX2 k) := by decide +kernel
abbrev cX2_init : ByteArray := prog_4_method_1_code
def yX2_init : MethodName := ⟨RX2, "<init>", "()V"⟩
abbrev cX2_findOrder : ByteArray := prog_4_method_2_code
def yX2_findOrder : MethodName := ⟨RX2, "findOrder", "(LQuiltDesk$Drawing;)I"⟩
abbrev cX2_putWaiting : ByteArray := prog_4_method_3_code
def yX2_putWaiting : MethodName := ⟨RX2, "putWaiting", "(II)I"⟩
abbrev cX2_noteSeam : ByteArray := prog_4_method_4_code
def yX2_noteSeam : MethodName := ⟨RX2, "noteSeam", "(IIII)V"⟩
abbrev cX2_firstSeam : ByteArray := prog_4_method_5_code
def yX2_firstSeam : MethodName := ⟨RX2, "firstSeam", "(LQuiltDesk$Drawing;I)I"⟩
abbrev cX2_leftPart : ByteArray := prog_4_method_6_code
def yX2_leftPart : MethodName := ⟨RX2, "leftPart", "(LQuiltDesk$Drawing;II)I"⟩
def RX3 : String := "QuiltDesk$Top"
def TX3 : u_T := fun k => match k with
  | 0 => ("QuiltDesk$Top", "kept", "[LQuiltDesk$Drawing;", true)
  | 1 => ("QuiltDesk$Top", "keptBlocks", "I", false)
  | 2 => ("QuiltDesk$Top", "blocks", "[I", true)
  | 3 => ("QuiltDesk$Top", "turns", "[I", true)
  | 4 => ("QuiltDesk$Top", "widths", "[I", true)
  | 5 => ("QuiltDesk$Top", "cloths", "[I", true)
  | _ => ("QuiltDesk$Top", "cornersAt", "[I", true)
def tyX3 : Nat → FieldType := fun k => match k with
  | 0 => .array (.object "QuiltDesk$Drawing")
  | 1 => .int
  | 2 => .array .int
  | 3 => .array .int
  | 4 => .array .int
  | 5 => .array .int
  | _ => .array .int
abbrev wsX30 : List Cond := u_ws RX3 TX3 7
theorem nmX3 : ∀ a, a < 7 → ∀ b, b < 7 → a ≠ b → (TX3 a).2.1 ≠ (TX3 b).2.1 := by decide +kernel
theorem tyX3_ok : ∀ k, k < 7 → parseFieldDescriptor (TX3 k).2.2.1 = some (tyX3 k) := by decide +kernel
abbrev cX3_init : ByteArray := prog_5_method_1_code
def yX3_init : MethodName := ⟨RX3, "<init>", "()V"⟩
abbrev cX3_addBlock : ByteArray := prog_5_method_2_code
def yX3_addBlock : MethodName := ⟨RX3, "addBlock", "(LQuiltDesk$Drawing;)I"⟩
abbrev cX3_blockAt : ByteArray := prog_5_method_3_code
def yX3_blockAt : MethodName := ⟨RX3, "blockAt", "(I)LQuiltDesk$Drawing;"⟩
abbrev cX3_placedBlocks : ByteArray := prog_5_method_4_code
def yX3_placedBlocks : MethodName := ⟨RX3, "placedBlocks", "()I"⟩
abbrev cX3_usedRows : ByteArray := prog_5_method_5_code
def yX3_usedRows : MethodName := ⟨RX3, "usedRows", "()I"⟩
abbrev cX3_usedColumns : ByteArray := prog_5_method_6_code
def yX3_usedColumns : MethodName := ⟨RX3, "usedColumns", "()I"⟩
abbrev cX3_reach : ByteArray := prog_5_method_7_code
def yX3_reach : MethodName := ⟨RX3, "reach", "(I)I"⟩
abbrev cX3_withBorder : ByteArray := prog_5_method_8_code
def yX3_withBorder : MethodName := ⟨RX3, "withBorder", "(I)I"⟩
abbrev cX3_swapCloths : ByteArray := prog_5_method_9_code
def yX3_swapCloths : MethodName := ⟨RX3, "swapCloths", "(II)I"⟩
abbrev cX3_clothArea : ByteArray := prog_5_method_10_code
def yX3_clothArea : MethodName := ⟨RX3, "clothArea", "(I)I"⟩
abbrev cX3_unmatchedCorners : ByteArray := prog_5_method_11_code
def yX3_unmatchedCorners : MethodName := ⟨RX3, "unmatchedCorners", "(I)I"⟩
abbrev cX3_markCorners : ByteArray := prog_5_method_12_code
def yX3_markCorners : MethodName := ⟨RX3, "markCorners", "(LQuiltDesk$Drawing;III)V"⟩
abbrev cX3_mirrored : ByteArray := prog_5_method_13_code
def yX3_mirrored : MethodName := ⟨RX3, "mirrored", "(II)I"⟩
abbrev cX3_turnedX : ByteArray := prog_5_method_14_code
def yX3_turnedX : MethodName := ⟨RX3, "turnedX", "(III)I"⟩
abbrev cX3_turnedY : ByteArray := prog_5_method_15_code
def yX3_turnedY : MethodName := ⟨RX3, "turnedY", "(III)I"⟩
def RX4 : String := "QuiltDesk"
def TX4 : u_T := fun k => match k with
  | 0 => ("QuiltDesk", "drawing", "LQuiltDesk$Drawing;", true)
  | 1 => ("QuiltDesk", "piecing", "LQuiltDesk$Piecing;", true)
  | 2 => ("QuiltDesk", "top", "LQuiltDesk$Top;", true)
  | _ => ("QuiltDesk", "cutting", "LQuiltDesk$Cutting;", true)
def tyX4 : Nat → FieldType := fun k => match k with
  | 0 => .object "QuiltDesk$Drawing"
  | 1 => .object "QuiltDesk$Piecing"
  | 2 => .object "QuiltDesk$Top"
  | _ => .object "QuiltDesk$Cutting"
abbrev wsX40 : List Cond := u_ws RX4 TX4 4
theorem nmX4 : ∀ a, a < 4 → ∀ b, b < 4 → a ≠ b → (TX4 a).2.1 ≠ (TX4 b).2.1 := by decide +kernel
theorem tyX4_ok : ∀ k, k < 4 → parseFieldDescriptor (TX4 k).2.2.1 = some (tyX4 k) := by decide +kernel
abbrev cX4_init : ByteArray := prog_1_method_1_code
def yX4_init : MethodName := ⟨RX4, "<init>", "()V"⟩
abbrev cX4_corner : ByteArray := prog_1_method_2_code
def yX4_corner : MethodName := ⟨RX4, "corner", "(IIII)V"⟩
abbrev cX4_close : ByteArray := prog_1_method_3_code
def yX4_close : MethodName := ⟨RX4, "close", "(III)I"⟩
abbrev cX4_open : ByteArray := prog_1_method_4_code
def yX4_open : MethodName := ⟨RX4, "open", "(I)Z"⟩
abbrev cX4_clear : ByteArray := prog_1_method_5_code
def yX4_clear : MethodName := ⟨RX4, "clear", "()I"⟩
abbrev cX4_check : ByteArray := prog_1_method_6_code
def yX4_check : MethodName := ⟨RX4, "check", "()I"⟩
abbrev cX4_clash : ByteArray := prog_1_method_7_code
def yX4_clash : MethodName := ⟨RX4, "clash", "(I)I"⟩
abbrev cX4_piece : ByteArray := prog_1_method_8_code
def yX4_piece : MethodName := ⟨RX4, "piece", "()I"⟩
abbrev cX4_seam : ByteArray := prog_1_method_9_code
def yX4_seam : MethodName := ⟨RX4, "seam", "(II)I"⟩
abbrev cX4_keep : ByteArray := prog_1_method_10_code
def yX4_keep : MethodName := ⟨RX4, "keep", "()I"⟩
abbrev cX4_place : ByteArray := prog_1_method_11_code
def yX4_place : MethodName := ⟨RX4, "place", "(IIII)I"⟩
abbrev cX4_frame : ByteArray := prog_1_method_12_code
def yX4_frame : MethodName := ⟨RX4, "frame", "(III)I"⟩
abbrev cX4_mismatch : ByteArray := prog_1_method_13_code
def yX4_mismatch : MethodName := ⟨RX4, "mismatch", "(II)I"⟩
abbrev cX4_swap : ByteArray := prog_1_method_14_code
def yX4_swap : MethodName := ⟨RX4, "swap", "(II)I"⟩
abbrev cX4_area : ByteArray := prog_1_method_15_code
def yX4_area : MethodName := ⟨RX4, "area", "(I)I"⟩
abbrev cX4_need : ByteArray := prog_1_method_16_code
def yX4_need : MethodName := ⟨RX4, "need", "(II)I"⟩
abbrev cX4_cut : ByteArray := prog_1_method_17_code
def yX4_cut : MethodName := ⟨RX4, "cut", "(III)I"⟩
abbrev cX4_count : ByteArray := prog_1_method_18_code
def yX4_count : MethodName := ⟨RX4, "count", "(I)I"⟩
abbrev cX4_within : ByteArray := prog_1_method_19_code
def yX4_within : MethodName := ⟨RX4, "within", "(II)Z"⟩
abbrev cX4_mustExist : ByteArray := prog_1_method_20_code
def yX4_mustExist : MethodName := ⟨RX4, "mustExist", "(Z)V"⟩
abbrev cX4_mustFit : ByteArray := prog_1_method_21_code
def yX4_mustFit : MethodName := ⟨RX4, "mustFit", "(Z)V"⟩
def RX5 : String := "QuiltDeskModel"
def TX5 : u_T := fun k => match k with
  | 0 => ("QuiltDeskModel", "thrown", "I", false)
  | 1 => ("QuiltDeskModel", "kept", "I", false)
  | 2 => ("QuiltDeskModel", "many", "[I", true)
  | 3 => ("QuiltDeskModel", "cloths", "[I", true)
  | 4 => ("QuiltDeskModel", "xs", "[I", true)
  | 5 => ("QuiltDeskModel", "ys", "[I", true)
  | 6 => ("QuiltDeskModel", "sets", "[I", true)
  | 7 => ("QuiltDeskModel", "trial", "[I", true)
  | 8 => ("QuiltDeskModel", "seams", "I", false)
  | 9 => ("QuiltDeskModel", "found", "[I", true)
  | 10 => ("QuiltDeskModel", "blocks", "[I", true)
  | 11 => ("QuiltDeskModel", "turns", "[I", true)
  | 12 => ("QuiltDeskModel", "widths", "[I", true)
  | 13 => ("QuiltDeskModel", "frames", "[I", true)
  | 14 => ("QuiltDeskModel", "cuts", "I", false)
  | 15 => ("QuiltDeskModel", "lengths", "[I", true)
  | 16 => ("QuiltDeskModel", "heights", "[I", true)
  | 17 => ("QuiltDeskModel", "kinds", "[I", true)
  | 18 => ("QuiltDeskModel", "isLaid", "[Z", true)
  | 19 => ("QuiltDeskModel", "halves", "[Z", true)
  | 20 => ("QuiltDeskModel", "order", "[I", true)
  | 21 => ("QuiltDeskModel", "strips", "[I", true)
  | 22 => ("QuiltDeskModel", "places", "[I", true)
  | 23 => ("QuiltDeskModel", "stripCount", "I", false)
  | 24 => ("QuiltDeskModel", "all", "I", false)
  | _ => ("QuiltDeskModel", "used", "[I", true)
def tyX5 : Nat → FieldType := fun k => match k with
  | 0 => .int
  | 1 => .int
  | 2 => .array .int
  | 3 => .array .int
  | 4 => .array .int
  | 5 => .array .int
  | 6 => .array .int
  | 7 => .array .int
  | 8 => .int
  | 9 => .array .int
  | 10 => .array .int
  | 11 => .array .int
  | 12 => .array .int
  | 13 => .array .int
  | 14 => .int
  | 15 => .array .int
  | 16 => .array .int
  | 17 => .array .int
  | 18 => .array .boolean
  | 19 => .array .boolean
  | 20 => .array .int
  | 21 => .array .int
  | 22 => .array .int
  | 23 => .int
  | 24 => .int
  | _ => .array .int
abbrev wsX50 : List Cond := u_ws RX5 TX5 26
theorem nmX5 : ∀ a, a < 26 → ∀ b, b < 26 → a ≠ b → (TX5 a).2.1 ≠ (TX5 b).2.1 := by decide +kernel
theorem tyX5_ok : ∀ k, k < 26 → parseFieldDescriptor (TX5 k).2.2.1 = some (tyX5 k) := by decide +kernel
abbrev cX5_init : ByteArray := prog_7_method_1_code
def yX5_init : MethodName := ⟨RX5, "<init>", "()V"⟩
abbrev cX5_thrown : ByteArray := prog_7_method_2_code
def yX5_thrown : MethodName := ⟨RX5, "thrown", "()I"⟩
abbrev cX5_goes : ByteArray := prog_7_method_3_code
def yX5_goes : MethodName := ⟨RX5, "goes", "(ZZ)Z"⟩
abbrev cX5_within : ByteArray := prog_7_method_4_code
def yX5_within : MethodName := ⟨RX5, "within", "(III)Z"⟩
abbrev cX5_isPatch : ByteArray := prog_7_method_5_code
def yX5_isPatch : MethodName := ⟨RX5, "isPatch", "(I)Z"⟩
abbrev cX5_isCloth : ByteArray := prog_7_method_6_code
def yX5_isCloth : MethodName := ⟨RX5, "isCloth", "(I)Z"⟩
abbrev cX5_next : ByteArray := prog_7_method_7_code
def yX5_next : MethodName := ⟨RX5, "next", "(II)I"⟩
abbrev cX5_side : ByteArray := prog_7_method_8_code
def yX5_side : MethodName := ⟨RX5, "side", "(IIII)I"⟩
abbrev cX5_areaOf : ByteArray := prog_7_method_9_code
def yX5_areaOf : MethodName := ⟨RX5, "areaOf", "(I)I"⟩
abbrev cX5_isConvex : ByteArray := prog_7_method_10_code
def yX5_isConvex : MethodName := ⟨RX5, "isConvex", "(I)Z"⟩
abbrev cX5_lies : ByteArray := prog_7_method_11_code
def yX5_lies : MethodName := ⟨RX5, "lies", "(III)I"⟩
abbrev cX5_apart : ByteArray := prog_7_method_12_code
def yX5_apart : MethodName := ⟨RX5, "apart", "(II)Z"⟩
abbrev cX5_corner : ByteArray := prog_7_method_13_code
def yX5_corner : MethodName := ⟨RX5, "corner", "(IIII)V"⟩
abbrev cX5_close : ByteArray := prog_7_method_14_code
def yX5_close : MethodName := ⟨RX5, "close", "(III)I"⟩
abbrev cX5_open : ByteArray := prog_7_method_15_code
def yX5_open : MethodName := ⟨RX5, "open", "(I)Z"⟩
abbrev cX5_closed : ByteArray := prog_7_method_16_code
def yX5_closed : MethodName := ⟨RX5, "closed", "()I"⟩
abbrev cX5_clear : ByteArray := prog_7_method_17_code
def yX5_clear : MethodName := ⟨RX5, "clear", "()I"⟩
abbrev cX5_overlapping : ByteArray := prog_7_method_18_code
def yX5_overlapping : MethodName := ⟨RX5, "overlapping", "()I"⟩
abbrev cX5_state : ByteArray := prog_7_method_19_code
def yX5_state : MethodName := ⟨RX5, "state", "()I"⟩
abbrev cX5_check : ByteArray := prog_7_method_20_code
def yX5_check : MethodName := ⟨RX5, "check", "()I"⟩
abbrev cX5_clash : ByteArray := prog_7_method_21_code
def yX5_clash : MethodName := ⟨RX5, "clash", "(I)I"⟩
abbrev cX5_bits : ByteArray := prog_7_method_22_code
def yX5_bits : MethodName := ⟨RX5, "bits", "(I)I"⟩
abbrev cX5_leftOf : ByteArray := prog_7_method_23_code
def yX5_leftOf : MethodName := ⟨RX5, "leftOf", "(III)I"⟩
abbrev cX5_piece : ByteArray := prog_7_method_24_code
def yX5_piece : MethodName := ⟨RX5, "piece", "()I"⟩
abbrev cX5_seam : ByteArray := prog_7_method_25_code
def yX5_seam : MethodName := ⟨RX5, "seam", "(II)I"⟩
abbrev cX5_keep : ByteArray := prog_7_method_26_code
def yX5_keep : MethodName := ⟨RX5, "keep", "()I"⟩
abbrev cX5_place : ByteArray := prog_7_method_27_code
def yX5_place : MethodName := ⟨RX5, "place", "(IIII)I"⟩
abbrev cX5_frame : ByteArray := prog_7_method_28_code
def yX5_frame : MethodName := ⟨RX5, "frame", "(III)I"⟩
abbrev cX5_turned : ByteArray := prog_7_method_29_code
def yX5_turned : MethodName := ⟨RX5, "turned", "(IIII)I"⟩
abbrev cX5_hasCorner : ByteArray := prog_7_method_30_code
def yX5_hasCorner : MethodName := ⟨RX5, "hasCorner", "(III)Z"⟩
abbrev cX5_mismatch : ByteArray := prog_7_method_31_code
def yX5_mismatch : MethodName := ⟨RX5, "mismatch", "(II)I"⟩
abbrev cX5_swapped : ByteArray := prog_7_method_32_code
def yX5_swapped : MethodName := ⟨RX5, "swapped", "(III)I"⟩
abbrev cX5_swap : ByteArray := prog_7_method_33_code
def yX5_swap : MethodName := ⟨RX5, "swap", "(II)I"⟩
abbrev cX5_area : ByteArray := prog_7_method_34_code
def yX5_area : MethodName := ⟨RX5, "area", "(I)I"⟩
abbrev cX5_rows : ByteArray := prog_7_method_35_code
def yX5_rows : MethodName := ⟨RX5, "rows", "()I"⟩
abbrev cX5_columns : ByteArray := prog_7_method_36_code
def yX5_columns : MethodName := ⟨RX5, "columns", "()I"⟩
abbrev cX5_across : ByteArray := prog_7_method_37_code
def yX5_across : MethodName := ⟨RX5, "across", "(I)I"⟩
abbrev cX5_cutOf : ByteArray := prog_7_method_38_code
def yX5_cutOf : MethodName := ⟨RX5, "cutOf", "(III)V"⟩
abbrev cX5_gap : ByteArray := prog_7_method_39_code
def yX5_gap : MethodName := ⟨RX5, "gap", "(II)I"⟩
abbrev cX5_half : ByteArray := prog_7_method_40_code
def yX5_half : MethodName := ⟨RX5, "half", "(I)I"⟩
abbrev cX5_spread : ByteArray := prog_7_method_41_code
def yX5_spread : MethodName := ⟨RX5, "spread", "(I[I)I"⟩
abbrev cX5_cutPatch : ByteArray := prog_7_method_42_code
def yX5_cutPatch : MethodName := ⟨RX5, "cutPatch", "(I)V"⟩
abbrev cX5_list : ByteArray := prog_7_method_43_code
def yX5_list : MethodName := ⟨RX5, "list", "(I)V"⟩
abbrev cX5_nextCut : ByteArray := prog_7_method_44_code
def yX5_nextCut : MethodName := ⟨RX5, "nextCut", "()I"⟩
abbrev cX5_lay : ByteArray := prog_7_method_45_code
def yX5_lay : MethodName := ⟨RX5, "lay", "(I)V"⟩
abbrev cX5_need : ByteArray := prog_7_method_46_code
def yX5_need : MethodName := ⟨RX5, "need", "(II)I"⟩
abbrev cX5_cut : ByteArray := prog_7_method_47_code
def yX5_cut : MethodName := ⟨RX5, "cut", "(III)I"⟩
abbrev cX5_count : ByteArray := prog_7_method_48_code
def yX5_count : MethodName := ⟨RX5, "count", "(I)I"⟩
def RJ6 : String := "java/lang/Integer"
def TJ6 : u_T := fun k => match k with
  | _ => ("", "", "", false)
def tyJ6 : Nat → FieldType := fun k => match k with
  | _ => .int
abbrev wsJ60 : List Cond := u_ws RJ6 TJ6 0
theorem nmJ6 : ∀ a, a < 0 → ∀ b, b < 0 → a ≠ b → (TJ6 a).2.1 ≠ (TJ6 b).2.1 := by decide +kernel
theorem tyJ6_ok : ∀ k, k < 0 → parseFieldDescriptor (TJ6 k).2.2.1 = some (tyJ6 k) := by decide +kernel
abbrev cJ6_bitCount_0f7a4 : ByteArray := prog_11_method_49_code
def yJ6_bitCount_0f7a4 : MethodName := ⟨RJ6, "bitCount", "(I)I"⟩
def RJ9 : String := "java/lang/Math"
def TJ9 : u_T := fun k => match k with
  | _ => ("", "", "", false)
def tyJ9 : Nat → FieldType := fun k => match k with
  | _ => .int
abbrev wsJ90 : List Cond := u_ws RJ9 TJ9 0
theorem nmJ9 : ∀ a, a < 0 → ∀ b, b < 0 → a ≠ b → (TJ9 a).2.1 ≠ (TJ9 b).2.1 := by decide +kernel
theorem tyJ9_ok : ∀ k, k < 0 → parseFieldDescriptor (TJ9 k).2.2.1 = some (tyJ9 k) := by decide +kernel
abbrev cJ9_abs_0f7a4 : ByteArray := prog_12_method_59_code
def yJ9_abs_0f7a4 : MethodName := ⟨RJ9, "abs", "(I)I"⟩
abbrev cJ9_max_7cf53 : ByteArray := prog_12_method_65_code
def yJ9_max_7cf53 : MethodName := ⟨RJ9, "max", "(II)I"⟩
abbrev cJ9_min_7cf53 : ByteArray := prog_12_method_69_code
def yJ9_min_7cf53 : MethodName := ⟨RJ9, "min", "(II)I"⟩
def RJ0 : String := "java/lang/String"
def TJ0 : u_T := fun k => match k with
  | _ => ("", "", "", false)
def tyJ0 : Nat → FieldType := fun k => match k with
  | _ => .int
abbrev wsJ00 : List Cond := u_ws RJ0 TJ0 0
theorem nmJ0 : ∀ a, a < 0 → ∀ b, b < 0 → a ≠ b → (TJ0 a).2.1 ≠ (TJ0 b).2.1 := by decide +kernel
theorem tyJ0_ok : ∀ k, k < 0 → parseFieldDescriptor (TJ0 k).2.2.1 = some (tyJ0 k) := by decide +kernel
def RJ10 : String := "java/lang/System"
def TJ10 : u_T := fun k => match k with
  | _ => ("", "", "", false)
def tyJ10 : Nat → FieldType := fun k => match k with
  | _ => .int
abbrev wsJ100 : List Cond := u_ws RJ10 TJ10 0
theorem nmJ10 : ∀ a, a < 0 → ∀ b, b < 0 → a ≠ b → (TJ10 a).2.1 ≠ (TJ10 b).2.1 := by decide +kernel
theorem tyJ10_ok : ∀ k, k < 0 → parseFieldDescriptor (TJ10 k).2.2.1 = some (tyJ10 k) := by decide +kernel
def RJ7 : String := "java/util/Arrays"
def TJ7 : u_T := fun k => match k with
  | _ => ("", "", "", false)
def tyJ7 : Nat → FieldType := fun k => match k with
  | _ => .int
abbrev wsJ70 : List Cond := u_ws RJ7 TJ7 0
theorem nmJ7 : ∀ a, a < 0 → ∀ b, b < 0 → a ≠ b → (TJ7 a).2.1 ≠ (TJ7 b).2.1 := by decide +kernel
theorem tyJ7_ok : ∀ k, k < 0 → parseFieldDescriptor (TJ7 k).2.2.1 = some (tyJ7 k) := by decide +kernel
abbrev cJ7_fill_53178 : ByteArray := prog_17_method_103_code
def yJ7_fill_53178 : MethodName := ⟨RJ7, "fill", "([II)V"⟩
def RL : String := "QuiltDeskLaw"
abbrev cL_corner : ByteArray := method_3_code
def yL_corner : MethodName := ⟨RL, "corner", "(LQuiltDesk;IIII)I"⟩
abbrev cL_close : ByteArray := method_4_code
def yL_close : MethodName := ⟨RL, "close", "(LQuiltDesk;III[J)I"⟩
abbrev cL_open : ByteArray := method_5_code
def yL_open : MethodName := ⟨RL, "open", "(LQuiltDesk;I[J)I"⟩
abbrev cL_clash : ByteArray := method_6_code
def yL_clash : MethodName := ⟨RL, "clash", "(LQuiltDesk;I[J)I"⟩
abbrev cL_seam : ByteArray := method_7_code
def yL_seam : MethodName := ⟨RL, "seam", "(LQuiltDesk;II[J)I"⟩
abbrev cL_keep : ByteArray := method_8_code
def yL_keep : MethodName := ⟨RL, "keep", "(LQuiltDesk;[J)I"⟩
abbrev cL_place : ByteArray := method_9_code
def yL_place : MethodName := ⟨RL, "place", "(LQuiltDesk;IIII[J)I"⟩
abbrev cL_frame : ByteArray := method_10_code
def yL_frame : MethodName := ⟨RL, "frame", "(LQuiltDesk;III[J)I"⟩
abbrev cL_mismatch : ByteArray := method_11_code
def yL_mismatch : MethodName := ⟨RL, "mismatch", "(LQuiltDesk;II[J)I"⟩
abbrev cL_swap : ByteArray := method_12_code
def yL_swap : MethodName := ⟨RL, "swap", "(LQuiltDesk;II[J)I"⟩
abbrev cL_area : ByteArray := method_13_code
def yL_area : MethodName := ⟨RL, "area", "(LQuiltDesk;I[J)I"⟩
abbrev cL_need : ByteArray := method_14_code
def yL_need : MethodName := ⟨RL, "need", "(LQuiltDesk;II[J)I"⟩
abbrev cL_cut : ByteArray := method_15_code
def yL_cut : MethodName := ⟨RL, "cut", "(LQuiltDesk;III[J)I"⟩
abbrev cL_count : ByteArray := method_16_code
def yL_count : MethodName := ⟨RL, "count", "(LQuiltDesk;I[J)I"⟩
abbrev cL_law : ByteArray := code
def yL_law : MethodName := ⟨RL, "law", "([I)Z"⟩
end
section
def wsL_law0_r1 : List Cond := [Cond.classLink RL 8 RX4, Cond.instantiable RX4 4, Cond.initialized RX4, Cond.classLink RL 65 RX5, Cond.instantiable RX5 26, Cond.initialized RX5, Cond.arrayClass .long, Cond.methodLink RL 64 yX4_init, Cond.instanceMethod yX4_init, Cond.code yX4_init cX4_init 1 none, Cond.methodLink RX4 3 objectInit, Cond.instanceMethod objectInit, Cond.code objectInit ⟨#[0xb1]⟩ 1 none, Cond.classLink RX4 9 RX1, Cond.instantiable RX1 4, Cond.initialized RX1, Cond.fieldLink RX4 12 "QuiltDesk" "drawing" "LQuiltDesk$Drawing;", Cond.classLink RX4 16 RX2, Cond.instantiable RX2 4, Cond.initialized RX2, Cond.fieldLink RX4 19 "QuiltDesk" "piecing" "LQuiltDesk$Piecing;", Cond.classLink RX4 23 RX3, Cond.instantiable RX3 7, Cond.initialized RX3]
def wsL_law0_r2 : List Cond := [Cond.fieldLink RX4 26 "QuiltDesk" "top" "LQuiltDesk$Top;", Cond.classLink RX4 30 RX0, Cond.instantiable RX0 13, Cond.initialized RX0, Cond.fieldLink RX4 33 "QuiltDesk" "cutting" "LQuiltDesk$Cutting;", Cond.instanceMethod yX1_init, Cond.code yX1_init cX1_init 1 none, Cond.methodLink RX1 3 objectInit, Cond.arrayClass .int, Cond.fieldLink RX1 9 "QuiltDesk$Drawing" "xs" "[I", Cond.fieldLink RX1 15 "QuiltDesk$Drawing" "ys" "[I", Cond.fieldLink RX1 18 "QuiltDesk$Drawing" "corners" "[I", Cond.fieldLink RX1 21 "QuiltDesk$Drawing" "cloths" "[I", Cond.instanceMethod yX2_init, Cond.code yX2_init cX2_init 1 none, Cond.methodLink RX2 3 objectInit, Cond.fieldLink RX2 9 "QuiltDesk$Piecing" "waiting" "[I", Cond.fieldLink RX2 15 "QuiltDesk$Piecing" "tried" "[I", Cond.fieldLink RX2 18 "QuiltDesk$Piecing" "found" "[I", Cond.methodLink RX4 25 yX3_init, Cond.instanceMethod yX3_init, Cond.code yX3_init cX3_init 1 none, Cond.methodLink RX3 3 objectInit, Cond.classLink RX3 9 RX1]
def wsL_law0_r3 : List Cond := [Cond.fieldLink RX3 11 "QuiltDesk$Top" "kept" "[LQuiltDesk$Drawing;", Cond.fieldLink RX3 17 "QuiltDesk$Top" "blocks" "[I", Cond.fieldLink RX3 21 "QuiltDesk$Top" "turns" "[I", Cond.fieldLink RX3 24 "QuiltDesk$Top" "widths" "[I", Cond.fieldLink RX3 27 "QuiltDesk$Top" "cloths" "[I", Cond.fieldLink RX3 30 "QuiltDesk$Top" "cornersAt" "[I", Cond.methodLink RX3 33 yJ7_fill_53178, Cond.static yJ7_fill_53178, Cond.initialized RJ7, Cond.code yJ7_fill_53178 cJ7_fill_53178 4 none, Cond.instanceMethod yX0_init, Cond.code yX0_init cX0_init 1 none, Cond.methodLink RX0 3 objectInit, Cond.fieldLink RX0 9 "QuiltDesk$Cutting" "heldCloth" "I", Cond.fieldLink RX0 15 "QuiltDesk$Cutting" "lengths" "[I", Cond.fieldLink RX0 19 "QuiltDesk$Cutting" "heights" "[I", Cond.fieldLink RX0 22 "QuiltDesk$Cutting" "kinds" "[I", Cond.fieldLink RX0 25 "QuiltDesk$Cutting" "halvesLeft" "[I", Cond.fieldLink RX0 28 "QuiltDesk$Cutting" "order" "[I", Cond.fieldLink RX0 31 "QuiltDesk$Cutting" "merged" "[I", Cond.fieldLink RX0 34 "QuiltDesk$Cutting" "strips" "[I", Cond.fieldLink RX0 37 "QuiltDesk$Cutting" "begins" "[I", Cond.fieldLink RX0 40 "QuiltDesk$Cutting" "usedLengths" "[I", Cond.methodLink RL 67 yX5_init]
def wsL_law0_r4 : List Cond := [Cond.instanceMethod yX5_init, Cond.code yX5_init cX5_init 2 none, Cond.methodLink RX5 1 objectInit, Cond.fieldLink RX5 7 "QuiltDeskModel" "many" "[I", Cond.fieldLink RX5 13 "QuiltDeskModel" "cloths" "[I", Cond.fieldLink RX5 16 "QuiltDeskModel" "xs" "[I", Cond.fieldLink RX5 19 "QuiltDeskModel" "ys" "[I", Cond.fieldLink RX5 22 "QuiltDeskModel" "sets" "[I", Cond.fieldLink RX5 25 "QuiltDeskModel" "trial" "[I", Cond.fieldLink RX5 28 "QuiltDeskModel" "found" "[I", Cond.fieldLink RX5 31 "QuiltDeskModel" "blocks" "[I", Cond.fieldLink RX5 34 "QuiltDeskModel" "turns" "[I", Cond.fieldLink RX5 37 "QuiltDeskModel" "widths" "[I", Cond.fieldLink RX5 40 "QuiltDeskModel" "frames" "[I", Cond.fieldLink RX5 43 "QuiltDeskModel" "lengths" "[I", Cond.fieldLink RX5 46 "QuiltDeskModel" "heights" "[I", Cond.fieldLink RX5 49 "QuiltDeskModel" "kinds" "[I", Cond.arrayClass .boolean, Cond.fieldLink RX5 52 "QuiltDeskModel" "isLaid" "[Z", Cond.fieldLink RX5 56 "QuiltDeskModel" "halves" "[Z", Cond.fieldLink RX5 59 "QuiltDeskModel" "order" "[I", Cond.fieldLink RX5 62 "QuiltDeskModel" "strips" "[I", Cond.fieldLink RX5 65 "QuiltDeskModel" "places" "[I", Cond.fieldLink RX5 68 "QuiltDeskModel" "used" "[I"]
def wsL_law0_r5 : List Cond := [Cond.methodLink RL 68 yL_corner, Cond.static yL_corner, Cond.initialized RL, Cond.codeWith yL_corner cL_corner 6 (some .int) [(0, 9, 12, 13), (0, 9, 16, 15)], Cond.classLink RL 13 "java/util/NoSuchElementException", Cond.classLink RL 15 "java/lang/IllegalArgumentException", Cond.methodLink RL 7 yX4_corner, Cond.instanceMethod yX4_corner, Cond.selects RX4 yX4_corner yX4_corner, Cond.code yX4_corner cX4_corner 5 none, Cond.methodLink RX4 37 yX4_within, Cond.static yX4_within, Cond.code yX4_within cX4_within 2 (some .boolean), Cond.methodLink RX4 41 yX4_mustExist, Cond.static yX4_mustExist, Cond.code yX4_mustExist cX4_mustExist 1 none, Cond.classLink RX4 158 "java/util/NoSuchElementException", Cond.initialized "java/util/NoSuchElementException", Cond.methodLink RX4 45 yX4_mustFit, Cond.static yX4_mustFit, Cond.code yX4_mustFit cX4_mustFit 1 none, Cond.classLink RX4 163 "java/lang/IllegalArgumentException", Cond.initialized "java/lang/IllegalArgumentException", Cond.methodLink RX4 48 yX1_putCorner]
def wsL_law0_r6 : List Cond := [Cond.instanceMethod yX1_putCorner, Cond.selects RX1 yX1_putCorner yX1_putCorner, Cond.code yX1_putCorner cX1_putCorner 5 none, Cond.methodLink RX1 24 yX1_openPatch, Cond.instanceMethod yX1_openPatch, Cond.selects RX1 yX1_openPatch yX1_openPatch, Cond.code yX1_openPatch cX1_openPatch 2 none, Cond.methodLink RL 73 yX5_corner, Cond.instanceMethod yX5_corner, Cond.selects RX5 yX5_corner yX5_corner, Cond.code yX5_corner cX5_corner 5 none, Cond.methodLink RX5 87 yX5_isPatch, Cond.static yX5_isPatch, Cond.code yX5_isPatch cX5_isPatch 1 (some .boolean), Cond.methodLink RX5 91 yX5_within, Cond.static yX5_within, Cond.code yX5_within cX5_within 3 (some .boolean), Cond.methodLink RX5 95 yX5_goes, Cond.instanceMethod yX5_goes, Cond.selects RX5 yX5_goes yX5_goes, Cond.code yX5_goes cX5_goes 3 (some .boolean), Cond.fieldLink RX5 71 "QuiltDeskModel" "thrown" "I", Cond.methodLink RL 74 yX5_thrown, Cond.instanceMethod yX5_thrown]
def wsL_law0_r7 : List Cond := [Cond.selects RX5 yX5_thrown yX5_thrown, Cond.code yX5_thrown cX5_thrown 1 (some .int), Cond.methodLink RL 77 yL_close, Cond.static yL_close, Cond.codeWith yL_close cL_close 6 (some .int) [(0, 12, 15, 13), (0, 12, 19, 15)], Cond.methodLink RL 17 yX4_close, Cond.instanceMethod yX4_close, Cond.selects RX4 yX4_close yX4_close, Cond.code yX4_close cX4_close 4 (some .int), Cond.methodLink RX4 52 yX1_closePatch, Cond.instanceMethod yX1_closePatch, Cond.selects RX1 yX1_closePatch yX1_closePatch, Cond.code yX1_closePatch cX1_closePatch 4 (some .int), Cond.methodLink RX1 28 yX1_isConvex, Cond.instanceMethod yX1_isConvex, Cond.selects RX1 yX1_isConvex yX1_isConvex, Cond.code yX1_isConvex cX1_isConvex 7 (some .boolean), Cond.methodLink RX1 48 yX1_next, Cond.instanceMethod yX1_next, Cond.selects RX1 yX1_next yX1_next, Cond.code yX1_next cX1_next 3 (some .int), Cond.methodLink RX1 52 yX1_bend, Cond.instanceMethod yX1_bend, Cond.selects RX1 yX1_bend yX1_bend]
def wsL_law0_r8 : List Cond := [Cond.code yX1_bend cX1_bend 4 (some .int), Cond.methodLink RX1 32 yX1_doubleArea, Cond.instanceMethod yX1_doubleArea, Cond.selects RX1 yX1_doubleArea yX1_doubleArea, Cond.code yX1_doubleArea cX1_doubleArea 6 (some .int), Cond.methodLink RL 80 yX5_close, Cond.instanceMethod yX5_close, Cond.selects RX5 yX5_close yX5_close, Cond.code yX5_close cX5_close 5 (some .int), Cond.methodLink RX5 99 yX5_isCloth, Cond.static yX5_isCloth, Cond.code yX5_isCloth cX5_isCloth 1 (some .boolean), Cond.methodLink RX5 102 yX5_isConvex, Cond.instanceMethod yX5_isConvex, Cond.selects RX5 yX5_isConvex yX5_isConvex, Cond.code yX5_isConvex cX5_isConvex 6 (some .boolean), Cond.methodLink RX5 75 yX5_next, Cond.instanceMethod yX5_next, Cond.selects RX5 yX5_next yX5_next, Cond.code yX5_next cX5_next 3 (some .int), Cond.methodLink RX5 79 yX5_side, Cond.instanceMethod yX5_side, Cond.selects RX5 yX5_side yX5_side, Cond.code yX5_side cX5_side 7 (some .int)]
def wsL_law0_r9 : List Cond := [Cond.methodLink RX5 105 yX5_areaOf, Cond.instanceMethod yX5_areaOf, Cond.selects RX5 yX5_areaOf yX5_areaOf, Cond.code yX5_areaOf cX5_areaOf 6 (some .int), Cond.methodLink RL 81 yL_open, Cond.static yL_open, Cond.codeWith yL_open cL_open 4 (some .int) [(0, 16, 19, 13)], Cond.methodLink RL 21 yX4_open, Cond.instanceMethod yX4_open, Cond.selects RX4 yX4_open yX4_open, Cond.code yX4_open cX4_open 3 (some .boolean), Cond.methodLink RX4 56 yX1_isClosed, Cond.instanceMethod yX1_isClosed, Cond.selects RX1 yX1_isClosed yX1_isClosed, Cond.code yX1_isClosed cX1_isClosed 2 (some .boolean), Cond.methodLink RX4 60 yX1_openPatch, Cond.methodLink RL 84 yX5_open, Cond.instanceMethod yX5_open, Cond.selects RX5 yX5_open yX5_open, Cond.code yX5_open cX5_open 3 (some .boolean), Cond.methodLink RL 85 yX4_clear, Cond.instanceMethod yX4_clear, Cond.selects RX4 yX4_clear yX4_clear, Cond.code yX4_clear cX4_clear 3 (some .int)]
def wsL_law0_r10 : List Cond := [Cond.methodLink RX4 64 yX1_closedPatches, Cond.instanceMethod yX1_closedPatches, Cond.selects RX1 yX1_closedPatches yX1_closedPatches, Cond.code yX1_closedPatches cX1_closedPatches 1 (some .int), Cond.methodLink RX1 36 yX1_closedSet, Cond.instanceMethod yX1_closedSet, Cond.selects RX1 yX1_closedSet yX1_closedSet, Cond.code yX1_closedSet cX1_closedSet 3 (some .int), Cond.methodLink RX1 45 yX1_isClosed, Cond.methodLink RX1 40 yJ6_bitCount_0f7a4, Cond.static yJ6_bitCount_0f7a4, Cond.initialized RJ6, Cond.code yJ6_bitCount_0f7a4 cJ6_bitCount_0f7a4 1 (some .int), Cond.constant RJ6 265 (1431655765), Cond.constant RJ6 266 (858993459), Cond.constant RJ6 267 (252645135), Cond.methodLink RL 88 yX5_clear, Cond.instanceMethod yX5_clear, Cond.selects RX5 yX5_clear yX5_clear, Cond.code yX5_clear cX5_clear 3 (some .int), Cond.methodLink RX5 109 yX5_closed, Cond.instanceMethod yX5_closed, Cond.selects RX5 yX5_closed yX5_closed, Cond.code yX5_closed cX5_closed 3 (some .int)]
def wsL_law0_r11 : List Cond := [Cond.methodLink RL 89 yX4_check, Cond.instanceMethod yX4_check, Cond.selects RX4 yX4_check yX4_check, Cond.code yX4_check cX4_check 1 (some .int), Cond.methodLink RX4 68 yX1_state, Cond.instanceMethod yX1_state, Cond.selects RX1 yX1_state yX1_state, Cond.code yX1_state cX1_state 3 (some .int), Cond.methodLink RX1 56 yX1_firstOverlap, Cond.instanceMethod yX1_firstOverlap, Cond.selects RX1 yX1_firstOverlap yX1_firstOverlap, Cond.code yX1_firstOverlap cX1_firstOverlap 3 (some .int), Cond.methodLink RX1 59 yX1_overlap, Cond.instanceMethod yX1_overlap, Cond.selects RX1 yX1_overlap yX1_overlap, Cond.code yX1_overlap cX1_overlap 3 (some .boolean), Cond.methodLink RX1 63 yX1_hasPartingEdge, Cond.instanceMethod yX1_hasPartingEdge, Cond.selects RX1 yX1_hasPartingEdge yX1_hasPartingEdge, Cond.code yX1_hasPartingEdge cX1_hasPartingEdge 4 (some .boolean), Cond.methodLink RX1 66 yX1_sideOf, Cond.instanceMethod yX1_sideOf, Cond.selects RX1 yX1_sideOf yX1_sideOf, Cond.code yX1_sideOf cX1_sideOf 10 (some .int)]
def wsL_law0_r12 : List Cond := [Cond.methodLink RL 92 yX5_check, Cond.instanceMethod yX5_check, Cond.selects RX5 yX5_check yX5_check, Cond.code yX5_check cX5_check 1 (some .int), Cond.methodLink RX5 120 yX5_state, Cond.instanceMethod yX5_state, Cond.selects RX5 yX5_state yX5_state, Cond.code yX5_state cX5_state 3 (some .int), Cond.methodLink RX5 117 yX5_overlapping, Cond.instanceMethod yX5_overlapping, Cond.selects RX5 yX5_overlapping yX5_overlapping, Cond.code yX5_overlapping cX5_overlapping 4 (some .int), Cond.methodLink RX5 113 yX5_apart, Cond.instanceMethod yX5_apart, Cond.selects RX5 yX5_apart yX5_apart, Cond.code yX5_apart cX5_apart 5 (some .boolean), Cond.methodLink RX5 83 yX5_lies, Cond.instanceMethod yX5_lies, Cond.selects RX5 yX5_lies yX5_lies, Cond.code yX5_lies cX5_lies 8 (some .int), Cond.methodLink RL 93 yL_clash, Cond.static yL_clash, Cond.codeWith yL_clash cL_clash 4 (some .int) [(0, 9, 12, 13)], Cond.methodLink RL 25 yX4_clash]
def wsL_law0_r13 : List Cond := [Cond.instanceMethod yX4_clash, Cond.selects RX4 yX4_clash yX4_clash, Cond.code yX4_clash cX4_clash 3 (some .int), Cond.methodLink RX4 71 yX1_firstOverlap, Cond.methodLink RL 95 yX5_clash, Cond.instanceMethod yX5_clash, Cond.selects RX5 yX5_clash yX5_clash, Cond.code yX5_clash cX5_clash 3 (some .int), Cond.methodLink RL 96 yX4_piece, Cond.instanceMethod yX4_piece, Cond.selects RX4 yX4_piece yX4_piece, Cond.code yX4_piece cX4_piece 1 (some .int), Cond.methodLink RX4 74 yX2_findOrder, Cond.instanceMethod yX2_findOrder, Cond.selects RX2 yX2_findOrder yX2_findOrder, Cond.code yX2_findOrder cX2_findOrder 8 (some .int), Cond.methodLink RX2 43 arraycopyName, Cond.native arraycopyName, Cond.static arraycopyName, Cond.initialized "java/lang/System", Cond.fieldLink RX2 49 "QuiltDesk$Piecing" "foundSeams" "I", Cond.methodLink RX2 21 yX1_closedSet, Cond.methodLink RX2 27 yX2_putWaiting, Cond.instanceMethod yX2_putWaiting]
def wsL_law0_r14 : List Cond := [Cond.selects RX2 yX2_putWaiting yX2_putWaiting, Cond.code yX2_putWaiting cX2_putWaiting 3 (some .int), Cond.methodLink RX2 53 yJ6_bitCount_0f7a4, Cond.methodLink RX2 31 yX2_firstSeam, Cond.instanceMethod yX2_firstSeam, Cond.selects RX2 yX2_firstSeam yX2_firstSeam, Cond.code yX2_firstSeam cX2_firstSeam 7 (some .int), Cond.fieldLink RX2 59 "QuiltDesk$Drawing" "corners" "[I", Cond.methodLink RX2 35 yX2_leftPart, Cond.instanceMethod yX2_leftPart, Cond.selects RX2 yX2_leftPart yX2_leftPart, Cond.code yX2_leftPart cX2_leftPart 7 (some .int), Cond.methodLink RX2 62 yX1_sideOf, Cond.methodLink RX2 39 yX2_noteSeam, Cond.instanceMethod yX2_noteSeam, Cond.selects RX2 yX2_noteSeam yX2_noteSeam, Cond.code yX2_noteSeam cX2_noteSeam 6 none, Cond.methodLink RL 99 yX5_piece, Cond.instanceMethod yX5_piece, Cond.selects RX5 yX5_piece yX5_piece, Cond.code yX5_piece cX5_piece 8 (some .int), Cond.fieldLink RX5 129 "QuiltDeskModel" "seams" "I", Cond.methodLink RX5 123 yX5_bits, Cond.static yX5_bits]
def wsL_law0_r15 : List Cond := [Cond.code yX5_bits cX5_bits 3 (some .int), Cond.methodLink RX5 126 yX5_leftOf, Cond.instanceMethod yX5_leftOf, Cond.selects RX5 yX5_leftOf yX5_leftOf, Cond.code yX5_leftOf cX5_leftOf 7 (some .int), Cond.methodLink RL 100 yL_seam, Cond.static yL_seam, Cond.codeWith yL_seam cL_seam 5 (some .int) [(0, 10, 13, 13), (0, 10, 17, 15)], Cond.methodLink RL 29 yX4_seam, Cond.instanceMethod yX4_seam, Cond.selects RX4 yX4_seam yX4_seam, Cond.code yX4_seam cX4_seam 3 (some .int), Cond.fieldLink RX4 78 "QuiltDesk$Piecing" "foundSeams" "I", Cond.fieldLink RX4 82 "QuiltDesk$Piecing" "found" "[I", Cond.methodLink RL 103 yX5_seam, Cond.instanceMethod yX5_seam, Cond.selects RX5 yX5_seam yX5_seam, Cond.code yX5_seam cX5_seam 3 (some .int), Cond.methodLink RL 104 yL_keep, Cond.static yL_keep, Cond.codeWith yL_keep cL_keep 3 (some .int) [(0, 8, 11, 37)], Cond.classLink RL 37 "java/lang/IllegalStateException", Cond.methodLink RL 33 yX4_keep, Cond.instanceMethod yX4_keep]
def wsL_law0_r16 : List Cond := [Cond.selects RX4 yX4_keep yX4_keep, Cond.code yX4_keep cX4_keep 1 (some .int), Cond.classLink RX4 89 "java/lang/IllegalStateException", Cond.initialized "java/lang/IllegalStateException", Cond.fieldLink RX4 86 "QuiltDesk$Top" "keptBlocks" "I", Cond.methodLink RX4 96 yX1_copied, Cond.instanceMethod yX1_copied, Cond.selects RX1 yX1_copied yX1_copied, Cond.code yX1_copied cX1_copied 2 (some (.object "QuiltDesk$Drawing")), Cond.classLink RX1 10 RX1, Cond.methodLink RX1 70 arraycopyName, Cond.methodLink RX1 69 yX1_init, Cond.methodLink RX4 100 yX3_addBlock, Cond.instanceMethod yX3_addBlock, Cond.selects RX3 yX3_addBlock yX3_addBlock, Cond.code yX3_addBlock cX3_addBlock 2 (some .int), Cond.fieldLink RX3 39 "QuiltDesk$Top" "keptBlocks" "I", Cond.methodLink RL 107 yX5_keep, Cond.instanceMethod yX5_keep, Cond.selects RX5 yX5_keep yX5_keep, Cond.code yX5_keep cX5_keep 4 (some .int), Cond.fieldLink RX5 132 "QuiltDeskModel" "kept" "I", Cond.methodLink RL 108 yL_place, Cond.static yL_place]
def wsL_law0_r17 : List Cond := [Cond.codeWith yL_place cL_place 7 (some .int) [(0, 14, 17, 13), (0, 14, 21, 15)], Cond.methodLink RL 39 yX4_place, Cond.instanceMethod yX4_place, Cond.selects RX4 yX4_place yX4_place, Cond.code yX4_place cX4_place 7 (some .int), Cond.fieldLink RX4 103 "QuiltDesk$Top" "blocks" "[I", Cond.fieldLink RX4 106 "QuiltDesk$Top" "turns" "[I", Cond.methodLink RX4 109 yX0_forget, Cond.instanceMethod yX0_forget, Cond.selects RX0 yX0_forget yX0_forget, Cond.code yX0_forget cX0_forget 1 none, Cond.methodLink RL 111 yX5_place, Cond.instanceMethod yX5_place, Cond.selects RX5 yX5_place yX5_place, Cond.code yX5_place cX5_place 7 (some .int), Cond.methodLink RL 112 yL_frame, Cond.static yL_frame, Cond.codeWith yL_frame cL_frame 6 (some .int) [(0, 12, 15, 13), (0, 12, 19, 15)], Cond.methodLink RL 43 yX4_frame, Cond.instanceMethod yX4_frame, Cond.selects RX4 yX4_frame yX4_frame, Cond.code yX4_frame cX4_frame 5 (some .int), Cond.fieldLink RX4 112 "QuiltDesk$Top" "widths" "[I", Cond.fieldLink RX4 115 "QuiltDesk$Top" "cloths" "[I"]
def wsL_law0_r18 : List Cond := [Cond.methodLink RL 114 yX5_frame, Cond.instanceMethod yX5_frame, Cond.selects RX5 yX5_frame yX5_frame, Cond.code yX5_frame cX5_frame 5 (some .int), Cond.methodLink RL 115 yL_mismatch, Cond.static yL_mismatch, Cond.codeWith yL_mismatch cL_mismatch 5 (some .int) [(0, 10, 13, 13)], Cond.methodLink RL 46 yX4_mismatch, Cond.instanceMethod yX4_mismatch, Cond.selects RX4 yX4_mismatch yX4_mismatch, Cond.code yX4_mismatch cX4_mismatch 3 (some .int), Cond.methodLink RX4 118 yX3_unmatchedCorners, Cond.instanceMethod yX3_unmatchedCorners, Cond.selects RX3 yX3_unmatchedCorners yX3_unmatchedCorners, Cond.code yX3_unmatchedCorners cX3_unmatchedCorners 6 (some .int), Cond.methodLink RX3 56 yX3_blockAt, Cond.instanceMethod yX3_blockAt, Cond.selects RX3 yX3_blockAt yX3_blockAt, Cond.code yX3_blockAt cX3_blockAt 2 (some (.object "QuiltDesk$Drawing")), Cond.methodLink RX3 63 yX3_markCorners, Cond.instanceMethod yX3_markCorners, Cond.selects RX3 yX3_markCorners yX3_markCorners, Cond.code yX3_markCorners cX3_markCorners 9 none, Cond.fieldLink RX3 67 "QuiltDesk$Drawing" "corners" "[I"]
def wsL_law0_r19 : List Cond := [Cond.fieldLink RX3 70 "QuiltDesk$Drawing" "xs" "[I", Cond.fieldLink RX3 73 "QuiltDesk$Drawing" "ys" "[I", Cond.methodLink RX3 76 yX3_turnedX, Cond.static yX3_turnedX, Cond.code yX3_turnedX cX3_turnedX 3 (some .int), Cond.methodLink RX3 83 yX3_mirrored, Cond.static yX3_mirrored, Cond.code yX3_mirrored cX3_mirrored 2 (some .int), Cond.methodLink RX3 80 yX3_turnedY, Cond.static yX3_turnedY, Cond.code yX3_turnedY cX3_turnedY 3 (some .int), Cond.methodLink RL 117 yX5_mismatch, Cond.instanceMethod yX5_mismatch, Cond.selects RX5 yX5_mismatch yX5_mismatch, Cond.code yX5_mismatch cX5_mismatch 6 (some .int), Cond.methodLink RX5 138 yX5_hasCorner, Cond.instanceMethod yX5_hasCorner, Cond.selects RX5 yX5_hasCorner yX5_hasCorner, Cond.code yX5_hasCorner cX5_hasCorner 8 (some .boolean), Cond.methodLink RX5 135 yX5_turned, Cond.static yX5_turned, Cond.code yX5_turned cX5_turned 8 (some .int), Cond.methodLink RL 118 yL_swap, Cond.static yL_swap]
def wsL_law0_r20 : List Cond := [Cond.codeWith yL_swap cL_swap 5 (some .int) [(0, 10, 13, 13)], Cond.methodLink RL 49 yX4_swap, Cond.instanceMethod yX4_swap, Cond.selects RX4 yX4_swap yX4_swap, Cond.code yX4_swap cX4_swap 3 (some .int), Cond.methodLink RX4 122 yX1_swapCloths, Cond.instanceMethod yX1_swapCloths, Cond.selects RX1 yX1_swapCloths yX1_swapCloths, Cond.code yX1_swapCloths cX1_swapCloths 5 (some .int), Cond.methodLink RX1 76 yX1_isOfCloth, Cond.instanceMethod yX1_isOfCloth, Cond.selects RX1 yX1_isOfCloth yX1_isOfCloth, Cond.code yX1_isOfCloth cX1_isOfCloth 3 (some .boolean), Cond.methodLink RX4 126 yX3_swapCloths, Cond.instanceMethod yX3_swapCloths, Cond.selects RX3 yX3_swapCloths yX3_swapCloths, Cond.code yX3_swapCloths cX3_swapCloths 6 (some .int), Cond.methodLink RX3 53 yX1_swapCloths, Cond.methodLink RL 120 yX5_swap, Cond.instanceMethod yX5_swap, Cond.selects RX5 yX5_swap yX5_swap, Cond.code yX5_swap cX5_swap 6 (some .int), Cond.methodLink RX5 141 yX5_swapped, Cond.static yX5_swapped]
def wsL_law0_r21 : List Cond := [Cond.code yX5_swapped cX5_swapped 3 (some .int), Cond.methodLink RL 121 yL_area, Cond.static yL_area, Cond.codeWith yL_area cL_area 4 (some .int) [(0, 9, 12, 13)], Cond.methodLink RL 52 yX4_area, Cond.instanceMethod yX4_area, Cond.selects RX4 yX4_area yX4_area, Cond.code yX4_area cX4_area 2 (some .int), Cond.methodLink RX4 127 yX3_clothArea, Cond.instanceMethod yX3_clothArea, Cond.selects RX3 yX3_clothArea yX3_clothArea, Cond.code yX3_clothArea cX3_clothArea 5 (some .int), Cond.methodLink RX3 60 yX1_clothArea, Cond.instanceMethod yX1_clothArea, Cond.selects RX1 yX1_clothArea yX1_clothArea, Cond.code yX1_clothArea cX1_clothArea 4 (some .int), Cond.methodLink RL 123 yX5_area, Cond.instanceMethod yX5_area, Cond.selects RX5 yX5_area yX5_area, Cond.code yX5_area cX5_area 5 (some .int), Cond.methodLink RL 124 yL_need, Cond.static yL_need, Cond.codeWith yL_need cL_need 5 (some .int) [(0, 10, 13, 13), (0, 10, 17, 15)], Cond.methodLink RL 55 yX4_need]
def wsL_law0_r22 : List Cond := [Cond.instanceMethod yX4_need, Cond.selects RX4 yX4_need yX4_need, Cond.code yX4_need cX4_need 3 (some .int), Cond.fieldLink RX4 134 "QuiltDesk$Cutting" "cuts" "I", Cond.fieldLink RX4 137 "QuiltDesk$Cutting" "stripsUsed" "I", Cond.fieldLink RX4 140 "QuiltDesk$Cutting" "stripHeights" "I", Cond.methodLink RX4 130 yX0_layAll, Cond.instanceMethod yX0_layAll, Cond.selects RX0 yX0_layAll yX0_layAll, Cond.code yX0_layAll cX0_layAll 3 none, Cond.methodLink RX0 43 yX0_gather, Cond.instanceMethod yX0_gather, Cond.selects RX0 yX0_gather yX0_gather, Cond.code yX0_gather cX0_gather 5 none, Cond.fieldLink RX0 53 "QuiltDesk$Cutting" "cuts" "I", Cond.fieldLink RX0 79 "QuiltDesk$Top" "cloths" "[I", Cond.methodLink RX0 56 yJ7_fill_53178, Cond.methodLink RX0 62 yX3_blockAt, Cond.methodLink RX0 68 yX0_gatherPatches, Cond.instanceMethod yX0_gatherPatches, Cond.selects RX0 yX0_gatherPatches yX0_gatherPatches, Cond.code yX0_gatherPatches cX0_gatherPatches 5 none, Cond.methodLink RX0 89 yX1_isOfCloth, Cond.methodLink RX0 95 yX1_halfSquareEdge]
def wsL_law0_r23 : List Cond := [Cond.instanceMethod yX1_halfSquareEdge, Cond.selects RX1 yX1_halfSquareEdge yX1_halfSquareEdge, Cond.code yX1_halfSquareEdge cX1_halfSquareEdge 7 (some .int), Cond.methodLink RX1 91 Lib.Math.abs.name, Cond.static Lib.Math.abs.name, Cond.initialized "java/lang/Math", Cond.code Lib.Math.abs.name Lib.Math.abs.code 1 (some .int), Cond.methodLink RX0 99 yX0_gatherHalf, Cond.instanceMethod yX0_gatherHalf, Cond.selects RX0 yX0_gatherHalf yX0_gatherHalf, Cond.code yX0_gatherHalf cX0_gatherHalf 2 none, Cond.methodLink RX0 113 yX0_gatherCut, Cond.instanceMethod yX0_gatherCut, Cond.selects RX0 yX0_gatherCut yX0_gatherCut, Cond.code yX0_gatherCut cX0_gatherCut 4 none, Cond.methodLink RX0 103 yX1_patchWidth, Cond.instanceMethod yX1_patchWidth, Cond.selects RX1 yX1_patchWidth yX1_patchWidth, Cond.code yX1_patchWidth cX1_patchWidth 2 (some .int), Cond.methodLink RX1 79 yX1_extent, Cond.instanceMethod yX1_extent, Cond.selects RX1 yX1_extent yX1_extent, Cond.code yX1_extent cX1_extent 7 (some .int), Cond.methodLink RX1 83 Lib.Math.min.name]
def wsL_law0_r24 : List Cond := [Cond.static Lib.Math.min.name, Cond.code Lib.Math.min.name Lib.Math.min.code 2 (some .int), Cond.methodLink RX1 88 Lib.Math.max.name, Cond.static Lib.Math.max.name, Cond.code Lib.Math.max.name Lib.Math.max.code 2 (some .int), Cond.methodLink RX0 106 yX1_patchHeight, Cond.instanceMethod yX1_patchHeight, Cond.selects RX1 yX1_patchHeight yX1_patchHeight, Cond.code yX1_patchHeight cX1_patchHeight 2 (some .int), Cond.methodLink RX0 109 yX0_gatherPieces, Cond.instanceMethod yX0_gatherPieces, Cond.selects RX0 yX0_gatherPieces yX0_gatherPieces, Cond.code yX0_gatherPieces cX0_gatherPieces 8 none, Cond.methodLink RX0 126 Lib.Math.max.name, Cond.methodLink RX0 132 Lib.Math.min.name, Cond.methodLink RX0 72 yX3_usedRows, Cond.instanceMethod yX3_usedRows, Cond.selects RX3 yX3_usedRows yX3_usedRows, Cond.code yX3_usedRows cX3_usedRows 3 (some .int), Cond.methodLink RX0 76 yX3_usedColumns, Cond.instanceMethod yX3_usedColumns, Cond.selects RX3 yX3_usedColumns yX3_usedColumns, Cond.code yX3_usedColumns cX3_usedColumns 3 (some .int), Cond.methodLink RX3 43 Lib.Math.max.name]
def wsL_law0_r25 : List Cond := [Cond.methodLink RX0 82 yX0_gatherSashes, Cond.instanceMethod yX0_gatherSashes, Cond.selects RX0 yX0_gatherSashes yX0_gatherSashes, Cond.code yX0_gatherSashes cX0_gatherSashes 5 none, Cond.fieldLink RX0 117 "QuiltDesk$Top" "widths" "[I", Cond.methodLink RX0 120 yX3_reach, Cond.instanceMethod yX3_reach, Cond.selects RX3 yX3_reach yX3_reach, Cond.code yX3_reach cX3_reach 2 (some .int), Cond.methodLink RX0 86 yX0_gatherBorder, Cond.instanceMethod yX0_gatherBorder, Cond.selects RX0 yX0_gatherBorder yX0_gatherBorder, Cond.code yX0_gatherBorder cX0_gatherBorder 5 none, Cond.methodLink RX0 123 yX3_withBorder, Cond.instanceMethod yX3_withBorder, Cond.selects RX3 yX3_withBorder yX3_withBorder, Cond.code yX3_withBorder cX3_withBorder 2 (some .int), Cond.methodLink RX3 49 yX3_reach, Cond.methodLink RX0 47 yX0_sort, Cond.instanceMethod yX0_sort, Cond.selects RX0 yX0_sort yX0_sort, Cond.code yX0_sort cX0_sort 3 none, Cond.methodLink RX0 138 arraycopyName, Cond.methodLink RX0 135 yX0_merge]
def wsL_law0_r26 : List Cond := [Cond.instanceMethod yX0_merge, Cond.selects RX0 yX0_merge yX0_merge, Cond.code yX0_merge cX0_merge 9 none, Cond.methodLink RX0 144 yX0_goesBefore, Cond.instanceMethod yX0_goesBefore, Cond.selects RX0 yX0_goesBefore yX0_goesBefore, Cond.code yX0_goesBefore cX0_goesBefore 3 (some .boolean), Cond.methodLink RX0 50 yX0_layInOrder, Cond.instanceMethod yX0_layInOrder, Cond.selects RX0 yX0_layInOrder yX0_layInOrder, Cond.code yX0_layInOrder cX0_layInOrder 4 none, Cond.fieldLink RX0 147 "QuiltDesk$Cutting" "stripsUsed" "I", Cond.fieldLink RX0 150 "QuiltDesk$Cutting" "stripHeights" "I", Cond.methodLink RX0 153 yX0_stripFor, Cond.instanceMethod yX0_stripFor, Cond.selects RX0 yX0_stripFor yX0_stripFor, Cond.code yX0_stripFor cX0_stripFor 3 (some .int), Cond.methodLink RL 126 yX5_need, Cond.instanceMethod yX5_need, Cond.selects RX5 yX5_need yX5_need, Cond.code yX5_need cX5_need 3 (some .int), Cond.fieldLink RX5 144 "QuiltDeskModel" "cuts" "I", Cond.fieldLink RX5 177 "QuiltDeskModel" "stripCount" "I", Cond.fieldLink RX5 180 "QuiltDeskModel" "all" "I"]
def wsL_law0_r27 : List Cond := [Cond.methodLink RX5 186 yX5_lay, Cond.instanceMethod yX5_lay, Cond.selects RX5 yX5_lay yX5_lay, Cond.code yX5_lay cX5_lay 5 none, Cond.methodLink RX5 174 yX5_list, Cond.instanceMethod yX5_list, Cond.selects RX5 yX5_list yX5_list, Cond.code yX5_list cX5_list 7 none, Cond.methodLink RX5 161 yX5_cutPatch, Cond.instanceMethod yX5_cutPatch, Cond.selects RX5 yX5_cutPatch yX5_cutPatch, Cond.code yX5_cutPatch cX5_cutPatch 3 none, Cond.methodLink RX5 150 yX5_half, Cond.instanceMethod yX5_half, Cond.selects RX5 yX5_half yX5_half, Cond.code yX5_half cX5_half 7 (some .int), Cond.methodLink RX5 147 yX5_gap, Cond.static yX5_gap, Cond.code yX5_gap cX5_gap 2 (some .int), Cond.methodLink RX5 153 yX5_spread, Cond.instanceMethod yX5_spread, Cond.selects RX5 yX5_spread yX5_spread, Cond.code yX5_spread cX5_spread 6 (some .int), Cond.methodLink RX5 157 yX5_cutOf]
def wsL_law0_r28 : List Cond := [Cond.instanceMethod yX5_cutOf, Cond.selects RX5 yX5_cutOf yX5_cutOf, Cond.code yX5_cutOf cX5_cutOf 4 none, Cond.methodLink RX5 165 yX5_rows, Cond.instanceMethod yX5_rows, Cond.selects RX5 yX5_rows yX5_rows, Cond.code yX5_rows cX5_rows 3 (some .int), Cond.methodLink RX5 168 yX5_columns, Cond.instanceMethod yX5_columns, Cond.selects RX5 yX5_columns yX5_columns, Cond.code yX5_columns cX5_columns 3 (some .int), Cond.methodLink RX5 171 yX5_across, Cond.instanceMethod yX5_across, Cond.selects RX5 yX5_across yX5_across, Cond.code yX5_across cX5_across 2 (some .int), Cond.methodLink RX5 183 yX5_nextCut, Cond.instanceMethod yX5_nextCut, Cond.selects RX5 yX5_nextCut yX5_nextCut, Cond.code yX5_nextCut cX5_nextCut 4 (some .int), Cond.methodLink RL 127 yL_cut, Cond.static yL_cut, Cond.codeWith yL_cut cL_cut 6 (some .int) [(0, 12, 15, 13), (0, 12, 19, 15)], Cond.methodLink RL 58 yX4_cut, Cond.instanceMethod yX4_cut]
def wsL_law0_r29 : List Cond := [Cond.selects RX4 yX4_cut yX4_cut, Cond.code yX4_cut cX4_cut 4 (some .int), Cond.methodLink RX4 143 yX0_fact, Cond.instanceMethod yX0_fact, Cond.selects RX0 yX0_fact yX0_fact, Cond.code yX0_fact cX0_fact 3 (some .int), Cond.methodLink RL 129 yX5_cut, Cond.instanceMethod yX5_cut, Cond.selects RX5 yX5_cut yX5_cut, Cond.code yX5_cut cX5_cut 5 (some .int), Cond.methodLink RL 130 yL_count, Cond.static yL_count, Cond.codeWith yL_count cL_count 4 (some .int) [(0, 9, 12, 15)], Cond.methodLink RL 61 yX4_count, Cond.instanceMethod yX4_count, Cond.selects RX4 yX4_count yX4_count, Cond.code yX4_count cX4_count 2 (some .int), Cond.methodLink RX4 146 yX3_placedBlocks, Cond.instanceMethod yX3_placedBlocks, Cond.selects RX3 yX3_placedBlocks yX3_placedBlocks, Cond.code yX3_placedBlocks cX3_placedBlocks 3 (some .int), Cond.methodLink RX4 149 yX3_usedRows, Cond.methodLink RX4 152 yX3_usedColumns, Cond.methodLink RX4 155 yX3_withBorder]
def wsL_law0_r30 : List Cond := [Cond.methodLink RL 132 yX5_count, Cond.instanceMethod yX5_count, Cond.selects RX5 yX5_count yX5_count, Cond.code yX5_count cX5_count 4 (some .int)]
def wsL_law0 : List Cond := (wsL_law0_r1 ++ (wsL_law0_r2 ++ (wsL_law0_r3 ++ (wsL_law0_r4 ++ (wsL_law0_r5 ++ (wsL_law0_r6 ++ (wsL_law0_r7 ++ (wsL_law0_r8 ++ (wsL_law0_r9 ++ (wsL_law0_r10 ++ (wsL_law0_r11 ++ (wsL_law0_r12 ++ (wsL_law0_r13 ++ (wsL_law0_r14 ++ (wsL_law0_r15 ++ (wsL_law0_r16 ++ (wsL_law0_r17 ++ (wsL_law0_r18 ++ (wsL_law0_r19 ++ (wsL_law0_r20 ++ (wsL_law0_r21 ++ (wsL_law0_r22 ++ (wsL_law0_r23 ++ (wsL_law0_r24 ++ (wsL_law0_r25 ++ (wsL_law0_r26 ++ (wsL_law0_r27 ++ (wsL_law0_r28 ++ (wsL_law0_r29 ++ wsL_law0_r30))))))))))))))))))))))))))))) ++ wsX40 ++ wsX50 ++ wsX10 ++ wsX20 ++ wsX30 ++ wsX00 ++ ([] : List Cond)
/-- the words of 'throw new NoSuchElementException(text)': its constructor links at 13, not at 7 as the kit's own list has it -/
def atN0 : List Cond := Bundle.throwableAtoms ++ Bundle.throwableSAtoms ++ (Bundle.passSAtoms "java/util/NoSuchElementException" "java/lang/RuntimeException" 13 prog_18_method_4_code ++ Bundle.chainSAtoms "java/lang/RuntimeException" ["java/lang/Exception"]) ++
  [.methodLink RX4 162 (Bundle.initS "java/util/NoSuchElementException"), .instantiable "java/util/NoSuchElementException" 6, .castable "java/util/NoSuchElementException" "java/util/NoSuchElementException", .selects "java/util/NoSuchElementException" Bundle.tFill0 Bundle.tFill0, .selects "java/util/NoSuchElementException" Bundle.tFill Bundle.tFill,
   .lays "java/util/NoSuchElementException" Bundle.tN "cause" "Ljava/lang/Throwable;", .lays "java/util/NoSuchElementException" Bundle.tN "stackTrace" Bundle.steD, .lays "java/util/NoSuchElementException" Bundle.tN "suppressedExceptions" Bundle.listD, .lays "java/util/NoSuchElementException" Bundle.tN "detailMessage" "Ljava/lang/String;",
   .isRef (.static Bundle.tN "UNASSIGNED_STACK" Bundle.steD), .isRef (.static Bundle.tN "SUPPRESSED_SENTINEL" Bundle.listD),
   .fieldLink Bundle.tN 198 Bundle.tN "backtrace" "Ljava/lang/Object;", .lays Bundle.tN Bundle.tN "backtrace" "Ljava/lang/Object;", .lays "java/util/NoSuchElementException" Bundle.tN "backtrace" "Ljava/lang/Object;"]
def atN : List Cond := atN0.filter vx_no
def wsL_law : List Cond := wsL_law0 ++ atN.filter goodWord ++ (vx_atS RX4 167 "java/lang/IllegalArgumentException" ["java/lang/RuntimeException", "java/lang/Exception"]).filter goodWord ++ (vx_atS RX4 93 "java/lang/IllegalStateException" ["java/lang/RuntimeException", "java/lang/Exception"]).filter goodWord
set_option maxRecDepth 20000 in
theorem gi_wsL_law0_r1 : GoodIn lw_tbl wsL_law0_r1 := goodIn_r wsL_law0_r1 [58, 59, 42, 699, 700, 48, 966, 60, 61, 62, 63, 64, 65, 66, 67, 43, 200, 90, 91, 44, 201, 111, 112, 45] (by decide +kernel) (by decide +kernel)
set_option maxRecDepth 20000 in
theorem gi_wsL_law0_r2 : GoodIn lw_tbl wsL_law0_r2 := goodIn_r wsL_law0_r2 [202, 151, 152, 47, 203, 69, 70, 71, 89, 72, 74, 76, 79, 93, 94, 95, 96, 97, 98, 113, 114, 115, 116, 117] (by decide +kernel) (by decide +kernel)
set_option maxRecDepth 20000 in
theorem gi_wsL_law0_r3 : GoodIn lw_tbl wsL_law0_r3 := goodIn_r wsL_law0_r3 [122, 125, 127, 129, 132, 135, 119, 120, 46, 121, 154, 155, 156, 157, 160, 161, 162, 163, 164, 165, 166, 167, 168, 701] (by decide +kernel) (by decide +kernel)
set_option maxRecDepth 20000 in
theorem gi_wsL_law0_r4 : GoodIn lw_tbl wsL_law0_r4 := goodIn_r wsL_law0_r4 [702, 703, 704, 707, 708, 709, 710, 711, 712, 714, 715, 716, 717, 718, 720, 721, 722, 784, 723, 724, 725, 726, 727, 730] (by decide +kernel) (by decide +kernel)
set_option maxRecDepth 20000 in
theorem gi_wsL_law0_r5 : GoodIn lw_tbl wsL_law0_r5 := goodIn_r wsL_law0_r5 [305, 306, 41, 307, 308, 309, 310, 311, 312, 313, 314, 315, 316, 317, 318, 319, 320, 52, 388, 389, 390, 391, 53, 407] (by decide +kernel) (by decide +kernel)
set_option maxRecDepth 20000 in
theorem gi_wsL_law0_r6 : GoodIn lw_tbl wsL_law0_r6 := goodIn_r wsL_law0_r6 [408, 409, 410, 411, 236, 237, 238, 789, 790, 791, 792, 793, 794, 795, 796, 797, 798, 799, 801, 19, 802, 705, 785, 786] (by decide +kernel) (by decide +kernel)
set_option maxRecDepth 20000 in
theorem gi_wsL_law0_r7 : GoodIn lw_tbl wsL_law0_r7 := goodIn_r wsL_law0_r7 [787, 788, 412, 413, 414, 415, 416, 417, 418, 419, 420, 421, 422, 423, 424, 425, 426, 263, 264, 265, 266, 267, 268, 269] (by decide +kernel) (by decide +kernel)
set_option maxRecDepth 20000 in
theorem gi_wsL_law0_r8 : GoodIn lw_tbl wsL_law0_r8 := goodIn_r wsL_law0_r8 [270, 271, 272, 273, 274, 803, 804, 805, 806, 807, 808, 809, 810, 812, 20, 813, 814, 816, 21, 817, 818, 820, 22, 821] (by decide +kernel) (by decide +kernel)
set_option maxRecDepth 20000 in
theorem gi_wsL_law0_r9 : GoodIn lw_tbl wsL_law0_r9 := goodIn_r wsL_law0_r9 [822, 824, 23, 825, 427, 428, 429, 430, 431, 432, 433, 434, 226, 227, 228, 235, 826, 827, 828, 829, 213, 214, 215, 216] (by decide +kernel) (by decide +kernel)
set_option maxRecDepth 20000 in
theorem gi_wsL_law0_r10 : GoodIn lw_tbl wsL_law0_r10 := goodIn_r wsL_law0_r10 [217, 218, 219, 220, 221, 222, 223, 224, 225, 229, 230, 54, 231, 232, 233, 234, 830, 831, 832, 833, 834, 836, 24, 837] (by decide +kernel) (by decide +kernel)
set_option maxRecDepth 20000 in
theorem gi_wsL_law0_r11 : GoodIn lw_tbl wsL_law0_r11 := goodIn_r wsL_law0_r11 [239, 240, 241, 242, 243, 244, 245, 246, 247, 248, 249, 250, 251, 252, 253, 254, 255, 256, 257, 258, 259, 260, 261, 262] (by decide +kernel) (by decide +kernel)
set_option maxRecDepth 20000 in
theorem gi_wsL_law0_r12 : GoodIn lw_tbl wsL_law0_r12 := goodIn_r wsL_law0_r12 [838, 839, 840, 841, 842, 844, 25, 845, 846, 848, 26, 849, 850, 852, 27, 853, 854, 856, 28, 857, 435, 436, 437, 438] (by decide +kernel) (by decide +kernel)
set_option maxRecDepth 20000 in
theorem gi_wsL_law0_r13 : GoodIn lw_tbl wsL_law0_r13 := goodIn_r wsL_law0_r13 [439, 440, 441, 442, 858, 859, 860, 861, 275, 276, 277, 278, 279, 280, 281, 282, 302, 304, 303, 55, 100, 283, 284, 286] (by decide +kernel) (by decide +kernel)
set_option maxRecDepth 20000 in
theorem gi_wsL_law0_r14 : GoodIn lw_tbl wsL_law0_r14 := goodIn_r wsL_law0_r14 [0, 287, 288, 289, 291, 1, 292, 77, 293, 295, 2, 296, 297, 298, 300, 3, 301, 862, 863, 864, 865, 713, 866, 867] (by decide +kernel) (by decide +kernel)
set_option maxRecDepth 20000 in
theorem gi_wsL_law0_r15 : GoodIn lw_tbl wsL_law0_r15 := goodIn_r wsL_law0_r15 [868, 869, 871, 29, 872, 443, 444, 445, 446, 447, 448, 449, 101, 99, 873, 874, 875, 876, 450, 451, 452, 453, 454, 455] (by decide +kernel) (by decide +kernel)
set_option maxRecDepth 20000 in
theorem gi_wsL_law0_r16 : GoodIn lw_tbl wsL_law0_r16 := goodIn_r wsL_law0_r16 [456, 457, 458, 56, 124, 474, 475, 476, 477, 478, 480, 479, 481, 482, 483, 484, 123, 877, 878, 879, 880, 706, 485, 486] (by decide +kernel) (by decide +kernel)
set_option maxRecDepth 20000 in
theorem gi_wsL_law0_r17 : GoodIn lw_tbl wsL_law0_r17 := goodIn_r wsL_law0_r17 [487, 488, 489, 490, 491, 126, 128, 492, 493, 494, 495, 881, 882, 883, 884, 496, 497, 498, 499, 500, 501, 502, 131, 134] (by decide +kernel) (by decide +kernel)
set_option maxRecDepth 20000 in
theorem gi_wsL_law0_r18 : GoodIn lw_tbl wsL_law0_r18 := goodIn_r wsL_law0_r18 [885, 886, 887, 888, 503, 504, 505, 506, 507, 508, 509, 510, 511, 512, 513, 514, 515, 516, 517, 518, 520, 5, 521, 78] (by decide +kernel) (by decide +kernel)
set_option maxRecDepth 20000 in
theorem gi_wsL_law0_r19 : GoodIn lw_tbl wsL_law0_r19 := goodIn_r wsL_law0_r19 [73, 75, 522, 523, 524, 525, 526, 527, 528, 529, 530, 889, 890, 891, 892, 893, 895, 30, 896, 897, 898, 899, 531, 532] (by decide +kernel) (by decide +kernel)
set_option maxRecDepth 20000 in
theorem gi_wsL_law0_r20 : GoodIn lw_tbl wsL_law0_r20 := goodIn_r wsL_law0_r20 [533, 534, 535, 536, 537, 538, 539, 540, 541, 542, 543, 544, 545, 546, 547, 548, 549, 550, 900, 901, 902, 903, 904, 905] (by decide +kernel) (by decide +kernel)
set_option maxRecDepth 20000 in
theorem gi_wsL_law0_r21 : GoodIn lw_tbl wsL_law0_r21 := goodIn_r wsL_law0_r21 [906, 551, 552, 553, 554, 555, 556, 557, 558, 559, 560, 561, 562, 563, 564, 565, 907, 908, 909, 910, 566, 567, 568, 569] (by decide +kernel) (by decide +kernel)
set_option maxRecDepth 20000 in
theorem gi_wsL_law0_r22 : GoodIn lw_tbl wsL_law0_r22 := goodIn_r wsL_law0_r22 [570, 571, 572, 159, 170, 172, 573, 574, 575, 576, 577, 579, 6, 580, 158, 133, 581, 582, 583, 585, 7, 586, 587, 588] (by decide +kernel) (by decide +kernel)
set_option maxRecDepth 20000 in
theorem gi_wsL_law0_r23 : GoodIn lw_tbl wsL_law0_r23 := goodIn_r wsL_law0_r23 [589, 590, 591, 592, 593, 57, 594, 595, 597, 8, 598, 599, 601, 9, 602, 603, 604, 605, 606, 607, 609, 10, 610, 611] (by decide +kernel) (by decide +kernel)
set_option maxRecDepth 20000 in
theorem gi_wsL_law0_r24 : GoodIn lw_tbl wsL_law0_r24 := goodIn_r wsL_law0_r24 [612, 613, 614, 615, 616, 617, 618, 619, 620, 621, 623, 11, 624, 625, 626, 627, 628, 629, 630, 631, 632, 633, 634, 635] (by decide +kernel) (by decide +kernel)
set_option maxRecDepth 20000 in
theorem gi_wsL_law0_r25 : GoodIn lw_tbl wsL_law0_r25 := goodIn_r wsL_law0_r25 [636, 638, 12, 639, 130, 640, 641, 642, 643, 644, 646, 13, 647, 648, 649, 650, 651, 652, 653, 655, 14, 656, 665, 657] (by decide +kernel) (by decide +kernel)
set_option maxRecDepth 20000 in
theorem gi_wsL_law0_r26 : GoodIn lw_tbl wsL_law0_r26 := goodIn_r wsL_law0_r26 [659, 15, 660, 661, 663, 16, 664, 666, 668, 17, 669, 169, 171, 670, 672, 18, 673, 911, 912, 913, 914, 719, 728, 729] (by decide +kernel) (by decide +kernel)
set_option maxRecDepth 20000 in
theorem gi_wsL_law0_r27 : GoodIn lw_tbl wsL_law0_r27 := goodIn_r wsL_law0_r27 [915, 917, 31, 918, 919, 921, 32, 922, 923, 925, 33, 926, 927, 929, 34, 930, 931, 932, 933, 934, 936, 35, 937, 938] (by decide +kernel) (by decide +kernel)
set_option maxRecDepth 20000 in
theorem gi_wsL_law0_r28 : GoodIn lw_tbl wsL_law0_r28 := goodIn_r wsL_law0_r28 [940, 36, 941, 942, 944, 37, 945, 946, 948, 38, 949, 950, 952, 39, 953, 954, 956, 40, 957, 674, 675, 676, 677, 678] (by decide +kernel) (by decide +kernel)
set_option maxRecDepth 20000 in
theorem gi_wsL_law0_r29 : GoodIn lw_tbl wsL_law0_r29 := goodIn_r wsL_law0_r29 [679, 680, 681, 682, 683, 684, 958, 959, 960, 961, 685, 686, 687, 688, 689, 690, 691, 692, 693, 694, 695, 696, 697, 698] (by decide +kernel) (by decide +kernel)
set_option maxRecDepth 20000 in
theorem gi_wsL_law0_r30 : GoodIn lw_tbl wsL_law0_r30 := goodIn_r wsL_law0_r30 [962, 963, 964, 965] (by decide +kernel) (by decide +kernel)
set_option maxRecDepth 20000 in
theorem gi_wsX40 : GoodIn lw_tbl wsX40 := goodIn_p wsX40 [] (by decide +kernel) (by decide +kernel)
set_option maxRecDepth 20000 in
theorem gi_wsX50 : GoodIn lw_tbl wsX50 := goodIn_p wsX50 [] (by decide +kernel) (by decide +kernel)
set_option maxRecDepth 20000 in
theorem gi_wsX10 : GoodIn lw_tbl wsX10 := goodIn_p wsX10 [] (by decide +kernel) (by decide +kernel)
set_option maxRecDepth 20000 in
theorem gi_wsX20 : GoodIn lw_tbl wsX20 := goodIn_p wsX20 [] (by decide +kernel) (by decide +kernel)
set_option maxRecDepth 20000 in
theorem gi_wsX30 : GoodIn lw_tbl wsX30 := goodIn_p wsX30 [] (by decide +kernel) (by decide +kernel)
set_option maxRecDepth 20000 in
theorem gi_wsX00 : GoodIn lw_tbl wsX00 := goodIn_p wsX00 [] (by decide +kernel) (by decide +kernel)
set_option maxRecDepth 20000 in
theorem wsL_law_x0 : ∀ w ∈ (atN).filter goodWord, w ∈ lw_tbl := by decide +kernel
theorem gi_x0 : GoodIn lw_tbl ((atN).filter goodWord) := fun w h => ⟨wsL_law_x0 w h, good_of_word (List.mem_filter.mp h).2⟩
set_option maxRecDepth 20000 in
theorem wsL_law_x1 : ∀ w ∈ (vx_atS RX4 167 "java/lang/IllegalArgumentException" ["java/lang/RuntimeException", "java/lang/Exception"]).filter goodWord, w ∈ lw_tbl := by decide +kernel
theorem gi_x1 : GoodIn lw_tbl ((vx_atS RX4 167 "java/lang/IllegalArgumentException" ["java/lang/RuntimeException", "java/lang/Exception"]).filter goodWord) := fun w h => ⟨wsL_law_x1 w h, good_of_word (List.mem_filter.mp h).2⟩
set_option maxRecDepth 20000 in
theorem wsL_law_x2 : ∀ w ∈ (vx_atS RX4 93 "java/lang/IllegalStateException" ["java/lang/RuntimeException", "java/lang/Exception"]).filter goodWord, w ∈ lw_tbl := by decide +kernel
theorem gi_x2 : GoodIn lw_tbl ((vx_atS RX4 93 "java/lang/IllegalStateException" ["java/lang/RuntimeException", "java/lang/Exception"]).filter goodWord) := fun w h => ⟨wsL_law_x2 w h, good_of_word (List.mem_filter.mp h).2⟩
theorem gi_law0 : GoodIn lw_tbl wsL_law0 := goodIn_app (goodIn_app (goodIn_app (goodIn_app (goodIn_app (goodIn_app (goodIn_app (goodIn_app gi_wsL_law0_r1 (goodIn_app gi_wsL_law0_r2 (goodIn_app gi_wsL_law0_r3 (goodIn_app gi_wsL_law0_r4 (goodIn_app gi_wsL_law0_r5 (goodIn_app gi_wsL_law0_r6 (goodIn_app gi_wsL_law0_r7 (goodIn_app gi_wsL_law0_r8 (goodIn_app gi_wsL_law0_r9 (goodIn_app gi_wsL_law0_r10 (goodIn_app gi_wsL_law0_r11 (goodIn_app gi_wsL_law0_r12 (goodIn_app gi_wsL_law0_r13 (goodIn_app gi_wsL_law0_r14 (goodIn_app gi_wsL_law0_r15 (goodIn_app gi_wsL_law0_r16 (goodIn_app gi_wsL_law0_r17 (goodIn_app gi_wsL_law0_r18 (goodIn_app gi_wsL_law0_r19 (goodIn_app gi_wsL_law0_r20 (goodIn_app gi_wsL_law0_r21 (goodIn_app gi_wsL_law0_r22 (goodIn_app gi_wsL_law0_r23 (goodIn_app gi_wsL_law0_r24 (goodIn_app gi_wsL_law0_r25 (goodIn_app gi_wsL_law0_r26 (goodIn_app gi_wsL_law0_r27 (goodIn_app gi_wsL_law0_r28 (goodIn_app gi_wsL_law0_r29 (gi_wsL_law0_r30)))))))))))))))))))))))))))))) gi_wsX40) gi_wsX50) gi_wsX10) gi_wsX20) gi_wsX30) gi_wsX00) (fun _ h => absurd h List.not_mem_nil)
theorem gi_law : GoodIn lw_tbl wsL_law := goodIn_app (goodIn_app (goodIn_app gi_law0 gi_x0) gi_x1) gi_x2
end
section
/-! THE WORLD OF THIS CLAIM. M k i: the i-th number of the k-th cell. Cells 0..48 are those of the class's object, of the model and the law's 'out'; from 49 on lie the kept drawings, five cells each. -/
abbrev Mem : Type := Nat → Nat → Int32
def wrR (M : Mem) (k : Nat) (f : Nat → Int32) : Mem := fun a => if a = k then f else M a
def wr (M : Mem) (k i : Nat) (v : Int32) : Mem := wrR M k (upd (M k) i v)
theorem wr_at (M : Mem) (k i : Nat) (v : Int32) (a b : Nat) : wr M k i v a b = if a = k ∧ b = i then v else M a b := by
  unfold wr wrR upd
  by_cases h : a = k
  · subst h
    by_cases h2 : b = i
    · simp [h2]
    · simp [h2]
  · simp [h]
/-- a cell's shape: an array (0 int, 1 boolean, 2 long, 3 of drawings) with its length, or an object: its class, its fields (none: a number; some j: the cell j) -/
abbrev Shp : Type := (Nat × Nat) ⊕ (Nat × List (Option Nat))
def drS (o : Nat) : Nat → Shp
  | 0 => .inr (1, [some (o + 1), some (o + 2), some (o + 3), some (o + 4)])
  | 1 => .inl (0, 192)
  | 2 => .inl (0, 192)
  | _ => .inl (0, 24)
def shL : List Shp := [.inr (4, [some 1, some 6, some 10, some 17]), .inr (1, [some 2, some 3, some 4, some 5]), .inl (0, 192), .inl (0, 192), .inl (0, 24), .inl (0, 24),
  .inr (2, [some 7, some 8, some 9, none]), .inl (0, 24), .inl (0, 92), .inl (0, 92),
  .inr (3, [some 11, none, some 12, some 13, some 14, some 15, some 16]), .inl (3, 10), .inl (0, 36), .inl (0, 36), .inl (0, 2), .inl (0, 2), .inl (0, 97),
  .inr (0, [none, none, some 18, some 19, some 20, some 21, some 22, some 23, some 24, some 25, some 26, none, none]), .inl (0, 903), .inl (0, 903), .inl (0, 903), .inl (0, 97), .inl (0, 903), .inl (0, 903), .inl (0, 903), .inl (0, 903), .inl (0, 903),
  .inr (5, [none, none, some 28, some 29, some 30, some 31, some 32, some 33, none, some 34, some 35, some 36, some 37, some 38, none, some 39, some 40, some 41, some 42, some 43, some 44, some 45, some 46, none, none, some 47]),
  .inl (0, 264), .inl (0, 264), .inl (0, 2112), .inl (0, 2112), .inl (0, 32), .inl (0, 96), .inl (0, 96), .inl (0, 36), .inl (0, 36), .inl (0, 2), .inl (0, 2), .inl (0, 1000), .inl (0, 1000), .inl (0, 1000), .inl (1, 1000), .inl (1, 97), .inl (0, 1000), .inl (0, 1000), .inl (0, 1000), .inl (0, 1000), .inl (2, 1)]
def sh0 (k : Nat) : Shp := if k < 49 then shL.getD k (.inl (0, 0)) else drS (49 + 5 * ((k - 49) / 5)) ((k - 49) % 5)
def fl (ad : Nat → Nat) (f : Nat → Int32) : Nat → List (Option Nat) → List Value
  | _, [] => []
  | i, none :: t => .int (f i) :: fl ad f (i + 1) t
  | i, some j :: t => .ref (ad j) :: fl ad f (i + 1) t
/-- what stands in an array of drawings: 0 is null, any other number the cell of that number -/
def dec (ad : Nat → Nat) (v : Int32) : Option Nat := if v = 0 then none else some (ad v.toNatClampNeg)
def en (cA : Nat → ClassId) (ad : Nat → Nat) (f : Nat → Int32) : Shp → va_E
  | .inl (0, n) => .inl (cA 0, n, .inl f)
  | .inl (1, n) => .inl (cA 1, n, .inl f)
  | .inl (2, n) => .inl (cA 2, n, .inr (.inl (fun i => (f i).toInt64)))
  | .inl (_, n) => .inl (cA 3, n, .inr (.inr (.inr (.inr (fun i => dec ad (f i))))))
  | .inr (ci, fs) => .inr (ci, fl ad f 0 fs)
def Wd (cA : Nat → ClassId) (ad : Nat → Nat) (n : Nat) (M : Mem) : va_W := (List.range n).map (fun k => (ad k, en cA ad (M k) (sh0 k)))
theorem Wd_at {cA : Nat → ClassId} {ad : Nat → Nat} {n : Nat} {M : Mem} {k : Nat} (h : k < n) : (Wd cA ad n M)[k]? = some (ad k, en cA ad (M k) (sh0 k)) := by
  unfold Wd
  rw [List.getElem?_map, List.getElem?_range h]
  rfl
theorem map_range_set {α : Type} (g : Nat → α) (n k : Nat) (v : α) : ((List.range n).map g).set k v = (List.range n).map (fun j => if j = k then v else g j) := by
  apply List.ext_getElem?
  intro j
  by_cases hj : j = k
  · subst hj
    by_cases h : j < n
    · rw [List.getElem?_set_self (by simpa using h), List.getElem?_map, List.getElem?_range h]
      simp
    · rw [List.getElem?_eq_none (by simpa using h), List.getElem?_eq_none (by simpa using h)]
  · rw [List.getElem?_set_ne (Ne.symm hj), List.getElem?_map, List.getElem?_map]
    by_cases h : j < n
    · rw [List.getElem?_range h]
      simp [hj]
    · rw [List.getElem?_eq_none (by simpa using h)]
      rfl
theorem Wd_set {cA : Nat → ClassId} {ad : Nat → Nat} {n : Nat} {M : Mem} {k : Nat} {f : Nat → Int32} (h : k < n) : (Wd cA ad n M).set k (ad k, en cA ad f (sh0 k)) = Wd cA ad n (wrR M k f) := by
  unfold Wd
  rw [map_range_set]
  congr 1
  funext j
  unfold wrR
  by_cases hj : j = k
  · rw [if_pos hj, if_pos hj, hj]
  · rw [if_neg hj, if_neg hj]
theorem fl_int {ad : Nat → Nat} {f : Nat → Int32} : ∀ (fs : List (Option Nat)) (i k : Nat), fs[k]? = some none → (fl ad f i fs)[k]? = some (.int (f (i + k)))
  | [], _, k, h => by simp at h
  | none :: t, i, 0, _ => rfl
  | some j :: t, i, 0, h => by simp at h
  | none :: t, i, k + 1, h => by
    have := fl_int (ad := ad) (f := f) t (i + 1) k (by simpa using h)
    rw [show i + (k + 1) = i + 1 + k by omega]
    simpa [fl] using this
  | some j :: t, i, k + 1, h => by
    have := fl_int (ad := ad) (f := f) t (i + 1) k (by simpa using h)
    rw [show i + (k + 1) = i + 1 + k by omega]
    simpa [fl] using this
theorem fl_ref {ad : Nat → Nat} {f : Nat → Int32} {j : Nat} : ∀ (fs : List (Option Nat)) (i k : Nat), fs[k]? = some (some j) → (fl ad f i fs)[k]? = some (.ref (ad j))
  | [], _, k, h => by simp at h
  | none :: t, i, 0, h => by simp at h
  | some j' :: t, i, 0, h => by
    have e : some j' = some j := by simpa using h
    cases e
    rfl
  | none :: t, i, k + 1, h => by
    have := fl_ref (ad := ad) (f := f) t (i + 1) k (by simpa using h)
    simpa [fl] using this
  | some j :: t, i, k + 1, h => by
    have := fl_ref (ad := ad) (f := f) t (i + 1) k (by simpa using h)
    simpa [fl] using this
theorem fl_len {ad : Nat → Nat} {f : Nat → Int32} : ∀ (fs : List (Option Nat)) (i : Nat), (fl ad f i fs).length = fs.length
  | [], _ => rfl
  | none :: t, i => by simp [fl, fl_len t]
  | some j :: t, i => by simp [fl, fl_len t]
theorem fl_same {ad : Nat → Nat} {f g : Nat → Int32} : ∀ (fs : List (Option Nat)) (i : Nat), (∀ j, i ≤ j → f j = g j) → fl ad f i fs = fl ad g i fs
  | [], _, _ => rfl
  | none :: t, i, h => by simp only [fl]; rw [h i (Nat.le_refl _), fl_same t (i + 1) (fun j hj => h j (by omega))]
  | some j :: t, i, h => by simp only [fl]; rw [fl_same t (i + 1) (fun j hj => h j (by omega))]
theorem fl_set {ad : Nat → Nat} {f : Nat → Int32} {v : Int32} : ∀ (fs : List (Option Nat)) (i k : Nat), fs[k]? = some none → (fl ad f i fs).set k (.int v) = fl ad (upd f (i + k) v) i fs
  | [], _, k, h => by simp at h
  | none :: t, i, 0, _ => by
    simp only [fl, List.set_cons_zero, Nat.add_zero]
    rw [fl_same (g := upd f i v) t (i + 1) (fun j hj => by unfold upd; rw [if_neg (by omega)])]
    simp [upd]
  | some j :: t, i, 0, h => by simp at h
  | none :: t, i, k + 1, h => by
    have := fl_set (ad := ad) (f := f) (v := v) t (i + 1) k (by simpa using h)
    simp only [fl, List.set_cons_succ]
    rw [this, show i + 1 + k = i + (k + 1) by omega]
    simp [upd, show ¬ i = i + (k + 1) by omega]
  | some j :: t, i, k + 1, h => by
    have := fl_set (ad := ad) (f := f) (v := v) t (i + 1) k (by simpa using h)
    simp only [fl, List.set_cons_succ]
    rw [this, show i + 1 + k = i + (k + 1) by omega]
/-- the addresses: apart, and of the kind A -/
def Dd (A : Nat → Prop) (ad : Nat → Nat) (n : Nat) : Prop := (∀ i j, i < n → j < n → ad i = ad j → i = j) ∧ ∀ i, i < n → A (ad i)
theorem Dd.D {A : Nat → Prop} {ad : Nat → Nat} {n : Nat} (h : Dd A ad n) (cA : Nat → ClassId) (M : Mem) : va_D A (Wd cA ad n M) := by
  have key : ∀ (k : Nat) (q : Nat × va_E), (Wd cA ad n M)[k]? = some q → k < n ∧ q.1 = ad k := by
    intro k q hk
    have hl : k < n := by
      have := (List.getElem?_eq_some_iff.mp hk).1
      simpa [Wd] using this
    rw [Wd_at hl] at hk
    cases hk
    exact ⟨hl, rfl⟩
  refine ⟨fun i j p q hi hj he => ?_, fun k q hk => ?_⟩
  · obtain ⟨h1, h2⟩ := key i p hi
    obtain ⟨h3, h4⟩ := key j q hj
    exact h.1 i j h1 h3 (by rw [← h2, ← h4]; exact he)
  · obtain ⟨h1, h2⟩ := key k q hk
    rw [h2]
    exact h.2 k h1
abbrev cls6 : List vw_C := [(RX0, TX0, 13), (RX1, TX1, 4), (RX2, TX2, 4), (RX3, TX3, 7), (RX4, TX4, 4), (RX5, TX5, 26)]
def ty4 (cA : Nat → ClassId) : List (ClassId × FieldType) := [(cA 0, .int), (cA 1, .boolean), (cA 2, .long), (cA 3, .object RX1)]
end
section
/-! THE JUDGEMENT: the method stands at pc with locals L and operands st, the world holds the memory M: it comes to Q. -/
def KS (A : Nat → Prop) (sa : Nat → Nat) (U : State) (H : Heap) : Prop := vx_Zq Bundle.tN "UNASSIGNED_STACK" Bundle.steD A U H ∧ vx_Zq Bundle.tN "SUPPRESSED_SENTINEL" Bundle.listD A U H ∧ vk_R RX4 160 "there is none with this number" (sa 0) U ∧ vk_R RX4 165 "the argument is out of its range" (sa 1) U ∧ vk_R RX4 91 "the drawing does not tile, or ten are kept" (sa 2) U
def Cx (p : Program) (s : State) (m : MethodId) (args : Array Value) (meth : Method) (c : Code) (D : va_G) (cA : Nat → ClassId) (ad : Nat → Nat) (n : Nat) (A : Nat → Prop) (sa : Nat → Nat) (cc : ByteArray) (nL : Nat) (own : String) (kt : List (Nat × Instr × Nat)) : Prop :=
  p.tables.exec = Jvm.exec ∧ c.code = cc ∧ c.maxLocals = nL ∧ s.vm.findClass own = some m.cls ∧ (∀ w ∈ wsL_law, w.before args s = true) ∧ va_K D cls6 (ty4 cA) s ∧ Dd A ad n ∧ (∀ q, s.heap.size ≤ q → A q) ∧ 49 ≤ n ∧ KS A sa s s.heap ∧ meth.locks = false ∧ ∀ (i : Nat) (q : Nat × Instr × Nat), kt[i]? = some q → decode cc q.1 = .ok q.2
def J (p : Program) (l : Launch) (e : Env) (R : Room) (s : State) (m : MethodId) (args : Array Value) (below : List Frame) (meth : Method) (c : Code) (D : va_G) (cA : Nat → ClassId) (ad : Nat → Nat) (n : Nat) (A : Nat → Prop) (nL cells slots : Nat) (Q : State → Prop) (M : Mem) (pc : Nat) (L : List (Nat × Value)) (st : List Value) : Prop :=
  ∀ (H : Heap) (locs : List Loc) (ls : Array Slot), va_P D cls6 (Wd cA ad n M) H → va_S A s.heap H locs → lv_has ls nL L → W p l e R s m args below meth c H locs cells slots Q (F0 m pc ls st)
section JR
variable {p : Program} {l : Launch} {e : Env} {R : Room} {s : State} {m : MethodId} {args : Array Value} {below : List Frame} {meth : Method} {c : Code} {D : va_G} {cA : Nat → ClassId} {ad : Nat → Nat} {n : Nat} {A : Nat → Prop} {sa : Nat → Nat} {nL cells slots : Nat} {Q : State → Prop} {cc : ByteArray} {own : String} {kt : List (Nat × Instr × Nat)} {M : Mem} {pc : Nat} {L : List (Nat × Value)} {st : List Value}
theorem Cx.ex (h : Cx p s m args meth c D cA ad n A sa cc nL own kt) : p.tables.exec = Jvm.exec := by unfold Cx at h; exact h.1
theorem Cx.by (h : Cx p s m args meth c D cA ad n A sa cc nL own kt) : c.code = cc := by unfold Cx at h; exact h.2.1
theorem Cx.ml (h : Cx p s m args meth c D cA ad n A sa cc nL own kt) : c.maxLocals = nL := by unfold Cx at h; exact h.2.2.1
theorem Cx.ow (h : Cx p s m args meth c D cA ad n A sa cc nL own kt) : s.vm.findClass own = some m.cls := by unfold Cx at h; exact h.2.2.2.1
theorem Cx.ws (h : Cx p s m args meth c D cA ad n A sa cc nL own kt) : ∀ w ∈ wsL_law, w.before args s = true := by unfold Cx at h; exact h.2.2.2.2.1
theorem Cx.kn (h : Cx p s m args meth c D cA ad n A sa cc nL own kt) : va_K D cls6 (ty4 cA) s := by unfold Cx at h; exact h.2.2.2.2.2.1
theorem Cx.dd (h : Cx p s m args meth c D cA ad n A sa cc nL own kt) : Dd A ad n := by unfold Cx at h; exact h.2.2.2.2.2.2.1
theorem Cx.hA (h : Cx p s m args meth c D cA ad n A sa cc nL own kt) : ∀ q, s.heap.size ≤ q → A q := by unfold Cx at h; exact h.2.2.2.2.2.2.2.1
theorem Cx.n49 (h : Cx p s m args meth c D cA ad n A sa cc nL own kt) : 49 ≤ n := by unfold Cx at h; exact h.2.2.2.2.2.2.2.2.1
theorem Cx.ks (h : Cx p s m args meth c D cA ad n A sa cc nL own kt) : KS A sa s s.heap := by unfold Cx at h; exact h.2.2.2.2.2.2.2.2.2.1
theorem Cx.lk (h : Cx p s m args meth c D cA ad n A sa cc nL own kt) : meth.locks = false := by unfold Cx at h; exact h.2.2.2.2.2.2.2.2.2.2.1
theorem Cx.dec (h : Cx p s m args meth c D cA ad n A sa cc nL own kt) {i pc len : Nat} {ins : Instr} (hk : kt[i]? = some (pc, ins, len)) : decode cc pc = .ok (ins, len) := by
  unfold Cx at h
  have h1 := h.2.2.2.2.2.2.2.2.2.2.2 i (pc, ins, len) hk
  dsimp only at h1
  exact h1
theorem J.sub {L' : List (Nat × Value)} (ks : List Nat) (hl : lv_pick L ks = L') (kk : J p l e R s m args below meth c D cA ad n A nL cells slots Q M pc L' st) : J p l e R s m args below meth c D cA ad n A nL cells slots Q M pc L st := fun H locs ls hP hS hL => kk H locs ls hP hS (lv_sub hL ks hl)
theorem J.eqM {M' : Mem} (h : M = M') (kk : J p l e R s m args below meth c D cA ad n A nL cells slots Q M' pc L st) : J p l e R s m args below meth c D cA ad n A nL cells slots Q M pc L st := by rw [h]; exact kk
theorem J.name {x : Int32} (kk : ∀ y : Int32, y = x → J p l e R s m args below meth c D cA ad n A nL cells slots Q M pc L (.int y :: st)) : J p l e R s m args below meth c D cA ad n A nL cells slots Q M pc L (.int x :: st) := kk x rfl
theorem J.iconst (hX : Cx p s m args meth c D cA ad n A sa cc nL own kt) (i : Nat) {v : Int32} {z : Int} (hk : kt[i]? = some (pc, .iconst z, 1)) (hv : Int32.ofInt z = v) (kk : J p l e R s m args below meth c D cA ad n A nL cells slots Q M (pc + 1) L (.int v :: st)) : J p l e R s m args below meth c D cA ad n A nL cells slots Q M pc L st := fun H locs ls hP hS hL => lv_iconst hX.ex hX.by (hX.dec hk) hv (kk H locs ls hP hS hL)
theorem J.bipush (hX : Cx p s m args meth c D cA ad n A sa cc nL own kt) (i : Nat) {v : Int32} {z : Int} (hk : kt[i]? = some (pc, .bipush z, 2)) (hv : (Int8.ofInt z).toInt32 = v) (kk : J p l e R s m args below meth c D cA ad n A nL cells slots Q M (pc + 2) L (.int v :: st)) : J p l e R s m args below meth c D cA ad n A nL cells slots Q M pc L st := fun H locs ls hP hS hL => lv_bipush hX.ex hX.by (hX.dec hk) hv (kk H locs ls hP hS hL)
theorem J.sipush (hX : Cx p s m args meth c D cA ad n A sa cc nL own kt) (i : Nat) {v : Int32} {z : Int} (hk : kt[i]? = some (pc, .sipush z, 3)) (hv : (Int16.ofInt z).toInt32 = v) (kk : J p l e R s m args below meth c D cA ad n A nL cells slots Q M (pc + 3) L (.int v :: st)) : J p l e R s m args below meth c D cA ad n A nL cells slots Q M pc L st := fun H locs ls hP hS hL => lv_sipush hX.ex hX.by (hX.dec hk) hv (kk H locs ls hP hS hL)
theorem J.ldcw (hX : Cx p s m args meth c D cA ad n A sa cc nL own kt) (i : Nat) {v : Int32} {ix : Nat} (hk : kt[i]? = some (pc, .ldc_w ix, 3)) (hw : Cond.constant own ix v ∈ wsL_law) (kk : J p l e R s m args below meth c D cA ad n A nL cells slots Q M (pc + 3) L (.int v :: st)) : J p l e R s m args below meth c D cA ad n A nL cells slots Q M pc L st := fun H locs ls hP hS hL => lv_ldcw hX.ex hX.by hX.ow (hX.ws _ hw) (hX.dec hk) (kk H locs ls hP hS hL)
theorem J.iload_n (hX : Cx p s m args meth c D cA ad n A sa cc nL own kt) (i : Nat) {k : Fin 4} {x : Int32} (q : Nat) (hk : kt[i]? = some (pc, .iload_n k, 1)) (hl : L[q]? = some (k.val, .int x)) (kk : J p l e R s m args below meth c D cA ad n A nL cells slots Q M (pc + 1) L (.int x :: st)) : J p l e R s m args below meth c D cA ad n A nL cells slots Q M pc L st := fun H locs ls hP hS hL => lv_iload_n hX.ex hX.by (hX.dec hk) rfl (lv_at hL q hl) (kk H locs ls hP hS hL)
theorem J.iload (hX : Cx p s m args meth c D cA ad n A sa cc nL own kt) (i : Nat) {k : Nat} {x : Int32} (q : Nat) (hk : kt[i]? = some (pc, .iload k, 2)) (hl : L[q]? = some (k, .int x)) (kk : J p l e R s m args below meth c D cA ad n A nL cells slots Q M (pc + 2) L (.int x :: st)) : J p l e R s m args below meth c D cA ad n A nL cells slots Q M pc L st := fun H locs ls hP hS hL => lv_iload hX.ex hX.by (hX.dec hk) (lv_at hL q hl) (kk H locs ls hP hS hL)
theorem J.aload_n (hX : Cx p s m args meth c D cA ad n A sa cc nL own kt) (i : Nat) {k : Fin 4} {x : Nat} (q : Nat) (hk : kt[i]? = some (pc, .aload_n k, 1)) (hl : L[q]? = some (k.val, .ref x)) (kk : J p l e R s m args below meth c D cA ad n A nL cells slots Q M (pc + 1) L (.ref x :: st)) : J p l e R s m args below meth c D cA ad n A nL cells slots Q M pc L st := fun H locs ls hP hS hL => lv_aload_n hX.ex hX.by (hX.dec hk) rfl (lv_at hL q hl) (kk H locs ls hP hS hL)
theorem J.aload (hX : Cx p s m args meth c D cA ad n A sa cc nL own kt) (i : Nat) {k : Nat} {x : Nat} (q : Nat) (hk : kt[i]? = some (pc, .aload k, 2)) (hl : L[q]? = some (k, .ref x)) (kk : J p l e R s m args below meth c D cA ad n A nL cells slots Q M (pc + 2) L (.ref x :: st)) : J p l e R s m args below meth c D cA ad n A nL cells slots Q M pc L st := fun H locs ls hP hS hL => lv_aload hX.ex hX.by (hX.dec hk) (lv_at hL q hl) (kk H locs ls hP hS hL)
theorem J.istore_n (hX : Cx p s m args meth c D cA ad n A sa cc nL own kt) (i : Nat) {k : Fin 4} {x : Int32} {L' : List (Nat × Value)} (hk : kt[i]? = some (pc, .istore_n k, 1)) (hn : k.val < nL) (hl : (k.val, Value.int x) :: L.filter (fun q => !(q.1 == k.val) && !(q.1 + 1 == k.val && q.2.category == 2)) = L') (kk : J p l e R s m args below meth c D cA ad n A nL cells slots Q M (pc + 1) L' st) : J p l e R s m args below meth c D cA ad n A nL cells slots Q M pc L (.int x :: st) := fun H locs ls hP hS hL => lv_istore_n hX.ex hX.by (hX.dec hk) rfl hL hn hl (fun ls hL => (kk H locs ls hP hS hL))
theorem J.istore (hX : Cx p s m args meth c D cA ad n A sa cc nL own kt) (i : Nat) {k : Nat} {x : Int32} {L' : List (Nat × Value)} (hk : kt[i]? = some (pc, .istore k, 2)) (hn : k < nL) (hl : (k, Value.int x) :: L.filter (fun q => !(q.1 == k) && !(q.1 + 1 == k && q.2.category == 2)) = L') (kk : J p l e R s m args below meth c D cA ad n A nL cells slots Q M (pc + 2) L' st) : J p l e R s m args below meth c D cA ad n A nL cells slots Q M pc L (.int x :: st) := fun H locs ls hP hS hL => lv_istore hX.ex hX.by (hX.dec hk) hL hn hl (fun ls hL => (kk H locs ls hP hS hL))
theorem J.astore_n (hX : Cx p s m args meth c D cA ad n A sa cc nL own kt) (i : Nat) {k : Fin 4} {x : Nat} {L' : List (Nat × Value)} (hk : kt[i]? = some (pc, .astore_n k, 1)) (hn : k.val < nL) (hl : (k.val, Value.ref x) :: L.filter (fun q => !(q.1 == k.val) && !(q.1 + 1 == k.val && q.2.category == 2)) = L') (kk : J p l e R s m args below meth c D cA ad n A nL cells slots Q M (pc + 1) L' st) : J p l e R s m args below meth c D cA ad n A nL cells slots Q M pc L (.ref x :: st) := fun H locs ls hP hS hL => lv_astore_n hX.ex hX.by (hX.dec hk) rfl hL hn hl (fun ls hL => (kk H locs ls hP hS hL))
theorem J.astore (hX : Cx p s m args meth c D cA ad n A sa cc nL own kt) (i : Nat) {k : Nat} {x : Nat} {L' : List (Nat × Value)} (hk : kt[i]? = some (pc, .astore k, 2)) (hn : k < nL) (hl : (k, Value.ref x) :: L.filter (fun q => !(q.1 == k) && !(q.1 + 1 == k && q.2.category == 2)) = L') (kk : J p l e R s m args below meth c D cA ad n A nL cells slots Q M (pc + 2) L' st) : J p l e R s m args below meth c D cA ad n A nL cells slots Q M pc L (.ref x :: st) := fun H locs ls hP hS hL => lv_astore hX.ex hX.by (hX.dec hk) hL hn hl (fun ls hL => (kk H locs ls hP hS hL))
theorem J.iinc (hX : Cx p s m args meth c D cA ad n A sa cc nL own kt) (i : Nat) {k q : Nat} {z : Int} {x v : Int32} {L' : List (Nat × Value)} (hk : kt[i]? = some (pc, .iinc k z, 3)) (hq : L[q]? = some (k, .int x)) (hv : x + Int32.ofInt z = v) (hn : k < nL) (hl : (k, Value.int v) :: L.filter (fun q => !(q.1 == k) && !(q.1 + 1 == k && q.2.category == 2)) = L') (kk : J p l e R s m args below meth c D cA ad n A nL cells slots Q M (pc + 3) L' st) : J p l e R s m args below meth c D cA ad n A nL cells slots Q M pc L st := fun H locs ls hP hS hL => lv_iinc hX.ex hX.by (hX.dec hk) hL hq hv hn hl (fun ls hL => (kk H locs ls hP hS hL))
theorem J.iadd (hX : Cx p s m args meth c D cA ad n A sa cc nL own kt) (i : Nat) {x y : Int32} (hk : kt[i]? = some (pc, .iadd, 1)) (kk : J p l e R s m args below meth c D cA ad n A nL cells slots Q M (pc + 1) L (.int (x + y) :: st)) : J p l e R s m args below meth c D cA ad n A nL cells slots Q M pc L (.int y :: .int x :: st) := fun H locs ls hP hS hL => lv_iadd hX.ex hX.by (hX.dec hk) (kk H locs ls hP hS hL)
theorem J.isub (hX : Cx p s m args meth c D cA ad n A sa cc nL own kt) (i : Nat) {x y : Int32} (hk : kt[i]? = some (pc, .isub, 1)) (kk : J p l e R s m args below meth c D cA ad n A nL cells slots Q M (pc + 1) L (.int (x - y) :: st)) : J p l e R s m args below meth c D cA ad n A nL cells slots Q M pc L (.int y :: .int x :: st) := fun H locs ls hP hS hL => lv_isub hX.ex hX.by (hX.dec hk) (kk H locs ls hP hS hL)
theorem J.imul (hX : Cx p s m args meth c D cA ad n A sa cc nL own kt) (i : Nat) {x y : Int32} (hk : kt[i]? = some (pc, .imul, 1)) (kk : J p l e R s m args below meth c D cA ad n A nL cells slots Q M (pc + 1) L (.int (x * y) :: st)) : J p l e R s m args below meth c D cA ad n A nL cells slots Q M pc L (.int y :: .int x :: st) := fun H locs ls hP hS hL => lv_imul hX.ex hX.by (hX.dec hk) (kk H locs ls hP hS hL)
theorem J.iand (hX : Cx p s m args meth c D cA ad n A sa cc nL own kt) (i : Nat) {x y : Int32} (hk : kt[i]? = some (pc, .iand, 1)) (kk : J p l e R s m args below meth c D cA ad n A nL cells slots Q M (pc + 1) L (.int (x &&& y) :: st)) : J p l e R s m args below meth c D cA ad n A nL cells slots Q M pc L (.int y :: .int x :: st) := fun H locs ls hP hS hL => lv_iand hX.ex hX.by (hX.dec hk) (kk H locs ls hP hS hL)
theorem J.ior (hX : Cx p s m args meth c D cA ad n A sa cc nL own kt) (i : Nat) {x y : Int32} (hk : kt[i]? = some (pc, .ior, 1)) (kk : J p l e R s m args below meth c D cA ad n A nL cells slots Q M (pc + 1) L (.int (x ||| y) :: st)) : J p l e R s m args below meth c D cA ad n A nL cells slots Q M pc L (.int y :: .int x :: st) := fun H locs ls hP hS hL => lv_ior hX.ex hX.by (hX.dec hk) (kk H locs ls hP hS hL)
theorem J.ixor (hX : Cx p s m args meth c D cA ad n A sa cc nL own kt) (i : Nat) {x y : Int32} (hk : kt[i]? = some (pc, .ixor, 1)) (kk : J p l e R s m args below meth c D cA ad n A nL cells slots Q M (pc + 1) L (.int (x ^^^ y) :: st)) : J p l e R s m args below meth c D cA ad n A nL cells slots Q M pc L (.int y :: .int x :: st) := fun H locs ls hP hS hL => lv_ixor hX.ex hX.by (hX.dec hk) (kk H locs ls hP hS hL)
theorem J.ishl (hX : Cx p s m args meth c D cA ad n A sa cc nL own kt) (i : Nat) {x y : Int32} (hk : kt[i]? = some (pc, .ishl, 1)) (kk : J p l e R s m args below meth c D cA ad n A nL cells slots Q M (pc + 1) L (.int (x <<< (y &&& 31)) :: st)) : J p l e R s m args below meth c D cA ad n A nL cells slots Q M pc L (.int y :: .int x :: st) := fun H locs ls hP hS hL => lv_ishl hX.ex hX.by (hX.dec hk) (kk H locs ls hP hS hL)
theorem J.ishr (hX : Cx p s m args meth c D cA ad n A sa cc nL own kt) (i : Nat) {x y : Int32} (hk : kt[i]? = some (pc, .ishr, 1)) (kk : J p l e R s m args below meth c D cA ad n A nL cells slots Q M (pc + 1) L (.int (x >>> (y &&& 31)) :: st)) : J p l e R s m args below meth c D cA ad n A nL cells slots Q M pc L (.int y :: .int x :: st) := fun H locs ls hP hS hL => lv_ishr hX.ex hX.by (hX.dec hk) (kk H locs ls hP hS hL)
theorem J.iushr (hX : Cx p s m args meth c D cA ad n A sa cc nL own kt) (i : Nat) {x y : Int32} (hk : kt[i]? = some (pc, .iushr, 1)) (kk : J p l e R s m args below meth c D cA ad n A nL cells slots Q M (pc + 1) L (.int (x.toUInt32 >>> (y.toUInt32 &&& Int32.toUInt32 31)).toInt32 :: st)) : J p l e R s m args below meth c D cA ad n A nL cells slots Q M pc L (.int y :: .int x :: st) := fun H locs ls hP hS hL => lv_iushr hX.ex hX.by (hX.dec hk) rfl (kk H locs ls hP hS hL)
theorem J.idiv (hX : Cx p s m args meth c D cA ad n A sa cc nL own kt) (i : Nat) {x y : Int32} (hk : kt[i]? = some (pc, .idiv, 1)) (hy : ¬ y = 0) (kk : J p l e R s m args below meth c D cA ad n A nL cells slots Q M (pc + 1) L (.int (x / y) :: st)) : J p l e R s m args below meth c D cA ad n A nL cells slots Q M pc L (.int y :: .int x :: st) := fun H locs ls hP hS hL => lv_idiv hX.ex hX.by (hX.dec hk) hy (kk H locs ls hP hS hL)
theorem J.irem (hX : Cx p s m args meth c D cA ad n A sa cc nL own kt) (i : Nat) {x y : Int32} (hk : kt[i]? = some (pc, .irem, 1)) (hy : ¬ y = 0) (kk : J p l e R s m args below meth c D cA ad n A nL cells slots Q M (pc + 1) L (.int (x - x / y * y) :: st)) : J p l e R s m args below meth c D cA ad n A nL cells slots Q M pc L (.int y :: .int x :: st) := fun H locs ls hP hS hL => lv_irem hX.ex hX.by (hX.dec hk) hy (kk H locs ls hP hS hL)
theorem J.ineg (hX : Cx p s m args meth c D cA ad n A sa cc nL own kt) (i : Nat) {x : Int32} (hk : kt[i]? = some (pc, .ineg, 1)) (kk : J p l e R s m args below meth c D cA ad n A nL cells slots Q M (pc + 1) L (.int (-x) :: st)) : J p l e R s m args below meth c D cA ad n A nL cells slots Q M pc L (.int x :: st) := fun H locs ls hP hS hL => lv_ineg hX.ex hX.by (hX.dec hk) (kk H locs ls hP hS hL)
theorem J.dup (hX : Cx p s m args meth c D cA ad n A sa cc nL own kt) (i : Nat) {v : Value} (hk : kt[i]? = some (pc, .dup, 1)) (hv : v.category = 1) (kk : J p l e R s m args below meth c D cA ad n A nL cells slots Q M (pc + 1) L (v :: v :: st)) : J p l e R s m args below meth c D cA ad n A nL cells slots Q M pc L (v :: st) := fun H locs ls hP hS hL => lv_dup hX.ex hX.by (hX.dec hk) hv (kk H locs ls hP hS hL)
theorem J.dup2 (hX : Cx p s m args meth c D cA ad n A sa cc nL own kt) (i : Nat) {v w : Value} (hk : kt[i]? = some (pc, .dup2, 1)) (hv : v.category = 1) (hw : w.category = 1) (kk : J p l e R s m args below meth c D cA ad n A nL cells slots Q M (pc + 1) L (v :: w :: v :: w :: st)) : J p l e R s m args below meth c D cA ad n A nL cells slots Q M pc L (v :: w :: st) := fun H locs ls hP hS hL => lv_dup2_11 hX.ex hX.by (hX.dec hk) hv hw (kk H locs ls hP hS hL)
theorem J.pop (hX : Cx p s m args meth c D cA ad n A sa cc nL own kt) (i : Nat) {v : Value} (hk : kt[i]? = some (pc, .pop, 1)) (hv : v.category = 1) (kk : J p l e R s m args below meth c D cA ad n A nL cells slots Q M (pc + 1) L st) : J p l e R s m args below meth c D cA ad n A nL cells slots Q M pc L (v :: st) := fun H locs ls hP hS hL => lv_pop hX.ex hX.by (hX.dec hk) hv (kk H locs ls hP hS hL)
theorem J.i2l (hX : Cx p s m args meth c D cA ad n A sa cc nL own kt) (i : Nat) {x : Int32} (hk : kt[i]? = some (pc, .i2l, 1)) (kk : J p l e R s m args below meth c D cA ad n A nL cells slots Q M (pc + 1) L (.long x.toInt64 :: st)) : J p l e R s m args below meth c D cA ad n A nL cells slots Q M pc L (.int x :: st) := fun H locs ls hP hS hL => lv_i2l hX.ex hX.by (hX.dec hk) rfl (kk H locs ls hP hS hL)
theorem J.goto (hX : Cx p s m args meth c D cA ad n A sa cc nL own kt) (i : Nat) {off : Int} {tgt : Nat} (hk : kt[i]? = some (pc, .goto off, 3)) (ht : (pc : Int) + off = (tgt : Int)) (kk : J p l e R s m args below meth c D cA ad n A nL cells slots Q M tgt L st) : J p l e R s m args below meth c D cA ad n A nL cells slots Q M pc L st := fun H locs ls hP hS hL => lv_goto hX.ex hX.by (hX.dec hk) ht (kk H locs ls hP hS hL)
theorem J.if_eq (hX : Cx p s m args meth c D cA ad n A sa cc nL own kt) (i : Nat) {x : Int32} {off : Int} {tgt : Nat} (hk : kt[i]? = some (pc, .ifCond .eq off, 3)) (ht : (pc : Int) + off = (tgt : Int)) (k1 : x = 0 → J p l e R s m args below meth c D cA ad n A nL cells slots Q M tgt L st) (k2 : ¬ x = 0 → J p l e R s m args below meth c D cA ad n A nL cells slots Q M (pc + 3) L st) : J p l e R s m args below meth c D cA ad n A nL cells slots Q M pc L (.int x :: st) := fun H locs ls hP hS hL => lv_if_eq hX.ex hX.by (hX.dec hk) ht (fun h => k1 h H locs ls hP hS hL) (fun h => k2 h H locs ls hP hS hL)
theorem J.icmp_eq (hX : Cx p s m args meth c D cA ad n A sa cc nL own kt) (i : Nat) {x y : Int32} {off : Int} {tgt : Nat} (hk : kt[i]? = some (pc, .if_icmp .eq off, 3)) (ht : (pc : Int) + off = (tgt : Int)) (k1 : x = y → J p l e R s m args below meth c D cA ad n A nL cells slots Q M tgt L st) (k2 : ¬ x = y → J p l e R s m args below meth c D cA ad n A nL cells slots Q M (pc + 3) L st) : J p l e R s m args below meth c D cA ad n A nL cells slots Q M pc L (.int y :: .int x :: st) := fun H locs ls hP hS hL => lv_icmp_eq hX.ex hX.by (hX.dec hk) ht (fun h => k1 h H locs ls hP hS hL) (fun h => k2 h H locs ls hP hS hL)
theorem J.if_ne (hX : Cx p s m args meth c D cA ad n A sa cc nL own kt) (i : Nat) {x : Int32} {off : Int} {tgt : Nat} (hk : kt[i]? = some (pc, .ifCond .ne off, 3)) (ht : (pc : Int) + off = (tgt : Int)) (k1 : ¬ x = 0 → J p l e R s m args below meth c D cA ad n A nL cells slots Q M tgt L st) (k2 : x = 0 → J p l e R s m args below meth c D cA ad n A nL cells slots Q M (pc + 3) L st) : J p l e R s m args below meth c D cA ad n A nL cells slots Q M pc L (.int x :: st) := fun H locs ls hP hS hL => lv_if_ne hX.ex hX.by (hX.dec hk) ht (fun h => k1 h H locs ls hP hS hL) (fun h => k2 h H locs ls hP hS hL)
theorem J.icmp_ne (hX : Cx p s m args meth c D cA ad n A sa cc nL own kt) (i : Nat) {x y : Int32} {off : Int} {tgt : Nat} (hk : kt[i]? = some (pc, .if_icmp .ne off, 3)) (ht : (pc : Int) + off = (tgt : Int)) (k1 : ¬ x = y → J p l e R s m args below meth c D cA ad n A nL cells slots Q M tgt L st) (k2 : x = y → J p l e R s m args below meth c D cA ad n A nL cells slots Q M (pc + 3) L st) : J p l e R s m args below meth c D cA ad n A nL cells slots Q M pc L (.int y :: .int x :: st) := fun H locs ls hP hS hL => lv_icmp_ne hX.ex hX.by (hX.dec hk) ht (fun h => k1 h H locs ls hP hS hL) (fun h => k2 h H locs ls hP hS hL)
theorem J.if_lt (hX : Cx p s m args meth c D cA ad n A sa cc nL own kt) (i : Nat) {x : Int32} {off : Int} {tgt : Nat} (hk : kt[i]? = some (pc, .ifCond .lt off, 3)) (ht : (pc : Int) + off = (tgt : Int)) (k1 : x < 0 → J p l e R s m args below meth c D cA ad n A nL cells slots Q M tgt L st) (k2 : ¬ x < 0 → J p l e R s m args below meth c D cA ad n A nL cells slots Q M (pc + 3) L st) : J p l e R s m args below meth c D cA ad n A nL cells slots Q M pc L (.int x :: st) := fun H locs ls hP hS hL => lv_if_lt hX.ex hX.by (hX.dec hk) ht (fun h => k1 h H locs ls hP hS hL) (fun h => k2 h H locs ls hP hS hL)
theorem J.icmp_lt (hX : Cx p s m args meth c D cA ad n A sa cc nL own kt) (i : Nat) {x y : Int32} {off : Int} {tgt : Nat} (hk : kt[i]? = some (pc, .if_icmp .lt off, 3)) (ht : (pc : Int) + off = (tgt : Int)) (k1 : x < y → J p l e R s m args below meth c D cA ad n A nL cells slots Q M tgt L st) (k2 : ¬ x < y → J p l e R s m args below meth c D cA ad n A nL cells slots Q M (pc + 3) L st) : J p l e R s m args below meth c D cA ad n A nL cells slots Q M pc L (.int y :: .int x :: st) := fun H locs ls hP hS hL => lv_icmp_lt hX.ex hX.by (hX.dec hk) ht (fun h => k1 h H locs ls hP hS hL) (fun h => k2 h H locs ls hP hS hL)
theorem J.if_ge (hX : Cx p s m args meth c D cA ad n A sa cc nL own kt) (i : Nat) {x : Int32} {off : Int} {tgt : Nat} (hk : kt[i]? = some (pc, .ifCond .ge off, 3)) (ht : (pc : Int) + off = (tgt : Int)) (k1 : 0 ≤ x → J p l e R s m args below meth c D cA ad n A nL cells slots Q M tgt L st) (k2 : ¬ 0 ≤ x → J p l e R s m args below meth c D cA ad n A nL cells slots Q M (pc + 3) L st) : J p l e R s m args below meth c D cA ad n A nL cells slots Q M pc L (.int x :: st) := fun H locs ls hP hS hL => lv_if_ge hX.ex hX.by (hX.dec hk) ht (fun h => k1 h H locs ls hP hS hL) (fun h => k2 h H locs ls hP hS hL)
theorem J.icmp_ge (hX : Cx p s m args meth c D cA ad n A sa cc nL own kt) (i : Nat) {x y : Int32} {off : Int} {tgt : Nat} (hk : kt[i]? = some (pc, .if_icmp .ge off, 3)) (ht : (pc : Int) + off = (tgt : Int)) (k1 : y ≤ x → J p l e R s m args below meth c D cA ad n A nL cells slots Q M tgt L st) (k2 : ¬ y ≤ x → J p l e R s m args below meth c D cA ad n A nL cells slots Q M (pc + 3) L st) : J p l e R s m args below meth c D cA ad n A nL cells slots Q M pc L (.int y :: .int x :: st) := fun H locs ls hP hS hL => lv_icmp_ge hX.ex hX.by (hX.dec hk) ht (fun h => k1 h H locs ls hP hS hL) (fun h => k2 h H locs ls hP hS hL)
theorem J.if_gt (hX : Cx p s m args meth c D cA ad n A sa cc nL own kt) (i : Nat) {x : Int32} {off : Int} {tgt : Nat} (hk : kt[i]? = some (pc, .ifCond .gt off, 3)) (ht : (pc : Int) + off = (tgt : Int)) (k1 : 0 < x → J p l e R s m args below meth c D cA ad n A nL cells slots Q M tgt L st) (k2 : ¬ 0 < x → J p l e R s m args below meth c D cA ad n A nL cells slots Q M (pc + 3) L st) : J p l e R s m args below meth c D cA ad n A nL cells slots Q M pc L (.int x :: st) := fun H locs ls hP hS hL => lv_if_gt hX.ex hX.by (hX.dec hk) ht (fun h => k1 h H locs ls hP hS hL) (fun h => k2 h H locs ls hP hS hL)
theorem J.icmp_gt (hX : Cx p s m args meth c D cA ad n A sa cc nL own kt) (i : Nat) {x y : Int32} {off : Int} {tgt : Nat} (hk : kt[i]? = some (pc, .if_icmp .gt off, 3)) (ht : (pc : Int) + off = (tgt : Int)) (k1 : y < x → J p l e R s m args below meth c D cA ad n A nL cells slots Q M tgt L st) (k2 : ¬ y < x → J p l e R s m args below meth c D cA ad n A nL cells slots Q M (pc + 3) L st) : J p l e R s m args below meth c D cA ad n A nL cells slots Q M pc L (.int y :: .int x :: st) := fun H locs ls hP hS hL => lv_icmp_gt hX.ex hX.by (hX.dec hk) ht (fun h => k1 h H locs ls hP hS hL) (fun h => k2 h H locs ls hP hS hL)
theorem J.if_le (hX : Cx p s m args meth c D cA ad n A sa cc nL own kt) (i : Nat) {x : Int32} {off : Int} {tgt : Nat} (hk : kt[i]? = some (pc, .ifCond .le off, 3)) (ht : (pc : Int) + off = (tgt : Int)) (k1 : x ≤ 0 → J p l e R s m args below meth c D cA ad n A nL cells slots Q M tgt L st) (k2 : ¬ x ≤ 0 → J p l e R s m args below meth c D cA ad n A nL cells slots Q M (pc + 3) L st) : J p l e R s m args below meth c D cA ad n A nL cells slots Q M pc L (.int x :: st) := fun H locs ls hP hS hL => lv_if_le hX.ex hX.by (hX.dec hk) ht (fun h => k1 h H locs ls hP hS hL) (fun h => k2 h H locs ls hP hS hL)
theorem J.icmp_le (hX : Cx p s m args meth c D cA ad n A sa cc nL own kt) (i : Nat) {x y : Int32} {off : Int} {tgt : Nat} (hk : kt[i]? = some (pc, .if_icmp .le off, 3)) (ht : (pc : Int) + off = (tgt : Int)) (k1 : x ≤ y → J p l e R s m args below meth c D cA ad n A nL cells slots Q M tgt L st) (k2 : ¬ x ≤ y → J p l e R s m args below meth c D cA ad n A nL cells slots Q M (pc + 3) L st) : J p l e R s m args below meth c D cA ad n A nL cells slots Q M pc L (.int y :: .int x :: st) := fun H locs ls hP hS hL => lv_icmp_le hX.ex hX.by (hX.dec hk) ht (fun h => k1 h H locs ls hP hS hL) (fun h => k2 h H locs ls hP hS hL)
theorem en_obj {cA : Nat → ClassId} {ad : Nat → Nat} {f : Nat → Int32} {ci : Nat} {fs : List (Option Nat)} : en cA ad f (.inr (ci, fs)) = .inr (ci, fl ad f 0 fs) := rfl
theorem Wd_o {k ci : Nat} {fs : List (Option Nat)} (hk : k < n) (hs : sh0 k = .inr (ci, fs)) : (Wd cA ad n M)[k]? = some (ad k, .inr (ci, fl ad (M k) 0 fs)) := by rw [Wd_at hk, hs]; rfl
theorem Wd_i {k len : Nat} (hk : k < n) (hs : sh0 k = .inl (0, len)) : (Wd cA ad n M)[k]? = some (ad k, .inl (cA 0, len, .inl (M k))) := by rw [Wd_at hk, hs]; rfl
theorem Wd_z {k len : Nat} (hk : k < n) (hs : sh0 k = .inl (1, len)) : (Wd cA ad n M)[k]? = some (ad k, .inl (cA 1, len, .inl (M k))) := by rw [Wd_at hk, hs]; rfl
theorem Wd_l {k len : Nat} (hk : k < n) (hs : sh0 k = .inl (2, len)) : (Wd cA ad n M)[k]? = some (ad k, .inl (cA 2, len, .inr (.inl (fun i => (M k i).toInt64)))) := by rw [Wd_at hk, hs]; rfl
theorem Wd_q {k len : Nat} (hk : k < n) (hs : sh0 k = .inl (3, len)) : (Wd cA ad n M)[k]? = some (ad k, .inl (cA 3, len, .inr (.inr (.inr (.inr (fun i => dec ad (M k i))))))) := by rw [Wd_at hk, hs]; rfl
theorem Wd_os {k ci j : Nat} {fs : List (Option Nat)} {v : Int32} (hk : k < n) (hs : sh0 k = .inr (ci, fs)) (hj : fs[j]? = some none) : (Wd cA ad n M).set k (ad k, .inr (ci, (fl ad (M k) 0 fs).set j (.int v))) = Wd cA ad n (wr M k j v) := by
  rw [fl_set fs 0 j hj, Nat.zero_add]
  have := Wd_set (cA := cA) (ad := ad) (M := M) (f := upd (M k) j v) hk
  rw [hs] at this
  exact this
theorem Wd_is {k len : Nat} {f : Nat → Int32} (hk : k < n) (hs : sh0 k = .inl (0, len)) : (Wd cA ad n M).set k (ad k, .inl (cA 0, len, .inl f)) = Wd cA ad n (wrR M k f) := by
  have := Wd_set (cA := cA) (ad := ad) (M := M) (f := f) hk
  rw [hs] at this
  exact this
theorem Wd_zs {k len : Nat} {f : Nat → Int32} (hk : k < n) (hs : sh0 k = .inl (1, len)) : (Wd cA ad n M).set k (ad k, .inl (cA 1, len, .inl f)) = Wd cA ad n (wrR M k f) := by
  have := Wd_set (cA := cA) (ad := ad) (M := M) (f := f) hk
  rw [hs] at this
  exact this
theorem Wd_ls {k len i : Nat} {v : Int32} (hk : k < n) (hs : sh0 k = .inl (2, len)) : (Wd cA ad n M).set k (ad k, .inl (cA 2, len, .inr (.inl (vp_updL (fun i => (M k i).toInt64) i v.toInt64)))) = Wd cA ad n (wr M k i v) := by
  have := Wd_set (cA := cA) (ad := ad) (M := M) (f := upd (M k) i v) hk
  rw [hs] at this
  rw [show vp_updL (fun i => (M k i).toInt64) i v.toInt64 = (fun j => (upd (M k) i v j).toInt64) from by funext j; unfold vp_updL upd; split <;> rfl]
  exact this
theorem J.getI (hX : Cx p s m args meth c D cA ad n A sa cc nL own kt) (i : Nat) (k ci : Nat) {fs : List (Option Nat)} {C : String} {T : u_T} {N ix : Nat} (hkn : k < n) (hs : sh0 k = .inr (ci, fs)) (hc : cls6[ci]? = some (C, T, N)) (hin : ∀ w ∈ u_ws C T N, w ∈ wsL_law) (j : Nat) (hj : j < N) (hw : Cond.fieldLink own ix (T j).1 (T j).2.1 (T j).2.2.1 ∈ wsL_law) (hf : fs[j]? = some none) (hk : kt[i]? = some (pc, .getfield ix, 3)) (kk : J p l e R s m args below meth c D cA ad n A nL cells slots Q M (pc + 3) L (.int (M k j) :: st)) : J p l e R s m args below meth c D cA ad n A nL cells slots Q M pc L (.ref (ad k) :: st) := fun H locs ls hP hS hL => va_get (D := D) (ci := ci) hX.ex hX.by hX.ws hin hX.ow hX.kn hP k (Wd_o hkn hs) hc j hj (hX.ws _ hw) (fun _ h => h) (by have := fl_int (ad := ad) (f := M k) fs 0 j hf; rwa [Nat.zero_add] at this) (hX.dec hk) (kk H locs ls hP hS hL)
theorem J.getR (hX : Cx p s m args meth c D cA ad n A sa cc nL own kt) (i : Nat) (k ci : Nat) {fs : List (Option Nat)} {C : String} {T : u_T} {N ix : Nat} (hkn : k < n) (hs : sh0 k = .inr (ci, fs)) (hc : cls6[ci]? = some (C, T, N)) (hin : ∀ w ∈ u_ws C T N, w ∈ wsL_law) (j : Nat) (hj : j < N) (hw : Cond.fieldLink own ix (T j).1 (T j).2.1 (T j).2.2.1 ∈ wsL_law) {q : Nat} (hf : fs[j]? = some (some q)) (hk : kt[i]? = some (pc, .getfield ix, 3)) (kk : J p l e R s m args below meth c D cA ad n A nL cells slots Q M (pc + 3) L (.ref (ad q) :: st)) : J p l e R s m args below meth c D cA ad n A nL cells slots Q M pc L (.ref (ad k) :: st) := fun H locs ls hP hS hL => va_get (D := D) (ci := ci) hX.ex hX.by hX.ws hin hX.ow hX.kn hP k (Wd_o hkn hs) hc j hj (hX.ws _ hw) (fun _ h => h) (fl_ref (ad := ad) (f := M k) fs 0 j hf) (hX.dec hk) (kk H locs ls hP hS hL)
theorem J.putI (hX : Cx p s m args meth c D cA ad n A sa cc nL own kt) (i : Nat) (k ci : Nat) {fs : List (Option Nat)} {C : String} {T : u_T} {N ix : Nat} (hkn : k < n) (hs : sh0 k = .inr (ci, fs)) (hc : cls6[ci]? = some (C, T, N)) (hin : ∀ w ∈ u_ws C T N, w ∈ wsL_law) (j : Nat) (hj : j < N) (hw : Cond.fieldLink own ix (T j).1 (T j).2.1 (T j).2.2.1 ∈ wsL_law) {v : Int32} (ty0 : Nat → FieldType) (hty : ∀ k, k < N → parseFieldDescriptor (T k).2.2.1 = some (ty0 k)) (hnm : ∀ a, a < N → ∀ b, b < N → a ≠ b → (T a).2.1 ≠ (T b).2.1) (hf : fs[j]? = some none) (hfin : (T j).2.2.2 = false) (hd : parseFieldDescriptor (T j).2.2.1 = some .int) (hk : kt[i]? = some (pc, .putfield ix, 3)) (kk : J p l e R s m args below meth c D cA ad n A nL cells slots Q (wr M k j v) (pc + 3) L st) : J p l e R s m args below meth c D cA ad n A nL cells slots Q M pc L (.int v :: .ref (ad k) :: st) := fun H locs ls hP hS hL => va_put (D := D) (ci := ci) (ty := .int) hX.ex hX.by hX.ws hin ty0 hty hnm hX.ow hX.kn hP (hX.dd.D cA M) hS k (Wd_o hkn hs) hc j hj (hX.ws _ hw) (fun _ h => h) hfin hd rfl rfl (by rw [fl_len]; exact (List.getElem?_eq_some_iff.mp hf).1) (hX.dec hk) (fun H locs hP _ hS => kk H locs ls (by rw [Wd_os hkn hs hf] at hP; exact hP) hS hL)
theorem J.iald (hX : Cx p s m args meth c D cA ad n A sa cc nL own kt) (i : Nat) (k : Nat) {len : Nat} {x : Int32} (hkn : k < n) (hs : sh0 k = .inl (0, len)) (hb : vp_in x len) (hk : kt[i]? = some (pc, .iaload, 1)) (kk : J p l e R s m args below meth c D cA ad n A nL cells slots Q M (pc + 1) L (.int (M k x.toNatClampNeg) :: st)) : J p l e R s m args below meth c D cA ad n A nL cells slots Q M pc L (.int x :: .ref (ad k) :: st) := fun H locs ls hP hS hL => va_iald hX.ex hX.by hX.kn hP k 0 (Wd_i hkn hs) rfl hb (hX.dec hk) (kk H locs ls hP hS hL)
theorem J.zald (hX : Cx p s m args meth c D cA ad n A sa cc nL own kt) (i : Nat) (k : Nat) {len : Nat} {x : Int32} (hkn : k < n) (hs : sh0 k = .inl (1, len)) (hb : vp_in x len) (hk : kt[i]? = some (pc, .baload, 1)) (kk : J p l e R s m args below meth c D cA ad n A nL cells slots Q M (pc + 1) L (.int (M k x.toNatClampNeg) :: st)) : J p l e R s m args below meth c D cA ad n A nL cells slots Q M pc L (.int x :: .ref (ad k) :: st) := fun H locs ls hP hS hL => va_zald hX.ex hX.by hX.kn hP k 1 (Wd_z hkn hs) rfl hb (hX.dec hk) (kk H locs ls hP hS hL)
theorem J.lald (hX : Cx p s m args meth c D cA ad n A sa cc nL own kt) (i : Nat) (k : Nat) {len : Nat} {x : Int32} (hkn : k < n) (hs : sh0 k = .inl (2, len)) (hb : vp_in x len) (hk : kt[i]? = some (pc, .laload, 1)) (kk : J p l e R s m args below meth c D cA ad n A nL cells slots Q M (pc + 1) L (.long (M k x.toNatClampNeg).toInt64 :: st)) : J p l e R s m args below meth c D cA ad n A nL cells slots Q M pc L (.int x :: .ref (ad k) :: st) := fun H locs ls hP hS hL => va_lald hX.ex hX.by hX.kn hP k 2 (Wd_l hkn hs) rfl hb (hX.dec hk) (kk H locs ls hP hS hL)
theorem J.aald (hX : Cx p s m args meth c D cA ad n A sa cc nL own kt) (i : Nat) (k : Nat) {len : Nat} {x : Int32} (hkn : k < n) (hs : sh0 k = .inl (3, len)) (hb : vp_in x len) (hk : kt[i]? = some (pc, .aaload, 1)) (kk : J p l e R s m args below meth c D cA ad n A nL cells slots Q M (pc + 1) L (va_rf (dec ad (M k x.toNatClampNeg)) :: st)) : J p l e R s m args below meth c D cA ad n A nL cells slots Q M pc L (.int x :: .ref (ad k) :: st) := fun H locs ls hP hS hL => va_aldq hX.ex hX.by hX.kn hP k 3 (Wd_q hkn hs) rfl hb (hX.dec hk) (kk H locs ls hP hS hL)
theorem J.iast (hX : Cx p s m args meth c D cA ad n A sa cc nL own kt) (i : Nat) (k : Nat) {len : Nat} {x : Int32} (hkn : k < n) (hs : sh0 k = .inl (0, len)) (hb : vp_in x len) {v : Int32} (hk : kt[i]? = some (pc, .iastore, 1)) (kk : J p l e R s m args below meth c D cA ad n A nL cells slots Q (wr M k x.toNatClampNeg v) (pc + 1) L st) : J p l e R s m args below meth c D cA ad n A nL cells slots Q M pc L (.int v :: .int x :: .ref (ad k) :: st) := fun H locs ls hP hS hL => va_iast hX.ex hX.by hX.kn hP (hX.dd.D cA M) hS k 0 (Wd_i hkn hs) rfl hb (hX.dec hk) (fun H locs hP _ hS => kk H locs ls (by rw [Wd_is hkn hs] at hP; exact hP) hS hL)
theorem J.zast (hX : Cx p s m args meth c D cA ad n A sa cc nL own kt) (i : Nat) (k : Nat) {len : Nat} {x : Int32} (hkn : k < n) (hs : sh0 k = .inl (1, len)) (hb : vp_in x len) {v : Int32} (hv : vp_nar .boolean v = v) (hk : kt[i]? = some (pc, .bastore, 1)) (kk : J p l e R s m args below meth c D cA ad n A nL cells slots Q (wr M k x.toNatClampNeg v) (pc + 1) L st) : J p l e R s m args below meth c D cA ad n A nL cells slots Q M pc L (.int v :: .int x :: .ref (ad k) :: st) := fun H locs ls hP hS hL => va_zast hX.ex hX.by hX.kn hP (hX.dd.D cA M) hS k 1 (Wd_z hkn hs) rfl hb (hX.dec hk) (fun H locs hP _ hS => kk H locs ls (by rw [hv, Wd_zs hkn hs] at hP; exact hP) hS hL)
theorem J.last (hX : Cx p s m args meth c D cA ad n A sa cc nL own kt) (i : Nat) (k : Nat) {len : Nat} {x : Int32} (hkn : k < n) (hs : sh0 k = .inl (2, len)) (hb : vp_in x len) {v : Int32} (hk : kt[i]? = some (pc, .lastore, 1)) (kk : J p l e R s m args below meth c D cA ad n A nL cells slots Q (wr M k x.toNatClampNeg v) (pc + 1) L st) : J p l e R s m args below meth c D cA ad n A nL cells slots Q M pc L (.long v.toInt64 :: .int x :: .ref (ad k) :: st) := fun H locs ls hP hS hL => va_last hX.ex hX.by hX.kn hP (hX.dd.D cA M) hS k 2 (Wd_l hkn hs) rfl hb (hX.dec hk) (fun H locs hP _ hS => kk H locs ls (by rw [Wd_ls hkn hs] at hP; exact hP) hS hL)
theorem J.alen (hX : Cx p s m args meth c D cA ad n A sa cc nL own kt) (i : Nat) (k : Nat) {len : Nat} {v : Int32} (hkn : k < n) (hs : sh0 k = .inl (0, len)) (hv : Int32.ofNat len = v) (hk : kt[i]? = some (pc, .arraylength, 1)) (kk : J p l e R s m args below meth c D cA ad n A nL cells slots Q M (pc + 1) L (.int v :: st)) : J p l e R s m args below meth c D cA ad n A nL cells slots Q M pc L (.ref (ad k) :: st) := fun H locs ls hP hS hL => va_alen hX.ex hX.by hX.kn hP k 0 (Wd_i hkn hs) rfl hv (hX.dec hk) (kk H locs ls hP hS hL)
theorem J.ifnull (hX : Cx p s m args meth c D cA ad n A sa cc nL own kt) (i : Nat) {v : Int32} {off : Int} {tgt : Nat} (hk : kt[i]? = some (pc, .ifnull off, 3)) (ht : (pc : Int) + off = (tgt : Int)) (k1 : v = 0 → J p l e R s m args below meth c D cA ad n A nL cells slots Q M tgt L st) (k2 : ¬ v = 0 → J p l e R s m args below meth c D cA ad n A nL cells slots Q M (pc + 3) L st) : J p l e R s m args below meth c D cA ad n A nL cells slots Q M pc L (va_rf (dec ad v) :: st) := fun H locs ls hP hS hL => by
  by_cases h : v = 0
  · rw [show va_rf (dec ad v) = .null from by simp [dec, h, va_rf]]
    exact lv_ifnullN hX.ex hX.by (hX.dec hk) ht (k1 h H locs ls hP hS hL)
  · rw [show va_rf (dec ad v) = .ref (ad v.toNatClampNeg) from by simp [dec, h, va_rf]]
    exact lv_ifnull hX.ex hX.by (hX.dec hk) (k2 h H locs ls hP hS hL)
theorem J.ifnonnull (hX : Cx p s m args meth c D cA ad n A sa cc nL own kt) (i : Nat) {v : Int32} {off : Int} {tgt : Nat} (hk : kt[i]? = some (pc, .ifnonnull off, 3)) (ht : (pc : Int) + off = (tgt : Int)) (k1 : ¬ v = 0 → J p l e R s m args below meth c D cA ad n A nL cells slots Q M tgt L st) (k2 : v = 0 → J p l e R s m args below meth c D cA ad n A nL cells slots Q M (pc + 3) L st) : J p l e R s m args below meth c D cA ad n A nL cells slots Q M pc L (va_rf (dec ad v) :: st) := fun H locs ls hP hS hL => by
  by_cases h : v = 0
  · rw [show va_rf (dec ad v) = .null from by simp [dec, h, va_rf]]
    exact lv_ifnonnullN hX.ex hX.by (hX.dec hk) (k2 h H locs ls hP hS hL)
  · rw [show va_rf (dec ad v) = .ref (ad v.toNatClampNeg) from by simp [dec, h, va_rf]]
    exact lv_ifnonnull hX.ex hX.by (hX.dec hk) ht (k1 h H locs ls hP hS hL)
end JR
end
section
/-! CONTRACTS: 'from the memory M with the arguments av the method comes to out (returned, or thrown: the class) with the memory M1'. -/
def oc (out : Option Value ⊕ String) : Nat := match out with
  | .inl _ => 0
  | .inr _ => 1
def os (out : Option Value ⊕ String) : Nat := match out with
  | .inl _ => 0
  | .inr _ => 6
def PP (D : va_G) (cA : Nat → ClassId) (ad : Nat → Nat) (n : Nat) (A : Nat → Prop) (sa : Nat → Nat) (M : Mem) : State → Prop := fun U =>
  va_P D cls6 (Wd cA ad n M) U.heap ∧ va_K D cls6 (ty4 cA) U ∧ Dd A ad n ∧ (∀ q, U.heap.size ≤ q → A q) ∧ 49 ≤ n ∧ KS A sa U U.heap
def QQ (D : va_G) (cA : Nat → ClassId) (ad : Nat → Nat) (n : Nat) (A : Nat → Prop) (out : Option Value ⊕ String) (M1 : Mem) : Array Value → State → Outcome → State → Prop := fun _ st o t =>
  ∃ v, out = .inl v ∧ o = .returned v ∧ va_P D cls6 (Wd cA ad n M1) t.heap ∧ va_F A st t
def XX (D : va_G) (cA : Nat → ClassId) (ad : Nat → Nat) (n : Nat) (A : Nat → Prop) (out : Option Value ⊕ String) (M1 : Mem) : String → State → State → Prop := fun E st t =>
  out = .inr E ∧ va_P D cls6 (Wd cA ad n M1) t.heap ∧ va_F A st t
abbrev rm4 (fr lo : Nat) (out : Option Value ⊕ String) : Room := { frames := fr, cells := oc out, slots := os out, locals := lo }
def CT (l : Launch) (D : va_G) (cA : Nat → ClassId) (ad : Nat → Nat) (n : Nat) (A : Nat → Prop) (sa : Nat → Nat) (y : MethodName) (cc : ByteArray) (maxL : Nat) (ret : Option FieldType) (fr lo : Nat) (av : List Value) (M : Mem) (out : Option Value ⊕ String) (M1 : Mem) : Prop :=
  vx_Met l y (Cond.code y cc maxL ret :: wsL_law) (rm4 fr lo out) (va_Pc av (PP D cA ad n A sa M)) (QQ D cA ad n A out M1) (XX D cA ad n A out M1) (oc out) (os out) A
theorem KS.moved {A : Nat → Prop} {sa : Nat → Nat} {u U : State} {H : Heap} (hW : u.WarmedH U.vm) (h : KS A sa u H) : KS A sa U H :=
  ⟨vx_Zq.moved hW.alike h.1, vx_Zq.moved hW.alike h.2.1, vk_R.warm hW h.2.2.1, vk_R.warm hW h.2.2.2.1, vk_R.warm hW h.2.2.2.2⟩
theorem KS.kept {A : Nat → Prop} {sa : Nat → Nat} {U : State} {H H1 : Heap} (h : KS A sa U H) (hq : ∀ a : Nat, a < H.size → ¬ A a → H1[a]? = H[a]?) : KS A sa U H1 :=
  ⟨h.1.kept hq, h.2.1.kept hq, h.2.2⟩
theorem PP.blind {D : va_G} {cA : Nat → ClassId} {ad : Nat → Nat} {n : Nat} {A : Nat → Prop} {sa : Nat → Nat} {M : Mem} {av : List Value} : FrameBlind (va_Pc av (PP D cA ad n A sa M)) := by
  intro a U g mk q
  obtain ⟨q0, q1, q2, q3, q4, q5, q6⟩ := q
  have q7 : KS A sa (U.calling g mk a) U.heap := ⟨vx_Zq.moved (u := U) (U := U.calling g mk a) (Vm.Alike.refl U.vm) q6.1, vx_Zq.moved (u := U) (U := U.calling g mk a) (Vm.Alike.refl U.vm) q6.2.1, vk_R.same (u := U) (U := U.calling g mk a) rfl q6.2.2.1, vk_R.same (u := U) (U := U.calling g mk a) rfl q6.2.2.2.1, vk_R.same (u := U) (U := U.calling g mk a) rfl q6.2.2.2.2⟩
  exact ⟨q0, q1, va_K.moved (u := U) (U := U.calling g mk a) (Vm.Alike.refl U.vm) q2, q3, q4, q5, q7⟩
section JC
variable {p : Program} {l : Launch} {e : Env} {R : Room} {s : State} {m : MethodId} {args : Array Value} {below : List Frame} {meth : Method} {c : Code} {D : va_G} {cA : Nat → ClassId} {ad : Nat → Nat} {n : Nat} {A : Nat → Prop} {sa : Nat → Nat} {nL cells slots : Nat} {Q : State → Prop} {cc : ByteArray} {own : String} {kt : List (Nat × Instr × Nat)} {M M1 : Mem} {pc : Nat} {L : List (Nat × Value)} {st : List Value}
theorem PP.here (hX : Cx p s m args meth c D cA ad n A sa cc nL own kt) {H : Heap} {locs : List Loc} (hP : va_P D cls6 (Wd cA ad n M) H) (hS : va_S A s.heap H locs) : ∀ U : State, U.heap = H → s.WarmedH U.vm → PP D cA ad n A sa M U := by
  intro U hU hW
  refine ⟨by rw [hU]; exact hP, va_K.moved hW.alike hX.kn, hX.dd, fun q hq => hX.hA q ?_, hX.n49, ?_⟩
  · rw [hU] at hq
    exact Nat.le_trans hS.1 hq
  · rw [hU]
    exact KS.moved hW (hX.ks.kept hS.2.1)
theorem CT.of {y : MethodName} {maxL : Nat} {ret : Option FieldType} {fr lo : Nat} {av : List Value} {out : Option Value ⊕ String} (hy : plainName y.cls = true) (hkt : ∀ (i : Nat) (q : Nat × Instr × Nat), kt[i]? = some q → decode cc q.1 = .ok q.2) (hlen : (lg_sl av).length ≤ maxL)
    (body : ∀ (p : Program) (e : Env) (s : State) (m : MethodId) (args : Array Value) (below : List Frame) (meth : Method) (c : Code), Cx p s m args meth c D cA ad n A sa cc maxL y.cls kt → meth.sig.returnType = ret → (∀ x ∈ c.exceptionTable.toList, False) →
      J p l e (rm4 fr lo out) s m args below meth c D cA ad n A maxL 0 0 (vx_MQ below (QQ D cA ad n A out M1) (XX D cA ad n A out M1) args s (oc out) (os out) A) M 0 (lv_args 0 av) []) :
    CT l D cA ad n A sa y cc maxL ret fr lo av M out M1 := by
  unfold CT
  refine vx_ofW (cc := cc) (maxL := maxL) (ret := ret) hy rfl ?_
  intro p e s m args below meth c s₁ B hml ht hv
  obtain ⟨rfl, hP, hK, hD, hA, hn, hks⟩ := hv
  have hts := atoms_spec (ws := Cond.code y cc maxL ret :: wsL_law) B.pre
  have hown : s.vm.findClass y.cls = some m.cls := findClass_of_methodNamed B.named
  have hl := lv_entry av hlen
  rw [lg_entry_eq]
  exact body p e s m av.toArray below meth c ⟨B.exec, B.bytes, hml, hown, fun w hw => hts w (List.mem_cons_of_mem _ hw), hK, hD, hA, hn, hks, B.notSynchronized, hkt⟩ B.returns ht s.heap [] _ hP va_S.rf hl
theorem J.iret (hX : Cx p s m args meth c D cA ad n A sa cc nL own kt) (hr : meth.sig.returnType = some .int) (i : Nat) {v : Int32} (hk : kt[i]? = some (pc, .ireturn, 1)) :
    J p l e R s m args below meth c D cA ad n A nL 0 0 (vx_MQ below (QQ D cA ad n A (.inl (some (.int v))) M) (XX D cA ad n A (.inl (some (.int v))) M) args s 0 0 A) M pc L [.int v] := fun H locs ls hP hS hL =>
  vx_ret (W.iret hX.ex hX.by hr (fun t ht hW => ⟨_, rfl, rfl, by rw [ht]; exact hP, hS.F ht⟩) hS.2.2 (hX.dec hk) hX.lk)
theorem J.zret (hX : Cx p s m args meth c D cA ad n A sa cc nL own kt) (hr : meth.sig.returnType = some .boolean) (i : Nat) {v : Int32} (hv : narrow .boolean (.int v) = .int v) (hk : kt[i]? = some (pc, .ireturn, 1)) :
    J p l e R s m args below meth c D cA ad n A nL 0 0 (vx_MQ below (QQ D cA ad n A (.inl (some (.int v))) M) (XX D cA ad n A (.inl (some (.int v))) M) args s 0 0 A) M pc L [.int v] := fun H locs ls hP hS hL =>
  vx_ret (W.zret hX.ex hX.by hr hv (fun t ht hW => ⟨_, rfl, rfl, by rw [ht]; exact hP, hS.F ht⟩) hS.2.2 (hX.dec hk) hX.lk)
theorem J.vret (hX : Cx p s m args meth c D cA ad n A sa cc nL own kt) (hr : meth.sig.returnType = none) (i : Nat) (hk : kt[i]? = some (pc, .return_, 1)) :
    J p l e R s m args below meth c D cA ad n A nL 0 0 (vx_MQ below (QQ D cA ad n A (.inl none) M) (XX D cA ad n A (.inl none) M) args s 0 0 A) M pc L [] := fun H locs ls hP hS hL =>
  vx_ret (W.vret hX.ex hX.by hr (fun t ht hW => ⟨_, rfl, rfl, by rw [ht]; exact hP, hS.F ht⟩) hS.2.2 (hX.dec hk) hX.lk)
theorem run_ret {H : Heap} {locs : List Loc} {ls : Array Slot} {st0 rest : List Value} {a : Array Value} {v : Option Value} (hr : vx_Run p l e R s m args below meth c H locs cells slots 0 0 (F0 m pc ls st0) rest (QQ D cA ad n A (.inl v) M1 a) (XX D cA ad n A (.inl v) M1) A) (hS : va_S A s.heap H locs)
    (kk : ∀ (H1 : Heap) (locs1 : List Loc), va_P D cls6 (Wd cA ad n M1) H1 → va_S A s.heap H1 locs1 → W p l e R s m args below meth c H1 locs1 cells slots Q (F0 m (pc + 3) ls (v.toList ++ rest))) : W p l e R s m args below meth c H locs cells slots Q (F0 m pc ls st0) := by
  intro T hT X
  rcases hr T hT X with ⟨v', st₀, t, T', L, h0, X', hL, e1, e2, ⟨w, hw, hv, hb, hF⟩, st⟩ | ⟨q, st₀, t, T', L, E, ce, h0, X', hL, e1, e2, ⟨hp, -⟩, -⟩
  · cases hw
    cases hv
    obtain ⟨k1, k2, k3⟩ := vx_keep h0 e1 hS (fun _ _ h => h) (fun _ h => h) hL hF
    obtain ⟨t2, a1, b1⟩ := kk T'.heap (locs ++ L) (by rw [e1]; exact hb) k3 T' rfl X'
    exact ⟨t2, st t2 a1, b1⟩
  · cases hp
theorem run_thr {H : Heap} {locs : List Loc} {ls : Array Slot} {st0 rest : List Value} {a : Array Value} {E : String} (hr : vx_Run p l e R s m args below meth c H locs cells slots 1 6 (F0 m pc ls st0) rest (QQ D cA ad n A (.inr E) M1 a) (XX D cA ad n A (.inr E) M1) A) (hS : va_S A s.heap H locs)
    (kk : ∀ (H1 : Heap) (locs1 : List Loc) (q9 : Addr) (ce : Cell), va_P D cls6 (Wd cA ad n M1) H1 → va_S A s.heap H1 locs1 → H1[q9]? = some ce → ce.vm = .none → s.vm.findClass E = some ce.cls → vx_W p l e R s m args below meth c H1 locs1 (cells + 1) (slots + 6) Q (F0 m pc ls rest) q9) : W p l e R s m args below meth c H locs cells slots Q (F0 m pc ls st0) := by
  intro T hT X
  rcases hr T hT X with ⟨v', st₀, t, T', L, h0, X', hL, e1, e2, ⟨w, hw, -⟩, st⟩ | ⟨q, st₀, t, T', L, E', ce, h0, X', hL, e1, e2, ⟨hp, hb, hF⟩, hce, hcv, hcl, st⟩
  · cases hw
  · cases hp
    obtain ⟨k1, k2, k3⟩ := vx_keep h0 e1 hS (fun _ _ h => h) (fun _ h => h) hL hF
    obtain ⟨t2, a1, b1⟩ := kk T'.heap (locs ++ L) q ce (by rw [e1]; exact hb) k3 (by rw [e1]; exact hce) hcv hcl T' rfl X'
    exact ⟨t2, st.trans a1, b1⟩
theorem gdW {ws : List Cond} (h : ∀ w ∈ ws, w ∈ wsL_law) : GoodIn wsL_law ws := fun w hw => ⟨h w hw, (gi_law w (h w hw)).2⟩
theorem gdV {own C : String} {ix maxL : Nat} {y : MethodName} {bytes : ByteArray} {ret : Option FieldType} (h1 : Cond.methodLink own ix y ∈ wsL_law) (h2 : Cond.instanceMethod y ∈ wsL_law) (h3 : Cond.selects C y y ∈ wsL_law) (h4 : Cond.initialized C ∈ wsL_law) (h5 : Cond.code y bytes maxL ret ∈ wsL_law) : GoodIn wsL_law (wsV own ix C y (Cond.code y bytes maxL ret :: wsL_law)) := by
  refine gdW fun w hw => ?_
  unfold wsV at hw
  simp only [List.cons_append, List.nil_append, List.mem_cons] at hw
  rcases hw with rfl | rfl | rfl | rfl | rfl | hw
  · exact h1
  · exact h2
  · exact h3
  · exact h4
  · exact h5
  · exact hw
theorem gdS {own : String} {ix maxL : Nat} {y : MethodName} {bytes : ByteArray} {ret : Option FieldType} (h1 : Cond.methodLink own ix y ∈ wsL_law) (h2 : Cond.static y ∈ wsL_law) (h4 : Cond.initialized y.cls ∈ wsL_law) (h5 : Cond.code y bytes maxL ret ∈ wsL_law) : GoodIn wsL_law (va_wsS own ix y (Cond.code y bytes maxL ret :: wsL_law)) := by
  refine gdW fun w hw => ?_
  unfold va_wsS at hw
  simp only [List.cons_append, List.nil_append, List.mem_cons] at hw
  rcases hw with rfl | rfl | rfl | rfl | hw
  · exact h1
  · exact h2
  · exact h4
  · exact h5
  · exact hw
/-- what a call of y asks of the words: all of it decided by program, a row a method -/
def OKV (C : String) (y : MethodName) (bytes : ByteArray) (maxL : Nat) (ret : Option FieldType) (k : Nat) : Prop := Cond.instanceMethod y ∈ wsL_law ∧ Cond.selects C y y ∈ wsL_law ∧ Cond.initialized C ∈ wsL_law ∧ Cond.code y bytes maxL ret ∈ wsL_law ∧ y.cls = C ∧ y.cls ≠ "java/lang/invoke/MethodHandle" ∧ y.cls ≠ "java/lang/invoke/VarHandle" ∧ (parseMethodDescriptor y.desc).map (fun d => d.parameters.length) = some k
def OKS (y : MethodName) (bytes : ByteArray) (maxL : Nat) (ret : Option FieldType) (k : Nat) : Prop := Cond.static y ∈ wsL_law ∧ Cond.initialized y.cls ∈ wsL_law ∧ Cond.code y bytes maxL ret ∈ wsL_law ∧ y.cls ≠ "java/lang/invoke/MethodHandle" ∧ y.cls ≠ "java/lang/invoke/VarHandle" ∧ (parseMethodDescriptor y.desc).map (fun d => d.parameters.length) = some k
theorem runV {y : MethodName} {C : String} {bytes : ByteArray} {maxL nP fr lo ix k : Nat} {ret : Option FieldType} {As rest : List Value} {out : Option Value ⊕ String} {H : Heap} {locs : List Loc} {ls : Array Slot} (hX : Cx p s m args meth c D cA ad n A sa cc nL own kt) (hP : va_P D cls6 (Wd cA ad n M) H) (hS : va_S A s.heap H locs) (hL : lv_has ls nL L) (i : Nat) (hk : kt[i]? = some (pc, .invokevirtual ix, 3))
    (hc : CT l D cA ad n A sa y bytes maxL ret fr lo (.ref (ad k) :: As) M out M1) (hy : OKV C y bytes maxL ret nP) (hm : Cond.methodLink own ix y ∈ wsL_law) {ci : Nat} {fs : List (Option Nat)} {T : u_T} {N : Nat} (hkn : k < n) (hs : sh0 k = .inr (ci, fs)) (hcl : cls6[ci]? = some (C, T, N)) (hn : As.length = nP) (hst : st = As.reverse ++ .ref (ad k) :: rest) (hw : (rest.map fun v => v.category).sum ≤ 8) (hR : fr + 1 ≤ R.frames ∧ 8 + (maxL + 11) + lo ≤ R.locals) (hf : cells + oc out ≤ R.cells ∧ slots + os out ≤ R.slots) :
    vx_Run p l e R s m args below meth c H locs cells slots (oc out) (os out) (F0 m pc ls st) rest (QQ D cA ad n A out M1 (Value.ref (ad k) :: As).toArray) (XX D cA ad n A out M1) A :=
  vx_runV (C := C) (bytes := bytes) (maxL := maxL) (ret := ret) (n := nP) (As := As) ⟨hX.ex, hX.by, hX.ml, hX.ow, hX.ws⟩ hc (cwV nP hX.ws (gdV hm hy.1 hy.2.1 hy.2.2.1 hy.2.2.2.1) rfl rfl rfl hy.2.2.2.2 hR) ⟨PP.blind, va_recv hX.kn hP hcl (Wd_o hkn hs), fun U hU hW => ⟨rfl, PP.here hX hP hS U hU hW⟩⟩ rfl hn hL.1 hst (lv_room hw) (hX.dec hk) hf
theorem runS {y : MethodName} {bytes : ByteArray} {maxL nP fr lo ix : Nat} {ret : Option FieldType} {As rest : List Value} {out : Option Value ⊕ String} {H : Heap} {locs : List Loc} {ls : Array Slot} (hX : Cx p s m args meth c D cA ad n A sa cc nL own kt) (hP : va_P D cls6 (Wd cA ad n M) H) (hS : va_S A s.heap H locs) (hL : lv_has ls nL L) (i : Nat) (hk : kt[i]? = some (pc, .invokestatic ix, 3))
    (hc : CT l D cA ad n A sa y bytes maxL ret fr lo As M out M1) (hy : OKS y bytes maxL ret nP) (hm : Cond.methodLink own ix y ∈ wsL_law) (hn : As.length = nP) (hst : st = As.reverse ++ rest) (hw : (rest.map fun v => v.category).sum ≤ 8) (hR : fr + 1 ≤ R.frames ∧ 8 + (maxL + 11) + lo ≤ R.locals) (hf : cells + oc out ≤ R.cells ∧ slots + os out ≤ R.slots) :
    vx_Run p l e R s m args below meth c H locs cells slots (oc out) (os out) (F0 m pc ls st) rest (QQ D cA ad n A out M1 As.toArray) (XX D cA ad n A out M1) A :=
  vx_runS (bytes := bytes) (maxL := maxL) (ret := ret) (n := nP) (As := As) ⟨hX.ex, hX.by, hX.ml, hX.ow, hX.ws⟩ hc (va_cwS nP hX.ws (gdS hm hy.1 hy.2.1 hy.2.2.1) rfl rfl rfl hy.2.2.2 hR) ⟨PP.blind, fun U hU hW => ⟨rfl, PP.here hX hP hS U hU hW⟩⟩ rfl hn hL.1 hst (lv_room hw) (hX.dec hk) hf
/-- a call that returns -/
theorem J.callV {y : MethodName} {C : String} {bytes : ByteArray} {maxL nP fr lo ix k : Nat} {ret : Option FieldType} {As rest : List Value} {v : Option Value} (hX : Cx p s m args meth c D cA ad n A sa cc nL own kt) (i : Nat) (hk : kt[i]? = some (pc, .invokevirtual ix, 3))
    (hc : CT l D cA ad n A sa y bytes maxL ret fr lo (.ref (ad k) :: As) M (.inl v) M1) (hy : OKV C y bytes maxL ret nP) (hm : Cond.methodLink own ix y ∈ wsL_law) {ci : Nat} {fs : List (Option Nat)} {T : u_T} {N : Nat} (hkn : k < n) (hs : sh0 k = .inr (ci, fs)) (hcl : cls6[ci]? = some (C, T, N)) (hn : As.length = nP) (hst : st = As.reverse ++ .ref (ad k) :: rest) (hw : (rest.map fun v => v.category).sum ≤ 8) (hR : fr + 1 ≤ R.frames ∧ 8 + (maxL + 11) + lo ≤ R.locals) (hf : cells ≤ R.cells ∧ slots ≤ R.slots)
    (kk : J p l e R s m args below meth c D cA ad n A nL cells slots Q M1 (pc + 3) L (v.toList ++ rest)) : J p l e R s m args below meth c D cA ad n A nL cells slots Q M pc L st := fun H locs ls hP hS hL =>
  run_ret (runV hX hP hS hL i hk hc hy hm hkn hs hcl hn hst hw hR hf) hS (fun H1 locs1 hP1 hS1 => kk H1 locs1 ls hP1 hS1 hL)
theorem J.callS {y : MethodName} {bytes : ByteArray} {maxL nP fr lo ix : Nat} {ret : Option FieldType} {As rest : List Value} {v : Option Value} (hX : Cx p s m args meth c D cA ad n A sa cc nL own kt) (i : Nat) (hk : kt[i]? = some (pc, .invokestatic ix, 3))
    (hc : CT l D cA ad n A sa y bytes maxL ret fr lo As M (.inl v) M1) (hy : OKS y bytes maxL ret nP) (hm : Cond.methodLink own ix y ∈ wsL_law) (hn : As.length = nP) (hst : st = As.reverse ++ rest) (hw : (rest.map fun v => v.category).sum ≤ 8) (hR : fr + 1 ≤ R.frames ∧ 8 + (maxL + 11) + lo ≤ R.locals) (hf : cells ≤ R.cells ∧ slots ≤ R.slots)
    (kk : J p l e R s m args below meth c D cA ad n A nL cells slots Q M1 (pc + 3) L (v.toList ++ rest)) : J p l e R s m args below meth c D cA ad n A nL cells slots Q M pc L st := fun H locs ls hP hS hL =>
  run_ret (runS hX hP hS hL i hk hc hy hm hn hst hw hR hf) hS (fun H1 locs1 hP1 hS1 => kk H1 locs1 ls hP1 hS1 hL)
/-- a call that throws, in a method without handlers: it goes on -/
theorem J.passS {y : MethodName} {bytes : ByteArray} {maxL nP fr lo ix : Nat} {ret : Option FieldType} {As rest : List Value} {E : String} (hX : Cx p s m args meth c D cA ad n A sa cc nL own kt) (ht : ∀ x ∈ c.exceptionTable.toList, False) (i : Nat) (hk : kt[i]? = some (pc, .invokestatic ix, 3))
    (hc : CT l D cA ad n A sa y bytes maxL ret fr lo As M (.inr E) M1) (hy : OKS y bytes maxL ret nP) (hm : Cond.methodLink own ix y ∈ wsL_law) (hn : As.length = nP) (hst : st = As.reverse ++ rest) (hw : (rest.map fun v => v.category).sum ≤ 8) (hR : fr + 1 ≤ R.frames ∧ 8 + (maxL + 11) + lo ≤ R.locals) (hf : 1 ≤ R.cells ∧ 6 ≤ R.slots) :
    J p l e R s m args below meth c D cA ad n A nL 0 0 (vx_MQ below (QQ D cA ad n A (.inr E) M1) (XX D cA ad n A (.inr E) M1) args s 1 6 A) M pc L st := fun H locs ls hP hS hL =>
  run_thr (runS hX hP hS hL i hk hc hy hm hn hst hw hR (by rw [Nat.zero_add, Nat.zero_add]; exact hf)) hS (fun H1 locs1 q9 ce hP1 hS1 hq hv hcl =>
    vx_out (fun x hx => (ht x hx).elim) hX.lk hq hv hcl (fun t hT hW => ⟨rfl, by rw [hT]; exact hP1, hS1.F hT⟩) hS1.2.2 (Nat.le_refl _) (Nat.le_refl _))
end JC
end
section
/-! WHAT THE METHODS' FUNCTIONS ARE MADE OF: 'none' where an index is out of range, a check fails or the fuel is used up. -/
def inb (i : Int32) (len : Nat) : Bool := decide (0 ≤ i.toInt) && decide (i.toInt < len)
theorem inb_vp {i : Int32} {len : Nat} (h : inb i len = true) : vp_in i len := by
  unfold inb at h
  rw [Bool.and_eq_true, decide_eq_true_eq, decide_eq_true_eq] at h
  exact vp_in_iff.mpr h
def chk {β : Type} (b : Bool) (x : Option β) : Option β := if b = true then x else none
theorem chk_inv {β : Type} {b : Bool} {x : Option β} {r : β} (h : chk b x = some r) : b = true ∧ x = some r := by
  unfold chk at h
  by_cases hb : b = true
  · rw [if_pos hb] at h; exact ⟨hb, h⟩
  · rw [if_neg hb] at h; cases h
def bnd {α β : Type} (x : α) (f : α → Option β) : Option β := f x
theorem bnd_inv {α β : Type} {x : α} {f : α → Option β} {r : β} (h : bnd x f = some r) : ∃ y, x = y ∧ f y = some r := ⟨x, rfl, h⟩
def ld {β : Type} (M : Mem) (k len : Nat) (i : Int32) (f : Int32 → Option β) : Option β := chk (inb i len) (f (M k i.toNatClampNeg))
theorem ld_inv {β : Type} {M : Mem} {k len : Nat} {i : Int32} {f : Int32 → Option β} {r : β} (h : ld M k len i f = some r) : ∃ t, M k i.toNatClampNeg = t ∧ vp_in i len ∧ f t = some r := by
  unfold ld at h
  obtain ⟨h1, h2⟩ := chk_inv h
  exact ⟨_, rfl, inb_vp h1, h2⟩
def sto {β : Type} (M : Mem) (k len : Nat) (i v : Int32) (f : Mem → Option β) : Option β := chk (inb i len) (f (wr M k i.toNatClampNeg v))
theorem sto_inv {β : Type} {M : Mem} {k len : Nat} {i v : Int32} {f : Mem → Option β} {r : β} (h : sto M k len i v f = some r) : ∃ M2, wr M k i.toNatClampNeg v = M2 ∧ vp_in i len ∧ f M2 = some r := by
  unfold sto at h
  obtain ⟨h1, h2⟩ := chk_inv h
  exact ⟨_, rfl, inb_vp h1, h2⟩
def isB (v : Int32) : Bool := v == 0 || v == 1
theorem isB_nar {v : Int32} (h : isB v = true) : narrow .boolean (.int v) = .int v := by
  unfold isB at h
  rw [Bool.or_eq_true, beq_iff_eq, beq_iff_eq] at h
  rcases h with rfl | rfl <;> decide +kernel
theorem isB_vp {v : Int32} (h : isB v = true) : vp_nar .boolean v = v := by
  unfold isB at h
  rw [Bool.or_eq_true, beq_iff_eq, beq_iff_eq] at h
  rcases h with rfl | rfl <;> decide +kernel
def loop {St Ex : Type} (B : St → Option (St ⊕ Ex)) : Nat → St → Option Ex
  | 0, _ => none
  | n + 1, st => (B st).bind (fun r => match r with
    | .inl st' => loop B n st'
    | .inr ex => some ex)
theorem loop_ok {St Ex : Type} {B : St → Option (St ⊕ Ex)} (Jh : St → Prop) {ex : Ex} (body : ∀ st r, B st = some r → (∀ st', r = .inl st' → Jh st') → (∀ ex', r = .inr ex' → ex' = ex) → Jh st) : ∀ k st, loop B k st = some ex → Jh st := by
  intro k
  induction k with
  | zero => intro st h; cases h
  | succ k ih =>
    intro st h
    cases hB : B st with
    | none => rw [loop, hB] at h; cases h
    | some r =>
      rw [loop, hB] at h
      refine body st r hB (fun st' hr => ?_) (fun ex' hr => ?_)
      · subst hr
        exact ih st' h
      · subst hr
        exact Option.some.inj h
def un0 {β : Type} (_ : Unit) (f : Option β) : Option β := f
theorem un0_inv {β : Type} {u : Unit} {f : Option β} {r : β} (h : un0 u f = some r) : f = some r := h
def bd1 {A1 β : Type} (x : Option (A1)) (f : A1 → Option β) : Option β := x.bind (fun q => f q)
theorem bd1_inv {A1 β : Type} {x : Option (A1)} {f : A1 → Option β} {r : β} (h : bd1 x f = some r) : ∃ a1, x = some a1 ∧ f a1 = some r := by
  unfold bd1 at h
  cases x with
  | none => cases h
  | some q => exact ⟨q, rfl, h⟩
def un1 {A1 β : Type} (q : A1) (f : A1 → Option β) : Option β := f q
theorem un1_inv {A1 β : Type} {z : Unit} {a1 : A1} {f : A1 → Option β} {r : β} (h : un1 a1 f = some r) : f a1 = some r := h
def bd2 {A1 A2 β : Type} (x : Option (A1 × A2)) (f : A1 → A2 → Option β) : Option β := x.bind (fun q => f q.1 q.2)
theorem bd2_inv {A1 A2 β : Type} {x : Option (A1 × A2)} {f : A1 → A2 → Option β} {r : β} (h : bd2 x f = some r) : ∃ a1 a2, x = some (a1, a2) ∧ f a1 a2 = some r := by
  unfold bd2 at h
  cases x with
  | none => cases h
  | some q => exact ⟨q.1, q.2, rfl, h⟩
def un2 {A1 A2 β : Type} (q : A1 × A2) (f : A1 → A2 → Option β) : Option β := f q.1 q.2
theorem un2_inv {A1 A2 β : Type} {z : Unit} {a1 : A1} {a2 : A2} {f : A1 → A2 → Option β} {r : β} (h : un2 (a1, a2) f = some r) : f a1 a2 = some r := h
def bd3 {A1 A2 A3 β : Type} (x : Option (A1 × A2 × A3)) (f : A1 → A2 → A3 → Option β) : Option β := x.bind (fun q => f q.1 q.2.1 q.2.2)
theorem bd3_inv {A1 A2 A3 β : Type} {x : Option (A1 × A2 × A3)} {f : A1 → A2 → A3 → Option β} {r : β} (h : bd3 x f = some r) : ∃ a1 a2 a3, x = some (a1, a2, a3) ∧ f a1 a2 a3 = some r := by
  unfold bd3 at h
  cases x with
  | none => cases h
  | some q => exact ⟨q.1, q.2.1, q.2.2, rfl, h⟩
def un3 {A1 A2 A3 β : Type} (q : A1 × A2 × A3) (f : A1 → A2 → A3 → Option β) : Option β := f q.1 q.2.1 q.2.2
theorem un3_inv {A1 A2 A3 β : Type} {z : Unit} {a1 : A1} {a2 : A2} {a3 : A3} {f : A1 → A2 → A3 → Option β} {r : β} (h : un3 (a1, a2, a3) f = some r) : f a1 a2 a3 = some r := h
def bd4 {A1 A2 A3 A4 β : Type} (x : Option (A1 × A2 × A3 × A4)) (f : A1 → A2 → A3 → A4 → Option β) : Option β := x.bind (fun q => f q.1 q.2.1 q.2.2.1 q.2.2.2)
theorem bd4_inv {A1 A2 A3 A4 β : Type} {x : Option (A1 × A2 × A3 × A4)} {f : A1 → A2 → A3 → A4 → Option β} {r : β} (h : bd4 x f = some r) : ∃ a1 a2 a3 a4, x = some (a1, a2, a3, a4) ∧ f a1 a2 a3 a4 = some r := by
  unfold bd4 at h
  cases x with
  | none => cases h
  | some q => exact ⟨q.1, q.2.1, q.2.2.1, q.2.2.2, rfl, h⟩
def un4 {A1 A2 A3 A4 β : Type} (q : A1 × A2 × A3 × A4) (f : A1 → A2 → A3 → A4 → Option β) : Option β := f q.1 q.2.1 q.2.2.1 q.2.2.2
theorem un4_inv {A1 A2 A3 A4 β : Type} {z : Unit} {a1 : A1} {a2 : A2} {a3 : A3} {a4 : A4} {f : A1 → A2 → A3 → A4 → Option β} {r : β} (h : un4 (a1, a2, a3, a4) f = some r) : f a1 a2 a3 a4 = some r := h
def bd5 {A1 A2 A3 A4 A5 β : Type} (x : Option (A1 × A2 × A3 × A4 × A5)) (f : A1 → A2 → A3 → A4 → A5 → Option β) : Option β := x.bind (fun q => f q.1 q.2.1 q.2.2.1 q.2.2.2.1 q.2.2.2.2)
theorem bd5_inv {A1 A2 A3 A4 A5 β : Type} {x : Option (A1 × A2 × A3 × A4 × A5)} {f : A1 → A2 → A3 → A4 → A5 → Option β} {r : β} (h : bd5 x f = some r) : ∃ a1 a2 a3 a4 a5, x = some (a1, a2, a3, a4, a5) ∧ f a1 a2 a3 a4 a5 = some r := by
  unfold bd5 at h
  cases x with
  | none => cases h
  | some q => exact ⟨q.1, q.2.1, q.2.2.1, q.2.2.2.1, q.2.2.2.2, rfl, h⟩
def un5 {A1 A2 A3 A4 A5 β : Type} (q : A1 × A2 × A3 × A4 × A5) (f : A1 → A2 → A3 → A4 → A5 → Option β) : Option β := f q.1 q.2.1 q.2.2.1 q.2.2.2.1 q.2.2.2.2
theorem un5_inv {A1 A2 A3 A4 A5 β : Type} {z : Unit} {a1 : A1} {a2 : A2} {a3 : A3} {a4 : A4} {a5 : A5} {f : A1 → A2 → A3 → A4 → A5 → Option β} {r : β} (h : un5 (a1, a2, a3, a4, a5) f = some r) : f a1 a2 a3 a4 a5 = some r := h
def bd6 {A1 A2 A3 A4 A5 A6 β : Type} (x : Option (A1 × A2 × A3 × A4 × A5 × A6)) (f : A1 → A2 → A3 → A4 → A5 → A6 → Option β) : Option β := x.bind (fun q => f q.1 q.2.1 q.2.2.1 q.2.2.2.1 q.2.2.2.2.1 q.2.2.2.2.2)
theorem bd6_inv {A1 A2 A3 A4 A5 A6 β : Type} {x : Option (A1 × A2 × A3 × A4 × A5 × A6)} {f : A1 → A2 → A3 → A4 → A5 → A6 → Option β} {r : β} (h : bd6 x f = some r) : ∃ a1 a2 a3 a4 a5 a6, x = some (a1, a2, a3, a4, a5, a6) ∧ f a1 a2 a3 a4 a5 a6 = some r := by
  unfold bd6 at h
  cases x with
  | none => cases h
  | some q => exact ⟨q.1, q.2.1, q.2.2.1, q.2.2.2.1, q.2.2.2.2.1, q.2.2.2.2.2, rfl, h⟩
def un6 {A1 A2 A3 A4 A5 A6 β : Type} (q : A1 × A2 × A3 × A4 × A5 × A6) (f : A1 → A2 → A3 → A4 → A5 → A6 → Option β) : Option β := f q.1 q.2.1 q.2.2.1 q.2.2.2.1 q.2.2.2.2.1 q.2.2.2.2.2
theorem un6_inv {A1 A2 A3 A4 A5 A6 β : Type} {z : Unit} {a1 : A1} {a2 : A2} {a3 : A3} {a4 : A4} {a5 : A5} {a6 : A6} {f : A1 → A2 → A3 → A4 → A5 → A6 → Option β} {r : β} (h : un6 (a1, a2, a3, a4, a5, a6) f = some r) : f a1 a2 a3 a4 a5 a6 = some r := h
def bd7 {A1 A2 A3 A4 A5 A6 A7 β : Type} (x : Option (A1 × A2 × A3 × A4 × A5 × A6 × A7)) (f : A1 → A2 → A3 → A4 → A5 → A6 → A7 → Option β) : Option β := x.bind (fun q => f q.1 q.2.1 q.2.2.1 q.2.2.2.1 q.2.2.2.2.1 q.2.2.2.2.2.1 q.2.2.2.2.2.2)
theorem bd7_inv {A1 A2 A3 A4 A5 A6 A7 β : Type} {x : Option (A1 × A2 × A3 × A4 × A5 × A6 × A7)} {f : A1 → A2 → A3 → A4 → A5 → A6 → A7 → Option β} {r : β} (h : bd7 x f = some r) : ∃ a1 a2 a3 a4 a5 a6 a7, x = some (a1, a2, a3, a4, a5, a6, a7) ∧ f a1 a2 a3 a4 a5 a6 a7 = some r := by
  unfold bd7 at h
  cases x with
  | none => cases h
  | some q => exact ⟨q.1, q.2.1, q.2.2.1, q.2.2.2.1, q.2.2.2.2.1, q.2.2.2.2.2.1, q.2.2.2.2.2.2, rfl, h⟩
def un7 {A1 A2 A3 A4 A5 A6 A7 β : Type} (q : A1 × A2 × A3 × A4 × A5 × A6 × A7) (f : A1 → A2 → A3 → A4 → A5 → A6 → A7 → Option β) : Option β := f q.1 q.2.1 q.2.2.1 q.2.2.2.1 q.2.2.2.2.1 q.2.2.2.2.2.1 q.2.2.2.2.2.2
theorem un7_inv {A1 A2 A3 A4 A5 A6 A7 β : Type} {z : Unit} {a1 : A1} {a2 : A2} {a3 : A3} {a4 : A4} {a5 : A5} {a6 : A6} {a7 : A7} {f : A1 → A2 → A3 → A4 → A5 → A6 → A7 → Option β} {r : β} (h : un7 (a1, a2, a3, a4, a5, a6, a7) f = some r) : f a1 a2 a3 a4 a5 a6 a7 = some r := h
def bd8 {A1 A2 A3 A4 A5 A6 A7 A8 β : Type} (x : Option (A1 × A2 × A3 × A4 × A5 × A6 × A7 × A8)) (f : A1 → A2 → A3 → A4 → A5 → A6 → A7 → A8 → Option β) : Option β := x.bind (fun q => f q.1 q.2.1 q.2.2.1 q.2.2.2.1 q.2.2.2.2.1 q.2.2.2.2.2.1 q.2.2.2.2.2.2.1 q.2.2.2.2.2.2.2)
theorem bd8_inv {A1 A2 A3 A4 A5 A6 A7 A8 β : Type} {x : Option (A1 × A2 × A3 × A4 × A5 × A6 × A7 × A8)} {f : A1 → A2 → A3 → A4 → A5 → A6 → A7 → A8 → Option β} {r : β} (h : bd8 x f = some r) : ∃ a1 a2 a3 a4 a5 a6 a7 a8, x = some (a1, a2, a3, a4, a5, a6, a7, a8) ∧ f a1 a2 a3 a4 a5 a6 a7 a8 = some r := by
  unfold bd8 at h
  cases x with
  | none => cases h
  | some q => exact ⟨q.1, q.2.1, q.2.2.1, q.2.2.2.1, q.2.2.2.2.1, q.2.2.2.2.2.1, q.2.2.2.2.2.2.1, q.2.2.2.2.2.2.2, rfl, h⟩
def un8 {A1 A2 A3 A4 A5 A6 A7 A8 β : Type} (q : A1 × A2 × A3 × A4 × A5 × A6 × A7 × A8) (f : A1 → A2 → A3 → A4 → A5 → A6 → A7 → A8 → Option β) : Option β := f q.1 q.2.1 q.2.2.1 q.2.2.2.1 q.2.2.2.2.1 q.2.2.2.2.2.1 q.2.2.2.2.2.2.1 q.2.2.2.2.2.2.2
theorem un8_inv {A1 A2 A3 A4 A5 A6 A7 A8 β : Type} {z : Unit} {a1 : A1} {a2 : A2} {a3 : A3} {a4 : A4} {a5 : A5} {a6 : A6} {a7 : A7} {a8 : A8} {f : A1 → A2 → A3 → A4 → A5 → A6 → A7 → A8 → Option β} {r : β} (h : un8 (a1, a2, a3, a4, a5, a6, a7, a8) f = some r) : f a1 a2 a3 a4 a5 a6 a7 a8 = some r := h
def bd9 {A1 A2 A3 A4 A5 A6 A7 A8 A9 β : Type} (x : Option (A1 × A2 × A3 × A4 × A5 × A6 × A7 × A8 × A9)) (f : A1 → A2 → A3 → A4 → A5 → A6 → A7 → A8 → A9 → Option β) : Option β := x.bind (fun q => f q.1 q.2.1 q.2.2.1 q.2.2.2.1 q.2.2.2.2.1 q.2.2.2.2.2.1 q.2.2.2.2.2.2.1 q.2.2.2.2.2.2.2.1 q.2.2.2.2.2.2.2.2)
theorem bd9_inv {A1 A2 A3 A4 A5 A6 A7 A8 A9 β : Type} {x : Option (A1 × A2 × A3 × A4 × A5 × A6 × A7 × A8 × A9)} {f : A1 → A2 → A3 → A4 → A5 → A6 → A7 → A8 → A9 → Option β} {r : β} (h : bd9 x f = some r) : ∃ a1 a2 a3 a4 a5 a6 a7 a8 a9, x = some (a1, a2, a3, a4, a5, a6, a7, a8, a9) ∧ f a1 a2 a3 a4 a5 a6 a7 a8 a9 = some r := by
  unfold bd9 at h
  cases x with
  | none => cases h
  | some q => exact ⟨q.1, q.2.1, q.2.2.1, q.2.2.2.1, q.2.2.2.2.1, q.2.2.2.2.2.1, q.2.2.2.2.2.2.1, q.2.2.2.2.2.2.2.1, q.2.2.2.2.2.2.2.2, rfl, h⟩
def un9 {A1 A2 A3 A4 A5 A6 A7 A8 A9 β : Type} (q : A1 × A2 × A3 × A4 × A5 × A6 × A7 × A8 × A9) (f : A1 → A2 → A3 → A4 → A5 → A6 → A7 → A8 → A9 → Option β) : Option β := f q.1 q.2.1 q.2.2.1 q.2.2.2.1 q.2.2.2.2.1 q.2.2.2.2.2.1 q.2.2.2.2.2.2.1 q.2.2.2.2.2.2.2.1 q.2.2.2.2.2.2.2.2
theorem un9_inv {A1 A2 A3 A4 A5 A6 A7 A8 A9 β : Type} {z : Unit} {a1 : A1} {a2 : A2} {a3 : A3} {a4 : A4} {a5 : A5} {a6 : A6} {a7 : A7} {a8 : A8} {a9 : A9} {f : A1 → A2 → A3 → A4 → A5 → A6 → A7 → A8 → A9 → Option β} {r : β} (h : un9 (a1, a2, a3, a4, a5, a6, a7, a8, a9) f = some r) : f a1 a2 a3 a4 a5 a6 a7 a8 a9 = some r := h
def bd10 {A1 A2 A3 A4 A5 A6 A7 A8 A9 A10 β : Type} (x : Option (A1 × A2 × A3 × A4 × A5 × A6 × A7 × A8 × A9 × A10)) (f : A1 → A2 → A3 → A4 → A5 → A6 → A7 → A8 → A9 → A10 → Option β) : Option β := x.bind (fun q => f q.1 q.2.1 q.2.2.1 q.2.2.2.1 q.2.2.2.2.1 q.2.2.2.2.2.1 q.2.2.2.2.2.2.1 q.2.2.2.2.2.2.2.1 q.2.2.2.2.2.2.2.2.1 q.2.2.2.2.2.2.2.2.2)
theorem bd10_inv {A1 A2 A3 A4 A5 A6 A7 A8 A9 A10 β : Type} {x : Option (A1 × A2 × A3 × A4 × A5 × A6 × A7 × A8 × A9 × A10)} {f : A1 → A2 → A3 → A4 → A5 → A6 → A7 → A8 → A9 → A10 → Option β} {r : β} (h : bd10 x f = some r) : ∃ a1 a2 a3 a4 a5 a6 a7 a8 a9 a10, x = some (a1, a2, a3, a4, a5, a6, a7, a8, a9, a10) ∧ f a1 a2 a3 a4 a5 a6 a7 a8 a9 a10 = some r := by
  unfold bd10 at h
  cases x with
  | none => cases h
  | some q => exact ⟨q.1, q.2.1, q.2.2.1, q.2.2.2.1, q.2.2.2.2.1, q.2.2.2.2.2.1, q.2.2.2.2.2.2.1, q.2.2.2.2.2.2.2.1, q.2.2.2.2.2.2.2.2.1, q.2.2.2.2.2.2.2.2.2, rfl, h⟩
def un10 {A1 A2 A3 A4 A5 A6 A7 A8 A9 A10 β : Type} (q : A1 × A2 × A3 × A4 × A5 × A6 × A7 × A8 × A9 × A10) (f : A1 → A2 → A3 → A4 → A5 → A6 → A7 → A8 → A9 → A10 → Option β) : Option β := f q.1 q.2.1 q.2.2.1 q.2.2.2.1 q.2.2.2.2.1 q.2.2.2.2.2.1 q.2.2.2.2.2.2.1 q.2.2.2.2.2.2.2.1 q.2.2.2.2.2.2.2.2.1 q.2.2.2.2.2.2.2.2.2
theorem un10_inv {A1 A2 A3 A4 A5 A6 A7 A8 A9 A10 β : Type} {z : Unit} {a1 : A1} {a2 : A2} {a3 : A3} {a4 : A4} {a5 : A5} {a6 : A6} {a7 : A7} {a8 : A8} {a9 : A9} {a10 : A10} {f : A1 → A2 → A3 → A4 → A5 → A6 → A7 → A8 → A9 → A10 → Option β} {r : β} (h : un10 (a1, a2, a3, a4, a5, a6, a7, a8, a9, a10) f = some r) : f a1 a2 a3 a4 a5 a6 a7 a8 a9 a10 = some r := h
def bd11 {A1 A2 A3 A4 A5 A6 A7 A8 A9 A10 A11 β : Type} (x : Option (A1 × A2 × A3 × A4 × A5 × A6 × A7 × A8 × A9 × A10 × A11)) (f : A1 → A2 → A3 → A4 → A5 → A6 → A7 → A8 → A9 → A10 → A11 → Option β) : Option β := x.bind (fun q => f q.1 q.2.1 q.2.2.1 q.2.2.2.1 q.2.2.2.2.1 q.2.2.2.2.2.1 q.2.2.2.2.2.2.1 q.2.2.2.2.2.2.2.1 q.2.2.2.2.2.2.2.2.1 q.2.2.2.2.2.2.2.2.2.1 q.2.2.2.2.2.2.2.2.2.2)
theorem bd11_inv {A1 A2 A3 A4 A5 A6 A7 A8 A9 A10 A11 β : Type} {x : Option (A1 × A2 × A3 × A4 × A5 × A6 × A7 × A8 × A9 × A10 × A11)} {f : A1 → A2 → A3 → A4 → A5 → A6 → A7 → A8 → A9 → A10 → A11 → Option β} {r : β} (h : bd11 x f = some r) : ∃ a1 a2 a3 a4 a5 a6 a7 a8 a9 a10 a11, x = some (a1, a2, a3, a4, a5, a6, a7, a8, a9, a10, a11) ∧ f a1 a2 a3 a4 a5 a6 a7 a8 a9 a10 a11 = some r := by
  unfold bd11 at h
  cases x with
  | none => cases h
  | some q => exact ⟨q.1, q.2.1, q.2.2.1, q.2.2.2.1, q.2.2.2.2.1, q.2.2.2.2.2.1, q.2.2.2.2.2.2.1, q.2.2.2.2.2.2.2.1, q.2.2.2.2.2.2.2.2.1, q.2.2.2.2.2.2.2.2.2.1, q.2.2.2.2.2.2.2.2.2.2, rfl, h⟩
def un11 {A1 A2 A3 A4 A5 A6 A7 A8 A9 A10 A11 β : Type} (q : A1 × A2 × A3 × A4 × A5 × A6 × A7 × A8 × A9 × A10 × A11) (f : A1 → A2 → A3 → A4 → A5 → A6 → A7 → A8 → A9 → A10 → A11 → Option β) : Option β := f q.1 q.2.1 q.2.2.1 q.2.2.2.1 q.2.2.2.2.1 q.2.2.2.2.2.1 q.2.2.2.2.2.2.1 q.2.2.2.2.2.2.2.1 q.2.2.2.2.2.2.2.2.1 q.2.2.2.2.2.2.2.2.2.1 q.2.2.2.2.2.2.2.2.2.2
theorem un11_inv {A1 A2 A3 A4 A5 A6 A7 A8 A9 A10 A11 β : Type} {z : Unit} {a1 : A1} {a2 : A2} {a3 : A3} {a4 : A4} {a5 : A5} {a6 : A6} {a7 : A7} {a8 : A8} {a9 : A9} {a10 : A10} {a11 : A11} {f : A1 → A2 → A3 → A4 → A5 → A6 → A7 → A8 → A9 → A10 → A11 → Option β} {r : β} (h : un11 (a1, a2, a3, a4, a5, a6, a7, a8, a9, a10, a11) f = some r) : f a1 a2 a3 a4 a5 a6 a7 a8 a9 a10 a11 = some r := h
def bd12 {A1 A2 A3 A4 A5 A6 A7 A8 A9 A10 A11 A12 β : Type} (x : Option (A1 × A2 × A3 × A4 × A5 × A6 × A7 × A8 × A9 × A10 × A11 × A12)) (f : A1 → A2 → A3 → A4 → A5 → A6 → A7 → A8 → A9 → A10 → A11 → A12 → Option β) : Option β := x.bind (fun q => f q.1 q.2.1 q.2.2.1 q.2.2.2.1 q.2.2.2.2.1 q.2.2.2.2.2.1 q.2.2.2.2.2.2.1 q.2.2.2.2.2.2.2.1 q.2.2.2.2.2.2.2.2.1 q.2.2.2.2.2.2.2.2.2.1 q.2.2.2.2.2.2.2.2.2.2.1 q.2.2.2.2.2.2.2.2.2.2.2)
theorem bd12_inv {A1 A2 A3 A4 A5 A6 A7 A8 A9 A10 A11 A12 β : Type} {x : Option (A1 × A2 × A3 × A4 × A5 × A6 × A7 × A8 × A9 × A10 × A11 × A12)} {f : A1 → A2 → A3 → A4 → A5 → A6 → A7 → A8 → A9 → A10 → A11 → A12 → Option β} {r : β} (h : bd12 x f = some r) : ∃ a1 a2 a3 a4 a5 a6 a7 a8 a9 a10 a11 a12, x = some (a1, a2, a3, a4, a5, a6, a7, a8, a9, a10, a11, a12) ∧ f a1 a2 a3 a4 a5 a6 a7 a8 a9 a10 a11 a12 = some r := by
  unfold bd12 at h
  cases x with
  | none => cases h
  | some q => exact ⟨q.1, q.2.1, q.2.2.1, q.2.2.2.1, q.2.2.2.2.1, q.2.2.2.2.2.1, q.2.2.2.2.2.2.1, q.2.2.2.2.2.2.2.1, q.2.2.2.2.2.2.2.2.1, q.2.2.2.2.2.2.2.2.2.1, q.2.2.2.2.2.2.2.2.2.2.1, q.2.2.2.2.2.2.2.2.2.2.2, rfl, h⟩
def un12 {A1 A2 A3 A4 A5 A6 A7 A8 A9 A10 A11 A12 β : Type} (q : A1 × A2 × A3 × A4 × A5 × A6 × A7 × A8 × A9 × A10 × A11 × A12) (f : A1 → A2 → A3 → A4 → A5 → A6 → A7 → A8 → A9 → A10 → A11 → A12 → Option β) : Option β := f q.1 q.2.1 q.2.2.1 q.2.2.2.1 q.2.2.2.2.1 q.2.2.2.2.2.1 q.2.2.2.2.2.2.1 q.2.2.2.2.2.2.2.1 q.2.2.2.2.2.2.2.2.1 q.2.2.2.2.2.2.2.2.2.1 q.2.2.2.2.2.2.2.2.2.2.1 q.2.2.2.2.2.2.2.2.2.2.2
theorem un12_inv {A1 A2 A3 A4 A5 A6 A7 A8 A9 A10 A11 A12 β : Type} {z : Unit} {a1 : A1} {a2 : A2} {a3 : A3} {a4 : A4} {a5 : A5} {a6 : A6} {a7 : A7} {a8 : A8} {a9 : A9} {a10 : A10} {a11 : A11} {a12 : A12} {f : A1 → A2 → A3 → A4 → A5 → A6 → A7 → A8 → A9 → A10 → A11 → A12 → Option β} {r : β} (h : un12 (a1, a2, a3, a4, a5, a6, a7, a8, a9, a10, a11, a12) f = some r) : f a1 a2 a3 a4 a5 a6 a7 a8 a9 a10 a11 a12 = some r := h
def bd0 {β : Type} (x : Option Unit) (f : Option β) : Option β := x.bind (fun _ => f)
theorem bd0_inv {β : Type} {x : Option Unit} {f : Option β} {r : β} (h : bd0 x f = some r) : x = some () ∧ f = some r := by
  unfold bd0 at h
  cases x with
  | none => cases h
  | some q => exact ⟨rfl, h⟩
def bdS {A B β : Type} (x : Option (A ⊕ B)) (f : A → Option β) (g : B → Option β) : Option β := x.bind (Sum.elim f g)
theorem bdS_inv {A B β : Type} {x : Option (A ⊕ B)} {f : A → Option β} {g : B → Option β} {r : β} (h : bdS x f g = some r) : (∃ a, x = some (.inl a) ∧ f a = some r) ∨ (∃ b, x = some (.inr b) ∧ g b = some r) := by
  unfold bdS at h
  cases x with
  | none => cases h
  | some q =>
    cases q with
    | inl a => exact Or.inl ⟨a, rfl, h⟩
    | inr b => exact Or.inr ⟨b, rfl, h⟩
/-- a drawing's five cells -/
def DrOk (n o : Nat) : Prop := (o = 1 ∨ (49 ≤ o ∧ (o - 49) % 5 = 0)) ∧ o + 5 ≤ n
def drok (n : Nat) (v : Int32) : Bool := decide (49 ≤ v.toNatClampNeg) && (decide ((v.toNatClampNeg - 49) % 5 = 0) && decide (v.toNatClampNeg + 5 ≤ n))
theorem drok_ok {n : Nat} {v : Int32} (h : drok n v = true) : DrOk n v.toNatClampNeg := by
  unfold drok at h
  rw [Bool.and_eq_true, Bool.and_eq_true, decide_eq_true_eq, decide_eq_true_eq, decide_eq_true_eq] at h
  exact ⟨Or.inr ⟨h.1, h.2.1⟩, h.2.2⟩
theorem DrOk.main {n : Nat} (h : 49 ≤ n) : DrOk n 1 := ⟨Or.inl rfl, by omega⟩
theorem DrOk.lt0 {n o : Nat} (h : DrOk n o) : o < n := by have := h.2; omega
theorem DrOk.lt1 {n o : Nat} (h : DrOk n o) : o + 1 < n := by have := h.2; omega
theorem DrOk.lt2 {n o : Nat} (h : DrOk n o) : o + 2 < n := by have := h.2; omega
theorem DrOk.lt3 {n o : Nat} (h : DrOk n o) : o + 3 < n := by have := h.2; omega
theorem DrOk.lt4 {n o : Nat} (h : DrOk n o) : o + 4 < n := by have := h.2; omega
theorem sh0_dyn {o j : Nat} (h : 49 ≤ o) (h5 : (o - 49) % 5 = 0) (hj : j < 5) : sh0 (o + j) = drS o j := by
  unfold sh0
  rw [if_neg (by omega)]
  rw [show 49 + 5 * ((o + j - 49) / 5) = o by omega, show (o + j - 49) % 5 = j by omega]
theorem DrOk.s0 {n o : Nat} (h : DrOk n o) : sh0 o = .inr (1, [some (o + 1), some (o + 2), some (o + 3), some (o + 4)]) := by
  rcases h.1 with rfl | ⟨h1, h2⟩
  · rfl
  · exact sh0_dyn (j := 0) h1 h2 (by omega)
theorem DrOk.s1 {n o : Nat} (h : DrOk n o) : sh0 (o + 1) = .inl (0, 192) := by
  rcases h.1 with rfl | ⟨h1, h2⟩
  · rfl
  · exact sh0_dyn (j := 1) h1 h2 (by omega)
theorem DrOk.s2 {n o : Nat} (h : DrOk n o) : sh0 (o + 2) = .inl (0, 192) := by
  rcases h.1 with rfl | ⟨h1, h2⟩
  · rfl
  · exact sh0_dyn (j := 2) h1 h2 (by omega)
theorem DrOk.s3 {n o : Nat} (h : DrOk n o) : sh0 (o + 3) = .inl (0, 24) := by
  rcases h.1 with rfl | ⟨h1, h2⟩
  · rfl
  · exact sh0_dyn (j := 3) h1 h2 (by omega)
theorem DrOk.s4 {n o : Nat} (h : DrOk n o) : sh0 (o + 4) = .inl (0, 24) := by
  rcases h.1 with rfl | ⟨h1, h2⟩
  · rfl
  · exact sh0_dyn (j := 4) h1 h2 (by omega)
theorem tbl_ok {k : List (Nat × Instr × Nat)} {cc : ByteArray} (h : ∀ q ∈ k, decode cc q.1 = .ok q.2) : ∀ (i : Nat) (q : Nat × Instr × Nat), k[i]? = some q → decode cc q.1 = .ok q.2 := fun _ q hq => h q (List.mem_of_getElem? hq)
theorem sh_0 : sh0 0 = .inr (4, [some 1, some 6, some 10, some 17]) := rfl
theorem sh_1 : sh0 1 = .inr (1, [some 2, some 3, some 4, some 5]) := rfl
theorem sh_2 : sh0 2 = .inl (0, 192) := rfl
theorem sh_3 : sh0 3 = .inl (0, 192) := rfl
theorem sh_4 : sh0 4 = .inl (0, 24) := rfl
theorem sh_5 : sh0 5 = .inl (0, 24) := rfl
theorem sh_6 : sh0 6 = .inr (2, [some 7, some 8, some 9, none]) := rfl
theorem sh_7 : sh0 7 = .inl (0, 24) := rfl
theorem sh_8 : sh0 8 = .inl (0, 92) := rfl
theorem sh_9 : sh0 9 = .inl (0, 92) := rfl
theorem sh_10 : sh0 10 = .inr (3, [some 11, none, some 12, some 13, some 14, some 15, some 16]) := rfl
theorem sh_11 : sh0 11 = .inl (3, 10) := rfl
theorem sh_12 : sh0 12 = .inl (0, 36) := rfl
theorem sh_13 : sh0 13 = .inl (0, 36) := rfl
theorem sh_14 : sh0 14 = .inl (0, 2) := rfl
theorem sh_15 : sh0 15 = .inl (0, 2) := rfl
theorem sh_16 : sh0 16 = .inl (0, 97) := rfl
theorem sh_17 : sh0 17 = .inr (0, [none, none, some 18, some 19, some 20, some 21, some 22, some 23, some 24, some 25, some 26, none, none]) := rfl
theorem sh_18 : sh0 18 = .inl (0, 903) := rfl
theorem sh_19 : sh0 19 = .inl (0, 903) := rfl
theorem sh_20 : sh0 20 = .inl (0, 903) := rfl
theorem sh_21 : sh0 21 = .inl (0, 97) := rfl
theorem sh_22 : sh0 22 = .inl (0, 903) := rfl
theorem sh_23 : sh0 23 = .inl (0, 903) := rfl
theorem sh_24 : sh0 24 = .inl (0, 903) := rfl
theorem sh_25 : sh0 25 = .inl (0, 903) := rfl
theorem sh_26 : sh0 26 = .inl (0, 903) := rfl
theorem sh_27 : sh0 27 = .inr (5, [none, none, some 28, some 29, some 30, some 31, some 32, some 33, none, some 34, some 35, some 36, some 37, some 38, none, some 39, some 40, some 41, some 42, some 43, some 44, some 45, some 46, none, none, some 47]) := rfl
theorem sh_28 : sh0 28 = .inl (0, 264) := rfl
theorem sh_29 : sh0 29 = .inl (0, 264) := rfl
theorem sh_30 : sh0 30 = .inl (0, 2112) := rfl
theorem sh_31 : sh0 31 = .inl (0, 2112) := rfl
theorem sh_32 : sh0 32 = .inl (0, 32) := rfl
theorem sh_33 : sh0 33 = .inl (0, 96) := rfl
theorem sh_34 : sh0 34 = .inl (0, 96) := rfl
theorem sh_35 : sh0 35 = .inl (0, 36) := rfl
theorem sh_36 : sh0 36 = .inl (0, 36) := rfl
theorem sh_37 : sh0 37 = .inl (0, 2) := rfl
theorem sh_38 : sh0 38 = .inl (0, 2) := rfl
theorem sh_39 : sh0 39 = .inl (0, 1000) := rfl
theorem sh_40 : sh0 40 = .inl (0, 1000) := rfl
theorem sh_41 : sh0 41 = .inl (0, 1000) := rfl
theorem sh_42 : sh0 42 = .inl (1, 1000) := rfl
theorem sh_43 : sh0 43 = .inl (1, 97) := rfl
theorem sh_44 : sh0 44 = .inl (0, 1000) := rfl
theorem sh_45 : sh0 45 = .inl (0, 1000) := rfl
theorem sh_46 : sh0 46 = .inl (0, 1000) := rfl
theorem sh_47 : sh0 47 = .inl (0, 1000) := rfl
theorem sh_48 : sh0 48 = .inl (2, 1) := rfl
section JN
variable {p : Program} {l : Launch} {e : Env} {R : Room} {s : State} {m : MethodId} {args : Array Value} {below : List Frame} {meth : Method} {c : Code} {D : va_G} {cA : Nat → ClassId} {ad : Nat → Nat} {n : Nat} {A : Nat → Prop} {sa : Nat → Nat} {nL cells slots : Nat} {Q : State → Prop} {cc : ByteArray} {own : String} {kt : List (Nat × Instr × Nat)} {M : Mem} {pc : Nat} {L : List (Nat × Value)} {st : List Value} {M2 : Mem}
theorem Cx.lt (hX : Cx p s m args meth c D cA ad n A sa cc nL own kt) {k : Nat} (h : k < 49) : k < n := Nat.lt_of_lt_of_le h hX.n49
theorem J.nm {x v : Int32} (h : x = v) (kk : J p l e R s m args below meth c D cA ad n A nL cells slots Q M pc L (.int v :: st)) : J p l e R s m args below meth c D cA ad n A nL cells slots Q M pc L (.int x :: st) := by rw [h]; exact kk
theorem J.ialdN (hX : Cx p s m args meth c D cA ad n A sa cc nL own kt) (i : Nat) (k : Nat) {len : Nat} {x : Int32} (hkn : k < n) (hs : sh0 k = .inl (0, len)) (hb : vp_in x len) {t : Int32} (ht : M k x.toNatClampNeg = t) (hk : kt[i]? = some (pc, .iaload, 1)) (kk : J p l e R s m args below meth c D cA ad n A nL cells slots Q M (pc + 1) L (.int t :: st)) : J p l e R s m args below meth c D cA ad n A nL cells slots Q M pc L (.int x :: .ref (ad k) :: st) := J.iald hX i k hkn hs hb hk (by rw [ht]; exact kk)
theorem J.zaldN (hX : Cx p s m args meth c D cA ad n A sa cc nL own kt) (i : Nat) (k : Nat) {len : Nat} {x : Int32} (hkn : k < n) (hs : sh0 k = .inl (1, len)) (hb : vp_in x len) {t : Int32} (ht : M k x.toNatClampNeg = t) (hk : kt[i]? = some (pc, .baload, 1)) (kk : J p l e R s m args below meth c D cA ad n A nL cells slots Q M (pc + 1) L (.int t :: st)) : J p l e R s m args below meth c D cA ad n A nL cells slots Q M pc L (.int x :: .ref (ad k) :: st) := J.zald hX i k hkn hs hb hk (by rw [ht]; exact kk)
theorem J.iastN (hX : Cx p s m args meth c D cA ad n A sa cc nL own kt) (i : Nat) (k : Nat) {len : Nat} {x : Int32} (hkn : k < n) (hs : sh0 k = .inl (0, len)) (hb : vp_in x len) {v : Int32} (hM : wr M k x.toNatClampNeg v = M2) (hk : kt[i]? = some (pc, .iastore, 1)) (kk : J p l e R s m args below meth c D cA ad n A nL cells slots Q M2 (pc + 1) L st) : J p l e R s m args below meth c D cA ad n A nL cells slots Q M pc L (.int v :: .int x :: .ref (ad k) :: st) := J.iast hX i k hkn hs hb hk (by rw [hM]; exact kk)
theorem J.zastN (hX : Cx p s m args meth c D cA ad n A sa cc nL own kt) (i : Nat) (k : Nat) {len : Nat} {x : Int32} (hkn : k < n) (hs : sh0 k = .inl (1, len)) (hb : vp_in x len) {v : Int32} (hM : wr M k x.toNatClampNeg v = M2) (hv : vp_nar .boolean v = v) (hk : kt[i]? = some (pc, .bastore, 1)) (kk : J p l e R s m args below meth c D cA ad n A nL cells slots Q M2 (pc + 1) L st) : J p l e R s m args below meth c D cA ad n A nL cells slots Q M pc L (.int v :: .int x :: .ref (ad k) :: st) := J.zast hX i k hkn hs hb hv hk (by rw [hM]; exact kk)
theorem J.putIN (hX : Cx p s m args meth c D cA ad n A sa cc nL own kt) (i : Nat) (k ci : Nat) {fs : List (Option Nat)} {C : String} {T : u_T} {N ix : Nat} (hkn : k < n) (hs : sh0 k = .inr (ci, fs)) (hc : cls6[ci]? = some (C, T, N)) (hin : ∀ w ∈ u_ws C T N, w ∈ wsL_law) (j : Nat) (hj : j < N) (hw : Cond.fieldLink own ix (T j).1 (T j).2.1 (T j).2.2.1 ∈ wsL_law) {v : Int32} (ty0 : Nat → FieldType) (hty : ∀ k, k < N → parseFieldDescriptor (T k).2.2.1 = some (ty0 k)) (hnm : ∀ a, a < N → ∀ b, b < N → a ≠ b → (T a).2.1 ≠ (T b).2.1) (hM : wr M k j v = M2) (hf : fs[j]? = some none) (hfin : (T j).2.2.2 = false) (hd : parseFieldDescriptor (T j).2.2.1 = some .int) (hk : kt[i]? = some (pc, .putfield ix, 3)) (kk : J p l e R s m args below meth c D cA ad n A nL cells slots Q M2 (pc + 3) L st) : J p l e R s m args below meth c D cA ad n A nL cells slots Q M pc L (.int v :: .ref (ad k) :: st) := J.putI hX i k ci hkn hs hc hin j hj hw ty0 hty hnm hf hfin hd hk (by rw [hM]; exact kk)
theorem J.tabIn (hX : Cx p s m args meth c D cA ad n A sa cc nL own kt) (i : Nat) {dflt lo hi : Int} {offs : Array Int} {len : Nat} {x : Int32} (off : Int) (tgt : Nat) (hk : kt[i]? = some (pc, .tableswitch dflt lo hi offs, len)) (h1 : ¬ x.toInt < lo) (h2 : ¬ hi < x.toInt) (ho : offs[(x.toInt - lo).toNat]? = some off) (ht : (pc : Int) + off = (tgt : Int)) (kk : J p l e R s m args below meth c D cA ad n A nL cells slots Q M tgt L st) : J p l e R s m args below meth c D cA ad n A nL cells slots Q M pc L (.int x :: st) := fun H locs ls hP hS hL => lv_tableIn hX.ex hX.by (hX.dec hk) h1 h2 ho ht (kk H locs ls hP hS hL)
theorem J.tabOut (hX : Cx p s m args meth c D cA ad n A sa cc nL own kt) (i : Nat) {dflt lo hi : Int} {offs : Array Int} {len : Nat} {x : Int32} (tgt : Nat) (hk : kt[i]? = some (pc, .tableswitch dflt lo hi offs, len)) (h1 : x.toInt < lo ∨ hi < x.toInt) (ht : (pc : Int) + dflt = (tgt : Int)) (kk : J p l e R s m args below meth c D cA ad n A nL cells slots Q M tgt L st) : J p l e R s m args below meth c D cA ad n A nL cells slots Q M pc L (.int x :: st) := fun H locs ls hP hS hL => lv_tableOut hX.ex hX.by (hX.dec hk) h1 ht (kk H locs ls hP hS hL)
theorem J.look (hX : Cx p s m args meth c D cA ad n A sa cc nL own kt) (i : Nat) {dflt : Int} {ps : Array (Int × Int)} {len : Nat} {x : Int32} (off : Int) (tgt : Nat) (hk : kt[i]? = some (pc, .lookupswitch dflt ps, len)) (hp : (ps.toList.zip (ps.toList.drop 1)).all (fun (a, next) => a.1 < next.1) = true) (ho : Op.lookupswitch.offset ps.toList dflt x.toInt = off) (ht : (pc : Int) + off = (tgt : Int)) (kk : J p l e R s m args below meth c D cA ad n A nL cells slots Q M tgt L st) : J p l e R s m args below meth c D cA ad n A nL cells slots Q M pc L (.int x :: st) := fun H locs ls hP hS hL => lv_lookup hX.ex hX.by (hX.dec hk) hp ho ht (kk H locs ls hP hS hL)
theorem J.mmax (hX : Cx p s m args meth c D cA ad n A sa cc nL own kt) (i : Nat) {ix : Nat} {x y : Int32} (hk : kt[i]? = some (pc, .invokestatic ix, 3)) (hm : Cond.methodLink own ix Lib.Math.max.name ∈ wsL_law) (h2 : Cond.static Lib.Math.max.name ∈ wsL_law) (h3 : Cond.initialized "java/lang/Math" ∈ wsL_law) (h4 : Cond.code Lib.Math.max.name Lib.Math.max.code 2 (some .int) ∈ wsL_law) (hfr : 1 ≤ R.frames) (hlo : (st.map fun v => v.category).sum + 13 ≤ R.locals) (hc : cells ≤ R.cells) (hsl : slots ≤ R.slots) (kk : J p l e R s m args below meth c D cA ad n A nL cells slots Q M (pc + 3) L (.int (if x < y then y else x) :: st)) : J p l e R s m args below meth c D cA ad n A nL cells slots Q M pc L (.int y :: .int x :: st) := fun H locs ls hP hS hL => va_mmax hX.ex hX.by (hX.ml.trans hL.1.symm) hX.ow (hX.ws _ hm) (hX.ws _ h2) (hX.ws _ h3) (hX.ws _ h4) hfr hlo hc hsl (hX.dec hk) (kk H locs ls hP hS hL)
theorem J.mmin (hX : Cx p s m args meth c D cA ad n A sa cc nL own kt) (i : Nat) {ix : Nat} {x y : Int32} (hk : kt[i]? = some (pc, .invokestatic ix, 3)) (hm : Cond.methodLink own ix Lib.Math.min.name ∈ wsL_law) (h2 : Cond.static Lib.Math.min.name ∈ wsL_law) (h3 : Cond.initialized "java/lang/Math" ∈ wsL_law) (h4 : Cond.code Lib.Math.min.name Lib.Math.min.code 2 (some .int) ∈ wsL_law) (hfr : 1 ≤ R.frames) (hlo : (st.map fun v => v.category).sum + 13 ≤ R.locals) (hc : cells ≤ R.cells) (hsl : slots ≤ R.slots) (kk : J p l e R s m args below meth c D cA ad n A nL cells slots Q M (pc + 3) L (.int (if y < x then y else x) :: st)) : J p l e R s m args below meth c D cA ad n A nL cells slots Q M pc L (.int y :: .int x :: st) := fun H locs ls hP hS hL => va_mmin hX.ex hX.by (hX.ml.trans hL.1.symm) hX.ow (hX.ws _ hm) (hX.ws _ h2) (hX.ws _ h3) (hX.ws _ h4) hfr hlo hc hsl (hX.dec hk) (kk H locs ls hP hS hL)
theorem J.mabs (hX : Cx p s m args meth c D cA ad n A sa cc nL own kt) (i : Nat) {ix : Nat} {x : Int32} (hk : kt[i]? = some (pc, .invokestatic ix, 3)) (hm : Cond.methodLink own ix Lib.Math.abs.name ∈ wsL_law) (h2 : Cond.static Lib.Math.abs.name ∈ wsL_law) (h3 : Cond.initialized "java/lang/Math" ∈ wsL_law) (h4 : Cond.code Lib.Math.abs.name Lib.Math.abs.code 1 (some .int) ∈ wsL_law) (hfr : 1 ≤ R.frames) (hlo : (st.map fun v => v.category).sum + 13 ≤ R.locals) (hc : cells ≤ R.cells) (hsl : slots ≤ R.slots) (kk : J p l e R s m args below meth c D cA ad n A nL cells slots Q M (pc + 3) L (.int (if 0 ≤ x then x else 0 - x) :: st)) : J p l e R s m args below meth c D cA ad n A nL cells slots Q M pc L (.int x :: st) := fun H locs ls hP hS hL => va_mabs hX.ex hX.by (hX.ml.trans hL.1.symm) hX.ow (hX.ws _ hm) (hX.ws _ h2) (hX.ws _ h3) (hX.ws _ h4) hfr hlo hc hsl (hX.dec hk) (kk H locs ls hP hS hL)
theorem J.aloadQn (hX : Cx p s m args meth c D cA ad n A sa cc nL own kt) (i : Nat) {k : Fin 4} {v : Int32} (q : Nat) (hk : kt[i]? = some (pc, .aload_n k, 1)) (hl : L[q]? = some (k.val, va_rf (dec ad v))) (kk : J p l e R s m args below meth c D cA ad n A nL cells slots Q M (pc + 1) L (va_rf (dec ad v) :: st)) : J p l e R s m args below meth c D cA ad n A nL cells slots Q M pc L st := fun H locs ls hP hS hL => by
  by_cases h : v = 0
  · rw [show va_rf (dec ad v) = .null from by simp [dec, h, va_rf]] at hl kk
    exact lv_aload_nN hX.ex hX.by (hX.dec hk) rfl (lv_at hL q hl) (kk H locs ls hP hS hL)
  · rw [show va_rf (dec ad v) = .ref (ad v.toNatClampNeg) from by simp [dec, h, va_rf]] at hl kk
    exact lv_aload_n hX.ex hX.by (hX.dec hk) rfl (lv_at hL q hl) (kk H locs ls hP hS hL)
theorem J.aloadQ (hX : Cx p s m args meth c D cA ad n A sa cc nL own kt) (i : Nat) {k : Nat} {v : Int32} (q : Nat) (hk : kt[i]? = some (pc, .aload k, 2)) (hl : L[q]? = some (k, va_rf (dec ad v))) (kk : J p l e R s m args below meth c D cA ad n A nL cells slots Q M (pc + 2) L (va_rf (dec ad v) :: st)) : J p l e R s m args below meth c D cA ad n A nL cells slots Q M pc L st := fun H locs ls hP hS hL => by
  by_cases h : v = 0
  · rw [show va_rf (dec ad v) = .null from by simp [dec, h, va_rf]] at hl kk
    exact lv_aloadN hX.ex hX.by (hX.dec hk) (lv_at hL q hl) (kk H locs ls hP hS hL)
  · rw [show va_rf (dec ad v) = .ref (ad v.toNatClampNeg) from by simp [dec, h, va_rf]] at hl kk
    exact lv_aload hX.ex hX.by (hX.dec hk) (lv_at hL q hl) (kk H locs ls hP hS hL)
theorem J.isref {v : Int32} (h : ¬ v = 0) (kk : J p l e R s m args below meth c D cA ad n A nL cells slots Q M pc L (.ref (ad v.toNatClampNeg) :: st)) : J p l e R s m args below meth c D cA ad n A nL cells slots Q M pc L (va_rf (dec ad v) :: st) := by
  rw [show va_rf (dec ad v) = .ref (ad v.toNatClampNeg) from by simp [dec, h, va_rf]]
  exact kk
end JN
abbrev JM (fr lo : Nat) (p : Program) (l : Launch) (e : Env) (s : State) (m : MethodId) (args : Array Value) (below : List Frame) (meth : Method) (c : Code) (D : va_G) (cA : Nat → ClassId) (ad : Nat → Nat) (n : Nat) (A : Nat → Prop) (nL : Nat) (out : Option Value ⊕ String) (M1 : Mem) (M : Mem) (pc : Nat) (L : List (Nat × Value)) (st : List Value) : Prop := J p l e (rm4 fr lo out) s m args below meth c D cA ad n A nL 0 0 (vx_MQ below (QQ D cA ad n A out M1) (XX D cA ad n A out M1) args s (oc out) (os out) A) M pc L st
theorem in_wsL_law0_r1 : ∀ w ∈ wsL_law0_r1, w ∈ wsL_law := fun w h => List.mem_append_left _ (List.mem_append_left _ (List.mem_append_left _ (List.mem_append_left _ (List.mem_append_left _ (List.mem_append_left _ (List.mem_append_left _ (List.mem_append_left _ (List.mem_append_left _ (List.mem_append_left _ (List.mem_append_left _ (h)))))))))))
theorem in_wsL_law0_r2 : ∀ w ∈ wsL_law0_r2, w ∈ wsL_law := fun w h => List.mem_append_left _ (List.mem_append_left _ (List.mem_append_left _ (List.mem_append_left _ (List.mem_append_left _ (List.mem_append_left _ (List.mem_append_left _ (List.mem_append_left _ (List.mem_append_left _ (List.mem_append_left _ (List.mem_append_right _ (List.mem_append_left _ (h))))))))))))
theorem in_wsL_law0_r3 : ∀ w ∈ wsL_law0_r3, w ∈ wsL_law := fun w h => List.mem_append_left _ (List.mem_append_left _ (List.mem_append_left _ (List.mem_append_left _ (List.mem_append_left _ (List.mem_append_left _ (List.mem_append_left _ (List.mem_append_left _ (List.mem_append_left _ (List.mem_append_left _ (List.mem_append_right _ (List.mem_append_right _ (List.mem_append_left _ (h)))))))))))))
theorem in_wsL_law0_r4 : ∀ w ∈ wsL_law0_r4, w ∈ wsL_law := fun w h => List.mem_append_left _ (List.mem_append_left _ (List.mem_append_left _ (List.mem_append_left _ (List.mem_append_left _ (List.mem_append_left _ (List.mem_append_left _ (List.mem_append_left _ (List.mem_append_left _ (List.mem_append_left _ (List.mem_append_right _ (List.mem_append_right _ (List.mem_append_right _ (List.mem_append_left _ (h))))))))))))))
theorem in_wsL_law0_r5 : ∀ w ∈ wsL_law0_r5, w ∈ wsL_law := fun w h => List.mem_append_left _ (List.mem_append_left _ (List.mem_append_left _ (List.mem_append_left _ (List.mem_append_left _ (List.mem_append_left _ (List.mem_append_left _ (List.mem_append_left _ (List.mem_append_left _ (List.mem_append_left _ (List.mem_append_right _ (List.mem_append_right _ (List.mem_append_right _ (List.mem_append_right _ (List.mem_append_left _ (h)))))))))))))))
theorem in_wsL_law0_r6 : ∀ w ∈ wsL_law0_r6, w ∈ wsL_law := fun w h => List.mem_append_left _ (List.mem_append_left _ (List.mem_append_left _ (List.mem_append_left _ (List.mem_append_left _ (List.mem_append_left _ (List.mem_append_left _ (List.mem_append_left _ (List.mem_append_left _ (List.mem_append_left _ (List.mem_append_right _ (List.mem_append_right _ (List.mem_append_right _ (List.mem_append_right _ (List.mem_append_right _ (List.mem_append_left _ (h))))))))))))))))
theorem in_wsL_law0_r7 : ∀ w ∈ wsL_law0_r7, w ∈ wsL_law := fun w h => List.mem_append_left _ (List.mem_append_left _ (List.mem_append_left _ (List.mem_append_left _ (List.mem_append_left _ (List.mem_append_left _ (List.mem_append_left _ (List.mem_append_left _ (List.mem_append_left _ (List.mem_append_left _ (List.mem_append_right _ (List.mem_append_right _ (List.mem_append_right _ (List.mem_append_right _ (List.mem_append_right _ (List.mem_append_right _ (List.mem_append_left _ (h)))))))))))))))))
theorem in_wsL_law0_r8 : ∀ w ∈ wsL_law0_r8, w ∈ wsL_law := fun w h => List.mem_append_left _ (List.mem_append_left _ (List.mem_append_left _ (List.mem_append_left _ (List.mem_append_left _ (List.mem_append_left _ (List.mem_append_left _ (List.mem_append_left _ (List.mem_append_left _ (List.mem_append_left _ (List.mem_append_right _ (List.mem_append_right _ (List.mem_append_right _ (List.mem_append_right _ (List.mem_append_right _ (List.mem_append_right _ (List.mem_append_right _ (List.mem_append_left _ (h))))))))))))))))))
theorem in_wsL_law0_r9 : ∀ w ∈ wsL_law0_r9, w ∈ wsL_law := fun w h => List.mem_append_left _ (List.mem_append_left _ (List.mem_append_left _ (List.mem_append_left _ (List.mem_append_left _ (List.mem_append_left _ (List.mem_append_left _ (List.mem_append_left _ (List.mem_append_left _ (List.mem_append_left _ (List.mem_append_right _ (List.mem_append_right _ (List.mem_append_right _ (List.mem_append_right _ (List.mem_append_right _ (List.mem_append_right _ (List.mem_append_right _ (List.mem_append_right _ (List.mem_append_left _ (h)))))))))))))))))))
theorem in_wsL_law0_r10 : ∀ w ∈ wsL_law0_r10, w ∈ wsL_law := fun w h => List.mem_append_left _ (List.mem_append_left _ (List.mem_append_left _ (List.mem_append_left _ (List.mem_append_left _ (List.mem_append_left _ (List.mem_append_left _ (List.mem_append_left _ (List.mem_append_left _ (List.mem_append_left _ (List.mem_append_right _ (List.mem_append_right _ (List.mem_append_right _ (List.mem_append_right _ (List.mem_append_right _ (List.mem_append_right _ (List.mem_append_right _ (List.mem_append_right _ (List.mem_append_right _ (List.mem_append_left _ (h))))))))))))))))))))
theorem in_wsL_law0_r11 : ∀ w ∈ wsL_law0_r11, w ∈ wsL_law := fun w h => List.mem_append_left _ (List.mem_append_left _ (List.mem_append_left _ (List.mem_append_left _ (List.mem_append_left _ (List.mem_append_left _ (List.mem_append_left _ (List.mem_append_left _ (List.mem_append_left _ (List.mem_append_left _ (List.mem_append_right _ (List.mem_append_right _ (List.mem_append_right _ (List.mem_append_right _ (List.mem_append_right _ (List.mem_append_right _ (List.mem_append_right _ (List.mem_append_right _ (List.mem_append_right _ (List.mem_append_right _ (List.mem_append_left _ (h)))))))))))))))))))))
theorem in_wsL_law0_r12 : ∀ w ∈ wsL_law0_r12, w ∈ wsL_law := fun w h => List.mem_append_left _ (List.mem_append_left _ (List.mem_append_left _ (List.mem_append_left _ (List.mem_append_left _ (List.mem_append_left _ (List.mem_append_left _ (List.mem_append_left _ (List.mem_append_left _ (List.mem_append_left _ (List.mem_append_right _ (List.mem_append_right _ (List.mem_append_right _ (List.mem_append_right _ (List.mem_append_right _ (List.mem_append_right _ (List.mem_append_right _ (List.mem_append_right _ (List.mem_append_right _ (List.mem_append_right _ (List.mem_append_right _ (List.mem_append_left _ (h))))))))))))))))))))))
theorem in_wsL_law0_r13 : ∀ w ∈ wsL_law0_r13, w ∈ wsL_law := fun w h => List.mem_append_left _ (List.mem_append_left _ (List.mem_append_left _ (List.mem_append_left _ (List.mem_append_left _ (List.mem_append_left _ (List.mem_append_left _ (List.mem_append_left _ (List.mem_append_left _ (List.mem_append_left _ (List.mem_append_right _ (List.mem_append_right _ (List.mem_append_right _ (List.mem_append_right _ (List.mem_append_right _ (List.mem_append_right _ (List.mem_append_right _ (List.mem_append_right _ (List.mem_append_right _ (List.mem_append_right _ (List.mem_append_right _ (List.mem_append_right _ (List.mem_append_left _ (h)))))))))))))))))))))))
theorem in_wsL_law0_r14 : ∀ w ∈ wsL_law0_r14, w ∈ wsL_law := fun w h => List.mem_append_left _ (List.mem_append_left _ (List.mem_append_left _ (List.mem_append_left _ (List.mem_append_left _ (List.mem_append_left _ (List.mem_append_left _ (List.mem_append_left _ (List.mem_append_left _ (List.mem_append_left _ (List.mem_append_right _ (List.mem_append_right _ (List.mem_append_right _ (List.mem_append_right _ (List.mem_append_right _ (List.mem_append_right _ (List.mem_append_right _ (List.mem_append_right _ (List.mem_append_right _ (List.mem_append_right _ (List.mem_append_right _ (List.mem_append_right _ (List.mem_append_right _ (List.mem_append_left _ (h))))))))))))))))))))))))
theorem in_wsL_law0_r15 : ∀ w ∈ wsL_law0_r15, w ∈ wsL_law := fun w h => List.mem_append_left _ (List.mem_append_left _ (List.mem_append_left _ (List.mem_append_left _ (List.mem_append_left _ (List.mem_append_left _ (List.mem_append_left _ (List.mem_append_left _ (List.mem_append_left _ (List.mem_append_left _ (List.mem_append_right _ (List.mem_append_right _ (List.mem_append_right _ (List.mem_append_right _ (List.mem_append_right _ (List.mem_append_right _ (List.mem_append_right _ (List.mem_append_right _ (List.mem_append_right _ (List.mem_append_right _ (List.mem_append_right _ (List.mem_append_right _ (List.mem_append_right _ (List.mem_append_right _ (List.mem_append_left _ (h)))))))))))))))))))))))))
theorem in_wsL_law0_r16 : ∀ w ∈ wsL_law0_r16, w ∈ wsL_law := fun w h => List.mem_append_left _ (List.mem_append_left _ (List.mem_append_left _ (List.mem_append_left _ (List.mem_append_left _ (List.mem_append_left _ (List.mem_append_left _ (List.mem_append_left _ (List.mem_append_left _ (List.mem_append_left _ (List.mem_append_right _ (List.mem_append_right _ (List.mem_append_right _ (List.mem_append_right _ (List.mem_append_right _ (List.mem_append_right _ (List.mem_append_right _ (List.mem_append_right _ (List.mem_append_right _ (List.mem_append_right _ (List.mem_append_right _ (List.mem_append_right _ (List.mem_append_right _ (List.mem_append_right _ (List.mem_append_right _ (List.mem_append_left _ (h))))))))))))))))))))))))))
theorem in_wsL_law0_r17 : ∀ w ∈ wsL_law0_r17, w ∈ wsL_law := fun w h => List.mem_append_left _ (List.mem_append_left _ (List.mem_append_left _ (List.mem_append_left _ (List.mem_append_left _ (List.mem_append_left _ (List.mem_append_left _ (List.mem_append_left _ (List.mem_append_left _ (List.mem_append_left _ (List.mem_append_right _ (List.mem_append_right _ (List.mem_append_right _ (List.mem_append_right _ (List.mem_append_right _ (List.mem_append_right _ (List.mem_append_right _ (List.mem_append_right _ (List.mem_append_right _ (List.mem_append_right _ (List.mem_append_right _ (List.mem_append_right _ (List.mem_append_right _ (List.mem_append_right _ (List.mem_append_right _ (List.mem_append_right _ (List.mem_append_left _ (h)))))))))))))))))))))))))))
theorem in_wsL_law0_r18 : ∀ w ∈ wsL_law0_r18, w ∈ wsL_law := fun w h => List.mem_append_left _ (List.mem_append_left _ (List.mem_append_left _ (List.mem_append_left _ (List.mem_append_left _ (List.mem_append_left _ (List.mem_append_left _ (List.mem_append_left _ (List.mem_append_left _ (List.mem_append_left _ (List.mem_append_right _ (List.mem_append_right _ (List.mem_append_right _ (List.mem_append_right _ (List.mem_append_right _ (List.mem_append_right _ (List.mem_append_right _ (List.mem_append_right _ (List.mem_append_right _ (List.mem_append_right _ (List.mem_append_right _ (List.mem_append_right _ (List.mem_append_right _ (List.mem_append_right _ (List.mem_append_right _ (List.mem_append_right _ (List.mem_append_right _ (List.mem_append_left _ (h))))))))))))))))))))))))))))
theorem in_wsL_law0_r19 : ∀ w ∈ wsL_law0_r19, w ∈ wsL_law := fun w h => List.mem_append_left _ (List.mem_append_left _ (List.mem_append_left _ (List.mem_append_left _ (List.mem_append_left _ (List.mem_append_left _ (List.mem_append_left _ (List.mem_append_left _ (List.mem_append_left _ (List.mem_append_left _ (List.mem_append_right _ (List.mem_append_right _ (List.mem_append_right _ (List.mem_append_right _ (List.mem_append_right _ (List.mem_append_right _ (List.mem_append_right _ (List.mem_append_right _ (List.mem_append_right _ (List.mem_append_right _ (List.mem_append_right _ (List.mem_append_right _ (List.mem_append_right _ (List.mem_append_right _ (List.mem_append_right _ (List.mem_append_right _ (List.mem_append_right _ (List.mem_append_right _ (List.mem_append_left _ (h)))))))))))))))))))))))))))))
theorem in_wsL_law0_r20 : ∀ w ∈ wsL_law0_r20, w ∈ wsL_law := fun w h => List.mem_append_left _ (List.mem_append_left _ (List.mem_append_left _ (List.mem_append_left _ (List.mem_append_left _ (List.mem_append_left _ (List.mem_append_left _ (List.mem_append_left _ (List.mem_append_left _ (List.mem_append_left _ (List.mem_append_right _ (List.mem_append_right _ (List.mem_append_right _ (List.mem_append_right _ (List.mem_append_right _ (List.mem_append_right _ (List.mem_append_right _ (List.mem_append_right _ (List.mem_append_right _ (List.mem_append_right _ (List.mem_append_right _ (List.mem_append_right _ (List.mem_append_right _ (List.mem_append_right _ (List.mem_append_right _ (List.mem_append_right _ (List.mem_append_right _ (List.mem_append_right _ (List.mem_append_right _ (List.mem_append_left _ (h))))))))))))))))))))))))))))))
theorem in_wsL_law0_r21 : ∀ w ∈ wsL_law0_r21, w ∈ wsL_law := fun w h => List.mem_append_left _ (List.mem_append_left _ (List.mem_append_left _ (List.mem_append_left _ (List.mem_append_left _ (List.mem_append_left _ (List.mem_append_left _ (List.mem_append_left _ (List.mem_append_left _ (List.mem_append_left _ (List.mem_append_right _ (List.mem_append_right _ (List.mem_append_right _ (List.mem_append_right _ (List.mem_append_right _ (List.mem_append_right _ (List.mem_append_right _ (List.mem_append_right _ (List.mem_append_right _ (List.mem_append_right _ (List.mem_append_right _ (List.mem_append_right _ (List.mem_append_right _ (List.mem_append_right _ (List.mem_append_right _ (List.mem_append_right _ (List.mem_append_right _ (List.mem_append_right _ (List.mem_append_right _ (List.mem_append_right _ (List.mem_append_left _ (h)))))))))))))))))))))))))))))))
theorem in_wsL_law0_r22 : ∀ w ∈ wsL_law0_r22, w ∈ wsL_law := fun w h => List.mem_append_left _ (List.mem_append_left _ (List.mem_append_left _ (List.mem_append_left _ (List.mem_append_left _ (List.mem_append_left _ (List.mem_append_left _ (List.mem_append_left _ (List.mem_append_left _ (List.mem_append_left _ (List.mem_append_right _ (List.mem_append_right _ (List.mem_append_right _ (List.mem_append_right _ (List.mem_append_right _ (List.mem_append_right _ (List.mem_append_right _ (List.mem_append_right _ (List.mem_append_right _ (List.mem_append_right _ (List.mem_append_right _ (List.mem_append_right _ (List.mem_append_right _ (List.mem_append_right _ (List.mem_append_right _ (List.mem_append_right _ (List.mem_append_right _ (List.mem_append_right _ (List.mem_append_right _ (List.mem_append_right _ (List.mem_append_right _ (List.mem_append_left _ (h))))))))))))))))))))))))))))))))
theorem in_wsL_law0_r23 : ∀ w ∈ wsL_law0_r23, w ∈ wsL_law := fun w h => List.mem_append_left _ (List.mem_append_left _ (List.mem_append_left _ (List.mem_append_left _ (List.mem_append_left _ (List.mem_append_left _ (List.mem_append_left _ (List.mem_append_left _ (List.mem_append_left _ (List.mem_append_left _ (List.mem_append_right _ (List.mem_append_right _ (List.mem_append_right _ (List.mem_append_right _ (List.mem_append_right _ (List.mem_append_right _ (List.mem_append_right _ (List.mem_append_right _ (List.mem_append_right _ (List.mem_append_right _ (List.mem_append_right _ (List.mem_append_right _ (List.mem_append_right _ (List.mem_append_right _ (List.mem_append_right _ (List.mem_append_right _ (List.mem_append_right _ (List.mem_append_right _ (List.mem_append_right _ (List.mem_append_right _ (List.mem_append_right _ (List.mem_append_right _ (List.mem_append_left _ (h)))))))))))))))))))))))))))))))))
theorem in_wsL_law0_r24 : ∀ w ∈ wsL_law0_r24, w ∈ wsL_law := fun w h => List.mem_append_left _ (List.mem_append_left _ (List.mem_append_left _ (List.mem_append_left _ (List.mem_append_left _ (List.mem_append_left _ (List.mem_append_left _ (List.mem_append_left _ (List.mem_append_left _ (List.mem_append_left _ (List.mem_append_right _ (List.mem_append_right _ (List.mem_append_right _ (List.mem_append_right _ (List.mem_append_right _ (List.mem_append_right _ (List.mem_append_right _ (List.mem_append_right _ (List.mem_append_right _ (List.mem_append_right _ (List.mem_append_right _ (List.mem_append_right _ (List.mem_append_right _ (List.mem_append_right _ (List.mem_append_right _ (List.mem_append_right _ (List.mem_append_right _ (List.mem_append_right _ (List.mem_append_right _ (List.mem_append_right _ (List.mem_append_right _ (List.mem_append_right _ (List.mem_append_right _ (List.mem_append_left _ (h))))))))))))))))))))))))))))))))))
theorem in_wsL_law0_r25 : ∀ w ∈ wsL_law0_r25, w ∈ wsL_law := fun w h => List.mem_append_left _ (List.mem_append_left _ (List.mem_append_left _ (List.mem_append_left _ (List.mem_append_left _ (List.mem_append_left _ (List.mem_append_left _ (List.mem_append_left _ (List.mem_append_left _ (List.mem_append_left _ (List.mem_append_right _ (List.mem_append_right _ (List.mem_append_right _ (List.mem_append_right _ (List.mem_append_right _ (List.mem_append_right _ (List.mem_append_right _ (List.mem_append_right _ (List.mem_append_right _ (List.mem_append_right _ (List.mem_append_right _ (List.mem_append_right _ (List.mem_append_right _ (List.mem_append_right _ (List.mem_append_right _ (List.mem_append_right _ (List.mem_append_right _ (List.mem_append_right _ (List.mem_append_right _ (List.mem_append_right _ (List.mem_append_right _ (List.mem_append_right _ (List.mem_append_right _ (List.mem_append_right _ (List.mem_append_left _ (h)))))))))))))))))))))))))))))))))))
theorem in_wsL_law0_r26 : ∀ w ∈ wsL_law0_r26, w ∈ wsL_law := fun w h => List.mem_append_left _ (List.mem_append_left _ (List.mem_append_left _ (List.mem_append_left _ (List.mem_append_left _ (List.mem_append_left _ (List.mem_append_left _ (List.mem_append_left _ (List.mem_append_left _ (List.mem_append_left _ (List.mem_append_right _ (List.mem_append_right _ (List.mem_append_right _ (List.mem_append_right _ (List.mem_append_right _ (List.mem_append_right _ (List.mem_append_right _ (List.mem_append_right _ (List.mem_append_right _ (List.mem_append_right _ (List.mem_append_right _ (List.mem_append_right _ (List.mem_append_right _ (List.mem_append_right _ (List.mem_append_right _ (List.mem_append_right _ (List.mem_append_right _ (List.mem_append_right _ (List.mem_append_right _ (List.mem_append_right _ (List.mem_append_right _ (List.mem_append_right _ (List.mem_append_right _ (List.mem_append_right _ (List.mem_append_right _ (List.mem_append_left _ (h))))))))))))))))))))))))))))))))))))
theorem in_wsL_law0_r27 : ∀ w ∈ wsL_law0_r27, w ∈ wsL_law := fun w h => List.mem_append_left _ (List.mem_append_left _ (List.mem_append_left _ (List.mem_append_left _ (List.mem_append_left _ (List.mem_append_left _ (List.mem_append_left _ (List.mem_append_left _ (List.mem_append_left _ (List.mem_append_left _ (List.mem_append_right _ (List.mem_append_right _ (List.mem_append_right _ (List.mem_append_right _ (List.mem_append_right _ (List.mem_append_right _ (List.mem_append_right _ (List.mem_append_right _ (List.mem_append_right _ (List.mem_append_right _ (List.mem_append_right _ (List.mem_append_right _ (List.mem_append_right _ (List.mem_append_right _ (List.mem_append_right _ (List.mem_append_right _ (List.mem_append_right _ (List.mem_append_right _ (List.mem_append_right _ (List.mem_append_right _ (List.mem_append_right _ (List.mem_append_right _ (List.mem_append_right _ (List.mem_append_right _ (List.mem_append_right _ (List.mem_append_right _ (List.mem_append_left _ (h)))))))))))))))))))))))))))))))))))))
theorem in_wsL_law0_r28 : ∀ w ∈ wsL_law0_r28, w ∈ wsL_law := fun w h => List.mem_append_left _ (List.mem_append_left _ (List.mem_append_left _ (List.mem_append_left _ (List.mem_append_left _ (List.mem_append_left _ (List.mem_append_left _ (List.mem_append_left _ (List.mem_append_left _ (List.mem_append_left _ (List.mem_append_right _ (List.mem_append_right _ (List.mem_append_right _ (List.mem_append_right _ (List.mem_append_right _ (List.mem_append_right _ (List.mem_append_right _ (List.mem_append_right _ (List.mem_append_right _ (List.mem_append_right _ (List.mem_append_right _ (List.mem_append_right _ (List.mem_append_right _ (List.mem_append_right _ (List.mem_append_right _ (List.mem_append_right _ (List.mem_append_right _ (List.mem_append_right _ (List.mem_append_right _ (List.mem_append_right _ (List.mem_append_right _ (List.mem_append_right _ (List.mem_append_right _ (List.mem_append_right _ (List.mem_append_right _ (List.mem_append_right _ (List.mem_append_right _ (List.mem_append_left _ (h))))))))))))))))))))))))))))))))))))))
theorem in_wsL_law0_r29 : ∀ w ∈ wsL_law0_r29, w ∈ wsL_law := fun w h => List.mem_append_left _ (List.mem_append_left _ (List.mem_append_left _ (List.mem_append_left _ (List.mem_append_left _ (List.mem_append_left _ (List.mem_append_left _ (List.mem_append_left _ (List.mem_append_left _ (List.mem_append_left _ (List.mem_append_right _ (List.mem_append_right _ (List.mem_append_right _ (List.mem_append_right _ (List.mem_append_right _ (List.mem_append_right _ (List.mem_append_right _ (List.mem_append_right _ (List.mem_append_right _ (List.mem_append_right _ (List.mem_append_right _ (List.mem_append_right _ (List.mem_append_right _ (List.mem_append_right _ (List.mem_append_right _ (List.mem_append_right _ (List.mem_append_right _ (List.mem_append_right _ (List.mem_append_right _ (List.mem_append_right _ (List.mem_append_right _ (List.mem_append_right _ (List.mem_append_right _ (List.mem_append_right _ (List.mem_append_right _ (List.mem_append_right _ (List.mem_append_right _ (List.mem_append_right _ (List.mem_append_left _ (h)))))))))))))))))))))))))))))))))))))))
theorem in_wsL_law0_r30 : ∀ w ∈ wsL_law0_r30, w ∈ wsL_law := fun w h => List.mem_append_left _ (List.mem_append_left _ (List.mem_append_left _ (List.mem_append_left _ (List.mem_append_left _ (List.mem_append_left _ (List.mem_append_left _ (List.mem_append_left _ (List.mem_append_left _ (List.mem_append_left _ (List.mem_append_right _ (List.mem_append_right _ (List.mem_append_right _ (List.mem_append_right _ (List.mem_append_right _ (List.mem_append_right _ (List.mem_append_right _ (List.mem_append_right _ (List.mem_append_right _ (List.mem_append_right _ (List.mem_append_right _ (List.mem_append_right _ (List.mem_append_right _ (List.mem_append_right _ (List.mem_append_right _ (List.mem_append_right _ (List.mem_append_right _ (List.mem_append_right _ (List.mem_append_right _ (List.mem_append_right _ (List.mem_append_right _ (List.mem_append_right _ (List.mem_append_right _ (List.mem_append_right _ (List.mem_append_right _ (List.mem_append_right _ (List.mem_append_right _ (List.mem_append_right _ (List.mem_append_right _ (h)))))))))))))))))))))))))))))))))))))))
theorem in_wsX40 : ∀ w ∈ wsX40, w ∈ wsL_law := fun w h => List.mem_append_left _ (List.mem_append_left _ (List.mem_append_left _ (List.mem_append_left _ (List.mem_append_left _ (List.mem_append_left _ (List.mem_append_left _ (List.mem_append_left _ (List.mem_append_left _ (List.mem_append_right _ (h))))))))))
theorem in_wsX50 : ∀ w ∈ wsX50, w ∈ wsL_law := fun w h => List.mem_append_left _ (List.mem_append_left _ (List.mem_append_left _ (List.mem_append_left _ (List.mem_append_left _ (List.mem_append_left _ (List.mem_append_left _ (List.mem_append_left _ (List.mem_append_right _ (h)))))))))
theorem in_wsX10 : ∀ w ∈ wsX10, w ∈ wsL_law := fun w h => List.mem_append_left _ (List.mem_append_left _ (List.mem_append_left _ (List.mem_append_left _ (List.mem_append_left _ (List.mem_append_left _ (List.mem_append_left _ (List.mem_append_right _ (h))))))))
theorem in_wsX20 : ∀ w ∈ wsX20, w ∈ wsL_law := fun w h => List.mem_append_left _ (List.mem_append_left _ (List.mem_append_left _ (List.mem_append_left _ (List.mem_append_left _ (List.mem_append_left _ (List.mem_append_right _ (h)))))))
theorem in_wsX30 : ∀ w ∈ wsX30, w ∈ wsL_law := fun w h => List.mem_append_left _ (List.mem_append_left _ (List.mem_append_left _ (List.mem_append_left _ (List.mem_append_left _ (List.mem_append_right _ (h))))))
theorem in_wsX00 : ∀ w ∈ wsX00, w ∈ wsL_law := fun w h => List.mem_append_left _ (List.mem_append_left _ (List.mem_append_left _ (List.mem_append_left _ (List.mem_append_right _ (h)))))
end
