/-! THE LAW's BODY: the rows of the script, a call of a method of the law, and a theorem for each case of its switch. -/
/-- the script: at b, Ls ints xs, out of the world -/
def Sc (A : Nat → Prop) (s : State) (b Ls : Nat) (xs : Nat → Int32) : Prop := va_X b Ls xs s s.heap ∧ b < s.heap.size ∧ ¬ A b
section LB
variable {p : Program} {l : Launch} {e : Env} {R : Room} {s : State} {m : MethodId} {args : Array Value} {below : List Frame} {meth : Method} {c : Code} {D : va_G} {cA : Nat → ClassId} {ad : Nat → Nat} {n : Nat} {A : Nat → Prop} {sa : Nat → Nat} {nL cells slots : Nat} {Q : State → Prop} {cc : ByteArray} {own : String} {kt : List (Nat × Instr × Nat)} {M M1 : Mem} {pc : Nat} {L : List (Nat × Value)} {st : List Value} {b Ls : Nat} {xs : Nat → Int32}
theorem Cx.tab {kt' : List (Nat × Instr × Nat)} (hX : Cx p s m args meth c D cA ad n A sa cc nL own kt) (h : ∀ (i : Nat) (q : Nat × Instr × Nat), kt'[i]? = some q → decode cc q.1 = .ok q.2) : Cx p s m args meth c D cA ad n A sa cc nL own kt' := ⟨hX.ex, hX.by, hX.ml, hX.ow, hX.ws, hX.kn, hX.dd, hX.hA, hX.n49, hX.ks, hX.lk, h⟩
theorem J.sld (hX : Cx p s m args meth c D cA ad n A sa cc nL own kt) (hsc : Sc A s b Ls xs) (i : Nat) {x : Int32} (hb : vp_in x Ls) (hk : kt[i]? = some (pc, .iaload, 1)) (kk : J p l e R s m args below meth c D cA ad n A nL cells slots Q M (pc + 1) L (.int (xs x.toNatClampNeg) :: st)) : J p l e R s m args below meth c D cA ad n A nL cells slots Q M pc L (.int x :: .ref b :: st) := fun H locs ls hP hS hL => va_sld hX.ex hX.by hsc.1 hsc.2.1 hsc.2.2 hS hb (hX.dec hk) (kk H locs ls hP hS hL)
theorem J.slen (hX : Cx p s m args meth c D cA ad n A sa cc nL own kt) (hsc : Sc A s b Ls xs) (i : Nat) (hk : kt[i]? = some (pc, .arraylength, 1)) (kk : J p l e R s m args below meth c D cA ad n A nL cells slots Q M (pc + 1) L (.int (nI Ls) :: st)) : J p l e R s m args below meth c D cA ad n A nL cells slots Q M pc L (.ref b :: st) := fun H locs ls hP hS hL => va_slen hX.ex hX.by hsc.1 hsc.2.1 hsc.2.2 hS (hX.dec hk) (kk H locs ls hP hS hL)
theorem lg_cmp_self (x : Int64) : lg_cmp x x = 0 := by
  unfold lg_cmp
  rw [if_neg (show ¬ x > x from fun h => by rw [gt_iff_lt, Int64.lt_iff_toInt_lt] at h; exact absurd h (Int.lt_irrefl _)), if_pos rfl]
theorem J.lcmp0 (hX : Cx p s m args meth c D cA ad n A sa cc nL own kt) (i : Nat) {x y : Int64} (h : x = y) (hk : kt[i]? = some (pc, .lcmp, 1)) (kk : J p l e R s m args below meth c D cA ad n A nL cells slots Q M (pc + 1) L (.int 0 :: st)) : J p l e R s m args below meth c D cA ad n A nL cells slots Q M pc L (.long y :: .long x :: st) := fun H locs ls hP hS hL => W.lcmp hX.ex hX.by (hX.dec hk) (by rw [h, lg_cmp_self]; exact kk H locs ls hP hS hL)
/-- a call of a method of the law -/
theorem J.callL {y : MethodName} {bytes : ByteArray} {maxL nP fr lo ix g : Nat} {hh : List (Nat × Nat × Nat × Nat)} {As rest : List Value} {k : Int32} (hX : Cx p s m args meth c D cA ad n A sa cc nL own kt) (i : Nat) (hk : kt[i]? = some (pc, .invokestatic ix, 3))
    (hc : LC l D cA ad n A sa y bytes maxL hh fr lo As M k g M1) (hy : OKW y bytes maxL hh nP) (hm : Cond.methodLink own ix y ∈ wsL_law) (hn : As.length = nP) (hst : st = As.reverse ++ rest) (hw : (rest.map fun v => v.category).sum ≤ 8) (hR : fr + 1 ≤ R.frames ∧ 8 + (maxL + 11) + lo ≤ R.locals) (hf : cells + 5 ≤ R.cells ∧ slots + 436 ≤ R.slots)
    (kk : ∀ ad' : Nat → Nat, (∀ j, j < n → ad' j = ad j) → Dd A ad' (n + g) → Cx p s m args meth c D cA ad' (n + g) A sa cc nL own kt → J p l e R s m args below meth c D cA ad' (n + g) A nL (cells + 5) (slots + 436) Q M1 (pc + 3) L (.int k :: rest)) : J p l e R s m args below meth c D cA ad n A nL cells slots Q M pc L st := by
  intro H locs ls hP hS hL T hT X
  have hgd : GoodIn wsL_law (va_wsS own ix y (Cond.codeWith y bytes maxL (some .int) hh :: wsL_law)) := gdW fun w hw => by
    unfold va_wsS at hw
    simp only [List.cons_append, List.nil_append, List.mem_cons] at hw
    rcases hw with rfl | rfl | rfl | rfl | hw
    · exact hm
    · exact hy.1
    · exact hy.2.1
    · exact hy.2.2.1
    · exact hw
  rcases vx_runSX (bytes := bytes) (maxL := maxL) (ret := some .int) (n := nP) (hh := hh) (As := As) (rest := rest) ⟨hX.ex, hX.by, hX.ml, hX.ow, hX.ws⟩ hc (vx_cwSW nP hX.ws hgd rfl rfl rfl hy.2.2.2 hR) ⟨PP.blind, fun U hU hW => ⟨rfl, PP.here hX hP hS U hU hW⟩⟩ rfl hn hL.1 hst (lv_room hw) (hX.dec hk) hf T hT X with ⟨v', st₀, t, T', L2, h0, X', hL2, e1, e2, ⟨ad', ha, hd, hv, hb, hF⟩, stp⟩ | ⟨q, st₀, t, T', L2, E, ce, h0, X', hL2, e1, e2, hq, -⟩
  · cases hv
    obtain ⟨k1, k2, k3⟩ := vx_keep h0 e1 hS (fun _ _ h => h) (fun _ h => h) hL2 hF
    have hX' : Cx p s m args meth c D cA ad' (n + g) A sa cc nL own kt := ⟨hX.ex, hX.by, hX.ml, hX.ow, hX.ws, hX.kn, hd, hX.hA, by have := hX.n49; omega, hX.ks, hX.lk, fun i q hq => hX.dec (i := i) (pc := q.1) (ins := q.2.1) (len := q.2.2) hq⟩
    obtain ⟨t2, a1, b1⟩ := kk ad' ha hd hX' T'.heap (locs ++ L2) ls (by rw [e1]; exact hb) k3 hL T' rfl X'
    exact ⟨t2, stp t2 a1, b1⟩
  · exact hq.elim
end LB
def kc_corner : List (Nat × Instr × Nat) := [(120, .aload_n 1, 1), (121, .aload_n 0, 1), (122, .iload 4, 2), (124, .iconst 1, 1), (125, .iadd, 1), (126, .iaload, 1), (127, .aload_n 0, 1), (128, .iload 4, 2), (130, .iconst 2, 1), (131, .iadd, 1), (132, .iaload, 1), (133, .aload_n 0, 1), (134, .iload 4, 2), (136, .iconst 3, 1), (137, .iadd, 1), (138, .iaload, 1), (139, .aload_n 0, 1), (140, .iload 4, 2), (142, .iconst 4, 1), (143, .iadd, 1), (144, .iaload, 1), (145, .invokestatic 68, 3), (148, .istore 5, 2), (150, .aload_n 2, 1), (151, .aload_n 0, 1), (152, .iload 4, 2), (154, .iconst 1, 1), (155, .iadd, 1), (156, .iaload, 1), (157, .aload_n 0, 1), (158, .iload 4, 2), (160, .iconst 2, 1), (161, .iadd, 1), (162, .iaload, 1), (163, .aload_n 0, 1), (164, .iload 4, 2), (166, .iconst 3, 1), (167, .iadd, 1), (168, .iaload, 1), (169, .aload_n 0, 1), (170, .iload 4, 2), (172, .iconst 4, 1), (173, .iadd, 1), (174, .iaload, 1), (175, .invokevirtual 73, 3), (178, .aload_n 2, 1), (179, .invokevirtual 74, 3), (182, .iload 5, 2), (184, .if_icmp .eq 5, 3), (187, .iconst 0, 1), (188, .ireturn, 1), (189, .goto 921, 3)]
set_option maxRecDepth 100000 in
theorem kc_corner_ok : ∀ (i : Nat) (q : Nat × Instr × Nat), kc_corner[i]? = some q → decode code q.1 = .ok q.2 := tbl_ok (by decide +kernel)
set_option maxRecDepth 100000 in
theorem law_corner {p : Program} {l : Launch} {e : Env} {s : State} {m : MethodId} {args : Array Value} {below : List Frame} {meth : Method} {c : Code} {D : va_G} {cA : Nat → ClassId} {ad : Nat → Nat} {n : Nat} {A : Nat → Prop} {sa : Nat → Nat} {cells slots : Nat} {Q : State → Prop} {M M1 M2 : Mem} {b Ls : Nat} {xs : Nat → Int32} {iv : Int32} (hX : Cx p s m args meth c D cA ad n A sa code 7 RL kc_corner) (hsc : Sc A s b Ls xs) (h1 : vp_in (iv + 1) Ls) (h2 : vp_in (iv + 2) Ls) (h3 : vp_in (iv + 3) Ls) (h4 : vp_in (iv + 4) Ls) (hf : cells + 5 ≤ 601024 ∧ slots + 436 ≤ 7293034) {k : Int32} {g : Nat} (hLC : LC l D cA ad n A sa yL_corner cL_corner 6 hL_corner 8 126 [.ref (ad 0), .int (xs (iv + 1).toNatClampNeg), .int (xs (iv + 2).toNatClampNeg), .int (xs (iv + 3).toNatClampNeg), .int (xs (iv + 4).toNatClampNeg)] M k g M1) (h5 : X5_corner M1 (xs (iv + 1).toNatClampNeg) (xs (iv + 2).toNatClampNeg) (xs (iv + 3).toNatClampNeg) (xs (iv + 4).toNatClampNeg) = some M2) (ht : X5_thrown M2 = some k) (kk : ∀ ad' : Nat → Nat, (∀ j, j < n → ad' j = ad j) → Dd A ad' (n + g) → J p l e room_1 s m args below meth c D cA ad' (n + g) A 7 (cells + 5) (slots + 436) Q M2 1110 [(0, .ref b), (1, .ref (ad' 0)), (2, .ref (ad' 27)), (3, .ref (ad' 48)), (4, .int iv)] []) : J p l e room_1 s m args below meth c D cA ad n A 7 cells slots Q M 120 [(0, .ref b), (1, .ref (ad 0)), (2, .ref (ad 27)), (3, .ref (ad 48)), (4, .int iv)] [] := by
  refine J.aload_n hX 0 1 rfl rfl ?_
  refine J.aload_n hX 1 0 rfl rfl ?_
  refine J.iload hX 2 4 rfl rfl ?_
  refine J.iconst (v := 1) hX 3 rfl (by decide) ?_
  refine J.iadd hX 4 rfl ?_
  refine J.sld hX hsc 5 h1 rfl ?_
  refine J.aload_n hX 6 0 rfl rfl ?_
  refine J.iload hX 7 4 rfl rfl ?_
  refine J.iconst (v := 2) hX 8 rfl (by decide) ?_
  refine J.iadd hX 9 rfl ?_
  refine J.sld hX hsc 10 h2 rfl ?_
  refine J.aload_n hX 11 0 rfl rfl ?_
  refine J.iload hX 12 4 rfl rfl ?_
  refine J.iconst (v := 3) hX 13 rfl (by decide) ?_
  refine J.iadd hX 14 rfl ?_
  refine J.sld hX hsc 15 h3 rfl ?_
  refine J.aload_n hX 16 0 rfl rfl ?_
  refine J.iload hX 17 4 rfl rfl ?_
  refine J.iconst (v := 4) hX 18 rfl (by decide) ?_
  refine J.iadd hX 19 rfl ?_
  refine J.sld hX hsc 20 h4 rfl ?_
  refine J.callL (As := [.ref (ad 0), .int (xs (iv + 1).toNatClampNeg), .int (xs (iv + 2).toNatClampNeg), .int (xs (iv + 3).toNatClampNeg), .int (xs (iv + 4).toNatClampNeg)]) (rest := []) hX 21 rfl hLC okL_corner w_96 rfl rfl (Nat.le_of_ble_eq_true rfl) ⟨Nat.le_of_ble_eq_true rfl, Nat.le_of_ble_eq_true rfl⟩ hf (fun ad' ha hd hX' => ?_)
  have hn49 := hX.n49
  have e0 : ad 0 = ad' 0 := (ha 0 (by omega)).symm
  have e27 : ad 27 = ad' 27 := (ha 27 (by omega)).symm
  have e48 : ad 48 = ad' 48 := (ha 48 (by omega)).symm
  rw [e0, e27, e48]
  have kk := kk ad' ha hd
  refine J.istore (L' := [(5, .int k), (0, .ref b), (1, .ref (ad' 0)), (2, .ref (ad' 27)), (3, .ref (ad' 48)), (4, .int iv)]) hX' 22 rfl (by decide) rfl ?_
  refine J.sub (L' := [(0, .ref b), (1, .ref (ad' 0)), (2, .ref (ad' 27)), (3, .ref (ad' 48)), (4, .int iv), (5, .int k)]) [1, 2, 3, 4, 5, 0] rfl ?_
  refine J.aload_n hX' 23 2 rfl rfl ?_
  refine J.aload_n hX' 24 0 rfl rfl ?_
  refine J.iload hX' 25 4 rfl rfl ?_
  refine J.iconst (v := 1) hX' 26 rfl (by decide) ?_
  refine J.iadd hX' 27 rfl ?_
  refine J.sld hX' hsc 28 h1 rfl ?_
  refine J.aload_n hX' 29 0 rfl rfl ?_
  refine J.iload hX' 30 4 rfl rfl ?_
  refine J.iconst (v := 2) hX' 31 rfl (by decide) ?_
  refine J.iadd hX' 32 rfl ?_
  refine J.sld hX' hsc 33 h2 rfl ?_
  refine J.aload_n hX' 34 0 rfl rfl ?_
  refine J.iload hX' 35 4 rfl rfl ?_
  refine J.iconst (v := 3) hX' 36 rfl (by decide) ?_
  refine J.iadd hX' 37 rfl ?_
  refine J.sld hX' hsc 38 h3 rfl ?_
  refine J.aload_n hX' 39 0 rfl rfl ?_
  refine J.iload hX' 40 4 rfl rfl ?_
  refine J.iconst (v := 4) hX' 41 rfl (by decide) ?_
  refine J.iadd hX' 42 rfl ?_
  refine J.sld hX' hsc 43 h4 rfl ?_
  refine J.callV0 (As := [.int (xs (iv + 1).toNatClampNeg), .int (xs (iv + 2).toNatClampNeg), .int (xs (iv + 3).toNatClampNeg), .int (xs (iv + 4).toNatClampNeg)]) (rest := []) (k := 27) hX' 44 rfl (mX5_corner h5) okX5_corner w_127 (hX'.lt (k := 27) (by decide)) sh_27 rfl rfl rfl (Nat.le_of_ble_eq_true rfl) ⟨Nat.le_of_ble_eq_true rfl, Nat.le_of_ble_eq_true rfl⟩ ⟨hf.1, hf.2⟩ ?_
  refine J.aload_n hX' 45 2 rfl rfl ?_
  refine J.callV1 (As := []) (rest := []) (k := 27) hX' 46 rfl (mX5_thrown ht) okX5_thrown w_142 (hX'.lt (k := 27) (by decide)) sh_27 rfl rfl rfl (Nat.le_of_ble_eq_true rfl) ⟨Nat.le_of_ble_eq_true rfl, Nat.le_of_ble_eq_true rfl⟩ ⟨hf.1, hf.2⟩ ?_
  refine J.iload hX' 47 5 rfl rfl ?_
  have hend : J p l e room_1 s m args below meth c D cA ad' (n + g) A 7 (cells + 5) (slots + 436) Q M2 189 [(0, .ref b), (1, .ref (ad' 0)), (2, .ref (ad' 27)), (3, .ref (ad' 48)), (4, .int iv), (5, .int k)] [] := J.goto (tgt := 1110) hX' 51 rfl (by decide) (J.sub (L' := [(0, .ref b), (1, .ref (ad' 0)), (2, .ref (ad' 27)), (3, .ref (ad' 48)), (4, .int iv)]) [0, 1, 2, 3, 4] rfl kk)
  exact J.icmp_eq (tgt := 189) hX' 48 rfl (by decide) (fun _ => hend) (fun b1 => absurd rfl b1)
def kc_close : List (Nat × Instr × Nat) := [(192, .aload_n 1, 1), (193, .aload_n 0, 1), (194, .iload 4, 2), (196, .iconst 1, 1), (197, .iadd, 1), (198, .iaload, 1), (199, .aload_n 0, 1), (200, .iload 4, 2), (202, .iconst 2, 1), (203, .iadd, 1), (204, .iaload, 1), (205, .aload_n 0, 1), (206, .iload 4, 2), (208, .iconst 3, 1), (209, .iadd, 1), (210, .iaload, 1), (211, .aload_n 3, 1), (212, .invokestatic 77, 3), (215, .istore 5, 2), (217, .aload_n 2, 1), (218, .aload_n 0, 1), (219, .iload 4, 2), (221, .iconst 1, 1), (222, .iadd, 1), (223, .iaload, 1), (224, .aload_n 0, 1), (225, .iload 4, 2), (227, .iconst 2, 1), (228, .iadd, 1), (229, .iaload, 1), (230, .aload_n 0, 1), (231, .iload 4, 2), (233, .iconst 3, 1), (234, .iadd, 1), (235, .iaload, 1), (236, .invokevirtual 80, 3), (239, .istore 6, 2), (241, .aload_n 2, 1), (242, .invokevirtual 74, 3), (245, .iload 5, 2), (247, .if_icmp .eq 5, 3), (250, .iconst 0, 1), (251, .ireturn, 1), (252, .iload 5, 2), (254, .ifCond .ne 15, 3), (257, .aload_n 3, 1), (258, .iconst 0, 1), (259, .laload, 1), (260, .iload 6, 2), (262, .i2l, 1), (263, .lcmp, 1), (264, .ifCond .eq 5, 3), (267, .iconst 0, 1), (268, .ireturn, 1), (269, .goto 841, 3)]
set_option maxRecDepth 100000 in
theorem kc_close_ok : ∀ (i : Nat) (q : Nat × Instr × Nat), kc_close[i]? = some q → decode code q.1 = .ok q.2 := tbl_ok (by decide +kernel)
set_option maxRecDepth 100000 in
theorem law_close {p : Program} {l : Launch} {e : Env} {s : State} {m : MethodId} {args : Array Value} {below : List Frame} {meth : Method} {c : Code} {D : va_G} {cA : Nat → ClassId} {ad : Nat → Nat} {n : Nat} {A : Nat → Prop} {sa : Nat → Nat} {cells slots : Nat} {Q : State → Prop} {M M1 M2 : Mem} {b Ls : Nat} {xs : Nat → Int32} {iv : Int32} (hX : Cx p s m args meth c D cA ad n A sa code 7 RL kc_close) (hsc : Sc A s b Ls xs) (h1 : vp_in (iv + 1) Ls) (h2 : vp_in (iv + 2) Ls) (h3 : vp_in (iv + 3) Ls) (hf : cells + 5 ≤ 601024 ∧ slots + 436 ≤ 7293034) {k : Int32} {g : Nat} {b2 : Int32} (hLC : LC l D cA ad n A sa yL_close cL_close 6 hL_close 8 125 [.ref (ad 0), .int (xs (iv + 1).toNatClampNeg), .int (xs (iv + 2).toNatClampNeg), .int (xs (iv + 3).toNatClampNeg), .ref (ad 48)] M k g M1) (h5 : X5_close M1 (xs (iv + 1).toNatClampNeg) (xs (iv + 2).toNatClampNeg) (xs (iv + 3).toNatClampNeg) = some (b2, M2)) (ht : X5_thrown M2 = some k) (ho : k = 0 → M2 48 0 = b2) (kk : ∀ ad' : Nat → Nat, (∀ j, j < n → ad' j = ad j) → Dd A ad' (n + g) → J p l e room_1 s m args below meth c D cA ad' (n + g) A 7 (cells + 5) (slots + 436) Q M2 1110 [(0, .ref b), (1, .ref (ad' 0)), (2, .ref (ad' 27)), (3, .ref (ad' 48)), (4, .int iv)] []) : J p l e room_1 s m args below meth c D cA ad n A 7 cells slots Q M 192 [(0, .ref b), (1, .ref (ad 0)), (2, .ref (ad 27)), (3, .ref (ad 48)), (4, .int iv)] [] := by
  refine J.aload_n hX 0 1 rfl rfl ?_
  refine J.aload_n hX 1 0 rfl rfl ?_
  refine J.iload hX 2 4 rfl rfl ?_
  refine J.iconst (v := 1) hX 3 rfl (by decide) ?_
  refine J.iadd hX 4 rfl ?_
  refine J.sld hX hsc 5 h1 rfl ?_
  refine J.aload_n hX 6 0 rfl rfl ?_
  refine J.iload hX 7 4 rfl rfl ?_
  refine J.iconst (v := 2) hX 8 rfl (by decide) ?_
  refine J.iadd hX 9 rfl ?_
  refine J.sld hX hsc 10 h2 rfl ?_
  refine J.aload_n hX 11 0 rfl rfl ?_
  refine J.iload hX 12 4 rfl rfl ?_
  refine J.iconst (v := 3) hX 13 rfl (by decide) ?_
  refine J.iadd hX 14 rfl ?_
  refine J.sld hX hsc 15 h3 rfl ?_
  refine J.aload_n hX 16 3 rfl rfl ?_
  refine J.callL (As := [.ref (ad 0), .int (xs (iv + 1).toNatClampNeg), .int (xs (iv + 2).toNatClampNeg), .int (xs (iv + 3).toNatClampNeg), .ref (ad 48)]) (rest := []) hX 17 rfl hLC okL_close w_146 rfl rfl (Nat.le_of_ble_eq_true rfl) ⟨Nat.le_of_ble_eq_true rfl, Nat.le_of_ble_eq_true rfl⟩ hf (fun ad' ha hd hX' => ?_)
  have hn49 := hX.n49
  have e0 : ad 0 = ad' 0 := (ha 0 (by omega)).symm
  have e27 : ad 27 = ad' 27 := (ha 27 (by omega)).symm
  have e48 : ad 48 = ad' 48 := (ha 48 (by omega)).symm
  rw [e0, e27, e48]
  have kk := kk ad' ha hd
  refine J.istore (L' := [(5, .int k), (0, .ref b), (1, .ref (ad' 0)), (2, .ref (ad' 27)), (3, .ref (ad' 48)), (4, .int iv)]) hX' 18 rfl (by decide) rfl ?_
  refine J.sub (L' := [(0, .ref b), (1, .ref (ad' 0)), (2, .ref (ad' 27)), (3, .ref (ad' 48)), (4, .int iv), (5, .int k)]) [1, 2, 3, 4, 5, 0] rfl ?_
  refine J.aload_n hX' 19 2 rfl rfl ?_
  refine J.aload_n hX' 20 0 rfl rfl ?_
  refine J.iload hX' 21 4 rfl rfl ?_
  refine J.iconst (v := 1) hX' 22 rfl (by decide) ?_
  refine J.iadd hX' 23 rfl ?_
  refine J.sld hX' hsc 24 h1 rfl ?_
  refine J.aload_n hX' 25 0 rfl rfl ?_
  refine J.iload hX' 26 4 rfl rfl ?_
  refine J.iconst (v := 2) hX' 27 rfl (by decide) ?_
  refine J.iadd hX' 28 rfl ?_
  refine J.sld hX' hsc 29 h2 rfl ?_
  refine J.aload_n hX' 30 0 rfl rfl ?_
  refine J.iload hX' 31 4 rfl rfl ?_
  refine J.iconst (v := 3) hX' 32 rfl (by decide) ?_
  refine J.iadd hX' 33 rfl ?_
  refine J.sld hX' hsc 34 h3 rfl ?_
  refine J.callV1 (As := [.int (xs (iv + 1).toNatClampNeg), .int (xs (iv + 2).toNatClampNeg), .int (xs (iv + 3).toNatClampNeg)]) (rest := []) (k := 27) hX' 35 rfl (mX5_close h5) okX5_close w_173 (hX'.lt (k := 27) (by decide)) sh_27 rfl rfl rfl (Nat.le_of_ble_eq_true rfl) ⟨Nat.le_of_ble_eq_true rfl, Nat.le_of_ble_eq_true rfl⟩ ⟨hf.1, hf.2⟩ ?_
  refine J.istore (L' := [(6, .int b2), (0, .ref b), (1, .ref (ad' 0)), (2, .ref (ad' 27)), (3, .ref (ad' 48)), (4, .int iv), (5, .int k)]) hX' 36 rfl (by decide) rfl ?_
  refine J.sub (L' := [(0, .ref b), (1, .ref (ad' 0)), (2, .ref (ad' 27)), (3, .ref (ad' 48)), (4, .int iv), (5, .int k), (6, .int b2)]) [1, 2, 3, 4, 5, 6, 0] rfl ?_
  refine J.aload_n hX' 37 2 rfl rfl ?_
  refine J.callV1 (As := []) (rest := []) (k := 27) hX' 38 rfl (mX5_thrown ht) okX5_thrown w_142 (hX'.lt (k := 27) (by decide)) sh_27 rfl rfl rfl (Nat.le_of_ble_eq_true rfl) ⟨Nat.le_of_ble_eq_true rfl, Nat.le_of_ble_eq_true rfl⟩ ⟨hf.1, hf.2⟩ ?_
  refine J.iload hX' 39 5 rfl rfl ?_
  have hend : J p l e room_1 s m args below meth c D cA ad' (n + g) A 7 (cells + 5) (slots + 436) Q M2 269 [(0, .ref b), (1, .ref (ad' 0)), (2, .ref (ad' 27)), (3, .ref (ad' 48)), (4, .int iv), (5, .int k), (6, .int b2)] [] := J.goto (tgt := 1110) hX' 54 rfl (by decide) (J.sub (L' := [(0, .ref b), (1, .ref (ad' 0)), (2, .ref (ad' 27)), (3, .ref (ad' 48)), (4, .int iv)]) [0, 1, 2, 3, 4] rfl kk)
  refine J.icmp_eq (tgt := 252) hX' 40 rfl (by decide) (fun _ => ?_) (fun b1 => absurd rfl b1)
  refine J.iload hX' 43 5 rfl rfl ?_
  refine J.if_ne (tgt := 269) hX' 44 rfl (by decide) (fun _ => hend) (fun hk0 => ?_)
  refine J.aload_n hX' 45 3 rfl rfl ?_
  refine J.iconst (v := 0) hX' 46 rfl (by decide) ?_
  refine J.lald hX' 47 48 (hX'.lt (k := 48) (by decide)) sh_48 (inb_vp (by decide)) rfl ?_
  refine J.iload hX' 48 6 rfl rfl ?_
  refine J.i2l hX' 49 rfl ?_
  refine J.lcmp0 hX' 50 (by rw [← ho hk0]; rfl) rfl ?_
  exact J.if_eq (tgt := 269) hX' 51 rfl (by decide) (fun _ => hend) (fun b1 => absurd rfl b1)
def kc_open : List (Nat × Instr × Nat) := [(272, .aload_n 1, 1), (273, .aload_n 0, 1), (274, .iload 4, 2), (276, .iconst 1, 1), (277, .iadd, 1), (278, .iaload, 1), (279, .aload_n 3, 1), (280, .invokestatic 81, 3), (283, .istore 5, 2), (285, .aload_n 2, 1), (286, .aload_n 0, 1), (287, .iload 4, 2), (289, .iconst 1, 1), (290, .iadd, 1), (291, .iaload, 1), (292, .invokevirtual 84, 3), (295, .istore 6, 2), (297, .aload_n 2, 1), (298, .invokevirtual 74, 3), (301, .iload 5, 2), (303, .if_icmp .eq 5, 3), (306, .iconst 0, 1), (307, .ireturn, 1), (308, .iload 5, 2), (310, .ifCond .ne 22, 3), (313, .aload_n 3, 1), (314, .iconst 0, 1), (315, .laload, 1), (316, .iload 6, 2), (318, .ifCond .eq 7, 3), (321, .lconst 1, 1), (322, .goto 4, 3), (325, .lconst 0, 1), (326, .lcmp, 1), (327, .ifCond .eq 5, 3), (330, .iconst 0, 1), (331, .ireturn, 1), (332, .goto 778, 3)]
set_option maxRecDepth 100000 in
theorem kc_open_ok : ∀ (i : Nat) (q : Nat × Instr × Nat), kc_open[i]? = some q → decode code q.1 = .ok q.2 := tbl_ok (by decide +kernel)
set_option maxRecDepth 100000 in
theorem law_open {p : Program} {l : Launch} {e : Env} {s : State} {m : MethodId} {args : Array Value} {below : List Frame} {meth : Method} {c : Code} {D : va_G} {cA : Nat → ClassId} {ad : Nat → Nat} {n : Nat} {A : Nat → Prop} {sa : Nat → Nat} {cells slots : Nat} {Q : State → Prop} {M M1 M2 : Mem} {b Ls : Nat} {xs : Nat → Int32} {iv : Int32} (hX : Cx p s m args meth c D cA ad n A sa code 7 RL kc_open) (hsc : Sc A s b Ls xs) (h1 : vp_in (iv + 1) Ls) (hf : cells + 5 ≤ 601024 ∧ slots + 436 ≤ 7293034) {k : Int32} {g : Nat} {b2 : Int32} (hLC : LC l D cA ad n A sa yL_open cL_open 4 hL_open 8 124 [.ref (ad 0), .int (xs (iv + 1).toNatClampNeg), .ref (ad 48)] M k g M1) (h5 : X5_open M1 (xs (iv + 1).toNatClampNeg) = some (b2, M2)) (ht : X5_thrown M2 = some k) (ho : k = 0 → M2 48 0 = (if b2 = 0 then 0 else 1)) (kk : ∀ ad' : Nat → Nat, (∀ j, j < n → ad' j = ad j) → Dd A ad' (n + g) → J p l e room_1 s m args below meth c D cA ad' (n + g) A 7 (cells + 5) (slots + 436) Q M2 1110 [(0, .ref b), (1, .ref (ad' 0)), (2, .ref (ad' 27)), (3, .ref (ad' 48)), (4, .int iv)] []) : J p l e room_1 s m args below meth c D cA ad n A 7 cells slots Q M 272 [(0, .ref b), (1, .ref (ad 0)), (2, .ref (ad 27)), (3, .ref (ad 48)), (4, .int iv)] [] := by
  refine J.aload_n hX 0 1 rfl rfl ?_
  refine J.aload_n hX 1 0 rfl rfl ?_
  refine J.iload hX 2 4 rfl rfl ?_
  refine J.iconst (v := 1) hX 3 rfl (by decide) ?_
  refine J.iadd hX 4 rfl ?_
  refine J.sld hX hsc 5 h1 rfl ?_
  refine J.aload_n hX 6 3 rfl rfl ?_
  refine J.callL (As := [.ref (ad 0), .int (xs (iv + 1).toNatClampNeg), .ref (ad 48)]) (rest := []) hX 7 rfl hLC okL_open w_196 rfl rfl (Nat.le_of_ble_eq_true rfl) ⟨Nat.le_of_ble_eq_true rfl, Nat.le_of_ble_eq_true rfl⟩ hf (fun ad' ha hd hX' => ?_)
  have hn49 := hX.n49
  have e0 : ad 0 = ad' 0 := (ha 0 (by omega)).symm
  have e27 : ad 27 = ad' 27 := (ha 27 (by omega)).symm
  have e48 : ad 48 = ad' 48 := (ha 48 (by omega)).symm
  rw [e0, e27, e48]
  have kk := kk ad' ha hd
  refine J.istore (L' := [(5, .int k), (0, .ref b), (1, .ref (ad' 0)), (2, .ref (ad' 27)), (3, .ref (ad' 48)), (4, .int iv)]) hX' 8 rfl (by decide) rfl ?_
  refine J.sub (L' := [(0, .ref b), (1, .ref (ad' 0)), (2, .ref (ad' 27)), (3, .ref (ad' 48)), (4, .int iv), (5, .int k)]) [1, 2, 3, 4, 5, 0] rfl ?_
  refine J.aload_n hX' 9 2 rfl rfl ?_
  refine J.aload_n hX' 10 0 rfl rfl ?_
  refine J.iload hX' 11 4 rfl rfl ?_
  refine J.iconst (v := 1) hX' 12 rfl (by decide) ?_
  refine J.iadd hX' 13 rfl ?_
  refine J.sld hX' hsc 14 h1 rfl ?_
  refine J.callV1 (As := [.int (xs (iv + 1).toNatClampNeg)]) (rest := []) (k := 27) hX' 15 rfl (mX5_open h5) okX5_open w_208 (hX'.lt (k := 27) (by decide)) sh_27 rfl rfl rfl (Nat.le_of_ble_eq_true rfl) ⟨Nat.le_of_ble_eq_true rfl, Nat.le_of_ble_eq_true rfl⟩ ⟨hf.1, hf.2⟩ ?_
  refine J.istore (L' := [(6, .int b2), (0, .ref b), (1, .ref (ad' 0)), (2, .ref (ad' 27)), (3, .ref (ad' 48)), (4, .int iv), (5, .int k)]) hX' 16 rfl (by decide) rfl ?_
  refine J.sub (L' := [(0, .ref b), (1, .ref (ad' 0)), (2, .ref (ad' 27)), (3, .ref (ad' 48)), (4, .int iv), (5, .int k), (6, .int b2)]) [1, 2, 3, 4, 5, 6, 0] rfl ?_
  refine J.aload_n hX' 17 2 rfl rfl ?_
  refine J.callV1 (As := []) (rest := []) (k := 27) hX' 18 rfl (mX5_thrown ht) okX5_thrown w_142 (hX'.lt (k := 27) (by decide)) sh_27 rfl rfl rfl (Nat.le_of_ble_eq_true rfl) ⟨Nat.le_of_ble_eq_true rfl, Nat.le_of_ble_eq_true rfl⟩ ⟨hf.1, hf.2⟩ ?_
  refine J.iload hX' 19 5 rfl rfl ?_
  have hend : J p l e room_1 s m args below meth c D cA ad' (n + g) A 7 (cells + 5) (slots + 436) Q M2 332 [(0, .ref b), (1, .ref (ad' 0)), (2, .ref (ad' 27)), (3, .ref (ad' 48)), (4, .int iv), (5, .int k), (6, .int b2)] [] := J.goto (tgt := 1110) hX' 37 rfl (by decide) (J.sub (L' := [(0, .ref b), (1, .ref (ad' 0)), (2, .ref (ad' 27)), (3, .ref (ad' 48)), (4, .int iv)]) [0, 1, 2, 3, 4] rfl kk)
  refine J.icmp_eq (tgt := 308) hX' 20 rfl (by decide) (fun _ => ?_) (fun b1 => absurd rfl b1)
  refine J.iload hX' 23 5 rfl rfl ?_
  refine J.if_ne (tgt := 332) hX' 24 rfl (by decide) (fun _ => hend) (fun hk0 => ?_)
  refine J.aload_n hX' 25 3 rfl rfl ?_
  refine J.iconst (v := 0) hX' 26 rfl (by decide) ?_
  refine J.lald hX' 27 48 (hX'.lt (k := 48) (by decide)) sh_48 (inb_vp (by decide)) rfl ?_
  refine J.iload hX' 28 6 rfl rfl ?_
  have hcmp : ∀ w : Int32, M2 48 0 = w → J p l e room_1 s m args below meth c D cA ad' (n + g) A 7 (cells + 5) (slots + 436) Q M2 326 [(0, .ref b), (1, .ref (ad' 0)), (2, .ref (ad' 27)), (3, .ref (ad' 48)), (4, .int iv), (5, .int k), (6, .int b2)] [.long w.toInt64, .long (M2 48 (0 : Int32).toNatClampNeg).toInt64] := fun w hw => J.lcmp0 hX' 33 (by rw [← hw]; rfl) rfl (J.if_eq (tgt := 332) hX' 34 rfl (by decide) (fun _ => hend) (fun b1 => absurd rfl b1))
  refine J.if_eq (tgt := 325) hX' 29 rfl (by decide) (fun b2z => ?_) (fun b2z => ?_)
  · refine J.lconst (v := 0) hX' 32 rfl (by decide) ?_
    exact hcmp 0 (by rw [ho hk0, if_pos b2z])
  · refine J.lconst (v := 1) hX' 30 rfl (by decide) ?_
    refine J.goto (tgt := 326) hX' 31 rfl (by decide) ?_
    exact hcmp 1 (by rw [ho hk0, if_neg b2z])
def kc_clear : List (Nat × Instr × Nat) := [(335, .aload_n 1, 1), (336, .invokevirtual 85, 3), (339, .aload_n 2, 1), (340, .invokevirtual 88, 3), (343, .if_icmp .eq 767, 3), (346, .iconst 0, 1), (347, .ireturn, 1)]
set_option maxRecDepth 100000 in
theorem kc_clear_ok : ∀ (i : Nat) (q : Nat × Instr × Nat), kc_clear[i]? = some q → decode code q.1 = .ok q.2 := tbl_ok (by decide +kernel)
set_option maxRecDepth 100000 in
theorem law_clear {p : Program} {l : Launch} {e : Env} {s : State} {m : MethodId} {args : Array Value} {below : List Frame} {meth : Method} {c : Code} {D : va_G} {cA : Nat → ClassId} {ad : Nat → Nat} {n : Nat} {A : Nat → Prop} {sa : Nat → Nat} {cells slots : Nat} {Q : State → Prop} {M M1 M2 : Mem} {b Ls : Nat} {xs : Nat → Int32} {iv : Int32} (hX : Cx p s m args meth c D cA ad n A sa code 7 RL kc_clear) (hsc : Sc A s b Ls xs)  (hf : cells + 5 ≤ 601024 ∧ slots + 436 ≤ 7293034) {b2 : Int32} (h4 : X4_clear M = some (b2, M1)) (h5 : X5_clear M1 = some (b2, M2)) (kk : ∀ ad' : Nat → Nat, (∀ j, j < n → ad' j = ad j) → Dd A ad' (n + 0) → J p l e room_1 s m args below meth c D cA ad' (n + 0) A 7 (cells + 5) (slots + 436) Q M2 1110 [(0, .ref b), (1, .ref (ad' 0)), (2, .ref (ad' 27)), (3, .ref (ad' 48)), (4, .int iv)] []) : J p l e room_1 s m args below meth c D cA ad n A 7 cells slots Q M 335 [(0, .ref b), (1, .ref (ad 0)), (2, .ref (ad 27)), (3, .ref (ad 48)), (4, .int iv)] [] := by
  refine J.aload_n hX 0 1 rfl rfl ?_
  refine J.callV1 (As := []) (rest := []) (k := 0) hX 1 rfl (mX4_clear h4) okX4_clear w_212 (hX.lt (k := 0) (by decide)) sh_0 rfl rfl rfl (Nat.le_of_ble_eq_true rfl) ⟨Nat.le_of_ble_eq_true rfl, Nat.le_of_ble_eq_true rfl⟩ ⟨Nat.le_trans (Nat.le_add_right _ _) hf.1, Nat.le_trans (Nat.le_add_right _ _) hf.2⟩ ?_
  refine J.aload_n hX 2 2 rfl rfl ?_
  refine J.callV1 (As := []) (rest := [.int b2]) (k := 27) hX 3 rfl (mX5_clear h5) okX5_clear w_232 (hX.lt (k := 27) (by decide)) sh_27 rfl rfl rfl (Nat.le_of_ble_eq_true rfl) ⟨Nat.le_of_ble_eq_true rfl, Nat.le_of_ble_eq_true rfl⟩ ⟨Nat.le_trans (Nat.le_add_right _ _) hf.1, Nat.le_trans (Nat.le_add_right _ _) hf.2⟩ ?_
  exact J.icmp_eq (tgt := 1110) hX 4 rfl (by decide) (fun _ => J.widen (Nat.le_add_right _ _) (Nat.le_add_right _ _) (kk ad (fun _ _ => rfl) hX.dd)) (fun b1 => absurd rfl b1)
def kc_check : List (Nat × Instr × Nat) := [(348, .aload_n 1, 1), (349, .invokevirtual 89, 3), (352, .aload_n 2, 1), (353, .invokevirtual 92, 3), (356, .if_icmp .eq 754, 3), (359, .iconst 0, 1), (360, .ireturn, 1)]
set_option maxRecDepth 100000 in
theorem kc_check_ok : ∀ (i : Nat) (q : Nat × Instr × Nat), kc_check[i]? = some q → decode code q.1 = .ok q.2 := tbl_ok (by decide +kernel)
set_option maxRecDepth 100000 in
theorem law_check {p : Program} {l : Launch} {e : Env} {s : State} {m : MethodId} {args : Array Value} {below : List Frame} {meth : Method} {c : Code} {D : va_G} {cA : Nat → ClassId} {ad : Nat → Nat} {n : Nat} {A : Nat → Prop} {sa : Nat → Nat} {cells slots : Nat} {Q : State → Prop} {M M1 M2 : Mem} {b Ls : Nat} {xs : Nat → Int32} {iv : Int32} (hX : Cx p s m args meth c D cA ad n A sa code 7 RL kc_check) (hsc : Sc A s b Ls xs)  (hf : cells + 5 ≤ 601024 ∧ slots + 436 ≤ 7293034) {b2 : Int32} (h4 : X4_check M = some b2) (h5 : X5_check M = some (b2, M2)) (kk : ∀ ad' : Nat → Nat, (∀ j, j < n → ad' j = ad j) → Dd A ad' (n + 0) → J p l e room_1 s m args below meth c D cA ad' (n + 0) A 7 (cells + 5) (slots + 436) Q M2 1110 [(0, .ref b), (1, .ref (ad' 0)), (2, .ref (ad' 27)), (3, .ref (ad' 48)), (4, .int iv)] []) : J p l e room_1 s m args below meth c D cA ad n A 7 cells slots Q M 348 [(0, .ref b), (1, .ref (ad 0)), (2, .ref (ad 27)), (3, .ref (ad 48)), (4, .int iv)] [] := by
  refine J.aload_n hX 0 1 rfl rfl ?_
  refine J.callV1 (As := []) (rest := []) (k := 0) hX 1 rfl (mX4_check h4) okX4_check w_240 (hX.lt (k := 0) (by decide)) sh_0 rfl rfl rfl (Nat.le_of_ble_eq_true rfl) ⟨Nat.le_of_ble_eq_true rfl, Nat.le_of_ble_eq_true rfl⟩ ⟨Nat.le_trans (Nat.le_add_right _ _) hf.1, Nat.le_trans (Nat.le_add_right _ _) hf.2⟩ ?_
  refine J.aload_n hX 2 2 rfl rfl ?_
  refine J.callV1 (As := []) (rest := [.int b2]) (k := 27) hX 3 rfl (mX5_check h5) okX5_check w_264 (hX.lt (k := 27) (by decide)) sh_27 rfl rfl rfl (Nat.le_of_ble_eq_true rfl) ⟨Nat.le_of_ble_eq_true rfl, Nat.le_of_ble_eq_true rfl⟩ ⟨Nat.le_trans (Nat.le_add_right _ _) hf.1, Nat.le_trans (Nat.le_add_right _ _) hf.2⟩ ?_
  exact J.icmp_eq (tgt := 1110) hX 4 rfl (by decide) (fun _ => J.widen (Nat.le_add_right _ _) (Nat.le_add_right _ _) (kk ad (fun _ _ => rfl) hX.dd)) (fun b1 => absurd rfl b1)
def kc_clash : List (Nat × Instr × Nat) := [(361, .aload_n 1, 1), (362, .aload_n 0, 1), (363, .iload 4, 2), (365, .iconst 1, 1), (366, .iadd, 1), (367, .iaload, 1), (368, .aload_n 3, 1), (369, .invokestatic 93, 3), (372, .istore 5, 2), (374, .aload_n 2, 1), (375, .aload_n 0, 1), (376, .iload 4, 2), (378, .iconst 1, 1), (379, .iadd, 1), (380, .iaload, 1), (381, .invokevirtual 95, 3), (384, .istore 6, 2), (386, .aload_n 2, 1), (387, .invokevirtual 74, 3), (390, .iload 5, 2), (392, .if_icmp .eq 5, 3), (395, .iconst 0, 1), (396, .ireturn, 1), (397, .iload 5, 2), (399, .ifCond .ne 15, 3), (402, .aload_n 3, 1), (403, .iconst 0, 1), (404, .laload, 1), (405, .iload 6, 2), (407, .i2l, 1), (408, .lcmp, 1), (409, .ifCond .eq 5, 3), (412, .iconst 0, 1), (413, .ireturn, 1), (414, .goto 696, 3)]
set_option maxRecDepth 100000 in
theorem kc_clash_ok : ∀ (i : Nat) (q : Nat × Instr × Nat), kc_clash[i]? = some q → decode code q.1 = .ok q.2 := tbl_ok (by decide +kernel)
set_option maxRecDepth 100000 in
theorem law_clash {p : Program} {l : Launch} {e : Env} {s : State} {m : MethodId} {args : Array Value} {below : List Frame} {meth : Method} {c : Code} {D : va_G} {cA : Nat → ClassId} {ad : Nat → Nat} {n : Nat} {A : Nat → Prop} {sa : Nat → Nat} {cells slots : Nat} {Q : State → Prop} {M M1 M2 : Mem} {b Ls : Nat} {xs : Nat → Int32} {iv : Int32} (hX : Cx p s m args meth c D cA ad n A sa code 7 RL kc_clash) (hsc : Sc A s b Ls xs) (h1 : vp_in (iv + 1) Ls) (hf : cells + 5 ≤ 601024 ∧ slots + 436 ≤ 7293034) {k : Int32} {g : Nat} {b2 : Int32} (hLC : LC l D cA ad n A sa yL_clash cL_clash 4 hL_clash 8 141 [.ref (ad 0), .int (xs (iv + 1).toNatClampNeg), .ref (ad 48)] M k g M1) (h5 : X5_clash M1 (xs (iv + 1).toNatClampNeg) = some (b2, M2)) (ht : X5_thrown M2 = some k) (ho : k = 0 → M2 48 0 = b2) (kk : ∀ ad' : Nat → Nat, (∀ j, j < n → ad' j = ad j) → Dd A ad' (n + g) → J p l e room_1 s m args below meth c D cA ad' (n + g) A 7 (cells + 5) (slots + 436) Q M2 1110 [(0, .ref b), (1, .ref (ad' 0)), (2, .ref (ad' 27)), (3, .ref (ad' 48)), (4, .int iv)] []) : J p l e room_1 s m args below meth c D cA ad n A 7 cells slots Q M 361 [(0, .ref b), (1, .ref (ad 0)), (2, .ref (ad 27)), (3, .ref (ad 48)), (4, .int iv)] [] := by
  refine J.aload_n hX 0 1 rfl rfl ?_
  refine J.aload_n hX 1 0 rfl rfl ?_
  refine J.iload hX 2 4 rfl rfl ?_
  refine J.iconst (v := 1) hX 3 rfl (by decide) ?_
  refine J.iadd hX 4 rfl ?_
  refine J.sld hX hsc 5 h1 rfl ?_
  refine J.aload_n hX 6 3 rfl rfl ?_
  refine J.callL (As := [.ref (ad 0), .int (xs (iv + 1).toNatClampNeg), .ref (ad 48)]) (rest := []) hX 7 rfl hLC okL_clash w_284 rfl rfl (Nat.le_of_ble_eq_true rfl) ⟨Nat.le_of_ble_eq_true rfl, Nat.le_of_ble_eq_true rfl⟩ hf (fun ad' ha hd hX' => ?_)
  have hn49 := hX.n49
  have e0 : ad 0 = ad' 0 := (ha 0 (by omega)).symm
  have e27 : ad 27 = ad' 27 := (ha 27 (by omega)).symm
  have e48 : ad 48 = ad' 48 := (ha 48 (by omega)).symm
  rw [e0, e27, e48]
  have kk := kk ad' ha hd
  refine J.istore (L' := [(5, .int k), (0, .ref b), (1, .ref (ad' 0)), (2, .ref (ad' 27)), (3, .ref (ad' 48)), (4, .int iv)]) hX' 8 rfl (by decide) rfl ?_
  refine J.sub (L' := [(0, .ref b), (1, .ref (ad' 0)), (2, .ref (ad' 27)), (3, .ref (ad' 48)), (4, .int iv), (5, .int k)]) [1, 2, 3, 4, 5, 0] rfl ?_
  refine J.aload_n hX' 9 2 rfl rfl ?_
  refine J.aload_n hX' 10 0 rfl rfl ?_
  refine J.iload hX' 11 4 rfl rfl ?_
  refine J.iconst (v := 1) hX' 12 rfl (by decide) ?_
  refine J.iadd hX' 13 rfl ?_
  refine J.sld hX' hsc 14 h1 rfl ?_
  refine J.callV1 (As := [.int (xs (iv + 1).toNatClampNeg)]) (rest := []) (k := 27) hX' 15 rfl (mX5_clash h5) okX5_clash w_292 (hX'.lt (k := 27) (by decide)) sh_27 rfl rfl rfl (Nat.le_of_ble_eq_true rfl) ⟨Nat.le_of_ble_eq_true rfl, Nat.le_of_ble_eq_true rfl⟩ ⟨hf.1, hf.2⟩ ?_
  refine J.istore (L' := [(6, .int b2), (0, .ref b), (1, .ref (ad' 0)), (2, .ref (ad' 27)), (3, .ref (ad' 48)), (4, .int iv), (5, .int k)]) hX' 16 rfl (by decide) rfl ?_
  refine J.sub (L' := [(0, .ref b), (1, .ref (ad' 0)), (2, .ref (ad' 27)), (3, .ref (ad' 48)), (4, .int iv), (5, .int k), (6, .int b2)]) [1, 2, 3, 4, 5, 6, 0] rfl ?_
  refine J.aload_n hX' 17 2 rfl rfl ?_
  refine J.callV1 (As := []) (rest := []) (k := 27) hX' 18 rfl (mX5_thrown ht) okX5_thrown w_142 (hX'.lt (k := 27) (by decide)) sh_27 rfl rfl rfl (Nat.le_of_ble_eq_true rfl) ⟨Nat.le_of_ble_eq_true rfl, Nat.le_of_ble_eq_true rfl⟩ ⟨hf.1, hf.2⟩ ?_
  refine J.iload hX' 19 5 rfl rfl ?_
  have hend : J p l e room_1 s m args below meth c D cA ad' (n + g) A 7 (cells + 5) (slots + 436) Q M2 414 [(0, .ref b), (1, .ref (ad' 0)), (2, .ref (ad' 27)), (3, .ref (ad' 48)), (4, .int iv), (5, .int k), (6, .int b2)] [] := J.goto (tgt := 1110) hX' 34 rfl (by decide) (J.sub (L' := [(0, .ref b), (1, .ref (ad' 0)), (2, .ref (ad' 27)), (3, .ref (ad' 48)), (4, .int iv)]) [0, 1, 2, 3, 4] rfl kk)
  refine J.icmp_eq (tgt := 397) hX' 20 rfl (by decide) (fun _ => ?_) (fun b1 => absurd rfl b1)
  refine J.iload hX' 23 5 rfl rfl ?_
  refine J.if_ne (tgt := 414) hX' 24 rfl (by decide) (fun _ => hend) (fun hk0 => ?_)
  refine J.aload_n hX' 25 3 rfl rfl ?_
  refine J.iconst (v := 0) hX' 26 rfl (by decide) ?_
  refine J.lald hX' 27 48 (hX'.lt (k := 48) (by decide)) sh_48 (inb_vp (by decide)) rfl ?_
  refine J.iload hX' 28 6 rfl rfl ?_
  refine J.i2l hX' 29 rfl ?_
  refine J.lcmp0 hX' 30 (by rw [← ho hk0]; rfl) rfl ?_
  exact J.if_eq (tgt := 414) hX' 31 rfl (by decide) (fun _ => hend) (fun b1 => absurd rfl b1)
def kc_piece : List (Nat × Instr × Nat) := [(417, .aload_n 1, 1), (418, .invokevirtual 96, 3), (421, .aload_n 2, 1), (422, .invokevirtual 99, 3), (425, .if_icmp .eq 685, 3), (428, .iconst 0, 1), (429, .ireturn, 1)]
set_option maxRecDepth 100000 in
theorem kc_piece_ok : ∀ (i : Nat) (q : Nat × Instr × Nat), kc_piece[i]? = some q → decode code q.1 = .ok q.2 := tbl_ok (by decide +kernel)
set_option maxRecDepth 100000 in
theorem law_piece {p : Program} {l : Launch} {e : Env} {s : State} {m : MethodId} {args : Array Value} {below : List Frame} {meth : Method} {c : Code} {D : va_G} {cA : Nat → ClassId} {ad : Nat → Nat} {n : Nat} {A : Nat → Prop} {sa : Nat → Nat} {cells slots : Nat} {Q : State → Prop} {M M1 M2 : Mem} {b Ls : Nat} {xs : Nat → Int32} {iv : Int32} (hX : Cx p s m args meth c D cA ad n A sa code 7 RL kc_piece) (hsc : Sc A s b Ls xs)  (hf : cells + 5 ≤ 601024 ∧ slots + 436 ≤ 7293034) {b2 : Int32} (h4 : X4_piece M = some (b2, M1)) (h5 : X5_piece M1 = some (b2, M2)) (kk : ∀ ad' : Nat → Nat, (∀ j, j < n → ad' j = ad j) → Dd A ad' (n + 0) → J p l e room_1 s m args below meth c D cA ad' (n + 0) A 7 (cells + 5) (slots + 436) Q M2 1110 [(0, .ref b), (1, .ref (ad' 0)), (2, .ref (ad' 27)), (3, .ref (ad' 48)), (4, .int iv)] []) : J p l e room_1 s m args below meth c D cA ad n A 7 cells slots Q M 417 [(0, .ref b), (1, .ref (ad 0)), (2, .ref (ad 27)), (3, .ref (ad 48)), (4, .int iv)] [] := by
  refine J.aload_n hX 0 1 rfl rfl ?_
  refine J.callV1 (As := []) (rest := []) (k := 0) hX 1 rfl (mX4_piece h4) okX4_piece w_296 (hX.lt (k := 0) (by decide)) sh_0 rfl rfl rfl (Nat.le_of_ble_eq_true rfl) ⟨Nat.le_of_ble_eq_true rfl, Nat.le_of_ble_eq_true rfl⟩ ⟨Nat.le_trans (Nat.le_add_right _ _) hf.1, Nat.le_trans (Nat.le_add_right _ _) hf.2⟩ ?_
  refine J.aload_n hX 2 2 rfl rfl ?_
  refine J.callV1 (As := []) (rest := [.int b2]) (k := 27) hX 3 rfl (mX5_piece h5) okX5_piece w_329 (hX.lt (k := 27) (by decide)) sh_27 rfl rfl rfl (Nat.le_of_ble_eq_true rfl) ⟨Nat.le_of_ble_eq_true rfl, Nat.le_of_ble_eq_true rfl⟩ ⟨Nat.le_trans (Nat.le_add_right _ _) hf.1, Nat.le_trans (Nat.le_add_right _ _) hf.2⟩ ?_
  exact J.icmp_eq (tgt := 1110) hX 4 rfl (by decide) (fun _ => J.widen (Nat.le_add_right _ _) (Nat.le_add_right _ _) (kk ad (fun _ _ => rfl) hX.dd)) (fun b1 => absurd rfl b1)
def kc_seam : List (Nat × Instr × Nat) := [(430, .aload_n 1, 1), (431, .aload_n 0, 1), (432, .iload 4, 2), (434, .iconst 1, 1), (435, .iadd, 1), (436, .iaload, 1), (437, .aload_n 0, 1), (438, .iload 4, 2), (440, .iconst 2, 1), (441, .iadd, 1), (442, .iaload, 1), (443, .aload_n 3, 1), (444, .invokestatic 100, 3), (447, .istore 5, 2), (449, .aload_n 2, 1), (450, .aload_n 0, 1), (451, .iload 4, 2), (453, .iconst 1, 1), (454, .iadd, 1), (455, .iaload, 1), (456, .aload_n 0, 1), (457, .iload 4, 2), (459, .iconst 2, 1), (460, .iadd, 1), (461, .iaload, 1), (462, .invokevirtual 103, 3), (465, .istore 6, 2), (467, .aload_n 2, 1), (468, .invokevirtual 74, 3), (471, .iload 5, 2), (473, .if_icmp .eq 5, 3), (476, .iconst 0, 1), (477, .ireturn, 1), (478, .iload 5, 2), (480, .ifCond .ne 15, 3), (483, .aload_n 3, 1), (484, .iconst 0, 1), (485, .laload, 1), (486, .iload 6, 2), (488, .i2l, 1), (489, .lcmp, 1), (490, .ifCond .eq 5, 3), (493, .iconst 0, 1), (494, .ireturn, 1), (495, .goto 615, 3)]
set_option maxRecDepth 100000 in
theorem kc_seam_ok : ∀ (i : Nat) (q : Nat × Instr × Nat), kc_seam[i]? = some q → decode code q.1 = .ok q.2 := tbl_ok (by decide +kernel)
set_option maxRecDepth 100000 in
theorem law_seam {p : Program} {l : Launch} {e : Env} {s : State} {m : MethodId} {args : Array Value} {below : List Frame} {meth : Method} {c : Code} {D : va_G} {cA : Nat → ClassId} {ad : Nat → Nat} {n : Nat} {A : Nat → Prop} {sa : Nat → Nat} {cells slots : Nat} {Q : State → Prop} {M M1 M2 : Mem} {b Ls : Nat} {xs : Nat → Int32} {iv : Int32} (hX : Cx p s m args meth c D cA ad n A sa code 7 RL kc_seam) (hsc : Sc A s b Ls xs) (h1 : vp_in (iv + 1) Ls) (h2 : vp_in (iv + 2) Ls) (hf : cells + 5 ≤ 601024 ∧ slots + 436 ≤ 7293034) {k : Int32} {g : Nat} {b2 : Int32} (hLC : LC l D cA ad n A sa yL_seam cL_seam 5 hL_seam 8 124 [.ref (ad 0), .int (xs (iv + 1).toNatClampNeg), .int (xs (iv + 2).toNatClampNeg), .ref (ad 48)] M k g M1) (h5 : X5_seam M1 (xs (iv + 1).toNatClampNeg) (xs (iv + 2).toNatClampNeg) = some (b2, M2)) (ht : X5_thrown M2 = some k) (ho : k = 0 → M2 48 0 = b2) (kk : ∀ ad' : Nat → Nat, (∀ j, j < n → ad' j = ad j) → Dd A ad' (n + g) → J p l e room_1 s m args below meth c D cA ad' (n + g) A 7 (cells + 5) (slots + 436) Q M2 1110 [(0, .ref b), (1, .ref (ad' 0)), (2, .ref (ad' 27)), (3, .ref (ad' 48)), (4, .int iv)] []) : J p l e room_1 s m args below meth c D cA ad n A 7 cells slots Q M 430 [(0, .ref b), (1, .ref (ad 0)), (2, .ref (ad 27)), (3, .ref (ad 48)), (4, .int iv)] [] := by
  refine J.aload_n hX 0 1 rfl rfl ?_
  refine J.aload_n hX 1 0 rfl rfl ?_
  refine J.iload hX 2 4 rfl rfl ?_
  refine J.iconst (v := 1) hX 3 rfl (by decide) ?_
  refine J.iadd hX 4 rfl ?_
  refine J.sld hX hsc 5 h1 rfl ?_
  refine J.aload_n hX 6 0 rfl rfl ?_
  refine J.iload hX 7 4 rfl rfl ?_
  refine J.iconst (v := 2) hX 8 rfl (by decide) ?_
  refine J.iadd hX 9 rfl ?_
  refine J.sld hX hsc 10 h2 rfl ?_
  refine J.aload_n hX 11 3 rfl rfl ?_
  refine J.callL (As := [.ref (ad 0), .int (xs (iv + 1).toNatClampNeg), .int (xs (iv + 2).toNatClampNeg), .ref (ad 48)]) (rest := []) hX 12 rfl hLC okL_seam w_341 rfl rfl (Nat.le_of_ble_eq_true rfl) ⟨Nat.le_of_ble_eq_true rfl, Nat.le_of_ble_eq_true rfl⟩ hf (fun ad' ha hd hX' => ?_)
  have hn49 := hX.n49
  have e0 : ad 0 = ad' 0 := (ha 0 (by omega)).symm
  have e27 : ad 27 = ad' 27 := (ha 27 (by omega)).symm
  have e48 : ad 48 = ad' 48 := (ha 48 (by omega)).symm
  rw [e0, e27, e48]
  have kk := kk ad' ha hd
  refine J.istore (L' := [(5, .int k), (0, .ref b), (1, .ref (ad' 0)), (2, .ref (ad' 27)), (3, .ref (ad' 48)), (4, .int iv)]) hX' 13 rfl (by decide) rfl ?_
  refine J.sub (L' := [(0, .ref b), (1, .ref (ad' 0)), (2, .ref (ad' 27)), (3, .ref (ad' 48)), (4, .int iv), (5, .int k)]) [1, 2, 3, 4, 5, 0] rfl ?_
  refine J.aload_n hX' 14 2 rfl rfl ?_
  refine J.aload_n hX' 15 0 rfl rfl ?_
  refine J.iload hX' 16 4 rfl rfl ?_
  refine J.iconst (v := 1) hX' 17 rfl (by decide) ?_
  refine J.iadd hX' 18 rfl ?_
  refine J.sld hX' hsc 19 h1 rfl ?_
  refine J.aload_n hX' 20 0 rfl rfl ?_
  refine J.iload hX' 21 4 rfl rfl ?_
  refine J.iconst (v := 2) hX' 22 rfl (by decide) ?_
  refine J.iadd hX' 23 rfl ?_
  refine J.sld hX' hsc 24 h2 rfl ?_
  refine J.callV1 (As := [.int (xs (iv + 1).toNatClampNeg), .int (xs (iv + 2).toNatClampNeg)]) (rest := []) (k := 27) hX' 25 rfl (mX5_seam h5) okX5_seam w_350 (hX'.lt (k := 27) (by decide)) sh_27 rfl rfl rfl (Nat.le_of_ble_eq_true rfl) ⟨Nat.le_of_ble_eq_true rfl, Nat.le_of_ble_eq_true rfl⟩ ⟨hf.1, hf.2⟩ ?_
  refine J.istore (L' := [(6, .int b2), (0, .ref b), (1, .ref (ad' 0)), (2, .ref (ad' 27)), (3, .ref (ad' 48)), (4, .int iv), (5, .int k)]) hX' 26 rfl (by decide) rfl ?_
  refine J.sub (L' := [(0, .ref b), (1, .ref (ad' 0)), (2, .ref (ad' 27)), (3, .ref (ad' 48)), (4, .int iv), (5, .int k), (6, .int b2)]) [1, 2, 3, 4, 5, 6, 0] rfl ?_
  refine J.aload_n hX' 27 2 rfl rfl ?_
  refine J.callV1 (As := []) (rest := []) (k := 27) hX' 28 rfl (mX5_thrown ht) okX5_thrown w_142 (hX'.lt (k := 27) (by decide)) sh_27 rfl rfl rfl (Nat.le_of_ble_eq_true rfl) ⟨Nat.le_of_ble_eq_true rfl, Nat.le_of_ble_eq_true rfl⟩ ⟨hf.1, hf.2⟩ ?_
  refine J.iload hX' 29 5 rfl rfl ?_
  have hend : J p l e room_1 s m args below meth c D cA ad' (n + g) A 7 (cells + 5) (slots + 436) Q M2 495 [(0, .ref b), (1, .ref (ad' 0)), (2, .ref (ad' 27)), (3, .ref (ad' 48)), (4, .int iv), (5, .int k), (6, .int b2)] [] := J.goto (tgt := 1110) hX' 44 rfl (by decide) (J.sub (L' := [(0, .ref b), (1, .ref (ad' 0)), (2, .ref (ad' 27)), (3, .ref (ad' 48)), (4, .int iv)]) [0, 1, 2, 3, 4] rfl kk)
  refine J.icmp_eq (tgt := 478) hX' 30 rfl (by decide) (fun _ => ?_) (fun b1 => absurd rfl b1)
  refine J.iload hX' 33 5 rfl rfl ?_
  refine J.if_ne (tgt := 495) hX' 34 rfl (by decide) (fun _ => hend) (fun hk0 => ?_)
  refine J.aload_n hX' 35 3 rfl rfl ?_
  refine J.iconst (v := 0) hX' 36 rfl (by decide) ?_
  refine J.lald hX' 37 48 (hX'.lt (k := 48) (by decide)) sh_48 (inb_vp (by decide)) rfl ?_
  refine J.iload hX' 38 6 rfl rfl ?_
  refine J.i2l hX' 39 rfl ?_
  refine J.lcmp0 hX' 40 (by rw [← ho hk0]; rfl) rfl ?_
  exact J.if_eq (tgt := 495) hX' 41 rfl (by decide) (fun _ => hend) (fun b1 => absurd rfl b1)
def kc_keep : List (Nat × Instr × Nat) := [(498, .aload_n 1, 1), (499, .aload_n 3, 1), (500, .invokestatic 104, 3), (503, .istore 5, 2), (505, .aload_n 2, 1), (506, .invokevirtual 107, 3), (509, .istore 6, 2), (511, .aload_n 2, 1), (512, .invokevirtual 74, 3), (515, .iload 5, 2), (517, .if_icmp .eq 5, 3), (520, .iconst 0, 1), (521, .ireturn, 1), (522, .iload 5, 2), (524, .ifCond .ne 15, 3), (527, .aload_n 3, 1), (528, .iconst 0, 1), (529, .laload, 1), (530, .iload 6, 2), (532, .i2l, 1), (533, .lcmp, 1), (534, .ifCond .eq 5, 3), (537, .iconst 0, 1), (538, .ireturn, 1), (539, .goto 571, 3)]
set_option maxRecDepth 100000 in
theorem kc_keep_ok : ∀ (i : Nat) (q : Nat × Instr × Nat), kc_keep[i]? = some q → decode code q.1 = .ok q.2 := tbl_ok (by decide +kernel)
set_option maxRecDepth 100000 in
theorem law_keep {p : Program} {l : Launch} {e : Env} {s : State} {m : MethodId} {args : Array Value} {below : List Frame} {meth : Method} {c : Code} {D : va_G} {cA : Nat → ClassId} {ad : Nat → Nat} {n : Nat} {A : Nat → Prop} {sa : Nat → Nat} {cells slots : Nat} {Q : State → Prop} {M M1 M2 : Mem} {b Ls : Nat} {xs : Nat → Int32} {iv : Int32} (hX : Cx p s m args meth c D cA ad n A sa code 7 RL kc_keep) (hsc : Sc A s b Ls xs)  (hf : cells + 5 ≤ 601024 ∧ slots + 436 ≤ 7293034) {k : Int32} {g : Nat} {b2 : Int32} (hLC : LC l D cA ad n A sa yL_keep cL_keep 3 hL_keep 7 161 [.ref (ad 0), .ref (ad 48)] M k g M1) (h5 : X5_keep M1  = some (b2, M2)) (ht : X5_thrown M2 = some k) (ho : k = 0 → M2 48 0 = b2) (kk : ∀ ad' : Nat → Nat, (∀ j, j < n → ad' j = ad j) → Dd A ad' (n + g) → J p l e room_1 s m args below meth c D cA ad' (n + g) A 7 (cells + 5) (slots + 436) Q M2 1110 [(0, .ref b), (1, .ref (ad' 0)), (2, .ref (ad' 27)), (3, .ref (ad' 48)), (4, .int iv)] []) : J p l e room_1 s m args below meth c D cA ad n A 7 cells slots Q M 498 [(0, .ref b), (1, .ref (ad 0)), (2, .ref (ad 27)), (3, .ref (ad 48)), (4, .int iv)] [] := by
  refine J.aload_n hX 0 1 rfl rfl ?_
  refine J.aload_n hX 1 3 rfl rfl ?_
  refine J.callL (As := [.ref (ad 0), .ref (ad 48)]) (rest := []) hX 2 rfl hLC okL_keep w_354 rfl rfl (Nat.le_of_ble_eq_true rfl) ⟨Nat.le_of_ble_eq_true rfl, Nat.le_of_ble_eq_true rfl⟩ hf (fun ad' ha hd hX' => ?_)
  have hn49 := hX.n49
  have e0 : ad 0 = ad' 0 := (ha 0 (by omega)).symm
  have e27 : ad 27 = ad' 27 := (ha 27 (by omega)).symm
  have e48 : ad 48 = ad' 48 := (ha 48 (by omega)).symm
  rw [e0, e27, e48]
  have kk := kk ad' ha hd
  refine J.istore (L' := [(5, .int k), (0, .ref b), (1, .ref (ad' 0)), (2, .ref (ad' 27)), (3, .ref (ad' 48)), (4, .int iv)]) hX' 3 rfl (by decide) rfl ?_
  refine J.sub (L' := [(0, .ref b), (1, .ref (ad' 0)), (2, .ref (ad' 27)), (3, .ref (ad' 48)), (4, .int iv), (5, .int k)]) [1, 2, 3, 4, 5, 0] rfl ?_
  refine J.aload_n hX' 4 2 rfl rfl ?_
  refine J.callV1 (As := []) (rest := []) (k := 27) hX' 5 rfl (mX5_keep h5) okX5_keep w_377 (hX'.lt (k := 27) (by decide)) sh_27 rfl rfl rfl (Nat.le_of_ble_eq_true rfl) ⟨Nat.le_of_ble_eq_true rfl, Nat.le_of_ble_eq_true rfl⟩ ⟨hf.1, hf.2⟩ ?_
  refine J.istore (L' := [(6, .int b2), (0, .ref b), (1, .ref (ad' 0)), (2, .ref (ad' 27)), (3, .ref (ad' 48)), (4, .int iv), (5, .int k)]) hX' 6 rfl (by decide) rfl ?_
  refine J.sub (L' := [(0, .ref b), (1, .ref (ad' 0)), (2, .ref (ad' 27)), (3, .ref (ad' 48)), (4, .int iv), (5, .int k), (6, .int b2)]) [1, 2, 3, 4, 5, 6, 0] rfl ?_
  refine J.aload_n hX' 7 2 rfl rfl ?_
  refine J.callV1 (As := []) (rest := []) (k := 27) hX' 8 rfl (mX5_thrown ht) okX5_thrown w_142 (hX'.lt (k := 27) (by decide)) sh_27 rfl rfl rfl (Nat.le_of_ble_eq_true rfl) ⟨Nat.le_of_ble_eq_true rfl, Nat.le_of_ble_eq_true rfl⟩ ⟨hf.1, hf.2⟩ ?_
  refine J.iload hX' 9 5 rfl rfl ?_
  have hend : J p l e room_1 s m args below meth c D cA ad' (n + g) A 7 (cells + 5) (slots + 436) Q M2 539 [(0, .ref b), (1, .ref (ad' 0)), (2, .ref (ad' 27)), (3, .ref (ad' 48)), (4, .int iv), (5, .int k), (6, .int b2)] [] := J.goto (tgt := 1110) hX' 24 rfl (by decide) (J.sub (L' := [(0, .ref b), (1, .ref (ad' 0)), (2, .ref (ad' 27)), (3, .ref (ad' 48)), (4, .int iv)]) [0, 1, 2, 3, 4] rfl kk)
  refine J.icmp_eq (tgt := 522) hX' 10 rfl (by decide) (fun _ => ?_) (fun b1 => absurd rfl b1)
  refine J.iload hX' 13 5 rfl rfl ?_
  refine J.if_ne (tgt := 539) hX' 14 rfl (by decide) (fun _ => hend) (fun hk0 => ?_)
  refine J.aload_n hX' 15 3 rfl rfl ?_
  refine J.iconst (v := 0) hX' 16 rfl (by decide) ?_
  refine J.lald hX' 17 48 (hX'.lt (k := 48) (by decide)) sh_48 (inb_vp (by decide)) rfl ?_
  refine J.iload hX' 18 6 rfl rfl ?_
  refine J.i2l hX' 19 rfl ?_
  refine J.lcmp0 hX' 20 (by rw [← ho hk0]; rfl) rfl ?_
  exact J.if_eq (tgt := 539) hX' 21 rfl (by decide) (fun _ => hend) (fun b1 => absurd rfl b1)
def kc_place : List (Nat × Instr × Nat) := [(542, .aload_n 1, 1), (543, .aload_n 0, 1), (544, .iload 4, 2), (546, .iconst 1, 1), (547, .iadd, 1), (548, .iaload, 1), (549, .aload_n 0, 1), (550, .iload 4, 2), (552, .iconst 2, 1), (553, .iadd, 1), (554, .iaload, 1), (555, .aload_n 0, 1), (556, .iload 4, 2), (558, .iconst 3, 1), (559, .iadd, 1), (560, .iaload, 1), (561, .aload_n 0, 1), (562, .iload 4, 2), (564, .iconst 4, 1), (565, .iadd, 1), (566, .iaload, 1), (567, .aload_n 3, 1), (568, .invokestatic 108, 3), (571, .istore 5, 2), (573, .aload_n 2, 1), (574, .aload_n 0, 1), (575, .iload 4, 2), (577, .iconst 1, 1), (578, .iadd, 1), (579, .iaload, 1), (580, .aload_n 0, 1), (581, .iload 4, 2), (583, .iconst 2, 1), (584, .iadd, 1), (585, .iaload, 1), (586, .aload_n 0, 1), (587, .iload 4, 2), (589, .iconst 3, 1), (590, .iadd, 1), (591, .iaload, 1), (592, .aload_n 0, 1), (593, .iload 4, 2), (595, .iconst 4, 1), (596, .iadd, 1), (597, .iaload, 1), (598, .invokevirtual 111, 3), (601, .istore 6, 2), (603, .aload_n 2, 1), (604, .invokevirtual 74, 3), (607, .iload 5, 2), (609, .if_icmp .eq 5, 3), (612, .iconst 0, 1), (613, .ireturn, 1), (614, .iload 5, 2), (616, .ifCond .ne 15, 3), (619, .aload_n 3, 1), (620, .iconst 0, 1), (621, .laload, 1), (622, .iload 6, 2), (624, .i2l, 1), (625, .lcmp, 1), (626, .ifCond .eq 5, 3), (629, .iconst 0, 1), (630, .ireturn, 1), (631, .goto 479, 3)]
set_option maxRecDepth 100000 in
theorem kc_place_ok : ∀ (i : Nat) (q : Nat × Instr × Nat), kc_place[i]? = some q → decode code q.1 = .ok q.2 := tbl_ok (by decide +kernel)
set_option maxRecDepth 100000 in
theorem law_place {p : Program} {l : Launch} {e : Env} {s : State} {m : MethodId} {args : Array Value} {below : List Frame} {meth : Method} {c : Code} {D : va_G} {cA : Nat → ClassId} {ad : Nat → Nat} {n : Nat} {A : Nat → Prop} {sa : Nat → Nat} {cells slots : Nat} {Q : State → Prop} {M M1 M2 : Mem} {b Ls : Nat} {xs : Nat → Int32} {iv : Int32} (hX : Cx p s m args meth c D cA ad n A sa code 7 RL kc_place) (hsc : Sc A s b Ls xs) (h1 : vp_in (iv + 1) Ls) (h2 : vp_in (iv + 2) Ls) (h3 : vp_in (iv + 3) Ls) (h4 : vp_in (iv + 4) Ls) (hf : cells + 5 ≤ 601024 ∧ slots + 436 ≤ 7293034) {k : Int32} {g : Nat} {b2 : Int32} (hLC : LC l D cA ad n A sa yL_place cL_place 7 hL_place 8 128 [.ref (ad 0), .int (xs (iv + 1).toNatClampNeg), .int (xs (iv + 2).toNatClampNeg), .int (xs (iv + 3).toNatClampNeg), .int (xs (iv + 4).toNatClampNeg), .ref (ad 48)] M k g M1) (h5 : X5_place M1 (xs (iv + 1).toNatClampNeg) (xs (iv + 2).toNatClampNeg) (xs (iv + 3).toNatClampNeg) (xs (iv + 4).toNatClampNeg) = some (b2, M2)) (ht : X5_thrown M2 = some k) (ho : k = 0 → M2 48 0 = b2) (kk : ∀ ad' : Nat → Nat, (∀ j, j < n → ad' j = ad j) → Dd A ad' (n + g) → J p l e room_1 s m args below meth c D cA ad' (n + g) A 7 (cells + 5) (slots + 436) Q M2 1110 [(0, .ref b), (1, .ref (ad' 0)), (2, .ref (ad' 27)), (3, .ref (ad' 48)), (4, .int iv)] []) : J p l e room_1 s m args below meth c D cA ad n A 7 cells slots Q M 542 [(0, .ref b), (1, .ref (ad 0)), (2, .ref (ad 27)), (3, .ref (ad 48)), (4, .int iv)] [] := by
  refine J.aload_n hX 0 1 rfl rfl ?_
  refine J.aload_n hX 1 0 rfl rfl ?_
  refine J.iload hX 2 4 rfl rfl ?_
  refine J.iconst (v := 1) hX 3 rfl (by decide) ?_
  refine J.iadd hX 4 rfl ?_
  refine J.sld hX hsc 5 h1 rfl ?_
  refine J.aload_n hX 6 0 rfl rfl ?_
  refine J.iload hX 7 4 rfl rfl ?_
  refine J.iconst (v := 2) hX 8 rfl (by decide) ?_
  refine J.iadd hX 9 rfl ?_
  refine J.sld hX hsc 10 h2 rfl ?_
  refine J.aload_n hX 11 0 rfl rfl ?_
  refine J.iload hX 12 4 rfl rfl ?_
  refine J.iconst (v := 3) hX 13 rfl (by decide) ?_
  refine J.iadd hX 14 rfl ?_
  refine J.sld hX hsc 15 h3 rfl ?_
  refine J.aload_n hX 16 0 rfl rfl ?_
  refine J.iload hX 17 4 rfl rfl ?_
  refine J.iconst (v := 4) hX 18 rfl (by decide) ?_
  refine J.iadd hX 19 rfl ?_
  refine J.sld hX hsc 20 h4 rfl ?_
  refine J.aload_n hX 21 3 rfl rfl ?_
  refine J.callL (As := [.ref (ad 0), .int (xs (iv + 1).toNatClampNeg), .int (xs (iv + 2).toNatClampNeg), .int (xs (iv + 3).toNatClampNeg), .int (xs (iv + 4).toNatClampNeg), .ref (ad 48)]) (rest := []) hX 22 rfl hLC okL_place w_382 rfl rfl (Nat.le_of_ble_eq_true rfl) ⟨Nat.le_of_ble_eq_true rfl, Nat.le_of_ble_eq_true rfl⟩ hf (fun ad' ha hd hX' => ?_)
  have hn49 := hX.n49
  have e0 : ad 0 = ad' 0 := (ha 0 (by omega)).symm
  have e27 : ad 27 = ad' 27 := (ha 27 (by omega)).symm
  have e48 : ad 48 = ad' 48 := (ha 48 (by omega)).symm
  rw [e0, e27, e48]
  have kk := kk ad' ha hd
  refine J.istore (L' := [(5, .int k), (0, .ref b), (1, .ref (ad' 0)), (2, .ref (ad' 27)), (3, .ref (ad' 48)), (4, .int iv)]) hX' 23 rfl (by decide) rfl ?_
  refine J.sub (L' := [(0, .ref b), (1, .ref (ad' 0)), (2, .ref (ad' 27)), (3, .ref (ad' 48)), (4, .int iv), (5, .int k)]) [1, 2, 3, 4, 5, 0] rfl ?_
  refine J.aload_n hX' 24 2 rfl rfl ?_
  refine J.aload_n hX' 25 0 rfl rfl ?_
  refine J.iload hX' 26 4 rfl rfl ?_
  refine J.iconst (v := 1) hX' 27 rfl (by decide) ?_
  refine J.iadd hX' 28 rfl ?_
  refine J.sld hX' hsc 29 h1 rfl ?_
  refine J.aload_n hX' 30 0 rfl rfl ?_
  refine J.iload hX' 31 4 rfl rfl ?_
  refine J.iconst (v := 2) hX' 32 rfl (by decide) ?_
  refine J.iadd hX' 33 rfl ?_
  refine J.sld hX' hsc 34 h2 rfl ?_
  refine J.aload_n hX' 35 0 rfl rfl ?_
  refine J.iload hX' 36 4 rfl rfl ?_
  refine J.iconst (v := 3) hX' 37 rfl (by decide) ?_
  refine J.iadd hX' 38 rfl ?_
  refine J.sld hX' hsc 39 h3 rfl ?_
  refine J.aload_n hX' 40 0 rfl rfl ?_
  refine J.iload hX' 41 4 rfl rfl ?_
  refine J.iconst (v := 4) hX' 42 rfl (by decide) ?_
  refine J.iadd hX' 43 rfl ?_
  refine J.sld hX' hsc 44 h4 rfl ?_
  refine J.callV1 (As := [.int (xs (iv + 1).toNatClampNeg), .int (xs (iv + 2).toNatClampNeg), .int (xs (iv + 3).toNatClampNeg), .int (xs (iv + 4).toNatClampNeg)]) (rest := []) (k := 27) hX' 45 rfl (mX5_place h5) okX5_place w_395 (hX'.lt (k := 27) (by decide)) sh_27 rfl rfl rfl (Nat.le_of_ble_eq_true rfl) ⟨Nat.le_of_ble_eq_true rfl, Nat.le_of_ble_eq_true rfl⟩ ⟨hf.1, hf.2⟩ ?_
  refine J.istore (L' := [(6, .int b2), (0, .ref b), (1, .ref (ad' 0)), (2, .ref (ad' 27)), (3, .ref (ad' 48)), (4, .int iv), (5, .int k)]) hX' 46 rfl (by decide) rfl ?_
  refine J.sub (L' := [(0, .ref b), (1, .ref (ad' 0)), (2, .ref (ad' 27)), (3, .ref (ad' 48)), (4, .int iv), (5, .int k), (6, .int b2)]) [1, 2, 3, 4, 5, 6, 0] rfl ?_
  refine J.aload_n hX' 47 2 rfl rfl ?_
  refine J.callV1 (As := []) (rest := []) (k := 27) hX' 48 rfl (mX5_thrown ht) okX5_thrown w_142 (hX'.lt (k := 27) (by decide)) sh_27 rfl rfl rfl (Nat.le_of_ble_eq_true rfl) ⟨Nat.le_of_ble_eq_true rfl, Nat.le_of_ble_eq_true rfl⟩ ⟨hf.1, hf.2⟩ ?_
  refine J.iload hX' 49 5 rfl rfl ?_
  have hend : J p l e room_1 s m args below meth c D cA ad' (n + g) A 7 (cells + 5) (slots + 436) Q M2 631 [(0, .ref b), (1, .ref (ad' 0)), (2, .ref (ad' 27)), (3, .ref (ad' 48)), (4, .int iv), (5, .int k), (6, .int b2)] [] := J.goto (tgt := 1110) hX' 64 rfl (by decide) (J.sub (L' := [(0, .ref b), (1, .ref (ad' 0)), (2, .ref (ad' 27)), (3, .ref (ad' 48)), (4, .int iv)]) [0, 1, 2, 3, 4] rfl kk)
  refine J.icmp_eq (tgt := 614) hX' 50 rfl (by decide) (fun _ => ?_) (fun b1 => absurd rfl b1)
  refine J.iload hX' 53 5 rfl rfl ?_
  refine J.if_ne (tgt := 631) hX' 54 rfl (by decide) (fun _ => hend) (fun hk0 => ?_)
  refine J.aload_n hX' 55 3 rfl rfl ?_
  refine J.iconst (v := 0) hX' 56 rfl (by decide) ?_
  refine J.lald hX' 57 48 (hX'.lt (k := 48) (by decide)) sh_48 (inb_vp (by decide)) rfl ?_
  refine J.iload hX' 58 6 rfl rfl ?_
  refine J.i2l hX' 59 rfl ?_
  refine J.lcmp0 hX' 60 (by rw [← ho hk0]; rfl) rfl ?_
  exact J.if_eq (tgt := 631) hX' 61 rfl (by decide) (fun _ => hend) (fun b1 => absurd rfl b1)
def kc_frame : List (Nat × Instr × Nat) := [(634, .aload_n 1, 1), (635, .aload_n 0, 1), (636, .iload 4, 2), (638, .iconst 1, 1), (639, .iadd, 1), (640, .iaload, 1), (641, .aload_n 0, 1), (642, .iload 4, 2), (644, .iconst 2, 1), (645, .iadd, 1), (646, .iaload, 1), (647, .aload_n 0, 1), (648, .iload 4, 2), (650, .iconst 3, 1), (651, .iadd, 1), (652, .iaload, 1), (653, .aload_n 3, 1), (654, .invokestatic 112, 3), (657, .istore 5, 2), (659, .aload_n 2, 1), (660, .aload_n 0, 1), (661, .iload 4, 2), (663, .iconst 1, 1), (664, .iadd, 1), (665, .iaload, 1), (666, .aload_n 0, 1), (667, .iload 4, 2), (669, .iconst 2, 1), (670, .iadd, 1), (671, .iaload, 1), (672, .aload_n 0, 1), (673, .iload 4, 2), (675, .iconst 3, 1), (676, .iadd, 1), (677, .iaload, 1), (678, .invokevirtual 114, 3), (681, .istore 6, 2), (683, .aload_n 2, 1), (684, .invokevirtual 74, 3), (687, .iload 5, 2), (689, .if_icmp .eq 5, 3), (692, .iconst 0, 1), (693, .ireturn, 1), (694, .iload 5, 2), (696, .ifCond .ne 15, 3), (699, .aload_n 3, 1), (700, .iconst 0, 1), (701, .laload, 1), (702, .iload 6, 2), (704, .i2l, 1), (705, .lcmp, 1), (706, .ifCond .eq 5, 3), (709, .iconst 0, 1), (710, .ireturn, 1), (711, .goto 399, 3)]
set_option maxRecDepth 100000 in
theorem kc_frame_ok : ∀ (i : Nat) (q : Nat × Instr × Nat), kc_frame[i]? = some q → decode code q.1 = .ok q.2 := tbl_ok (by decide +kernel)
set_option maxRecDepth 100000 in
theorem law_frame {p : Program} {l : Launch} {e : Env} {s : State} {m : MethodId} {args : Array Value} {below : List Frame} {meth : Method} {c : Code} {D : va_G} {cA : Nat → ClassId} {ad : Nat → Nat} {n : Nat} {A : Nat → Prop} {sa : Nat → Nat} {cells slots : Nat} {Q : State → Prop} {M M1 M2 : Mem} {b Ls : Nat} {xs : Nat → Int32} {iv : Int32} (hX : Cx p s m args meth c D cA ad n A sa code 7 RL kc_frame) (hsc : Sc A s b Ls xs) (h1 : vp_in (iv + 1) Ls) (h2 : vp_in (iv + 2) Ls) (h3 : vp_in (iv + 3) Ls) (hf : cells + 5 ≤ 601024 ∧ slots + 436 ≤ 7293034) {k : Int32} {g : Nat} {b2 : Int32} (hLC : LC l D cA ad n A sa yL_frame cL_frame 6 hL_frame 8 126 [.ref (ad 0), .int (xs (iv + 1).toNatClampNeg), .int (xs (iv + 2).toNatClampNeg), .int (xs (iv + 3).toNatClampNeg), .ref (ad 48)] M k g M1) (h5 : X5_frame M1 (xs (iv + 1).toNatClampNeg) (xs (iv + 2).toNatClampNeg) (xs (iv + 3).toNatClampNeg) = some (b2, M2)) (ht : X5_thrown M2 = some k) (ho : k = 0 → M2 48 0 = b2) (kk : ∀ ad' : Nat → Nat, (∀ j, j < n → ad' j = ad j) → Dd A ad' (n + g) → J p l e room_1 s m args below meth c D cA ad' (n + g) A 7 (cells + 5) (slots + 436) Q M2 1110 [(0, .ref b), (1, .ref (ad' 0)), (2, .ref (ad' 27)), (3, .ref (ad' 48)), (4, .int iv)] []) : J p l e room_1 s m args below meth c D cA ad n A 7 cells slots Q M 634 [(0, .ref b), (1, .ref (ad 0)), (2, .ref (ad 27)), (3, .ref (ad 48)), (4, .int iv)] [] := by
  refine J.aload_n hX 0 1 rfl rfl ?_
  refine J.aload_n hX 1 0 rfl rfl ?_
  refine J.iload hX 2 4 rfl rfl ?_
  refine J.iconst (v := 1) hX 3 rfl (by decide) ?_
  refine J.iadd hX 4 rfl ?_
  refine J.sld hX hsc 5 h1 rfl ?_
  refine J.aload_n hX 6 0 rfl rfl ?_
  refine J.iload hX 7 4 rfl rfl ?_
  refine J.iconst (v := 2) hX 8 rfl (by decide) ?_
  refine J.iadd hX 9 rfl ?_
  refine J.sld hX hsc 10 h2 rfl ?_
  refine J.aload_n hX 11 0 rfl rfl ?_
  refine J.iload hX 12 4 rfl rfl ?_
  refine J.iconst (v := 3) hX 13 rfl (by decide) ?_
  refine J.iadd hX 14 rfl ?_
  refine J.sld hX hsc 15 h3 rfl ?_
  refine J.aload_n hX 16 3 rfl rfl ?_
  refine J.callL (As := [.ref (ad 0), .int (xs (iv + 1).toNatClampNeg), .int (xs (iv + 2).toNatClampNeg), .int (xs (iv + 3).toNatClampNeg), .ref (ad 48)]) (rest := []) hX 17 rfl hLC okL_frame w_399 rfl rfl (Nat.le_of_ble_eq_true rfl) ⟨Nat.le_of_ble_eq_true rfl, Nat.le_of_ble_eq_true rfl⟩ hf (fun ad' ha hd hX' => ?_)
  have hn49 := hX.n49
  have e0 : ad 0 = ad' 0 := (ha 0 (by omega)).symm
  have e27 : ad 27 = ad' 27 := (ha 27 (by omega)).symm
  have e48 : ad 48 = ad' 48 := (ha 48 (by omega)).symm
  rw [e0, e27, e48]
  have kk := kk ad' ha hd
  refine J.istore (L' := [(5, .int k), (0, .ref b), (1, .ref (ad' 0)), (2, .ref (ad' 27)), (3, .ref (ad' 48)), (4, .int iv)]) hX' 18 rfl (by decide) rfl ?_
  refine J.sub (L' := [(0, .ref b), (1, .ref (ad' 0)), (2, .ref (ad' 27)), (3, .ref (ad' 48)), (4, .int iv), (5, .int k)]) [1, 2, 3, 4, 5, 0] rfl ?_
  refine J.aload_n hX' 19 2 rfl rfl ?_
  refine J.aload_n hX' 20 0 rfl rfl ?_
  refine J.iload hX' 21 4 rfl rfl ?_
  refine J.iconst (v := 1) hX' 22 rfl (by decide) ?_
  refine J.iadd hX' 23 rfl ?_
  refine J.sld hX' hsc 24 h1 rfl ?_
  refine J.aload_n hX' 25 0 rfl rfl ?_
  refine J.iload hX' 26 4 rfl rfl ?_
  refine J.iconst (v := 2) hX' 27 rfl (by decide) ?_
  refine J.iadd hX' 28 rfl ?_
  refine J.sld hX' hsc 29 h2 rfl ?_
  refine J.aload_n hX' 30 0 rfl rfl ?_
  refine J.iload hX' 31 4 rfl rfl ?_
  refine J.iconst (v := 3) hX' 32 rfl (by decide) ?_
  refine J.iadd hX' 33 rfl ?_
  refine J.sld hX' hsc 34 h3 rfl ?_
  refine J.callV1 (As := [.int (xs (iv + 1).toNatClampNeg), .int (xs (iv + 2).toNatClampNeg), .int (xs (iv + 3).toNatClampNeg)]) (rest := []) (k := 27) hX' 35 rfl (mX5_frame h5) okX5_frame w_408 (hX'.lt (k := 27) (by decide)) sh_27 rfl rfl rfl (Nat.le_of_ble_eq_true rfl) ⟨Nat.le_of_ble_eq_true rfl, Nat.le_of_ble_eq_true rfl⟩ ⟨hf.1, hf.2⟩ ?_
  refine J.istore (L' := [(6, .int b2), (0, .ref b), (1, .ref (ad' 0)), (2, .ref (ad' 27)), (3, .ref (ad' 48)), (4, .int iv), (5, .int k)]) hX' 36 rfl (by decide) rfl ?_
  refine J.sub (L' := [(0, .ref b), (1, .ref (ad' 0)), (2, .ref (ad' 27)), (3, .ref (ad' 48)), (4, .int iv), (5, .int k), (6, .int b2)]) [1, 2, 3, 4, 5, 6, 0] rfl ?_
  refine J.aload_n hX' 37 2 rfl rfl ?_
  refine J.callV1 (As := []) (rest := []) (k := 27) hX' 38 rfl (mX5_thrown ht) okX5_thrown w_142 (hX'.lt (k := 27) (by decide)) sh_27 rfl rfl rfl (Nat.le_of_ble_eq_true rfl) ⟨Nat.le_of_ble_eq_true rfl, Nat.le_of_ble_eq_true rfl⟩ ⟨hf.1, hf.2⟩ ?_
  refine J.iload hX' 39 5 rfl rfl ?_
  have hend : J p l e room_1 s m args below meth c D cA ad' (n + g) A 7 (cells + 5) (slots + 436) Q M2 711 [(0, .ref b), (1, .ref (ad' 0)), (2, .ref (ad' 27)), (3, .ref (ad' 48)), (4, .int iv), (5, .int k), (6, .int b2)] [] := J.goto (tgt := 1110) hX' 54 rfl (by decide) (J.sub (L' := [(0, .ref b), (1, .ref (ad' 0)), (2, .ref (ad' 27)), (3, .ref (ad' 48)), (4, .int iv)]) [0, 1, 2, 3, 4] rfl kk)
  refine J.icmp_eq (tgt := 694) hX' 40 rfl (by decide) (fun _ => ?_) (fun b1 => absurd rfl b1)
  refine J.iload hX' 43 5 rfl rfl ?_
  refine J.if_ne (tgt := 711) hX' 44 rfl (by decide) (fun _ => hend) (fun hk0 => ?_)
  refine J.aload_n hX' 45 3 rfl rfl ?_
  refine J.iconst (v := 0) hX' 46 rfl (by decide) ?_
  refine J.lald hX' 47 48 (hX'.lt (k := 48) (by decide)) sh_48 (inb_vp (by decide)) rfl ?_
  refine J.iload hX' 48 6 rfl rfl ?_
  refine J.i2l hX' 49 rfl ?_
  refine J.lcmp0 hX' 50 (by rw [← ho hk0]; rfl) rfl ?_
  exact J.if_eq (tgt := 711) hX' 51 rfl (by decide) (fun _ => hend) (fun b1 => absurd rfl b1)
def kc_mismatch : List (Nat × Instr × Nat) := [(714, .aload_n 1, 1), (715, .aload_n 0, 1), (716, .iload 4, 2), (718, .iconst 1, 1), (719, .iadd, 1), (720, .iaload, 1), (721, .aload_n 0, 1), (722, .iload 4, 2), (724, .iconst 2, 1), (725, .iadd, 1), (726, .iaload, 1), (727, .aload_n 3, 1), (728, .invokestatic 115, 3), (731, .istore 5, 2), (733, .aload_n 2, 1), (734, .aload_n 0, 1), (735, .iload 4, 2), (737, .iconst 1, 1), (738, .iadd, 1), (739, .iaload, 1), (740, .aload_n 0, 1), (741, .iload 4, 2), (743, .iconst 2, 1), (744, .iadd, 1), (745, .iaload, 1), (746, .invokevirtual 117, 3), (749, .istore 6, 2), (751, .aload_n 2, 1), (752, .invokevirtual 74, 3), (755, .iload 5, 2), (757, .if_icmp .eq 5, 3), (760, .iconst 0, 1), (761, .ireturn, 1), (762, .iload 5, 2), (764, .ifCond .ne 15, 3), (767, .aload_n 3, 1), (768, .iconst 0, 1), (769, .laload, 1), (770, .iload 6, 2), (772, .i2l, 1), (773, .lcmp, 1), (774, .ifCond .eq 5, 3), (777, .iconst 0, 1), (778, .ireturn, 1), (779, .goto 331, 3)]
set_option maxRecDepth 100000 in
theorem kc_mismatch_ok : ∀ (i : Nat) (q : Nat × Instr × Nat), kc_mismatch[i]? = some q → decode code q.1 = .ok q.2 := tbl_ok (by decide +kernel)
set_option maxRecDepth 100000 in
theorem law_mismatch {p : Program} {l : Launch} {e : Env} {s : State} {m : MethodId} {args : Array Value} {below : List Frame} {meth : Method} {c : Code} {D : va_G} {cA : Nat → ClassId} {ad : Nat → Nat} {n : Nat} {A : Nat → Prop} {sa : Nat → Nat} {cells slots : Nat} {Q : State → Prop} {M M1 M2 : Mem} {b Ls : Nat} {xs : Nat → Int32} {iv : Int32} (hX : Cx p s m args meth c D cA ad n A sa code 7 RL kc_mismatch) (hsc : Sc A s b Ls xs) (h1 : vp_in (iv + 1) Ls) (h2 : vp_in (iv + 2) Ls) (hf : cells + 5 ≤ 601024 ∧ slots + 436 ≤ 7293034) {k : Int32} {g : Nat} {b2 : Int32} (hLC : LC l D cA ad n A sa yL_mismatch cL_mismatch 5 hL_mismatch 8 124 [.ref (ad 0), .int (xs (iv + 1).toNatClampNeg), .int (xs (iv + 2).toNatClampNeg), .ref (ad 48)] M k g M1) (h5 : X5_mismatch M1 (xs (iv + 1).toNatClampNeg) (xs (iv + 2).toNatClampNeg) = some (b2, M2)) (ht : X5_thrown M2 = some k) (ho : k = 0 → M2 48 0 = b2) (kk : ∀ ad' : Nat → Nat, (∀ j, j < n → ad' j = ad j) → Dd A ad' (n + g) → J p l e room_1 s m args below meth c D cA ad' (n + g) A 7 (cells + 5) (slots + 436) Q M2 1110 [(0, .ref b), (1, .ref (ad' 0)), (2, .ref (ad' 27)), (3, .ref (ad' 48)), (4, .int iv)] []) : J p l e room_1 s m args below meth c D cA ad n A 7 cells slots Q M 714 [(0, .ref b), (1, .ref (ad 0)), (2, .ref (ad 27)), (3, .ref (ad 48)), (4, .int iv)] [] := by
  refine J.aload_n hX 0 1 rfl rfl ?_
  refine J.aload_n hX 1 0 rfl rfl ?_
  refine J.iload hX 2 4 rfl rfl ?_
  refine J.iconst (v := 1) hX 3 rfl (by decide) ?_
  refine J.iadd hX 4 rfl ?_
  refine J.sld hX hsc 5 h1 rfl ?_
  refine J.aload_n hX 6 0 rfl rfl ?_
  refine J.iload hX 7 4 rfl rfl ?_
  refine J.iconst (v := 2) hX 8 rfl (by decide) ?_
  refine J.iadd hX 9 rfl ?_
  refine J.sld hX hsc 10 h2 rfl ?_
  refine J.aload_n hX 11 3 rfl rfl ?_
  refine J.callL (As := [.ref (ad 0), .int (xs (iv + 1).toNatClampNeg), .int (xs (iv + 2).toNatClampNeg), .ref (ad 48)]) (rest := []) hX 12 rfl hLC okL_mismatch w_412 rfl rfl (Nat.le_of_ble_eq_true rfl) ⟨Nat.le_of_ble_eq_true rfl, Nat.le_of_ble_eq_true rfl⟩ hf (fun ad' ha hd hX' => ?_)
  have hn49 := hX.n49
  have e0 : ad 0 = ad' 0 := (ha 0 (by omega)).symm
  have e27 : ad 27 = ad' 27 := (ha 27 (by omega)).symm
  have e48 : ad 48 = ad' 48 := (ha 48 (by omega)).symm
  rw [e0, e27, e48]
  have kk := kk ad' ha hd
  refine J.istore (L' := [(5, .int k), (0, .ref b), (1, .ref (ad' 0)), (2, .ref (ad' 27)), (3, .ref (ad' 48)), (4, .int iv)]) hX' 13 rfl (by decide) rfl ?_
  refine J.sub (L' := [(0, .ref b), (1, .ref (ad' 0)), (2, .ref (ad' 27)), (3, .ref (ad' 48)), (4, .int iv), (5, .int k)]) [1, 2, 3, 4, 5, 0] rfl ?_
  refine J.aload_n hX' 14 2 rfl rfl ?_
  refine J.aload_n hX' 15 0 rfl rfl ?_
  refine J.iload hX' 16 4 rfl rfl ?_
  refine J.iconst (v := 1) hX' 17 rfl (by decide) ?_
  refine J.iadd hX' 18 rfl ?_
  refine J.sld hX' hsc 19 h1 rfl ?_
  refine J.aload_n hX' 20 0 rfl rfl ?_
  refine J.iload hX' 21 4 rfl rfl ?_
  refine J.iconst (v := 2) hX' 22 rfl (by decide) ?_
  refine J.iadd hX' 23 rfl ?_
  refine J.sld hX' hsc 24 h2 rfl ?_
  refine J.callV1 (As := [.int (xs (iv + 1).toNatClampNeg), .int (xs (iv + 2).toNatClampNeg)]) (rest := []) (k := 27) hX' 25 rfl (mX5_mismatch h5) okX5_mismatch w_443 (hX'.lt (k := 27) (by decide)) sh_27 rfl rfl rfl (Nat.le_of_ble_eq_true rfl) ⟨Nat.le_of_ble_eq_true rfl, Nat.le_of_ble_eq_true rfl⟩ ⟨hf.1, hf.2⟩ ?_
  refine J.istore (L' := [(6, .int b2), (0, .ref b), (1, .ref (ad' 0)), (2, .ref (ad' 27)), (3, .ref (ad' 48)), (4, .int iv), (5, .int k)]) hX' 26 rfl (by decide) rfl ?_
  refine J.sub (L' := [(0, .ref b), (1, .ref (ad' 0)), (2, .ref (ad' 27)), (3, .ref (ad' 48)), (4, .int iv), (5, .int k), (6, .int b2)]) [1, 2, 3, 4, 5, 6, 0] rfl ?_
  refine J.aload_n hX' 27 2 rfl rfl ?_
  refine J.callV1 (As := []) (rest := []) (k := 27) hX' 28 rfl (mX5_thrown ht) okX5_thrown w_142 (hX'.lt (k := 27) (by decide)) sh_27 rfl rfl rfl (Nat.le_of_ble_eq_true rfl) ⟨Nat.le_of_ble_eq_true rfl, Nat.le_of_ble_eq_true rfl⟩ ⟨hf.1, hf.2⟩ ?_
  refine J.iload hX' 29 5 rfl rfl ?_
  have hend : J p l e room_1 s m args below meth c D cA ad' (n + g) A 7 (cells + 5) (slots + 436) Q M2 779 [(0, .ref b), (1, .ref (ad' 0)), (2, .ref (ad' 27)), (3, .ref (ad' 48)), (4, .int iv), (5, .int k), (6, .int b2)] [] := J.goto (tgt := 1110) hX' 44 rfl (by decide) (J.sub (L' := [(0, .ref b), (1, .ref (ad' 0)), (2, .ref (ad' 27)), (3, .ref (ad' 48)), (4, .int iv)]) [0, 1, 2, 3, 4] rfl kk)
  refine J.icmp_eq (tgt := 762) hX' 30 rfl (by decide) (fun _ => ?_) (fun b1 => absurd rfl b1)
  refine J.iload hX' 33 5 rfl rfl ?_
  refine J.if_ne (tgt := 779) hX' 34 rfl (by decide) (fun _ => hend) (fun hk0 => ?_)
  refine J.aload_n hX' 35 3 rfl rfl ?_
  refine J.iconst (v := 0) hX' 36 rfl (by decide) ?_
  refine J.lald hX' 37 48 (hX'.lt (k := 48) (by decide)) sh_48 (inb_vp (by decide)) rfl ?_
  refine J.iload hX' 38 6 rfl rfl ?_
  refine J.i2l hX' 39 rfl ?_
  refine J.lcmp0 hX' 40 (by rw [← ho hk0]; rfl) rfl ?_
  exact J.if_eq (tgt := 779) hX' 41 rfl (by decide) (fun _ => hend) (fun b1 => absurd rfl b1)
def kc_swap : List (Nat × Instr × Nat) := [(782, .aload_n 1, 1), (783, .aload_n 0, 1), (784, .iload 4, 2), (786, .iconst 1, 1), (787, .iadd, 1), (788, .iaload, 1), (789, .aload_n 0, 1), (790, .iload 4, 2), (792, .iconst 2, 1), (793, .iadd, 1), (794, .iaload, 1), (795, .aload_n 3, 1), (796, .invokestatic 118, 3), (799, .istore 5, 2), (801, .aload_n 2, 1), (802, .aload_n 0, 1), (803, .iload 4, 2), (805, .iconst 1, 1), (806, .iadd, 1), (807, .iaload, 1), (808, .aload_n 0, 1), (809, .iload 4, 2), (811, .iconst 2, 1), (812, .iadd, 1), (813, .iaload, 1), (814, .invokevirtual 120, 3), (817, .istore 6, 2), (819, .aload_n 2, 1), (820, .invokevirtual 74, 3), (823, .iload 5, 2), (825, .if_icmp .eq 5, 3), (828, .iconst 0, 1), (829, .ireturn, 1), (830, .iload 5, 2), (832, .ifCond .ne 15, 3), (835, .aload_n 3, 1), (836, .iconst 0, 1), (837, .laload, 1), (838, .iload 6, 2), (840, .i2l, 1), (841, .lcmp, 1), (842, .ifCond .eq 5, 3), (845, .iconst 0, 1), (846, .ireturn, 1), (847, .goto 263, 3)]
set_option maxRecDepth 100000 in
theorem kc_swap_ok : ∀ (i : Nat) (q : Nat × Instr × Nat), kc_swap[i]? = some q → decode code q.1 = .ok q.2 := tbl_ok (by decide +kernel)
set_option maxRecDepth 100000 in
theorem law_swap {p : Program} {l : Launch} {e : Env} {s : State} {m : MethodId} {args : Array Value} {below : List Frame} {meth : Method} {c : Code} {D : va_G} {cA : Nat → ClassId} {ad : Nat → Nat} {n : Nat} {A : Nat → Prop} {sa : Nat → Nat} {cells slots : Nat} {Q : State → Prop} {M M1 M2 : Mem} {b Ls : Nat} {xs : Nat → Int32} {iv : Int32} (hX : Cx p s m args meth c D cA ad n A sa code 7 RL kc_swap) (hsc : Sc A s b Ls xs) (h1 : vp_in (iv + 1) Ls) (h2 : vp_in (iv + 2) Ls) (hf : cells + 5 ≤ 601024 ∧ slots + 436 ≤ 7293034) {k : Int32} {g : Nat} {b2 : Int32} (hLC : LC l D cA ad n A sa yL_swap cL_swap 5 hL_swap 8 124 [.ref (ad 0), .int (xs (iv + 1).toNatClampNeg), .int (xs (iv + 2).toNatClampNeg), .ref (ad 48)] M k g M1) (h5 : X5_swap M1 (xs (iv + 1).toNatClampNeg) (xs (iv + 2).toNatClampNeg) = some (b2, M2)) (ht : X5_thrown M2 = some k) (ho : k = 0 → M2 48 0 = b2) (kk : ∀ ad' : Nat → Nat, (∀ j, j < n → ad' j = ad j) → Dd A ad' (n + g) → J p l e room_1 s m args below meth c D cA ad' (n + g) A 7 (cells + 5) (slots + 436) Q M2 1110 [(0, .ref b), (1, .ref (ad' 0)), (2, .ref (ad' 27)), (3, .ref (ad' 48)), (4, .int iv)] []) : J p l e room_1 s m args below meth c D cA ad n A 7 cells slots Q M 782 [(0, .ref b), (1, .ref (ad 0)), (2, .ref (ad 27)), (3, .ref (ad 48)), (4, .int iv)] [] := by
  refine J.aload_n hX 0 1 rfl rfl ?_
  refine J.aload_n hX 1 0 rfl rfl ?_
  refine J.iload hX 2 4 rfl rfl ?_
  refine J.iconst (v := 1) hX 3 rfl (by decide) ?_
  refine J.iadd hX 4 rfl ?_
  refine J.sld hX hsc 5 h1 rfl ?_
  refine J.aload_n hX 6 0 rfl rfl ?_
  refine J.iload hX 7 4 rfl rfl ?_
  refine J.iconst (v := 2) hX 8 rfl (by decide) ?_
  refine J.iadd hX 9 rfl ?_
  refine J.sld hX hsc 10 h2 rfl ?_
  refine J.aload_n hX 11 3 rfl rfl ?_
  refine J.callL (As := [.ref (ad 0), .int (xs (iv + 1).toNatClampNeg), .int (xs (iv + 2).toNatClampNeg), .ref (ad 48)]) (rest := []) hX 12 rfl hLC okL_swap w_454 rfl rfl (Nat.le_of_ble_eq_true rfl) ⟨Nat.le_of_ble_eq_true rfl, Nat.le_of_ble_eq_true rfl⟩ hf (fun ad' ha hd hX' => ?_)
  have hn49 := hX.n49
  have e0 : ad 0 = ad' 0 := (ha 0 (by omega)).symm
  have e27 : ad 27 = ad' 27 := (ha 27 (by omega)).symm
  have e48 : ad 48 = ad' 48 := (ha 48 (by omega)).symm
  rw [e0, e27, e48]
  have kk := kk ad' ha hd
  refine J.istore (L' := [(5, .int k), (0, .ref b), (1, .ref (ad' 0)), (2, .ref (ad' 27)), (3, .ref (ad' 48)), (4, .int iv)]) hX' 13 rfl (by decide) rfl ?_
  refine J.sub (L' := [(0, .ref b), (1, .ref (ad' 0)), (2, .ref (ad' 27)), (3, .ref (ad' 48)), (4, .int iv), (5, .int k)]) [1, 2, 3, 4, 5, 0] rfl ?_
  refine J.aload_n hX' 14 2 rfl rfl ?_
  refine J.aload_n hX' 15 0 rfl rfl ?_
  refine J.iload hX' 16 4 rfl rfl ?_
  refine J.iconst (v := 1) hX' 17 rfl (by decide) ?_
  refine J.iadd hX' 18 rfl ?_
  refine J.sld hX' hsc 19 h1 rfl ?_
  refine J.aload_n hX' 20 0 rfl rfl ?_
  refine J.iload hX' 21 4 rfl rfl ?_
  refine J.iconst (v := 2) hX' 22 rfl (by decide) ?_
  refine J.iadd hX' 23 rfl ?_
  refine J.sld hX' hsc 24 h2 rfl ?_
  refine J.callV1 (As := [.int (xs (iv + 1).toNatClampNeg), .int (xs (iv + 2).toNatClampNeg)]) (rest := []) (k := 27) hX' 25 rfl (mX5_swap h5) okX5_swap w_474 (hX'.lt (k := 27) (by decide)) sh_27 rfl rfl rfl (Nat.le_of_ble_eq_true rfl) ⟨Nat.le_of_ble_eq_true rfl, Nat.le_of_ble_eq_true rfl⟩ ⟨hf.1, hf.2⟩ ?_
  refine J.istore (L' := [(6, .int b2), (0, .ref b), (1, .ref (ad' 0)), (2, .ref (ad' 27)), (3, .ref (ad' 48)), (4, .int iv), (5, .int k)]) hX' 26 rfl (by decide) rfl ?_
  refine J.sub (L' := [(0, .ref b), (1, .ref (ad' 0)), (2, .ref (ad' 27)), (3, .ref (ad' 48)), (4, .int iv), (5, .int k), (6, .int b2)]) [1, 2, 3, 4, 5, 6, 0] rfl ?_
  refine J.aload_n hX' 27 2 rfl rfl ?_
  refine J.callV1 (As := []) (rest := []) (k := 27) hX' 28 rfl (mX5_thrown ht) okX5_thrown w_142 (hX'.lt (k := 27) (by decide)) sh_27 rfl rfl rfl (Nat.le_of_ble_eq_true rfl) ⟨Nat.le_of_ble_eq_true rfl, Nat.le_of_ble_eq_true rfl⟩ ⟨hf.1, hf.2⟩ ?_
  refine J.iload hX' 29 5 rfl rfl ?_
  have hend : J p l e room_1 s m args below meth c D cA ad' (n + g) A 7 (cells + 5) (slots + 436) Q M2 847 [(0, .ref b), (1, .ref (ad' 0)), (2, .ref (ad' 27)), (3, .ref (ad' 48)), (4, .int iv), (5, .int k), (6, .int b2)] [] := J.goto (tgt := 1110) hX' 44 rfl (by decide) (J.sub (L' := [(0, .ref b), (1, .ref (ad' 0)), (2, .ref (ad' 27)), (3, .ref (ad' 48)), (4, .int iv)]) [0, 1, 2, 3, 4] rfl kk)
  refine J.icmp_eq (tgt := 830) hX' 30 rfl (by decide) (fun _ => ?_) (fun b1 => absurd rfl b1)
  refine J.iload hX' 33 5 rfl rfl ?_
  refine J.if_ne (tgt := 847) hX' 34 rfl (by decide) (fun _ => hend) (fun hk0 => ?_)
  refine J.aload_n hX' 35 3 rfl rfl ?_
  refine J.iconst (v := 0) hX' 36 rfl (by decide) ?_
  refine J.lald hX' 37 48 (hX'.lt (k := 48) (by decide)) sh_48 (inb_vp (by decide)) rfl ?_
  refine J.iload hX' 38 6 rfl rfl ?_
  refine J.i2l hX' 39 rfl ?_
  refine J.lcmp0 hX' 40 (by rw [← ho hk0]; rfl) rfl ?_
  exact J.if_eq (tgt := 847) hX' 41 rfl (by decide) (fun _ => hend) (fun b1 => absurd rfl b1)
def kc_area : List (Nat × Instr × Nat) := [(850, .aload_n 1, 1), (851, .aload_n 0, 1), (852, .iload 4, 2), (854, .iconst 1, 1), (855, .iadd, 1), (856, .iaload, 1), (857, .aload_n 3, 1), (858, .invokestatic 121, 3), (861, .istore 5, 2), (863, .aload_n 2, 1), (864, .aload_n 0, 1), (865, .iload 4, 2), (867, .iconst 1, 1), (868, .iadd, 1), (869, .iaload, 1), (870, .invokevirtual 123, 3), (873, .istore 6, 2), (875, .aload_n 2, 1), (876, .invokevirtual 74, 3), (879, .iload 5, 2), (881, .if_icmp .eq 5, 3), (884, .iconst 0, 1), (885, .ireturn, 1), (886, .iload 5, 2), (888, .ifCond .ne 15, 3), (891, .aload_n 3, 1), (892, .iconst 0, 1), (893, .laload, 1), (894, .iload 6, 2), (896, .i2l, 1), (897, .lcmp, 1), (898, .ifCond .eq 5, 3), (901, .iconst 0, 1), (902, .ireturn, 1), (903, .goto 207, 3)]
set_option maxRecDepth 100000 in
theorem kc_area_ok : ∀ (i : Nat) (q : Nat × Instr × Nat), kc_area[i]? = some q → decode code q.1 = .ok q.2 := tbl_ok (by decide +kernel)
set_option maxRecDepth 100000 in
theorem law_area {p : Program} {l : Launch} {e : Env} {s : State} {m : MethodId} {args : Array Value} {below : List Frame} {meth : Method} {c : Code} {D : va_G} {cA : Nat → ClassId} {ad : Nat → Nat} {n : Nat} {A : Nat → Prop} {sa : Nat → Nat} {cells slots : Nat} {Q : State → Prop} {M M1 M2 : Mem} {b Ls : Nat} {xs : Nat → Int32} {iv : Int32} (hX : Cx p s m args meth c D cA ad n A sa code 7 RL kc_area) (hsc : Sc A s b Ls xs) (h1 : vp_in (iv + 1) Ls) (hf : cells + 5 ≤ 601024 ∧ slots + 436 ≤ 7293034) {k : Int32} {g : Nat} {b2 : Int32} (hLC : LC l D cA ad n A sa yL_area cL_area 4 hL_area 8 123 [.ref (ad 0), .int (xs (iv + 1).toNatClampNeg), .ref (ad 48)] M k g M1) (h5 : X5_area M1 (xs (iv + 1).toNatClampNeg) = some (b2, M2)) (ht : X5_thrown M2 = some k) (ho : k = 0 → M2 48 0 = b2) (kk : ∀ ad' : Nat → Nat, (∀ j, j < n → ad' j = ad j) → Dd A ad' (n + g) → J p l e room_1 s m args below meth c D cA ad' (n + g) A 7 (cells + 5) (slots + 436) Q M2 1110 [(0, .ref b), (1, .ref (ad' 0)), (2, .ref (ad' 27)), (3, .ref (ad' 48)), (4, .int iv)] []) : J p l e room_1 s m args below meth c D cA ad n A 7 cells slots Q M 850 [(0, .ref b), (1, .ref (ad 0)), (2, .ref (ad 27)), (3, .ref (ad 48)), (4, .int iv)] [] := by
  refine J.aload_n hX 0 1 rfl rfl ?_
  refine J.aload_n hX 1 0 rfl rfl ?_
  refine J.iload hX 2 4 rfl rfl ?_
  refine J.iconst (v := 1) hX 3 rfl (by decide) ?_
  refine J.iadd hX 4 rfl ?_
  refine J.sld hX hsc 5 h1 rfl ?_
  refine J.aload_n hX 6 3 rfl rfl ?_
  refine J.callL (As := [.ref (ad 0), .int (xs (iv + 1).toNatClampNeg), .ref (ad 48)]) (rest := []) hX 7 rfl hLC okL_area w_481 rfl rfl (Nat.le_of_ble_eq_true rfl) ⟨Nat.le_of_ble_eq_true rfl, Nat.le_of_ble_eq_true rfl⟩ hf (fun ad' ha hd hX' => ?_)
  have hn49 := hX.n49
  have e0 : ad 0 = ad' 0 := (ha 0 (by omega)).symm
  have e27 : ad 27 = ad' 27 := (ha 27 (by omega)).symm
  have e48 : ad 48 = ad' 48 := (ha 48 (by omega)).symm
  rw [e0, e27, e48]
  have kk := kk ad' ha hd
  refine J.istore (L' := [(5, .int k), (0, .ref b), (1, .ref (ad' 0)), (2, .ref (ad' 27)), (3, .ref (ad' 48)), (4, .int iv)]) hX' 8 rfl (by decide) rfl ?_
  refine J.sub (L' := [(0, .ref b), (1, .ref (ad' 0)), (2, .ref (ad' 27)), (3, .ref (ad' 48)), (4, .int iv), (5, .int k)]) [1, 2, 3, 4, 5, 0] rfl ?_
  refine J.aload_n hX' 9 2 rfl rfl ?_
  refine J.aload_n hX' 10 0 rfl rfl ?_
  refine J.iload hX' 11 4 rfl rfl ?_
  refine J.iconst (v := 1) hX' 12 rfl (by decide) ?_
  refine J.iadd hX' 13 rfl ?_
  refine J.sld hX' hsc 14 h1 rfl ?_
  refine J.callV1 (As := [.int (xs (iv + 1).toNatClampNeg)]) (rest := []) (k := 27) hX' 15 rfl (mX5_area h5) okX5_area w_496 (hX'.lt (k := 27) (by decide)) sh_27 rfl rfl rfl (Nat.le_of_ble_eq_true rfl) ⟨Nat.le_of_ble_eq_true rfl, Nat.le_of_ble_eq_true rfl⟩ ⟨hf.1, hf.2⟩ ?_
  refine J.istore (L' := [(6, .int b2), (0, .ref b), (1, .ref (ad' 0)), (2, .ref (ad' 27)), (3, .ref (ad' 48)), (4, .int iv), (5, .int k)]) hX' 16 rfl (by decide) rfl ?_
  refine J.sub (L' := [(0, .ref b), (1, .ref (ad' 0)), (2, .ref (ad' 27)), (3, .ref (ad' 48)), (4, .int iv), (5, .int k), (6, .int b2)]) [1, 2, 3, 4, 5, 6, 0] rfl ?_
  refine J.aload_n hX' 17 2 rfl rfl ?_
  refine J.callV1 (As := []) (rest := []) (k := 27) hX' 18 rfl (mX5_thrown ht) okX5_thrown w_142 (hX'.lt (k := 27) (by decide)) sh_27 rfl rfl rfl (Nat.le_of_ble_eq_true rfl) ⟨Nat.le_of_ble_eq_true rfl, Nat.le_of_ble_eq_true rfl⟩ ⟨hf.1, hf.2⟩ ?_
  refine J.iload hX' 19 5 rfl rfl ?_
  have hend : J p l e room_1 s m args below meth c D cA ad' (n + g) A 7 (cells + 5) (slots + 436) Q M2 903 [(0, .ref b), (1, .ref (ad' 0)), (2, .ref (ad' 27)), (3, .ref (ad' 48)), (4, .int iv), (5, .int k), (6, .int b2)] [] := J.goto (tgt := 1110) hX' 34 rfl (by decide) (J.sub (L' := [(0, .ref b), (1, .ref (ad' 0)), (2, .ref (ad' 27)), (3, .ref (ad' 48)), (4, .int iv)]) [0, 1, 2, 3, 4] rfl kk)
  refine J.icmp_eq (tgt := 886) hX' 20 rfl (by decide) (fun _ => ?_) (fun b1 => absurd rfl b1)
  refine J.iload hX' 23 5 rfl rfl ?_
  refine J.if_ne (tgt := 903) hX' 24 rfl (by decide) (fun _ => hend) (fun hk0 => ?_)
  refine J.aload_n hX' 25 3 rfl rfl ?_
  refine J.iconst (v := 0) hX' 26 rfl (by decide) ?_
  refine J.lald hX' 27 48 (hX'.lt (k := 48) (by decide)) sh_48 (inb_vp (by decide)) rfl ?_
  refine J.iload hX' 28 6 rfl rfl ?_
  refine J.i2l hX' 29 rfl ?_
  refine J.lcmp0 hX' 30 (by rw [← ho hk0]; rfl) rfl ?_
  exact J.if_eq (tgt := 903) hX' 31 rfl (by decide) (fun _ => hend) (fun b1 => absurd rfl b1)
def kc_need : List (Nat × Instr × Nat) := [(906, .aload_n 1, 1), (907, .aload_n 0, 1), (908, .iload 4, 2), (910, .iconst 1, 1), (911, .iadd, 1), (912, .iaload, 1), (913, .aload_n 0, 1), (914, .iload 4, 2), (916, .iconst 2, 1), (917, .iadd, 1), (918, .iaload, 1), (919, .aload_n 3, 1), (920, .invokestatic 124, 3), (923, .istore 5, 2), (925, .aload_n 2, 1), (926, .aload_n 0, 1), (927, .iload 4, 2), (929, .iconst 1, 1), (930, .iadd, 1), (931, .iaload, 1), (932, .aload_n 0, 1), (933, .iload 4, 2), (935, .iconst 2, 1), (936, .iadd, 1), (937, .iaload, 1), (938, .invokevirtual 126, 3), (941, .istore 6, 2), (943, .aload_n 2, 1), (944, .invokevirtual 74, 3), (947, .iload 5, 2), (949, .if_icmp .eq 5, 3), (952, .iconst 0, 1), (953, .ireturn, 1), (954, .iload 5, 2), (956, .ifCond .ne 15, 3), (959, .aload_n 3, 1), (960, .iconst 0, 1), (961, .laload, 1), (962, .iload 6, 2), (964, .i2l, 1), (965, .lcmp, 1), (966, .ifCond .eq 5, 3), (969, .iconst 0, 1), (970, .ireturn, 1), (971, .goto 139, 3)]
set_option maxRecDepth 100000 in
theorem kc_need_ok : ∀ (i : Nat) (q : Nat × Instr × Nat), kc_need[i]? = some q → decode code q.1 = .ok q.2 := tbl_ok (by decide +kernel)
set_option maxRecDepth 100000 in
theorem law_need {p : Program} {l : Launch} {e : Env} {s : State} {m : MethodId} {args : Array Value} {below : List Frame} {meth : Method} {c : Code} {D : va_G} {cA : Nat → ClassId} {ad : Nat → Nat} {n : Nat} {A : Nat → Prop} {sa : Nat → Nat} {cells slots : Nat} {Q : State → Prop} {M M1 M2 : Mem} {b Ls : Nat} {xs : Nat → Int32} {iv : Int32} (hX : Cx p s m args meth c D cA ad n A sa code 7 RL kc_need) (hsc : Sc A s b Ls xs) (h1 : vp_in (iv + 1) Ls) (h2 : vp_in (iv + 2) Ls) (hf : cells + 5 ≤ 601024 ∧ slots + 436 ≤ 7293034) {k : Int32} {g : Nat} {b2 : Int32} (hLC : LC l D cA ad n A sa yL_need cL_need 5 hL_need 8 160 [.ref (ad 0), .int (xs (iv + 1).toNatClampNeg), .int (xs (iv + 2).toNatClampNeg), .ref (ad 48)] M k g M1) (h5 : X5_need M1 (xs (iv + 1).toNatClampNeg) (xs (iv + 2).toNatClampNeg) = some (b2, M2)) (ht : X5_thrown M2 = some k) (ho : k = 0 → M2 48 0 = b2) (kk : ∀ ad' : Nat → Nat, (∀ j, j < n → ad' j = ad j) → Dd A ad' (n + g) → J p l e room_1 s m args below meth c D cA ad' (n + g) A 7 (cells + 5) (slots + 436) Q M2 1110 [(0, .ref b), (1, .ref (ad' 0)), (2, .ref (ad' 27)), (3, .ref (ad' 48)), (4, .int iv)] []) : J p l e room_1 s m args below meth c D cA ad n A 7 cells slots Q M 906 [(0, .ref b), (1, .ref (ad 0)), (2, .ref (ad 27)), (3, .ref (ad 48)), (4, .int iv)] [] := by
  refine J.aload_n hX 0 1 rfl rfl ?_
  refine J.aload_n hX 1 0 rfl rfl ?_
  refine J.iload hX 2 4 rfl rfl ?_
  refine J.iconst (v := 1) hX 3 rfl (by decide) ?_
  refine J.iadd hX 4 rfl ?_
  refine J.sld hX hsc 5 h1 rfl ?_
  refine J.aload_n hX 6 0 rfl rfl ?_
  refine J.iload hX 7 4 rfl rfl ?_
  refine J.iconst (v := 2) hX 8 rfl (by decide) ?_
  refine J.iadd hX 9 rfl ?_
  refine J.sld hX hsc 10 h2 rfl ?_
  refine J.aload_n hX 11 3 rfl rfl ?_
  refine J.callL (As := [.ref (ad 0), .int (xs (iv + 1).toNatClampNeg), .int (xs (iv + 2).toNatClampNeg), .ref (ad 48)]) (rest := []) hX 12 rfl hLC okL_need w_500 rfl rfl (Nat.le_of_ble_eq_true rfl) ⟨Nat.le_of_ble_eq_true rfl, Nat.le_of_ble_eq_true rfl⟩ hf (fun ad' ha hd hX' => ?_)
  have hn49 := hX.n49
  have e0 : ad 0 = ad' 0 := (ha 0 (by omega)).symm
  have e27 : ad 27 = ad' 27 := (ha 27 (by omega)).symm
  have e48 : ad 48 = ad' 48 := (ha 48 (by omega)).symm
  rw [e0, e27, e48]
  have kk := kk ad' ha hd
  refine J.istore (L' := [(5, .int k), (0, .ref b), (1, .ref (ad' 0)), (2, .ref (ad' 27)), (3, .ref (ad' 48)), (4, .int iv)]) hX' 13 rfl (by decide) rfl ?_
  refine J.sub (L' := [(0, .ref b), (1, .ref (ad' 0)), (2, .ref (ad' 27)), (3, .ref (ad' 48)), (4, .int iv), (5, .int k)]) [1, 2, 3, 4, 5, 0] rfl ?_
  refine J.aload_n hX' 14 2 rfl rfl ?_
  refine J.aload_n hX' 15 0 rfl rfl ?_
  refine J.iload hX' 16 4 rfl rfl ?_
  refine J.iconst (v := 1) hX' 17 rfl (by decide) ?_
  refine J.iadd hX' 18 rfl ?_
  refine J.sld hX' hsc 19 h1 rfl ?_
  refine J.aload_n hX' 20 0 rfl rfl ?_
  refine J.iload hX' 21 4 rfl rfl ?_
  refine J.iconst (v := 2) hX' 22 rfl (by decide) ?_
  refine J.iadd hX' 23 rfl ?_
  refine J.sld hX' hsc 24 h2 rfl ?_
  refine J.callV1 (As := [.int (xs (iv + 1).toNatClampNeg), .int (xs (iv + 2).toNatClampNeg)]) (rest := []) (k := 27) hX' 25 rfl (mX5_need h5) okX5_need w_617 (hX'.lt (k := 27) (by decide)) sh_27 rfl rfl rfl (Nat.le_of_ble_eq_true rfl) ⟨Nat.le_of_ble_eq_true rfl, Nat.le_of_ble_eq_true rfl⟩ ⟨hf.1, hf.2⟩ ?_
  refine J.istore (L' := [(6, .int b2), (0, .ref b), (1, .ref (ad' 0)), (2, .ref (ad' 27)), (3, .ref (ad' 48)), (4, .int iv), (5, .int k)]) hX' 26 rfl (by decide) rfl ?_
  refine J.sub (L' := [(0, .ref b), (1, .ref (ad' 0)), (2, .ref (ad' 27)), (3, .ref (ad' 48)), (4, .int iv), (5, .int k), (6, .int b2)]) [1, 2, 3, 4, 5, 6, 0] rfl ?_
  refine J.aload_n hX' 27 2 rfl rfl ?_
  refine J.callV1 (As := []) (rest := []) (k := 27) hX' 28 rfl (mX5_thrown ht) okX5_thrown w_142 (hX'.lt (k := 27) (by decide)) sh_27 rfl rfl rfl (Nat.le_of_ble_eq_true rfl) ⟨Nat.le_of_ble_eq_true rfl, Nat.le_of_ble_eq_true rfl⟩ ⟨hf.1, hf.2⟩ ?_
  refine J.iload hX' 29 5 rfl rfl ?_
  have hend : J p l e room_1 s m args below meth c D cA ad' (n + g) A 7 (cells + 5) (slots + 436) Q M2 971 [(0, .ref b), (1, .ref (ad' 0)), (2, .ref (ad' 27)), (3, .ref (ad' 48)), (4, .int iv), (5, .int k), (6, .int b2)] [] := J.goto (tgt := 1110) hX' 44 rfl (by decide) (J.sub (L' := [(0, .ref b), (1, .ref (ad' 0)), (2, .ref (ad' 27)), (3, .ref (ad' 48)), (4, .int iv)]) [0, 1, 2, 3, 4] rfl kk)
  refine J.icmp_eq (tgt := 954) hX' 30 rfl (by decide) (fun _ => ?_) (fun b1 => absurd rfl b1)
  refine J.iload hX' 33 5 rfl rfl ?_
  refine J.if_ne (tgt := 971) hX' 34 rfl (by decide) (fun _ => hend) (fun hk0 => ?_)
  refine J.aload_n hX' 35 3 rfl rfl ?_
  refine J.iconst (v := 0) hX' 36 rfl (by decide) ?_
  refine J.lald hX' 37 48 (hX'.lt (k := 48) (by decide)) sh_48 (inb_vp (by decide)) rfl ?_
  refine J.iload hX' 38 6 rfl rfl ?_
  refine J.i2l hX' 39 rfl ?_
  refine J.lcmp0 hX' 40 (by rw [← ho hk0]; rfl) rfl ?_
  exact J.if_eq (tgt := 971) hX' 41 rfl (by decide) (fun _ => hend) (fun b1 => absurd rfl b1)
def kc_cut : List (Nat × Instr × Nat) := [(974, .aload_n 1, 1), (975, .aload_n 0, 1), (976, .iload 4, 2), (978, .iconst 1, 1), (979, .iadd, 1), (980, .iaload, 1), (981, .aload_n 0, 1), (982, .iload 4, 2), (984, .iconst 2, 1), (985, .iadd, 1), (986, .iaload, 1), (987, .aload_n 0, 1), (988, .iload 4, 2), (990, .iconst 3, 1), (991, .iadd, 1), (992, .iaload, 1), (993, .aload_n 3, 1), (994, .invokestatic 127, 3), (997, .istore 5, 2), (999, .aload_n 2, 1), (1000, .aload_n 0, 1), (1001, .iload 4, 2), (1003, .iconst 1, 1), (1004, .iadd, 1), (1005, .iaload, 1), (1006, .aload_n 0, 1), (1007, .iload 4, 2), (1009, .iconst 2, 1), (1010, .iadd, 1), (1011, .iaload, 1), (1012, .aload_n 0, 1), (1013, .iload 4, 2), (1015, .iconst 3, 1), (1016, .iadd, 1), (1017, .iaload, 1), (1018, .invokevirtual 129, 3), (1021, .istore 6, 2), (1023, .aload_n 2, 1), (1024, .invokevirtual 74, 3), (1027, .iload 5, 2), (1029, .if_icmp .eq 5, 3), (1032, .iconst 0, 1), (1033, .ireturn, 1), (1034, .iload 5, 2), (1036, .ifCond .ne 15, 3), (1039, .aload_n 3, 1), (1040, .iconst 0, 1), (1041, .laload, 1), (1042, .iload 6, 2), (1044, .i2l, 1), (1045, .lcmp, 1), (1046, .ifCond .eq 5, 3), (1049, .iconst 0, 1), (1050, .ireturn, 1), (1051, .goto 59, 3)]
set_option maxRecDepth 100000 in
theorem kc_cut_ok : ∀ (i : Nat) (q : Nat × Instr × Nat), kc_cut[i]? = some q → decode code q.1 = .ok q.2 := tbl_ok (by decide +kernel)
set_option maxRecDepth 100000 in
theorem law_cut {p : Program} {l : Launch} {e : Env} {s : State} {m : MethodId} {args : Array Value} {below : List Frame} {meth : Method} {c : Code} {D : va_G} {cA : Nat → ClassId} {ad : Nat → Nat} {n : Nat} {A : Nat → Prop} {sa : Nat → Nat} {cells slots : Nat} {Q : State → Prop} {M M1 M2 : Mem} {b Ls : Nat} {xs : Nat → Int32} {iv : Int32} (hX : Cx p s m args meth c D cA ad n A sa code 7 RL kc_cut) (hsc : Sc A s b Ls xs) (h1 : vp_in (iv + 1) Ls) (h2 : vp_in (iv + 2) Ls) (h3 : vp_in (iv + 3) Ls) (hf : cells + 5 ≤ 601024 ∧ slots + 436 ≤ 7293034) {k : Int32} {g : Nat} {b2 : Int32} (hLC : LC l D cA ad n A sa yL_cut cL_cut 6 hL_cut 8 161 [.ref (ad 0), .int (xs (iv + 1).toNatClampNeg), .int (xs (iv + 2).toNatClampNeg), .int (xs (iv + 3).toNatClampNeg), .ref (ad 48)] M k g M1) (h5 : X5_cut M1 (xs (iv + 1).toNatClampNeg) (xs (iv + 2).toNatClampNeg) (xs (iv + 3).toNatClampNeg) = some (b2, M2)) (ht : X5_thrown M2 = some k) (ho : k = 0 → M2 48 0 = b2) (kk : ∀ ad' : Nat → Nat, (∀ j, j < n → ad' j = ad j) → Dd A ad' (n + g) → J p l e room_1 s m args below meth c D cA ad' (n + g) A 7 (cells + 5) (slots + 436) Q M2 1110 [(0, .ref b), (1, .ref (ad' 0)), (2, .ref (ad' 27)), (3, .ref (ad' 48)), (4, .int iv)] []) : J p l e room_1 s m args below meth c D cA ad n A 7 cells slots Q M 974 [(0, .ref b), (1, .ref (ad 0)), (2, .ref (ad 27)), (3, .ref (ad 48)), (4, .int iv)] [] := by
  refine J.aload_n hX 0 1 rfl rfl ?_
  refine J.aload_n hX 1 0 rfl rfl ?_
  refine J.iload hX 2 4 rfl rfl ?_
  refine J.iconst (v := 1) hX 3 rfl (by decide) ?_
  refine J.iadd hX 4 rfl ?_
  refine J.sld hX hsc 5 h1 rfl ?_
  refine J.aload_n hX 6 0 rfl rfl ?_
  refine J.iload hX 7 4 rfl rfl ?_
  refine J.iconst (v := 2) hX 8 rfl (by decide) ?_
  refine J.iadd hX 9 rfl ?_
  refine J.sld hX hsc 10 h2 rfl ?_
  refine J.aload_n hX 11 0 rfl rfl ?_
  refine J.iload hX 12 4 rfl rfl ?_
  refine J.iconst (v := 3) hX 13 rfl (by decide) ?_
  refine J.iadd hX 14 rfl ?_
  refine J.sld hX hsc 15 h3 rfl ?_
  refine J.aload_n hX 16 3 rfl rfl ?_
  refine J.callL (As := [.ref (ad 0), .int (xs (iv + 1).toNatClampNeg), .int (xs (iv + 2).toNatClampNeg), .int (xs (iv + 3).toNatClampNeg), .ref (ad 48)]) (rest := []) hX 17 rfl hLC okL_cut w_667 rfl rfl (Nat.le_of_ble_eq_true rfl) ⟨Nat.le_of_ble_eq_true rfl, Nat.le_of_ble_eq_true rfl⟩ hf (fun ad' ha hd hX' => ?_)
  have hn49 := hX.n49
  have e0 : ad 0 = ad' 0 := (ha 0 (by omega)).symm
  have e27 : ad 27 = ad' 27 := (ha 27 (by omega)).symm
  have e48 : ad 48 = ad' 48 := (ha 48 (by omega)).symm
  rw [e0, e27, e48]
  have kk := kk ad' ha hd
  refine J.istore (L' := [(5, .int k), (0, .ref b), (1, .ref (ad' 0)), (2, .ref (ad' 27)), (3, .ref (ad' 48)), (4, .int iv)]) hX' 18 rfl (by decide) rfl ?_
  refine J.sub (L' := [(0, .ref b), (1, .ref (ad' 0)), (2, .ref (ad' 27)), (3, .ref (ad' 48)), (4, .int iv), (5, .int k)]) [1, 2, 3, 4, 5, 0] rfl ?_
  refine J.aload_n hX' 19 2 rfl rfl ?_
  refine J.aload_n hX' 20 0 rfl rfl ?_
  refine J.iload hX' 21 4 rfl rfl ?_
  refine J.iconst (v := 1) hX' 22 rfl (by decide) ?_
  refine J.iadd hX' 23 rfl ?_
  refine J.sld hX' hsc 24 h1 rfl ?_
  refine J.aload_n hX' 25 0 rfl rfl ?_
  refine J.iload hX' 26 4 rfl rfl ?_
  refine J.iconst (v := 2) hX' 27 rfl (by decide) ?_
  refine J.iadd hX' 28 rfl ?_
  refine J.sld hX' hsc 29 h2 rfl ?_
  refine J.aload_n hX' 30 0 rfl rfl ?_
  refine J.iload hX' 31 4 rfl rfl ?_
  refine J.iconst (v := 3) hX' 32 rfl (by decide) ?_
  refine J.iadd hX' 33 rfl ?_
  refine J.sld hX' hsc 34 h3 rfl ?_
  refine J.callV1 (As := [.int (xs (iv + 1).toNatClampNeg), .int (xs (iv + 2).toNatClampNeg), .int (xs (iv + 3).toNatClampNeg)]) (rest := []) (k := 27) hX' 35 rfl (mX5_cut h5) okX5_cut w_678 (hX'.lt (k := 27) (by decide)) sh_27 rfl rfl rfl (Nat.le_of_ble_eq_true rfl) ⟨Nat.le_of_ble_eq_true rfl, Nat.le_of_ble_eq_true rfl⟩ ⟨hf.1, hf.2⟩ ?_
  refine J.istore (L' := [(6, .int b2), (0, .ref b), (1, .ref (ad' 0)), (2, .ref (ad' 27)), (3, .ref (ad' 48)), (4, .int iv), (5, .int k)]) hX' 36 rfl (by decide) rfl ?_
  refine J.sub (L' := [(0, .ref b), (1, .ref (ad' 0)), (2, .ref (ad' 27)), (3, .ref (ad' 48)), (4, .int iv), (5, .int k), (6, .int b2)]) [1, 2, 3, 4, 5, 6, 0] rfl ?_
  refine J.aload_n hX' 37 2 rfl rfl ?_
  refine J.callV1 (As := []) (rest := []) (k := 27) hX' 38 rfl (mX5_thrown ht) okX5_thrown w_142 (hX'.lt (k := 27) (by decide)) sh_27 rfl rfl rfl (Nat.le_of_ble_eq_true rfl) ⟨Nat.le_of_ble_eq_true rfl, Nat.le_of_ble_eq_true rfl⟩ ⟨hf.1, hf.2⟩ ?_
  refine J.iload hX' 39 5 rfl rfl ?_
  have hend : J p l e room_1 s m args below meth c D cA ad' (n + g) A 7 (cells + 5) (slots + 436) Q M2 1051 [(0, .ref b), (1, .ref (ad' 0)), (2, .ref (ad' 27)), (3, .ref (ad' 48)), (4, .int iv), (5, .int k), (6, .int b2)] [] := J.goto (tgt := 1110) hX' 54 rfl (by decide) (J.sub (L' := [(0, .ref b), (1, .ref (ad' 0)), (2, .ref (ad' 27)), (3, .ref (ad' 48)), (4, .int iv)]) [0, 1, 2, 3, 4] rfl kk)
  refine J.icmp_eq (tgt := 1034) hX' 40 rfl (by decide) (fun _ => ?_) (fun b1 => absurd rfl b1)
  refine J.iload hX' 43 5 rfl rfl ?_
  refine J.if_ne (tgt := 1051) hX' 44 rfl (by decide) (fun _ => hend) (fun hk0 => ?_)
  refine J.aload_n hX' 45 3 rfl rfl ?_
  refine J.iconst (v := 0) hX' 46 rfl (by decide) ?_
  refine J.lald hX' 47 48 (hX'.lt (k := 48) (by decide)) sh_48 (inb_vp (by decide)) rfl ?_
  refine J.iload hX' 48 6 rfl rfl ?_
  refine J.i2l hX' 49 rfl ?_
  refine J.lcmp0 hX' 50 (by rw [← ho hk0]; rfl) rfl ?_
  exact J.if_eq (tgt := 1051) hX' 51 rfl (by decide) (fun _ => hend) (fun b1 => absurd rfl b1)
def kc_count : List (Nat × Instr × Nat) := [(1054, .aload_n 1, 1), (1055, .aload_n 0, 1), (1056, .iload 4, 2), (1058, .iconst 1, 1), (1059, .iadd, 1), (1060, .iaload, 1), (1061, .aload_n 3, 1), (1062, .invokestatic 130, 3), (1065, .istore 5, 2), (1067, .aload_n 2, 1), (1068, .aload_n 0, 1), (1069, .iload 4, 2), (1071, .iconst 1, 1), (1072, .iadd, 1), (1073, .iaload, 1), (1074, .invokevirtual 132, 3), (1077, .istore 6, 2), (1079, .aload_n 2, 1), (1080, .invokevirtual 74, 3), (1083, .iload 5, 2), (1085, .if_icmp .eq 5, 3), (1088, .iconst 0, 1), (1089, .ireturn, 1), (1090, .iload 5, 2), (1092, .ifCond .ne 15, 3), (1095, .aload_n 3, 1), (1096, .iconst 0, 1), (1097, .laload, 1), (1098, .iload 6, 2), (1100, .i2l, 1), (1101, .lcmp, 1), (1102, .ifCond .eq 5, 3), (1105, .iconst 0, 1), (1106, .ireturn, 1), (1107, .goto 3, 3)]
set_option maxRecDepth 100000 in
theorem kc_count_ok : ∀ (i : Nat) (q : Nat × Instr × Nat), kc_count[i]? = some q → decode code q.1 = .ok q.2 := tbl_ok (by decide +kernel)
set_option maxRecDepth 100000 in
theorem law_count {p : Program} {l : Launch} {e : Env} {s : State} {m : MethodId} {args : Array Value} {below : List Frame} {meth : Method} {c : Code} {D : va_G} {cA : Nat → ClassId} {ad : Nat → Nat} {n : Nat} {A : Nat → Prop} {sa : Nat → Nat} {cells slots : Nat} {Q : State → Prop} {M M1 M2 : Mem} {b Ls : Nat} {xs : Nat → Int32} {iv : Int32} (hX : Cx p s m args meth c D cA ad n A sa code 7 RL kc_count) (hsc : Sc A s b Ls xs) (h1 : vp_in (iv + 1) Ls) (hf : cells + 5 ≤ 601024 ∧ slots + 436 ≤ 7293034) {k : Int32} {g : Nat} {b2 : Int32} (hLC : LC l D cA ad n A sa yL_count cL_count 4 hL_count 8 123 [.ref (ad 0), .int (xs (iv + 1).toNatClampNeg), .ref (ad 48)] M k g M1) (h5 : X5_count M1 (xs (iv + 1).toNatClampNeg) = some (b2, M2)) (ht : X5_thrown M2 = some k) (ho : k = 0 → M2 48 0 = b2) (kk : ∀ ad' : Nat → Nat, (∀ j, j < n → ad' j = ad j) → Dd A ad' (n + g) → J p l e room_1 s m args below meth c D cA ad' (n + g) A 7 (cells + 5) (slots + 436) Q M2 1110 [(0, .ref b), (1, .ref (ad' 0)), (2, .ref (ad' 27)), (3, .ref (ad' 48)), (4, .int iv)] []) : J p l e room_1 s m args below meth c D cA ad n A 7 cells slots Q M 1054 [(0, .ref b), (1, .ref (ad 0)), (2, .ref (ad 27)), (3, .ref (ad 48)), (4, .int iv)] [] := by
  refine J.aload_n hX 0 1 rfl rfl ?_
  refine J.aload_n hX 1 0 rfl rfl ?_
  refine J.iload hX 2 4 rfl rfl ?_
  refine J.iconst (v := 1) hX 3 rfl (by decide) ?_
  refine J.iadd hX 4 rfl ?_
  refine J.sld hX hsc 5 h1 rfl ?_
  refine J.aload_n hX 6 3 rfl rfl ?_
  refine J.callL (As := [.ref (ad 0), .int (xs (iv + 1).toNatClampNeg), .ref (ad 48)]) (rest := []) hX 7 rfl hLC okL_count w_682 rfl rfl (Nat.le_of_ble_eq_true rfl) ⟨Nat.le_of_ble_eq_true rfl, Nat.le_of_ble_eq_true rfl⟩ hf (fun ad' ha hd hX' => ?_)
  have hn49 := hX.n49
  have e0 : ad 0 = ad' 0 := (ha 0 (by omega)).symm
  have e27 : ad 27 = ad' 27 := (ha 27 (by omega)).symm
  have e48 : ad 48 = ad' 48 := (ha 48 (by omega)).symm
  rw [e0, e27, e48]
  have kk := kk ad' ha hd
  refine J.istore (L' := [(5, .int k), (0, .ref b), (1, .ref (ad' 0)), (2, .ref (ad' 27)), (3, .ref (ad' 48)), (4, .int iv)]) hX' 8 rfl (by decide) rfl ?_
  refine J.sub (L' := [(0, .ref b), (1, .ref (ad' 0)), (2, .ref (ad' 27)), (3, .ref (ad' 48)), (4, .int iv), (5, .int k)]) [1, 2, 3, 4, 5, 0] rfl ?_
  refine J.aload_n hX' 9 2 rfl rfl ?_
  refine J.aload_n hX' 10 0 rfl rfl ?_
  refine J.iload hX' 11 4 rfl rfl ?_
  refine J.iconst (v := 1) hX' 12 rfl (by decide) ?_
  refine J.iadd hX' 13 rfl ?_
  refine J.sld hX' hsc 14 h1 rfl ?_
  refine J.callV1 (As := [.int (xs (iv + 1).toNatClampNeg)]) (rest := []) (k := 27) hX' 15 rfl (mX5_count h5) okX5_count w_696 (hX'.lt (k := 27) (by decide)) sh_27 rfl rfl rfl (Nat.le_of_ble_eq_true rfl) ⟨Nat.le_of_ble_eq_true rfl, Nat.le_of_ble_eq_true rfl⟩ ⟨hf.1, hf.2⟩ ?_
  refine J.istore (L' := [(6, .int b2), (0, .ref b), (1, .ref (ad' 0)), (2, .ref (ad' 27)), (3, .ref (ad' 48)), (4, .int iv), (5, .int k)]) hX' 16 rfl (by decide) rfl ?_
  refine J.sub (L' := [(0, .ref b), (1, .ref (ad' 0)), (2, .ref (ad' 27)), (3, .ref (ad' 48)), (4, .int iv), (5, .int k), (6, .int b2)]) [1, 2, 3, 4, 5, 6, 0] rfl ?_
  refine J.aload_n hX' 17 2 rfl rfl ?_
  refine J.callV1 (As := []) (rest := []) (k := 27) hX' 18 rfl (mX5_thrown ht) okX5_thrown w_142 (hX'.lt (k := 27) (by decide)) sh_27 rfl rfl rfl (Nat.le_of_ble_eq_true rfl) ⟨Nat.le_of_ble_eq_true rfl, Nat.le_of_ble_eq_true rfl⟩ ⟨hf.1, hf.2⟩ ?_
  refine J.iload hX' 19 5 rfl rfl ?_
  have hend : J p l e room_1 s m args below meth c D cA ad' (n + g) A 7 (cells + 5) (slots + 436) Q M2 1107 [(0, .ref b), (1, .ref (ad' 0)), (2, .ref (ad' 27)), (3, .ref (ad' 48)), (4, .int iv), (5, .int k), (6, .int b2)] [] := J.goto (tgt := 1110) hX' 34 rfl (by decide) (J.sub (L' := [(0, .ref b), (1, .ref (ad' 0)), (2, .ref (ad' 27)), (3, .ref (ad' 48)), (4, .int iv)]) [0, 1, 2, 3, 4] rfl kk)
  refine J.icmp_eq (tgt := 1090) hX' 20 rfl (by decide) (fun _ => ?_) (fun b1 => absurd rfl b1)
  refine J.iload hX' 23 5 rfl rfl ?_
  refine J.if_ne (tgt := 1107) hX' 24 rfl (by decide) (fun _ => hend) (fun hk0 => ?_)
  refine J.aload_n hX' 25 3 rfl rfl ?_
  refine J.iconst (v := 0) hX' 26 rfl (by decide) ?_
  refine J.lald hX' 27 48 (hX'.lt (k := 48) (by decide)) sh_48 (inb_vp (by decide)) rfl ?_
  refine J.iload hX' 28 6 rfl rfl ?_
  refine J.i2l hX' 29 rfl ?_
  refine J.lcmp0 hX' 30 (by rw [← ho hk0]; rfl) rfl ?_
  exact J.if_eq (tgt := 1107) hX' 31 rfl (by decide) (fun _ => hend) (fun b1 => absurd rfl b1)
def LR_corner (n : Nat) (M : Mem) (a1 : Int32) (a2 : Int32) (a3 : Int32) (a4 : Int32) (k : Int32) (g : Nat) (M1 : Mem) : Prop := (∃ (v : Int32) (Mf : Mem), X4_corner M a1 a2 a3 a4 = some (.inl v, Mf) ∧ k = 0 ∧ g = 0 ∧ M1 = Mf) ∨ (∃ Mf : Mem, X4_corner M a1 a2 a3 a4 = some (.inr "java/util/NoSuchElementException", Mf) ∧ k = 1 ∧ g = 0 ∧ M1 = Mf) ∨ (∃ Mf : Mem, X4_corner M a1 a2 a3 a4 = some (.inr "java/lang/IllegalArgumentException", Mf) ∧ k = 2 ∧ g = 0 ∧ M1 = Mf)
theorem LR_corner.lc {l : Launch} {D : va_G} {cA : Nat → ClassId} {ad : Nat → Nat} {n : Nat} {A : Nat → Prop} {sa : Nat → Nat} {M M1 : Mem} {a1 : Int32} {a2 : Int32} {a3 : Int32} {a4 : Int32} {k : Int32} {g : Nat} (hl : l.stackTraces = false) (h : LR_corner n M a1 a2 a3 a4 k g M1) : LC l D cA ad n A sa yL_corner cL_corner 6 hL_corner 8 126 [.ref (ad 0), .int a1, .int a2, .int a3, .int a4] M k g M1 := by
  unfold LR_corner at h
  rcases h with ⟨v, Mf, h, rfl, rfl, rfl⟩ | ⟨Mf, h, rfl, rfl, rfl⟩ | ⟨Mf, h, rfl, rfl, rfl⟩
  · exact mL_corner_r hl h
  · exact mL_corner_1 hl h
  · exact mL_corner_2 hl h
def LR_close (n : Nat) (M : Mem) (a1 : Int32) (a2 : Int32) (a3 : Int32) (k : Int32) (g : Nat) (M1 : Mem) : Prop := (∃ (v : Int32) (Mf : Mem), X4_close M a1 a2 a3 = some (.inl v, Mf) ∧ k = 0 ∧ g = 0 ∧ M1 = wr Mf 48 0 v) ∨ (∃ Mf : Mem, X4_close M a1 a2 a3 = some (.inr "java/util/NoSuchElementException", Mf) ∧ k = 1 ∧ g = 0 ∧ M1 = Mf) ∨ (∃ Mf : Mem, X4_close M a1 a2 a3 = some (.inr "java/lang/IllegalArgumentException", Mf) ∧ k = 2 ∧ g = 0 ∧ M1 = Mf)
theorem LR_close.lc {l : Launch} {D : va_G} {cA : Nat → ClassId} {ad : Nat → Nat} {n : Nat} {A : Nat → Prop} {sa : Nat → Nat} {M M1 : Mem} {a1 : Int32} {a2 : Int32} {a3 : Int32} {k : Int32} {g : Nat} (hl : l.stackTraces = false) (h : LR_close n M a1 a2 a3 k g M1) : LC l D cA ad n A sa yL_close cL_close 6 hL_close 8 125 [.ref (ad 0), .int a1, .int a2, .int a3, .ref (ad 48)] M k g M1 := by
  unfold LR_close at h
  rcases h with ⟨v, Mf, h, rfl, rfl, rfl⟩ | ⟨Mf, h, rfl, rfl, rfl⟩ | ⟨Mf, h, rfl, rfl, rfl⟩
  · exact mL_close_r hl h
  · exact mL_close_1 hl h
  · exact mL_close_2 hl h
def LR_open (n : Nat) (M : Mem) (a1 : Int32) (k : Int32) (g : Nat) (M1 : Mem) : Prop := (∃ (v : Int32) (Mf : Mem), X4_open M a1 = some (.inl v, Mf) ∧ k = 0 ∧ g = 0 ∧ M1 = wr Mf 48 0 (if v = 0 then 0 else 1)) ∨ (∃ Mf : Mem, X4_open M a1 = some (.inr "java/util/NoSuchElementException", Mf) ∧ k = 1 ∧ g = 0 ∧ M1 = Mf)
theorem LR_open.lc {l : Launch} {D : va_G} {cA : Nat → ClassId} {ad : Nat → Nat} {n : Nat} {A : Nat → Prop} {sa : Nat → Nat} {M M1 : Mem} {a1 : Int32} {k : Int32} {g : Nat} (hl : l.stackTraces = false) (h : LR_open n M a1 k g M1) : LC l D cA ad n A sa yL_open cL_open 4 hL_open 8 124 [.ref (ad 0), .int a1, .ref (ad 48)] M k g M1 := by
  unfold LR_open at h
  rcases h with ⟨v, Mf, h, rfl, rfl, rfl⟩ | ⟨Mf, h, rfl, rfl, rfl⟩
  · exact mL_open_r hl h
  · exact mL_open_1 hl h
def LR_clash (n : Nat) (M : Mem) (a1 : Int32) (k : Int32) (g : Nat) (M1 : Mem) : Prop := (∃ (v : Int32) (Mf : Mem), X4_clash M a1 = some (.inl v, Mf) ∧ k = 0 ∧ g = 0 ∧ M1 = wr Mf 48 0 v) ∨ (∃ Mf : Mem, X4_clash M a1 = some (.inr "java/util/NoSuchElementException", Mf) ∧ k = 1 ∧ g = 0 ∧ M1 = Mf)
theorem LR_clash.lc {l : Launch} {D : va_G} {cA : Nat → ClassId} {ad : Nat → Nat} {n : Nat} {A : Nat → Prop} {sa : Nat → Nat} {M M1 : Mem} {a1 : Int32} {k : Int32} {g : Nat} (hl : l.stackTraces = false) (h : LR_clash n M a1 k g M1) : LC l D cA ad n A sa yL_clash cL_clash 4 hL_clash 8 141 [.ref (ad 0), .int a1, .ref (ad 48)] M k g M1 := by
  unfold LR_clash at h
  rcases h with ⟨v, Mf, h, rfl, rfl, rfl⟩ | ⟨Mf, h, rfl, rfl, rfl⟩
  · exact mL_clash_r hl h
  · exact mL_clash_1 hl h
def LR_seam (n : Nat) (M : Mem) (a1 : Int32) (a2 : Int32) (k : Int32) (g : Nat) (M1 : Mem) : Prop := (∃ (v : Int32) (Mf : Mem), X4_seam M a1 a2 = some (.inl v, Mf) ∧ k = 0 ∧ g = 0 ∧ M1 = wr Mf 48 0 v) ∨ (∃ Mf : Mem, X4_seam M a1 a2 = some (.inr "java/util/NoSuchElementException", Mf) ∧ k = 1 ∧ g = 0 ∧ M1 = Mf) ∨ (∃ Mf : Mem, X4_seam M a1 a2 = some (.inr "java/lang/IllegalArgumentException", Mf) ∧ k = 2 ∧ g = 0 ∧ M1 = Mf)
theorem LR_seam.lc {l : Launch} {D : va_G} {cA : Nat → ClassId} {ad : Nat → Nat} {n : Nat} {A : Nat → Prop} {sa : Nat → Nat} {M M1 : Mem} {a1 : Int32} {a2 : Int32} {k : Int32} {g : Nat} (hl : l.stackTraces = false) (h : LR_seam n M a1 a2 k g M1) : LC l D cA ad n A sa yL_seam cL_seam 5 hL_seam 8 124 [.ref (ad 0), .int a1, .int a2, .ref (ad 48)] M k g M1 := by
  unfold LR_seam at h
  rcases h with ⟨v, Mf, h, rfl, rfl, rfl⟩ | ⟨Mf, h, rfl, rfl, rfl⟩ | ⟨Mf, h, rfl, rfl, rfl⟩
  · exact mL_seam_r hl h
  · exact mL_seam_1 hl h
  · exact mL_seam_2 hl h
def LR_keep (n : Nat) (M : Mem)  (k : Int32) (g : Nat) (M1 : Mem) : Prop := (∃ (v : Int32) (Mc Mf : Mem), NOk n ∧ K11 n M ∧ ¬ (10 : Int32) ≤ M 10 1 ∧ X1_state M 1 = some 0 ∧ X1_copied_tail (M0 n M) 1 n = some Mc ∧ X3_addBlock Mc n = some (v, Mf) ∧ k = 0 ∧ g = 5 ∧ M1 = wr Mf 48 0 v) ∨ (∃ z : Int32, ((10 : Int32) ≤ M 10 1 ∨ (¬ (10 : Int32) ≤ M 10 1 ∧ X1_state M 1 = some z ∧ ¬ z = 0)) ∧ k = 1 ∧ g = 0 ∧ M1 = M)
theorem LR_keep.lc {l : Launch} {D : va_G} {cA : Nat → ClassId} {ad : Nat → Nat} {n : Nat} {A : Nat → Prop} {sa : Nat → Nat} {M M1 : Mem}  {k : Int32} {g : Nat} (hl : l.stackTraces = false) (h : LR_keep n M  k g M1) : LC l D cA ad n A sa yL_keep cL_keep 3 hL_keep 7 161 [.ref (ad 0), .ref (ad 48)] M k g M1 := by
  unfold LR_keep at h
  rcases h with ⟨v, Mc, Mf, q1, q2, q3, q4, q5, q6, rfl, rfl, rfl⟩ | ⟨z, h, rfl, rfl, rfl⟩
  · exact mL_keep_r q1 q2 q3 q4 q5 q6
  · exact mL_keep_1 (Mf := fun _ _ => 0) hl h
def LR_place (n : Nat) (M : Mem) (a1 : Int32) (a2 : Int32) (a3 : Int32) (a4 : Int32) (k : Int32) (g : Nat) (M1 : Mem) : Prop := (∃ (v : Int32) (Mf : Mem), X4_place M a1 a2 a3 a4 = some (.inl v, Mf) ∧ k = 0 ∧ g = 0 ∧ M1 = wr Mf 48 0 v) ∨ (∃ Mf : Mem, X4_place M a1 a2 a3 a4 = some (.inr "java/util/NoSuchElementException", Mf) ∧ k = 1 ∧ g = 0 ∧ M1 = Mf) ∨ (∃ Mf : Mem, X4_place M a1 a2 a3 a4 = some (.inr "java/lang/IllegalArgumentException", Mf) ∧ k = 2 ∧ g = 0 ∧ M1 = Mf)
theorem LR_place.lc {l : Launch} {D : va_G} {cA : Nat → ClassId} {ad : Nat → Nat} {n : Nat} {A : Nat → Prop} {sa : Nat → Nat} {M M1 : Mem} {a1 : Int32} {a2 : Int32} {a3 : Int32} {a4 : Int32} {k : Int32} {g : Nat} (hl : l.stackTraces = false) (h : LR_place n M a1 a2 a3 a4 k g M1) : LC l D cA ad n A sa yL_place cL_place 7 hL_place 8 128 [.ref (ad 0), .int a1, .int a2, .int a3, .int a4, .ref (ad 48)] M k g M1 := by
  unfold LR_place at h
  rcases h with ⟨v, Mf, h, rfl, rfl, rfl⟩ | ⟨Mf, h, rfl, rfl, rfl⟩ | ⟨Mf, h, rfl, rfl, rfl⟩
  · exact mL_place_r hl h
  · exact mL_place_1 hl h
  · exact mL_place_2 hl h
def LR_frame (n : Nat) (M : Mem) (a1 : Int32) (a2 : Int32) (a3 : Int32) (k : Int32) (g : Nat) (M1 : Mem) : Prop := (∃ (v : Int32) (Mf : Mem), X4_frame M a1 a2 a3 = some (.inl v, Mf) ∧ k = 0 ∧ g = 0 ∧ M1 = wr Mf 48 0 v) ∨ (∃ Mf : Mem, X4_frame M a1 a2 a3 = some (.inr "java/util/NoSuchElementException", Mf) ∧ k = 1 ∧ g = 0 ∧ M1 = Mf) ∨ (∃ Mf : Mem, X4_frame M a1 a2 a3 = some (.inr "java/lang/IllegalArgumentException", Mf) ∧ k = 2 ∧ g = 0 ∧ M1 = Mf)
theorem LR_frame.lc {l : Launch} {D : va_G} {cA : Nat → ClassId} {ad : Nat → Nat} {n : Nat} {A : Nat → Prop} {sa : Nat → Nat} {M M1 : Mem} {a1 : Int32} {a2 : Int32} {a3 : Int32} {k : Int32} {g : Nat} (hl : l.stackTraces = false) (h : LR_frame n M a1 a2 a3 k g M1) : LC l D cA ad n A sa yL_frame cL_frame 6 hL_frame 8 126 [.ref (ad 0), .int a1, .int a2, .int a3, .ref (ad 48)] M k g M1 := by
  unfold LR_frame at h
  rcases h with ⟨v, Mf, h, rfl, rfl, rfl⟩ | ⟨Mf, h, rfl, rfl, rfl⟩ | ⟨Mf, h, rfl, rfl, rfl⟩
  · exact mL_frame_r hl h
  · exact mL_frame_1 hl h
  · exact mL_frame_2 hl h
def LR_mismatch (n : Nat) (M : Mem) (a1 : Int32) (a2 : Int32) (k : Int32) (g : Nat) (M1 : Mem) : Prop := (∃ (v : Int32) (Mf : Mem), X4_mismatch n M a1 a2 = some (.inl v, Mf) ∧ k = 0 ∧ g = 0 ∧ M1 = wr Mf 48 0 v) ∨ (∃ Mf : Mem, X4_mismatch n M a1 a2 = some (.inr "java/util/NoSuchElementException", Mf) ∧ k = 1 ∧ g = 0 ∧ M1 = Mf)
theorem LR_mismatch.lc {l : Launch} {D : va_G} {cA : Nat → ClassId} {ad : Nat → Nat} {n : Nat} {A : Nat → Prop} {sa : Nat → Nat} {M M1 : Mem} {a1 : Int32} {a2 : Int32} {k : Int32} {g : Nat} (hl : l.stackTraces = false) (h : LR_mismatch n M a1 a2 k g M1) : LC l D cA ad n A sa yL_mismatch cL_mismatch 5 hL_mismatch 8 124 [.ref (ad 0), .int a1, .int a2, .ref (ad 48)] M k g M1 := by
  unfold LR_mismatch at h
  rcases h with ⟨v, Mf, h, rfl, rfl, rfl⟩ | ⟨Mf, h, rfl, rfl, rfl⟩
  · exact mL_mismatch_r hl h
  · exact mL_mismatch_1 hl h
def LR_swap (n : Nat) (M : Mem) (a1 : Int32) (a2 : Int32) (k : Int32) (g : Nat) (M1 : Mem) : Prop := (∃ (v : Int32) (Mf : Mem), X4_swap n M a1 a2 = some (.inl v, Mf) ∧ k = 0 ∧ g = 0 ∧ M1 = wr Mf 48 0 v) ∨ (∃ Mf : Mem, X4_swap n M a1 a2 = some (.inr "java/util/NoSuchElementException", Mf) ∧ k = 1 ∧ g = 0 ∧ M1 = Mf)
theorem LR_swap.lc {l : Launch} {D : va_G} {cA : Nat → ClassId} {ad : Nat → Nat} {n : Nat} {A : Nat → Prop} {sa : Nat → Nat} {M M1 : Mem} {a1 : Int32} {a2 : Int32} {k : Int32} {g : Nat} (hl : l.stackTraces = false) (h : LR_swap n M a1 a2 k g M1) : LC l D cA ad n A sa yL_swap cL_swap 5 hL_swap 8 124 [.ref (ad 0), .int a1, .int a2, .ref (ad 48)] M k g M1 := by
  unfold LR_swap at h
  rcases h with ⟨v, Mf, h, rfl, rfl, rfl⟩ | ⟨Mf, h, rfl, rfl, rfl⟩
  · exact mL_swap_r hl h
  · exact mL_swap_1 hl h
def LR_area (n : Nat) (M : Mem) (a1 : Int32) (k : Int32) (g : Nat) (M1 : Mem) : Prop := (∃ (v : Int32) (Mf : Mem), X4_area n M a1 = some (.inl v, Mf) ∧ k = 0 ∧ g = 0 ∧ M1 = wr Mf 48 0 v) ∨ (∃ Mf : Mem, X4_area n M a1 = some (.inr "java/util/NoSuchElementException", Mf) ∧ k = 1 ∧ g = 0 ∧ M1 = Mf)
theorem LR_area.lc {l : Launch} {D : va_G} {cA : Nat → ClassId} {ad : Nat → Nat} {n : Nat} {A : Nat → Prop} {sa : Nat → Nat} {M M1 : Mem} {a1 : Int32} {k : Int32} {g : Nat} (hl : l.stackTraces = false) (h : LR_area n M a1 k g M1) : LC l D cA ad n A sa yL_area cL_area 4 hL_area 8 123 [.ref (ad 0), .int a1, .ref (ad 48)] M k g M1 := by
  unfold LR_area at h
  rcases h with ⟨v, Mf, h, rfl, rfl, rfl⟩ | ⟨Mf, h, rfl, rfl, rfl⟩
  · exact mL_area_r hl h
  · exact mL_area_1 hl h
def LR_need (n : Nat) (M : Mem) (a1 : Int32) (a2 : Int32) (k : Int32) (g : Nat) (M1 : Mem) : Prop := (∃ (v : Int32) (Mf : Mem), X4_need n M a1 a2 = some (.inl v, Mf) ∧ k = 0 ∧ g = 0 ∧ M1 = wr Mf 48 0 v) ∨ (∃ Mf : Mem, X4_need n M a1 a2 = some (.inr "java/util/NoSuchElementException", Mf) ∧ k = 1 ∧ g = 0 ∧ M1 = Mf) ∨ (∃ Mf : Mem, X4_need n M a1 a2 = some (.inr "java/lang/IllegalArgumentException", Mf) ∧ k = 2 ∧ g = 0 ∧ M1 = Mf)
theorem LR_need.lc {l : Launch} {D : va_G} {cA : Nat → ClassId} {ad : Nat → Nat} {n : Nat} {A : Nat → Prop} {sa : Nat → Nat} {M M1 : Mem} {a1 : Int32} {a2 : Int32} {k : Int32} {g : Nat} (hl : l.stackTraces = false) (h : LR_need n M a1 a2 k g M1) : LC l D cA ad n A sa yL_need cL_need 5 hL_need 8 160 [.ref (ad 0), .int a1, .int a2, .ref (ad 48)] M k g M1 := by
  unfold LR_need at h
  rcases h with ⟨v, Mf, h, rfl, rfl, rfl⟩ | ⟨Mf, h, rfl, rfl, rfl⟩ | ⟨Mf, h, rfl, rfl, rfl⟩
  · exact mL_need_r hl h
  · exact mL_need_1 hl h
  · exact mL_need_2 hl h
def LR_cut (n : Nat) (M : Mem) (a1 : Int32) (a2 : Int32) (a3 : Int32) (k : Int32) (g : Nat) (M1 : Mem) : Prop := (∃ (v : Int32) (Mf : Mem), X4_cut n M a1 a2 a3 = some (.inl v, Mf) ∧ k = 0 ∧ g = 0 ∧ M1 = wr Mf 48 0 v) ∨ (∃ Mf : Mem, X4_cut n M a1 a2 a3 = some (.inr "java/util/NoSuchElementException", Mf) ∧ k = 1 ∧ g = 0 ∧ M1 = Mf) ∨ (∃ Mf : Mem, X4_cut n M a1 a2 a3 = some (.inr "java/lang/IllegalArgumentException", Mf) ∧ k = 2 ∧ g = 0 ∧ M1 = Mf)
theorem LR_cut.lc {l : Launch} {D : va_G} {cA : Nat → ClassId} {ad : Nat → Nat} {n : Nat} {A : Nat → Prop} {sa : Nat → Nat} {M M1 : Mem} {a1 : Int32} {a2 : Int32} {a3 : Int32} {k : Int32} {g : Nat} (hl : l.stackTraces = false) (h : LR_cut n M a1 a2 a3 k g M1) : LC l D cA ad n A sa yL_cut cL_cut 6 hL_cut 8 161 [.ref (ad 0), .int a1, .int a2, .int a3, .ref (ad 48)] M k g M1 := by
  unfold LR_cut at h
  rcases h with ⟨v, Mf, h, rfl, rfl, rfl⟩ | ⟨Mf, h, rfl, rfl, rfl⟩ | ⟨Mf, h, rfl, rfl, rfl⟩
  · exact mL_cut_r hl h
  · exact mL_cut_1 hl h
  · exact mL_cut_2 hl h
def LR_count (n : Nat) (M : Mem) (a1 : Int32) (k : Int32) (g : Nat) (M1 : Mem) : Prop := (∃ (v : Int32) (Mf : Mem), X4_count M a1 = some (.inl v, Mf) ∧ k = 0 ∧ g = 0 ∧ M1 = wr Mf 48 0 v) ∨ (∃ Mf : Mem, X4_count M a1 = some (.inr "java/lang/IllegalArgumentException", Mf) ∧ k = 1 ∧ g = 0 ∧ M1 = Mf)
theorem LR_count.lc {l : Launch} {D : va_G} {cA : Nat → ClassId} {ad : Nat → Nat} {n : Nat} {A : Nat → Prop} {sa : Nat → Nat} {M M1 : Mem} {a1 : Int32} {k : Int32} {g : Nat} (hl : l.stackTraces = false) (h : LR_count n M a1 k g M1) : LC l D cA ad n A sa yL_count cL_count 4 hL_count 8 123 [.ref (ad 0), .int a1, .ref (ad 48)] M k g M1 := by
  unfold LR_count at h
  rcases h with ⟨v, Mf, h, rfl, rfl, rfl⟩ | ⟨Mf, h, rfl, rfl, rfl⟩
  · exact mL_count_r hl h
  · exact mL_count_1 hl h
/-- the call c of the script, with its numbers: the class and the model answer alike, and the memory M (of n cells) goes on to M2 (of n + g) -/
def St (c : Nat) (n : Nat) (M : Mem) (a1 a2 a3 a4 : Int32) (g : Nat) (M2 : Mem) : Prop := match c with
  | 0 => ∃ (k : Int32) (M1 : Mem), LR_corner n M a1 a2 a3 a4 k g M1 ∧ X5_corner M1 a1 a2 a3 a4 = some M2 ∧ M2 27 0 = k
  | 1 => ∃ (k : Int32) (M1 : Mem) (b : Int32), LR_close n M a1 a2 a3 k g M1 ∧ X5_close M1 a1 a2 a3 = some (b, M2) ∧ M2 27 0 = k ∧ (k = 0 → M2 48 0 = b)
  | 2 => ∃ (k : Int32) (M1 : Mem) (b : Int32), LR_open n M a1 k g M1 ∧ X5_open M1 a1 = some (b, M2) ∧ M2 27 0 = k ∧ (k = 0 → M2 48 0 = (if b = 0 then 0 else 1))
  | 3 => ∃ (b : Int32) (M1 : Mem), X4_clear M = some (b, M1) ∧ X5_clear M1 = some (b, M2) ∧ g = 0
  | 4 => ∃ (b : Int32), X4_check M = some b ∧ X5_check M = some (b, M2) ∧ g = 0
  | 5 => ∃ (k : Int32) (M1 : Mem) (b : Int32), LR_clash n M a1 k g M1 ∧ X5_clash M1 a1 = some (b, M2) ∧ M2 27 0 = k ∧ (k = 0 → M2 48 0 = b)
  | 6 => ∃ (b : Int32) (M1 : Mem), X4_piece M = some (b, M1) ∧ X5_piece M1 = some (b, M2) ∧ g = 0
  | 7 => ∃ (k : Int32) (M1 : Mem) (b : Int32), LR_seam n M a1 a2 k g M1 ∧ X5_seam M1 a1 a2 = some (b, M2) ∧ M2 27 0 = k ∧ (k = 0 → M2 48 0 = b)
  | 8 => ∃ (k : Int32) (M1 : Mem) (b : Int32), LR_keep n M  k g M1 ∧ X5_keep M1  = some (b, M2) ∧ M2 27 0 = k ∧ (k = 0 → M2 48 0 = b)
  | 9 => ∃ (k : Int32) (M1 : Mem) (b : Int32), LR_place n M a1 a2 a3 a4 k g M1 ∧ X5_place M1 a1 a2 a3 a4 = some (b, M2) ∧ M2 27 0 = k ∧ (k = 0 → M2 48 0 = b)
  | 10 => ∃ (k : Int32) (M1 : Mem) (b : Int32), LR_frame n M a1 a2 a3 k g M1 ∧ X5_frame M1 a1 a2 a3 = some (b, M2) ∧ M2 27 0 = k ∧ (k = 0 → M2 48 0 = b)
  | 11 => ∃ (k : Int32) (M1 : Mem) (b : Int32), LR_mismatch n M a1 a2 k g M1 ∧ X5_mismatch M1 a1 a2 = some (b, M2) ∧ M2 27 0 = k ∧ (k = 0 → M2 48 0 = b)
  | 12 => ∃ (k : Int32) (M1 : Mem) (b : Int32), LR_swap n M a1 a2 k g M1 ∧ X5_swap M1 a1 a2 = some (b, M2) ∧ M2 27 0 = k ∧ (k = 0 → M2 48 0 = b)
  | 13 => ∃ (k : Int32) (M1 : Mem) (b : Int32), LR_area n M a1 k g M1 ∧ X5_area M1 a1 = some (b, M2) ∧ M2 27 0 = k ∧ (k = 0 → M2 48 0 = b)
  | 14 => ∃ (k : Int32) (M1 : Mem) (b : Int32), LR_need n M a1 a2 k g M1 ∧ X5_need M1 a1 a2 = some (b, M2) ∧ M2 27 0 = k ∧ (k = 0 → M2 48 0 = b)
  | 15 => ∃ (k : Int32) (M1 : Mem) (b : Int32), LR_cut n M a1 a2 a3 k g M1 ∧ X5_cut M1 a1 a2 a3 = some (b, M2) ∧ M2 27 0 = k ∧ (k = 0 → M2 48 0 = b)
  | 16 => ∃ (k : Int32) (M1 : Mem) (b : Int32), LR_count n M a1 k g M1 ∧ X5_count M1 a1 = some (b, M2) ∧ M2 27 0 = k ∧ (k = 0 → M2 48 0 = b)
  | _ => g = 0 ∧ M2 = M
