/-! THE LAW's OWN METHODS: each calls one method of the class, notes its answer in out[0], and answers 0, or 1 or 2 where that one throws. -/
def LQ (D : va_G) (cA : Nat → ClassId) (ad : Nat → Nat) (n : Nat) (A : Nat → Prop) (k : Int32) (g : Nat) (M1 : Mem) : Array Value → State → Outcome → State → Prop := fun _ st o t => ∃ ad', (∀ j, j < n → ad' j = ad j) ∧ Dd A ad' (n + g) ∧ o = .returned (some (.int k)) ∧ va_P D cls6 (Wd cA ad' (n + g) M1) t.heap ∧ va_F A st t
abbrev rmL (fr lo : Nat) : Room := { frames := fr, cells := 5, slots := 436, locals := lo }
def LC (l : Launch) (D : va_G) (cA : Nat → ClassId) (ad : Nat → Nat) (n : Nat) (A : Nat → Prop) (sa : Nat → Nat) (y : MethodName) (cc : ByteArray) (maxL : Nat) (hh : List (Nat × Nat × Nat × Nat)) (fr lo : Nat) (av : List Value) (M : Mem) (k : Int32) (g : Nat) (M1 : Mem) : Prop :=
  vx_Met l y (Cond.codeWith y cc maxL (some .int) hh :: wsL_law) (rmL fr lo) (va_Pc av (PP D cA ad n A sa M)) (LQ D cA ad n A k g M1) (fun _ _ _ => False) 5 436 A
section LR
variable {p : Program} {l : Launch} {e : Env} {R : Room} {s : State} {m : MethodId} {args : Array Value} {below : List Frame} {meth : Method} {c : Code} {D : va_G} {cA : Nat → ClassId} {ad : Nat → Nat} {n : Nat} {A : Nat → Prop} {sa : Nat → Nat} {nL cells slots : Nat} {Q : State → Prop} {cc : ByteArray} {own : String} {kt : List (Nat × Instr × Nat)} {M M1 : Mem} {pc : Nat} {L : List (Nat × Value)} {st : List Value}
theorem J.widen {k2 n2 : Nat} (h1 : cells ≤ k2) (h2 : slots ≤ n2) (kk : J p l e R s m args below meth c D cA ad n A nL k2 n2 Q M pc L st) : J p l e R s m args below meth c D cA ad n A nL cells slots Q M pc L st := fun H locs ls hP hS hL T hT X => kk H locs ls hP hS hL T hT (stand_widen X h1 h2)
theorem J.lret {ad0 : Nat → Nat} {n0 g : Nat} {k : Int32} (hX : Cx p s m args meth c D cA ad n A sa cc nL own kt) (hr : meth.sig.returnType = some .int) (i : Nat) (hk : kt[i]? = some (pc, .ireturn, 1)) (ha : ∀ j, j < n0 → ad j = ad0 j) (hn : n = n0 + g) (h1 : cells ≤ 5) (h2 : slots ≤ 436) :
    J p l e R s m args below meth c D cA ad n A nL cells slots (vx_MQ below (LQ D cA ad0 n0 A k g M) (fun _ _ _ => False) args s 5 436 A) M pc L [.int k] := J.widen h1 h2 (fun H locs ls hP hS hL =>
  vx_ret (W.iret hX.ex hX.by hr (fun t ht hW => ⟨ad, ha, by rw [← hn]; exact hX.dd, rfl, by rw [ht, ← hn]; exact hP, hS.F ht⟩) hS.2.2 (hX.dec hk) hX.lk))
theorem J.lconst (hX : Cx p s m args meth c D cA ad n A sa cc nL own kt) (i : Nat) {k : Fin 2} {v : Int32} (hk : kt[i]? = some (pc, .lconst k, 1)) (hv : Int64.ofNat (k : Nat) = v.toInt64) (kk : J p l e R s m args below meth c D cA ad n A nL cells slots Q M (pc + 1) L (.long v.toInt64 :: st)) : J p l e R s m args below meth c D cA ad n A nL cells slots Q M pc L st := fun H locs ls hP hS hL => lv_lconst hX.ex hX.by (hX.dec hk) hv (kk H locs ls hP hS hL)
theorem J.take1 {y : MethodName} {C : String} {bytes : ByteArray} {maxL nP fr lo ix k : Nat} {ret : Option FieldType} {As rest : List Value} {E nm : String} {x : ExceptionTableEntry} {t : List ExceptionTableEntry} (hX : Cx p s m args meth c D cA ad n A sa cc nL own kt) (ht : c.exceptionTable.toList = x :: t) (i : Nat) (hk : kt[i]? = some (pc, .invokevirtual ix, 3))
    (hc : CT l D cA ad n A sa y bytes maxL ret fr lo (.ref (ad k) :: As) M (.inr E) M1) (hy : OKV C y bytes maxL ret nP) (hm : Cond.methodLink own ix y ∈ wsL_law) {ci : Nat} {fs : List (Option Nat)} {T : u_T} {N : Nat} (hkn : k < n) (hs : sh0 k = .inr (ci, fs)) (hcl : cls6[ci]? = some (C, T, N)) (hn : As.length = nP) (hst : st = As.reverse ++ .ref (ad k) :: rest) (hw : (rest.map fun v => v.category).sum ≤ 8) (hR : fr + 1 ≤ R.frames ∧ 8 + (maxL + 11) + lo ≤ R.locals) (hf : cells + 1 ≤ R.cells ∧ slots + 6 ≤ R.slots)
    (hx : covers x pc = true) (h0 : x.catchType ≠ 0) (hl : Cond.classLink own x.catchType nm ∈ wsL_law) (hcs : Cond.castable E nm ∈ nwL)
    (kk : ∀ q9 : Nat, J p l e R s m args below meth c D cA ad n A nL (cells + 1) (slots + 6) Q M1 x.handlerPc L [.ref q9]) : J p l e R s m args below meth c D cA ad n A nL cells slots Q M pc L st := fun H locs ls hP hS hL =>
  run_thr (runV hX hP hS hL i hk hc hy hm hkn hs hcl hn hst hw hR hf) hS (fun H1 locs1 q9 ce hP1 hS1 hq hv hce => vx_take1 hX.ow ht hx h0 (hX.ws _ hl) (va_Nw.use (nwL_tab _ hcs) (hX.ks.2.2.2.2.2.1 _ hcs)) hq hv hce (kk q9 H1 locs1 ls hP1 hS1 hL))
theorem J.take2 {y : MethodName} {C : String} {bytes : ByteArray} {maxL nP fr lo ix k : Nat} {ret : Option FieldType} {As rest : List Value} {x x2 : ExceptionTableEntry} {t : List ExceptionTableEntry} (hX : Cx p s m args meth c D cA ad n A sa cc nL own kt) (ht : c.exceptionTable.toList = x2 :: x :: t) (i : Nat) (hk : kt[i]? = some (pc, .invokevirtual ix, 3))
    (hc : CT l D cA ad n A sa y bytes maxL ret fr lo (.ref (ad k) :: As) M (.inr "java/lang/IllegalArgumentException") M1) (hy : OKV C y bytes maxL ret nP) (hm : Cond.methodLink own ix y ∈ wsL_law) {ci : Nat} {fs : List (Option Nat)} {T : u_T} {N : Nat} (hkn : k < n) (hs : sh0 k = .inr (ci, fs)) (hcl : cls6[ci]? = some (C, T, N)) (hn : As.length = nP) (hst : st = As.reverse ++ .ref (ad k) :: rest) (hw : (rest.map fun v => v.category).sum ≤ 8) (hR : fr + 1 ≤ R.frames ∧ 8 + (maxL + 11) + lo ≤ R.locals) (hf : cells + 1 ≤ R.cells ∧ slots + 6 ≤ R.slots)
    (hx2 : covers x2 pc = true) (h02 : x2.catchType ≠ 0) (hl2 : Cond.classLink own x2.catchType "java/util/NoSuchElementException" ∈ wsL_law) (hx : covers x pc = true) (h0 : x.catchType ≠ 0) (hl : Cond.classLink own x.catchType "java/lang/IllegalArgumentException" ∈ wsL_law)
    (kk : ∀ q9 : Nat, J p l e R s m args below meth c D cA ad n A nL (cells + 1) (slots + 6) Q M1 x.handlerPc L [.ref q9]) : J p l e R s m args below meth c D cA ad n A nL cells slots Q M pc L st := fun H locs ls hP hS hL =>
  run_thr (runV hX hP hS hL i hk hc hy hm hkn hs hcl hn hst hw hR hf) hS (fun H1 locs1 q9 ce hP1 hS1 hq hv hce => vx_take2 hX.ow ht hx2 h02 hx h0 (hX.ws _ hl2) hX.ks.2.2.2.2.2.2 (hX.ws _ hl) (va_Nw.use rfl (hX.ks.2.2.2.2.2.1 (.castable "java/lang/IllegalArgumentException" "java/lang/IllegalArgumentException") (by simp [nwL]))) hq hv hce (kk q9 H1 locs1 ls hP1 hS1 hL))
theorem LC.of {y : MethodName} {maxL : Nat} {hh : List (Nat × Nat × Nat × Nat)} {fr lo : Nat} {av : List Value} {k : Int32} {g : Nat} (hy : plainName y.cls = true) (hkt : ∀ (i : Nat) (q : Nat × Instr × Nat), kt[i]? = some q → decode cc q.1 = .ok q.2) (hlen : (lg_sl av).length ≤ maxL)
    (body : ∀ (p : Program) (e : Env) (s : State) (m : MethodId) (args : Array Value) (below : List Frame) (meth : Method) (c : Code), Cx p s m args meth c D cA ad n A sa cc maxL y.cls kt → meth.sig.returnType = some .int → c.exceptionTable.toList = tableOf hh →
      J p l e (rmL fr lo) s m args below meth c D cA ad n A maxL 0 0 (vx_MQ below (LQ D cA ad n A k g M1) (fun _ _ _ => False) args s 5 436 A) M 0 (lv_args 0 av) []) :
    LC l D cA ad n A sa y cc maxL hh fr lo av M k g M1 := by
  unfold LC
  refine vx_ofWH (cc := cc) (maxL := maxL) (ret := some .int) (hh := hh) hy rfl ?_
  intro p e s m args below meth c s₁ B hml hv
  obtain ⟨rfl, hP, hK, hD, hA, hn, hks⟩ := hv
  have hts := atoms_spec (ws := Cond.codeWith y cc maxL (some .int) hh :: wsL_law) B.pre
  have hown : s.vm.findClass y.cls = some m.cls := findClass_of_methodNamed B.named
  have htb : c.exceptionTable.toList = tableOf hh := vx_table (x := y) B (hts _ List.mem_cons_self)
  have hl := lv_entry av hlen
  rw [lg_entry_eq]
  exact body p e s m av.toArray below meth c ⟨B.exec, B.bytes, hml, hown, fun w hw => hts w (List.mem_cons_of_mem _ hw), hK, hD, hA, hn, hks, B.notSynchronized, hkt⟩ B.returns htb s.heap [] _ hP va_S.rf hl
/-- what a call of a method of the law asks of the words -/
def OKW (y : MethodName) (bytes : ByteArray) (maxL : Nat) (hh : List (Nat × Nat × Nat × Nat)) (k : Nat) : Prop := Cond.static y ∈ wsL_law ∧ Cond.initialized y.cls ∈ wsL_law ∧ Cond.codeWith y bytes maxL (some .int) hh ∈ wsL_law ∧ y.cls ≠ "java/lang/invoke/MethodHandle" ∧ y.cls ≠ "java/lang/invoke/VarHandle" ∧ (parseMethodDescriptor y.desc).map (fun d => d.parameters.length) = some k
end LR
def kL_corner : List (Nat × Instr × Nat) := [(0, .aload_n 0, 1), (1, .iload_n 1, 1), (2, .iload_n 2, 1), (3, .iload_n 3, 1), (4, .iload 4, 2), (6, .invokevirtual 7, 3), (9, .goto 11, 3), (12, .astore 5, 2), (14, .iconst 1, 1), (15, .ireturn, 1), (16, .astore 5, 2), (18, .iconst 2, 1), (19, .ireturn, 1), (20, .iconst 0, 1), (21, .ireturn, 1)]
set_option maxRecDepth 100000 in
theorem kL_corner_ok : ∀ (i : Nat) (q : Nat × Instr × Nat), kL_corner[i]? = some q → decode cL_corner q.1 = .ok q.2 := tbl_ok (by decide +kernel)
abbrev hL_corner : List (Nat × Nat × Nat × Nat) := [(0, 9, 12, 13), (0, 9, 16, 15)]
theorem okL_corner : OKW yL_corner cL_corner 6 hL_corner 5 := ⟨w_97, w_98, w_99, by decide +kernel, by decide +kernel, by decide +kernel⟩
set_option maxRecDepth 100000 in
theorem mL_corner_r {l : Launch} {D : va_G} {cA : Nat → ClassId} {ad : Nat → Nat} {n : Nat} {A : Nat → Prop} {sa : Nat → Nat} {M Mf : Mem} {l1 : Int32} {l2 : Int32} {l3 : Int32} {l4 : Int32} {v : Int32} (hl : l.stackTraces = false) (h : X4_corner M l1 l2 l3 l4 = some (.inl v, Mf)) : LC l D cA ad n A sa yL_corner cL_corner 6 hL_corner 8 126 [.ref (ad 0), .int l1, .int l2, .int l3, .int l4] M 0 0 Mf := by
  refine LC.of (kt := kL_corner) (by decide) kL_corner_ok (Nat.le_of_ble_eq_true rfl) ?_
  intro p e s m args below meth c hX hr ht
  refine J.sub (L' := [(0, .ref (ad 0)), (1, .int l1), (2, .int l2), (3, .int l3), (4, .int l4)]) [0, 1, 2, 3, 4] rfl ?_
  refine J.aload_n hX 0 0 rfl rfl ?_
  refine J.iload_n hX 1 1 rfl rfl ?_
  refine J.iload_n hX 2 2 rfl rfl ?_
  refine J.iload_n hX 3 3 rfl rfl ?_
  refine J.iload hX 4 4 rfl rfl ?_
  refine J.callV0 (As := [.int l1, .int l2, .int l3, .int l4]) (rest := []) (k := 0) hX 5 rfl (mX4_corner (res := .inl v) hl h) okX4_corner w_102 (hX.lt (k := 0) (by decide)) sh_0 rfl rfl rfl (Nat.le_of_ble_eq_true rfl) ⟨Nat.le_of_ble_eq_true rfl, Nat.le_of_ble_eq_true rfl⟩ ⟨Nat.le_of_ble_eq_true rfl, Nat.le_of_ble_eq_true rfl⟩ ?_
  refine J.goto (tgt := 20) hX 6 rfl (by decide) ?_
  refine J.iconst (v := 0) hX 13 rfl (by decide) ?_
  exact J.lret hX hr 14 rfl (fun _ _ => rfl) rfl (by decide) (by decide)
set_option maxRecDepth 100000 in
theorem mL_corner_1 {l : Launch} {D : va_G} {cA : Nat → ClassId} {ad : Nat → Nat} {n : Nat} {A : Nat → Prop} {sa : Nat → Nat} {M Mf : Mem} {l1 : Int32} {l2 : Int32} {l3 : Int32} {l4 : Int32} (hl : l.stackTraces = false) (h : X4_corner M l1 l2 l3 l4 = some (.inr "java/util/NoSuchElementException", Mf)) : LC l D cA ad n A sa yL_corner cL_corner 6 hL_corner 8 126 [.ref (ad 0), .int l1, .int l2, .int l3, .int l4] M 1 0 Mf := by
  refine LC.of (kt := kL_corner) (by decide) kL_corner_ok (Nat.le_of_ble_eq_true rfl) ?_
  intro p e s m args below meth c hX hr ht
  refine J.sub (L' := [(0, .ref (ad 0)), (1, .int l1), (2, .int l2), (3, .int l3), (4, .int l4)]) [0, 1, 2, 3, 4] rfl ?_
  refine J.aload_n hX 0 0 rfl rfl ?_
  refine J.iload_n hX 1 1 rfl rfl ?_
  refine J.iload_n hX 2 2 rfl rfl ?_
  refine J.iload_n hX 3 3 rfl rfl ?_
  refine J.iload hX 4 4 rfl rfl ?_
  refine J.take1 (E := "java/util/NoSuchElementException") (nm := "java/util/NoSuchElementException") (As := [.int l1, .int l2, .int l3, .int l4]) (rest := []) (k := 0) hX ht 5 rfl (mX4_corner (res := .inr "java/util/NoSuchElementException") hl h) okX4_corner w_102 (hX.lt (k := 0) (by decide)) sh_0 rfl rfl rfl (Nat.le_of_ble_eq_true rfl) ⟨Nat.le_of_ble_eq_true rfl, Nat.le_of_ble_eq_true rfl⟩ ⟨Nat.le_of_ble_eq_true rfl, Nat.le_of_ble_eq_true rfl⟩ (by decide) (by decide) w_100 (by simp [nwL]) (fun q9 => ?_)
  refine J.astore hX 7 rfl (by decide) rfl ?_
  refine J.iconst (v := 1) hX 8 rfl (by decide) ?_
  exact J.lret hX hr 9 rfl (fun _ _ => rfl) rfl (by decide) (by decide)
set_option maxRecDepth 100000 in
theorem mL_corner_2 {l : Launch} {D : va_G} {cA : Nat → ClassId} {ad : Nat → Nat} {n : Nat} {A : Nat → Prop} {sa : Nat → Nat} {M Mf : Mem} {l1 : Int32} {l2 : Int32} {l3 : Int32} {l4 : Int32} (hl : l.stackTraces = false) (h : X4_corner M l1 l2 l3 l4 = some (.inr "java/lang/IllegalArgumentException", Mf)) : LC l D cA ad n A sa yL_corner cL_corner 6 hL_corner 8 126 [.ref (ad 0), .int l1, .int l2, .int l3, .int l4] M 2 0 Mf := by
  refine LC.of (kt := kL_corner) (by decide) kL_corner_ok (Nat.le_of_ble_eq_true rfl) ?_
  intro p e s m args below meth c hX hr ht
  refine J.sub (L' := [(0, .ref (ad 0)), (1, .int l1), (2, .int l2), (3, .int l3), (4, .int l4)]) [0, 1, 2, 3, 4] rfl ?_
  refine J.aload_n hX 0 0 rfl rfl ?_
  refine J.iload_n hX 1 1 rfl rfl ?_
  refine J.iload_n hX 2 2 rfl rfl ?_
  refine J.iload_n hX 3 3 rfl rfl ?_
  refine J.iload hX 4 4 rfl rfl ?_
  refine J.take2 (As := [.int l1, .int l2, .int l3, .int l4]) (rest := []) (k := 0) hX ht 5 rfl (mX4_corner (res := .inr "java/lang/IllegalArgumentException") hl h) okX4_corner w_102 (hX.lt (k := 0) (by decide)) sh_0 rfl rfl rfl (Nat.le_of_ble_eq_true rfl) ⟨Nat.le_of_ble_eq_true rfl, Nat.le_of_ble_eq_true rfl⟩ ⟨Nat.le_of_ble_eq_true rfl, Nat.le_of_ble_eq_true rfl⟩ (by decide) (by decide) w_100 (by decide) (by decide) w_101 (fun q9 => ?_)
  refine J.astore hX 10 rfl (by decide) rfl ?_
  refine J.iconst (v := 2) hX 11 rfl (by decide) ?_
  exact J.lret hX hr 12 rfl (fun _ _ => rfl) rfl (by decide) (by decide)
def kL_close : List (Nat × Instr × Nat) := [(0, .aload 4, 2), (2, .iconst 0, 1), (3, .aload_n 0, 1), (4, .iload_n 1, 1), (5, .iload_n 2, 1), (6, .iload_n 3, 1), (7, .invokevirtual 17, 3), (10, .i2l, 1), (11, .lastore, 1), (12, .goto 11, 3), (15, .astore 5, 2), (17, .iconst 1, 1), (18, .ireturn, 1), (19, .astore 5, 2), (21, .iconst 2, 1), (22, .ireturn, 1), (23, .iconst 0, 1), (24, .ireturn, 1)]
set_option maxRecDepth 100000 in
theorem kL_close_ok : ∀ (i : Nat) (q : Nat × Instr × Nat), kL_close[i]? = some q → decode cL_close q.1 = .ok q.2 := tbl_ok (by decide +kernel)
abbrev hL_close : List (Nat × Nat × Nat × Nat) := [(0, 12, 15, 13), (0, 12, 19, 15)]
theorem okL_close : OKW yL_close cL_close 6 hL_close 5 := ⟨w_147, w_98, w_148, by decide +kernel, by decide +kernel, by decide +kernel⟩
set_option maxRecDepth 100000 in
theorem mL_close_r {l : Launch} {D : va_G} {cA : Nat → ClassId} {ad : Nat → Nat} {n : Nat} {A : Nat → Prop} {sa : Nat → Nat} {M Mf : Mem} {l1 : Int32} {l2 : Int32} {l3 : Int32} {v : Int32} (hl : l.stackTraces = false) (h : X4_close M l1 l2 l3 = some (.inl v, Mf)) : LC l D cA ad n A sa yL_close cL_close 6 hL_close 8 125 [.ref (ad 0), .int l1, .int l2, .int l3, .ref (ad 48)] M 0 0 (wr Mf 48 0 v) := by
  refine LC.of (kt := kL_close) (by decide) kL_close_ok (Nat.le_of_ble_eq_true rfl) ?_
  intro p e s m args below meth c hX hr ht
  refine J.sub (L' := [(0, .ref (ad 0)), (1, .int l1), (2, .int l2), (3, .int l3), (4, .ref (ad 48))]) [0, 1, 2, 3, 4] rfl ?_
  refine J.aload hX 0 4 rfl rfl ?_
  refine J.iconst (v := 0) hX 1 rfl (by decide) ?_
  refine J.aload_n hX 2 0 rfl rfl ?_
  refine J.iload_n hX 3 1 rfl rfl ?_
  refine J.iload_n hX 4 2 rfl rfl ?_
  refine J.iload_n hX 5 3 rfl rfl ?_
  refine J.callV1 (As := [.int l1, .int l2, .int l3]) (rest := [.int 0, .ref (ad 48)]) (k := 0) hX 6 rfl (mX4_close (res := .inl v) hl h) okX4_close w_149 (hX.lt (k := 0) (by decide)) sh_0 rfl rfl rfl (Nat.le_of_ble_eq_true rfl) ⟨Nat.le_of_ble_eq_true rfl, Nat.le_of_ble_eq_true rfl⟩ ⟨Nat.le_of_ble_eq_true rfl, Nat.le_of_ble_eq_true rfl⟩ ?_
  refine J.i2l hX 7 rfl ?_
  refine J.last hX 8 48 (hX.lt (k := 48) (by decide)) sh_48 (inb_vp (by decide)) rfl ?_
  refine J.goto (tgt := 23) hX 9 rfl (by decide) ?_
  refine J.iconst (v := 0) hX 16 rfl (by decide) ?_
  exact J.lret hX hr 17 rfl (fun _ _ => rfl) rfl (by decide) (by decide)
set_option maxRecDepth 100000 in
theorem mL_close_1 {l : Launch} {D : va_G} {cA : Nat → ClassId} {ad : Nat → Nat} {n : Nat} {A : Nat → Prop} {sa : Nat → Nat} {M Mf : Mem} {l1 : Int32} {l2 : Int32} {l3 : Int32} (hl : l.stackTraces = false) (h : X4_close M l1 l2 l3 = some (.inr "java/util/NoSuchElementException", Mf)) : LC l D cA ad n A sa yL_close cL_close 6 hL_close 8 125 [.ref (ad 0), .int l1, .int l2, .int l3, .ref (ad 48)] M 1 0 Mf := by
  refine LC.of (kt := kL_close) (by decide) kL_close_ok (Nat.le_of_ble_eq_true rfl) ?_
  intro p e s m args below meth c hX hr ht
  refine J.sub (L' := [(0, .ref (ad 0)), (1, .int l1), (2, .int l2), (3, .int l3), (4, .ref (ad 48))]) [0, 1, 2, 3, 4] rfl ?_
  refine J.aload hX 0 4 rfl rfl ?_
  refine J.iconst (v := 0) hX 1 rfl (by decide) ?_
  refine J.aload_n hX 2 0 rfl rfl ?_
  refine J.iload_n hX 3 1 rfl rfl ?_
  refine J.iload_n hX 4 2 rfl rfl ?_
  refine J.iload_n hX 5 3 rfl rfl ?_
  refine J.take1 (E := "java/util/NoSuchElementException") (nm := "java/util/NoSuchElementException") (As := [.int l1, .int l2, .int l3]) (rest := [.int 0, .ref (ad 48)]) (k := 0) hX ht 6 rfl (mX4_close (res := .inr "java/util/NoSuchElementException") hl h) okX4_close w_149 (hX.lt (k := 0) (by decide)) sh_0 rfl rfl rfl (Nat.le_of_ble_eq_true rfl) ⟨Nat.le_of_ble_eq_true rfl, Nat.le_of_ble_eq_true rfl⟩ ⟨Nat.le_of_ble_eq_true rfl, Nat.le_of_ble_eq_true rfl⟩ (by decide) (by decide) w_100 (by simp [nwL]) (fun q9 => ?_)
  refine J.astore hX 10 rfl (by decide) rfl ?_
  refine J.iconst (v := 1) hX 11 rfl (by decide) ?_
  exact J.lret hX hr 12 rfl (fun _ _ => rfl) rfl (by decide) (by decide)
set_option maxRecDepth 100000 in
theorem mL_close_2 {l : Launch} {D : va_G} {cA : Nat → ClassId} {ad : Nat → Nat} {n : Nat} {A : Nat → Prop} {sa : Nat → Nat} {M Mf : Mem} {l1 : Int32} {l2 : Int32} {l3 : Int32} (hl : l.stackTraces = false) (h : X4_close M l1 l2 l3 = some (.inr "java/lang/IllegalArgumentException", Mf)) : LC l D cA ad n A sa yL_close cL_close 6 hL_close 8 125 [.ref (ad 0), .int l1, .int l2, .int l3, .ref (ad 48)] M 2 0 Mf := by
  refine LC.of (kt := kL_close) (by decide) kL_close_ok (Nat.le_of_ble_eq_true rfl) ?_
  intro p e s m args below meth c hX hr ht
  refine J.sub (L' := [(0, .ref (ad 0)), (1, .int l1), (2, .int l2), (3, .int l3), (4, .ref (ad 48))]) [0, 1, 2, 3, 4] rfl ?_
  refine J.aload hX 0 4 rfl rfl ?_
  refine J.iconst (v := 0) hX 1 rfl (by decide) ?_
  refine J.aload_n hX 2 0 rfl rfl ?_
  refine J.iload_n hX 3 1 rfl rfl ?_
  refine J.iload_n hX 4 2 rfl rfl ?_
  refine J.iload_n hX 5 3 rfl rfl ?_
  refine J.take2 (As := [.int l1, .int l2, .int l3]) (rest := [.int 0, .ref (ad 48)]) (k := 0) hX ht 6 rfl (mX4_close (res := .inr "java/lang/IllegalArgumentException") hl h) okX4_close w_149 (hX.lt (k := 0) (by decide)) sh_0 rfl rfl rfl (Nat.le_of_ble_eq_true rfl) ⟨Nat.le_of_ble_eq_true rfl, Nat.le_of_ble_eq_true rfl⟩ ⟨Nat.le_of_ble_eq_true rfl, Nat.le_of_ble_eq_true rfl⟩ (by decide) (by decide) w_100 (by decide) (by decide) w_101 (fun q9 => ?_)
  refine J.astore hX 13 rfl (by decide) rfl ?_
  refine J.iconst (v := 2) hX 14 rfl (by decide) ?_
  exact J.lret hX hr 15 rfl (fun _ _ => rfl) rfl (by decide) (by decide)
def kL_open : List (Nat × Instr × Nat) := [(0, .aload_n 2, 1), (1, .iconst 0, 1), (2, .aload_n 0, 1), (3, .iload_n 1, 1), (4, .invokevirtual 21, 3), (7, .ifCond .eq 7, 3), (10, .lconst 1, 1), (11, .goto 4, 3), (14, .lconst 0, 1), (15, .lastore, 1), (16, .goto 6, 3), (19, .astore_n 3, 1), (20, .iconst 1, 1), (21, .ireturn, 1), (22, .iconst 0, 1), (23, .ireturn, 1)]
set_option maxRecDepth 100000 in
theorem kL_open_ok : ∀ (i : Nat) (q : Nat × Instr × Nat), kL_open[i]? = some q → decode cL_open q.1 = .ok q.2 := tbl_ok (by decide +kernel)
abbrev hL_open : List (Nat × Nat × Nat × Nat) := [(0, 16, 19, 13)]
theorem okL_open : OKW yL_open cL_open 4 hL_open 3 := ⟨w_197, w_98, w_198, by decide +kernel, by decide +kernel, by decide +kernel⟩
set_option maxRecDepth 100000 in
theorem mL_open_r {l : Launch} {D : va_G} {cA : Nat → ClassId} {ad : Nat → Nat} {n : Nat} {A : Nat → Prop} {sa : Nat → Nat} {M Mf : Mem} {l1 : Int32} {v : Int32} (hl : l.stackTraces = false) (h : X4_open M l1 = some (.inl v, Mf)) : LC l D cA ad n A sa yL_open cL_open 4 hL_open 8 124 [.ref (ad 0), .int l1, .ref (ad 48)] M 0 0 (wr Mf 48 0 (if v = 0 then 0 else 1)) := by
  refine LC.of (kt := kL_open) (by decide) kL_open_ok (Nat.le_of_ble_eq_true rfl) ?_
  intro p e s m args below meth c hX hr ht
  refine J.sub (L' := [(0, .ref (ad 0)), (1, .int l1), (2, .ref (ad 48))]) [0, 1, 2] rfl ?_
  refine J.aload_n hX 0 2 rfl rfl ?_
  refine J.iconst (v := 0) hX 1 rfl (by decide) ?_
  refine J.aload_n hX 2 0 rfl rfl ?_
  refine J.iload_n hX 3 1 rfl rfl ?_
  refine J.callV1 (As := [.int l1]) (rest := [.int 0, .ref (ad 48)]) (k := 0) hX 4 rfl (mX4_open (res := .inl v) hl h) okX4_open w_199 (hX.lt (k := 0) (by decide)) sh_0 rfl rfl rfl (Nat.le_of_ble_eq_true rfl) ⟨Nat.le_of_ble_eq_true rfl, Nat.le_of_ble_eq_true rfl⟩ ⟨Nat.le_of_ble_eq_true rfl, Nat.le_of_ble_eq_true rfl⟩ ?_
  have hfin : ∀ w : Int32, J p l e (rmL 8 124) s m args below meth c D cA ad n A 4 0 0 (vx_MQ below (LQ D cA ad n A 0 0 (wr Mf 48 0 w)) (fun _ _ _ => False) args s 5 436 A) Mf 15 [(0, .ref (ad 0)), (1, .int l1), (2, .ref (ad 48))] [.long w.toInt64, .int 0, .ref (ad 48)] := fun w => by
    refine J.last hX 9 48 (hX.lt (k := 48) (by decide)) sh_48 (inb_vp (by decide)) rfl ?_
    refine J.goto (tgt := 22) hX 10 rfl (by decide) ?_
    refine J.iconst (v := 0) hX 14 rfl (by decide) ?_
    exact J.lret hX hr 15 rfl (fun _ _ => rfl) rfl (by decide) (by decide)
  refine J.if_eq (tgt := 14) hX 5 rfl (by decide) (fun b1 => ?_) (fun b1 => ?_)
  · rw [if_pos b1]
    refine J.lconst (v := 0) hX 8 rfl (by decide) ?_
    exact hfin 0
  · rw [if_neg b1]
    refine J.lconst (v := 1) hX 6 rfl (by decide) ?_
    refine J.goto (tgt := 15) hX 7 rfl (by decide) ?_
    exact hfin 1
set_option maxRecDepth 100000 in
theorem mL_open_1 {l : Launch} {D : va_G} {cA : Nat → ClassId} {ad : Nat → Nat} {n : Nat} {A : Nat → Prop} {sa : Nat → Nat} {M Mf : Mem} {l1 : Int32} (hl : l.stackTraces = false) (h : X4_open M l1 = some (.inr "java/util/NoSuchElementException", Mf)) : LC l D cA ad n A sa yL_open cL_open 4 hL_open 8 124 [.ref (ad 0), .int l1, .ref (ad 48)] M 1 0 Mf := by
  refine LC.of (kt := kL_open) (by decide) kL_open_ok (Nat.le_of_ble_eq_true rfl) ?_
  intro p e s m args below meth c hX hr ht
  refine J.sub (L' := [(0, .ref (ad 0)), (1, .int l1), (2, .ref (ad 48))]) [0, 1, 2] rfl ?_
  refine J.aload_n hX 0 2 rfl rfl ?_
  refine J.iconst (v := 0) hX 1 rfl (by decide) ?_
  refine J.aload_n hX 2 0 rfl rfl ?_
  refine J.iload_n hX 3 1 rfl rfl ?_
  refine J.take1 (E := "java/util/NoSuchElementException") (nm := "java/util/NoSuchElementException") (As := [.int l1]) (rest := [.int 0, .ref (ad 48)]) (k := 0) hX ht 4 rfl (mX4_open (res := .inr "java/util/NoSuchElementException") hl h) okX4_open w_199 (hX.lt (k := 0) (by decide)) sh_0 rfl rfl rfl (Nat.le_of_ble_eq_true rfl) ⟨Nat.le_of_ble_eq_true rfl, Nat.le_of_ble_eq_true rfl⟩ ⟨Nat.le_of_ble_eq_true rfl, Nat.le_of_ble_eq_true rfl⟩ (by decide) (by decide) w_100 (by simp [nwL]) (fun q9 => ?_)
  refine J.astore_n hX 11 rfl (by decide) rfl ?_
  refine J.iconst (v := 1) hX 12 rfl (by decide) ?_
  exact J.lret hX hr 13 rfl (fun _ _ => rfl) rfl (by decide) (by decide)
def kL_clash : List (Nat × Instr × Nat) := [(0, .aload_n 2, 1), (1, .iconst 0, 1), (2, .aload_n 0, 1), (3, .iload_n 1, 1), (4, .invokevirtual 25, 3), (7, .i2l, 1), (8, .lastore, 1), (9, .goto 6, 3), (12, .astore_n 3, 1), (13, .iconst 1, 1), (14, .ireturn, 1), (15, .iconst 0, 1), (16, .ireturn, 1)]
set_option maxRecDepth 100000 in
theorem kL_clash_ok : ∀ (i : Nat) (q : Nat × Instr × Nat), kL_clash[i]? = some q → decode cL_clash q.1 = .ok q.2 := tbl_ok (by decide +kernel)
abbrev hL_clash : List (Nat × Nat × Nat × Nat) := [(0, 9, 12, 13)]
theorem okL_clash : OKW yL_clash cL_clash 4 hL_clash 3 := ⟨w_285, w_98, w_286, by decide +kernel, by decide +kernel, by decide +kernel⟩
set_option maxRecDepth 100000 in
theorem mL_clash_r {l : Launch} {D : va_G} {cA : Nat → ClassId} {ad : Nat → Nat} {n : Nat} {A : Nat → Prop} {sa : Nat → Nat} {M Mf : Mem} {l1 : Int32} {v : Int32} (hl : l.stackTraces = false) (h : X4_clash M l1 = some (.inl v, Mf)) : LC l D cA ad n A sa yL_clash cL_clash 4 hL_clash 8 141 [.ref (ad 0), .int l1, .ref (ad 48)] M 0 0 (wr Mf 48 0 v) := by
  refine LC.of (kt := kL_clash) (by decide) kL_clash_ok (Nat.le_of_ble_eq_true rfl) ?_
  intro p e s m args below meth c hX hr ht
  refine J.sub (L' := [(0, .ref (ad 0)), (1, .int l1), (2, .ref (ad 48))]) [0, 1, 2] rfl ?_
  refine J.aload_n hX 0 2 rfl rfl ?_
  refine J.iconst (v := 0) hX 1 rfl (by decide) ?_
  refine J.aload_n hX 2 0 rfl rfl ?_
  refine J.iload_n hX 3 1 rfl rfl ?_
  refine J.callV1 (As := [.int l1]) (rest := [.int 0, .ref (ad 48)]) (k := 0) hX 4 rfl (mX4_clash (res := .inl v) hl h) okX4_clash w_287 (hX.lt (k := 0) (by decide)) sh_0 rfl rfl rfl (Nat.le_of_ble_eq_true rfl) ⟨Nat.le_of_ble_eq_true rfl, Nat.le_of_ble_eq_true rfl⟩ ⟨Nat.le_of_ble_eq_true rfl, Nat.le_of_ble_eq_true rfl⟩ ?_
  refine J.i2l hX 5 rfl ?_
  refine J.last hX 6 48 (hX.lt (k := 48) (by decide)) sh_48 (inb_vp (by decide)) rfl ?_
  refine J.goto (tgt := 15) hX 7 rfl (by decide) ?_
  refine J.iconst (v := 0) hX 11 rfl (by decide) ?_
  exact J.lret hX hr 12 rfl (fun _ _ => rfl) rfl (by decide) (by decide)
set_option maxRecDepth 100000 in
theorem mL_clash_1 {l : Launch} {D : va_G} {cA : Nat → ClassId} {ad : Nat → Nat} {n : Nat} {A : Nat → Prop} {sa : Nat → Nat} {M Mf : Mem} {l1 : Int32} (hl : l.stackTraces = false) (h : X4_clash M l1 = some (.inr "java/util/NoSuchElementException", Mf)) : LC l D cA ad n A sa yL_clash cL_clash 4 hL_clash 8 141 [.ref (ad 0), .int l1, .ref (ad 48)] M 1 0 Mf := by
  refine LC.of (kt := kL_clash) (by decide) kL_clash_ok (Nat.le_of_ble_eq_true rfl) ?_
  intro p e s m args below meth c hX hr ht
  refine J.sub (L' := [(0, .ref (ad 0)), (1, .int l1), (2, .ref (ad 48))]) [0, 1, 2] rfl ?_
  refine J.aload_n hX 0 2 rfl rfl ?_
  refine J.iconst (v := 0) hX 1 rfl (by decide) ?_
  refine J.aload_n hX 2 0 rfl rfl ?_
  refine J.iload_n hX 3 1 rfl rfl ?_
  refine J.take1 (E := "java/util/NoSuchElementException") (nm := "java/util/NoSuchElementException") (As := [.int l1]) (rest := [.int 0, .ref (ad 48)]) (k := 0) hX ht 4 rfl (mX4_clash (res := .inr "java/util/NoSuchElementException") hl h) okX4_clash w_287 (hX.lt (k := 0) (by decide)) sh_0 rfl rfl rfl (Nat.le_of_ble_eq_true rfl) ⟨Nat.le_of_ble_eq_true rfl, Nat.le_of_ble_eq_true rfl⟩ ⟨Nat.le_of_ble_eq_true rfl, Nat.le_of_ble_eq_true rfl⟩ (by decide) (by decide) w_100 (by simp [nwL]) (fun q9 => ?_)
  refine J.astore_n hX 8 rfl (by decide) rfl ?_
  refine J.iconst (v := 1) hX 9 rfl (by decide) ?_
  exact J.lret hX hr 10 rfl (fun _ _ => rfl) rfl (by decide) (by decide)
def kL_seam : List (Nat × Instr × Nat) := [(0, .aload_n 3, 1), (1, .iconst 0, 1), (2, .aload_n 0, 1), (3, .iload_n 1, 1), (4, .iload_n 2, 1), (5, .invokevirtual 29, 3), (8, .i2l, 1), (9, .lastore, 1), (10, .goto 11, 3), (13, .astore 4, 2), (15, .iconst 1, 1), (16, .ireturn, 1), (17, .astore 4, 2), (19, .iconst 2, 1), (20, .ireturn, 1), (21, .iconst 0, 1), (22, .ireturn, 1)]
set_option maxRecDepth 100000 in
theorem kL_seam_ok : ∀ (i : Nat) (q : Nat × Instr × Nat), kL_seam[i]? = some q → decode cL_seam q.1 = .ok q.2 := tbl_ok (by decide +kernel)
abbrev hL_seam : List (Nat × Nat × Nat × Nat) := [(0, 10, 13, 13), (0, 10, 17, 15)]
theorem okL_seam : OKW yL_seam cL_seam 5 hL_seam 4 := ⟨w_342, w_98, w_343, by decide +kernel, by decide +kernel, by decide +kernel⟩
set_option maxRecDepth 100000 in
theorem mL_seam_r {l : Launch} {D : va_G} {cA : Nat → ClassId} {ad : Nat → Nat} {n : Nat} {A : Nat → Prop} {sa : Nat → Nat} {M Mf : Mem} {l1 : Int32} {l2 : Int32} {v : Int32} (hl : l.stackTraces = false) (h : X4_seam M l1 l2 = some (.inl v, Mf)) : LC l D cA ad n A sa yL_seam cL_seam 5 hL_seam 8 124 [.ref (ad 0), .int l1, .int l2, .ref (ad 48)] M 0 0 (wr Mf 48 0 v) := by
  refine LC.of (kt := kL_seam) (by decide) kL_seam_ok (Nat.le_of_ble_eq_true rfl) ?_
  intro p e s m args below meth c hX hr ht
  refine J.sub (L' := [(0, .ref (ad 0)), (1, .int l1), (2, .int l2), (3, .ref (ad 48))]) [0, 1, 2, 3] rfl ?_
  refine J.aload_n hX 0 3 rfl rfl ?_
  refine J.iconst (v := 0) hX 1 rfl (by decide) ?_
  refine J.aload_n hX 2 0 rfl rfl ?_
  refine J.iload_n hX 3 1 rfl rfl ?_
  refine J.iload_n hX 4 2 rfl rfl ?_
  refine J.callV1 (As := [.int l1, .int l2]) (rest := [.int 0, .ref (ad 48)]) (k := 0) hX 5 rfl (mX4_seam (res := .inl v) hl h) okX4_seam w_344 (hX.lt (k := 0) (by decide)) sh_0 rfl rfl rfl (Nat.le_of_ble_eq_true rfl) ⟨Nat.le_of_ble_eq_true rfl, Nat.le_of_ble_eq_true rfl⟩ ⟨Nat.le_of_ble_eq_true rfl, Nat.le_of_ble_eq_true rfl⟩ ?_
  refine J.i2l hX 6 rfl ?_
  refine J.last hX 7 48 (hX.lt (k := 48) (by decide)) sh_48 (inb_vp (by decide)) rfl ?_
  refine J.goto (tgt := 21) hX 8 rfl (by decide) ?_
  refine J.iconst (v := 0) hX 15 rfl (by decide) ?_
  exact J.lret hX hr 16 rfl (fun _ _ => rfl) rfl (by decide) (by decide)
set_option maxRecDepth 100000 in
theorem mL_seam_1 {l : Launch} {D : va_G} {cA : Nat → ClassId} {ad : Nat → Nat} {n : Nat} {A : Nat → Prop} {sa : Nat → Nat} {M Mf : Mem} {l1 : Int32} {l2 : Int32} (hl : l.stackTraces = false) (h : X4_seam M l1 l2 = some (.inr "java/util/NoSuchElementException", Mf)) : LC l D cA ad n A sa yL_seam cL_seam 5 hL_seam 8 124 [.ref (ad 0), .int l1, .int l2, .ref (ad 48)] M 1 0 Mf := by
  refine LC.of (kt := kL_seam) (by decide) kL_seam_ok (Nat.le_of_ble_eq_true rfl) ?_
  intro p e s m args below meth c hX hr ht
  refine J.sub (L' := [(0, .ref (ad 0)), (1, .int l1), (2, .int l2), (3, .ref (ad 48))]) [0, 1, 2, 3] rfl ?_
  refine J.aload_n hX 0 3 rfl rfl ?_
  refine J.iconst (v := 0) hX 1 rfl (by decide) ?_
  refine J.aload_n hX 2 0 rfl rfl ?_
  refine J.iload_n hX 3 1 rfl rfl ?_
  refine J.iload_n hX 4 2 rfl rfl ?_
  refine J.take1 (E := "java/util/NoSuchElementException") (nm := "java/util/NoSuchElementException") (As := [.int l1, .int l2]) (rest := [.int 0, .ref (ad 48)]) (k := 0) hX ht 5 rfl (mX4_seam (res := .inr "java/util/NoSuchElementException") hl h) okX4_seam w_344 (hX.lt (k := 0) (by decide)) sh_0 rfl rfl rfl (Nat.le_of_ble_eq_true rfl) ⟨Nat.le_of_ble_eq_true rfl, Nat.le_of_ble_eq_true rfl⟩ ⟨Nat.le_of_ble_eq_true rfl, Nat.le_of_ble_eq_true rfl⟩ (by decide) (by decide) w_100 (by simp [nwL]) (fun q9 => ?_)
  refine J.astore hX 9 rfl (by decide) rfl ?_
  refine J.iconst (v := 1) hX 10 rfl (by decide) ?_
  exact J.lret hX hr 11 rfl (fun _ _ => rfl) rfl (by decide) (by decide)
set_option maxRecDepth 100000 in
theorem mL_seam_2 {l : Launch} {D : va_G} {cA : Nat → ClassId} {ad : Nat → Nat} {n : Nat} {A : Nat → Prop} {sa : Nat → Nat} {M Mf : Mem} {l1 : Int32} {l2 : Int32} (hl : l.stackTraces = false) (h : X4_seam M l1 l2 = some (.inr "java/lang/IllegalArgumentException", Mf)) : LC l D cA ad n A sa yL_seam cL_seam 5 hL_seam 8 124 [.ref (ad 0), .int l1, .int l2, .ref (ad 48)] M 2 0 Mf := by
  refine LC.of (kt := kL_seam) (by decide) kL_seam_ok (Nat.le_of_ble_eq_true rfl) ?_
  intro p e s m args below meth c hX hr ht
  refine J.sub (L' := [(0, .ref (ad 0)), (1, .int l1), (2, .int l2), (3, .ref (ad 48))]) [0, 1, 2, 3] rfl ?_
  refine J.aload_n hX 0 3 rfl rfl ?_
  refine J.iconst (v := 0) hX 1 rfl (by decide) ?_
  refine J.aload_n hX 2 0 rfl rfl ?_
  refine J.iload_n hX 3 1 rfl rfl ?_
  refine J.iload_n hX 4 2 rfl rfl ?_
  refine J.take2 (As := [.int l1, .int l2]) (rest := [.int 0, .ref (ad 48)]) (k := 0) hX ht 5 rfl (mX4_seam (res := .inr "java/lang/IllegalArgumentException") hl h) okX4_seam w_344 (hX.lt (k := 0) (by decide)) sh_0 rfl rfl rfl (Nat.le_of_ble_eq_true rfl) ⟨Nat.le_of_ble_eq_true rfl, Nat.le_of_ble_eq_true rfl⟩ ⟨Nat.le_of_ble_eq_true rfl, Nat.le_of_ble_eq_true rfl⟩ (by decide) (by decide) w_100 (by decide) (by decide) w_101 (fun q9 => ?_)
  refine J.astore hX 12 rfl (by decide) rfl ?_
  refine J.iconst (v := 2) hX 13 rfl (by decide) ?_
  exact J.lret hX hr 14 rfl (fun _ _ => rfl) rfl (by decide) (by decide)
def kL_keep : List (Nat × Instr × Nat) := [(0, .aload_n 1, 1), (1, .iconst 0, 1), (2, .aload_n 0, 1), (3, .invokevirtual 33, 3), (6, .i2l, 1), (7, .lastore, 1), (8, .goto 6, 3), (11, .astore_n 2, 1), (12, .iconst 1, 1), (13, .ireturn, 1), (14, .iconst 0, 1), (15, .ireturn, 1)]
set_option maxRecDepth 100000 in
theorem kL_keep_ok : ∀ (i : Nat) (q : Nat × Instr × Nat), kL_keep[i]? = some q → decode cL_keep q.1 = .ok q.2 := tbl_ok (by decide +kernel)
abbrev hL_keep : List (Nat × Nat × Nat × Nat) := [(0, 8, 11, 37)]
theorem okL_keep : OKW yL_keep cL_keep 3 hL_keep 2 := ⟨w_355, w_98, w_356, by decide +kernel, by decide +kernel, by decide +kernel⟩
section LK
variable {p : Program} {l : Launch} {e : Env} {R : Room} {s : State} {m : MethodId} {args : Array Value} {below : List Frame} {meth : Method} {c : Code} {D : va_G} {cA : Nat → ClassId} {ad : Nat → Nat} {n : Nat} {A : Nat → Prop} {sa : Nat → Nat} {nL cells slots : Nat} {Q : State → Prop} {cc : ByteArray} {own : String} {kt : List (Nat × Instr × Nat)} {M M1 : Mem} {pc : Nat} {L : List (Nat × Value)} {st : List Value}
theorem J.keep {Mc : Mem} {r : Int32} {rest : List Value} (hX : Cx p s m args meth c D cA ad n A sa cc nL own kt) (i : Nat) {ix : Nat} (hk : kt[i]? = some (pc, .invokevirtual ix, 3)) (hn : NOk n) (hk11 : K11 n M) (h1 : ¬ (10 : Int32) ≤ M 10 1) (h2 : X1_state M 1 = some 0) (h3 : X1_copied_tail (M0 n M) 1 n = some Mc) (h4 : X3_addBlock Mc n = some (r, M1)) (hm : Cond.methodLink own ix yX4_keep ∈ wsL_law) (hw : (rest.map fun v => v.category).sum ≤ 8) (hR : 6 + 1 ≤ R.frames ∧ 8 + (1 + 11) + 141 ≤ R.locals) (hf : cells + 5 ≤ R.cells ∧ slots + 436 ≤ R.slots)
    (kk : ∀ (ad' : Nat → Nat), (∀ k, k < n → ad' k = ad k) → Dd A ad' (n + 5) → Cx p s m args meth c D cA ad' (n + 5) A sa cc nL own kt → J p l e R s m args below meth c D cA ad' (n + 5) A nL (cells + 5) (slots + 436) Q M1 (pc + 3) L (.int r :: rest)) :
    J p l e R s m args below meth c D cA ad n A nL cells slots Q M pc L (.ref (ad 0) :: rest) := fun H locs ls hP hS hL =>
  run_new (v := fun _ => .int r) (va_runV (C := RX4) (bytes := cX4_keep) (maxL := 1) (ret := some .int) (n := 0) (As := []) ⟨hX.ex, hX.by, hX.ml, hX.ow, hX.ws⟩ (mX4_keep_r l hn hk11 h1 h2 h3 h4) (cwV 0 hX.ws (gdV hm okX4_keep.1 okX4_keep.2.1 okX4_keep.2.2.1 okX4_keep.2.2.2.1) rfl rfl rfl okX4_keep.2.2.2.2 hR) ⟨PP.blind, va_recv hX.kn hP rfl (Wd_o (hX.lt (k := 0) (by decide)) sh_0), fun U hU hW => ⟨rfl, PP.here hX hP hS U hU hW⟩⟩ rfl rfl hL.1 rfl (lv_room hw) (hX.dec hk) hf) hS (fun ad' H1 locs1 ha hd hP1 hS1 => kk ad' ha hd (hX.grow hd) H1 locs1 ls hP1 hS1 hL)
end LK
set_option maxRecDepth 100000 in
theorem mL_keep_r {l : Launch} {D : va_G} {cA : Nat → ClassId} {ad : Nat → Nat} {n : Nat} {A : Nat → Prop} {sa : Nat → Nat} {M Mf : Mem} {Mc : Mem} {v : Int32} (hn : NOk n) (hk11 : K11 n M) (h1 : ¬ (10 : Int32) ≤ M 10 1) (h2 : X1_state M 1 = some 0) (h3 : X1_copied_tail (M0 n M) 1 n = some Mc) (h4 : X3_addBlock Mc n = some (v, Mf)) : LC l D cA ad n A sa yL_keep cL_keep 3 hL_keep 7 161 [.ref (ad 0), .ref (ad 48)] M 0 5 (wr Mf 48 0 v) := by
  refine LC.of (kt := kL_keep) (by decide) kL_keep_ok (Nat.le_of_ble_eq_true rfl) ?_
  intro p e s m args below meth c hX hr ht
  refine J.sub (L' := [(0, .ref (ad 0)), (1, .ref (ad 48))]) [0, 1] rfl ?_
  refine J.aload_n hX 0 1 rfl rfl ?_
  refine J.iconst (v := 0) hX 1 rfl (by decide) ?_
  refine J.aload_n hX 2 0 rfl rfl ?_
  refine J.keep (rest := [.int 0, .ref (ad 48)]) hX 3 rfl hn hk11 h1 h2 h3 h4 w_358 (Nat.le_of_ble_eq_true rfl) ⟨Nat.le_of_ble_eq_true rfl, Nat.le_of_ble_eq_true rfl⟩ ⟨Nat.le_of_ble_eq_true rfl, Nat.le_of_ble_eq_true rfl⟩ (fun ad' ha hd hX' => ?_)
  have e48 : ad 48 = ad' 48 := (ha 48 (by have := hn.1; omega)).symm
  rw [e48]
  refine J.i2l hX' 4 rfl ?_
  refine J.last hX' 5 48 (hX'.lt (k := 48) (by decide)) sh_48 (inb_vp (by decide)) rfl ?_
  refine J.goto (tgt := 14) hX' 6 rfl (by decide) ?_
  refine J.iconst (v := 0) hX' 10 rfl (by decide) ?_
  exact J.lret hX' hr 11 rfl ha rfl (by decide) (by decide)
set_option maxRecDepth 100000 in
theorem mL_keep_1 {l : Launch} {D : va_G} {cA : Nat → ClassId} {ad : Nat → Nat} {n : Nat} {A : Nat → Prop} {sa : Nat → Nat} {M Mf : Mem}  (hl : l.stackTraces = false) {z : Int32} (h : (10 : Int32) ≤ M 10 1 ∨ (¬ (10 : Int32) ≤ M 10 1 ∧ X1_state M 1 = some z ∧ ¬ z = 0)) : LC l D cA ad n A sa yL_keep cL_keep 3 hL_keep 7 161 [.ref (ad 0), .ref (ad 48)] M 1 0 M := by
  refine LC.of (kt := kL_keep) (by decide) kL_keep_ok (Nat.le_of_ble_eq_true rfl) ?_
  intro p e s m args below meth c hX hr ht
  refine J.sub (L' := [(0, .ref (ad 0)), (1, .ref (ad 48))]) [0, 1] rfl ?_
  refine J.aload_n hX 0 1 rfl rfl ?_
  refine J.iconst (v := 0) hX 1 rfl (by decide) ?_
  refine J.aload_n hX 2 0 rfl rfl ?_
  refine J.take1 (E := "java/lang/IllegalStateException") (nm := "java/lang/IllegalStateException") (As := []) (rest := [.int 0, .ref (ad 48)]) (k := 0) hX ht 3 rfl (mX4_keep_t hl h) okX4_keep w_358 (hX.lt (k := 0) (by decide)) sh_0 rfl rfl rfl (Nat.le_of_ble_eq_true rfl) ⟨Nat.le_of_ble_eq_true rfl, Nat.le_of_ble_eq_true rfl⟩ ⟨Nat.le_of_ble_eq_true rfl, Nat.le_of_ble_eq_true rfl⟩ (by decide) (by decide) w_357 (by simp [nwL]) (fun q9 => ?_)
  refine J.astore_n hX 7 rfl (by decide) rfl ?_
  refine J.iconst (v := 1) hX 8 rfl (by decide) ?_
  exact J.lret hX hr 9 rfl (fun _ _ => rfl) rfl (by decide) (by decide)
def kL_place : List (Nat × Instr × Nat) := [(0, .aload 5, 2), (2, .iconst 0, 1), (3, .aload_n 0, 1), (4, .iload_n 1, 1), (5, .iload_n 2, 1), (6, .iload_n 3, 1), (7, .iload 4, 2), (9, .invokevirtual 39, 3), (12, .i2l, 1), (13, .lastore, 1), (14, .goto 11, 3), (17, .astore 6, 2), (19, .iconst 1, 1), (20, .ireturn, 1), (21, .astore 6, 2), (23, .iconst 2, 1), (24, .ireturn, 1), (25, .iconst 0, 1), (26, .ireturn, 1)]
set_option maxRecDepth 100000 in
theorem kL_place_ok : ∀ (i : Nat) (q : Nat × Instr × Nat), kL_place[i]? = some q → decode cL_place q.1 = .ok q.2 := tbl_ok (by decide +kernel)
abbrev hL_place : List (Nat × Nat × Nat × Nat) := [(0, 14, 17, 13), (0, 14, 21, 15)]
theorem okL_place : OKW yL_place cL_place 7 hL_place 6 := ⟨w_383, w_98, w_384, by decide +kernel, by decide +kernel, by decide +kernel⟩
set_option maxRecDepth 100000 in
theorem mL_place_r {l : Launch} {D : va_G} {cA : Nat → ClassId} {ad : Nat → Nat} {n : Nat} {A : Nat → Prop} {sa : Nat → Nat} {M Mf : Mem} {l1 : Int32} {l2 : Int32} {l3 : Int32} {l4 : Int32} {v : Int32} (hl : l.stackTraces = false) (h : X4_place M l1 l2 l3 l4 = some (.inl v, Mf)) : LC l D cA ad n A sa yL_place cL_place 7 hL_place 8 128 [.ref (ad 0), .int l1, .int l2, .int l3, .int l4, .ref (ad 48)] M 0 0 (wr Mf 48 0 v) := by
  refine LC.of (kt := kL_place) (by decide) kL_place_ok (Nat.le_of_ble_eq_true rfl) ?_
  intro p e s m args below meth c hX hr ht
  refine J.sub (L' := [(0, .ref (ad 0)), (1, .int l1), (2, .int l2), (3, .int l3), (4, .int l4), (5, .ref (ad 48))]) [0, 1, 2, 3, 4, 5] rfl ?_
  refine J.aload hX 0 5 rfl rfl ?_
  refine J.iconst (v := 0) hX 1 rfl (by decide) ?_
  refine J.aload_n hX 2 0 rfl rfl ?_
  refine J.iload_n hX 3 1 rfl rfl ?_
  refine J.iload_n hX 4 2 rfl rfl ?_
  refine J.iload_n hX 5 3 rfl rfl ?_
  refine J.iload hX 6 4 rfl rfl ?_
  refine J.callV1 (As := [.int l1, .int l2, .int l3, .int l4]) (rest := [.int 0, .ref (ad 48)]) (k := 0) hX 7 rfl (mX4_place (res := .inl v) hl h) okX4_place w_385 (hX.lt (k := 0) (by decide)) sh_0 rfl rfl rfl (Nat.le_of_ble_eq_true rfl) ⟨Nat.le_of_ble_eq_true rfl, Nat.le_of_ble_eq_true rfl⟩ ⟨Nat.le_of_ble_eq_true rfl, Nat.le_of_ble_eq_true rfl⟩ ?_
  refine J.i2l hX 8 rfl ?_
  refine J.last hX 9 48 (hX.lt (k := 48) (by decide)) sh_48 (inb_vp (by decide)) rfl ?_
  refine J.goto (tgt := 25) hX 10 rfl (by decide) ?_
  refine J.iconst (v := 0) hX 17 rfl (by decide) ?_
  exact J.lret hX hr 18 rfl (fun _ _ => rfl) rfl (by decide) (by decide)
set_option maxRecDepth 100000 in
theorem mL_place_1 {l : Launch} {D : va_G} {cA : Nat → ClassId} {ad : Nat → Nat} {n : Nat} {A : Nat → Prop} {sa : Nat → Nat} {M Mf : Mem} {l1 : Int32} {l2 : Int32} {l3 : Int32} {l4 : Int32} (hl : l.stackTraces = false) (h : X4_place M l1 l2 l3 l4 = some (.inr "java/util/NoSuchElementException", Mf)) : LC l D cA ad n A sa yL_place cL_place 7 hL_place 8 128 [.ref (ad 0), .int l1, .int l2, .int l3, .int l4, .ref (ad 48)] M 1 0 Mf := by
  refine LC.of (kt := kL_place) (by decide) kL_place_ok (Nat.le_of_ble_eq_true rfl) ?_
  intro p e s m args below meth c hX hr ht
  refine J.sub (L' := [(0, .ref (ad 0)), (1, .int l1), (2, .int l2), (3, .int l3), (4, .int l4), (5, .ref (ad 48))]) [0, 1, 2, 3, 4, 5] rfl ?_
  refine J.aload hX 0 5 rfl rfl ?_
  refine J.iconst (v := 0) hX 1 rfl (by decide) ?_
  refine J.aload_n hX 2 0 rfl rfl ?_
  refine J.iload_n hX 3 1 rfl rfl ?_
  refine J.iload_n hX 4 2 rfl rfl ?_
  refine J.iload_n hX 5 3 rfl rfl ?_
  refine J.iload hX 6 4 rfl rfl ?_
  refine J.take1 (E := "java/util/NoSuchElementException") (nm := "java/util/NoSuchElementException") (As := [.int l1, .int l2, .int l3, .int l4]) (rest := [.int 0, .ref (ad 48)]) (k := 0) hX ht 7 rfl (mX4_place (res := .inr "java/util/NoSuchElementException") hl h) okX4_place w_385 (hX.lt (k := 0) (by decide)) sh_0 rfl rfl rfl (Nat.le_of_ble_eq_true rfl) ⟨Nat.le_of_ble_eq_true rfl, Nat.le_of_ble_eq_true rfl⟩ ⟨Nat.le_of_ble_eq_true rfl, Nat.le_of_ble_eq_true rfl⟩ (by decide) (by decide) w_100 (by simp [nwL]) (fun q9 => ?_)
  refine J.astore hX 11 rfl (by decide) rfl ?_
  refine J.iconst (v := 1) hX 12 rfl (by decide) ?_
  exact J.lret hX hr 13 rfl (fun _ _ => rfl) rfl (by decide) (by decide)
set_option maxRecDepth 100000 in
theorem mL_place_2 {l : Launch} {D : va_G} {cA : Nat → ClassId} {ad : Nat → Nat} {n : Nat} {A : Nat → Prop} {sa : Nat → Nat} {M Mf : Mem} {l1 : Int32} {l2 : Int32} {l3 : Int32} {l4 : Int32} (hl : l.stackTraces = false) (h : X4_place M l1 l2 l3 l4 = some (.inr "java/lang/IllegalArgumentException", Mf)) : LC l D cA ad n A sa yL_place cL_place 7 hL_place 8 128 [.ref (ad 0), .int l1, .int l2, .int l3, .int l4, .ref (ad 48)] M 2 0 Mf := by
  refine LC.of (kt := kL_place) (by decide) kL_place_ok (Nat.le_of_ble_eq_true rfl) ?_
  intro p e s m args below meth c hX hr ht
  refine J.sub (L' := [(0, .ref (ad 0)), (1, .int l1), (2, .int l2), (3, .int l3), (4, .int l4), (5, .ref (ad 48))]) [0, 1, 2, 3, 4, 5] rfl ?_
  refine J.aload hX 0 5 rfl rfl ?_
  refine J.iconst (v := 0) hX 1 rfl (by decide) ?_
  refine J.aload_n hX 2 0 rfl rfl ?_
  refine J.iload_n hX 3 1 rfl rfl ?_
  refine J.iload_n hX 4 2 rfl rfl ?_
  refine J.iload_n hX 5 3 rfl rfl ?_
  refine J.iload hX 6 4 rfl rfl ?_
  refine J.take2 (As := [.int l1, .int l2, .int l3, .int l4]) (rest := [.int 0, .ref (ad 48)]) (k := 0) hX ht 7 rfl (mX4_place (res := .inr "java/lang/IllegalArgumentException") hl h) okX4_place w_385 (hX.lt (k := 0) (by decide)) sh_0 rfl rfl rfl (Nat.le_of_ble_eq_true rfl) ⟨Nat.le_of_ble_eq_true rfl, Nat.le_of_ble_eq_true rfl⟩ ⟨Nat.le_of_ble_eq_true rfl, Nat.le_of_ble_eq_true rfl⟩ (by decide) (by decide) w_100 (by decide) (by decide) w_101 (fun q9 => ?_)
  refine J.astore hX 14 rfl (by decide) rfl ?_
  refine J.iconst (v := 2) hX 15 rfl (by decide) ?_
  exact J.lret hX hr 16 rfl (fun _ _ => rfl) rfl (by decide) (by decide)
def kL_frame : List (Nat × Instr × Nat) := [(0, .aload 4, 2), (2, .iconst 0, 1), (3, .aload_n 0, 1), (4, .iload_n 1, 1), (5, .iload_n 2, 1), (6, .iload_n 3, 1), (7, .invokevirtual 43, 3), (10, .i2l, 1), (11, .lastore, 1), (12, .goto 11, 3), (15, .astore 5, 2), (17, .iconst 1, 1), (18, .ireturn, 1), (19, .astore 5, 2), (21, .iconst 2, 1), (22, .ireturn, 1), (23, .iconst 0, 1), (24, .ireturn, 1)]
set_option maxRecDepth 100000 in
theorem kL_frame_ok : ∀ (i : Nat) (q : Nat × Instr × Nat), kL_frame[i]? = some q → decode cL_frame q.1 = .ok q.2 := tbl_ok (by decide +kernel)
abbrev hL_frame : List (Nat × Nat × Nat × Nat) := [(0, 12, 15, 13), (0, 12, 19, 15)]
theorem okL_frame : OKW yL_frame cL_frame 6 hL_frame 5 := ⟨w_400, w_98, w_401, by decide +kernel, by decide +kernel, by decide +kernel⟩
set_option maxRecDepth 100000 in
theorem mL_frame_r {l : Launch} {D : va_G} {cA : Nat → ClassId} {ad : Nat → Nat} {n : Nat} {A : Nat → Prop} {sa : Nat → Nat} {M Mf : Mem} {l1 : Int32} {l2 : Int32} {l3 : Int32} {v : Int32} (hl : l.stackTraces = false) (h : X4_frame M l1 l2 l3 = some (.inl v, Mf)) : LC l D cA ad n A sa yL_frame cL_frame 6 hL_frame 8 126 [.ref (ad 0), .int l1, .int l2, .int l3, .ref (ad 48)] M 0 0 (wr Mf 48 0 v) := by
  refine LC.of (kt := kL_frame) (by decide) kL_frame_ok (Nat.le_of_ble_eq_true rfl) ?_
  intro p e s m args below meth c hX hr ht
  refine J.sub (L' := [(0, .ref (ad 0)), (1, .int l1), (2, .int l2), (3, .int l3), (4, .ref (ad 48))]) [0, 1, 2, 3, 4] rfl ?_
  refine J.aload hX 0 4 rfl rfl ?_
  refine J.iconst (v := 0) hX 1 rfl (by decide) ?_
  refine J.aload_n hX 2 0 rfl rfl ?_
  refine J.iload_n hX 3 1 rfl rfl ?_
  refine J.iload_n hX 4 2 rfl rfl ?_
  refine J.iload_n hX 5 3 rfl rfl ?_
  refine J.callV1 (As := [.int l1, .int l2, .int l3]) (rest := [.int 0, .ref (ad 48)]) (k := 0) hX 6 rfl (mX4_frame (res := .inl v) hl h) okX4_frame w_402 (hX.lt (k := 0) (by decide)) sh_0 rfl rfl rfl (Nat.le_of_ble_eq_true rfl) ⟨Nat.le_of_ble_eq_true rfl, Nat.le_of_ble_eq_true rfl⟩ ⟨Nat.le_of_ble_eq_true rfl, Nat.le_of_ble_eq_true rfl⟩ ?_
  refine J.i2l hX 7 rfl ?_
  refine J.last hX 8 48 (hX.lt (k := 48) (by decide)) sh_48 (inb_vp (by decide)) rfl ?_
  refine J.goto (tgt := 23) hX 9 rfl (by decide) ?_
  refine J.iconst (v := 0) hX 16 rfl (by decide) ?_
  exact J.lret hX hr 17 rfl (fun _ _ => rfl) rfl (by decide) (by decide)
set_option maxRecDepth 100000 in
theorem mL_frame_1 {l : Launch} {D : va_G} {cA : Nat → ClassId} {ad : Nat → Nat} {n : Nat} {A : Nat → Prop} {sa : Nat → Nat} {M Mf : Mem} {l1 : Int32} {l2 : Int32} {l3 : Int32} (hl : l.stackTraces = false) (h : X4_frame M l1 l2 l3 = some (.inr "java/util/NoSuchElementException", Mf)) : LC l D cA ad n A sa yL_frame cL_frame 6 hL_frame 8 126 [.ref (ad 0), .int l1, .int l2, .int l3, .ref (ad 48)] M 1 0 Mf := by
  refine LC.of (kt := kL_frame) (by decide) kL_frame_ok (Nat.le_of_ble_eq_true rfl) ?_
  intro p e s m args below meth c hX hr ht
  refine J.sub (L' := [(0, .ref (ad 0)), (1, .int l1), (2, .int l2), (3, .int l3), (4, .ref (ad 48))]) [0, 1, 2, 3, 4] rfl ?_
  refine J.aload hX 0 4 rfl rfl ?_
  refine J.iconst (v := 0) hX 1 rfl (by decide) ?_
  refine J.aload_n hX 2 0 rfl rfl ?_
  refine J.iload_n hX 3 1 rfl rfl ?_
  refine J.iload_n hX 4 2 rfl rfl ?_
  refine J.iload_n hX 5 3 rfl rfl ?_
  refine J.take1 (E := "java/util/NoSuchElementException") (nm := "java/util/NoSuchElementException") (As := [.int l1, .int l2, .int l3]) (rest := [.int 0, .ref (ad 48)]) (k := 0) hX ht 6 rfl (mX4_frame (res := .inr "java/util/NoSuchElementException") hl h) okX4_frame w_402 (hX.lt (k := 0) (by decide)) sh_0 rfl rfl rfl (Nat.le_of_ble_eq_true rfl) ⟨Nat.le_of_ble_eq_true rfl, Nat.le_of_ble_eq_true rfl⟩ ⟨Nat.le_of_ble_eq_true rfl, Nat.le_of_ble_eq_true rfl⟩ (by decide) (by decide) w_100 (by simp [nwL]) (fun q9 => ?_)
  refine J.astore hX 10 rfl (by decide) rfl ?_
  refine J.iconst (v := 1) hX 11 rfl (by decide) ?_
  exact J.lret hX hr 12 rfl (fun _ _ => rfl) rfl (by decide) (by decide)
set_option maxRecDepth 100000 in
theorem mL_frame_2 {l : Launch} {D : va_G} {cA : Nat → ClassId} {ad : Nat → Nat} {n : Nat} {A : Nat → Prop} {sa : Nat → Nat} {M Mf : Mem} {l1 : Int32} {l2 : Int32} {l3 : Int32} (hl : l.stackTraces = false) (h : X4_frame M l1 l2 l3 = some (.inr "java/lang/IllegalArgumentException", Mf)) : LC l D cA ad n A sa yL_frame cL_frame 6 hL_frame 8 126 [.ref (ad 0), .int l1, .int l2, .int l3, .ref (ad 48)] M 2 0 Mf := by
  refine LC.of (kt := kL_frame) (by decide) kL_frame_ok (Nat.le_of_ble_eq_true rfl) ?_
  intro p e s m args below meth c hX hr ht
  refine J.sub (L' := [(0, .ref (ad 0)), (1, .int l1), (2, .int l2), (3, .int l3), (4, .ref (ad 48))]) [0, 1, 2, 3, 4] rfl ?_
  refine J.aload hX 0 4 rfl rfl ?_
  refine J.iconst (v := 0) hX 1 rfl (by decide) ?_
  refine J.aload_n hX 2 0 rfl rfl ?_
  refine J.iload_n hX 3 1 rfl rfl ?_
  refine J.iload_n hX 4 2 rfl rfl ?_
  refine J.iload_n hX 5 3 rfl rfl ?_
  refine J.take2 (As := [.int l1, .int l2, .int l3]) (rest := [.int 0, .ref (ad 48)]) (k := 0) hX ht 6 rfl (mX4_frame (res := .inr "java/lang/IllegalArgumentException") hl h) okX4_frame w_402 (hX.lt (k := 0) (by decide)) sh_0 rfl rfl rfl (Nat.le_of_ble_eq_true rfl) ⟨Nat.le_of_ble_eq_true rfl, Nat.le_of_ble_eq_true rfl⟩ ⟨Nat.le_of_ble_eq_true rfl, Nat.le_of_ble_eq_true rfl⟩ (by decide) (by decide) w_100 (by decide) (by decide) w_101 (fun q9 => ?_)
  refine J.astore hX 13 rfl (by decide) rfl ?_
  refine J.iconst (v := 2) hX 14 rfl (by decide) ?_
  exact J.lret hX hr 15 rfl (fun _ _ => rfl) rfl (by decide) (by decide)
def kL_mismatch : List (Nat × Instr × Nat) := [(0, .aload_n 3, 1), (1, .iconst 0, 1), (2, .aload_n 0, 1), (3, .iload_n 1, 1), (4, .iload_n 2, 1), (5, .invokevirtual 46, 3), (8, .i2l, 1), (9, .lastore, 1), (10, .goto 7, 3), (13, .astore 4, 2), (15, .iconst 1, 1), (16, .ireturn, 1), (17, .iconst 0, 1), (18, .ireturn, 1)]
set_option maxRecDepth 100000 in
theorem kL_mismatch_ok : ∀ (i : Nat) (q : Nat × Instr × Nat), kL_mismatch[i]? = some q → decode cL_mismatch q.1 = .ok q.2 := tbl_ok (by decide +kernel)
abbrev hL_mismatch : List (Nat × Nat × Nat × Nat) := [(0, 10, 13, 13)]
theorem okL_mismatch : OKW yL_mismatch cL_mismatch 5 hL_mismatch 4 := ⟨w_413, w_98, w_414, by decide +kernel, by decide +kernel, by decide +kernel⟩
set_option maxRecDepth 100000 in
theorem mL_mismatch_r {l : Launch} {D : va_G} {cA : Nat → ClassId} {ad : Nat → Nat} {n : Nat} {A : Nat → Prop} {sa : Nat → Nat} {M Mf : Mem} {l1 : Int32} {l2 : Int32} {v : Int32} (hl : l.stackTraces = false) (h : X4_mismatch n M l1 l2 = some (.inl v, Mf)) : LC l D cA ad n A sa yL_mismatch cL_mismatch 5 hL_mismatch 8 124 [.ref (ad 0), .int l1, .int l2, .ref (ad 48)] M 0 0 (wr Mf 48 0 v) := by
  refine LC.of (kt := kL_mismatch) (by decide) kL_mismatch_ok (Nat.le_of_ble_eq_true rfl) ?_
  intro p e s m args below meth c hX hr ht
  refine J.sub (L' := [(0, .ref (ad 0)), (1, .int l1), (2, .int l2), (3, .ref (ad 48))]) [0, 1, 2, 3] rfl ?_
  refine J.aload_n hX 0 3 rfl rfl ?_
  refine J.iconst (v := 0) hX 1 rfl (by decide) ?_
  refine J.aload_n hX 2 0 rfl rfl ?_
  refine J.iload_n hX 3 1 rfl rfl ?_
  refine J.iload_n hX 4 2 rfl rfl ?_
  refine J.callV1 (As := [.int l1, .int l2]) (rest := [.int 0, .ref (ad 48)]) (k := 0) hX 5 rfl (mX4_mismatch (res := .inl v) hl h) okX4_mismatch w_415 (hX.lt (k := 0) (by decide)) sh_0 rfl rfl rfl (Nat.le_of_ble_eq_true rfl) ⟨Nat.le_of_ble_eq_true rfl, Nat.le_of_ble_eq_true rfl⟩ ⟨Nat.le_of_ble_eq_true rfl, Nat.le_of_ble_eq_true rfl⟩ ?_
  refine J.i2l hX 6 rfl ?_
  refine J.last hX 7 48 (hX.lt (k := 48) (by decide)) sh_48 (inb_vp (by decide)) rfl ?_
  refine J.goto (tgt := 17) hX 8 rfl (by decide) ?_
  refine J.iconst (v := 0) hX 12 rfl (by decide) ?_
  exact J.lret hX hr 13 rfl (fun _ _ => rfl) rfl (by decide) (by decide)
set_option maxRecDepth 100000 in
theorem mL_mismatch_1 {l : Launch} {D : va_G} {cA : Nat → ClassId} {ad : Nat → Nat} {n : Nat} {A : Nat → Prop} {sa : Nat → Nat} {M Mf : Mem} {l1 : Int32} {l2 : Int32} (hl : l.stackTraces = false) (h : X4_mismatch n M l1 l2 = some (.inr "java/util/NoSuchElementException", Mf)) : LC l D cA ad n A sa yL_mismatch cL_mismatch 5 hL_mismatch 8 124 [.ref (ad 0), .int l1, .int l2, .ref (ad 48)] M 1 0 Mf := by
  refine LC.of (kt := kL_mismatch) (by decide) kL_mismatch_ok (Nat.le_of_ble_eq_true rfl) ?_
  intro p e s m args below meth c hX hr ht
  refine J.sub (L' := [(0, .ref (ad 0)), (1, .int l1), (2, .int l2), (3, .ref (ad 48))]) [0, 1, 2, 3] rfl ?_
  refine J.aload_n hX 0 3 rfl rfl ?_
  refine J.iconst (v := 0) hX 1 rfl (by decide) ?_
  refine J.aload_n hX 2 0 rfl rfl ?_
  refine J.iload_n hX 3 1 rfl rfl ?_
  refine J.iload_n hX 4 2 rfl rfl ?_
  refine J.take1 (E := "java/util/NoSuchElementException") (nm := "java/util/NoSuchElementException") (As := [.int l1, .int l2]) (rest := [.int 0, .ref (ad 48)]) (k := 0) hX ht 5 rfl (mX4_mismatch (res := .inr "java/util/NoSuchElementException") hl h) okX4_mismatch w_415 (hX.lt (k := 0) (by decide)) sh_0 rfl rfl rfl (Nat.le_of_ble_eq_true rfl) ⟨Nat.le_of_ble_eq_true rfl, Nat.le_of_ble_eq_true rfl⟩ ⟨Nat.le_of_ble_eq_true rfl, Nat.le_of_ble_eq_true rfl⟩ (by decide) (by decide) w_100 (by simp [nwL]) (fun q9 => ?_)
  refine J.astore hX 9 rfl (by decide) rfl ?_
  refine J.iconst (v := 1) hX 10 rfl (by decide) ?_
  exact J.lret hX hr 11 rfl (fun _ _ => rfl) rfl (by decide) (by decide)
def kL_swap : List (Nat × Instr × Nat) := [(0, .aload_n 3, 1), (1, .iconst 0, 1), (2, .aload_n 0, 1), (3, .iload_n 1, 1), (4, .iload_n 2, 1), (5, .invokevirtual 49, 3), (8, .i2l, 1), (9, .lastore, 1), (10, .goto 7, 3), (13, .astore 4, 2), (15, .iconst 1, 1), (16, .ireturn, 1), (17, .iconst 0, 1), (18, .ireturn, 1)]
set_option maxRecDepth 100000 in
theorem kL_swap_ok : ∀ (i : Nat) (q : Nat × Instr × Nat), kL_swap[i]? = some q → decode cL_swap q.1 = .ok q.2 := tbl_ok (by decide +kernel)
abbrev hL_swap : List (Nat × Nat × Nat × Nat) := [(0, 10, 13, 13)]
theorem okL_swap : OKW yL_swap cL_swap 5 hL_swap 4 := ⟨w_455, w_98, w_456, by decide +kernel, by decide +kernel, by decide +kernel⟩
set_option maxRecDepth 100000 in
theorem mL_swap_r {l : Launch} {D : va_G} {cA : Nat → ClassId} {ad : Nat → Nat} {n : Nat} {A : Nat → Prop} {sa : Nat → Nat} {M Mf : Mem} {l1 : Int32} {l2 : Int32} {v : Int32} (hl : l.stackTraces = false) (h : X4_swap n M l1 l2 = some (.inl v, Mf)) : LC l D cA ad n A sa yL_swap cL_swap 5 hL_swap 8 124 [.ref (ad 0), .int l1, .int l2, .ref (ad 48)] M 0 0 (wr Mf 48 0 v) := by
  refine LC.of (kt := kL_swap) (by decide) kL_swap_ok (Nat.le_of_ble_eq_true rfl) ?_
  intro p e s m args below meth c hX hr ht
  refine J.sub (L' := [(0, .ref (ad 0)), (1, .int l1), (2, .int l2), (3, .ref (ad 48))]) [0, 1, 2, 3] rfl ?_
  refine J.aload_n hX 0 3 rfl rfl ?_
  refine J.iconst (v := 0) hX 1 rfl (by decide) ?_
  refine J.aload_n hX 2 0 rfl rfl ?_
  refine J.iload_n hX 3 1 rfl rfl ?_
  refine J.iload_n hX 4 2 rfl rfl ?_
  refine J.callV1 (As := [.int l1, .int l2]) (rest := [.int 0, .ref (ad 48)]) (k := 0) hX 5 rfl (mX4_swap (res := .inl v) hl h) okX4_swap w_457 (hX.lt (k := 0) (by decide)) sh_0 rfl rfl rfl (Nat.le_of_ble_eq_true rfl) ⟨Nat.le_of_ble_eq_true rfl, Nat.le_of_ble_eq_true rfl⟩ ⟨Nat.le_of_ble_eq_true rfl, Nat.le_of_ble_eq_true rfl⟩ ?_
  refine J.i2l hX 6 rfl ?_
  refine J.last hX 7 48 (hX.lt (k := 48) (by decide)) sh_48 (inb_vp (by decide)) rfl ?_
  refine J.goto (tgt := 17) hX 8 rfl (by decide) ?_
  refine J.iconst (v := 0) hX 12 rfl (by decide) ?_
  exact J.lret hX hr 13 rfl (fun _ _ => rfl) rfl (by decide) (by decide)
set_option maxRecDepth 100000 in
theorem mL_swap_1 {l : Launch} {D : va_G} {cA : Nat → ClassId} {ad : Nat → Nat} {n : Nat} {A : Nat → Prop} {sa : Nat → Nat} {M Mf : Mem} {l1 : Int32} {l2 : Int32} (hl : l.stackTraces = false) (h : X4_swap n M l1 l2 = some (.inr "java/util/NoSuchElementException", Mf)) : LC l D cA ad n A sa yL_swap cL_swap 5 hL_swap 8 124 [.ref (ad 0), .int l1, .int l2, .ref (ad 48)] M 1 0 Mf := by
  refine LC.of (kt := kL_swap) (by decide) kL_swap_ok (Nat.le_of_ble_eq_true rfl) ?_
  intro p e s m args below meth c hX hr ht
  refine J.sub (L' := [(0, .ref (ad 0)), (1, .int l1), (2, .int l2), (3, .ref (ad 48))]) [0, 1, 2, 3] rfl ?_
  refine J.aload_n hX 0 3 rfl rfl ?_
  refine J.iconst (v := 0) hX 1 rfl (by decide) ?_
  refine J.aload_n hX 2 0 rfl rfl ?_
  refine J.iload_n hX 3 1 rfl rfl ?_
  refine J.iload_n hX 4 2 rfl rfl ?_
  refine J.take1 (E := "java/util/NoSuchElementException") (nm := "java/util/NoSuchElementException") (As := [.int l1, .int l2]) (rest := [.int 0, .ref (ad 48)]) (k := 0) hX ht 5 rfl (mX4_swap (res := .inr "java/util/NoSuchElementException") hl h) okX4_swap w_457 (hX.lt (k := 0) (by decide)) sh_0 rfl rfl rfl (Nat.le_of_ble_eq_true rfl) ⟨Nat.le_of_ble_eq_true rfl, Nat.le_of_ble_eq_true rfl⟩ ⟨Nat.le_of_ble_eq_true rfl, Nat.le_of_ble_eq_true rfl⟩ (by decide) (by decide) w_100 (by simp [nwL]) (fun q9 => ?_)
  refine J.astore hX 9 rfl (by decide) rfl ?_
  refine J.iconst (v := 1) hX 10 rfl (by decide) ?_
  exact J.lret hX hr 11 rfl (fun _ _ => rfl) rfl (by decide) (by decide)
def kL_area : List (Nat × Instr × Nat) := [(0, .aload_n 2, 1), (1, .iconst 0, 1), (2, .aload_n 0, 1), (3, .iload_n 1, 1), (4, .invokevirtual 52, 3), (7, .i2l, 1), (8, .lastore, 1), (9, .goto 6, 3), (12, .astore_n 3, 1), (13, .iconst 1, 1), (14, .ireturn, 1), (15, .iconst 0, 1), (16, .ireturn, 1)]
set_option maxRecDepth 100000 in
theorem kL_area_ok : ∀ (i : Nat) (q : Nat × Instr × Nat), kL_area[i]? = some q → decode cL_area q.1 = .ok q.2 := tbl_ok (by decide +kernel)
abbrev hL_area : List (Nat × Nat × Nat × Nat) := [(0, 9, 12, 13)]
theorem okL_area : OKW yL_area cL_area 4 hL_area 3 := ⟨w_482, w_98, w_483, by decide +kernel, by decide +kernel, by decide +kernel⟩
set_option maxRecDepth 100000 in
theorem mL_area_r {l : Launch} {D : va_G} {cA : Nat → ClassId} {ad : Nat → Nat} {n : Nat} {A : Nat → Prop} {sa : Nat → Nat} {M Mf : Mem} {l1 : Int32} {v : Int32} (hl : l.stackTraces = false) (h : X4_area n M l1 = some (.inl v, Mf)) : LC l D cA ad n A sa yL_area cL_area 4 hL_area 8 123 [.ref (ad 0), .int l1, .ref (ad 48)] M 0 0 (wr Mf 48 0 v) := by
  refine LC.of (kt := kL_area) (by decide) kL_area_ok (Nat.le_of_ble_eq_true rfl) ?_
  intro p e s m args below meth c hX hr ht
  refine J.sub (L' := [(0, .ref (ad 0)), (1, .int l1), (2, .ref (ad 48))]) [0, 1, 2] rfl ?_
  refine J.aload_n hX 0 2 rfl rfl ?_
  refine J.iconst (v := 0) hX 1 rfl (by decide) ?_
  refine J.aload_n hX 2 0 rfl rfl ?_
  refine J.iload_n hX 3 1 rfl rfl ?_
  refine J.callV1 (As := [.int l1]) (rest := [.int 0, .ref (ad 48)]) (k := 0) hX 4 rfl (mX4_area (res := .inl v) hl h) okX4_area w_484 (hX.lt (k := 0) (by decide)) sh_0 rfl rfl rfl (Nat.le_of_ble_eq_true rfl) ⟨Nat.le_of_ble_eq_true rfl, Nat.le_of_ble_eq_true rfl⟩ ⟨Nat.le_of_ble_eq_true rfl, Nat.le_of_ble_eq_true rfl⟩ ?_
  refine J.i2l hX 5 rfl ?_
  refine J.last hX 6 48 (hX.lt (k := 48) (by decide)) sh_48 (inb_vp (by decide)) rfl ?_
  refine J.goto (tgt := 15) hX 7 rfl (by decide) ?_
  refine J.iconst (v := 0) hX 11 rfl (by decide) ?_
  exact J.lret hX hr 12 rfl (fun _ _ => rfl) rfl (by decide) (by decide)
set_option maxRecDepth 100000 in
theorem mL_area_1 {l : Launch} {D : va_G} {cA : Nat → ClassId} {ad : Nat → Nat} {n : Nat} {A : Nat → Prop} {sa : Nat → Nat} {M Mf : Mem} {l1 : Int32} (hl : l.stackTraces = false) (h : X4_area n M l1 = some (.inr "java/util/NoSuchElementException", Mf)) : LC l D cA ad n A sa yL_area cL_area 4 hL_area 8 123 [.ref (ad 0), .int l1, .ref (ad 48)] M 1 0 Mf := by
  refine LC.of (kt := kL_area) (by decide) kL_area_ok (Nat.le_of_ble_eq_true rfl) ?_
  intro p e s m args below meth c hX hr ht
  refine J.sub (L' := [(0, .ref (ad 0)), (1, .int l1), (2, .ref (ad 48))]) [0, 1, 2] rfl ?_
  refine J.aload_n hX 0 2 rfl rfl ?_
  refine J.iconst (v := 0) hX 1 rfl (by decide) ?_
  refine J.aload_n hX 2 0 rfl rfl ?_
  refine J.iload_n hX 3 1 rfl rfl ?_
  refine J.take1 (E := "java/util/NoSuchElementException") (nm := "java/util/NoSuchElementException") (As := [.int l1]) (rest := [.int 0, .ref (ad 48)]) (k := 0) hX ht 4 rfl (mX4_area (res := .inr "java/util/NoSuchElementException") hl h) okX4_area w_484 (hX.lt (k := 0) (by decide)) sh_0 rfl rfl rfl (Nat.le_of_ble_eq_true rfl) ⟨Nat.le_of_ble_eq_true rfl, Nat.le_of_ble_eq_true rfl⟩ ⟨Nat.le_of_ble_eq_true rfl, Nat.le_of_ble_eq_true rfl⟩ (by decide) (by decide) w_100 (by simp [nwL]) (fun q9 => ?_)
  refine J.astore_n hX 8 rfl (by decide) rfl ?_
  refine J.iconst (v := 1) hX 9 rfl (by decide) ?_
  exact J.lret hX hr 10 rfl (fun _ _ => rfl) rfl (by decide) (by decide)
def kL_need : List (Nat × Instr × Nat) := [(0, .aload_n 3, 1), (1, .iconst 0, 1), (2, .aload_n 0, 1), (3, .iload_n 1, 1), (4, .iload_n 2, 1), (5, .invokevirtual 55, 3), (8, .i2l, 1), (9, .lastore, 1), (10, .goto 11, 3), (13, .astore 4, 2), (15, .iconst 1, 1), (16, .ireturn, 1), (17, .astore 4, 2), (19, .iconst 2, 1), (20, .ireturn, 1), (21, .iconst 0, 1), (22, .ireturn, 1)]
set_option maxRecDepth 100000 in
theorem kL_need_ok : ∀ (i : Nat) (q : Nat × Instr × Nat), kL_need[i]? = some q → decode cL_need q.1 = .ok q.2 := tbl_ok (by decide +kernel)
abbrev hL_need : List (Nat × Nat × Nat × Nat) := [(0, 10, 13, 13), (0, 10, 17, 15)]
theorem okL_need : OKW yL_need cL_need 5 hL_need 4 := ⟨w_501, w_98, w_502, by decide +kernel, by decide +kernel, by decide +kernel⟩
set_option maxRecDepth 100000 in
theorem mL_need_r {l : Launch} {D : va_G} {cA : Nat → ClassId} {ad : Nat → Nat} {n : Nat} {A : Nat → Prop} {sa : Nat → Nat} {M Mf : Mem} {l1 : Int32} {l2 : Int32} {v : Int32} (hl : l.stackTraces = false) (h : X4_need n M l1 l2 = some (.inl v, Mf)) : LC l D cA ad n A sa yL_need cL_need 5 hL_need 8 160 [.ref (ad 0), .int l1, .int l2, .ref (ad 48)] M 0 0 (wr Mf 48 0 v) := by
  refine LC.of (kt := kL_need) (by decide) kL_need_ok (Nat.le_of_ble_eq_true rfl) ?_
  intro p e s m args below meth c hX hr ht
  refine J.sub (L' := [(0, .ref (ad 0)), (1, .int l1), (2, .int l2), (3, .ref (ad 48))]) [0, 1, 2, 3] rfl ?_
  refine J.aload_n hX 0 3 rfl rfl ?_
  refine J.iconst (v := 0) hX 1 rfl (by decide) ?_
  refine J.aload_n hX 2 0 rfl rfl ?_
  refine J.iload_n hX 3 1 rfl rfl ?_
  refine J.iload_n hX 4 2 rfl rfl ?_
  refine J.callV1 (As := [.int l1, .int l2]) (rest := [.int 0, .ref (ad 48)]) (k := 0) hX 5 rfl (mX4_need (res := .inl v) hl h) okX4_need w_503 (hX.lt (k := 0) (by decide)) sh_0 rfl rfl rfl (Nat.le_of_ble_eq_true rfl) ⟨Nat.le_of_ble_eq_true rfl, Nat.le_of_ble_eq_true rfl⟩ ⟨Nat.le_of_ble_eq_true rfl, Nat.le_of_ble_eq_true rfl⟩ ?_
  refine J.i2l hX 6 rfl ?_
  refine J.last hX 7 48 (hX.lt (k := 48) (by decide)) sh_48 (inb_vp (by decide)) rfl ?_
  refine J.goto (tgt := 21) hX 8 rfl (by decide) ?_
  refine J.iconst (v := 0) hX 15 rfl (by decide) ?_
  exact J.lret hX hr 16 rfl (fun _ _ => rfl) rfl (by decide) (by decide)
set_option maxRecDepth 100000 in
theorem mL_need_1 {l : Launch} {D : va_G} {cA : Nat → ClassId} {ad : Nat → Nat} {n : Nat} {A : Nat → Prop} {sa : Nat → Nat} {M Mf : Mem} {l1 : Int32} {l2 : Int32} (hl : l.stackTraces = false) (h : X4_need n M l1 l2 = some (.inr "java/util/NoSuchElementException", Mf)) : LC l D cA ad n A sa yL_need cL_need 5 hL_need 8 160 [.ref (ad 0), .int l1, .int l2, .ref (ad 48)] M 1 0 Mf := by
  refine LC.of (kt := kL_need) (by decide) kL_need_ok (Nat.le_of_ble_eq_true rfl) ?_
  intro p e s m args below meth c hX hr ht
  refine J.sub (L' := [(0, .ref (ad 0)), (1, .int l1), (2, .int l2), (3, .ref (ad 48))]) [0, 1, 2, 3] rfl ?_
  refine J.aload_n hX 0 3 rfl rfl ?_
  refine J.iconst (v := 0) hX 1 rfl (by decide) ?_
  refine J.aload_n hX 2 0 rfl rfl ?_
  refine J.iload_n hX 3 1 rfl rfl ?_
  refine J.iload_n hX 4 2 rfl rfl ?_
  refine J.take1 (E := "java/util/NoSuchElementException") (nm := "java/util/NoSuchElementException") (As := [.int l1, .int l2]) (rest := [.int 0, .ref (ad 48)]) (k := 0) hX ht 5 rfl (mX4_need (res := .inr "java/util/NoSuchElementException") hl h) okX4_need w_503 (hX.lt (k := 0) (by decide)) sh_0 rfl rfl rfl (Nat.le_of_ble_eq_true rfl) ⟨Nat.le_of_ble_eq_true rfl, Nat.le_of_ble_eq_true rfl⟩ ⟨Nat.le_of_ble_eq_true rfl, Nat.le_of_ble_eq_true rfl⟩ (by decide) (by decide) w_100 (by simp [nwL]) (fun q9 => ?_)
  refine J.astore hX 9 rfl (by decide) rfl ?_
  refine J.iconst (v := 1) hX 10 rfl (by decide) ?_
  exact J.lret hX hr 11 rfl (fun _ _ => rfl) rfl (by decide) (by decide)
set_option maxRecDepth 100000 in
theorem mL_need_2 {l : Launch} {D : va_G} {cA : Nat → ClassId} {ad : Nat → Nat} {n : Nat} {A : Nat → Prop} {sa : Nat → Nat} {M Mf : Mem} {l1 : Int32} {l2 : Int32} (hl : l.stackTraces = false) (h : X4_need n M l1 l2 = some (.inr "java/lang/IllegalArgumentException", Mf)) : LC l D cA ad n A sa yL_need cL_need 5 hL_need 8 160 [.ref (ad 0), .int l1, .int l2, .ref (ad 48)] M 2 0 Mf := by
  refine LC.of (kt := kL_need) (by decide) kL_need_ok (Nat.le_of_ble_eq_true rfl) ?_
  intro p e s m args below meth c hX hr ht
  refine J.sub (L' := [(0, .ref (ad 0)), (1, .int l1), (2, .int l2), (3, .ref (ad 48))]) [0, 1, 2, 3] rfl ?_
  refine J.aload_n hX 0 3 rfl rfl ?_
  refine J.iconst (v := 0) hX 1 rfl (by decide) ?_
  refine J.aload_n hX 2 0 rfl rfl ?_
  refine J.iload_n hX 3 1 rfl rfl ?_
  refine J.iload_n hX 4 2 rfl rfl ?_
  refine J.take2 (As := [.int l1, .int l2]) (rest := [.int 0, .ref (ad 48)]) (k := 0) hX ht 5 rfl (mX4_need (res := .inr "java/lang/IllegalArgumentException") hl h) okX4_need w_503 (hX.lt (k := 0) (by decide)) sh_0 rfl rfl rfl (Nat.le_of_ble_eq_true rfl) ⟨Nat.le_of_ble_eq_true rfl, Nat.le_of_ble_eq_true rfl⟩ ⟨Nat.le_of_ble_eq_true rfl, Nat.le_of_ble_eq_true rfl⟩ (by decide) (by decide) w_100 (by decide) (by decide) w_101 (fun q9 => ?_)
  refine J.astore hX 12 rfl (by decide) rfl ?_
  refine J.iconst (v := 2) hX 13 rfl (by decide) ?_
  exact J.lret hX hr 14 rfl (fun _ _ => rfl) rfl (by decide) (by decide)
def kL_cut : List (Nat × Instr × Nat) := [(0, .aload 4, 2), (2, .iconst 0, 1), (3, .aload_n 0, 1), (4, .iload_n 1, 1), (5, .iload_n 2, 1), (6, .iload_n 3, 1), (7, .invokevirtual 58, 3), (10, .i2l, 1), (11, .lastore, 1), (12, .goto 11, 3), (15, .astore 5, 2), (17, .iconst 1, 1), (18, .ireturn, 1), (19, .astore 5, 2), (21, .iconst 2, 1), (22, .ireturn, 1), (23, .iconst 0, 1), (24, .ireturn, 1)]
set_option maxRecDepth 100000 in
theorem kL_cut_ok : ∀ (i : Nat) (q : Nat × Instr × Nat), kL_cut[i]? = some q → decode cL_cut q.1 = .ok q.2 := tbl_ok (by decide +kernel)
abbrev hL_cut : List (Nat × Nat × Nat × Nat) := [(0, 12, 15, 13), (0, 12, 19, 15)]
theorem okL_cut : OKW yL_cut cL_cut 6 hL_cut 5 := ⟨w_668, w_98, w_669, by decide +kernel, by decide +kernel, by decide +kernel⟩
set_option maxRecDepth 100000 in
theorem mL_cut_r {l : Launch} {D : va_G} {cA : Nat → ClassId} {ad : Nat → Nat} {n : Nat} {A : Nat → Prop} {sa : Nat → Nat} {M Mf : Mem} {l1 : Int32} {l2 : Int32} {l3 : Int32} {v : Int32} (hl : l.stackTraces = false) (h : X4_cut n M l1 l2 l3 = some (.inl v, Mf)) : LC l D cA ad n A sa yL_cut cL_cut 6 hL_cut 8 161 [.ref (ad 0), .int l1, .int l2, .int l3, .ref (ad 48)] M 0 0 (wr Mf 48 0 v) := by
  refine LC.of (kt := kL_cut) (by decide) kL_cut_ok (Nat.le_of_ble_eq_true rfl) ?_
  intro p e s m args below meth c hX hr ht
  refine J.sub (L' := [(0, .ref (ad 0)), (1, .int l1), (2, .int l2), (3, .int l3), (4, .ref (ad 48))]) [0, 1, 2, 3, 4] rfl ?_
  refine J.aload hX 0 4 rfl rfl ?_
  refine J.iconst (v := 0) hX 1 rfl (by decide) ?_
  refine J.aload_n hX 2 0 rfl rfl ?_
  refine J.iload_n hX 3 1 rfl rfl ?_
  refine J.iload_n hX 4 2 rfl rfl ?_
  refine J.iload_n hX 5 3 rfl rfl ?_
  refine J.callV1 (As := [.int l1, .int l2, .int l3]) (rest := [.int 0, .ref (ad 48)]) (k := 0) hX 6 rfl (mX4_cut (res := .inl v) hl h) okX4_cut w_670 (hX.lt (k := 0) (by decide)) sh_0 rfl rfl rfl (Nat.le_of_ble_eq_true rfl) ⟨Nat.le_of_ble_eq_true rfl, Nat.le_of_ble_eq_true rfl⟩ ⟨Nat.le_of_ble_eq_true rfl, Nat.le_of_ble_eq_true rfl⟩ ?_
  refine J.i2l hX 7 rfl ?_
  refine J.last hX 8 48 (hX.lt (k := 48) (by decide)) sh_48 (inb_vp (by decide)) rfl ?_
  refine J.goto (tgt := 23) hX 9 rfl (by decide) ?_
  refine J.iconst (v := 0) hX 16 rfl (by decide) ?_
  exact J.lret hX hr 17 rfl (fun _ _ => rfl) rfl (by decide) (by decide)
set_option maxRecDepth 100000 in
theorem mL_cut_1 {l : Launch} {D : va_G} {cA : Nat → ClassId} {ad : Nat → Nat} {n : Nat} {A : Nat → Prop} {sa : Nat → Nat} {M Mf : Mem} {l1 : Int32} {l2 : Int32} {l3 : Int32} (hl : l.stackTraces = false) (h : X4_cut n M l1 l2 l3 = some (.inr "java/util/NoSuchElementException", Mf)) : LC l D cA ad n A sa yL_cut cL_cut 6 hL_cut 8 161 [.ref (ad 0), .int l1, .int l2, .int l3, .ref (ad 48)] M 1 0 Mf := by
  refine LC.of (kt := kL_cut) (by decide) kL_cut_ok (Nat.le_of_ble_eq_true rfl) ?_
  intro p e s m args below meth c hX hr ht
  refine J.sub (L' := [(0, .ref (ad 0)), (1, .int l1), (2, .int l2), (3, .int l3), (4, .ref (ad 48))]) [0, 1, 2, 3, 4] rfl ?_
  refine J.aload hX 0 4 rfl rfl ?_
  refine J.iconst (v := 0) hX 1 rfl (by decide) ?_
  refine J.aload_n hX 2 0 rfl rfl ?_
  refine J.iload_n hX 3 1 rfl rfl ?_
  refine J.iload_n hX 4 2 rfl rfl ?_
  refine J.iload_n hX 5 3 rfl rfl ?_
  refine J.take1 (E := "java/util/NoSuchElementException") (nm := "java/util/NoSuchElementException") (As := [.int l1, .int l2, .int l3]) (rest := [.int 0, .ref (ad 48)]) (k := 0) hX ht 6 rfl (mX4_cut (res := .inr "java/util/NoSuchElementException") hl h) okX4_cut w_670 (hX.lt (k := 0) (by decide)) sh_0 rfl rfl rfl (Nat.le_of_ble_eq_true rfl) ⟨Nat.le_of_ble_eq_true rfl, Nat.le_of_ble_eq_true rfl⟩ ⟨Nat.le_of_ble_eq_true rfl, Nat.le_of_ble_eq_true rfl⟩ (by decide) (by decide) w_100 (by simp [nwL]) (fun q9 => ?_)
  refine J.astore hX 10 rfl (by decide) rfl ?_
  refine J.iconst (v := 1) hX 11 rfl (by decide) ?_
  exact J.lret hX hr 12 rfl (fun _ _ => rfl) rfl (by decide) (by decide)
set_option maxRecDepth 100000 in
theorem mL_cut_2 {l : Launch} {D : va_G} {cA : Nat → ClassId} {ad : Nat → Nat} {n : Nat} {A : Nat → Prop} {sa : Nat → Nat} {M Mf : Mem} {l1 : Int32} {l2 : Int32} {l3 : Int32} (hl : l.stackTraces = false) (h : X4_cut n M l1 l2 l3 = some (.inr "java/lang/IllegalArgumentException", Mf)) : LC l D cA ad n A sa yL_cut cL_cut 6 hL_cut 8 161 [.ref (ad 0), .int l1, .int l2, .int l3, .ref (ad 48)] M 2 0 Mf := by
  refine LC.of (kt := kL_cut) (by decide) kL_cut_ok (Nat.le_of_ble_eq_true rfl) ?_
  intro p e s m args below meth c hX hr ht
  refine J.sub (L' := [(0, .ref (ad 0)), (1, .int l1), (2, .int l2), (3, .int l3), (4, .ref (ad 48))]) [0, 1, 2, 3, 4] rfl ?_
  refine J.aload hX 0 4 rfl rfl ?_
  refine J.iconst (v := 0) hX 1 rfl (by decide) ?_
  refine J.aload_n hX 2 0 rfl rfl ?_
  refine J.iload_n hX 3 1 rfl rfl ?_
  refine J.iload_n hX 4 2 rfl rfl ?_
  refine J.iload_n hX 5 3 rfl rfl ?_
  refine J.take2 (As := [.int l1, .int l2, .int l3]) (rest := [.int 0, .ref (ad 48)]) (k := 0) hX ht 6 rfl (mX4_cut (res := .inr "java/lang/IllegalArgumentException") hl h) okX4_cut w_670 (hX.lt (k := 0) (by decide)) sh_0 rfl rfl rfl (Nat.le_of_ble_eq_true rfl) ⟨Nat.le_of_ble_eq_true rfl, Nat.le_of_ble_eq_true rfl⟩ ⟨Nat.le_of_ble_eq_true rfl, Nat.le_of_ble_eq_true rfl⟩ (by decide) (by decide) w_100 (by decide) (by decide) w_101 (fun q9 => ?_)
  refine J.astore hX 13 rfl (by decide) rfl ?_
  refine J.iconst (v := 2) hX 14 rfl (by decide) ?_
  exact J.lret hX hr 15 rfl (fun _ _ => rfl) rfl (by decide) (by decide)
def kL_count : List (Nat × Instr × Nat) := [(0, .aload_n 2, 1), (1, .iconst 0, 1), (2, .aload_n 0, 1), (3, .iload_n 1, 1), (4, .invokevirtual 61, 3), (7, .i2l, 1), (8, .lastore, 1), (9, .goto 6, 3), (12, .astore_n 3, 1), (13, .iconst 1, 1), (14, .ireturn, 1), (15, .iconst 0, 1), (16, .ireturn, 1)]
set_option maxRecDepth 100000 in
theorem kL_count_ok : ∀ (i : Nat) (q : Nat × Instr × Nat), kL_count[i]? = some q → decode cL_count q.1 = .ok q.2 := tbl_ok (by decide +kernel)
abbrev hL_count : List (Nat × Nat × Nat × Nat) := [(0, 9, 12, 15)]
theorem okL_count : OKW yL_count cL_count 4 hL_count 3 := ⟨w_683, w_98, w_684, by decide +kernel, by decide +kernel, by decide +kernel⟩
set_option maxRecDepth 100000 in
theorem mL_count_r {l : Launch} {D : va_G} {cA : Nat → ClassId} {ad : Nat → Nat} {n : Nat} {A : Nat → Prop} {sa : Nat → Nat} {M Mf : Mem} {l1 : Int32} {v : Int32} (hl : l.stackTraces = false) (h : X4_count M l1 = some (.inl v, Mf)) : LC l D cA ad n A sa yL_count cL_count 4 hL_count 8 123 [.ref (ad 0), .int l1, .ref (ad 48)] M 0 0 (wr Mf 48 0 v) := by
  refine LC.of (kt := kL_count) (by decide) kL_count_ok (Nat.le_of_ble_eq_true rfl) ?_
  intro p e s m args below meth c hX hr ht
  refine J.sub (L' := [(0, .ref (ad 0)), (1, .int l1), (2, .ref (ad 48))]) [0, 1, 2] rfl ?_
  refine J.aload_n hX 0 2 rfl rfl ?_
  refine J.iconst (v := 0) hX 1 rfl (by decide) ?_
  refine J.aload_n hX 2 0 rfl rfl ?_
  refine J.iload_n hX 3 1 rfl rfl ?_
  refine J.callV1 (As := [.int l1]) (rest := [.int 0, .ref (ad 48)]) (k := 0) hX 4 rfl (mX4_count (res := .inl v) hl h) okX4_count w_685 (hX.lt (k := 0) (by decide)) sh_0 rfl rfl rfl (Nat.le_of_ble_eq_true rfl) ⟨Nat.le_of_ble_eq_true rfl, Nat.le_of_ble_eq_true rfl⟩ ⟨Nat.le_of_ble_eq_true rfl, Nat.le_of_ble_eq_true rfl⟩ ?_
  refine J.i2l hX 5 rfl ?_
  refine J.last hX 6 48 (hX.lt (k := 48) (by decide)) sh_48 (inb_vp (by decide)) rfl ?_
  refine J.goto (tgt := 15) hX 7 rfl (by decide) ?_
  refine J.iconst (v := 0) hX 11 rfl (by decide) ?_
  exact J.lret hX hr 12 rfl (fun _ _ => rfl) rfl (by decide) (by decide)
set_option maxRecDepth 100000 in
theorem mL_count_1 {l : Launch} {D : va_G} {cA : Nat → ClassId} {ad : Nat → Nat} {n : Nat} {A : Nat → Prop} {sa : Nat → Nat} {M Mf : Mem} {l1 : Int32} (hl : l.stackTraces = false) (h : X4_count M l1 = some (.inr "java/lang/IllegalArgumentException", Mf)) : LC l D cA ad n A sa yL_count cL_count 4 hL_count 8 123 [.ref (ad 0), .int l1, .ref (ad 48)] M 1 0 Mf := by
  refine LC.of (kt := kL_count) (by decide) kL_count_ok (Nat.le_of_ble_eq_true rfl) ?_
  intro p e s m args below meth c hX hr ht
  refine J.sub (L' := [(0, .ref (ad 0)), (1, .int l1), (2, .ref (ad 48))]) [0, 1, 2] rfl ?_
  refine J.aload_n hX 0 2 rfl rfl ?_
  refine J.iconst (v := 0) hX 1 rfl (by decide) ?_
  refine J.aload_n hX 2 0 rfl rfl ?_
  refine J.iload_n hX 3 1 rfl rfl ?_
  refine J.take1 (E := "java/lang/IllegalArgumentException") (nm := "java/lang/IllegalArgumentException") (As := [.int l1]) (rest := [.int 0, .ref (ad 48)]) (k := 0) hX ht 4 rfl (mX4_count (res := .inr "java/lang/IllegalArgumentException") hl h) okX4_count w_685 (hX.lt (k := 0) (by decide)) sh_0 rfl rfl rfl (Nat.le_of_ble_eq_true rfl) ⟨Nat.le_of_ble_eq_true rfl, Nat.le_of_ble_eq_true rfl⟩ ⟨Nat.le_of_ble_eq_true rfl, Nat.le_of_ble_eq_true rfl⟩ (by decide) (by decide) w_101 (by simp [nwL]) (fun q9 => ?_)
  refine J.astore_n hX 8 rfl (by decide) rfl ?_
  refine J.iconst (v := 1) hX 9 rfl (by decide) ?_
  exact J.lret hX hr 10 rfl (fun _ _ => rfl) rfl (by decide) (by decide)
