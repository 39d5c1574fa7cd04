/-! CONTRACTS: 'from the memory M with the arguments av the method comes to out (returned, or thrown: the class) with the memory M1'. -/
def oc (out : Option Value ⊕ String) : Nat := match out with
  | .inl _ => 0
  | .inr _ => 1
def os (out : Option Value ⊕ String) : Nat := match out with
  | .inl _ => 0
  | .inr _ => 6
def PP (D : va_G) (cA : Nat → ClassId) (ad : Nat → Nat) (n : Nat) (A : Nat → Prop) (sa : Nat → Nat) (M : Mem) : State → Prop := fun U =>
  va_P D cls6 (Wd cA ad n M) U.heap ∧ va_K D cls6 (ty4 cA) U ∧ Dd A ad n ∧ (∀ q, U.heap.size ≤ q → A q) ∧ 49 ≤ n ∧ KS A sa U U.heap
def QQ (D : va_G) (cA : Nat → ClassId) (ad : Nat → Nat) (n : Nat) (A : Nat → Prop) (out : Option Value ⊕ String) (M1 : Mem) : Array Value → State → Outcome → State → Prop := fun _ st o t =>
  ∃ v, out = .inl v ∧ o = .returned v ∧ va_P D cls6 (Wd cA ad n M1) t.heap ∧ va_F A st t
def XX (D : va_G) (cA : Nat → ClassId) (ad : Nat → Nat) (n : Nat) (A : Nat → Prop) (out : Option Value ⊕ String) (M1 : Mem) : String → State → State → Prop := fun E st t =>
  out = .inr E ∧ va_P D cls6 (Wd cA ad n M1) t.heap ∧ va_F A st t
abbrev rm4 (fr lo : Nat) (out : Option Value ⊕ String) : Room := { frames := fr, cells := oc out, slots := os out, locals := lo }
def CT (l : Launch) (D : va_G) (cA : Nat → ClassId) (ad : Nat → Nat) (n : Nat) (A : Nat → Prop) (sa : Nat → Nat) (y : MethodName) (cc : ByteArray) (maxL : Nat) (ret : Option FieldType) (fr lo : Nat) (av : List Value) (M : Mem) (out : Option Value ⊕ String) (M1 : Mem) : Prop :=
  vx_Met l y (Cond.code y cc maxL ret :: wsL_law) (rm4 fr lo out) (va_Pc av (PP D cA ad n A sa M)) (QQ D cA ad n A out M1) (XX D cA ad n A out M1) (oc out) (os out) A
theorem KS.moved {A : Nat → Prop} {sa : Nat → Nat} {u U : State} {H : Heap} (hW : u.WarmedH U.vm) (h : KS A sa u H) : KS A sa U H :=
  ⟨vx_Zq.moved hW.alike h.1, vx_Zq.moved hW.alike h.2.1, vk_R.warm hW h.2.2.1, vk_R.warm hW h.2.2.2.1, vk_R.warm hW h.2.2.2.2.1, h.2.2.2.2.2.warm hW⟩
theorem KS.kept {A : Nat → Prop} {sa : Nat → Nat} {U : State} {H H1 : Heap} (h : KS A sa U H) (hq : ∀ a : Nat, a < H.size → ¬ A a → H1[a]? = H[a]?) : KS A sa U H1 :=
  ⟨h.1.kept hq, h.2.1.kept hq, h.2.2⟩
theorem PP.blind {D : va_G} {cA : Nat → ClassId} {ad : Nat → Nat} {n : Nat} {A : Nat → Prop} {sa : Nat → Nat} {M : Mem} {av : List Value} : FrameBlind (va_Pc av (PP D cA ad n A sa M)) := by
  intro a U g mk q
  obtain ⟨q0, q1, q2, q3, q4, q5, q6⟩ := q
  have q7 : KS A sa (U.calling g mk a) U.heap := ⟨vx_Zq.moved (u := U) (U := U.calling g mk a) (Vm.Alike.refl U.vm) q6.1, vx_Zq.moved (u := U) (U := U.calling g mk a) (Vm.Alike.refl U.vm) q6.2.1, vk_R.same (u := U) (U := U.calling g mk a) rfl q6.2.2.1, vk_R.same (u := U) (U := U.calling g mk a) rfl q6.2.2.2.1, vk_R.same (u := U) (U := U.calling g mk a) rfl q6.2.2.2.2.1, NW.same (u := U) (U := U.calling g mk a) rfl q6.2.2.2.2.2⟩
  exact ⟨q0, q1, va_K.moved (u := U) (U := U.calling g mk a) (Vm.Alike.refl U.vm) q2, q3, q4, q5, q7⟩
section JC
variable {p : Program} {l : Launch} {e : Env} {R : Room} {s : State} {m : MethodId} {args : Array Value} {below : List Frame} {meth : Method} {c : Code} {D : va_G} {cA : Nat → ClassId} {ad : Nat → Nat} {n : Nat} {A : Nat → Prop} {sa : Nat → Nat} {nL cells slots : Nat} {Q : State → Prop} {cc : ByteArray} {own : String} {kt : List (Nat × Instr × Nat)} {M M1 : Mem} {pc : Nat} {L : List (Nat × Value)} {st : List Value}
theorem PP.here (hX : Cx p s m args meth c D cA ad n A sa cc nL own kt) {H : Heap} {locs : List Loc} (hP : va_P D cls6 (Wd cA ad n M) H) (hS : va_S A s.heap H locs) : ∀ U : State, U.heap = H → s.WarmedH U.vm → PP D cA ad n A sa M U := by
  intro U hU hW
  refine ⟨by rw [hU]; exact hP, va_K.moved hW.alike hX.kn, hX.dd, fun q hq => hX.hA q ?_, hX.n49, ?_⟩
  · rw [hU] at hq
    exact Nat.le_trans hS.1 hq
  · rw [hU]
    exact KS.moved hW (hX.ks.kept hS.2.1)
theorem CT.of {y : MethodName} {maxL : Nat} {ret : Option FieldType} {fr lo : Nat} {av : List Value} {out : Option Value ⊕ String} (hy : plainName y.cls = true) (hkt : ∀ (i : Nat) (q : Nat × Instr × Nat), kt[i]? = some q → decode cc q.1 = .ok q.2) (hlen : (lg_sl av).length ≤ maxL)
    (body : ∀ (p : Program) (e : Env) (s : State) (m : MethodId) (args : Array Value) (below : List Frame) (meth : Method) (c : Code), Cx p s m args meth c D cA ad n A sa cc maxL y.cls kt → meth.sig.returnType = ret → (∀ x ∈ c.exceptionTable.toList, False) →
      J p l e (rm4 fr lo out) s m args below meth c D cA ad n A maxL 0 0 (vx_MQ below (QQ D cA ad n A out M1) (XX D cA ad n A out M1) args s (oc out) (os out) A) M 0 (lv_args 0 av) []) :
    CT l D cA ad n A sa y cc maxL ret fr lo av M out M1 := by
  unfold CT
  refine vx_ofW (cc := cc) (maxL := maxL) (ret := ret) hy rfl ?_
  intro p e s m args below meth c s₁ B hml ht hv
  obtain ⟨rfl, hP, hK, hD, hA, hn, hks⟩ := hv
  have hts := atoms_spec (ws := Cond.code y cc maxL ret :: wsL_law) B.pre
  have hown : s.vm.findClass y.cls = some m.cls := findClass_of_methodNamed B.named
  have hl := lv_entry av hlen
  rw [lg_entry_eq]
  exact body p e s m av.toArray below meth c ⟨B.exec, B.bytes, hml, hown, fun w hw => hts w (List.mem_cons_of_mem _ hw), hK, hD, hA, hn, hks, B.notSynchronized, hkt⟩ B.returns ht s.heap [] _ hP va_S.rf hl
theorem J.iret (hX : Cx p s m args meth c D cA ad n A sa cc nL own kt) (hr : meth.sig.returnType = some .int) (i : Nat) {v : Int32} (hk : kt[i]? = some (pc, .ireturn, 1)) :
    J p l e R s m args below meth c D cA ad n A nL 0 0 (vx_MQ below (QQ D cA ad n A (.inl (some (.int v))) M) (XX D cA ad n A (.inl (some (.int v))) M) args s 0 0 A) M pc L [.int v] := fun H locs ls hP hS hL =>
  vx_ret (W.iret hX.ex hX.by hr (fun t ht hW => ⟨_, rfl, rfl, by rw [ht]; exact hP, hS.F ht⟩) hS.2.2 (hX.dec hk) hX.lk)
theorem J.zret (hX : Cx p s m args meth c D cA ad n A sa cc nL own kt) (hr : meth.sig.returnType = some .boolean) (i : Nat) {v : Int32} (hv : narrow .boolean (.int v) = .int v) (hk : kt[i]? = some (pc, .ireturn, 1)) :
    J p l e R s m args below meth c D cA ad n A nL 0 0 (vx_MQ below (QQ D cA ad n A (.inl (some (.int v))) M) (XX D cA ad n A (.inl (some (.int v))) M) args s 0 0 A) M pc L [.int v] := fun H locs ls hP hS hL =>
  vx_ret (W.zret hX.ex hX.by hr hv (fun t ht hW => ⟨_, rfl, rfl, by rw [ht]; exact hP, hS.F ht⟩) hS.2.2 (hX.dec hk) hX.lk)
theorem J.vret (hX : Cx p s m args meth c D cA ad n A sa cc nL own kt) (hr : meth.sig.returnType = none) (i : Nat) (hk : kt[i]? = some (pc, .return_, 1)) :
    J p l e R s m args below meth c D cA ad n A nL 0 0 (vx_MQ below (QQ D cA ad n A (.inl none) M) (XX D cA ad n A (.inl none) M) args s 0 0 A) M pc L [] := fun H locs ls hP hS hL =>
  vx_ret (W.vret hX.ex hX.by hr (fun t ht hW => ⟨_, rfl, rfl, by rw [ht]; exact hP, hS.F ht⟩) hS.2.2 (hX.dec hk) hX.lk)
theorem run_ret {H : Heap} {locs : List Loc} {ls : Array Slot} {st0 rest : List Value} {a : Array Value} {v : Option Value} (hr : vx_Run p l e R s m args below meth c H locs cells slots 0 0 (F0 m pc ls st0) rest (QQ D cA ad n A (.inl v) M1 a) (XX D cA ad n A (.inl v) M1) A) (hS : va_S A s.heap H locs)
    (kk : ∀ (H1 : Heap) (locs1 : List Loc), va_P D cls6 (Wd cA ad n M1) H1 → va_S A s.heap H1 locs1 → W p l e R s m args below meth c H1 locs1 cells slots Q (F0 m (pc + 3) ls (v.toList ++ rest))) : W p l e R s m args below meth c H locs cells slots Q (F0 m pc ls st0) := by
  intro T hT X
  rcases hr T hT X with ⟨v', st₀, t, T', L, h0, X', hL, e1, e2, ⟨w, hw, hv, hb, hF⟩, st⟩ | ⟨q, st₀, t, T', L, E, ce, h0, X', hL, e1, e2, ⟨hp, -⟩, -⟩
  · cases hw
    cases hv
    obtain ⟨k1, k2, k3⟩ := vx_keep h0 e1 hS (fun _ _ h => h) (fun _ h => h) hL hF
    obtain ⟨t2, a1, b1⟩ := kk T'.heap (locs ++ L) (by rw [e1]; exact hb) k3 T' rfl X'
    exact ⟨t2, st t2 a1, b1⟩
  · cases hp
theorem run_thr {H : Heap} {locs : List Loc} {ls : Array Slot} {st0 rest : List Value} {a : Array Value} {E : String} (hr : vx_Run p l e R s m args below meth c H locs cells slots 1 6 (F0 m pc ls st0) rest (QQ D cA ad n A (.inr E) M1 a) (XX D cA ad n A (.inr E) M1) A) (hS : va_S A s.heap H locs)
    (kk : ∀ (H1 : Heap) (locs1 : List Loc) (q9 : Addr) (ce : Cell), va_P D cls6 (Wd cA ad n M1) H1 → va_S A s.heap H1 locs1 → H1[q9]? = some ce → ce.vm = .none → s.vm.findClass E = some ce.cls → vx_W p l e R s m args below meth c H1 locs1 (cells + 1) (slots + 6) Q (F0 m pc ls rest) q9) : W p l e R s m args below meth c H locs cells slots Q (F0 m pc ls st0) := by
  intro T hT X
  rcases hr T hT X with ⟨v', st₀, t, T', L, h0, X', hL, e1, e2, ⟨w, hw, -⟩, st⟩ | ⟨q, st₀, t, T', L, E', ce, h0, X', hL, e1, e2, ⟨hp, hb, hF⟩, hce, hcv, hcl, st⟩
  · cases hw
  · cases hp
    obtain ⟨k1, k2, k3⟩ := vx_keep h0 e1 hS (fun _ _ h => h) (fun _ h => h) hL hF
    obtain ⟨t2, a1, b1⟩ := kk T'.heap (locs ++ L) q ce (by rw [e1]; exact hb) k3 (by rw [e1]; exact hce) hcv hcl T' rfl X'
    exact ⟨t2, st.trans a1, b1⟩
theorem gdW {ws : List Cond} (h : ∀ w ∈ ws, w ∈ wsL_law) : GoodIn wsL_law ws := fun w hw => ⟨h w hw, (gi_law w (h w hw)).2⟩
theorem gdV {own C : String} {ix maxL : Nat} {y : MethodName} {bytes : ByteArray} {ret : Option FieldType} (h1 : Cond.methodLink own ix y ∈ wsL_law) (h2 : Cond.instanceMethod y ∈ wsL_law) (h3 : Cond.selects C y y ∈ wsL_law) (h4 : Cond.initialized C ∈ wsL_law) (h5 : Cond.code y bytes maxL ret ∈ wsL_law) : GoodIn wsL_law (wsV own ix C y (Cond.code y bytes maxL ret :: wsL_law)) := by
  refine gdW fun w hw => ?_
  unfold wsV at hw
  simp only [List.cons_append, List.nil_append, List.mem_cons] at hw
  rcases hw with rfl | rfl | rfl | rfl | rfl | hw
  · exact h1
  · exact h2
  · exact h3
  · exact h4
  · exact h5
  · exact hw
theorem gdS {own : String} {ix maxL : Nat} {y : MethodName} {bytes : ByteArray} {ret : Option FieldType} (h1 : Cond.methodLink own ix y ∈ wsL_law) (h2 : Cond.static y ∈ wsL_law) (h4 : Cond.initialized y.cls ∈ wsL_law) (h5 : Cond.code y bytes maxL ret ∈ wsL_law) : GoodIn wsL_law (va_wsS own ix y (Cond.code y bytes maxL ret :: wsL_law)) := by
  refine gdW fun w hw => ?_
  unfold va_wsS at hw
  simp only [List.cons_append, List.nil_append, List.mem_cons] at hw
  rcases hw with rfl | rfl | rfl | rfl | hw
  · exact h1
  · exact h2
  · exact h4
  · exact h5
  · exact hw
/-- what a call of y asks of the words: all of it decided by program, a row a method -/
def OKV (C : String) (y : MethodName) (bytes : ByteArray) (maxL : Nat) (ret : Option FieldType) (k : Nat) : Prop := Cond.instanceMethod y ∈ wsL_law ∧ Cond.selects C y y ∈ wsL_law ∧ Cond.initialized C ∈ wsL_law ∧ Cond.code y bytes maxL ret ∈ wsL_law ∧ y.cls = C ∧ y.cls ≠ "java/lang/invoke/MethodHandle" ∧ y.cls ≠ "java/lang/invoke/VarHandle" ∧ (parseMethodDescriptor y.desc).map (fun d => d.parameters.length) = some k
def OKS (y : MethodName) (bytes : ByteArray) (maxL : Nat) (ret : Option FieldType) (k : Nat) : Prop := Cond.static y ∈ wsL_law ∧ Cond.initialized y.cls ∈ wsL_law ∧ Cond.code y bytes maxL ret ∈ wsL_law ∧ y.cls ≠ "java/lang/invoke/MethodHandle" ∧ y.cls ≠ "java/lang/invoke/VarHandle" ∧ (parseMethodDescriptor y.desc).map (fun d => d.parameters.length) = some k
theorem runV {y : MethodName} {C : String} {bytes : ByteArray} {maxL nP fr lo ix k : Nat} {ret : Option FieldType} {As rest : List Value} {out : Option Value ⊕ String} {H : Heap} {locs : List Loc} {ls : Array Slot} (hX : Cx p s m args meth c D cA ad n A sa cc nL own kt) (hP : va_P D cls6 (Wd cA ad n M) H) (hS : va_S A s.heap H locs) (hL : lv_has ls nL L) (i : Nat) (hk : kt[i]? = some (pc, .invokevirtual ix, 3))
    (hc : CT l D cA ad n A sa y bytes maxL ret fr lo (.ref (ad k) :: As) M out M1) (hy : OKV C y bytes maxL ret nP) (hm : Cond.methodLink own ix y ∈ wsL_law) {ci : Nat} {fs : List (Option Nat)} {T : u_T} {N : Nat} (hkn : k < n) (hs : sh0 k = .inr (ci, fs)) (hcl : cls6[ci]? = some (C, T, N)) (hn : As.length = nP) (hst : st = As.reverse ++ .ref (ad k) :: rest) (hw : (rest.map fun v => v.category).sum ≤ 8) (hR : fr + 1 ≤ R.frames ∧ 8 + (maxL + 11) + lo ≤ R.locals) (hf : cells + oc out ≤ R.cells ∧ slots + os out ≤ R.slots) :
    vx_Run p l e R s m args below meth c H locs cells slots (oc out) (os out) (F0 m pc ls st) rest (QQ D cA ad n A out M1 (Value.ref (ad k) :: As).toArray) (XX D cA ad n A out M1) A :=
  vx_runV (C := C) (bytes := bytes) (maxL := maxL) (ret := ret) (n := nP) (As := As) ⟨hX.ex, hX.by, hX.ml, hX.ow, hX.ws⟩ hc (cwV nP hX.ws (gdV hm hy.1 hy.2.1 hy.2.2.1 hy.2.2.2.1) rfl rfl rfl hy.2.2.2.2 hR) ⟨PP.blind, va_recv hX.kn hP hcl (Wd_o hkn hs), fun U hU hW => ⟨rfl, PP.here hX hP hS U hU hW⟩⟩ rfl hn hL.1 hst (lv_room hw) (hX.dec hk) hf
theorem runS {y : MethodName} {bytes : ByteArray} {maxL nP fr lo ix : Nat} {ret : Option FieldType} {As rest : List Value} {out : Option Value ⊕ String} {H : Heap} {locs : List Loc} {ls : Array Slot} (hX : Cx p s m args meth c D cA ad n A sa cc nL own kt) (hP : va_P D cls6 (Wd cA ad n M) H) (hS : va_S A s.heap H locs) (hL : lv_has ls nL L) (i : Nat) (hk : kt[i]? = some (pc, .invokestatic ix, 3))
    (hc : CT l D cA ad n A sa y bytes maxL ret fr lo As M out M1) (hy : OKS y bytes maxL ret nP) (hm : Cond.methodLink own ix y ∈ wsL_law) (hn : As.length = nP) (hst : st = As.reverse ++ rest) (hw : (rest.map fun v => v.category).sum ≤ 8) (hR : fr + 1 ≤ R.frames ∧ 8 + (maxL + 11) + lo ≤ R.locals) (hf : cells + oc out ≤ R.cells ∧ slots + os out ≤ R.slots) :
    vx_Run p l e R s m args below meth c H locs cells slots (oc out) (os out) (F0 m pc ls st) rest (QQ D cA ad n A out M1 As.toArray) (XX D cA ad n A out M1) A :=
  vx_runS (bytes := bytes) (maxL := maxL) (ret := ret) (n := nP) (As := As) ⟨hX.ex, hX.by, hX.ml, hX.ow, hX.ws⟩ hc (va_cwS nP hX.ws (gdS hm hy.1 hy.2.1 hy.2.2.1) rfl rfl rfl hy.2.2.2 hR) ⟨PP.blind, fun U hU hW => ⟨rfl, PP.here hX hP hS U hU hW⟩⟩ rfl hn hL.1 hst (lv_room hw) (hX.dec hk) hf
/-- a call that returns -/
theorem J.callV {y : MethodName} {C : String} {bytes : ByteArray} {maxL nP fr lo ix k : Nat} {ret : Option FieldType} {As rest : List Value} {v : Option Value} (hX : Cx p s m args meth c D cA ad n A sa cc nL own kt) (i : Nat) (hk : kt[i]? = some (pc, .invokevirtual ix, 3))
    (hc : CT l D cA ad n A sa y bytes maxL ret fr lo (.ref (ad k) :: As) M (.inl v) M1) (hy : OKV C y bytes maxL ret nP) (hm : Cond.methodLink own ix y ∈ wsL_law) {ci : Nat} {fs : List (Option Nat)} {T : u_T} {N : Nat} (hkn : k < n) (hs : sh0 k = .inr (ci, fs)) (hcl : cls6[ci]? = some (C, T, N)) (hn : As.length = nP) (hst : st = As.reverse ++ .ref (ad k) :: rest) (hw : (rest.map fun v => v.category).sum ≤ 8) (hR : fr + 1 ≤ R.frames ∧ 8 + (maxL + 11) + lo ≤ R.locals) (hf : cells ≤ R.cells ∧ slots ≤ R.slots)
    (kk : J p l e R s m args below meth c D cA ad n A nL cells slots Q M1 (pc + 3) L (v.toList ++ rest)) : J p l e R s m args below meth c D cA ad n A nL cells slots Q M pc L st := fun H locs ls hP hS hL =>
  run_ret (runV hX hP hS hL i hk hc hy hm hkn hs hcl hn hst hw hR hf) hS (fun H1 locs1 hP1 hS1 => kk H1 locs1 ls hP1 hS1 hL)
theorem J.callS {y : MethodName} {bytes : ByteArray} {maxL nP fr lo ix : Nat} {ret : Option FieldType} {As rest : List Value} {v : Option Value} (hX : Cx p s m args meth c D cA ad n A sa cc nL own kt) (i : Nat) (hk : kt[i]? = some (pc, .invokestatic ix, 3))
    (hc : CT l D cA ad n A sa y bytes maxL ret fr lo As M (.inl v) M1) (hy : OKS y bytes maxL ret nP) (hm : Cond.methodLink own ix y ∈ wsL_law) (hn : As.length = nP) (hst : st = As.reverse ++ rest) (hw : (rest.map fun v => v.category).sum ≤ 8) (hR : fr + 1 ≤ R.frames ∧ 8 + (maxL + 11) + lo ≤ R.locals) (hf : cells ≤ R.cells ∧ slots ≤ R.slots)
    (kk : J p l e R s m args below meth c D cA ad n A nL cells slots Q M1 (pc + 3) L (v.toList ++ rest)) : J p l e R s m args below meth c D cA ad n A nL cells slots Q M pc L st := fun H locs ls hP hS hL =>
  run_ret (runS hX hP hS hL i hk hc hy hm hn hst hw hR hf) hS (fun H1 locs1 hP1 hS1 => kk H1 locs1 ls hP1 hS1 hL)
/-- a call that throws, in a method without handlers: it goes on -/
theorem J.passS {y : MethodName} {bytes : ByteArray} {maxL nP fr lo ix : Nat} {ret : Option FieldType} {As rest : List Value} {E : String} (hX : Cx p s m args meth c D cA ad n A sa cc nL own kt) (ht : ∀ x ∈ c.exceptionTable.toList, False) (i : Nat) (hk : kt[i]? = some (pc, .invokestatic ix, 3))
    (hc : CT l D cA ad n A sa y bytes maxL ret fr lo As M (.inr E) M1) (hy : OKS y bytes maxL ret nP) (hm : Cond.methodLink own ix y ∈ wsL_law) (hn : As.length = nP) (hst : st = As.reverse ++ rest) (hw : (rest.map fun v => v.category).sum ≤ 8) (hR : fr + 1 ≤ R.frames ∧ 8 + (maxL + 11) + lo ≤ R.locals) (hf : 1 ≤ R.cells ∧ 6 ≤ R.slots) :
    J p l e R s m args below meth c D cA ad n A nL 0 0 (vx_MQ below (QQ D cA ad n A (.inr E) M1) (XX D cA ad n A (.inr E) M1) args s 1 6 A) M pc L st := fun H locs ls hP hS hL =>
  run_thr (runS hX hP hS hL i hk hc hy hm hn hst hw hR (by rw [Nat.zero_add, Nat.zero_add]; exact hf)) hS (fun H1 locs1 q9 ce hP1 hS1 hq hv hcl =>
    vx_out (fun x hx => (ht x hx).elim) hX.lk hq hv hcl (fun t hT hW => ⟨rfl, by rw [hT]; exact hP1, hS1.F hT⟩) hS1.2.2 (Nat.le_refl _) (Nat.le_refl _))
end JC
