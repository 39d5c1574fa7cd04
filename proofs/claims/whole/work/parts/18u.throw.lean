section TU
variable {p : Program} {l : Launch} {e : Env} {R : Room} {s : State} {m : MethodId} {args : Array Value} {below : List Frame} {meth : Method} {c : Code} {H : Heap} {locs : List Loc} {cells slots : Nat} {free : Addr → Prop} {ls : Array Slot} {rest : List Value} {Qc : Array Value → State → Outcome → State → Prop} {XC : String → State → State → Prop}
/-- 'throw new NoSuchElementException(text)': as the kit's vx_throwS, over the chain of part 18t -/
theorem vx_throwN {cc : ByteArray} {pc : Nat} (hexec : p.tables.exec = Jvm.exec) (hb : c.code = cc) (hl : l.stackTraces = false) {text : String} {ik is mc ms sa : Nat} {A : Nat → Prop}
    (hown : s.vm.findClass RX4 = some m.cls) (hk : (Cond.classLink RX4 ik "java/util/NoSuchElementException").before args s = true) (hini : (Cond.initialized "java/util/NoSuchElementException").before args s = true) (hstr : vk_R RX4 is text sa s) (hat : ∀ w ∈ atN, w.before args s = true)
    (hgood : ∀ w ∈ Cond.classLink RX4 ik "java/util/NoSuchElementException" :: Cond.initialized "java/util/NoSuchElementException" :: atN, vx_ot w = true)
    (hU : vx_Zq Bundle.tN "UNASSIGNED_STACK" Bundle.steD A s s.heap) (hN : vx_Zq Bundle.tN "SUPPRESSED_SENTINEL" Bundle.listD A s s.heap) (hS : va_S A s.heap H locs) (hsize : ls.size = c.maxLocals)
    (d0 : decode cc pc = .ok (.new ik, 3)) (d3 : decode cc (pc + 3) = .ok (.dup, 1)) (d4 : decode cc (pc + 4) = .ok (.ldc is, 2)) (d6 : decode cc (pc + 6) = .ok (.invokespecial 162, 3)) (d9 : decode cc (pc + 9) = .ok (.athrow, 1))
    (hout : ∀ x ∈ c.exceptionTable.toList, covers x (pc + 9) = false)
    (hRframes : 5 < R.frames) (hRlocals : (rest.map fun v => v.category).sum + 82 ≤ R.locals) (hRcells : cells + 1 ≤ R.cells) (hRslots : slots + 6 ≤ R.slots) (hlocks : meth.locks = false)
    (hx : ∀ t : State, s.vm.Alike t.vm → H.size ≤ t.heap.size → (∀ q : Nat, q < H.size → t.heap[q]? = H[q]?) → XC "java/util/NoSuchElementException" s t)
    (hf : ∀ z ∈ locs, free z.base) (hc : cells + 1 ≤ mc) (hs : slots + 6 ≤ ms) :
    W p l e R s m args below meth c H locs cells slots (vx_MQ below Qc XC args s mc ms free) (F0 m pc ls rest) := by
  intro T hT X
  have htr : e.platform.stackTraces = false := (show e.platform.stackTraces = l.stackTraces by rw [X.admits.platform]).trans hl
  have Y := vx_rebase X (R' := { frames := R.frames, locals := R.locals, cells := 1, slots := 6 }) (Nat.le_refl _) (Nat.le_refl _) hRcells hRslots
  obtain ⟨s', hA⟩ : ∃ z, z = (T.setVm s.vm).setFrames (.invoking m args :: below) := ⟨_, rfl⟩
  rw [← hA] at Y
  have hvm : s'.vm = s.vm := by rw [hA]; rfl
  have hhp : s'.heap = H := by rw [hA]; exact hT
  have hW0 : s.WarmedH s'.vm := by rw [hvm]; exact State.WarmedH.refl s
  have hat' : ∀ w ∈ atN, w.before args s' = true := fun w hw => vx_ot_at hW0 hvm.symm (hgood w (List.mem_cons_of_mem _ (List.mem_cons_of_mem _ hw))) (hat w hw)
  have hk' : (Cond.classLink RX4 ik "java/util/NoSuchElementException").before args s' = true := vx_ot_at hW0 hvm.symm (hgood _ List.mem_cons_self) hk
  have hini' : (Cond.initialized "java/util/NoSuchElementException").before args s' = true := vx_ot_at hW0 hvm.symm (hgood _ (List.mem_cons_of_mem _ List.mem_cons_self)) hini
  have hU' : vx_Zq Bundle.tN "UNASSIGNED_STACK" Bundle.steD A s' s'.heap := by rw [hhp]; exact vx_Zq.moved hW0.alike (hU.kept hS.2.1)
  have hN' : vx_Zq Bundle.tN "SUPPRESSED_SENTINEL" Bundle.listD A s' s'.heap := by rw [hhp]; exact vx_Zq.moved hW0.alike (hN.kept hS.2.1)
  have h : ∀ w ∈ atN0, w.before args s' = true := vx_own hat' (vx_isRefq hU'.1) (vx_isRefq hN'.1) hU'.2.word hN'.2.word
  have hown' : s'.vm.findClass RX4 = some m.cls := by rw [hvm]; exact hown
  have hins : (Cond.instantiable "java/util/NoSuchElementException" 6).before args s' = true := h _ (by simp [atN0])
  obtain ⟨vm₁, cX, kX, hfX, hkX, -, -, X₁, st1⟩ := Y.newCold hexec (own := RX4) (C := "java/util/NoSuchElementException") (index := ik) (n := 6) hown' hk' hins hini'
    (g := F0 m pc ls rest) rfl (by rw [hb]; exact d0) (Nat.le_refl _) (Nat.le_refl _)
  generalize hT1 : (T.setVm vm₁).pushCell { cls := cX, slots := kX.instanceTypes.map defaultValue, vm := .none } = T1 at X₁ st1
  have hcat : (Value.ref T.heap.size).category = 1 := rfl
  have hcellA : T1.heap[T.heap.size]? = some (freshCell cX kX) := by rw [← hT1]; exact State.heap_pushCell_size _ _
  have d3' : decode c.code (pc + 3) = .ok (.dup, 1) := by rw [hb]; exact d3
  have d4' : decode c.code (pc + 4) = .ok (.ldc is, 2) := by rw [hb]; exact d4
  have hstr' : vk_R RX4 is text sa s' := vk_R.warm hW0 hstr
  obtain ⟨U, hsteps, hrun, hend, hW, hsame, ce, hce, hcev, hcec⟩ := ctorThrowN X₁ hexec htr hown' h (fun x hx => nomatch hx) hfX hkX hcellA (by rw [hhp, hT]; exact Nat.le_refl _) (msg := .ref sa) rfl
    (g := { method := m, pc := pc + 6, locals := ls, stack := .ref sa :: .ref T.heap.size :: .ref T.heap.size :: rest, locked := none }) rfl hsize rfl rfl (rest := rest) rfl
    (by rw [hb]; exact d6) (by rw [hb]; exact d9) hout hRframes (by simp only [List.map_cons, List.sum_cons, hcat]; omega) hlocks
  obtain ⟨f1, f2⟩ := vx_frame hsame
  rw [hhp] at f1 f2
  have hWs : s.WarmedH U.vm := State.WarmedH.trans hW0 hW
  have hcl : s.vm.findClass "java/util/NoSuchElementException" = some ce.cls := by
    rw [hvm] at hcec
    exact hcec
  have hall : s.sameButNew ({ U with vm := s.vm } : State) locs mc ms := by
    subst hA
    obtain ⟨e1, e2⟩ := hsame
    rw [State.setFrames_setFrames] at e1
    have h2 : (T.setVm s.vm).sameButNew ({ U with vm := s.vm } : State) [] (0 + 1) (0 + 6) := ⟨e1, e2⟩
    have h3 := X.same.trans h2
    rw [List.append_nil] at h3
    exact h3.mono hc hs
  refine ⟨U, ?_, .threw T.heap.size, hrun, hend, Or.inr ⟨T.heap.size, rfl, _, ce, locs, hx U hWs.alike f1 (fun q hq => f2 q hq (fun z hz => nomatch hz)), hce, hcev, hcl, hWs, hall, hf⟩⟩
  refine st1 _ ?_
  show Steps p.tables e below (T1.setTop { method := m, pc := pc + 3, locals := ls, stack := .ref T.heap.size :: rest, locked := none }) _
  jvm_step X₁.here [X₁.here.top, hexec, d3', Value.category]
  exact X₁.ldcString hexec (own := RX4) (text := text) (index := is) (a := sa) hown' hstr'.1 hstr'.2
    (g := { method := m, pc := pc + 4, locals := ls, stack := .ref T.heap.size :: .ref T.heap.size :: rest, locked := none }) rfl d4' _ hsteps
end TU
section TV
variable {p : Program} {l : Launch} {e : Env} {R : Room} {s : State} {m : MethodId} {args : Array Value} {below : List Frame} {meth : Method} {c : Code} {D : va_G} {cA : Nat → ClassId} {ad : Nat → Nat} {n : Nat} {A : Nat → Prop} {sa : Nat → Nat} {nL : Nat} {cc : ByteArray} {kt : List (Nat × Instr × Nat)} {M : Mem} {pc : Nat} {L : List (Nat × Value)} {st : List Value}
theorem thr_X {E : String} {H : Heap} {locs : List Loc} (hP : va_P D cls6 (Wd cA ad n M) H) (hS : va_S A s.heap H locs) : ∀ t : State, s.vm.Alike t.vm → H.size ≤ t.heap.size → (∀ q : Nat, q < H.size → t.heap[q]? = H[q]?) → XX D cA ad n A (.inr E) M E s t := by
  intro t _ hz hq
  refine ⟨rfl, hP.kept (fun k q hk => hq q.1 (hP k q hk).lt), ⟨Nat.le_trans hS.1 hz, fun q h1 h2 => ?_⟩⟩
  rw [hq q (Nat.lt_of_lt_of_le h1 hS.1)]
  exact hS.2.1 q h1 h2
theorem J.thrN (hX : Cx p s m args meth c D cA ad n A sa cc nL RX4 kt) (hl : l.stackTraces = false) (ht : ∀ x ∈ c.exceptionTable.toList, False) (i0 i1 i2 i3 i4 : Nat) (h0 : kt[i0]? = some (pc, .new 158, 3)) (h1 : kt[i1]? = some (pc + 3, .dup, 1)) (h2 : kt[i2]? = some (pc + 4, .ldc 160, 2)) (h3 : kt[i3]? = some (pc + 6, .invokespecial 162, 3)) (h4 : kt[i4]? = some (pc + 9, .athrow, 1))
    (hk : Cond.classLink RX4 158 "java/util/NoSuchElementException" ∈ wsL_law) (hi : Cond.initialized "java/util/NoSuchElementException" ∈ wsL_law) (hfr : 5 < R.frames) (hlo : (st.map fun v => v.category).sum + 82 ≤ R.locals) (hRc : 1 ≤ R.cells) (hRs : 6 ≤ R.slots) :
    J p l e R s m args below meth c D cA ad n A nL 0 0 (vx_MQ below (QQ D cA ad n A (.inr "java/util/NoSuchElementException") M) (XX D cA ad n A (.inr "java/util/NoSuchElementException") M) args s 1 6 A) M pc L st := fun H locs ls hP hS hL =>
  vx_throwN hX.ex hX.by hl hX.ow (hX.ws _ hk) (hX.ws _ hi) hX.ks.2.2.1 (vx_hat (fun w hw => hX.ws w (in_x0 w hw)) at_NSE (fun w hw => va_Nw.use (nwL_tab w hw) (hX.ks.2.2.2.2.2.1 w hw))) ot_NSE hX.ks.1 hX.ks.2.1 hS (hL.1.trans hX.ml.symm) (hX.dec h0) (hX.dec h1) (hX.dec h2) (hX.dec h3) (hX.dec h4) (fun x hx => (ht x hx).elim) hfr hlo (by omega) (by omega) hX.lk (thr_X hP hS) hS.2.2 (by omega) (by omega)
theorem J.thrA (hX : Cx p s m args meth c D cA ad n A sa cc nL RX4 kt) (hl : l.stackTraces = false) (ht : ∀ x ∈ c.exceptionTable.toList, False) (i0 i1 i2 i3 i4 : Nat) (h0 : kt[i0]? = some (pc, .new 163, 3)) (h1 : kt[i1]? = some (pc + 3, .dup, 1)) (h2 : kt[i2]? = some (pc + 4, .ldc 165, 2)) (h3 : kt[i3]? = some (pc + 6, .invokespecial 167, 3)) (h4 : kt[i4]? = some (pc + 9, .athrow, 1))
    (hk : Cond.classLink RX4 163 "java/lang/IllegalArgumentException" ∈ wsL_law) (hi : Cond.initialized "java/lang/IllegalArgumentException" ∈ wsL_law) (hfr : 5 < R.frames) (hlo : (st.map fun v => v.category).sum + 82 ≤ R.locals) (hRc : 1 ≤ R.cells) (hRs : 6 ≤ R.slots) :
    J p l e R s m args below meth c D cA ad n A nL 0 0 (vx_MQ below (QQ D cA ad n A (.inr "java/lang/IllegalArgumentException") M) (XX D cA ad n A (.inr "java/lang/IllegalArgumentException") M) args s 1 6 A) M pc L st := fun H locs ls hP hS hL =>
  vx_throwS (names := ["java/lang/RuntimeException", "java/lang/Exception"]) hX.ex hX.by hl hX.ow (by decide) (by decide) (hX.ws _ hk) (hX.ws _ hi) hX.ks.2.2.2.1 (vx_hat (fun w hw => hX.ws w (in_x1 w hw)) at_IAE (fun w hw => va_Nw.use (nwL_tab w hw) (hX.ks.2.2.2.2.2.1 w hw))) ot_IAE hX.ks.1 hX.ks.2.1 hS (hL.1.trans hX.ml.symm) (hX.dec h0) (hX.dec h1) (hX.dec h2) (hX.dec h3) (hX.dec h4) (fun x hx => (ht x hx).elim) hfr hlo (by omega) (by omega) hX.lk (thr_X hP hS) hS.2.2 (by omega) (by omega)
theorem J.thrI (hX : Cx p s m args meth c D cA ad n A sa cc nL RX4 kt) (hl : l.stackTraces = false) (ht : ∀ x ∈ c.exceptionTable.toList, False) (i0 i1 i2 i3 i4 : Nat) (h0 : kt[i0]? = some (pc, .new 89, 3)) (h1 : kt[i1]? = some (pc + 3, .dup, 1)) (h2 : kt[i2]? = some (pc + 4, .ldc 91, 2)) (h3 : kt[i3]? = some (pc + 6, .invokespecial 93, 3)) (h4 : kt[i4]? = some (pc + 9, .athrow, 1))
    (hk : Cond.classLink RX4 89 "java/lang/IllegalStateException" ∈ wsL_law) (hi : Cond.initialized "java/lang/IllegalStateException" ∈ wsL_law) (hfr : 5 < R.frames) (hlo : (st.map fun v => v.category).sum + 82 ≤ R.locals) (hRc : 1 ≤ R.cells) (hRs : 6 ≤ R.slots) :
    J p l e R s m args below meth c D cA ad n A nL 0 0 (vx_MQ below (QQ D cA ad n A (.inr "java/lang/IllegalStateException") M) (XX D cA ad n A (.inr "java/lang/IllegalStateException") M) args s 1 6 A) M pc L st := fun H locs ls hP hS hL =>
  vx_throwS (names := ["java/lang/RuntimeException", "java/lang/Exception"]) hX.ex hX.by hl hX.ow (by decide) (by decide) (hX.ws _ hk) (hX.ws _ hi) hX.ks.2.2.2.2.1 (vx_hat (fun w hw => hX.ws w (in_x2 w hw)) at_ISE (fun w hw => va_Nw.use (nwL_tab w hw) (hX.ks.2.2.2.2.2.1 w hw))) ot_ISE hX.ks.1 hX.ks.2.1 hS (hL.1.trans hX.ml.symm) (hX.dec h0) (hX.dec h1) (hX.dec h2) (hX.dec h3) (hX.dec h4) (fun x hx => (ht x hx).elim) hfr hlo (by omega) (by omega) hX.lk (thr_X hP hS) hS.2.2 (by omega) (by omega)
end TV
theorem mX4_mustExist_r {l : Launch} {D : va_G} {cA : Nat → ClassId} {ad : Nat → Nat} {n : Nat} {A : Nat → Prop} {sa : Nat → Nat} {M : Mem} {v : Int32} (h : ¬ v = 0) : CT l D cA ad n A sa yX4_mustExist cX4_mustExist 1 none 6 82 [.int v] M (.inl none) M := by
  refine CT.of (kt := kX4_mustExist) (by decide) kX4_mustExist_ok (Nat.le_of_ble_eq_true rfl) ?_
  intro p e s m args below meth c hX hr ht
  refine J.sub (L' := [(0, .int v)]) [0] rfl ?_
  refine J.iload_n hX 0 0 rfl rfl ?_
  refine J.if_ne (tgt := 14) hX 1 rfl (by decide) (fun _ => ?_) (fun b => absurd b h)
  exact J.vret hX hr 7 rfl
theorem mX4_mustExist_t {l : Launch} (hl : l.stackTraces = false) {D : va_G} {cA : Nat → ClassId} {ad : Nat → Nat} {n : Nat} {A : Nat → Prop} {sa : Nat → Nat} {M : Mem} {v : Int32} (h : v = 0) : CT l D cA ad n A sa yX4_mustExist cX4_mustExist 1 none 6 82 [.int v] M (.inr "java/util/NoSuchElementException") M := by
  refine CT.of (kt := kX4_mustExist) (by decide) kX4_mustExist_ok (Nat.le_of_ble_eq_true rfl) ?_
  intro p e s m args below meth c hX hr ht
  refine J.sub (L' := [(0, .int v)]) [0] rfl ?_
  refine J.iload_n hX 0 0 rfl rfl ?_
  refine J.if_ne (tgt := 14) hX 1 rfl (by decide) (fun b => absurd h b) (fun _ => ?_)
  exact J.thrN hX hl ht 2 3 4 5 6 rfl rfl rfl rfl rfl (in_wsL_law0_r5 _ (List.mem_of_getElem? (i := 16) rfl)) (in_wsL_law0_r5 _ (List.mem_of_getElem? (i := 17) rfl)) (Nat.le_of_ble_eq_true rfl) (Nat.le_of_ble_eq_true rfl) (Nat.le_refl _) (Nat.le_refl _)
theorem mX4_mustFit_r {l : Launch} {D : va_G} {cA : Nat → ClassId} {ad : Nat → Nat} {n : Nat} {A : Nat → Prop} {sa : Nat → Nat} {M : Mem} {v : Int32} (h : ¬ v = 0) : CT l D cA ad n A sa yX4_mustFit cX4_mustFit 1 none 6 82 [.int v] M (.inl none) M := by
  refine CT.of (kt := kX4_mustFit) (by decide) kX4_mustFit_ok (Nat.le_of_ble_eq_true rfl) ?_
  intro p e s m args below meth c hX hr ht
  refine J.sub (L' := [(0, .int v)]) [0] rfl ?_
  refine J.iload_n hX 0 0 rfl rfl ?_
  refine J.if_ne (tgt := 14) hX 1 rfl (by decide) (fun _ => ?_) (fun b => absurd b h)
  exact J.vret hX hr 7 rfl
theorem mX4_mustFit_t {l : Launch} (hl : l.stackTraces = false) {D : va_G} {cA : Nat → ClassId} {ad : Nat → Nat} {n : Nat} {A : Nat → Prop} {sa : Nat → Nat} {M : Mem} {v : Int32} (h : v = 0) : CT l D cA ad n A sa yX4_mustFit cX4_mustFit 1 none 6 82 [.int v] M (.inr "java/lang/IllegalArgumentException") M := by
  refine CT.of (kt := kX4_mustFit) (by decide) kX4_mustFit_ok (Nat.le_of_ble_eq_true rfl) ?_
  intro p e s m args below meth c hX hr ht
  refine J.sub (L' := [(0, .int v)]) [0] rfl ?_
  refine J.iload_n hX 0 0 rfl rfl ?_
  refine J.if_ne (tgt := 14) hX 1 rfl (by decide) (fun b => absurd h b) (fun _ => ?_)
  exact J.thrA hX hl ht 2 3 4 5 6 rfl rfl rfl rfl rfl (in_wsL_law0_r5 _ (List.mem_of_getElem? (i := 21) rfl)) (in_wsL_law0_r5 _ (List.mem_of_getElem? (i := 22) rfl)) (Nat.le_of_ble_eq_true rfl) (Nat.le_of_ble_eq_true rfl) (Nat.le_refl _) (Nat.le_refl _)
