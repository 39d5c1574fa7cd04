def kX4_keep : List (Nat × Instr × Nat) := [(0, .aload_n 0, 1), (1, .getfield 26, 3), (4, .getfield 86, 3), (7, .bipush 10, 2), (9, .if_icmp .ge 13, 3), (12, .aload_n 0, 1), (13, .getfield 12, 3), (16, .invokevirtual 68, 3), (19, .ifCond .eq 13, 3), (22, .new 89, 3), (25, .dup, 1), (26, .ldc 91, 2), (28, .invokespecial 93, 3), (31, .athrow, 1), (32, .aload_n 0, 1), (33, .getfield 26, 3), (36, .aload_n 0, 1), (37, .getfield 12, 3), (40, .invokevirtual 96, 3), (43, .invokevirtual 100, 3), (46, .ireturn, 1)]
set_option maxRecDepth 100000 in
theorem kX4_keep_ok : ∀ (i : Nat) (q : Nat × Instr × Nat), kX4_keep[i]? = some q → decode cX4_keep q.1 = .ok q.2 := tbl_ok (by decide +kernel)
theorem okX1_copied : OKV RX1 yX1_copied cX1_copied 2 (some (.object RX1)) 0 := ⟨w_366, w_367, w_15, w_368, rfl, by decide +kernel, by decide +kernel, by decide +kernel⟩
theorem okX4_keep : OKV RX4 yX4_keep cX4_keep 1 (some .int) 0 := ⟨w_359, w_360, w_2, w_361, rfl, by decide +kernel, by decide +kernel, by decide +kernel⟩
/-- the end of a method behind which the world has five cells more -/
def QN (D : va_G) (cA : Nat → ClassId) (ad : Nat → Nat) (n : Nat) (A : Nat → Prop) (v : (Nat → Nat) → Value) (M1 : Mem) : Array Value → State → Outcome → State → Prop := fun _ st o t => ∃ ad', (∀ k, k < n → ad' k = ad k) ∧ Dd A ad' (n + 5) ∧ o = .returned (some (v ad')) ∧ va_P D cls6 (Wd cA ad' (n + 5) M1) t.heap ∧ va_F A st t
section KP
variable {p : Program} {l : Launch} {e : Env} {R : Room} {s : State} {m : MethodId} {args : Array Value} {below : List Frame} {meth : Method} {c : Code} {D : va_G} {cA : Nat → ClassId} {ad : Nat → Nat} {n : Nat} {A : Nat → Prop} {sa : Nat → Nat} {nL cells slots : Nat} {Q : State → Prop} {cc : ByteArray} {own : String} {kt : List (Nat × Instr × Nat)} {M M1 : Mem} {pc : Nat} {L : List (Nat × Value)} {st : List Value}
theorem run_new {H : Heap} {locs : List Loc} {ls : Array Slot} {st0 rest : List Value} {a : Array Value} {v : (Nat → Nat) → Value} (hr : va_Run p l e R s m args below meth c H locs cells slots 5 436 (F0 m pc ls st0) rest (QN D cA ad n A v M1 a) A) (hS : va_S A s.heap H locs)
    (kk : ∀ (ad' : Nat → Nat) (H1 : Heap) (locs1 : List Loc), (∀ k, k < n → ad' k = ad k) → Dd A ad' (n + 5) → va_P D cls6 (Wd cA ad' (n + 5) M1) H1 → va_S A s.heap H1 locs1 → W p l e R s m args below meth c H1 locs1 (cells + 5) (slots + 436) Q (F0 m (pc + 3) ls (v ad' :: rest))) : W p l e R s m args below meth c H locs cells slots Q (F0 m pc ls st0) := by
  intro T hT X
  obtain ⟨v', st₀, t, T', L, h0, X', hL, e1, e2, ⟨ad', ha, hd, hv, hb, hF⟩, st⟩ := hr T hT X
  cases hv
  obtain ⟨k1, k2, k3⟩ := vx_keep h0 e1 hS (fun _ _ h => h) (fun _ h => h) hL hF
  obtain ⟨t2, a1, b1⟩ := kk ad' T'.heap (locs ++ L) ha hd (by rw [e1]; exact hb) k3 T' rfl X'
  exact ⟨t2, st t2 a1, b1⟩
/-- the context, in the grown world -/
theorem Cx.grow (hX : Cx p s m args meth c D cA ad n A sa cc nL own kt) {ad' : Nat → Nat} (hd : Dd A ad' (n + 5)) : Cx p s m args meth c D cA ad' (n + 5) A sa cc nL own kt := ⟨hX.ex, hX.by, hX.ml, hX.ow, hX.ws, hX.kn, hd, hX.hA, by have := hX.n49; omega, hX.ks, hX.lk, fun i q hq => hX.dec (i := i) (pc := q.1) (ins := q.2.1) (len := q.2.2) hq⟩
theorem J.copied (hX : Cx p s m args meth c D cA ad n A sa cc nL own kt) (i : Nat) {ix : Nat} (hk : kt[i]? = some (pc, .invokevirtual ix, 3)) (hn : NOk n) (hk11 : K11 n M) (h : X1_copied_tail (M0 n M) 1 n = some M1) (hm : Cond.methodLink own ix yX1_copied ∈ wsL_law) {rest : List Value} (hw : (rest.map fun v => v.category).sum ≤ 8) (hR : 3 ≤ R.frames ∧ 64 ≤ R.locals) (hf : cells + 5 ≤ R.cells ∧ slots + 436 ≤ R.slots)
    (kk : ∀ (ad' : Nat → Nat) (H1 : Heap) (locs1 : List Loc) (ls : Array Slot), (∀ k, k < n → ad' k = ad k) → Dd A ad' (n + 5) → va_P D cls6 (Wd cA ad' (n + 5) M1) H1 → va_S A s.heap H1 locs1 → lv_has ls nL L → W p l e R s m args below meth c H1 locs1 (cells + 5) (slots + 436) Q (F0 m (pc + 3) ls (.ref (ad' n) :: rest))) :
    J p l e R s m args below meth c D cA ad n A nL cells slots Q M pc L (.ref (ad 1) :: rest) := fun H locs ls hP hS hL =>
  run_new (v := fun ad' => .ref (ad' n)) (va_runV (C := RX1) (bytes := cX1_copied) (maxL := 2) (ret := some (.object RX1)) (n := 0) (As := []) ⟨hX.ex, hX.by, hX.ml, hX.ow, hX.ws⟩ (c_copied l hn hk11 h) (cwV 0 hX.ws (gdV hm okX1_copied.1 okX1_copied.2.1 okX1_copied.2.2.1 okX1_copied.2.2.2.1) rfl rfl rfl okX1_copied.2.2.2.2 hR) ⟨PP.blind, va_recv hX.kn hP rfl (Wd_o (hX.lt (k := 1) (by decide)) sh_1), fun U hU hW => ⟨rfl, PP.here hX hP hS U hU hW⟩⟩ rfl rfl hL.1 rfl (lv_room hw) (hX.dec hk) hf) hS (fun ad' H1 locs1 ha hd hP1 hS1 => kk ad' H1 locs1 ls ha hd hP1 hS1 hL)
end KP
/-- keep() throws -/
theorem mX4_keep_t {l : Launch} (hl : l.stackTraces = false) {D : va_G} {cA : Nat → ClassId} {ad : Nat → Nat} {n : Nat} {A : Nat → Prop} {sa : Nat → Nat} {M : Mem} {z : Int32} (h : (10 : Int32) ≤ M 10 1 ∨ (¬ (10 : Int32) ≤ M 10 1 ∧ X1_state M 1 = some z ∧ ¬ z = 0)) : CT l D cA ad n A sa yX4_keep cX4_keep 1 (some .int) 6 141 [.ref (ad 0)] M (.inr "java/lang/IllegalStateException") M := by
  refine CT.of (kt := kX4_keep) (by decide) kX4_keep_ok (Nat.le_of_ble_eq_true rfl) ?_
  intro p e s m args below meth c hX hr ht
  refine J.sub (L' := [(0, .ref (ad 0))]) [0] rfl ?_
  have hthr : JM 6 141 p l e s m args below meth c D cA ad n A 1 (.inr "java/lang/IllegalStateException") M M 22 [(0, .ref (ad 0))] [] := J.thrI hX hl ht 9 10 11 12 13 rfl rfl rfl rfl rfl w_362 w_363 (Nat.le_of_ble_eq_true rfl) (Nat.le_of_ble_eq_true rfl) (Nat.le_refl _) (Nat.le_refl _)
  refine J.aload_n hX 0 0 rfl rfl ?_
  refine J.getR hX 1 0 4 (hX.lt (k := 0) (by decide)) sh_0 rfl in_wsX40 2 (by decide) w_24 rfl rfl ?_
  refine J.getI hX 2 10 3 (hX.lt (k := 10) (by decide)) sh_10 rfl in_wsX30 1 (by decide) w_364 rfl rfl ?_
  refine J.bipush (v := 10) hX 3 rfl (by decide) ?_
  refine J.icmp_ge (tgt := 22) hX 4 rfl (by decide) (fun _ => hthr) (fun b => ?_)
  rcases h with h | ⟨-, hz, hz0⟩
  · exact absurd h b
  · refine J.aload_n hX 5 0 rfl rfl ?_
    refine J.getR hX 6 0 4 (hX.lt (k := 0) (by decide)) sh_0 rfl in_wsX40 0 (by decide) w_16 rfl rfl ?_
    refine J.callV1 (As := []) (rest := []) (k := 1) hX 7 rfl (mX1_state (DrOk.main hX.n49) hz) okX1_state w_244 (hX.lt (k := 1) (by decide)) sh_1 rfl rfl rfl (Nat.le_of_ble_eq_true rfl) ⟨Nat.le_of_ble_eq_true rfl, Nat.le_of_ble_eq_true rfl⟩ ⟨Nat.zero_le _, Nat.zero_le _⟩ ?_
    exact J.if_eq (tgt := 32) hX 8 rfl (by decide) (fun b => absurd b hz0) (fun _ => hthr)
set_option maxHeartbeats 4000000 in
set_option maxRecDepth 100000 in
/-- keep() keeps -/
theorem mX4_keep_r (l : Launch) {D : va_G} {cA : Nat → ClassId} {ad : Nat → Nat} {n : Nat} {A : Nat → Prop} {sa : Nat → Nat} {M Mc Mf : Mem} {r : Int32} (hn : NOk n) (hk11 : K11 n M) (h1 : ¬ (10 : Int32) ≤ M 10 1) (h2 : X1_state M 1 = some 0) (h3 : X1_copied_tail (M0 n M) 1 n = some Mc) (h4 : X3_addBlock Mc n = some (r, Mf)) :
    Met l yX4_keep (Cond.code yX4_keep cX4_keep 1 (some .int) :: wsL_law) { frames := 6, cells := 5, slots := 436, locals := 141 } (va_Pc [.ref (ad 0)] (PP D cA ad n A sa M)) (QN D cA ad n A (fun _ => .int r) Mf) 5 436 A := by
  refine Met.ofW (cc := cX4_keep) (maxL := 1) (ret := some .int) (by decide) rfl ?_
  intro p e s m args below meth c s₁ B hml hv
  obtain ⟨rfl, hP, hK, hDd, hA, hn49, hks⟩ := hv
  have hr := B.returns
  have hts0 := atoms_spec (ws := Cond.code yX4_keep cX4_keep 1 (some .int) :: wsL_law) B.pre
  have hX : Cx p s m [Value.ref (ad 0)].toArray meth c D cA ad n A sa cX4_keep 1 RX4 kX4_keep := ⟨B.exec, B.bytes, hml, findClass_of_methodNamed B.named, fun w hw => hts0 w (List.mem_cons_of_mem _ hw), hK, hDd, hA, hn49, hks, B.notSynchronized, kX4_keep_ok⟩
  have hl := lv_entry ([.ref (ad 0)]) (n := 1) (Nat.le_of_ble_eq_true rfl)
  rw [lg_entry_eq]
  generalize (lg_sl ([.ref (ad 0)]) ++ List.replicate (1 - (lg_sl ([.ref (ad 0)])).length) Slot.unset).toArray = ls at hl ⊢
  have hl : lv_has ls 1 [(0, .ref (ad 0))] := hl
  suffices hJ : J p l e (headSpec (Cond.code yX4_keep cX4_keep 1 (some .int) :: wsL_law) { frames := 6, cells := 5, slots := 436, locals := 141 }).room s m [Value.ref (ad 0)].toArray below meth c D cA ad n A 1 0 0 (MQ below (QN D cA ad n A (fun _ => .int r) Mf) [Value.ref (ad 0)].toArray s 5 436 A) M 0 [(0, .ref (ad 0))] [] from hJ s.heap [] ls hP va_S.rf hl
  refine J.aload_n hX 0 0 rfl rfl ?_
  refine J.getR hX 1 0 4 (hX.lt (k := 0) (by decide)) sh_0 rfl in_wsX40 2 (by decide) w_24 rfl rfl ?_
  refine J.getI hX 2 10 3 (hX.lt (k := 10) (by decide)) sh_10 rfl in_wsX30 1 (by decide) w_364 rfl rfl ?_
  refine J.bipush (v := 10) hX 3 rfl (by decide) ?_
  refine J.icmp_ge (tgt := 22) hX 4 rfl (by decide) (fun b => absurd b h1) (fun _ => ?_)
  refine J.aload_n hX 5 0 rfl rfl ?_
  refine J.getR hX 6 0 4 (hX.lt (k := 0) (by decide)) sh_0 rfl in_wsX40 0 (by decide) w_16 rfl rfl ?_
  refine J.callV1 (As := []) (rest := []) (k := 1) hX 7 rfl (mX1_state (DrOk.main hX.n49) h2) okX1_state w_244 (hX.lt (k := 1) (by decide)) sh_1 rfl rfl rfl (Nat.le_of_ble_eq_true rfl) ⟨Nat.le_of_ble_eq_true rfl, Nat.le_of_ble_eq_true rfl⟩ ⟨Nat.zero_le _, Nat.zero_le _⟩ ?_
  refine J.if_eq (tgt := 32) hX 8 rfl (by decide) (fun _ => ?_) (fun b => absurd rfl b)
  refine J.aload_n hX 14 0 rfl rfl ?_
  refine J.getR hX 15 0 4 (hX.lt (k := 0) (by decide)) sh_0 rfl in_wsX40 2 (by decide) w_24 rfl rfl ?_
  refine J.aload_n hX 16 0 rfl rfl ?_
  refine J.getR hX 17 0 4 (hX.lt (k := 0) (by decide)) sh_0 rfl in_wsX40 0 (by decide) w_16 rfl rfl ?_
  refine J.copied (rest := [.ref (ad 10)]) hX 18 rfl hn hk11 h3 w_365 (Nat.le_of_ble_eq_true rfl) ⟨Nat.le_of_ble_eq_true rfl, Nat.le_of_ble_eq_true rfl⟩ ⟨Nat.le_of_ble_eq_true rfl, Nat.le_of_ble_eq_true rfl⟩ (fun ad' H1 locs1 ls ha hd hP1 hS1 hL => ?_)
  have hX' := hX.grow hd
  have e10 : ad 10 = ad' 10 := (ha 10 (by have := hn.1; omega)).symm
  have e0 : ad 0 = ad' 0 := (ha 0 (by have := hn.1; omega)).symm
  rw [e10]
  rw [e0] at hL
  suffices hJ : J p l e (headSpec (Cond.code yX4_keep cX4_keep 1 (some .int) :: wsL_law) { frames := 6, cells := 5, slots := 436, locals := 141 }).room s m [Value.ref (ad 0)].toArray below meth c D cA ad' (n + 5) A 1 5 436 (MQ below (QN D cA ad n A (fun _ => .int r) Mf) [Value.ref (ad 0)].toArray s 5 436 A) Mc 43 [(0, .ref (ad' 0))] [.ref (ad' n), .ref (ad' 10)] from hJ H1 locs1 ls hP1 hS1 hL
  refine J.callV1 (As := [.ref (ad' n)]) (rest := []) (k := 10) hX' 19 rfl (mX3_addBlock hn.dr h4) okX3_addBlock w_372 (hX'.lt (k := 10) (by decide)) sh_10 rfl rfl rfl (Nat.le_of_ble_eq_true rfl) ⟨Nat.le_of_ble_eq_true rfl, Nat.le_of_ble_eq_true rfl⟩ ⟨Nat.le_refl _, Nat.le_refl _⟩ ?_
  intro H locs ls hP hS hL
  exact W.iret hX.ex hX.by hr (fun t ht hW => ⟨ad', ha, hd, rfl, by rw [ht]; exact hP, hS.F ht⟩) hS.2.2 (hX.dec (i := 20) rfl) hX.lk
