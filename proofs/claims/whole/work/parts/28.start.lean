/-! THE START: the six classes, the kinds of arrays, the strings and statics; the two objects and 'out' are made; then the loop. -/
def Mi : Mem
  | 12 => fun j => if j < 36 then (-1) else 0
  | 35 => fun j => if j < 36 then (-1) else 0
  | 17 => fun j => if j = 0 then (-1) else 0
  | _ => fun _ => 0
def ad0 (q0 q27 q48 : Nat) (u v : Nat → Nat) (k : Nat) : Nat := if k = 0 then q0 else if k < 27 then u k else if k = 27 then q27 else if k < 48 then v (k - 27) else q48
theorem W49 (cA : Nat → ClassId) (q0 q27 q48 : Nat) (u v : Nat → Nat) : (fX4 cA q0 u ++ fX5 cA q27 v) ++ [(q48, .inl (cA 2, 1, .inr (.inl (fun _ => 0))))] = Wd cA (ad0 q0 q27 q48 u v) 49 Mi := by
  have e3 : (fun i => dec (ad0 q0 q27 q48 u v) (Mi 11 i)) = fun _ => none := by
    funext i
    show dec (ad0 q0 q27 q48 u v) 0 = none
    simp [dec]
  have e2 : (fun i => (Mi 48 i).toInt64) = fun _ => 0 := by
    funext i
    show (0 : Int32).toInt64 = 0
    decide
  have r49 : List.range 49 = [0, 1, 2, 3, 4, 5, 6, 7, 8, 9, 10, 11, 12, 13, 14, 15, 16, 17, 18, 19, 20, 21, 22, 23, 24, 25, 26, 27, 28, 29, 30, 31, 32, 33, 34, 35, 36, 37, 38, 39, 40, 41, 42, 43, 44, 45, 46, 47, 48] := by decide
  unfold Wd
  rw [r49]
  simp only [List.map_cons, List.map_nil, fX4, fX5, List.cons_append, List.nil_append]
  have s11 : sh0 11 = .inl (3, 10) := rfl
  have s48 : sh0 48 = .inl (2, 1) := rfl
  rw [s11, s48]
  simp only [en]
  rw [e3, e2]
  rfl
theorem arr_of {s : State} {args : Array Value} {ty : FieldType} (h : (Cond.arrayClass ty).before args s = true) : ∃ c : ClassId, ArrOfT s c ty ∧ s.vm.findClass ("[" ++ ty.toString) = some c := by
  obtain ⟨c, k, comp, h1, h2, h3⟩ := Cond.arrayClass_spec h
  exact ⟨c, fun n z => ⟨fun k h => (by cases h), k, h2, comp, h3⟩, h1⟩
theorem arr_ofQ {s : State} {args : Array Value} {C : String} (h : (Cond.arrayOver (.object C)).before args s = true) : ∃ c : ClassId, ArrOfT s c (.object C) ∧ va_RA s c (.object C) := by
  obtain ⟨comp, c, k, h1, h2, h3, h4, h5⟩ := Cond.arrayOver_spec h
  exact ⟨c, fun n z => ⟨fun k h => (by cases h), k, h3, comp, h4⟩, k, comp, h3, h4, h1, h5⟩
theorem str_of {s : State} {args : Array Value} {own tx : String} {k : Nat} {c : ClassId} (hc : s.vm.findClass own = some c) (h : (Cond.stringRef own k tx).before args s = true) : ∃ a, vk_R own k tx a s := by
  obtain ⟨k9, cf, i, a, -, -, -, -, -, h2⟩ := Cond.stringRef_spec hc h
  exact ⟨a, vk_R.of h h2⟩
def kc_start : List (Nat × Instr × Nat) := [(0, .new 8, 3), (3, .dup, 1), (4, .invokespecial 64, 3), (7, .astore_n 1, 1), (8, .new 65, 3), (11, .dup, 1), (12, .invokespecial 67, 3), (15, .astore_n 2, 1), (16, .iconst 1, 1), (17, .newarray .long, 2), (19, .astore_n 3, 1), (20, .iconst 0, 1), (21, .istore 4, 2)]
set_option maxRecDepth 100000 in
theorem kc_start_ok : ∀ (i : Nat) (q : Nat × Instr × Nat), kc_start[i]? = some q → decode code q.1 = .ok q.2 := tbl_ok (by decide +kernel)
set_option maxHeartbeats 4000000 in
set_option maxRecDepth 100000 in
/-- from the entry, where the calls' steps hold of a relation that the start fulfils -/
theorem whole_of {p : Program} {e : Env} {s : State} {m : MethodId} {below : List Frame} {meth : Method} {c : Code} (l : Launch) (hlt : l.stackTraces = false) {INV : Nat → Mem → Prop} (hstep : ∀ (n : Nat) (M : Mem) (c : Nat) (a1 a2 a3 a4 : Int32), c < 32 → INV n M → ∃ (g : Nat) (M2 : Mem), St c n M a1 a2 a3 a4 g M2 ∧ INV (n + g) M2) (hinit : INV 49 Mi) {b L : Nat} {xs : Nat → Int32} (hL : L ≤ 2560) (C0 : lw_At p s m meth c b L xs) : W p l e room_1 s m #[Value.ref b] below meth c s.heap [] 0 0 (lw_Z below #[Value.ref b] s) (entryFrame m ([Value.ref b] : List Value).toArray 7) := by
  obtain ⟨hx, hb, hr, hml, hown, htbl, hXs, hbl, hlocks, hgv⟩ := id C0
  have hts : ∀ w ∈ wsL_law, w.before #[Value.ref b] s = true := fun w hw => htbl w (gi_law w hw).1
  have hA : ∀ q : Nat, s.heap.size ≤ q → (fun q : Nat => s.heap.size ≤ q) q := fun _ h => h
  have hNA : ∀ q : Nat, q < s.heap.size → ¬ (fun q : Nat => s.heap.size ≤ q) q := fun _ h => Nat.not_le.mpr h
  obtain ⟨c0, iS0, hKn0⟩ := u_known (C := RX0) (T := TX0) (N := 13) (n := 13) hts in_wsX00 (hts _ (in_wsL_law0_r2 _ (List.mem_of_getElem? (i := 2) rfl)))
  obtain ⟨c1, iS1, hKn1⟩ := u_known (C := RX1) (T := TX1) (N := 4) (n := 4) hts in_wsX10 (hts _ (in_wsL_law0_r1 _ (List.mem_of_getElem? (i := 14) rfl)))
  obtain ⟨c2, iS2, hKn2⟩ := u_known (C := RX2) (T := TX2) (N := 4) (n := 4) hts in_wsX20 (hts _ (in_wsL_law0_r1 _ (List.mem_of_getElem? (i := 18) rfl)))
  obtain ⟨c3, iS3, hKn3⟩ := u_known (C := RX3) (T := TX3) (N := 7) (n := 7) hts in_wsX30 (hts _ (in_wsL_law0_r1 _ (List.mem_of_getElem? (i := 22) rfl)))
  obtain ⟨c4, iS4, hKn4⟩ := u_known (C := RX4) (T := TX4) (N := 4) (n := 4) hts in_wsX40 (hts _ (in_wsL_law0_r1 _ (List.mem_of_getElem? (i := 1) rfl)))
  obtain ⟨c5, iS5, hKn5⟩ := u_known (C := RX5) (T := TX5) (N := 26) (n := 26) hts in_wsX50 (hts _ (in_wsL_law0_r1 _ (List.mem_of_getElem? (i := 4) rfl)))
  obtain ⟨t0, ht0, hf0⟩ := arr_of (hts _ (in_wsL_law0_r2 _ (List.mem_of_getElem? (i := 8) rfl)))
  obtain ⟨t1, ht1, hf1⟩ := arr_of (hts _ (in_wsL_law0_r4 _ (List.mem_of_getElem? (i := 17) rfl)))
  obtain ⟨t2, ht2, hf2⟩ := arr_of (hts _ (in_wsL_law0_r1 _ (List.mem_of_getElem? (i := 6) rfl)))
  have hao : (Cond.arrayOver (.object RX1)).before #[Value.ref b] s = true := htbl _ (List.mem_of_getElem? (i := 118) (by decide +kernel))
  obtain ⟨t3, ht3, hf3⟩ := arr_ofQ hao
  obtain ⟨D, hKc⟩ : ∃ D : va_G, ∀ (k : Nat) (q : vw_C), cls6[k]? = some q → u_Kn s q.1 q.2.1 q.2.2 (D.1 k) (D.2 k) := by
    refine ⟨(fun k => [c0, c1, c2, c3, c4].getD k c5, fun k => [iS0, iS1, iS2, iS3, iS4].getD k iS5), ?_⟩
    intro k q hq
    match k, hq with
    | 0, hq => cases hq; exact hKn0
    | 1, hq => cases hq; exact hKn1
    | 2, hq => cases hq; exact hKn2
    | 3, hq => cases hq; exact hKn3
    | 4, hq => cases hq; exact hKn4
    | 5, hq => cases hq; exact hKn5
    | k + 6, hq => simp at hq
  obtain ⟨cA, hKt⟩ : ∃ cA : Nat → ClassId, ∀ (k : Nat) (q : ClassId × FieldType), (ty4 cA)[k]? = some q → ArrOfT s q.1 q.2 ∧ va_RA s q.1 q.2 := by
    refine ⟨fun k => [t0, t1, t2].getD k t3, ?_⟩
    intro k q hq
    match k, hq with
    | 0, hq => cases hq; exact ⟨ht0, hf0⟩
    | 1, hq => cases hq; exact ⟨ht1, hf1⟩
    | 2, hq => cases hq; exact ⟨ht2, hf2⟩
    | 3, hq => cases hq; exact ⟨ht3, hf3⟩
    | k + 4, hq => simp [ty4] at hq
  have hK : va_K D cls6 (ty4 cA) s := ⟨hKc, hKt⟩
  have hfl := flat_of_before _ hgv
  have hz1 : vx_Zq Bundle.tN "UNASSIGNED_STACK" Bundle.steD (fun q : Nat => s.heap.size ≤ q) s s.heap := vx_Zqof (args := #[Value.ref b]) (htbl _ (List.mem_of_getElem? (i := 347) (by decide +kernel))) (htbl _ (List.mem_of_getElem? (i := 49) (by decide +kernel))) (hfl _ (by decide +kernel)) hNA
  have hz2 : vx_Zq Bundle.tN "SUPPRESSED_SENTINEL" Bundle.listD (fun q : Nat => s.heap.size ≤ q) s s.heap := vx_Zqof (args := #[Value.ref b]) (htbl _ (List.mem_of_getElem? (i := 349) (by decide +kernel))) (htbl _ (List.mem_of_getElem? (i := 49) (by decide +kernel))) (hfl _ (by decide +kernel)) hNA
  obtain ⟨sa0, hs0⟩ := str_of (own := RX4) (k := 160) (tx := "there is none with this number") hKn4.2.1 (htbl _ (List.mem_of_getElem? (i := 361) (by decide +kernel)))
  obtain ⟨sa1, hs1⟩ := str_of (own := RX4) (k := 165) (tx := "the argument is out of its range") hKn4.2.1 (htbl _ (List.mem_of_getElem? (i := 400) (by decide +kernel)))
  obtain ⟨sa2, hs2⟩ := str_of (own := RX4) (k := 91) (tx := "the drawing does not tile, or ten are kept") hKn4.2.1 (htbl _ (List.mem_of_getElem? (i := 467) (by decide +kernel)))
  have hNW : NW s := by
    refine ⟨fun w hw => ?_, va_Nc.of (hfl _ (by decide +kernel))⟩
    simp only [nwL, List.mem_cons, List.not_mem_nil, or_false] at hw
    rcases hw with rfl | rfl | rfl | rfl | rfl | rfl
    · exact va_Nw.of rfl (htbl _ (List.mem_of_getElem? (i := 324) (by decide +kernel)))
    · exact va_Nw.of rfl (htbl _ (List.mem_of_getElem? (i := 326) (by decide +kernel)))
    · exact va_Nw.of rfl (htbl _ (List.mem_of_getElem? (i := 328) (by decide +kernel)))
    · exact va_Nw.of rfl (htbl _ (List.mem_of_getElem? (i := 322) (by decide +kernel)))
    · exact va_Nw.of rfl (htbl _ (List.mem_of_getElem? (i := 393) (by decide +kernel)))
    · exact va_Nw.of rfl (htbl _ (List.mem_of_getElem? (i := 460) (by decide +kernel)))
  have hks : KS (fun q : Nat => s.heap.size ≤ q) (fun k => [sa0, sa1].getD k sa2) s s.heap := ⟨hz1, hz2, hs0, hs1, hs2, hNW⟩
  have hAO : va_AO RX1 s := va_AO.of hao
  have hN1 : va_Nw (.methodLinkNest RX4 11 yX1_init RX4) s := va_Nw.of rfl (htbl _ (List.mem_of_getElem? (i := 68) (by decide +kernel)))
  have hN2 : va_Nw (.methodLinkNest RX4 18 yX2_init RX4) s := va_Nw.of rfl (htbl _ (List.mem_of_getElem? (i := 92) (by decide +kernel)))
  have hN3 : va_Nw (.methodLinkNest RX4 32 yX0_init RX4) s := va_Nw.of rfl (htbl _ (List.mem_of_getElem? (i := 153) (by decide +kernel)))
  have hsc : Sc (fun q : Nat => s.heap.size ≤ q) s b L xs := ⟨hXs, hbl, Nat.not_le.mpr hbl⟩
  have hS : va_S (fun q : Nat => s.heap.size ≤ q) s.heap s.heap [] := va_S.rf
  have hP : va_P D cls6 [] s.heap := fun k q h => by simp at h
  have hD : va_D (fun q : Nat => s.heap.size ≤ q) [] := ⟨fun i j p q h => by simp at h, fun k q h => by simp at h⟩
  have hl := lv_entry ([.ref b]) (n := 7) (Nat.le_of_ble_eq_true rfl)
  rw [lg_entry_eq]
  generalize (lg_sl ([.ref b]) ++ List.replicate (7 - (lg_sl ([.ref b])).length) Slot.unset).toArray = ls at hl ⊢
  have hl : lv_has ls 7 [(0, .ref b)] := hl
  refine va_new (ci := 4) (fs := [.null, .null, .null, .null]) (C := RX4) (T := TX4) (N := 4) hx hb hts in_wsX40 tyX4 tyX4_ok hown (hts _ (in_wsL_law0_r1 _ (List.mem_of_getElem? (i := 0) rfl))) (hts _ (in_wsL_law0_r1 _ (List.mem_of_getElem? (i := 1) rfl))) (hts _ (in_wsL_law0_r1 _ (List.mem_of_getElem? (i := 2) rfl))) hK hP hD hS hA rfl (fun j hj => by rcases (show j = 0 ∨ j = 1 ∨ j = 2 ∨ j = 3 by omega) with rfl | rfl | rfl | rfl <;> rfl) (Nat.le_of_ble_eq_true rfl) (Nat.le_of_ble_eq_true rfl) (tdec kc_start_ok (i := 0) rfl) (fun q0 H hP hD hS => ?_)
  have hP : va_P D cls6 [(q0, .inr (4, [.null, .null, .null, .null]))] H := hP
  have hD : va_D (fun q : Nat => s.heap.size ≤ q) [(q0, .inr (4, [.null, .null, .null, .null]))] := hD
  refine W.widen (k := 1) (n := 4) (by omega) (by omega) ?_
  refine lv_dup hx hb (tdec kc_start_ok (i := 1) rfl) rfl ?_
  have hPc := hP.sub (ws' := [(q0, .inr (4, [.null, .null, .null, .null]))]) [0] rfl
  have hDc := hD.sub (ws' := [(q0, .inr (4, [.null, .null, .null, .null]))]) [0] (by decide) rfl
  have hFc := va_free (wc := [(q0, .inr (4, [.null, .null, .null, .null]))]) hD hS hA [0] rfl
  refine va_callv (va_runI (As := []) (rest := [.ref q0]) ⟨hx, hb, hml, hown, hts⟩ (c_X4_init l D cA q0 H.size) (cwI 0 hts (gdW (fun w hw => (List.mem_cons.mp hw).elim (fun z => by rw [z]; exact (in_wsL_law0_r1 _ (List.mem_of_getElem? (i := 9) rfl))) id)) rfl rfl rfl (hts _ (in_wsL_law0_r1 _ (List.mem_of_getElem? (i := 2) rfl))) (hts _ (in_wsL_law0_r1 _ (List.mem_of_getElem? (i := 7) rfl))) (hts _ (in_wsL_law0_r1 _ (List.mem_of_getElem? (i := 8) rfl))) rfl (by decide +kernel) ⟨Nat.le_of_ble_eq_true rfl, Nat.le_of_ble_eq_true rfl⟩) ⟨(fun a U g mk q => by obtain ⟨q0, q1, qP, qK, qD, qA, qN1, qN2, qN3⟩ := q; exact ⟨q0, q1, qP, va_K.moved (u := U) (U := U.calling g mk a) (Vm.Alike.refl U.vm) qK, qD, va_AO.moved (u := U) (U := U.calling g mk a) (Vm.Alike.refl U.vm) qA, va_Nw.same (u := U) (U := U.calling g mk a) rfl rfl qN1, va_Nw.same (u := U) (U := U.calling g mk a) rfl rfl qN2, va_Nw.same (u := U) (U := U.calling g mk a) rfl rfl qN3⟩), fun U hU hW => ⟨rfl, by rw [hU], by rw [hU]; exact hPc, va_K.moved hW.alike hK, hDc.weaken (fun _ _ _ _ => trivial), va_AO.moved hW.alike hAO, va_Nw.warmM hW hN1, va_Nw.warmM hW hN2, va_Nw.warmM hW hN3⟩⟩ rfl rfl hl.1 rfl (lv_room (Nat.le_of_ble_eq_true rfl)) (tdec kc_start_ok (i := 2) rfl) ⟨Nat.le_of_ble_eq_true rfl, Nat.le_of_ble_eq_true rfl⟩) hS (fun q _ h => hFc q h) hFc (fun u4 t H1 locs ht hvm hw hB hz1 hk1 hS => ?_)
  obtain ⟨hP1, hD1⟩ := hB
  rw [ht] at hP1
  obtain ⟨hP, hD⟩ := va_join (wr := []) (w1 := fX4 cA q0 u4) hP hD [0] [] rfl rfl (by decide) (by decide) hk1 hFc hP1 hD1
  generalize H1 = H at hP hS ⊢
  have hP : va_P D cls6 (fX4 cA q0 u4) H := hP
  have hD : va_D (fun q : Nat => s.heap.size ≤ q) (fX4 cA q0 u4) := hD
  refine W.widen (k := 27) (n := 8176) (by omega) (by omega) ?_
  refine lv_astore_n (lv' := [(1, .ref q0), (0, .ref b)]) hx hb (tdec kc_start_ok (i := 3) rfl) rfl hl (by decide) rfl (fun ls hl => ?_)
  refine va_new (ci := 5) (fs := [.int 0, .int 0, .null, .null, .null, .null, .null, .null, .int 0, .null, .null, .null, .null, .null, .int 0, .null, .null, .null, .null, .null, .null, .null, .null, .int 0, .int 0, .null]) (C := RX5) (T := TX5) (N := 26) hx hb hts in_wsX50 tyX5 tyX5_ok hown (hts _ (in_wsL_law0_r1 _ (List.mem_of_getElem? (i := 3) rfl))) (hts _ (in_wsL_law0_r1 _ (List.mem_of_getElem? (i := 4) rfl))) (hts _ (in_wsL_law0_r1 _ (List.mem_of_getElem? (i := 5) rfl))) hK hP hD hS hA rfl (fun j hj => by rcases (show j = 0 ∨ j = 1 ∨ j = 2 ∨ j = 3 ∨ j = 4 ∨ j = 5 ∨ j = 6 ∨ j = 7 ∨ j = 8 ∨ j = 9 ∨ j = 10 ∨ j = 11 ∨ j = 12 ∨ j = 13 ∨ j = 14 ∨ j = 15 ∨ j = 16 ∨ j = 17 ∨ j = 18 ∨ j = 19 ∨ j = 20 ∨ j = 21 ∨ j = 22 ∨ j = 23 ∨ j = 24 ∨ j = 25 by omega) with rfl | rfl | rfl | rfl | rfl | rfl | rfl | rfl | rfl | rfl | rfl | rfl | rfl | rfl | rfl | rfl | rfl | rfl | rfl | rfl | rfl | rfl | rfl | rfl | rfl | rfl <;> rfl) (Nat.le_of_ble_eq_true rfl) (Nat.le_of_ble_eq_true rfl) (tdec kc_start_ok (i := 4) rfl) (fun q27 H hP hD hS => ?_)
  have hP : va_P D cls6 ((fX4 cA q0 u4) ++ [(q27, .inr (5, [.int 0, .int 0, .null, .null, .null, .null, .null, .null, .int 0, .null, .null, .null, .null, .null, .int 0, .null, .null, .null, .null, .null, .null, .null, .null, .int 0, .int 0, .null]))]) H := hP
  have hD : va_D (fun q : Nat => s.heap.size ≤ q) ((fX4 cA q0 u4) ++ [(q27, .inr (5, [.int 0, .int 0, .null, .null, .null, .null, .null, .null, .int 0, .null, .null, .null, .null, .null, .int 0, .null, .null, .null, .null, .null, .null, .null, .null, .int 0, .int 0, .null]))]) := hD
  refine W.widen (k := 28) (n := 8202) (by omega) (by omega) ?_
  refine lv_dup hx hb (tdec kc_start_ok (i := 5) rfl) rfl ?_
  have hPc := hP.sub (ws' := [(q27, .inr (5, [.int 0, .int 0, .null, .null, .null, .null, .null, .null, .int 0, .null, .null, .null, .null, .null, .int 0, .null, .null, .null, .null, .null, .null, .null, .null, .int 0, .int 0, .null]))]) [27] rfl
  have hDc := hD.sub (ws' := [(q27, .inr (5, [.int 0, .int 0, .null, .null, .null, .null, .null, .null, .int 0, .null, .null, .null, .null, .null, .int 0, .null, .null, .null, .null, .null, .null, .null, .null, .int 0, .int 0, .null]))]) [27] (by decide) rfl
  have hFc := va_free (wc := [(q27, .inr (5, [.int 0, .int 0, .null, .null, .null, .null, .null, .null, .int 0, .null, .null, .null, .null, .null, .int 0, .null, .null, .null, .null, .null, .null, .null, .null, .int 0, .int 0, .null]))]) hD hS hA [27] rfl
  refine va_callv (va_runI (As := []) (rest := [.ref q27]) ⟨hx, hb, hml, hown, hts⟩ (c_X5_init l D cA q27 H.size) (cwI 0 hts (gdW (fun w hw => (List.mem_cons.mp hw).elim (fun z => by rw [z]; exact (in_wsL_law0_r4 _ (List.mem_of_getElem? (i := 1) rfl))) id)) rfl rfl rfl (hts _ (in_wsL_law0_r1 _ (List.mem_of_getElem? (i := 5) rfl))) (hts _ (in_wsL_law0_r3 _ (List.mem_of_getElem? (i := 23) rfl))) (hts _ (in_wsL_law0_r4 _ (List.mem_of_getElem? (i := 0) rfl))) rfl (by decide +kernel) ⟨Nat.le_of_ble_eq_true rfl, Nat.le_of_ble_eq_true rfl⟩) ⟨c_blind, fun U hU hW => ⟨rfl, by rw [hU], by rw [hU]; exact hPc, va_K.moved hW.alike hK, hDc.weaken (fun _ _ _ _ => trivial)⟩⟩ rfl rfl hl.1 rfl (lv_room (Nat.le_of_ble_eq_true rfl)) (tdec kc_start_ok (i := 6) rfl) ⟨Nat.le_of_ble_eq_true rfl, Nat.le_of_ble_eq_true rfl⟩) hS (fun q _ h => hFc q h) hFc (fun u5 t H1 locs ht hvm hw hB hz1 hk1 hS => ?_)
  obtain ⟨hP1, hD1⟩ := hB
  rw [ht] at hP1
  obtain ⟨hP, hD⟩ := va_join (wr := (fX4 cA q0 u4)) (w1 := fX5 cA q27 u5) hP hD [27] [0, 1, 2, 3, 4, 5, 6, 7, 8, 9, 10, 11, 12, 13, 14, 15, 16, 17, 18, 19, 20, 21, 22, 23, 24, 25, 26] rfl rfl (by decide) (by decide) hk1 hFc hP1 hD1
  generalize H1 = H at hP hS ⊢
  have hP : va_P D cls6 ((fX4 cA q0 u4) ++ fX5 cA q27 u5) H := hP
  have hD : va_D (fun q : Nat => s.heap.size ≤ q) ((fX4 cA q0 u4) ++ fX5 cA q27 u5) := hD
  refine W.widen (k := 48) (n := 21351) (by omega) (by omega) ?_
  refine lv_astore_n (lv' := [(2, .ref q27), (1, .ref q0), (0, .ref b)]) hx hb (tdec kc_start_ok (i := 7) rfl) rfl hl (by decide) rfl (fun ls hl => ?_)
  refine lv_iconst (v := 1) hx hb (tdec kc_start_ok (i := 8) rfl) (by decide) ?_
  refine new_l hx hb (hts _ (in_wsL_law0_r1 _ (List.mem_of_getElem? (i := 6) rfl))) hK hP hD hS hA (by decide) (N' := 1) (by decide) (by decide) (Nat.le_of_ble_eq_true rfl) (Nat.le_of_ble_eq_true rfl) (tdec kc_start_ok (i := 9) rfl) (fun q48 H hP hD hS => ?_)
  refine lv_astore_n (lv' := [(3, .ref q48), (2, .ref q27), (1, .ref q0), (0, .ref b)]) hx hb (tdec kc_start_ok (i := 10) rfl) rfl hl (by decide) rfl (fun ls hl => ?_)
  refine lv_iconst (v := 0) hx hb (tdec kc_start_ok (i := 11) rfl) (by decide) ?_
  refine lv_istore (lv' := [(4, .int 0), (3, .ref q48), (2, .ref q27), (1, .ref q0), (0, .ref b)]) hx hb (tdec kc_start_ok (i := 12) rfl) hl (by decide) rfl (fun ls hl => ?_)
  rw [W49] at hP hD
  have hX : Cx p s m #[Value.ref b] meth c D cA (ad0 q0 q27 q48 u4 u5) 49 (fun q : Nat => s.heap.size ≤ q) (fun k => [sa0, sa1].getD k sa2) code 7 RL kc_head := ⟨hx, hb, hml, hown, hts, hK, Dd.of hD, hA, Nat.le_refl _, hks, hlocks, kc_head_ok⟩
  exact law_loop hlt hr hsc hL (fun _ h => h) hstep 513 0 49 Mi (ad0 q0 q27 q48 u4 u5) 49 21352 (Nat.zero_le _) (by omega) hinit hX (by decide) (by decide) H _ ls hP hS (lv_sub hl [4, 3, 2, 1, 0] rfl)
