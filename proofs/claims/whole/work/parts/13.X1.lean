section G13
variable {p : Program} {l : Launch} {e : Env} {s : State} {m : MethodId} {args : Array Value} {below : List Frame} {meth : Method} {c : Code} {D : va_G} {cA : Nat → ClassId} {ad : Nat → Nat} {n : Nat} {A : Nat → Prop} {sa : Nat → Nat} {out : Option Value ⊕ String} {M1 : Mem}
def X1_openPatch (M : Mem) (o : Nat) (l1 : Int32) : Option (Mem) := sto M (o + 3) 24 l1 0 (fun N1 => some N1)
set_option maxHeartbeats 4000000 in
set_option maxRecDepth 100000 in
theorem mX1_openPatch {l : Launch} {D : va_G} {cA : Nat → ClassId} {ad : Nat → Nat} {n : Nat} {A : Nat → Prop} {sa : Nat → Nat} {M : Mem} {o : Nat} {l1 : Int32} {Mf : Mem} (ho : DrOk n o) (h : X1_openPatch M o l1 = some Mf) : CT l D cA ad n A sa yX1_openPatch cX1_openPatch 2 none 0 0 [.ref (ad o), .int l1] M (.inl none) Mf := by
  refine CT.of (kt := kX1_openPatch) (by decide) kX1_openPatch_ok (Nat.le_of_ble_eq_true rfl) ?_
  intro p e s m args below meth c hX hr ht
  unfold X1_openPatch at h
  refine J.sub (L' := [(0, .ref (ad o)), (1, .int l1)]) [0, 1] rfl ?_
  refine J.aload_n hX 0 0 rfl rfl ?_
  refine J.getR hX 1 o 1 ho.lt0 ho.s0 rfl in_wsX10 2 (by decide) w_35 rfl rfl ?_
  refine J.iload_n hX 2 1 rfl rfl ?_
  refine J.iconst (v := 0) hX 3 rfl (by decide) ?_
  obtain ⟨N1, eN1, hb, h⟩ := sto_inv h
  refine J.iastN hX 4 (o + 3) ho.lt3 ho.s3 hb eN1 rfl ?_
  cases h
  exact J.vret hX hr 5 rfl
def X1_putCorner (M : Mem) (o : Nat) (l1 : Int32) (l2 : Int32) (l3 : Int32) (l4 : Int32) : Option (Mem) := sto M (o + 1) 192 ((l1 * 8) + l2) l3 (fun N1 => sto N1 (o + 2) 192 ((l1 * 8) + l2) l4 (fun N2 => bd1 (X1_openPatch N2 o l1) (fun N3 => some N3)))
set_option maxHeartbeats 4000000 in
set_option maxRecDepth 100000 in
theorem mX1_putCorner {l : Launch} {D : va_G} {cA : Nat → ClassId} {ad : Nat → Nat} {n : Nat} {A : Nat → Prop} {sa : Nat → Nat} {M : Mem} {o : Nat} {l1 : Int32} {l2 : Int32} {l3 : Int32} {l4 : Int32} {Mf : Mem} (ho : DrOk n o) (h : X1_putCorner M o l1 l2 l3 l4 = some Mf) : CT l D cA ad n A sa yX1_putCorner cX1_putCorner 5 none 1 21 [.ref (ad o), .int l1, .int l2, .int l3, .int l4] M (.inl none) Mf := by
  refine CT.of (kt := kX1_putCorner) (by decide) kX1_putCorner_ok (Nat.le_of_ble_eq_true rfl) ?_
  intro p e s m args below meth c hX hr ht
  unfold X1_putCorner at h
  refine J.sub (L' := [(0, .ref (ad o)), (1, .int l1), (2, .int l2), (3, .int l3), (4, .int l4)]) [0, 1, 2, 3, 4] rfl ?_
  refine J.aload_n hX 0 0 rfl rfl ?_
  refine J.getR hX 1 o 1 ho.lt0 ho.s0 rfl in_wsX10 0 (by decide) w_33 rfl rfl ?_
  refine J.iload_n hX 2 1 rfl rfl ?_
  refine J.bipush (v := 8) hX 3 rfl (by decide) ?_
  refine J.imul hX 4 rfl ?_
  refine J.iload_n hX 5 2 rfl rfl ?_
  refine J.iadd hX 6 rfl ?_
  refine J.iload_n hX 7 3 rfl rfl ?_
  obtain ⟨N1, eN1, hb, h⟩ := sto_inv h
  refine J.iastN hX 8 (o + 1) ho.lt1 ho.s1 hb eN1 rfl ?_
  refine J.aload_n hX 9 0 rfl rfl ?_
  refine J.getR hX 10 o 1 ho.lt0 ho.s0 rfl in_wsX10 1 (by decide) w_34 rfl rfl ?_
  refine J.iload_n hX 11 1 rfl rfl ?_
  refine J.bipush (v := 8) hX 12 rfl (by decide) ?_
  refine J.imul hX 13 rfl ?_
  refine J.iload_n hX 14 2 rfl rfl ?_
  refine J.iadd hX 15 rfl ?_
  refine J.iload hX 16 4 rfl rfl ?_
  obtain ⟨N2, eN2, hb, h⟩ := sto_inv h
  refine J.iastN hX 17 (o + 2) ho.lt2 ho.s2 hb eN2 rfl ?_
  refine J.aload_n hX 18 0 rfl rfl ?_
  refine J.iload_n hX 19 1 rfl rfl ?_
  obtain ⟨N3, hc, h⟩ := bd1_inv h
  refine J.callV0 (As := [.int l1]) (rest := []) (k := o) hX 20 rfl (mX1_openPatch ho hc) okX1_openPatch w_123 ho.lt0 ho.s0 rfl rfl rfl (Nat.le_of_ble_eq_true rfl) ⟨Nat.le_of_ble_eq_true rfl, Nat.le_of_ble_eq_true rfl⟩ ⟨Nat.zero_le _, Nat.zero_le _⟩ ?_
  cases h
  exact J.vret hX hr 21 rfl
def X1_next_j19 (M : Mem) (v1 : Int32) : Option (Int32) := some v1
def X1_next (M : Mem) (o : Nat) (l1 : Int32) (l2 : Int32) : Option (Int32) := ld M (o + 3) 24 l1 (fun t1 => if t1 ≤ (l2 + 1) then (X1_next_j19 M 0) else (X1_next_j19 M (l2 + 1)))
set_option maxHeartbeats 4000000 in
set_option maxRecDepth 100000 in
theorem X1_next_j19_ok (hX : Cx p s m args meth c D cA ad n A sa cX1_next 3 RX1 kX1_next) {M : Mem} {v1 : Int32} {r : Int32}  (hr : meth.sig.returnType = (some .int)) (ht : ∀ x ∈ c.exceptionTable.toList, False) (h : X1_next_j19 M v1 = some r) : JM 0 0 p l e s m args below meth c D cA ad n A 3 (.inl (some (.int r))) M M 19 [] [.int v1] := by
  unfold X1_next_j19 at h
  cases h
  exact J.iret hX hr 13 rfl
set_option maxHeartbeats 4000000 in
set_option maxRecDepth 100000 in
theorem mX1_next {l : Launch} {D : va_G} {cA : Nat → ClassId} {ad : Nat → Nat} {n : Nat} {A : Nat → Prop} {sa : Nat → Nat} {M : Mem} {o : Nat} {l1 : Int32} {l2 : Int32} {r : Int32} (ho : DrOk n o) (h : X1_next M o l1 l2 = some r) : CT l D cA ad n A sa yX1_next cX1_next 3 (some .int) 0 0 [.ref (ad o), .int l1, .int l2] M (.inl (some (.int r))) M := by
  refine CT.of (kt := kX1_next) (by decide) kX1_next_ok (Nat.le_of_ble_eq_true rfl) ?_
  intro p e s m args below meth c hX hr ht
  unfold X1_next at h
  refine J.sub (L' := [(0, .ref (ad o)), (1, .int l1), (2, .int l2)]) [0, 1, 2] rfl ?_
  refine J.iload_n hX 0 2 rfl rfl ?_
  refine J.iconst (v := 1) hX 1 rfl (by decide) ?_
  refine J.iadd hX 2 rfl ?_
  refine J.aload_n hX 3 0 rfl rfl ?_
  refine J.getR hX 4 o 1 ho.lt0 ho.s0 rfl in_wsX10 2 (by decide) w_35 rfl rfl ?_
  refine J.iload_n hX 5 1 rfl rfl ?_
  obtain ⟨t1, et1, hb, h⟩ := ld_inv h
  refine J.ialdN hX 6 (o + 3) ho.lt3 ho.s3 hb et1 rfl ?_
  refine J.icmp_ge (tgt := 18) hX 7 rfl (by decide) (fun b1 => ?_) (fun b1 => ?_)
  · rw [if_pos b1] at h
    refine J.iconst (v := 0) hX 12 rfl (by decide) ?_
    refine J.sub (L' := []) [] rfl ?_
    exact X1_next_j19_ok hX  hr ht h
  · rw [if_neg b1] at h
    refine J.iload_n hX 8 2 rfl rfl ?_
    refine J.iconst (v := 1) hX 9 rfl (by decide) ?_
    refine J.iadd hX 10 rfl ?_
    refine J.goto (tgt := 19) hX 11 rfl (by decide) ?_
    refine J.sub (L' := []) [] rfl ?_
    exact X1_next_j19_ok hX  hr ht h
def X1_bend (M : Mem) (o : Nat) (l1 : Int32) (l2 : Int32) (l3 : Int32) : Option (Int32) := ld M (o + 1) 192 l2 (fun t1 => ld M (o + 1) 192 l1 (fun t2 => ld M (o + 2) 192 l3 (fun t3 => ld M (o + 2) 192 l1 (fun t4 => ld M (o + 2) 192 l2 (fun t5 => ld M (o + 2) 192 l1 (fun t6 => ld M (o + 1) 192 l3 (fun t7 => ld M (o + 1) 192 l1 (fun t8 => some (((t1 - t2) * (t3 - t4)) - ((t5 - t6) * (t7 - t8)))))))))))
set_option maxHeartbeats 4000000 in
set_option maxRecDepth 100000 in
theorem mX1_bend {l : Launch} {D : va_G} {cA : Nat → ClassId} {ad : Nat → Nat} {n : Nat} {A : Nat → Prop} {sa : Nat → Nat} {M : Mem} {o : Nat} {l1 : Int32} {l2 : Int32} {l3 : Int32} {r : Int32} (ho : DrOk n o) (h : X1_bend M o l1 l2 l3 = some r) : CT l D cA ad n A sa yX1_bend cX1_bend 4 (some .int) 0 0 [.ref (ad o), .int l1, .int l2, .int l3] M (.inl (some (.int r))) M := by
  refine CT.of (kt := kX1_bend) (by decide) kX1_bend_ok (Nat.le_of_ble_eq_true rfl) ?_
  intro p e s m args below meth c hX hr ht
  unfold X1_bend at h
  refine J.sub (L' := [(0, .ref (ad o)), (1, .int l1), (2, .int l2), (3, .int l3)]) [0, 1, 2, 3] rfl ?_
  refine J.aload_n hX 0 0 rfl rfl ?_
  refine J.getR hX 1 o 1 ho.lt0 ho.s0 rfl in_wsX10 0 (by decide) w_33 rfl rfl ?_
  refine J.iload_n hX 2 2 rfl rfl ?_
  obtain ⟨t1, et1, hb, h⟩ := ld_inv h
  refine J.ialdN hX 3 (o + 1) ho.lt1 ho.s1 hb et1 rfl ?_
  refine J.aload_n hX 4 0 rfl rfl ?_
  refine J.getR hX 5 o 1 ho.lt0 ho.s0 rfl in_wsX10 0 (by decide) w_33 rfl rfl ?_
  refine J.iload_n hX 6 1 rfl rfl ?_
  obtain ⟨t2, et2, hb, h⟩ := ld_inv h
  refine J.ialdN hX 7 (o + 1) ho.lt1 ho.s1 hb et2 rfl ?_
  refine J.isub hX 8 rfl ?_
  refine J.aload_n hX 9 0 rfl rfl ?_
  refine J.getR hX 10 o 1 ho.lt0 ho.s0 rfl in_wsX10 1 (by decide) w_34 rfl rfl ?_
  refine J.iload_n hX 11 3 rfl rfl ?_
  obtain ⟨t3, et3, hb, h⟩ := ld_inv h
  refine J.ialdN hX 12 (o + 2) ho.lt2 ho.s2 hb et3 rfl ?_
  refine J.aload_n hX 13 0 rfl rfl ?_
  refine J.getR hX 14 o 1 ho.lt0 ho.s0 rfl in_wsX10 1 (by decide) w_34 rfl rfl ?_
  refine J.iload_n hX 15 1 rfl rfl ?_
  obtain ⟨t4, et4, hb, h⟩ := ld_inv h
  refine J.ialdN hX 16 (o + 2) ho.lt2 ho.s2 hb et4 rfl ?_
  refine J.isub hX 17 rfl ?_
  refine J.imul hX 18 rfl ?_
  refine J.aload_n hX 19 0 rfl rfl ?_
  refine J.getR hX 20 o 1 ho.lt0 ho.s0 rfl in_wsX10 1 (by decide) w_34 rfl rfl ?_
  refine J.iload_n hX 21 2 rfl rfl ?_
  obtain ⟨t5, et5, hb, h⟩ := ld_inv h
  refine J.ialdN hX 22 (o + 2) ho.lt2 ho.s2 hb et5 rfl ?_
  refine J.aload_n hX 23 0 rfl rfl ?_
  refine J.getR hX 24 o 1 ho.lt0 ho.s0 rfl in_wsX10 1 (by decide) w_34 rfl rfl ?_
  refine J.iload_n hX 25 1 rfl rfl ?_
  obtain ⟨t6, et6, hb, h⟩ := ld_inv h
  refine J.ialdN hX 26 (o + 2) ho.lt2 ho.s2 hb et6 rfl ?_
  refine J.isub hX 27 rfl ?_
  refine J.aload_n hX 28 0 rfl rfl ?_
  refine J.getR hX 29 o 1 ho.lt0 ho.s0 rfl in_wsX10 0 (by decide) w_33 rfl rfl ?_
  refine J.iload_n hX 30 3 rfl rfl ?_
  obtain ⟨t7, et7, hb, h⟩ := ld_inv h
  refine J.ialdN hX 31 (o + 1) ho.lt1 ho.s1 hb et7 rfl ?_
  refine J.aload_n hX 32 0 rfl rfl ?_
  refine J.getR hX 33 o 1 ho.lt0 ho.s0 rfl in_wsX10 0 (by decide) w_33 rfl rfl ?_
  refine J.iload_n hX 34 1 rfl rfl ?_
  obtain ⟨t8, et8, hb, h⟩ := ld_inv h
  refine J.ialdN hX 35 (o + 1) ho.lt1 ho.s1 hb et8 rfl ?_
  refine J.isub hX 36 rfl ?_
  refine J.imul hX 37 rfl ?_
  refine J.isub hX 38 rfl ?_
  cases h
  exact J.iret hX hr 39 rfl
def X1_isConvex_L35_j77 (M : Mem) (o : Nat) (l1 : Int32) (t1 : Int32) (c1 : Int32) (t3 : Int32) (t5 : Int32) (v1 : Int32) : Option ((Int32) ⊕ ((Unit) ⊕ (Unit))) := bnd (v1 + 1) (fun t7 => some (.inl t7))
def X1_isConvex_L35 (M : Mem) (o : Nat) (l1 : Int32) (t1 : Int32) (c1 : Int32) (t3 : Int32) (t5 : Int32) (q9 : Int32) : Option ((Int32) ⊕ ((Unit) ⊕ (Unit))) := un1 q9 (fun c2 => ld M (o + 3) 24 l1 (fun t6 => if (t1 + t6) ≤ c2 then (some (.inr (.inl ()))) else (if c2 = t3 then (X1_isConvex_L35_j77 M o l1 t1 c1 t3 t5 c2) else (if c2 = t5 then (X1_isConvex_L35_j77 M o l1 t1 c1 t3 t5 c2) else (bd1 (X1_bend M o t3 t5 c2) (fun t8 => if 0 < t8 then (X1_isConvex_L35_j77 M o l1 t1 c1 t3 t5 c2) else (some (.inr (.inr ())))))))))
def X1_isConvex_L7 (M : Mem) (o : Nat) (l1 : Int32) (t1 : Int32) (q9 : Int32) : Option ((Int32) ⊕ ((Unit) ⊕ (Unit))) := un1 q9 (fun c1 => ld M (o + 3) 24 l1 (fun t2 => if t2 ≤ c1 then (some (.inr (.inl ()))) else (bnd ((t1 + c1)) (fun t3 => bd1 (X1_next M o l1 c1) (fun t4 => bnd ((t1 + t4)) (fun t5 => bdS (loop (X1_isConvex_L35 M o l1 t1 c1 t3 t5) 3000 t1) (fun a9 => un0 a9 (bnd (c1 + 1) (fun t9 => some (.inl t9)))) (fun a9 => un0 a9 (some (.inr (.inr ()))))))))))
def X1_isConvex (M : Mem) (o : Nat) (l1 : Int32) : Option (Int32) := bnd ((l1 * 8)) (fun t1 => bdS (loop (X1_isConvex_L7 M o l1 t1) 3000 0) (fun a9 => un0 a9 (chk (isB 1) (some 1))) (fun a9 => un0 a9 (chk (isB 0) (some 0))))
set_option maxHeartbeats 4000000 in
set_option maxRecDepth 100000 in
theorem X1_isConvex_L35_j77_ok (hX : Cx p s m args meth c D cA ad n A sa cX1_isConvex 7 RX1 kX1_isConvex) {M : Mem} {o : Nat} {l1 : Int32} {t1 : Int32} {c1 : Int32} {t3 : Int32} {t5 : Int32} {v1 : Int32} (ho : DrOk n o) {r : (Int32) ⊕ ((Unit) ⊕ (Unit))} (h : X1_isConvex_L35_j77 M o l1 t1 c1 t3 t5 v1 = some r) (hin : ∀ (q0 : Int32), r = .inl q0 → JM 1 23 p l e s m args below meth c D cA ad n A 7 out M1 M 35 [(0, .ref (ad o)), (1, .int l1), (2, .int t1), (3, .int c1), (4, .int t3), (5, .int t5), (6, .int q0)] []) (hex0 : r = .inr (.inl ()) → JM 1 23 p l e s m args below meth c D cA ad n A 7 out M1 M 83 [(0, .ref (ad o)), (1, .int l1), (2, .int t1), (3, .int c1)] []) (hex1 : r = .inr (.inr ()) → JM 1 23 p l e s m args below meth c D cA ad n A 7 out M1 M 75 [] []) : JM 1 23 p l e s m args below meth c D cA ad n A 7 out M1 M 77 [(0, .ref (ad o)), (1, .int l1), (2, .int t1), (3, .int c1), (4, .int t3), (5, .int t5), (6, .int v1)] [] := by
  unfold X1_isConvex_L35_j77 at h
  obtain ⟨t7, et7, h⟩ := bnd_inv h
  refine J.iinc (q := 6) (L' := [(6, .int t7), (0, .ref (ad o)), (1, .int l1), (2, .int t1), (3, .int c1), (4, .int t3), (5, .int t5)]) hX 47 rfl rfl et7 (by decide) rfl ?_
  refine J.goto (tgt := 35) hX 48 rfl (by decide) ?_
  refine J.sub (L' := [(0, .ref (ad o)), (1, .int l1), (2, .int t1), (3, .int c1), (4, .int t3), (5, .int t5), (6, .int t7)]) [1, 2, 3, 4, 5, 6, 0] rfl ?_
  exact hin _ (Option.some.inj h).symm
set_option maxHeartbeats 4000000 in
set_option maxRecDepth 100000 in
theorem X1_isConvex_L35_ok (hX : Cx p s m args meth c D cA ad n A sa cX1_isConvex 7 RX1 kX1_isConvex) {M : Mem} {o : Nat} {l1 : Int32} {t1 : Int32} {c1 : Int32} {t3 : Int32} {t5 : Int32} {c2 : Int32} (ho : DrOk n o) {r : (Int32) ⊕ ((Unit) ⊕ (Unit))} (h : X1_isConvex_L35 M o l1 t1 c1 t3 t5 c2 = some r) (hin : ∀ (q0 : Int32), r = .inl q0 → JM 1 23 p l e s m args below meth c D cA ad n A 7 out M1 M 35 [(0, .ref (ad o)), (1, .int l1), (2, .int t1), (3, .int c1), (4, .int t3), (5, .int t5), (6, .int q0)] []) (hex0 : r = .inr (.inl ()) → JM 1 23 p l e s m args below meth c D cA ad n A 7 out M1 M 83 [(0, .ref (ad o)), (1, .int l1), (2, .int t1), (3, .int c1)] []) (hex1 : r = .inr (.inr ()) → JM 1 23 p l e s m args below meth c D cA ad n A 7 out M1 M 75 [] []) : JM 1 23 p l e s m args below meth c D cA ad n A 7 out M1 M 35 [(0, .ref (ad o)), (1, .int l1), (2, .int t1), (3, .int c1), (4, .int t3), (5, .int t5), (6, .int c2)] [] := by
  unfold X1_isConvex_L35 at h
  have h := un1_inv h
  refine J.iload hX 25 6 rfl rfl ?_
  refine J.iload_n hX 26 2 rfl rfl ?_
  refine J.aload_n hX 27 0 rfl rfl ?_
  refine J.getR hX 28 o 1 ho.lt0 ho.s0 rfl in_wsX10 2 (by decide) w_35 rfl rfl ?_
  refine J.iload_n hX 29 1 rfl rfl ?_
  obtain ⟨t6, et6, hb, h⟩ := ld_inv h
  refine J.ialdN hX 30 (o + 3) ho.lt3 ho.s3 hb et6 rfl ?_
  refine J.iadd hX 31 rfl ?_
  refine J.icmp_ge (tgt := 83) hX 32 rfl (by decide) (fun b2 => ?_) (fun b2 => ?_)
  · rw [if_pos b2] at h
    refine J.sub (L' := [(0, .ref (ad o)), (1, .int l1), (2, .int t1), (3, .int c1)]) [0, 1, 2, 3] rfl ?_
    exact hex0  (Option.some.inj h).symm
  · rw [if_neg b2] at h
    refine J.iload hX 33 6 rfl rfl ?_
    refine J.iload hX 34 4 rfl rfl ?_
    refine J.icmp_eq (tgt := 77) hX 35 rfl (by decide) (fun b3 => ?_) (fun b3 => ?_)
    · rw [if_pos b3] at h
      refine J.sub (L' := [(0, .ref (ad o)), (1, .int l1), (2, .int t1), (3, .int c1), (4, .int t3), (5, .int t5), (6, .int c2)]) [0, 1, 2, 3, 4, 5, 6] rfl ?_
      exact X1_isConvex_L35_j77_ok hX ho h hin hex0 hex1
    · rw [if_neg b3] at h
      refine J.iload hX 36 6 rfl rfl ?_
      refine J.iload hX 37 5 rfl rfl ?_
      refine J.icmp_eq (tgt := 77) hX 38 rfl (by decide) (fun b4 => ?_) (fun b4 => ?_)
      · rw [if_pos b4] at h
        refine J.sub (L' := [(0, .ref (ad o)), (1, .int l1), (2, .int t1), (3, .int c1), (4, .int t3), (5, .int t5), (6, .int c2)]) [0, 1, 2, 3, 4, 5, 6] rfl ?_
        exact X1_isConvex_L35_j77_ok hX ho h hin hex0 hex1
      · rw [if_neg b4] at h
        refine J.aload_n hX 39 0 rfl rfl ?_
        refine J.iload hX 40 4 rfl rfl ?_
        refine J.iload hX 41 5 rfl rfl ?_
        refine J.iload hX 42 6 rfl rfl ?_
        obtain ⟨t8, hc, h⟩ := bd1_inv h
        refine J.callV1 (As := [.int t3, .int t5, .int c2]) (rest := []) (k := o) hX 43 rfl (mX1_bend ho hc) okX1_bend w_165 ho.lt0 ho.s0 rfl rfl rfl (Nat.le_of_ble_eq_true rfl) ⟨Nat.le_of_ble_eq_true rfl, Nat.le_of_ble_eq_true rfl⟩ ⟨Nat.zero_le _, Nat.zero_le _⟩ ?_
        refine J.if_gt (tgt := 77) hX 44 rfl (by decide) (fun b5 => ?_) (fun b5 => ?_)
        · rw [if_pos b5] at h
          refine J.sub (L' := [(0, .ref (ad o)), (1, .int l1), (2, .int t1), (3, .int c1), (4, .int t3), (5, .int t5), (6, .int c2)]) [0, 1, 2, 3, 4, 5, 6] rfl ?_
          exact X1_isConvex_L35_j77_ok hX ho h hin hex0 hex1
        · rw [if_neg b5] at h
          refine J.sub (L' := []) [] rfl ?_
          exact hex1  (Option.some.inj h).symm
set_option maxHeartbeats 4000000 in
set_option maxRecDepth 100000 in
theorem X1_isConvex_L7_ok (hX : Cx p s m args meth c D cA ad n A sa cX1_isConvex 7 RX1 kX1_isConvex) {M : Mem} {o : Nat} {l1 : Int32} {t1 : Int32} {c1 : Int32} (ho : DrOk n o) {r : (Int32) ⊕ ((Unit) ⊕ (Unit))} (h : X1_isConvex_L7 M o l1 t1 c1 = some r) (hin : ∀ (q0 : Int32), r = .inl q0 → JM 1 23 p l e s m args below meth c D cA ad n A 7 out M1 M 7 [(0, .ref (ad o)), (1, .int l1), (2, .int t1), (3, .int q0)] []) (hex0 : r = .inr (.inl ()) → JM 1 23 p l e s m args below meth c D cA ad n A 7 out M1 M 89 [] []) (hex1 : r = .inr (.inr ()) → JM 1 23 p l e s m args below meth c D cA ad n A 7 out M1 M 75 [] []) : JM 1 23 p l e s m args below meth c D cA ad n A 7 out M1 M 7 [(0, .ref (ad o)), (1, .int l1), (2, .int t1), (3, .int c1)] [] := by
  unfold X1_isConvex_L7 at h
  have h := un1_inv h
  refine J.iload_n hX 6 3 rfl rfl ?_
  refine J.aload_n hX 7 0 rfl rfl ?_
  refine J.getR hX 8 o 1 ho.lt0 ho.s0 rfl in_wsX10 2 (by decide) w_35 rfl rfl ?_
  refine J.iload_n hX 9 1 rfl rfl ?_
  obtain ⟨t2, et2, hb, h⟩ := ld_inv h
  refine J.ialdN hX 10 (o + 3) ho.lt3 ho.s3 hb et2 rfl ?_
  refine J.icmp_ge (tgt := 89) hX 11 rfl (by decide) (fun b1 => ?_) (fun b1 => ?_)
  · rw [if_pos b1] at h
    refine J.sub (L' := []) [] rfl ?_
    exact hex0  (Option.some.inj h).symm
  · rw [if_neg b1] at h
    refine J.iload_n hX 12 2 rfl rfl ?_
    refine J.iload_n hX 13 3 rfl rfl ?_
    refine J.iadd hX 14 rfl ?_
    obtain ⟨t3, et3, h⟩ := bnd_inv h
    refine J.nm et3 ?_
    refine J.istore (L' := [(4, .int t3), (0, .ref (ad o)), (1, .int l1), (2, .int t1), (3, .int c1)]) hX 15 rfl (by decide) rfl ?_
    refine J.iload_n hX 16 3 rfl rfl ?_
    refine J.aload_n hX 17 1 rfl rfl ?_
    refine J.iload_n hX 18 2 rfl rfl ?_
    refine J.iload_n hX 19 4 rfl rfl ?_
    obtain ⟨t4, hc, h⟩ := bd1_inv h
    refine J.callV1 (As := [.int l1, .int c1]) (rest := [.int t1]) (k := o) hX 20 rfl (mX1_next ho hc) okX1_next w_161 ho.lt0 ho.s0 rfl rfl rfl (Nat.le_of_ble_eq_true rfl) ⟨Nat.le_of_ble_eq_true rfl, Nat.le_of_ble_eq_true rfl⟩ ⟨Nat.zero_le _, Nat.zero_le _⟩ ?_
    refine J.iadd hX 21 rfl ?_
    obtain ⟨t5, et5, h⟩ := bnd_inv h
    refine J.nm et5 ?_
    refine J.istore (L' := [(5, .int t5), (4, .int t3), (0, .ref (ad o)), (1, .int l1), (2, .int t1), (3, .int c1)]) hX 22 rfl (by decide) rfl ?_
    refine J.iload_n hX 23 4 rfl rfl ?_
    refine J.istore (L' := [(6, .int t1), (5, .int t5), (4, .int t3), (0, .ref (ad o)), (1, .int l1), (2, .int t1), (3, .int c1)]) hX 24 rfl (by decide) rfl ?_
    refine J.sub (L' := [(0, .ref (ad o)), (1, .int l1), (2, .int t1), (3, .int c1), (4, .int t3), (5, .int t5), (6, .int t1)]) [3, 4, 5, 6, 2, 1, 0] rfl ?_
    rcases bdS_inv h with ⟨a9, hlp, h⟩ | ⟨a9, hlp, h⟩
    · have h := un0_inv h
      suffices hE : JM 1 23 p l e s m args below meth c D cA ad n A 7 out M1 M 83 [(0, .ref (ad o)), (1, .int l1), (2, .int t1), (3, .int c1)] [] by
        exact loop_ok (fun q9 : Int32 => JM 1 23 p l e s m args below meth c D cA ad n A 7 out M1 M 35 [(0, .ref (ad o)), (1, .int l1), (2, .int t1), (3, .int c1), (4, .int t3), (5, .int t5), (6, .int q9)] []) (fun q9 r hB hst hex9 => X1_isConvex_L35_ok hX ho hB (fun _ hr => hst _ hr) (fun hr => by cases hex9 _ hr; exact hE) (fun hr => by cases hex9 _ hr)) 3000 _ hlp
      obtain ⟨t9, et9, h⟩ := bnd_inv h
      refine J.iinc (q := 3) (L' := [(3, .int t9), (0, .ref (ad o)), (1, .int l1), (2, .int t1)]) hX 49 rfl rfl et9 (by decide) rfl ?_
      refine J.goto (tgt := 7) hX 50 rfl (by decide) ?_
      refine J.sub (L' := [(0, .ref (ad o)), (1, .int l1), (2, .int t1), (3, .int t9)]) [1, 2, 3, 0] rfl ?_
      exact hin _ (Option.some.inj h).symm
    · have h := un0_inv h
      suffices hE : JM 1 23 p l e s m args below meth c D cA ad n A 7 out M1 M 75 [] [] by
        exact loop_ok (fun q9 : Int32 => JM 1 23 p l e s m args below meth c D cA ad n A 7 out M1 M 35 [(0, .ref (ad o)), (1, .int l1), (2, .int t1), (3, .int c1), (4, .int t3), (5, .int t5), (6, .int q9)] []) (fun q9 r hB hst hex9 => X1_isConvex_L35_ok hX ho hB (fun _ hr => hst _ hr) (fun hr => by cases hex9 _ hr) (fun hr => by cases hex9 _ hr; exact hE)) 3000 _ hlp
      refine J.sub (L' := []) [] rfl ?_
      exact hex1  (Option.some.inj h).symm
set_option maxHeartbeats 4000000 in
set_option maxRecDepth 100000 in
theorem mX1_isConvex {l : Launch} {D : va_G} {cA : Nat → ClassId} {ad : Nat → Nat} {n : Nat} {A : Nat → Prop} {sa : Nat → Nat} {M : Mem} {o : Nat} {l1 : Int32} {r : Int32} (ho : DrOk n o) (h : X1_isConvex M o l1 = some r) : CT l D cA ad n A sa yX1_isConvex cX1_isConvex 7 (some .boolean) 1 23 [.ref (ad o), .int l1] M (.inl (some (.int r))) M := by
  refine CT.of (kt := kX1_isConvex) (by decide) kX1_isConvex_ok (Nat.le_of_ble_eq_true rfl) ?_
  intro p e s m args below meth c hX hr ht
  unfold X1_isConvex at h
  refine J.sub (L' := [(0, .ref (ad o)), (1, .int l1)]) [0, 1] rfl ?_
  refine J.iload_n hX 0 1 rfl rfl ?_
  refine J.bipush (v := 8) hX 1 rfl (by decide) ?_
  refine J.imul hX 2 rfl ?_
  obtain ⟨t1, et1, h⟩ := bnd_inv h
  refine J.nm et1 ?_
  refine J.istore_n (L' := [(2, .int t1), (0, .ref (ad o)), (1, .int l1)]) hX 3 rfl (by decide) rfl ?_
  refine J.iconst (v := 0) hX 4 rfl (by decide) ?_
  refine J.istore_n (L' := [(3, .int 0), (2, .int t1), (0, .ref (ad o)), (1, .int l1)]) hX 5 rfl (by decide) rfl ?_
  refine J.sub (L' := [(0, .ref (ad o)), (1, .int l1), (2, .int t1), (3, .int 0)]) [2, 3, 1, 0] rfl ?_
  rcases bdS_inv h with ⟨a9, hlp, h⟩ | ⟨a9, hlp, h⟩
  · have h := un0_inv h
    suffices hE : JM 1 23 p l e s m args below meth c D cA ad n A 7 (.inl (some (.int r))) M M 89 [] [] by
      exact loop_ok (fun q9 : Int32 => JM 1 23 p l e s m args below meth c D cA ad n A 7 (.inl (some (.int r))) M M 7 [(0, .ref (ad o)), (1, .int l1), (2, .int t1), (3, .int q9)] []) (fun q9 r hB hst hex9 => X1_isConvex_L7_ok hX ho hB (fun _ hr => hst _ hr) (fun hr => by cases hex9 _ hr; exact hE) (fun hr => by cases hex9 _ hr)) 3000 _ hlp
    refine J.iconst (v := 1) hX 51 rfl (by decide) ?_
    obtain ⟨hz, h⟩ := chk_inv h
    cases h
    exact J.zret hX hr 52 (isB_nar hz) rfl
  · have h := un0_inv h
    suffices hE : JM 1 23 p l e s m args below meth c D cA ad n A 7 (.inl (some (.int r))) M M 75 [] [] by
      exact loop_ok (fun q9 : Int32 => JM 1 23 p l e s m args below meth c D cA ad n A 7 (.inl (some (.int r))) M M 7 [(0, .ref (ad o)), (1, .int l1), (2, .int t1), (3, .int q9)] []) (fun q9 r hB hst hex9 => X1_isConvex_L7_ok hX ho hB (fun _ hr => hst _ hr) (fun hr => by cases hex9 _ hr) (fun hr => by cases hex9 _ hr; exact hE)) 3000 _ hlp
    refine J.iconst (v := 0) hX 45 rfl (by decide) ?_
    obtain ⟨hz, h⟩ := chk_inv h
    cases h
    exact J.zret hX hr 46 (isB_nar hz) rfl
def X1_doubleArea_L4 (M : Mem) (o : Nat) (l1 : Int32) (q9 : Int32 × Int32) : Option ((Int32 × Int32) ⊕ (Int32)) := un2 q9 (fun c1 c2 => ld M (o + 3) 24 l1 (fun t1 => if t1 ≤ c2 then (some (.inr c1)) else (bnd (((l1 * 8) + c2)) (fun t2 => bd1 (X1_next M o l1 c2) (fun t3 => bnd (((l1 * 8) + t3)) (fun t4 => ld M (o + 1) 192 t2 (fun t5 => ld M (o + 2) 192 t4 (fun t6 => ld M (o + 1) 192 t4 (fun t7 => ld M (o + 2) 192 t2 (fun t8 => bnd ((c1 + ((t5 * t6) - (t7 * t8)))) (fun t9 => bnd (c2 + 1) (fun t10 => some (.inl (t9, t10))))))))))))))
def X1_doubleArea (M : Mem) (o : Nat) (l1 : Int32) : Option (Int32) := bd1 (loop (X1_doubleArea_L4 M o l1) 3000 (0, 0)) (fun x1 => some x1)
set_option maxHeartbeats 4000000 in
set_option maxRecDepth 100000 in
theorem X1_doubleArea_L4_ok (hX : Cx p s m args meth c D cA ad n A sa cX1_doubleArea 6 RX1 kX1_doubleArea) {M : Mem} {o : Nat} {l1 : Int32} {c1 : Int32} {c2 : Int32} (ho : DrOk n o) {r : (Int32 × Int32) ⊕ (Int32)} (h : X1_doubleArea_L4 M o l1 (c1, c2) = some r) (hin : ∀ (q0 : Int32) (q1 : Int32), r = .inl (q0, q1) → JM 1 22 p l e s m args below meth c D cA ad n A 6 out M1 M 4 [(0, .ref (ad o)), (1, .int l1), (2, .int q0), (3, .int q1)] []) (hex0 : ∀ (q0 : Int32), r = .inr q0 → JM 1 22 p l e s m args below meth c D cA ad n A 6 out M1 M 75 [(2, .int q0)] []) : JM 1 22 p l e s m args below meth c D cA ad n A 6 out M1 M 4 [(0, .ref (ad o)), (1, .int l1), (2, .int c1), (3, .int c2)] [] := by
  unfold X1_doubleArea_L4 at h
  have h := un2_inv h
  refine J.iload_n hX 4 3 rfl rfl ?_
  refine J.aload_n hX 5 0 rfl rfl ?_
  refine J.getR hX 6 o 1 ho.lt0 ho.s0 rfl in_wsX10 2 (by decide) w_35 rfl rfl ?_
  refine J.iload_n hX 7 1 rfl rfl ?_
  obtain ⟨t1, et1, hb, h⟩ := ld_inv h
  refine J.ialdN hX 8 (o + 3) ho.lt3 ho.s3 hb et1 rfl ?_
  refine J.icmp_ge (tgt := 75) hX 9 rfl (by decide) (fun b1 => ?_) (fun b1 => ?_)
  · rw [if_pos b1] at h
    refine J.sub (L' := [(2, .int c1)]) [2] rfl ?_
    exact hex0 _ (Option.some.inj h).symm
  · rw [if_neg b1] at h
    refine J.iload_n hX 10 1 rfl rfl ?_
    refine J.bipush (v := 8) hX 11 rfl (by decide) ?_
    refine J.imul hX 12 rfl ?_
    refine J.iload_n hX 13 3 rfl rfl ?_
    refine J.iadd hX 14 rfl ?_
    obtain ⟨t2, et2, h⟩ := bnd_inv h
    refine J.nm et2 ?_
    refine J.istore (L' := [(4, .int t2), (0, .ref (ad o)), (1, .int l1), (2, .int c1), (3, .int c2)]) hX 15 rfl (by decide) rfl ?_
    refine J.iload_n hX 16 2 rfl rfl ?_
    refine J.bipush (v := 8) hX 17 rfl (by decide) ?_
    refine J.imul hX 18 rfl ?_
    refine J.aload_n hX 19 1 rfl rfl ?_
    refine J.iload_n hX 20 2 rfl rfl ?_
    refine J.iload_n hX 21 4 rfl rfl ?_
    obtain ⟨t3, hc, h⟩ := bd1_inv h
    refine J.callV1 (As := [.int l1, .int c2]) (rest := [.int (l1 * 8)]) (k := o) hX 22 rfl (mX1_next ho hc) okX1_next w_161 ho.lt0 ho.s0 rfl rfl rfl (Nat.le_of_ble_eq_true rfl) ⟨Nat.le_of_ble_eq_true rfl, Nat.le_of_ble_eq_true rfl⟩ ⟨Nat.zero_le _, Nat.zero_le _⟩ ?_
    refine J.iadd hX 23 rfl ?_
    obtain ⟨t4, et4, h⟩ := bnd_inv h
    refine J.nm et4 ?_
    refine J.istore (L' := [(5, .int t4), (4, .int t2), (0, .ref (ad o)), (1, .int l1), (2, .int c1), (3, .int c2)]) hX 24 rfl (by decide) rfl ?_
    refine J.iload_n hX 25 4 rfl rfl ?_
    refine J.aload_n hX 26 2 rfl rfl ?_
    refine J.getR hX 27 o 1 ho.lt0 ho.s0 rfl in_wsX10 0 (by decide) w_33 rfl rfl ?_
    refine J.iload hX 28 1 rfl rfl ?_
    obtain ⟨t5, et5, hb, h⟩ := ld_inv h
    refine J.ialdN hX 29 (o + 1) ho.lt1 ho.s1 hb et5 rfl ?_
    refine J.aload_n hX 30 2 rfl rfl ?_
    refine J.getR hX 31 o 1 ho.lt0 ho.s0 rfl in_wsX10 1 (by decide) w_34 rfl rfl ?_
    refine J.iload hX 32 0 rfl rfl ?_
    obtain ⟨t6, et6, hb, h⟩ := ld_inv h
    refine J.ialdN hX 33 (o + 2) ho.lt2 ho.s2 hb et6 rfl ?_
    refine J.imul hX 34 rfl ?_
    refine J.aload_n hX 35 2 rfl rfl ?_
    refine J.getR hX 36 o 1 ho.lt0 ho.s0 rfl in_wsX10 0 (by decide) w_33 rfl rfl ?_
    refine J.iload hX 37 0 rfl rfl ?_
    obtain ⟨t7, et7, hb, h⟩ := ld_inv h
    refine J.ialdN hX 38 (o + 1) ho.lt1 ho.s1 hb et7 rfl ?_
    refine J.aload_n hX 39 2 rfl rfl ?_
    refine J.getR hX 40 o 1 ho.lt0 ho.s0 rfl in_wsX10 1 (by decide) w_34 rfl rfl ?_
    refine J.iload hX 41 1 rfl rfl ?_
    obtain ⟨t8, et8, hb, h⟩ := ld_inv h
    refine J.ialdN hX 42 (o + 2) ho.lt2 ho.s2 hb et8 rfl ?_
    refine J.imul hX 43 rfl ?_
    refine J.isub hX 44 rfl ?_
    refine J.iadd hX 45 rfl ?_
    obtain ⟨t9, et9, h⟩ := bnd_inv h
    refine J.nm et9 ?_
    refine J.istore_n (L' := [(2, .int t9), (5, .int t4), (4, .int t2), (0, .ref (ad o)), (1, .int l1), (3, .int c2)]) hX 46 rfl (by decide) rfl ?_
    obtain ⟨t10, et10, h⟩ := bnd_inv h
    refine J.iinc (q := 5) (L' := [(3, .int t10), (2, .int t9), (5, .int t4), (4, .int t2), (0, .ref (ad o)), (1, .int l1)]) hX 47 rfl rfl et10 (by decide) rfl ?_
    refine J.goto (tgt := 4) hX 48 rfl (by decide) ?_
    refine J.sub (L' := [(0, .ref (ad o)), (1, .int l1), (2, .int t9), (3, .int t10)]) [4, 5, 1, 0] rfl ?_
    exact hin _ _ (Option.some.inj h).symm
set_option maxHeartbeats 4000000 in
set_option maxRecDepth 100000 in
theorem mX1_doubleArea {l : Launch} {D : va_G} {cA : Nat → ClassId} {ad : Nat → Nat} {n : Nat} {A : Nat → Prop} {sa : Nat → Nat} {M : Mem} {o : Nat} {l1 : Int32} {r : Int32} (ho : DrOk n o) (h : X1_doubleArea M o l1 = some r) : CT l D cA ad n A sa yX1_doubleArea cX1_doubleArea 6 (some .int) 1 22 [.ref (ad o), .int l1] M (.inl (some (.int r))) M := by
  refine CT.of (kt := kX1_doubleArea) (by decide) kX1_doubleArea_ok (Nat.le_of_ble_eq_true rfl) ?_
  intro p e s m args below meth c hX hr ht
  unfold X1_doubleArea at h
  refine J.sub (L' := [(0, .ref (ad o)), (1, .int l1)]) [0, 1] rfl ?_
  refine J.iconst (v := 0) hX 0 rfl (by decide) ?_
  refine J.istore_n (L' := [(2, .int 0), (0, .ref (ad o)), (1, .int l1)]) hX 1 rfl (by decide) rfl ?_
  refine J.iconst (v := 0) hX 2 rfl (by decide) ?_
  refine J.istore_n (L' := [(3, .int 0), (2, .int 0), (0, .ref (ad o)), (1, .int l1)]) hX 3 rfl (by decide) rfl ?_
  refine J.sub (L' := [(0, .ref (ad o)), (1, .int l1), (2, .int 0), (3, .int 0)]) [2, 3, 1, 0] rfl ?_
  obtain ⟨x1, hlp, h⟩ := bd1_inv h
  suffices hE : JM 1 22 p l e s m args below meth c D cA ad n A 6 (.inl (some (.int r))) M M 75 [(2, .int x1)] [] by
    exact loop_ok (fun q9 : Int32 × Int32 => JM 1 22 p l e s m args below meth c D cA ad n A 6 (.inl (some (.int r))) M M 4 [(0, .ref (ad o)), (1, .int l1), (2, .int q9.1), (3, .int q9.2)] []) (fun q9 r hB hst hex9 => X1_doubleArea_L4_ok hX ho hB (fun _ _ hr => hst _ hr) (fun _ hr => by cases hex9 _ hr; exact hE)) 3000 _ hlp
  refine J.iload_n hX 49 0 rfl rfl ?_
  cases h
  exact J.iret hX hr 50 rfl
def X1_closePatch (M : Mem) (o : Nat) (l1 : Int32) (l2 : Int32) (l3 : Int32) : Option (Int32 × Mem) := sto M (o + 3) 24 l1 l2 (fun N1 => sto N1 (o + 4) 24 l1 l3 (fun N2 => bd1 (X1_isConvex N2 o l1) (fun t1 => if t1 = 0 then (bd1 (X1_openPatch N2 o l1) (fun N3 => some (0, N3))) else (bd1 (X1_doubleArea N2 o l1) (fun t2 => some (t2, N2))))))
set_option maxHeartbeats 4000000 in
set_option maxRecDepth 100000 in
theorem mX1_closePatch {l : Launch} {D : va_G} {cA : Nat → ClassId} {ad : Nat → Nat} {n : Nat} {A : Nat → Prop} {sa : Nat → Nat} {M : Mem} {o : Nat} {l1 : Int32} {l2 : Int32} {l3 : Int32} {r : Int32} {Mf : Mem} (ho : DrOk n o) (h : X1_closePatch M o l1 l2 l3 = some (r, Mf)) : CT l D cA ad n A sa yX1_closePatch cX1_closePatch 4 (some .int) 2 49 [.ref (ad o), .int l1, .int l2, .int l3] M (.inl (some (.int r))) Mf := by
  refine CT.of (kt := kX1_closePatch) (by decide) kX1_closePatch_ok (Nat.le_of_ble_eq_true rfl) ?_
  intro p e s m args below meth c hX hr ht
  unfold X1_closePatch at h
  refine J.sub (L' := [(0, .ref (ad o)), (1, .int l1), (2, .int l2), (3, .int l3)]) [0, 1, 2, 3] rfl ?_
  refine J.aload_n hX 0 0 rfl rfl ?_
  refine J.getR hX 1 o 1 ho.lt0 ho.s0 rfl in_wsX10 2 (by decide) w_35 rfl rfl ?_
  refine J.iload_n hX 2 1 rfl rfl ?_
  refine J.iload_n hX 3 2 rfl rfl ?_
  obtain ⟨N1, eN1, hb, h⟩ := sto_inv h
  refine J.iastN hX 4 (o + 3) ho.lt3 ho.s3 hb eN1 rfl ?_
  refine J.aload_n hX 5 0 rfl rfl ?_
  refine J.getR hX 6 o 1 ho.lt0 ho.s0 rfl in_wsX10 3 (by decide) w_36 rfl rfl ?_
  refine J.iload_n hX 7 1 rfl rfl ?_
  refine J.iload_n hX 8 3 rfl rfl ?_
  obtain ⟨N2, eN2, hb, h⟩ := sto_inv h
  refine J.iastN hX 9 (o + 4) ho.lt4 ho.s4 hb eN2 rfl ?_
  refine J.aload_n hX 10 0 rfl rfl ?_
  refine J.iload_n hX 11 1 rfl rfl ?_
  obtain ⟨t1, hc, h⟩ := bd1_inv h
  refine J.callV1 (As := [.int l1]) (rest := []) (k := o) hX 12 rfl (mX1_isConvex ho hc) okX1_isConvex w_157 ho.lt0 ho.s0 rfl rfl rfl (Nat.le_of_ble_eq_true rfl) ⟨Nat.le_of_ble_eq_true rfl, Nat.le_of_ble_eq_true rfl⟩ ⟨Nat.zero_le _, Nat.zero_le _⟩ ?_
  refine J.if_ne (tgt := 29) hX 13 rfl (by decide) (fun b1 => ?_) (fun b1 => ?_)
  · rw [if_neg b1] at h
    refine J.aload_n hX 19 0 rfl rfl ?_
    refine J.iload_n hX 20 1 rfl rfl ?_
    obtain ⟨t2, hc, h⟩ := bd1_inv h
    refine J.callV1 (As := [.int l1]) (rest := []) (k := o) hX 21 rfl (mX1_doubleArea ho hc) okX1_doubleArea w_169 ho.lt0 ho.s0 rfl rfl rfl (Nat.le_of_ble_eq_true rfl) ⟨Nat.le_of_ble_eq_true rfl, Nat.le_of_ble_eq_true rfl⟩ ⟨Nat.zero_le _, Nat.zero_le _⟩ ?_
    cases h
    exact J.iret hX hr 22 rfl
  · rw [if_pos b1] at h
    refine J.aload_n hX 14 0 rfl rfl ?_
    refine J.iload_n hX 15 1 rfl rfl ?_
    obtain ⟨N3, hc, h⟩ := bd1_inv h
    refine J.callV0 (As := [.int l1]) (rest := []) (k := o) hX 16 rfl (mX1_openPatch ho hc) okX1_openPatch w_123 ho.lt0 ho.s0 rfl rfl rfl (Nat.le_of_ble_eq_true rfl) ⟨Nat.le_of_ble_eq_true rfl, Nat.le_of_ble_eq_true rfl⟩ ⟨Nat.zero_le _, Nat.zero_le _⟩ ?_
    refine J.iconst (v := 0) hX 17 rfl (by decide) ?_
    cases h
    exact J.iret hX hr 18 rfl
def X1_isClosed_j14 (M : Mem) (v1 : Int32) : Option (Int32) := chk (isB v1) (some v1)
def X1_isClosed (M : Mem) (o : Nat) (l1 : Int32) : Option (Int32) := ld M (o + 3) 24 l1 (fun t1 => if t1 ≤ 0 then (X1_isClosed_j14 M 0) else (X1_isClosed_j14 M 1))
set_option maxHeartbeats 4000000 in
set_option maxRecDepth 100000 in
theorem X1_isClosed_j14_ok (hX : Cx p s m args meth c D cA ad n A sa cX1_isClosed 2 RX1 kX1_isClosed) {M : Mem} {v1 : Int32} {r : Int32}  (hr : meth.sig.returnType = (some .boolean)) (ht : ∀ x ∈ c.exceptionTable.toList, False) (h : X1_isClosed_j14 M v1 = some r) : JM 0 0 p l e s m args below meth c D cA ad n A 2 (.inl (some (.int r))) M M 14 [] [.int v1] := by
  unfold X1_isClosed_j14 at h
  obtain ⟨hz, h⟩ := chk_inv h
  cases h
  exact J.zret hX hr 8 (isB_nar hz) rfl
set_option maxHeartbeats 4000000 in
set_option maxRecDepth 100000 in
theorem mX1_isClosed {l : Launch} {D : va_G} {cA : Nat → ClassId} {ad : Nat → Nat} {n : Nat} {A : Nat → Prop} {sa : Nat → Nat} {M : Mem} {o : Nat} {l1 : Int32} {r : Int32} (ho : DrOk n o) (h : X1_isClosed M o l1 = some r) : CT l D cA ad n A sa yX1_isClosed cX1_isClosed 2 (some .boolean) 0 0 [.ref (ad o), .int l1] M (.inl (some (.int r))) M := by
  refine CT.of (kt := kX1_isClosed) (by decide) kX1_isClosed_ok (Nat.le_of_ble_eq_true rfl) ?_
  intro p e s m args below meth c hX hr ht
  unfold X1_isClosed at h
  refine J.sub (L' := [(0, .ref (ad o)), (1, .int l1)]) [0, 1] rfl ?_
  refine J.aload_n hX 0 0 rfl rfl ?_
  refine J.getR hX 1 o 1 ho.lt0 ho.s0 rfl in_wsX10 2 (by decide) w_35 rfl rfl ?_
  refine J.iload_n hX 2 1 rfl rfl ?_
  obtain ⟨t1, et1, hb, h⟩ := ld_inv h
  refine J.ialdN hX 3 (o + 3) ho.lt3 ho.s3 hb et1 rfl ?_
  refine J.if_le (tgt := 13) hX 4 rfl (by decide) (fun b1 => ?_) (fun b1 => ?_)
  · rw [if_pos b1] at h
    refine J.iconst (v := 0) hX 7 rfl (by decide) ?_
    refine J.sub (L' := []) [] rfl ?_
    exact X1_isClosed_j14_ok hX  hr ht h
  · rw [if_neg b1] at h
    refine J.iconst (v := 1) hX 5 rfl (by decide) ?_
    refine J.goto (tgt := 14) hX 6 rfl (by decide) ?_
    refine J.sub (L' := []) [] rfl ?_
    exact X1_isClosed_j14_ok hX  hr ht h
def X1_closedSet_L4_j24 (M : Mem) (o : Nat) (v1 : Int32) (v2 : Int32) : Option ((Int32 × Int32) ⊕ (Int32)) := bnd (v2 + 1) (fun t2 => some (.inl (v1, t2)))
def X1_closedSet_L4 (M : Mem) (o : Nat) (q9 : Int32 × Int32) : Option ((Int32 × Int32) ⊕ (Int32)) := un2 q9 (fun c1 c2 => if 24 ≤ c2 then (some (.inr c1)) else (bd1 (X1_isClosed M o c2) (fun t1 => if t1 = 0 then (X1_closedSet_L4_j24 M o c1 c2) else (bnd ((c1 ||| (1 <<< (c2 &&& 31)))) (fun t3 => X1_closedSet_L4_j24 M o t3 c2)))))
def X1_closedSet (M : Mem) (o : Nat) : Option (Int32) := bd1 (loop (X1_closedSet_L4 M o) 3000 (0, 0)) (fun x1 => some x1)
set_option maxHeartbeats 4000000 in
set_option maxRecDepth 100000 in
theorem X1_closedSet_L4_j24_ok (hX : Cx p s m args meth c D cA ad n A sa cX1_closedSet 3 RX1 kX1_closedSet) {M : Mem} {o : Nat} {v1 : Int32} {v2 : Int32} (ho : DrOk n o) {r : (Int32 × Int32) ⊕ (Int32)} (h : X1_closedSet_L4_j24 M o v1 v2 = some r) (hin : ∀ (q0 : Int32) (q1 : Int32), r = .inl (q0, q1) → JM 1 21 p l e s m args below meth c D cA ad n A 3 out M1 M 4 [(0, .ref (ad o)), (1, .int q0), (2, .int q1)] []) (hex0 : ∀ (q0 : Int32), r = .inr q0 → JM 1 21 p l e s m args below meth c D cA ad n A 3 out M1 M 30 [(1, .int q0)] []) : JM 1 21 p l e s m args below meth c D cA ad n A 3 out M1 M 24 [(0, .ref (ad o)), (1, .int v1), (2, .int v2)] [] := by
  unfold X1_closedSet_L4_j24 at h
  obtain ⟨t2, et2, h⟩ := bnd_inv h
  refine J.iinc (q := 2) (L' := [(2, .int t2), (0, .ref (ad o)), (1, .int v1)]) hX 17 rfl rfl et2 (by decide) rfl ?_
  refine J.goto (tgt := 4) hX 18 rfl (by decide) ?_
  refine J.sub (L' := [(0, .ref (ad o)), (1, .int v1), (2, .int t2)]) [1, 2, 0] rfl ?_
  exact hin _ _ (Option.some.inj h).symm
set_option maxHeartbeats 4000000 in
set_option maxRecDepth 100000 in
theorem X1_closedSet_L4_ok (hX : Cx p s m args meth c D cA ad n A sa cX1_closedSet 3 RX1 kX1_closedSet) {M : Mem} {o : Nat} {c1 : Int32} {c2 : Int32} (ho : DrOk n o) {r : (Int32 × Int32) ⊕ (Int32)} (h : X1_closedSet_L4 M o (c1, c2) = some r) (hin : ∀ (q0 : Int32) (q1 : Int32), r = .inl (q0, q1) → JM 1 21 p l e s m args below meth c D cA ad n A 3 out M1 M 4 [(0, .ref (ad o)), (1, .int q0), (2, .int q1)] []) (hex0 : ∀ (q0 : Int32), r = .inr q0 → JM 1 21 p l e s m args below meth c D cA ad n A 3 out M1 M 30 [(1, .int q0)] []) : JM 1 21 p l e s m args below meth c D cA ad n A 3 out M1 M 4 [(0, .ref (ad o)), (1, .int c1), (2, .int c2)] [] := by
  unfold X1_closedSet_L4 at h
  have h := un2_inv h
  refine J.iload_n hX 4 2 rfl rfl ?_
  refine J.bipush (v := 24) hX 5 rfl (by decide) ?_
  refine J.icmp_ge (tgt := 30) hX 6 rfl (by decide) (fun b1 => ?_) (fun b1 => ?_)
  · rw [if_pos b1] at h
    refine J.sub (L' := [(1, .int c1)]) [1] rfl ?_
    exact hex0 _ (Option.some.inj h).symm
  · rw [if_neg b1] at h
    refine J.aload_n hX 7 0 rfl rfl ?_
    refine J.iload_n hX 8 2 rfl rfl ?_
    obtain ⟨t1, hc, h⟩ := bd1_inv h
    refine J.callV1 (As := [.int c2]) (rest := []) (k := o) hX 9 rfl (mX1_isClosed ho hc) okX1_isClosed w_224 ho.lt0 ho.s0 rfl rfl rfl (Nat.le_of_ble_eq_true rfl) ⟨Nat.le_of_ble_eq_true rfl, Nat.le_of_ble_eq_true rfl⟩ ⟨Nat.zero_le _, Nat.zero_le _⟩ ?_
    refine J.if_eq (tgt := 24) hX 10 rfl (by decide) (fun b2 => ?_) (fun b2 => ?_)
    · rw [if_pos b2] at h
      refine J.sub (L' := [(0, .ref (ad o)), (1, .int c1), (2, .int c2)]) [0, 1, 2] rfl ?_
      exact X1_closedSet_L4_j24_ok hX ho h hin hex0
    · rw [if_neg b2] at h
      refine J.iload_n hX 11 1 rfl rfl ?_
      refine J.iconst (v := 1) hX 12 rfl (by decide) ?_
      refine J.iload_n hX 13 2 rfl rfl ?_
      refine J.ishl hX 14 rfl ?_
      refine J.ior hX 15 rfl ?_
      obtain ⟨t3, et3, h⟩ := bnd_inv h
      refine J.nm et3 ?_
      refine J.istore_n (L' := [(1, .int t3), (0, .ref (ad o)), (2, .int c2)]) hX 16 rfl (by decide) rfl ?_
      refine J.sub (L' := [(0, .ref (ad o)), (1, .int t3), (2, .int c2)]) [1, 0, 2] rfl ?_
      exact X1_closedSet_L4_j24_ok hX ho h hin hex0
set_option maxHeartbeats 4000000 in
set_option maxRecDepth 100000 in
theorem mX1_closedSet {l : Launch} {D : va_G} {cA : Nat → ClassId} {ad : Nat → Nat} {n : Nat} {A : Nat → Prop} {sa : Nat → Nat} {M : Mem} {o : Nat} {r : Int32} (ho : DrOk n o) (h : X1_closedSet M o = some r) : CT l D cA ad n A sa yX1_closedSet cX1_closedSet 3 (some .int) 1 21 [.ref (ad o)] M (.inl (some (.int r))) M := by
  refine CT.of (kt := kX1_closedSet) (by decide) kX1_closedSet_ok (Nat.le_of_ble_eq_true rfl) ?_
  intro p e s m args below meth c hX hr ht
  unfold X1_closedSet at h
  refine J.sub (L' := [(0, .ref (ad o))]) [0] rfl ?_
  refine J.iconst (v := 0) hX 0 rfl (by decide) ?_
  refine J.istore_n (L' := [(1, .int 0), (0, .ref (ad o))]) hX 1 rfl (by decide) rfl ?_
  refine J.iconst (v := 0) hX 2 rfl (by decide) ?_
  refine J.istore_n (L' := [(2, .int 0), (1, .int 0), (0, .ref (ad o))]) hX 3 rfl (by decide) rfl ?_
  refine J.sub (L' := [(0, .ref (ad o)), (1, .int 0), (2, .int 0)]) [2, 1, 0] rfl ?_
  obtain ⟨x1, hlp, h⟩ := bd1_inv h
  suffices hE : JM 1 21 p l e s m args below meth c D cA ad n A 3 (.inl (some (.int r))) M M 30 [(1, .int x1)] [] by
    exact loop_ok (fun q9 : Int32 × Int32 => JM 1 21 p l e s m args below meth c D cA ad n A 3 (.inl (some (.int r))) M M 4 [(0, .ref (ad o)), (1, .int q9.1), (2, .int q9.2)] []) (fun q9 r hB hst hex9 => X1_closedSet_L4_ok hX ho hB (fun _ _ hr => hst _ hr) (fun _ hr => by cases hex9 _ hr; exact hE)) 3000 _ hlp
  refine J.iload_n hX 19 0 rfl rfl ?_
  cases h
  exact J.iret hX hr 20 rfl
def X1_closedPatches (M : Mem) (o : Nat) : Option (Int32) := bd1 (X1_closedSet M o) (fun t1 => bd1 (J6_bitCount_0f7a4 M t1) (fun t2 => some t2))
set_option maxHeartbeats 4000000 in
set_option maxRecDepth 100000 in
theorem mX1_closedPatches {l : Launch} {D : va_G} {cA : Nat → ClassId} {ad : Nat → Nat} {n : Nat} {A : Nat → Prop} {sa : Nat → Nat} {M : Mem} {o : Nat} {r : Int32} (ho : DrOk n o) (h : X1_closedPatches M o = some r) : CT l D cA ad n A sa yX1_closedPatches cX1_closedPatches 1 (some .int) 2 43 [.ref (ad o)] M (.inl (some (.int r))) M := by
  refine CT.of (kt := kX1_closedPatches) (by decide) kX1_closedPatches_ok (Nat.le_of_ble_eq_true rfl) ?_
  intro p e s m args below meth c hX hr ht
  unfold X1_closedPatches at h
  refine J.sub (L' := [(0, .ref (ad o))]) [0] rfl ?_
  refine J.aload_n hX 0 0 rfl rfl ?_
  obtain ⟨t1, hc, h⟩ := bd1_inv h
  refine J.callV1 (As := []) (rest := []) (k := o) hX 1 rfl (mX1_closedSet ho hc) okX1_closedSet w_220 ho.lt0 ho.s0 rfl rfl rfl (Nat.le_of_ble_eq_true rfl) ⟨Nat.le_of_ble_eq_true rfl, Nat.le_of_ble_eq_true rfl⟩ ⟨Nat.zero_le _, Nat.zero_le _⟩ ?_
  obtain ⟨t2, hc, h⟩ := bd1_inv h
  refine J.callS1 (As := [.int t1]) (rest := []) hX 2 rfl (mJ6_bitCount_0f7a4  hc) okJ6_bitCount_0f7a4 w_225 rfl rfl (Nat.le_of_ble_eq_true rfl) ⟨Nat.le_of_ble_eq_true rfl, Nat.le_of_ble_eq_true rfl⟩ ⟨Nat.zero_le _, Nat.zero_le _⟩ ?_
  cases h
  exact J.iret hX hr 3 rfl
def X1_sideOf_L30_j90 (M : Mem) (o : Nat) (l3 : Int32) (t1 : Int32) (t3 : Int32) (v10 : Int32) (v11 : Int32) (v12 : Int32) : Option ((Int32 × Int32 × Int32) ⊕ (Int32 × Int32)) := bnd (v11 + 1) (fun t6 => some (.inl (v10, v12, t6)))
def X1_sideOf_L30_j85 (M : Mem) (o : Nat) (l3 : Int32) (t1 : Int32) (t3 : Int32) (v8 : Int32) (v9 : Int32) : Option ((Int32 × Int32 × Int32) ⊕ (Int32 × Int32)) := X1_sideOf_L30_j90 M o l3 t1 t3 v8 v9 1
def X1_sideOf_L30_j73 (M : Mem) (o : Nat) (l3 : Int32) (t1 : Int32) (t3 : Int32) (v4 : Int32) (v5 : Int32) (v6 : Int32) (v7 : Int32) : Option ((Int32 × Int32 × Int32) ⊕ (Int32 × Int32)) := if v4 = 0 then (if 0 ≤ v6 then (X1_sideOf_L30_j90 M o l3 t1 t3 v7 v5 0) else (X1_sideOf_L30_j85 M o l3 t1 t3 v7 v5)) else (X1_sideOf_L30_j85 M o l3 t1 t3 v7 v5)
def X1_sideOf_L30_j68 (M : Mem) (o : Nat) (l3 : Int32) (t1 : Int32) (t3 : Int32) (v1 : Int32) (v2 : Int32) (v3 : Int32) : Option ((Int32 × Int32 × Int32) ⊕ (Int32 × Int32)) := X1_sideOf_L30_j73 M o l3 t1 t3 v1 v2 v3 1
def X1_sideOf_L30 (M : Mem) (o : Nat) (l3 : Int32) (t1 : Int32) (t3 : Int32) (q9 : Int32 × Int32 × Int32) : Option ((Int32 × Int32 × Int32) ⊕ (Int32 × Int32)) := un3 q9 (fun c1 c2 c3 => ld M (o + 3) 24 l3 (fun t4 => if t4 ≤ c3 then (some (.inr (c1, c2))) else (bd1 (X1_bend M o t1 t3 ((l3 * 8) + c3)) (fun t5 => if c1 = 0 then (if t5 ≤ 0 then (X1_sideOf_L30_j73 M o l3 t1 t3 c2 c3 t5 0) else (X1_sideOf_L30_j68 M o l3 t1 t3 c2 c3 t5)) else (X1_sideOf_L30_j68 M o l3 t1 t3 c2 c3 t5)))))
def X1_sideOf_j117 (M : Mem) (v13 : Int32) : Option (Int32) := some v13
def X1_sideOf (M : Mem) (o : Nat) (l1 : Int32) (l2 : Int32) (l3 : Int32) : Option (Int32) := bnd (((l1 * 8) + l2)) (fun t1 => bd1 (X1_next M o l1 l2) (fun t2 => bnd (((l1 * 8) + t2)) (fun t3 => bd2 (loop (X1_sideOf_L30 M o l3 t1 t3) 3000 (0, 0, 0)) (fun x1 x2 => if x1 = x2 then (some 0) else (if x1 = 0 then (X1_sideOf_j117 M (-1)) else (X1_sideOf_j117 M 1))))))
set_option maxHeartbeats 4000000 in
set_option maxRecDepth 100000 in
theorem X1_sideOf_L30_j90_ok (hX : Cx p s m args meth c D cA ad n A sa cX1_sideOf 10 RX1 kX1_sideOf) {M : Mem} {o : Nat} {l3 : Int32} {t1 : Int32} {t3 : Int32} {v10 : Int32} {v11 : Int32} {v12 : Int32} (ho : DrOk n o) {r : (Int32 × Int32 × Int32) ⊕ (Int32 × Int32)} (h : X1_sideOf_L30_j90 M o l3 t1 t3 v10 v11 v12 = some r) (hin : ∀ (q0 : Int32) (q1 : Int32) (q2 : Int32), r = .inl (q0, q1, q2) → JM 1 23 p l e s m args below meth c D cA ad n A 10 out M1 M 30 [(0, .ref (ad o)), (3, .int l3), (4, .int t1), (5, .int t3), (6, .int q0), (7, .int q1), (8, .int q2)] []) (hex0 : ∀ (q0 : Int32) (q1 : Int32), r = .inr (q0, q1) → JM 1 23 p l e s m args below meth c D cA ad n A 10 out M1 M 98 [(6, .int q0), (7, .int q1)] []) : JM 1 23 p l e s m args below meth c D cA ad n A 10 out M1 M 90 [(0, .ref (ad o)), (3, .int l3), (4, .int t1), (5, .int t3), (6, .int v10), (8, .int v11)] [.int v12] := by
  unfold X1_sideOf_L30_j90 at h
  refine J.istore (L' := [(7, .int v12), (0, .ref (ad o)), (3, .int l3), (4, .int t1), (5, .int t3), (6, .int v10), (8, .int v11)]) hX 52 rfl (by decide) rfl ?_
  obtain ⟨t6, et6, h⟩ := bnd_inv h
  refine J.iinc (q := 6) (L' := [(8, .int t6), (7, .int v12), (0, .ref (ad o)), (3, .int l3), (4, .int t1), (5, .int t3), (6, .int v10)]) hX 53 rfl rfl et6 (by decide) rfl ?_
  refine J.goto (tgt := 30) hX 54 rfl (by decide) ?_
  refine J.sub (L' := [(0, .ref (ad o)), (3, .int l3), (4, .int t1), (5, .int t3), (6, .int v10), (7, .int v12), (8, .int t6)]) [2, 3, 4, 5, 6, 1, 0] rfl ?_
  exact hin _ _ _ (Option.some.inj h).symm
set_option maxHeartbeats 4000000 in
set_option maxRecDepth 100000 in
theorem X1_sideOf_L30_j85_ok (hX : Cx p s m args meth c D cA ad n A sa cX1_sideOf 10 RX1 kX1_sideOf) {M : Mem} {o : Nat} {l3 : Int32} {t1 : Int32} {t3 : Int32} {v8 : Int32} {v9 : Int32} (ho : DrOk n o) {r : (Int32 × Int32 × Int32) ⊕ (Int32 × Int32)} (h : X1_sideOf_L30_j85 M o l3 t1 t3 v8 v9 = some r) (hin : ∀ (q0 : Int32) (q1 : Int32) (q2 : Int32), r = .inl (q0, q1, q2) → JM 1 23 p l e s m args below meth c D cA ad n A 10 out M1 M 30 [(0, .ref (ad o)), (3, .int l3), (4, .int t1), (5, .int t3), (6, .int q0), (7, .int q1), (8, .int q2)] []) (hex0 : ∀ (q0 : Int32) (q1 : Int32), r = .inr (q0, q1) → JM 1 23 p l e s m args below meth c D cA ad n A 10 out M1 M 98 [(6, .int q0), (7, .int q1)] []) : JM 1 23 p l e s m args below meth c D cA ad n A 10 out M1 M 85 [(0, .ref (ad o)), (3, .int l3), (4, .int t1), (5, .int t3), (6, .int v8), (8, .int v9)] [] := by
  unfold X1_sideOf_L30_j85 at h
  refine J.iconst (v := 1) hX 49 rfl (by decide) ?_
  refine J.goto (tgt := 90) hX 50 rfl (by decide) ?_
  refine J.sub (L' := [(0, .ref (ad o)), (3, .int l3), (4, .int t1), (5, .int t3), (6, .int v8), (8, .int v9)]) [0, 1, 2, 3, 4, 5] rfl ?_
  exact X1_sideOf_L30_j90_ok hX ho h hin hex0
set_option maxHeartbeats 4000000 in
set_option maxRecDepth 100000 in
theorem X1_sideOf_L30_j73_ok (hX : Cx p s m args meth c D cA ad n A sa cX1_sideOf 10 RX1 kX1_sideOf) {M : Mem} {o : Nat} {l3 : Int32} {t1 : Int32} {t3 : Int32} {v4 : Int32} {v5 : Int32} {v6 : Int32} {v7 : Int32} (ho : DrOk n o) {r : (Int32 × Int32 × Int32) ⊕ (Int32 × Int32)} (h : X1_sideOf_L30_j73 M o l3 t1 t3 v4 v5 v6 v7 = some r) (hin : ∀ (q0 : Int32) (q1 : Int32) (q2 : Int32), r = .inl (q0, q1, q2) → JM 1 23 p l e s m args below meth c D cA ad n A 10 out M1 M 30 [(0, .ref (ad o)), (3, .int l3), (4, .int t1), (5, .int t3), (6, .int q0), (7, .int q1), (8, .int q2)] []) (hex0 : ∀ (q0 : Int32) (q1 : Int32), r = .inr (q0, q1) → JM 1 23 p l e s m args below meth c D cA ad n A 10 out M1 M 98 [(6, .int q0), (7, .int q1)] []) : JM 1 23 p l e s m args below meth c D cA ad n A 10 out M1 M 73 [(0, .ref (ad o)), (3, .int l3), (4, .int t1), (5, .int t3), (7, .int v4), (8, .int v5), (9, .int v6)] [.int v7] := by
  unfold X1_sideOf_L30_j73 at h
  refine J.istore (L' := [(6, .int v7), (0, .ref (ad o)), (3, .int l3), (4, .int t1), (5, .int t3), (7, .int v4), (8, .int v5), (9, .int v6)]) hX 44 rfl (by decide) rfl ?_
  refine J.iload hX 45 5 rfl rfl ?_
  refine J.if_ne (tgt := 85) hX 46 rfl (by decide) (fun b3 => ?_) (fun b3 => ?_)
  · rw [if_neg b3] at h
    refine J.sub (L' := [(0, .ref (ad o)), (3, .int l3), (4, .int t1), (5, .int t3), (6, .int v7), (8, .int v5)]) [1, 2, 3, 4, 0, 6] rfl ?_
    exact X1_sideOf_L30_j85_ok hX ho h hin hex0
  · rw [if_pos b3] at h
    refine J.iload hX 47 7 rfl rfl ?_
    refine J.if_ge (tgt := 89) hX 48 rfl (by decide) (fun b4 => ?_) (fun b4 => ?_)
    · rw [if_pos b4] at h
      refine J.iconst (v := 0) hX 51 rfl (by decide) ?_
      refine J.sub (L' := [(0, .ref (ad o)), (3, .int l3), (4, .int t1), (5, .int t3), (6, .int v7), (8, .int v5)]) [1, 2, 3, 4, 0, 6] rfl ?_
      exact X1_sideOf_L30_j90_ok hX ho h hin hex0
    · rw [if_neg b4] at h
      refine J.sub (L' := [(0, .ref (ad o)), (3, .int l3), (4, .int t1), (5, .int t3), (6, .int v7), (8, .int v5)]) [1, 2, 3, 4, 0, 6] rfl ?_
      exact X1_sideOf_L30_j85_ok hX ho h hin hex0
set_option maxHeartbeats 4000000 in
set_option maxRecDepth 100000 in
theorem X1_sideOf_L30_j68_ok (hX : Cx p s m args meth c D cA ad n A sa cX1_sideOf 10 RX1 kX1_sideOf) {M : Mem} {o : Nat} {l3 : Int32} {t1 : Int32} {t3 : Int32} {v1 : Int32} {v2 : Int32} {v3 : Int32} (ho : DrOk n o) {r : (Int32 × Int32 × Int32) ⊕ (Int32 × Int32)} (h : X1_sideOf_L30_j68 M o l3 t1 t3 v1 v2 v3 = some r) (hin : ∀ (q0 : Int32) (q1 : Int32) (q2 : Int32), r = .inl (q0, q1, q2) → JM 1 23 p l e s m args below meth c D cA ad n A 10 out M1 M 30 [(0, .ref (ad o)), (3, .int l3), (4, .int t1), (5, .int t3), (6, .int q0), (7, .int q1), (8, .int q2)] []) (hex0 : ∀ (q0 : Int32) (q1 : Int32), r = .inr (q0, q1) → JM 1 23 p l e s m args below meth c D cA ad n A 10 out M1 M 98 [(6, .int q0), (7, .int q1)] []) : JM 1 23 p l e s m args below meth c D cA ad n A 10 out M1 M 68 [(0, .ref (ad o)), (3, .int l3), (4, .int t1), (5, .int t3), (7, .int v1), (8, .int v2), (9, .int v3)] [] := by
  unfold X1_sideOf_L30_j68 at h
  refine J.iconst (v := 1) hX 41 rfl (by decide) ?_
  refine J.goto (tgt := 73) hX 42 rfl (by decide) ?_
  refine J.sub (L' := [(0, .ref (ad o)), (3, .int l3), (4, .int t1), (5, .int t3), (7, .int v1), (8, .int v2), (9, .int v3)]) [0, 1, 2, 3, 4, 5, 6] rfl ?_
  exact X1_sideOf_L30_j73_ok hX ho h hin hex0
set_option maxHeartbeats 4000000 in
set_option maxRecDepth 100000 in
theorem X1_sideOf_L30_ok (hX : Cx p s m args meth c D cA ad n A sa cX1_sideOf 10 RX1 kX1_sideOf) {M : Mem} {o : Nat} {l3 : Int32} {t1 : Int32} {t3 : Int32} {c1 : Int32} {c2 : Int32} {c3 : Int32} (ho : DrOk n o) {r : (Int32 × Int32 × Int32) ⊕ (Int32 × Int32)} (h : X1_sideOf_L30 M o l3 t1 t3 (c1, c2, c3) = some r) (hin : ∀ (q0 : Int32) (q1 : Int32) (q2 : Int32), r = .inl (q0, q1, q2) → JM 1 23 p l e s m args below meth c D cA ad n A 10 out M1 M 30 [(0, .ref (ad o)), (3, .int l3), (4, .int t1), (5, .int t3), (6, .int q0), (7, .int q1), (8, .int q2)] []) (hex0 : ∀ (q0 : Int32) (q1 : Int32), r = .inr (q0, q1) → JM 1 23 p l e s m args below meth c D cA ad n A 10 out M1 M 98 [(6, .int q0), (7, .int q1)] []) : JM 1 23 p l e s m args below meth c D cA ad n A 10 out M1 M 30 [(0, .ref (ad o)), (3, .int l3), (4, .int t1), (5, .int t3), (6, .int c1), (7, .int c2), (8, .int c3)] [] := by
  unfold X1_sideOf_L30 at h
  have h := un3_inv h
  refine J.iload hX 21 6 rfl rfl ?_
  refine J.aload_n hX 22 0 rfl rfl ?_
  refine J.getR hX 23 o 1 ho.lt0 ho.s0 rfl in_wsX10 2 (by decide) w_35 rfl rfl ?_
  refine J.iload_n hX 24 1 rfl rfl ?_
  obtain ⟨t4, et4, hb, h⟩ := ld_inv h
  refine J.ialdN hX 25 (o + 3) ho.lt3 ho.s3 hb et4 rfl ?_
  refine J.icmp_ge (tgt := 98) hX 26 rfl (by decide) (fun b1 => ?_) (fun b1 => ?_)
  · rw [if_pos b1] at h
    refine J.sub (L' := [(6, .int c1), (7, .int c2)]) [4, 5] rfl ?_
    exact hex0 _ _ (Option.some.inj h).symm
  · rw [if_neg b1] at h
    refine J.aload_n hX 27 0 rfl rfl ?_
    refine J.iload hX 28 2 rfl rfl ?_
    refine J.iload hX 29 3 rfl rfl ?_
    refine J.iload_n hX 30 1 rfl rfl ?_
    refine J.bipush (v := 8) hX 31 rfl (by decide) ?_
    refine J.imul hX 32 rfl ?_
    refine J.iload hX 33 6 rfl rfl ?_
    refine J.iadd hX 34 rfl ?_
    obtain ⟨t5, hc, h⟩ := bd1_inv h
    refine J.callV1 (As := [.int t1, .int t3, .int ((l3 * 8) + c3)]) (rest := []) (k := o) hX 35 rfl (mX1_bend ho hc) okX1_bend w_165 ho.lt0 ho.s0 rfl rfl rfl (Nat.le_of_ble_eq_true rfl) ⟨Nat.le_of_ble_eq_true rfl, Nat.le_of_ble_eq_true rfl⟩ ⟨Nat.zero_le _, Nat.zero_le _⟩ ?_
    refine J.istore (L' := [(9, .int t5), (0, .ref (ad o)), (3, .int l3), (4, .int t1), (5, .int t3), (6, .int c1), (7, .int c2), (8, .int c3)]) hX 36 rfl (by decide) rfl ?_
    refine J.iload hX 37 5 rfl rfl ?_
    refine J.if_ne (tgt := 68) hX 38 rfl (by decide) (fun b2 => ?_) (fun b2 => ?_)
    · rw [if_neg b2] at h
      refine J.sub (L' := [(0, .ref (ad o)), (3, .int l3), (4, .int t1), (5, .int t3), (7, .int c2), (8, .int c3), (9, .int t5)]) [1, 2, 3, 4, 6, 7, 0] rfl ?_
      exact X1_sideOf_L30_j68_ok hX ho h hin hex0
    · rw [if_pos b2] at h
      refine J.iload hX 39 0 rfl rfl ?_
      refine J.if_le (tgt := 72) hX 40 rfl (by decide) (fun b5 => ?_) (fun b5 => ?_)
      · rw [if_pos b5] at h
        refine J.iconst (v := 0) hX 43 rfl (by decide) ?_
        refine J.sub (L' := [(0, .ref (ad o)), (3, .int l3), (4, .int t1), (5, .int t3), (7, .int c2), (8, .int c3), (9, .int t5)]) [1, 2, 3, 4, 6, 7, 0] rfl ?_
        exact X1_sideOf_L30_j73_ok hX ho h hin hex0
      · rw [if_neg b5] at h
        refine J.sub (L' := [(0, .ref (ad o)), (3, .int l3), (4, .int t1), (5, .int t3), (7, .int c2), (8, .int c3), (9, .int t5)]) [1, 2, 3, 4, 6, 7, 0] rfl ?_
        exact X1_sideOf_L30_j68_ok hX ho h hin hex0
set_option maxHeartbeats 4000000 in
set_option maxRecDepth 100000 in
theorem X1_sideOf_j117_ok (hX : Cx p s m args meth c D cA ad n A sa cX1_sideOf 10 RX1 kX1_sideOf) {M : Mem} {v13 : Int32} {r : Int32}  (hr : meth.sig.returnType = (some .int)) (ht : ∀ x ∈ c.exceptionTable.toList, False) (h : X1_sideOf_j117 M v13 = some r) : JM 1 23 p l e s m args below meth c D cA ad n A 10 (.inl (some (.int r))) M M 117 [] [.int v13] := by
  unfold X1_sideOf_j117 at h
  cases h
  exact J.iret hX hr 65 rfl
set_option maxHeartbeats 4000000 in
set_option maxRecDepth 100000 in
theorem mX1_sideOf {l : Launch} {D : va_G} {cA : Nat → ClassId} {ad : Nat → Nat} {n : Nat} {A : Nat → Prop} {sa : Nat → Nat} {M : Mem} {o : Nat} {l1 : Int32} {l2 : Int32} {l3 : Int32} {r : Int32} (ho : DrOk n o) (h : X1_sideOf M o l1 l2 l3 = some r) : CT l D cA ad n A sa yX1_sideOf cX1_sideOf 10 (some .int) 1 23 [.ref (ad o), .int l1, .int l2, .int l3] M (.inl (some (.int r))) M := by
  refine CT.of (kt := kX1_sideOf) (by decide) kX1_sideOf_ok (Nat.le_of_ble_eq_true rfl) ?_
  intro p e s m args below meth c hX hr ht
  unfold X1_sideOf at h
  refine J.sub (L' := [(0, .ref (ad o)), (1, .int l1), (2, .int l2), (3, .int l3)]) [0, 1, 2, 3] rfl ?_
  refine J.iload_n hX 0 1 rfl rfl ?_
  refine J.bipush (v := 8) hX 1 rfl (by decide) ?_
  refine J.imul hX 2 rfl ?_
  refine J.iload_n hX 3 2 rfl rfl ?_
  refine J.iadd hX 4 rfl ?_
  obtain ⟨t1, et1, h⟩ := bnd_inv h
  refine J.nm et1 ?_
  refine J.istore (L' := [(4, .int t1), (0, .ref (ad o)), (1, .int l1), (2, .int l2), (3, .int l3)]) hX 5 rfl (by decide) rfl ?_
  refine J.iload_n hX 6 2 rfl rfl ?_
  refine J.bipush (v := 8) hX 7 rfl (by decide) ?_
  refine J.imul hX 8 rfl ?_
  refine J.aload_n hX 9 1 rfl rfl ?_
  refine J.iload_n hX 10 2 rfl rfl ?_
  refine J.iload_n hX 11 3 rfl rfl ?_
  obtain ⟨t2, hc, h⟩ := bd1_inv h
  refine J.callV1 (As := [.int l1, .int l2]) (rest := [.int (l1 * 8)]) (k := o) hX 12 rfl (mX1_next ho hc) okX1_next w_161 ho.lt0 ho.s0 rfl rfl rfl (Nat.le_of_ble_eq_true rfl) ⟨Nat.le_of_ble_eq_true rfl, Nat.le_of_ble_eq_true rfl⟩ ⟨Nat.zero_le _, Nat.zero_le _⟩ ?_
  refine J.iadd hX 13 rfl ?_
  obtain ⟨t3, et3, h⟩ := bnd_inv h
  refine J.nm et3 ?_
  refine J.istore (L' := [(5, .int t3), (4, .int t1), (0, .ref (ad o)), (1, .int l1), (2, .int l2), (3, .int l3)]) hX 14 rfl (by decide) rfl ?_
  refine J.iconst (v := 0) hX 15 rfl (by decide) ?_
  refine J.istore (L' := [(6, .int 0), (5, .int t3), (4, .int t1), (0, .ref (ad o)), (1, .int l1), (2, .int l2), (3, .int l3)]) hX 16 rfl (by decide) rfl ?_
  refine J.iconst (v := 0) hX 17 rfl (by decide) ?_
  refine J.istore (L' := [(7, .int 0), (6, .int 0), (5, .int t3), (4, .int t1), (0, .ref (ad o)), (1, .int l1), (2, .int l2), (3, .int l3)]) hX 18 rfl (by decide) rfl ?_
  refine J.iconst (v := 0) hX 19 rfl (by decide) ?_
  refine J.istore (L' := [(8, .int 0), (7, .int 0), (6, .int 0), (5, .int t3), (4, .int t1), (0, .ref (ad o)), (1, .int l1), (2, .int l2), (3, .int l3)]) hX 20 rfl (by decide) rfl ?_
  refine J.sub (L' := [(0, .ref (ad o)), (3, .int l3), (4, .int t1), (5, .int t3), (6, .int 0), (7, .int 0), (8, .int 0)]) [5, 8, 4, 3, 2, 1, 0] rfl ?_
  obtain ⟨x1, x2, hlp, h⟩ := bd2_inv h
  suffices hE : JM 1 23 p l e s m args below meth c D cA ad n A 10 (.inl (some (.int r))) M M 98 [(6, .int x1), (7, .int x2)] [] by
    exact loop_ok (fun q9 : Int32 × Int32 × Int32 => JM 1 23 p l e s m args below meth c D cA ad n A 10 (.inl (some (.int r))) M M 30 [(0, .ref (ad o)), (3, .int l3), (4, .int t1), (5, .int t3), (6, .int q9.1), (7, .int q9.2.1), (8, .int q9.2.2)] []) (fun q9 r hB hst hex9 => X1_sideOf_L30_ok hX ho hB (fun _ _ _ hr => hst _ hr) (fun _ _ hr => by cases hex9 _ hr; exact hE)) 3000 _ hlp
  refine J.iload hX 55 0 rfl rfl ?_
  refine J.iload hX 56 1 rfl rfl ?_
  refine J.icmp_ne (tgt := 107) hX 57 rfl (by decide) (fun b6 => ?_) (fun b6 => ?_)
  · rw [if_neg b6] at h
    refine J.iload hX 60 0 rfl rfl ?_
    refine J.if_eq (tgt := 116) hX 61 rfl (by decide) (fun b7 => ?_) (fun b7 => ?_)
    · rw [if_pos b7] at h
      refine J.iconst (v := (-1)) hX 64 rfl (by decide) ?_
      refine J.sub (L' := []) [] rfl ?_
      exact X1_sideOf_j117_ok hX  hr ht h
    · rw [if_neg b7] at h
      refine J.iconst (v := 1) hX 62 rfl (by decide) ?_
      refine J.goto (tgt := 117) hX 63 rfl (by decide) ?_
      refine J.sub (L' := []) [] rfl ?_
      exact X1_sideOf_j117_ok hX  hr ht h
  · rw [if_pos b6] at h
    refine J.iconst (v := 0) hX 58 rfl (by decide) ?_
    cases h
    exact J.iret hX hr 59 rfl
def X1_hasPartingEdge_L2 (M : Mem) (o : Nat) (l1 : Int32) (l2 : Int32) (q9 : Int32) : Option ((Int32) ⊕ ((Unit) ⊕ (Unit))) := un1 q9 (fun c1 => ld M (o + 3) 24 l1 (fun t1 => if t1 ≤ c1 then (some (.inr (.inl ()))) else (bd1 (X1_sideOf M o l1 c1 l2) (fun t2 => if t2 = (-1) then (some (.inr (.inr ()))) else (bnd (c1 + 1) (fun t3 => some (.inl t3)))))))
def X1_hasPartingEdge (M : Mem) (o : Nat) (l1 : Int32) (l2 : Int32) : Option (Int32) := bdS (loop (X1_hasPartingEdge_L2 M o l1 l2) 3000 0) (fun a9 => un0 a9 (chk (isB 0) (some 0))) (fun a9 => un0 a9 (chk (isB 1) (some 1)))
set_option maxHeartbeats 4000000 in
set_option maxRecDepth 100000 in
theorem X1_hasPartingEdge_L2_ok (hX : Cx p s m args meth c D cA ad n A sa cX1_hasPartingEdge 4 RX1 kX1_hasPartingEdge) {M : Mem} {o : Nat} {l1 : Int32} {l2 : Int32} {c1 : Int32} (ho : DrOk n o) {r : (Int32) ⊕ ((Unit) ⊕ (Unit))} (h : X1_hasPartingEdge_L2 M o l1 l2 c1 = some r) (hin : ∀ (q0 : Int32), r = .inl q0 → JM 2 52 p l e s m args below meth c D cA ad n A 4 out M1 M 2 [(0, .ref (ad o)), (1, .int l1), (2, .int l2), (3, .int q0)] []) (hex0 : r = .inr (.inl ()) → JM 2 52 p l e s m args below meth c D cA ad n A 4 out M1 M 31 [] []) (hex1 : r = .inr (.inr ()) → JM 2 52 p l e s m args below meth c D cA ad n A 4 out M1 M 23 [] []) : JM 2 52 p l e s m args below meth c D cA ad n A 4 out M1 M 2 [(0, .ref (ad o)), (1, .int l1), (2, .int l2), (3, .int c1)] [] := by
  unfold X1_hasPartingEdge_L2 at h
  have h := un1_inv h
  refine J.iload_n hX 2 3 rfl rfl ?_
  refine J.aload_n hX 3 0 rfl rfl ?_
  refine J.getR hX 4 o 1 ho.lt0 ho.s0 rfl in_wsX10 2 (by decide) w_35 rfl rfl ?_
  refine J.iload_n hX 5 1 rfl rfl ?_
  obtain ⟨t1, et1, hb, h⟩ := ld_inv h
  refine J.ialdN hX 6 (o + 3) ho.lt3 ho.s3 hb et1 rfl ?_
  refine J.icmp_ge (tgt := 31) hX 7 rfl (by decide) (fun b1 => ?_) (fun b1 => ?_)
  · rw [if_pos b1] at h
    refine J.sub (L' := []) [] rfl ?_
    exact hex0  (Option.some.inj h).symm
  · rw [if_neg b1] at h
    refine J.aload_n hX 8 0 rfl rfl ?_
    refine J.iload_n hX 9 1 rfl rfl ?_
    refine J.iload_n hX 10 3 rfl rfl ?_
    refine J.iload_n hX 11 2 rfl rfl ?_
    obtain ⟨t2, hc, h⟩ := bd1_inv h
    refine J.callV1 (As := [.int l1, .int c1, .int l2]) (rest := []) (k := o) hX 12 rfl (mX1_sideOf ho hc) okX1_sideOf w_260 ho.lt0 ho.s0 rfl rfl rfl (Nat.le_of_ble_eq_true rfl) ⟨Nat.le_of_ble_eq_true rfl, Nat.le_of_ble_eq_true rfl⟩ ⟨Nat.zero_le _, Nat.zero_le _⟩ ?_
    refine J.iconst (v := (-1)) hX 13 rfl (by decide) ?_
    refine J.icmp_ne (tgt := 25) hX 14 rfl (by decide) (fun b2 => ?_) (fun b2 => ?_)
    · rw [if_neg b2] at h
      obtain ⟨t3, et3, h⟩ := bnd_inv h
      refine J.iinc (q := 3) (L' := [(3, .int t3), (0, .ref (ad o)), (1, .int l1), (2, .int l2)]) hX 17 rfl rfl et3 (by decide) rfl ?_
      refine J.goto (tgt := 2) hX 18 rfl (by decide) ?_
      refine J.sub (L' := [(0, .ref (ad o)), (1, .int l1), (2, .int l2), (3, .int t3)]) [1, 2, 3, 0] rfl ?_
      exact hin _ (Option.some.inj h).symm
    · rw [if_pos b2] at h
      refine J.sub (L' := []) [] rfl ?_
      exact hex1  (Option.some.inj h).symm
set_option maxHeartbeats 4000000 in
set_option maxRecDepth 100000 in
theorem mX1_hasPartingEdge {l : Launch} {D : va_G} {cA : Nat → ClassId} {ad : Nat → Nat} {n : Nat} {A : Nat → Prop} {sa : Nat → Nat} {M : Mem} {o : Nat} {l1 : Int32} {l2 : Int32} {r : Int32} (ho : DrOk n o) (h : X1_hasPartingEdge M o l1 l2 = some r) : CT l D cA ad n A sa yX1_hasPartingEdge cX1_hasPartingEdge 4 (some .boolean) 2 52 [.ref (ad o), .int l1, .int l2] M (.inl (some (.int r))) M := by
  refine CT.of (kt := kX1_hasPartingEdge) (by decide) kX1_hasPartingEdge_ok (Nat.le_of_ble_eq_true rfl) ?_
  intro p e s m args below meth c hX hr ht
  unfold X1_hasPartingEdge at h
  refine J.sub (L' := [(0, .ref (ad o)), (1, .int l1), (2, .int l2)]) [0, 1, 2] rfl ?_
  refine J.iconst (v := 0) hX 0 rfl (by decide) ?_
  refine J.istore_n (L' := [(3, .int 0), (0, .ref (ad o)), (1, .int l1), (2, .int l2)]) hX 1 rfl (by decide) rfl ?_
  refine J.sub (L' := [(0, .ref (ad o)), (1, .int l1), (2, .int l2), (3, .int 0)]) [1, 2, 3, 0] rfl ?_
  rcases bdS_inv h with ⟨a9, hlp, h⟩ | ⟨a9, hlp, h⟩
  · have h := un0_inv h
    suffices hE : JM 2 52 p l e s m args below meth c D cA ad n A 4 (.inl (some (.int r))) M M 31 [] [] by
      exact loop_ok (fun q9 : Int32 => JM 2 52 p l e s m args below meth c D cA ad n A 4 (.inl (some (.int r))) M M 2 [(0, .ref (ad o)), (1, .int l1), (2, .int l2), (3, .int q9)] []) (fun q9 r hB hst hex9 => X1_hasPartingEdge_L2_ok hX ho hB (fun _ hr => hst _ hr) (fun hr => by cases hex9 _ hr; exact hE) (fun hr => by cases hex9 _ hr)) 3000 _ hlp
    refine J.iconst (v := 0) hX 19 rfl (by decide) ?_
    obtain ⟨hz, h⟩ := chk_inv h
    cases h
    exact J.zret hX hr 20 (isB_nar hz) rfl
  · have h := un0_inv h
    suffices hE : JM 2 52 p l e s m args below meth c D cA ad n A 4 (.inl (some (.int r))) M M 23 [] [] by
      exact loop_ok (fun q9 : Int32 => JM 2 52 p l e s m args below meth c D cA ad n A 4 (.inl (some (.int r))) M M 2 [(0, .ref (ad o)), (1, .int l1), (2, .int l2), (3, .int q9)] []) (fun q9 r hB hst hex9 => X1_hasPartingEdge_L2_ok hX ho hB (fun _ hr => hst _ hr) (fun hr => by cases hex9 _ hr) (fun hr => by cases hex9 _ hr; exact hE)) 3000 _ hlp
    refine J.iconst (v := 1) hX 15 rfl (by decide) ?_
    obtain ⟨hz, h⟩ := chk_inv h
    cases h
    exact J.zret hX hr 16 (isB_nar hz) rfl
def X1_overlap_j23 (M : Mem) (v1 : Int32) : Option (Int32) := chk (isB v1) (some v1)
def X1_overlap (M : Mem) (o : Nat) (l1 : Int32) (l2 : Int32) : Option (Int32) := bd1 (X1_hasPartingEdge M o l1 l2) (fun t1 => if t1 = 0 then (bd1 (X1_hasPartingEdge M o l2 l1) (fun t2 => if t2 = 0 then (X1_overlap_j23 M 1) else (X1_overlap_j23 M 0))) else (X1_overlap_j23 M 0))
set_option maxHeartbeats 4000000 in
set_option maxRecDepth 100000 in
theorem X1_overlap_j23_ok (hX : Cx p s m args meth c D cA ad n A sa cX1_overlap 3 RX1 kX1_overlap) {M : Mem} {v1 : Int32} {r : Int32}  (hr : meth.sig.returnType = (some .boolean)) (ht : ∀ x ∈ c.exceptionTable.toList, False) (h : X1_overlap_j23 M v1 = some r) : JM 3 75 p l e s m args below meth c D cA ad n A 3 (.inl (some (.int r))) M M 23 [] [.int v1] := by
  unfold X1_overlap_j23 at h
  obtain ⟨hz, h⟩ := chk_inv h
  cases h
  exact J.zret hX hr 13 (isB_nar hz) rfl
set_option maxHeartbeats 4000000 in
set_option maxRecDepth 100000 in
theorem mX1_overlap {l : Launch} {D : va_G} {cA : Nat → ClassId} {ad : Nat → Nat} {n : Nat} {A : Nat → Prop} {sa : Nat → Nat} {M : Mem} {o : Nat} {l1 : Int32} {l2 : Int32} {r : Int32} (ho : DrOk n o) (h : X1_overlap M o l1 l2 = some r) : CT l D cA ad n A sa yX1_overlap cX1_overlap 3 (some .boolean) 3 75 [.ref (ad o), .int l1, .int l2] M (.inl (some (.int r))) M := by
  refine CT.of (kt := kX1_overlap) (by decide) kX1_overlap_ok (Nat.le_of_ble_eq_true rfl) ?_
  intro p e s m args below meth c hX hr ht
  unfold X1_overlap at h
  refine J.sub (L' := [(0, .ref (ad o)), (1, .int l1), (2, .int l2)]) [0, 1, 2] rfl ?_
  refine J.aload_n hX 0 0 rfl rfl ?_
  refine J.iload_n hX 1 1 rfl rfl ?_
  refine J.iload_n hX 2 2 rfl rfl ?_
  obtain ⟨t1, hc, h⟩ := bd1_inv h
  refine J.callV1 (As := [.int l1, .int l2]) (rest := []) (k := o) hX 3 rfl (mX1_hasPartingEdge ho hc) okX1_hasPartingEdge w_256 ho.lt0 ho.s0 rfl rfl rfl (Nat.le_of_ble_eq_true rfl) ⟨Nat.le_of_ble_eq_true rfl, Nat.le_of_ble_eq_true rfl⟩ ⟨Nat.zero_le _, Nat.zero_le _⟩ ?_
  refine J.if_ne (tgt := 22) hX 4 rfl (by decide) (fun b1 => ?_) (fun b1 => ?_)
  · rw [if_neg b1] at h
    refine J.iconst (v := 0) hX 12 rfl (by decide) ?_
    refine J.sub (L' := []) [] rfl ?_
    exact X1_overlap_j23_ok hX  hr ht h
  · rw [if_pos b1] at h
    refine J.aload_n hX 5 0 rfl rfl ?_
    refine J.iload_n hX 6 2 rfl rfl ?_
    refine J.iload_n hX 7 1 rfl rfl ?_
    obtain ⟨t2, hc, h⟩ := bd1_inv h
    refine J.callV1 (As := [.int l2, .int l1]) (rest := []) (k := o) hX 8 rfl (mX1_hasPartingEdge ho hc) okX1_hasPartingEdge w_256 ho.lt0 ho.s0 rfl rfl rfl (Nat.le_of_ble_eq_true rfl) ⟨Nat.le_of_ble_eq_true rfl, Nat.le_of_ble_eq_true rfl⟩ ⟨Nat.zero_le _, Nat.zero_le _⟩ ?_
    refine J.if_ne (tgt := 22) hX 9 rfl (by decide) (fun b2 => ?_) (fun b2 => ?_)
    · rw [if_neg b2] at h
      refine J.iconst (v := 0) hX 12 rfl (by decide) ?_
      refine J.sub (L' := []) [] rfl ?_
      exact X1_overlap_j23_ok hX  hr ht h
    · rw [if_pos b2] at h
      refine J.iconst (v := 1) hX 10 rfl (by decide) ?_
      refine J.goto (tgt := 23) hX 11 rfl (by decide) ?_
      refine J.sub (L' := []) [] rfl ?_
      exact X1_overlap_j23_ok hX  hr ht h
def X1_firstOverlap_L12_j50 (M : Mem) (o : Nat) (c1 : Int32) (v1 : Int32) : Option ((Int32) ⊕ ((Unit) ⊕ (Int32))) := bnd (v1 + 1) (fun t3 => some (.inl t3))
def X1_firstOverlap_L12 (M : Mem) (o : Nat) (c1 : Int32) (q9 : Int32) : Option ((Int32) ⊕ ((Unit) ⊕ (Int32))) := un1 q9 (fun c2 => if 24 ≤ c2 then (some (.inr (.inl ()))) else (bd1 (X1_isClosed M o c1) (fun t2 => if t2 = 0 then (X1_firstOverlap_L12_j50 M o c1 c2) else (bd1 (X1_isClosed M o c2) (fun t4 => if t4 = 0 then (X1_firstOverlap_L12_j50 M o c1 c2) else (bd1 (X1_overlap M o c1 c2) (fun t5 => if t5 = 0 then (X1_firstOverlap_L12_j50 M o c1 c2) else (some (.inr (.inr c2))))))))))
def X1_firstOverlap_L2 (M : Mem) (o : Nat) (q9 : Int32) : Option ((Int32) ⊕ ((Unit) ⊕ (Int32 × Int32))) := un1 q9 (fun c1 => if 24 ≤ c1 then (some (.inr (.inl ()))) else (bnd ((c1 + 1)) (fun t1 => bdS (loop (X1_firstOverlap_L12 M o c1) 3000 t1) (fun a9 => un0 a9 (bnd (c1 + 1) (fun t6 => some (.inl t6)))) (fun a9 => un1 a9 (fun x1 => some (.inr (.inr (c1, x1))))))))
def X1_firstOverlap (M : Mem) (o : Nat) : Option (Int32) := bdS (loop (X1_firstOverlap_L2 M o) 3000 0) (fun a9 => un0 a9 (some (-1))) (fun a9 => un2 a9 (fun x2 x3 => some ((x2 * 24) + x3)))
set_option maxHeartbeats 4000000 in
set_option maxRecDepth 100000 in
theorem X1_firstOverlap_L12_j50_ok (hX : Cx p s m args meth c D cA ad n A sa cX1_firstOverlap 3 RX1 kX1_firstOverlap) {M : Mem} {o : Nat} {c1 : Int32} {v1 : Int32} (ho : DrOk n o) {r : (Int32) ⊕ ((Unit) ⊕ (Int32))} (h : X1_firstOverlap_L12_j50 M o c1 v1 = some r) (hin : ∀ (q0 : Int32), r = .inl q0 → JM 4 97 p l e s m args below meth c D cA ad n A 3 out M1 M 12 [(0, .ref (ad o)), (1, .int c1), (2, .int q0)] []) (hex0 : r = .inr (.inl ()) → JM 4 97 p l e s m args below meth c D cA ad n A 3 out M1 M 56 [(0, .ref (ad o)), (1, .int c1)] []) (hex1 : ∀ (q0 : Int32), r = .inr (.inr q0) → JM 4 97 p l e s m args below meth c D cA ad n A 3 out M1 M 43 [(1, .int c1), (2, .int q0)] []) : JM 4 97 p l e s m args below meth c D cA ad n A 3 out M1 M 50 [(0, .ref (ad o)), (1, .int c1), (2, .int v1)] [] := by
  unfold X1_firstOverlap_L12_j50 at h
  obtain ⟨t3, et3, h⟩ := bnd_inv h
  refine J.iinc (q := 2) (L' := [(2, .int t3), (0, .ref (ad o)), (1, .int c1)]) hX 31 rfl rfl et3 (by decide) rfl ?_
  refine J.goto (tgt := 12) hX 32 rfl (by decide) ?_
  refine J.sub (L' := [(0, .ref (ad o)), (1, .int c1), (2, .int t3)]) [1, 2, 0] rfl ?_
  exact hin _ (Option.some.inj h).symm
set_option maxHeartbeats 4000000 in
set_option maxRecDepth 100000 in
theorem X1_firstOverlap_L12_ok (hX : Cx p s m args meth c D cA ad n A sa cX1_firstOverlap 3 RX1 kX1_firstOverlap) {M : Mem} {o : Nat} {c1 : Int32} {c2 : Int32} (ho : DrOk n o) {r : (Int32) ⊕ ((Unit) ⊕ (Int32))} (h : X1_firstOverlap_L12 M o c1 c2 = some r) (hin : ∀ (q0 : Int32), r = .inl q0 → JM 4 97 p l e s m args below meth c D cA ad n A 3 out M1 M 12 [(0, .ref (ad o)), (1, .int c1), (2, .int q0)] []) (hex0 : r = .inr (.inl ()) → JM 4 97 p l e s m args below meth c D cA ad n A 3 out M1 M 56 [(0, .ref (ad o)), (1, .int c1)] []) (hex1 : ∀ (q0 : Int32), r = .inr (.inr q0) → JM 4 97 p l e s m args below meth c D cA ad n A 3 out M1 M 43 [(1, .int c1), (2, .int q0)] []) : JM 4 97 p l e s m args below meth c D cA ad n A 3 out M1 M 12 [(0, .ref (ad o)), (1, .int c1), (2, .int c2)] [] := by
  unfold X1_firstOverlap_L12 at h
  have h := un1_inv h
  refine J.iload_n hX 9 2 rfl rfl ?_
  refine J.bipush (v := 24) hX 10 rfl (by decide) ?_
  refine J.icmp_ge (tgt := 56) hX 11 rfl (by decide) (fun b2 => ?_) (fun b2 => ?_)
  · rw [if_pos b2] at h
    refine J.sub (L' := [(0, .ref (ad o)), (1, .int c1)]) [0, 1] rfl ?_
    exact hex0  (Option.some.inj h).symm
  · rw [if_neg b2] at h
    refine J.aload_n hX 12 0 rfl rfl ?_
    refine J.iload_n hX 13 1 rfl rfl ?_
    obtain ⟨t2, hc, h⟩ := bd1_inv h
    refine J.callV1 (As := [.int c1]) (rest := []) (k := o) hX 14 rfl (mX1_isClosed ho hc) okX1_isClosed w_224 ho.lt0 ho.s0 rfl rfl rfl (Nat.le_of_ble_eq_true rfl) ⟨Nat.le_of_ble_eq_true rfl, Nat.le_of_ble_eq_true rfl⟩ ⟨Nat.zero_le _, Nat.zero_le _⟩ ?_
    refine J.if_eq (tgt := 50) hX 15 rfl (by decide) (fun b3 => ?_) (fun b3 => ?_)
    · rw [if_pos b3] at h
      refine J.sub (L' := [(0, .ref (ad o)), (1, .int c1), (2, .int c2)]) [0, 1, 2] rfl ?_
      exact X1_firstOverlap_L12_j50_ok hX ho h hin hex0 hex1
    · rw [if_neg b3] at h
      refine J.aload_n hX 16 0 rfl rfl ?_
      refine J.iload_n hX 17 2 rfl rfl ?_
      obtain ⟨t4, hc, h⟩ := bd1_inv h
      refine J.callV1 (As := [.int c2]) (rest := []) (k := o) hX 18 rfl (mX1_isClosed ho hc) okX1_isClosed w_224 ho.lt0 ho.s0 rfl rfl rfl (Nat.le_of_ble_eq_true rfl) ⟨Nat.le_of_ble_eq_true rfl, Nat.le_of_ble_eq_true rfl⟩ ⟨Nat.zero_le _, Nat.zero_le _⟩ ?_
      refine J.if_eq (tgt := 50) hX 19 rfl (by decide) (fun b4 => ?_) (fun b4 => ?_)
      · rw [if_pos b4] at h
        refine J.sub (L' := [(0, .ref (ad o)), (1, .int c1), (2, .int c2)]) [0, 1, 2] rfl ?_
        exact X1_firstOverlap_L12_j50_ok hX ho h hin hex0 hex1
      · rw [if_neg b4] at h
        refine J.aload_n hX 20 0 rfl rfl ?_
        refine J.iload_n hX 21 1 rfl rfl ?_
        refine J.iload_n hX 22 2 rfl rfl ?_
        obtain ⟨t5, hc, h⟩ := bd1_inv h
        refine J.callV1 (As := [.int c1, .int c2]) (rest := []) (k := o) hX 23 rfl (mX1_overlap ho hc) okX1_overlap w_252 ho.lt0 ho.s0 rfl rfl rfl (Nat.le_of_ble_eq_true rfl) ⟨Nat.le_of_ble_eq_true rfl, Nat.le_of_ble_eq_true rfl⟩ ⟨Nat.zero_le _, Nat.zero_le _⟩ ?_
        refine J.if_eq (tgt := 50) hX 24 rfl (by decide) (fun b5 => ?_) (fun b5 => ?_)
        · rw [if_pos b5] at h
          refine J.sub (L' := [(0, .ref (ad o)), (1, .int c1), (2, .int c2)]) [0, 1, 2] rfl ?_
          exact X1_firstOverlap_L12_j50_ok hX ho h hin hex0 hex1
        · rw [if_neg b5] at h
          refine J.sub (L' := [(1, .int c1), (2, .int c2)]) [1, 2] rfl ?_
          exact hex1 _ (Option.some.inj h).symm
set_option maxHeartbeats 4000000 in
set_option maxRecDepth 100000 in
theorem X1_firstOverlap_L2_ok (hX : Cx p s m args meth c D cA ad n A sa cX1_firstOverlap 3 RX1 kX1_firstOverlap) {M : Mem} {o : Nat} {c1 : Int32} (ho : DrOk n o) {r : (Int32) ⊕ ((Unit) ⊕ (Int32 × Int32))} (h : X1_firstOverlap_L2 M o c1 = some r) (hin : ∀ (q0 : Int32), r = .inl q0 → JM 4 97 p l e s m args below meth c D cA ad n A 3 out M1 M 2 [(0, .ref (ad o)), (1, .int q0)] []) (hex0 : r = .inr (.inl ()) → JM 4 97 p l e s m args below meth c D cA ad n A 3 out M1 M 62 [] []) (hex1 : ∀ (q0 : Int32) (q1 : Int32), r = .inr (.inr (q0, q1)) → JM 4 97 p l e s m args below meth c D cA ad n A 3 out M1 M 43 [(1, .int q0), (2, .int q1)] []) : JM 4 97 p l e s m args below meth c D cA ad n A 3 out M1 M 2 [(0, .ref (ad o)), (1, .int c1)] [] := by
  unfold X1_firstOverlap_L2 at h
  have h := un1_inv h
  refine J.iload_n hX 2 1 rfl rfl ?_
  refine J.bipush (v := 24) hX 3 rfl (by decide) ?_
  refine J.icmp_ge (tgt := 62) hX 4 rfl (by decide) (fun b1 => ?_) (fun b1 => ?_)
  · rw [if_pos b1] at h
    refine J.sub (L' := []) [] rfl ?_
    exact hex0  (Option.some.inj h).symm
  · rw [if_neg b1] at h
    refine J.iload_n hX 5 1 rfl rfl ?_
    refine J.iconst (v := 1) hX 6 rfl (by decide) ?_
    refine J.iadd hX 7 rfl ?_
    obtain ⟨t1, et1, h⟩ := bnd_inv h
    refine J.nm et1 ?_
    refine J.istore_n (L' := [(2, .int t1), (0, .ref (ad o)), (1, .int c1)]) hX 8 rfl (by decide) rfl ?_
    refine J.sub (L' := [(0, .ref (ad o)), (1, .int c1), (2, .int t1)]) [1, 2, 0] rfl ?_
    rcases bdS_inv h with ⟨a9, hlp, h⟩ | ⟨a9, hlp, h⟩
    · have h := un0_inv h
      suffices hE : JM 4 97 p l e s m args below meth c D cA ad n A 3 out M1 M 56 [(0, .ref (ad o)), (1, .int c1)] [] by
        exact loop_ok (fun q9 : Int32 => JM 4 97 p l e s m args below meth c D cA ad n A 3 out M1 M 12 [(0, .ref (ad o)), (1, .int c1), (2, .int q9)] []) (fun q9 r hB hst hex9 => X1_firstOverlap_L12_ok hX ho hB (fun _ hr => hst _ hr) (fun hr => by cases hex9 _ hr; exact hE) (fun _ hr => by cases hex9 _ hr)) 3000 _ hlp
      obtain ⟨t6, et6, h⟩ := bnd_inv h
      refine J.iinc (q := 1) (L' := [(1, .int t6), (0, .ref (ad o))]) hX 33 rfl rfl et6 (by decide) rfl ?_
      refine J.goto (tgt := 2) hX 34 rfl (by decide) ?_
      refine J.sub (L' := [(0, .ref (ad o)), (1, .int t6)]) [1, 0] rfl ?_
      exact hin _ (Option.some.inj h).symm
    · obtain ⟨x1, rfl⟩ : ∃ z, z = a9 := ⟨_, rfl⟩
      have h := un1_inv h
      suffices hE : JM 4 97 p l e s m args below meth c D cA ad n A 3 out M1 M 43 [(1, .int c1), (2, .int x1)] [] by
        exact loop_ok (fun q9 : Int32 => JM 4 97 p l e s m args below meth c D cA ad n A 3 out M1 M 12 [(0, .ref (ad o)), (1, .int c1), (2, .int q9)] []) (fun q9 r hB hst hex9 => X1_firstOverlap_L12_ok hX ho hB (fun _ hr => hst _ hr) (fun hr => by cases hex9 _ hr) (fun _ hr => by cases hex9 _ hr; exact hE)) 3000 _ hlp
      refine J.sub (L' := [(1, .int c1), (2, .int x1)]) [0, 1] rfl ?_
      exact hex1 _ _ (Option.some.inj h).symm
set_option maxHeartbeats 4000000 in
set_option maxRecDepth 100000 in
theorem mX1_firstOverlap {l : Launch} {D : va_G} {cA : Nat → ClassId} {ad : Nat → Nat} {n : Nat} {A : Nat → Prop} {sa : Nat → Nat} {M : Mem} {o : Nat} {r : Int32} (ho : DrOk n o) (h : X1_firstOverlap M o = some r) : CT l D cA ad n A sa yX1_firstOverlap cX1_firstOverlap 3 (some .int) 4 97 [.ref (ad o)] M (.inl (some (.int r))) M := by
  refine CT.of (kt := kX1_firstOverlap) (by decide) kX1_firstOverlap_ok (Nat.le_of_ble_eq_true rfl) ?_
  intro p e s m args below meth c hX hr ht
  unfold X1_firstOverlap at h
  refine J.sub (L' := [(0, .ref (ad o))]) [0] rfl ?_
  refine J.iconst (v := 0) hX 0 rfl (by decide) ?_
  refine J.istore_n (L' := [(1, .int 0), (0, .ref (ad o))]) hX 1 rfl (by decide) rfl ?_
  refine J.sub (L' := [(0, .ref (ad o)), (1, .int 0)]) [1, 0] rfl ?_
  rcases bdS_inv h with ⟨a9, hlp, h⟩ | ⟨a9, hlp, h⟩
  · have h := un0_inv h
    suffices hE : JM 4 97 p l e s m args below meth c D cA ad n A 3 (.inl (some (.int r))) M M 62 [] [] by
      exact loop_ok (fun q9 : Int32 => JM 4 97 p l e s m args below meth c D cA ad n A 3 (.inl (some (.int r))) M M 2 [(0, .ref (ad o)), (1, .int q9)] []) (fun q9 r hB hst hex9 => X1_firstOverlap_L2_ok hX ho hB (fun _ hr => hst _ hr) (fun hr => by cases hex9 _ hr; exact hE) (fun _ _ hr => by cases hex9 _ hr)) 3000 _ hlp
    refine J.iconst (v := (-1)) hX 35 rfl (by decide) ?_
    cases h
    exact J.iret hX hr 36 rfl
  · obtain ⟨x2, x3⟩ := a9
    have h := un2_inv h
    suffices hE : JM 4 97 p l e s m args below meth c D cA ad n A 3 (.inl (some (.int r))) M M 43 [(1, .int x2), (2, .int x3)] [] by
      exact loop_ok (fun q9 : Int32 => JM 4 97 p l e s m args below meth c D cA ad n A 3 (.inl (some (.int r))) M M 2 [(0, .ref (ad o)), (1, .int q9)] []) (fun q9 r hB hst hex9 => X1_firstOverlap_L2_ok hX ho hB (fun _ hr => hst _ hr) (fun hr => by cases hex9 _ hr) (fun _ _ hr => by cases hex9 _ hr; exact hE)) 3000 _ hlp
    refine J.iload_n hX 25 0 rfl rfl ?_
    refine J.bipush (v := 24) hX 26 rfl (by decide) ?_
    refine J.imul hX 27 rfl ?_
    refine J.iload_n hX 28 1 rfl rfl ?_
    refine J.iadd hX 29 rfl ?_
    cases h
    exact J.iret hX hr 30 rfl
def X1_state_L14 (M : Mem) (o : Nat) (q9 : Int32 × Int32) : Option ((Int32 × Int32) ⊕ (Int32)) := un2 q9 (fun c1 c2 => if 24 ≤ c2 then (some (.inr c1)) else (bd1 (X1_doubleArea M o c2) (fun t2 => bnd ((c1 + t2)) (fun t3 => bnd (c2 + 1) (fun t4 => some (.inl (t3, t4)))))))
def X1_state_j46 (M : Mem) (v1 : Int32) : Option (Int32) := some v1
def X1_state (M : Mem) (o : Nat) : Option (Int32) := bd1 (X1_firstOverlap M o) (fun t1 => if t1 = (-1) then (bd1 (loop (X1_state_L14 M o) 3000 (0, 0)) (fun x1 => if x1 = 18432 then (X1_state_j46 M 0) else (X1_state_j46 M 1))) else (some 2))
set_option maxHeartbeats 4000000 in
set_option maxRecDepth 100000 in
theorem X1_state_L14_ok (hX : Cx p s m args meth c D cA ad n A sa cX1_state 3 RX1 kX1_state) {M : Mem} {o : Nat} {c1 : Int32} {c2 : Int32} (ho : DrOk n o) {r : (Int32 × Int32) ⊕ (Int32)} (h : X1_state_L14 M o (c1, c2) = some r) (hin : ∀ (q0 : Int32) (q1 : Int32), r = .inl (q0, q1) → JM 5 119 p l e s m args below meth c D cA ad n A 3 out M1 M 14 [(0, .ref (ad o)), (1, .int q0), (2, .int q1)] []) (hex0 : ∀ (q0 : Int32), r = .inr q0 → JM 5 119 p l e s m args below meth c D cA ad n A 3 out M1 M 34 [(1, .int q0)] []) : JM 5 119 p l e s m args below meth c D cA ad n A 3 out M1 M 14 [(0, .ref (ad o)), (1, .int c1), (2, .int c2)] [] := by
  unfold X1_state_L14 at h
  have h := un2_inv h
  refine J.iload_n hX 10 2 rfl rfl ?_
  refine J.bipush (v := 24) hX 11 rfl (by decide) ?_
  refine J.icmp_ge (tgt := 34) hX 12 rfl (by decide) (fun b2 => ?_) (fun b2 => ?_)
  · rw [if_pos b2] at h
    refine J.sub (L' := [(1, .int c1)]) [1] rfl ?_
    exact hex0 _ (Option.some.inj h).symm
  · rw [if_neg b2] at h
    refine J.iload_n hX 13 1 rfl rfl ?_
    refine J.aload_n hX 14 0 rfl rfl ?_
    refine J.iload_n hX 15 2 rfl rfl ?_
    obtain ⟨t2, hc, h⟩ := bd1_inv h
    refine J.callV1 (As := [.int c2]) (rest := [.int c1]) (k := o) hX 16 rfl (mX1_doubleArea ho hc) okX1_doubleArea w_169 ho.lt0 ho.s0 rfl rfl rfl (Nat.le_of_ble_eq_true rfl) ⟨Nat.le_of_ble_eq_true rfl, Nat.le_of_ble_eq_true rfl⟩ ⟨Nat.zero_le _, Nat.zero_le _⟩ ?_
    refine J.iadd hX 17 rfl ?_
    obtain ⟨t3, et3, h⟩ := bnd_inv h
    refine J.nm et3 ?_
    refine J.istore_n (L' := [(1, .int t3), (0, .ref (ad o)), (2, .int c2)]) hX 18 rfl (by decide) rfl ?_
    obtain ⟨t4, et4, h⟩ := bnd_inv h
    refine J.iinc (q := 2) (L' := [(2, .int t4), (1, .int t3), (0, .ref (ad o))]) hX 19 rfl rfl et4 (by decide) rfl ?_
    refine J.goto (tgt := 14) hX 20 rfl (by decide) ?_
    refine J.sub (L' := [(0, .ref (ad o)), (1, .int t3), (2, .int t4)]) [2, 1, 0] rfl ?_
    exact hin _ _ (Option.some.inj h).symm
set_option maxHeartbeats 4000000 in
set_option maxRecDepth 100000 in
theorem X1_state_j46_ok (hX : Cx p s m args meth c D cA ad n A sa cX1_state 3 RX1 kX1_state) {M : Mem} {v1 : Int32} {r : Int32}  (hr : meth.sig.returnType = (some .int)) (ht : ∀ x ∈ c.exceptionTable.toList, False) (h : X1_state_j46 M v1 = some r) : JM 5 119 p l e s m args below meth c D cA ad n A 3 (.inl (some (.int r))) M M 46 [] [.int v1] := by
  unfold X1_state_j46 at h
  cases h
  exact J.iret hX hr 27 rfl
set_option maxHeartbeats 4000000 in
set_option maxRecDepth 100000 in
theorem mX1_state {l : Launch} {D : va_G} {cA : Nat → ClassId} {ad : Nat → Nat} {n : Nat} {A : Nat → Prop} {sa : Nat → Nat} {M : Mem} {o : Nat} {r : Int32} (ho : DrOk n o) (h : X1_state M o = some r) : CT l D cA ad n A sa yX1_state cX1_state 3 (some .int) 5 119 [.ref (ad o)] M (.inl (some (.int r))) M := by
  refine CT.of (kt := kX1_state) (by decide) kX1_state_ok (Nat.le_of_ble_eq_true rfl) ?_
  intro p e s m args below meth c hX hr ht
  unfold X1_state at h
  refine J.sub (L' := [(0, .ref (ad o))]) [0] rfl ?_
  refine J.aload_n hX 0 0 rfl rfl ?_
  obtain ⟨t1, hc, h⟩ := bd1_inv h
  refine J.callV1 (As := []) (rest := []) (k := o) hX 1 rfl (mX1_firstOverlap ho hc) okX1_firstOverlap w_248 ho.lt0 ho.s0 rfl rfl rfl (Nat.le_of_ble_eq_true rfl) ⟨Nat.le_of_ble_eq_true rfl, Nat.le_of_ble_eq_true rfl⟩ ⟨Nat.zero_le _, Nat.zero_le _⟩ ?_
  refine J.iconst (v := (-1)) hX 2 rfl (by decide) ?_
  refine J.icmp_eq (tgt := 10) hX 3 rfl (by decide) (fun b1 => ?_) (fun b1 => ?_)
  · rw [if_pos b1] at h
    refine J.iconst (v := 0) hX 6 rfl (by decide) ?_
    refine J.istore_n (L' := [(1, .int 0), (0, .ref (ad o))]) hX 7 rfl (by decide) rfl ?_
    refine J.iconst (v := 0) hX 8 rfl (by decide) ?_
    refine J.istore_n (L' := [(2, .int 0), (1, .int 0), (0, .ref (ad o))]) hX 9 rfl (by decide) rfl ?_
    refine J.sub (L' := [(0, .ref (ad o)), (1, .int 0), (2, .int 0)]) [2, 1, 0] rfl ?_
    obtain ⟨x1, hlp, h⟩ := bd1_inv h
    suffices hE : JM 5 119 p l e s m args below meth c D cA ad n A 3 (.inl (some (.int r))) M M 34 [(1, .int x1)] [] by
      exact loop_ok (fun q9 : Int32 × Int32 => JM 5 119 p l e s m args below meth c D cA ad n A 3 (.inl (some (.int r))) M M 14 [(0, .ref (ad o)), (1, .int q9.1), (2, .int q9.2)] []) (fun q9 r hB hst hex9 => X1_state_L14_ok hX ho hB (fun _ _ hr => hst _ hr) (fun _ hr => by cases hex9 _ hr; exact hE)) 3000 _ hlp
    refine J.iload_n hX 21 0 rfl rfl ?_
    refine J.sipush (v := 18432) hX 22 rfl (by decide) ?_
    refine J.icmp_ne (tgt := 45) hX 23 rfl (by decide) (fun b3 => ?_) (fun b3 => ?_)
    · rw [if_neg b3] at h
      refine J.iconst (v := 1) hX 26 rfl (by decide) ?_
      refine J.sub (L' := []) [] rfl ?_
      exact X1_state_j46_ok hX  hr ht h
    · rw [if_pos b3] at h
      refine J.iconst (v := 0) hX 24 rfl (by decide) ?_
      refine J.goto (tgt := 46) hX 25 rfl (by decide) ?_
      refine J.sub (L' := []) [] rfl ?_
      exact X1_state_j46_ok hX  hr ht h
  · rw [if_neg b1] at h
    refine J.iconst (v := 2) hX 4 rfl (by decide) ?_
    cases h
    exact J.iret hX hr 5 rfl
def X1_isOfCloth_j23 (M : Mem) (v1 : Int32) : Option (Int32) := chk (isB v1) (some v1)
def X1_isOfCloth (M : Mem) (o : Nat) (l1 : Int32) (l2 : Int32) : Option (Int32) := bd1 (X1_isClosed M o l1) (fun t1 => if t1 = 0 then (X1_isOfCloth_j23 M 0) else (ld M (o + 4) 24 l1 (fun t2 => if t2 = l2 then (X1_isOfCloth_j23 M 1) else (X1_isOfCloth_j23 M 0))))
set_option maxHeartbeats 4000000 in
set_option maxRecDepth 100000 in
theorem X1_isOfCloth_j23_ok (hX : Cx p s m args meth c D cA ad n A sa cX1_isOfCloth 3 RX1 kX1_isOfCloth) {M : Mem} {v1 : Int32} {r : Int32}  (hr : meth.sig.returnType = (some .boolean)) (ht : ∀ x ∈ c.exceptionTable.toList, False) (h : X1_isOfCloth_j23 M v1 = some r) : JM 1 21 p l e s m args below meth c D cA ad n A 3 (.inl (some (.int r))) M M 23 [] [.int v1] := by
  unfold X1_isOfCloth_j23 at h
  obtain ⟨hz, h⟩ := chk_inv h
  cases h
  exact J.zret hX hr 13 (isB_nar hz) rfl
set_option maxHeartbeats 4000000 in
set_option maxRecDepth 100000 in
theorem mX1_isOfCloth {l : Launch} {D : va_G} {cA : Nat → ClassId} {ad : Nat → Nat} {n : Nat} {A : Nat → Prop} {sa : Nat → Nat} {M : Mem} {o : Nat} {l1 : Int32} {l2 : Int32} {r : Int32} (ho : DrOk n o) (h : X1_isOfCloth M o l1 l2 = some r) : CT l D cA ad n A sa yX1_isOfCloth cX1_isOfCloth 3 (some .boolean) 1 21 [.ref (ad o), .int l1, .int l2] M (.inl (some (.int r))) M := by
  refine CT.of (kt := kX1_isOfCloth) (by decide) kX1_isOfCloth_ok (Nat.le_of_ble_eq_true rfl) ?_
  intro p e s m args below meth c hX hr ht
  unfold X1_isOfCloth at h
  refine J.sub (L' := [(0, .ref (ad o)), (1, .int l1), (2, .int l2)]) [0, 1, 2] rfl ?_
  refine J.aload_n hX 0 0 rfl rfl ?_
  refine J.iload_n hX 1 1 rfl rfl ?_
  obtain ⟨t1, hc, h⟩ := bd1_inv h
  refine J.callV1 (As := [.int l1]) (rest := []) (k := o) hX 2 rfl (mX1_isClosed ho hc) okX1_isClosed w_224 ho.lt0 ho.s0 rfl rfl rfl (Nat.le_of_ble_eq_true rfl) ⟨Nat.le_of_ble_eq_true rfl, Nat.le_of_ble_eq_true rfl⟩ ⟨Nat.zero_le _, Nat.zero_le _⟩ ?_
  refine J.if_eq (tgt := 22) hX 3 rfl (by decide) (fun b1 => ?_) (fun b1 => ?_)
  · rw [if_pos b1] at h
    refine J.iconst (v := 0) hX 12 rfl (by decide) ?_
    refine J.sub (L' := []) [] rfl ?_
    exact X1_isOfCloth_j23_ok hX  hr ht h
  · rw [if_neg b1] at h
    refine J.aload_n hX 4 0 rfl rfl ?_
    refine J.getR hX 5 o 1 ho.lt0 ho.s0 rfl in_wsX10 3 (by decide) w_36 rfl rfl ?_
    refine J.iload_n hX 6 1 rfl rfl ?_
    obtain ⟨t2, et2, hb, h⟩ := ld_inv h
    refine J.ialdN hX 7 (o + 4) ho.lt4 ho.s4 hb et2 rfl ?_
    refine J.iload_n hX 8 2 rfl rfl ?_
    refine J.icmp_ne (tgt := 22) hX 9 rfl (by decide) (fun b2 => ?_) (fun b2 => ?_)
    · rw [if_neg b2] at h
      refine J.iconst (v := 0) hX 12 rfl (by decide) ?_
      refine J.sub (L' := []) [] rfl ?_
      exact X1_isOfCloth_j23_ok hX  hr ht h
    · rw [if_pos b2] at h
      refine J.iconst (v := 1) hX 10 rfl (by decide) ?_
      refine J.goto (tgt := 23) hX 11 rfl (by decide) ?_
      refine J.sub (L' := []) [] rfl ?_
      exact X1_isOfCloth_j23_ok hX  hr ht h
def X1_swapCloths_L5_j57 (N2 : Mem) (o : Nat) (l1 : Int32) (l2 : Int32) (v1 : Int32) (v2 : Int32) : Option ((Int32 × Int32 × Mem) ⊕ (Int32 × Mem)) := bnd (v2 + 1) (fun t3 => some (.inl (v1, t3, N2)))
def X1_swapCloths_L5 (o : Nat) (l1 : Int32) (l2 : Int32) (q9 : Int32 × Int32 × Mem) : Option ((Int32 × Int32 × Mem) ⊕ (Int32 × Mem)) := un3 q9 (fun c1 c2 N1 => if 24 ≤ c2 then (some (.inr (c1, N1))) else (bd1 (X1_isOfCloth N1 o c2 l1) (fun t1 => if t1 = 0 then (bd1 (X1_isOfCloth N1 o c2 l2) (fun t2 => if t2 = 0 then (X1_swapCloths_L5_j57 N1 o l1 l2 c1 c2) else (sto N1 (o + 4) 24 c2 l1 (fun N3 => bnd (c1 + 1) (fun t4 => X1_swapCloths_L5_j57 N3 o l1 l2 t4 c2))))) else (sto N1 (o + 4) 24 c2 l2 (fun N4 => bnd (c1 + 1) (fun t5 => X1_swapCloths_L5_j57 N4 o l1 l2 t5 c2))))))
def X1_swapCloths (M : Mem) (o : Nat) (l1 : Int32) (l2 : Int32) : Option (Int32 × Mem) := bd2 (loop (X1_swapCloths_L5 o l1 l2) 3000 (0, 0, M)) (fun x1 N5 => some (x1, N5))
set_option maxHeartbeats 4000000 in
set_option maxRecDepth 100000 in
theorem X1_swapCloths_L5_j57_ok (hX : Cx p s m args meth c D cA ad n A sa cX1_swapCloths 5 RX1 kX1_swapCloths) {N2 : Mem} {o : Nat} {l1 : Int32} {l2 : Int32} {v1 : Int32} {v2 : Int32} (ho : DrOk n o) {r : (Int32 × Int32 × Mem) ⊕ (Int32 × Mem)} (h : X1_swapCloths_L5_j57 N2 o l1 l2 v1 v2 = some r) (hin : ∀ (q0 : Int32) (q1 : Int32) (Mq : Mem), r = .inl (q0, q1, Mq) → JM 2 43 p l e s m args below meth c D cA ad n A 5 out M1 Mq 5 [(0, .ref (ad o)), (1, .int l1), (2, .int l2), (3, .int q0), (4, .int q1)] []) (hex0 : ∀ (q0 : Int32) (Mq : Mem), r = .inr (q0, Mq) → JM 2 43 p l e s m args below meth c D cA ad n A 5 out M1 Mq 63 [(3, .int q0)] []) : JM 2 43 p l e s m args below meth c D cA ad n A 5 out M1 N2 57 [(0, .ref (ad o)), (1, .int l1), (2, .int l2), (3, .int v1), (4, .int v2)] [] := by
  unfold X1_swapCloths_L5_j57 at h
  obtain ⟨t3, et3, h⟩ := bnd_inv h
  refine J.iinc (q := 4) (L' := [(4, .int t3), (0, .ref (ad o)), (1, .int l1), (2, .int l2), (3, .int v1)]) hX 30 rfl rfl et3 (by decide) rfl ?_
  refine J.goto (tgt := 5) hX 31 rfl (by decide) ?_
  refine J.sub (L' := [(0, .ref (ad o)), (1, .int l1), (2, .int l2), (3, .int v1), (4, .int t3)]) [1, 2, 3, 4, 0] rfl ?_
  exact hin _ _ _ (Option.some.inj h).symm
set_option maxHeartbeats 4000000 in
set_option maxRecDepth 100000 in
theorem X1_swapCloths_L5_ok (hX : Cx p s m args meth c D cA ad n A sa cX1_swapCloths 5 RX1 kX1_swapCloths) {N1 : Mem} {o : Nat} {l1 : Int32} {l2 : Int32} {c1 : Int32} {c2 : Int32} (ho : DrOk n o) {r : (Int32 × Int32 × Mem) ⊕ (Int32 × Mem)} (h : X1_swapCloths_L5 o l1 l2 (c1, c2, N1) = some r) (hin : ∀ (q0 : Int32) (q1 : Int32) (Mq : Mem), r = .inl (q0, q1, Mq) → JM 2 43 p l e s m args below meth c D cA ad n A 5 out M1 Mq 5 [(0, .ref (ad o)), (1, .int l1), (2, .int l2), (3, .int q0), (4, .int q1)] []) (hex0 : ∀ (q0 : Int32) (Mq : Mem), r = .inr (q0, Mq) → JM 2 43 p l e s m args below meth c D cA ad n A 5 out M1 Mq 63 [(3, .int q0)] []) : JM 2 43 p l e s m args below meth c D cA ad n A 5 out M1 N1 5 [(0, .ref (ad o)), (1, .int l1), (2, .int l2), (3, .int c1), (4, .int c2)] [] := by
  unfold X1_swapCloths_L5 at h
  have h := un3_inv h
  refine J.iload hX 4 4 rfl rfl ?_
  refine J.bipush (v := 24) hX 5 rfl (by decide) ?_
  refine J.icmp_ge (tgt := 63) hX 6 rfl (by decide) (fun b1 => ?_) (fun b1 => ?_)
  · rw [if_pos b1] at h
    refine J.sub (L' := [(3, .int c1)]) [3] rfl ?_
    exact hex0 _ _ (Option.some.inj h).symm
  · rw [if_neg b1] at h
    refine J.aload_n hX 7 0 rfl rfl ?_
    refine J.iload hX 8 4 rfl rfl ?_
    refine J.iload_n hX 9 1 rfl rfl ?_
    obtain ⟨t1, hc, h⟩ := bd1_inv h
    refine J.callV1 (As := [.int c2, .int l1]) (rest := []) (k := o) hX 10 rfl (mX1_isOfCloth ho hc) okX1_isOfCloth w_465 ho.lt0 ho.s0 rfl rfl rfl (Nat.le_of_ble_eq_true rfl) ⟨Nat.le_of_ble_eq_true rfl, Nat.le_of_ble_eq_true rfl⟩ ⟨Nat.zero_le _, Nat.zero_le _⟩ ?_
    refine J.if_eq (tgt := 36) hX 11 rfl (by decide) (fun b2 => ?_) (fun b2 => ?_)
    · rw [if_pos b2] at h
      refine J.aload_n hX 19 0 rfl rfl ?_
      refine J.iload hX 20 4 rfl rfl ?_
      refine J.iload_n hX 21 2 rfl rfl ?_
      obtain ⟨t2, hc, h⟩ := bd1_inv h
      refine J.callV1 (As := [.int c2, .int l2]) (rest := []) (k := o) hX 22 rfl (mX1_isOfCloth ho hc) okX1_isOfCloth w_465 ho.lt0 ho.s0 rfl rfl rfl (Nat.le_of_ble_eq_true rfl) ⟨Nat.le_of_ble_eq_true rfl, Nat.le_of_ble_eq_true rfl⟩ ⟨Nat.zero_le _, Nat.zero_le _⟩ ?_
      refine J.if_eq (tgt := 57) hX 23 rfl (by decide) (fun b3 => ?_) (fun b3 => ?_)
      · rw [if_pos b3] at h
        refine J.sub (L' := [(0, .ref (ad o)), (1, .int l1), (2, .int l2), (3, .int c1), (4, .int c2)]) [0, 1, 2, 3, 4] rfl ?_
        exact X1_swapCloths_L5_j57_ok hX ho h hin hex0
      · rw [if_neg b3] at h
        refine J.aload_n hX 24 0 rfl rfl ?_
        refine J.getR hX 25 o 1 ho.lt0 ho.s0 rfl in_wsX10 3 (by decide) w_36 rfl rfl ?_
        refine J.iload hX 26 4 rfl rfl ?_
        refine J.iload_n hX 27 1 rfl rfl ?_
        obtain ⟨N3, eN3, hb, h⟩ := sto_inv h
        refine J.iastN hX 28 (o + 4) ho.lt4 ho.s4 hb eN3 rfl ?_
        obtain ⟨t4, et4, h⟩ := bnd_inv h
        refine J.iinc (q := 3) (L' := [(3, .int t4), (0, .ref (ad o)), (1, .int l1), (2, .int l2), (4, .int c2)]) hX 29 rfl rfl et4 (by decide) rfl ?_
        refine J.sub (L' := [(0, .ref (ad o)), (1, .int l1), (2, .int l2), (3, .int t4), (4, .int c2)]) [1, 2, 3, 0, 4] rfl ?_
        exact X1_swapCloths_L5_j57_ok hX ho h hin hex0
    · rw [if_neg b2] at h
      refine J.aload_n hX 12 0 rfl rfl ?_
      refine J.getR hX 13 o 1 ho.lt0 ho.s0 rfl in_wsX10 3 (by decide) w_36 rfl rfl ?_
      refine J.iload hX 14 4 rfl rfl ?_
      refine J.iload_n hX 15 2 rfl rfl ?_
      obtain ⟨N4, eN4, hb, h⟩ := sto_inv h
      refine J.iastN hX 16 (o + 4) ho.lt4 ho.s4 hb eN4 rfl ?_
      obtain ⟨t5, et5, h⟩ := bnd_inv h
      refine J.iinc (q := 3) (L' := [(3, .int t5), (0, .ref (ad o)), (1, .int l1), (2, .int l2), (4, .int c2)]) hX 17 rfl rfl et5 (by decide) rfl ?_
      refine J.goto (tgt := 57) hX 18 rfl (by decide) ?_
      refine J.sub (L' := [(0, .ref (ad o)), (1, .int l1), (2, .int l2), (3, .int t5), (4, .int c2)]) [1, 2, 3, 0, 4] rfl ?_
      exact X1_swapCloths_L5_j57_ok hX ho h hin hex0
set_option maxHeartbeats 4000000 in
set_option maxRecDepth 100000 in
theorem mX1_swapCloths {l : Launch} {D : va_G} {cA : Nat → ClassId} {ad : Nat → Nat} {n : Nat} {A : Nat → Prop} {sa : Nat → Nat} {M : Mem} {o : Nat} {l1 : Int32} {l2 : Int32} {r : Int32} {Mf : Mem} (ho : DrOk n o) (h : X1_swapCloths M o l1 l2 = some (r, Mf)) : CT l D cA ad n A sa yX1_swapCloths cX1_swapCloths 5 (some .int) 2 43 [.ref (ad o), .int l1, .int l2] M (.inl (some (.int r))) Mf := by
  refine CT.of (kt := kX1_swapCloths) (by decide) kX1_swapCloths_ok (Nat.le_of_ble_eq_true rfl) ?_
  intro p e s m args below meth c hX hr ht
  unfold X1_swapCloths at h
  refine J.sub (L' := [(0, .ref (ad o)), (1, .int l1), (2, .int l2)]) [0, 1, 2] rfl ?_
  refine J.iconst (v := 0) hX 0 rfl (by decide) ?_
  refine J.istore_n (L' := [(3, .int 0), (0, .ref (ad o)), (1, .int l1), (2, .int l2)]) hX 1 rfl (by decide) rfl ?_
  refine J.iconst (v := 0) hX 2 rfl (by decide) ?_
  refine J.istore (L' := [(4, .int 0), (3, .int 0), (0, .ref (ad o)), (1, .int l1), (2, .int l2)]) hX 3 rfl (by decide) rfl ?_
  refine J.sub (L' := [(0, .ref (ad o)), (1, .int l1), (2, .int l2), (3, .int 0), (4, .int 0)]) [2, 3, 4, 1, 0] rfl ?_
  obtain ⟨x1, N5, hlp, h⟩ := bd2_inv h
  suffices hE : JM 2 43 p l e s m args below meth c D cA ad n A 5 (.inl (some (.int r))) Mf N5 63 [(3, .int x1)] [] by
    exact loop_ok (fun q9 : Int32 × Int32 × Mem => JM 2 43 p l e s m args below meth c D cA ad n A 5 (.inl (some (.int r))) Mf q9.2.2 5 [(0, .ref (ad o)), (1, .int l1), (2, .int l2), (3, .int q9.1), (4, .int q9.2.1)] []) (fun q9 r hB hst hex9 => X1_swapCloths_L5_ok hX ho hB (fun _ _ _ hr => hst _ hr) (fun _ _ hr => by cases hex9 _ hr; exact hE)) 3000 _ hlp
  refine J.iload_n hX 32 0 rfl rfl ?_
  cases h
  exact J.iret hX hr 33 rfl
def X1_clothArea_L4_j27 (M : Mem) (o : Nat) (l1 : Int32) (v1 : Int32) (v2 : Int32) : Option ((Int32 × Int32) ⊕ (Int32)) := bnd (v2 + 1) (fun t2 => some (.inl (v1, t2)))
def X1_clothArea_L4 (M : Mem) (o : Nat) (l1 : Int32) (q9 : Int32 × Int32) : Option ((Int32 × Int32) ⊕ (Int32)) := un2 q9 (fun c1 c2 => if 24 ≤ c2 then (some (.inr c1)) else (bd1 (X1_isOfCloth M o c2 l1) (fun t1 => if t1 = 0 then (X1_clothArea_L4_j27 M o l1 c1 c2) else (bd1 (X1_doubleArea M o c2) (fun t3 => bnd ((c1 + t3)) (fun t4 => X1_clothArea_L4_j27 M o l1 t4 c2))))))
def X1_clothArea (M : Mem) (o : Nat) (l1 : Int32) : Option (Int32) := bd1 (loop (X1_clothArea_L4 M o l1) 3000 (0, 0)) (fun x1 => some x1)
set_option maxHeartbeats 4000000 in
set_option maxRecDepth 100000 in
theorem X1_clothArea_L4_j27_ok (hX : Cx p s m args meth c D cA ad n A sa cX1_clothArea 4 RX1 kX1_clothArea) {M : Mem} {o : Nat} {l1 : Int32} {v1 : Int32} {v2 : Int32} (ho : DrOk n o) {r : (Int32 × Int32) ⊕ (Int32)} (h : X1_clothArea_L4_j27 M o l1 v1 v2 = some r) (hin : ∀ (q0 : Int32) (q1 : Int32), r = .inl (q0, q1) → JM 2 47 p l e s m args below meth c D cA ad n A 4 out M1 M 4 [(0, .ref (ad o)), (1, .int l1), (2, .int q0), (3, .int q1)] []) (hex0 : ∀ (q0 : Int32), r = .inr q0 → JM 2 47 p l e s m args below meth c D cA ad n A 4 out M1 M 33 [(2, .int q0)] []) : JM 2 47 p l e s m args below meth c D cA ad n A 4 out M1 M 27 [(0, .ref (ad o)), (1, .int l1), (2, .int v1), (3, .int v2)] [] := by
  unfold X1_clothArea_L4_j27 at h
  obtain ⟨t2, et2, h⟩ := bnd_inv h
  refine J.iinc (q := 3) (L' := [(3, .int t2), (0, .ref (ad o)), (1, .int l1), (2, .int v1)]) hX 18 rfl rfl et2 (by decide) rfl ?_
  refine J.goto (tgt := 4) hX 19 rfl (by decide) ?_
  refine J.sub (L' := [(0, .ref (ad o)), (1, .int l1), (2, .int v1), (3, .int t2)]) [1, 2, 3, 0] rfl ?_
  exact hin _ _ (Option.some.inj h).symm
set_option maxHeartbeats 4000000 in
set_option maxRecDepth 100000 in
theorem X1_clothArea_L4_ok (hX : Cx p s m args meth c D cA ad n A sa cX1_clothArea 4 RX1 kX1_clothArea) {M : Mem} {o : Nat} {l1 : Int32} {c1 : Int32} {c2 : Int32} (ho : DrOk n o) {r : (Int32 × Int32) ⊕ (Int32)} (h : X1_clothArea_L4 M o l1 (c1, c2) = some r) (hin : ∀ (q0 : Int32) (q1 : Int32), r = .inl (q0, q1) → JM 2 47 p l e s m args below meth c D cA ad n A 4 out M1 M 4 [(0, .ref (ad o)), (1, .int l1), (2, .int q0), (3, .int q1)] []) (hex0 : ∀ (q0 : Int32), r = .inr q0 → JM 2 47 p l e s m args below meth c D cA ad n A 4 out M1 M 33 [(2, .int q0)] []) : JM 2 47 p l e s m args below meth c D cA ad n A 4 out M1 M 4 [(0, .ref (ad o)), (1, .int l1), (2, .int c1), (3, .int c2)] [] := by
  unfold X1_clothArea_L4 at h
  have h := un2_inv h
  refine J.iload_n hX 4 3 rfl rfl ?_
  refine J.bipush (v := 24) hX 5 rfl (by decide) ?_
  refine J.icmp_ge (tgt := 33) hX 6 rfl (by decide) (fun b1 => ?_) (fun b1 => ?_)
  · rw [if_pos b1] at h
    refine J.sub (L' := [(2, .int c1)]) [2] rfl ?_
    exact hex0 _ (Option.some.inj h).symm
  · rw [if_neg b1] at h
    refine J.aload_n hX 7 0 rfl rfl ?_
    refine J.iload_n hX 8 3 rfl rfl ?_
    refine J.iload_n hX 9 1 rfl rfl ?_
    obtain ⟨t1, hc, h⟩ := bd1_inv h
    refine J.callV1 (As := [.int c2, .int l1]) (rest := []) (k := o) hX 10 rfl (mX1_isOfCloth ho hc) okX1_isOfCloth w_465 ho.lt0 ho.s0 rfl rfl rfl (Nat.le_of_ble_eq_true rfl) ⟨Nat.le_of_ble_eq_true rfl, Nat.le_of_ble_eq_true rfl⟩ ⟨Nat.zero_le _, Nat.zero_le _⟩ ?_
    refine J.if_eq (tgt := 27) hX 11 rfl (by decide) (fun b2 => ?_) (fun b2 => ?_)
    · rw [if_pos b2] at h
      refine J.sub (L' := [(0, .ref (ad o)), (1, .int l1), (2, .int c1), (3, .int c2)]) [0, 1, 2, 3] rfl ?_
      exact X1_clothArea_L4_j27_ok hX ho h hin hex0
    · rw [if_neg b2] at h
      refine J.iload_n hX 12 2 rfl rfl ?_
      refine J.aload_n hX 13 0 rfl rfl ?_
      refine J.iload_n hX 14 3 rfl rfl ?_
      obtain ⟨t3, hc, h⟩ := bd1_inv h
      refine J.callV1 (As := [.int c2]) (rest := [.int c1]) (k := o) hX 15 rfl (mX1_doubleArea ho hc) okX1_doubleArea w_169 ho.lt0 ho.s0 rfl rfl rfl (Nat.le_of_ble_eq_true rfl) ⟨Nat.le_of_ble_eq_true rfl, Nat.le_of_ble_eq_true rfl⟩ ⟨Nat.zero_le _, Nat.zero_le _⟩ ?_
      refine J.iadd hX 16 rfl ?_
      obtain ⟨t4, et4, h⟩ := bnd_inv h
      refine J.nm et4 ?_
      refine J.istore_n (L' := [(2, .int t4), (0, .ref (ad o)), (1, .int l1), (3, .int c2)]) hX 17 rfl (by decide) rfl ?_
      refine J.sub (L' := [(0, .ref (ad o)), (1, .int l1), (2, .int t4), (3, .int c2)]) [1, 2, 0, 3] rfl ?_
      exact X1_clothArea_L4_j27_ok hX ho h hin hex0
set_option maxHeartbeats 4000000 in
set_option maxRecDepth 100000 in
theorem mX1_clothArea {l : Launch} {D : va_G} {cA : Nat → ClassId} {ad : Nat → Nat} {n : Nat} {A : Nat → Prop} {sa : Nat → Nat} {M : Mem} {o : Nat} {l1 : Int32} {r : Int32} (ho : DrOk n o) (h : X1_clothArea M o l1 = some r) : CT l D cA ad n A sa yX1_clothArea cX1_clothArea 4 (some .int) 2 47 [.ref (ad o), .int l1] M (.inl (some (.int r))) M := by
  refine CT.of (kt := kX1_clothArea) (by decide) kX1_clothArea_ok (Nat.le_of_ble_eq_true rfl) ?_
  intro p e s m args below meth c hX hr ht
  unfold X1_clothArea at h
  refine J.sub (L' := [(0, .ref (ad o)), (1, .int l1)]) [0, 1] rfl ?_
  refine J.iconst (v := 0) hX 0 rfl (by decide) ?_
  refine J.istore_n (L' := [(2, .int 0), (0, .ref (ad o)), (1, .int l1)]) hX 1 rfl (by decide) rfl ?_
  refine J.iconst (v := 0) hX 2 rfl (by decide) ?_
  refine J.istore_n (L' := [(3, .int 0), (2, .int 0), (0, .ref (ad o)), (1, .int l1)]) hX 3 rfl (by decide) rfl ?_
  refine J.sub (L' := [(0, .ref (ad o)), (1, .int l1), (2, .int 0), (3, .int 0)]) [2, 3, 1, 0] rfl ?_
  obtain ⟨x1, hlp, h⟩ := bd1_inv h
  suffices hE : JM 2 47 p l e s m args below meth c D cA ad n A 4 (.inl (some (.int r))) M M 33 [(2, .int x1)] [] by
    exact loop_ok (fun q9 : Int32 × Int32 => JM 2 47 p l e s m args below meth c D cA ad n A 4 (.inl (some (.int r))) M M 4 [(0, .ref (ad o)), (1, .int l1), (2, .int q9.1), (3, .int q9.2)] []) (fun q9 r hB hst hex9 => X1_clothArea_L4_ok hX ho hB (fun _ _ hr => hst _ hr) (fun _ hr => by cases hex9 _ hr; exact hE)) 3000 _ hlp
  refine J.iload_n hX 20 0 rfl rfl ?_
  cases h
  exact J.iret hX hr 21 rfl
def X1_extent_L9 (M : Mem) (o : Nat) (l1 : Int32) (k2 : Nat) (z2 : Nat) (q9 : Int32 × Int32 × Int32) : Option ((Int32 × Int32 × Int32) ⊕ (Int32 × Int32)) := un3 q9 (fun c1 c2 c3 => ld M (o + 3) 24 l1 (fun t1 => if t1 ≤ c3 then (some (.inr (c1, c2))) else (ld M k2 z2 ((l1 * 8) + c3) (fun t2 => bnd (if t2 < c1 then t2 else c1) (fun t3 => bnd (if c2 < t2 then t2 else c2) (fun t4 => bnd (c3 + 1) (fun t5 => some (.inl (t3, t4, t5)))))))))
def X1_extent (M : Mem) (o : Nat) (l1 : Int32) (k2 : Nat) (z2 : Nat) : Option (Int32) := bd2 (loop (X1_extent_L9 M o l1 k2 z2) 3000 (96, 0, 0)) (fun x1 x2 => some (x2 - x1))
set_option maxHeartbeats 4000000 in
set_option maxRecDepth 100000 in
theorem X1_extent_L9_ok (hX : Cx p s m args meth c D cA ad n A sa cX1_extent 7 RX1 kX1_extent) {M : Mem} {o : Nat} {l1 : Int32} {k2 : Nat} {z2 : Nat} {c1 : Int32} {c2 : Int32} {c3 : Int32} (ho : DrOk n o) (hk2 : k2 < n) (hs2 : sh0 k2 = .inl (0, z2)) {r : (Int32 × Int32 × Int32) ⊕ (Int32 × Int32)} (h : X1_extent_L9 M o l1 k2 z2 (c1, c2, c3) = some r) (hin : ∀ (q0 : Int32) (q1 : Int32) (q2 : Int32), r = .inl (q0, q1, q2) → JM 1 21 p l e s m args below meth c D cA ad n A 7 out M1 M 9 [(0, .ref (ad o)), (1, .int l1), (2, .ref (ad k2)), (3, .int q0), (4, .int q1), (5, .int q2)] []) (hex0 : ∀ (q0 : Int32) (q1 : Int32), r = .inr (q0, q1) → JM 1 21 p l e s m args below meth c D cA ad n A 7 out M1 M 53 [(3, .int q0), (4, .int q1)] []) : JM 1 21 p l e s m args below meth c D cA ad n A 7 out M1 M 9 [(0, .ref (ad o)), (1, .int l1), (2, .ref (ad k2)), (3, .int c1), (4, .int c2), (5, .int c3)] [] := by
  unfold X1_extent_L9 at h
  have h := un3_inv h
  refine J.iload hX 6 5 rfl rfl ?_
  refine J.aload_n hX 7 0 rfl rfl ?_
  refine J.getR hX 8 o 1 ho.lt0 ho.s0 rfl in_wsX10 2 (by decide) w_35 rfl rfl ?_
  refine J.iload_n hX 9 1 rfl rfl ?_
  obtain ⟨t1, et1, hb, h⟩ := ld_inv h
  refine J.ialdN hX 10 (o + 3) ho.lt3 ho.s3 hb et1 rfl ?_
  refine J.icmp_ge (tgt := 53) hX 11 rfl (by decide) (fun b1 => ?_) (fun b1 => ?_)
  · rw [if_pos b1] at h
    refine J.sub (L' := [(3, .int c1), (4, .int c2)]) [3, 4] rfl ?_
    exact hex0 _ _ (Option.some.inj h).symm
  · rw [if_neg b1] at h
    refine J.aload_n hX 12 2 rfl rfl ?_
    refine J.iload_n hX 13 1 rfl rfl ?_
    refine J.bipush (v := 8) hX 14 rfl (by decide) ?_
    refine J.imul hX 15 rfl ?_
    refine J.iload hX 16 5 rfl rfl ?_
    refine J.iadd hX 17 rfl ?_
    obtain ⟨t2, et2, hb, h⟩ := ld_inv h
    refine J.ialdN hX 18 k2 hk2 hs2 hb et2 rfl ?_
    refine J.istore (L' := [(6, .int t2), (0, .ref (ad o)), (1, .int l1), (2, .ref (ad k2)), (3, .int c1), (4, .int c2), (5, .int c3)]) hX 19 rfl (by decide) rfl ?_
    refine J.iload_n hX 20 4 rfl rfl ?_
    refine J.iload hX 21 0 rfl rfl ?_
    obtain ⟨t3, et3, h⟩ := bnd_inv h
    refine J.mmin hX 22 rfl w_551 w_552 w_533 w_553 (Nat.le_of_ble_eq_true rfl) (Nat.le_of_ble_eq_true rfl) (Nat.zero_le _) (Nat.zero_le _) ?_
    refine J.nm et3 ?_
    refine J.istore_n (L' := [(3, .int t3), (6, .int t2), (0, .ref (ad o)), (1, .int l1), (2, .ref (ad k2)), (4, .int c2), (5, .int c3)]) hX 23 rfl (by decide) rfl ?_
    refine J.iload hX 24 5 rfl rfl ?_
    refine J.iload hX 25 1 rfl rfl ?_
    obtain ⟨t4, et4, h⟩ := bnd_inv h
    refine J.mmax hX 26 rfl w_554 w_555 w_533 w_556 (Nat.le_of_ble_eq_true rfl) (Nat.le_of_ble_eq_true rfl) (Nat.zero_le _) (Nat.zero_le _) ?_
    refine J.nm et4 ?_
    refine J.istore (L' := [(4, .int t4), (3, .int t3), (6, .int t2), (0, .ref (ad o)), (1, .int l1), (2, .ref (ad k2)), (5, .int c3)]) hX 27 rfl (by decide) rfl ?_
    obtain ⟨t5, et5, h⟩ := bnd_inv h
    refine J.iinc (q := 6) (L' := [(5, .int t5), (4, .int t4), (3, .int t3), (6, .int t2), (0, .ref (ad o)), (1, .int l1), (2, .ref (ad k2))]) hX 28 rfl rfl et5 (by decide) rfl ?_
    refine J.goto (tgt := 9) hX 29 rfl (by decide) ?_
    refine J.sub (L' := [(0, .ref (ad o)), (1, .int l1), (2, .ref (ad k2)), (3, .int t3), (4, .int t4), (5, .int t5)]) [4, 5, 6, 2, 1, 0] rfl ?_
    exact hin _ _ _ (Option.some.inj h).symm
set_option maxHeartbeats 4000000 in
set_option maxRecDepth 100000 in
theorem mX1_extent {l : Launch} {D : va_G} {cA : Nat → ClassId} {ad : Nat → Nat} {n : Nat} {A : Nat → Prop} {sa : Nat → Nat} {M : Mem} {o : Nat} {l1 : Int32} {k2 : Nat} {z2 : Nat} {r : Int32} (ho : DrOk n o) (hk2 : k2 < n) (hs2 : sh0 k2 = .inl (0, z2)) (h : X1_extent M o l1 k2 z2 = some r) : CT l D cA ad n A sa yX1_extent cX1_extent 7 (some .int) 1 21 [.ref (ad o), .int l1, .ref (ad k2)] M (.inl (some (.int r))) M := by
  refine CT.of (kt := kX1_extent) (by decide) kX1_extent_ok (Nat.le_of_ble_eq_true rfl) ?_
  intro p e s m args below meth c hX hr ht
  unfold X1_extent at h
  refine J.sub (L' := [(0, .ref (ad o)), (1, .int l1), (2, .ref (ad k2))]) [0, 1, 2] rfl ?_
  refine J.bipush (v := 96) hX 0 rfl (by decide) ?_
  refine J.istore_n (L' := [(3, .int 96), (0, .ref (ad o)), (1, .int l1), (2, .ref (ad k2))]) hX 1 rfl (by decide) rfl ?_
  refine J.iconst (v := 0) hX 2 rfl (by decide) ?_
  refine J.istore (L' := [(4, .int 0), (3, .int 96), (0, .ref (ad o)), (1, .int l1), (2, .ref (ad k2))]) hX 3 rfl (by decide) rfl ?_
  refine J.iconst (v := 0) hX 4 rfl (by decide) ?_
  refine J.istore (L' := [(5, .int 0), (4, .int 0), (3, .int 96), (0, .ref (ad o)), (1, .int l1), (2, .ref (ad k2))]) hX 5 rfl (by decide) rfl ?_
  refine J.sub (L' := [(0, .ref (ad o)), (1, .int l1), (2, .ref (ad k2)), (3, .int 96), (4, .int 0), (5, .int 0)]) [3, 4, 5, 2, 1, 0] rfl ?_
  obtain ⟨x1, x2, hlp, h⟩ := bd2_inv h
  suffices hE : JM 1 21 p l e s m args below meth c D cA ad n A 7 (.inl (some (.int r))) M M 53 [(3, .int x1), (4, .int x2)] [] by
    exact loop_ok (fun q9 : Int32 × Int32 × Int32 => JM 1 21 p l e s m args below meth c D cA ad n A 7 (.inl (some (.int r))) M M 9 [(0, .ref (ad o)), (1, .int l1), (2, .ref (ad k2)), (3, .int q9.1), (4, .int q9.2.1), (5, .int q9.2.2)] []) (fun q9 r hB hst hex9 => X1_extent_L9_ok hX ho hk2 hs2 hB (fun _ _ _ hr => hst _ hr) (fun _ _ hr => by cases hex9 _ hr; exact hE)) 3000 _ hlp
  refine J.iload hX 30 1 rfl rfl ?_
  refine J.iload_n hX 31 0 rfl rfl ?_
  refine J.isub hX 32 rfl ?_
  cases h
  exact J.iret hX hr 33 rfl
def X1_patchWidth (M : Mem) (o : Nat) (l1 : Int32) : Option (Int32) := bd1 (X1_extent M o l1 (o + 1) 192) (fun t1 => some t1)
set_option maxHeartbeats 4000000 in
set_option maxRecDepth 100000 in
theorem mX1_patchWidth {l : Launch} {D : va_G} {cA : Nat → ClassId} {ad : Nat → Nat} {n : Nat} {A : Nat → Prop} {sa : Nat → Nat} {M : Mem} {o : Nat} {l1 : Int32} {r : Int32} (ho : DrOk n o) (h : X1_patchWidth M o l1 = some r) : CT l D cA ad n A sa yX1_patchWidth cX1_patchWidth 2 (some .int) 2 47 [.ref (ad o), .int l1] M (.inl (some (.int r))) M := by
  refine CT.of (kt := kX1_patchWidth) (by decide) kX1_patchWidth_ok (Nat.le_of_ble_eq_true rfl) ?_
  intro p e s m args below meth c hX hr ht
  unfold X1_patchWidth at h
  refine J.sub (L' := [(0, .ref (ad o)), (1, .int l1)]) [0, 1] rfl ?_
  refine J.aload_n hX 0 0 rfl rfl ?_
  refine J.iload_n hX 1 1 rfl rfl ?_
  refine J.aload_n hX 2 0 rfl rfl ?_
  refine J.getR hX 3 o 1 ho.lt0 ho.s0 rfl in_wsX10 0 (by decide) w_33 rfl rfl ?_
  obtain ⟨t1, hc, h⟩ := bd1_inv h
  refine J.callV1 (As := [.int l1, .ref (ad (o + 1))]) (rest := []) (k := o) hX 4 rfl (mX1_extent ho ho.lt1 ho.s1 hc) okX1_extent w_547 ho.lt0 ho.s0 rfl rfl rfl (Nat.le_of_ble_eq_true rfl) ⟨Nat.le_of_ble_eq_true rfl, Nat.le_of_ble_eq_true rfl⟩ ⟨Nat.zero_le _, Nat.zero_le _⟩ ?_
  cases h
  exact J.iret hX hr 5 rfl
def X1_patchHeight (M : Mem) (o : Nat) (l1 : Int32) : Option (Int32) := bd1 (X1_extent M o l1 (o + 2) 192) (fun t1 => some t1)
set_option maxHeartbeats 4000000 in
set_option maxRecDepth 100000 in
theorem mX1_patchHeight {l : Launch} {D : va_G} {cA : Nat → ClassId} {ad : Nat → Nat} {n : Nat} {A : Nat → Prop} {sa : Nat → Nat} {M : Mem} {o : Nat} {l1 : Int32} {r : Int32} (ho : DrOk n o) (h : X1_patchHeight M o l1 = some r) : CT l D cA ad n A sa yX1_patchHeight cX1_patchHeight 2 (some .int) 2 47 [.ref (ad o), .int l1] M (.inl (some (.int r))) M := by
  refine CT.of (kt := kX1_patchHeight) (by decide) kX1_patchHeight_ok (Nat.le_of_ble_eq_true rfl) ?_
  intro p e s m args below meth c hX hr ht
  unfold X1_patchHeight at h
  refine J.sub (L' := [(0, .ref (ad o)), (1, .int l1)]) [0, 1] rfl ?_
  refine J.aload_n hX 0 0 rfl rfl ?_
  refine J.iload_n hX 1 1 rfl rfl ?_
  refine J.aload_n hX 2 0 rfl rfl ?_
  refine J.getR hX 3 o 1 ho.lt0 ho.s0 rfl in_wsX10 1 (by decide) w_34 rfl rfl ?_
  obtain ⟨t1, hc, h⟩ := bd1_inv h
  refine J.callV1 (As := [.int l1, .ref (ad (o + 2))]) (rest := []) (k := o) hX 4 rfl (mX1_extent ho ho.lt2 ho.s2 hc) okX1_extent w_547 ho.lt0 ho.s0 rfl rfl rfl (Nat.le_of_ble_eq_true rfl) ⟨Nat.le_of_ble_eq_true rfl, Nat.le_of_ble_eq_true rfl⟩ ⟨Nat.zero_le _, Nat.zero_le _⟩ ?_
  cases h
  exact J.iret hX hr 5 rfl
def X1_halfSquareEdge_L19_j120 (M : Mem) (o : Nat) (l1 : Int32) (v6 : Int32) (v7 : Int32) (v8 : Int32) : Option ((Int32 × Int32 × Int32) ⊕ (Int32 × Int32)) := bnd (v8 + 1) (fun t9 => some (.inl (v6, v7, t9)))
def X1_halfSquareEdge_L19_j84 (M : Mem) (o : Nat) (l1 : Int32) (v1 : Int32) (v2 : Int32) (v3 : Int32) (v4 : Int32) (v5 : Int32) : Option ((Int32 × Int32 × Int32) ⊕ (Int32 × Int32)) := ld M (o + 1) 192 v4 (fun t7 => ld M (o + 1) 192 v5 (fun t8 => if t7 = t8 then (ld M (o + 2) 192 v5 (fun t10 => ld M (o + 2) 192 v4 (fun t11 => bnd (if 0 ≤ (t10 - t11) then (t10 - t11) else 0 - (t10 - t11)) (fun t12 => X1_halfSquareEdge_L19_j120 M o l1 v1 t12 v3)))) else (X1_halfSquareEdge_L19_j120 M o l1 v1 v2 v3)))
def X1_halfSquareEdge_L19 (M : Mem) (o : Nat) (l1 : Int32) (q9 : Int32 × Int32 × Int32) : Option ((Int32 × Int32 × Int32) ⊕ (Int32 × Int32)) := un3 q9 (fun c1 c2 c3 => if 3 ≤ c3 then (some (.inr (c1, c2))) else (bnd (((l1 * 8) + c3)) (fun t2 => bd1 (X1_next M o l1 c3) (fun t3 => bnd (((l1 * 8) + t3)) (fun t4 => ld M (o + 2) 192 t2 (fun t5 => ld M (o + 2) 192 t4 (fun t6 => if t5 = t6 then (ld M (o + 1) 192 t4 (fun t13 => ld M (o + 1) 192 t2 (fun t14 => bnd (if 0 ≤ (t13 - t14) then (t13 - t14) else 0 - (t13 - t14)) (fun t15 => X1_halfSquareEdge_L19_j84 M o l1 t15 c2 c3 t2 t4)))) else (X1_halfSquareEdge_L19_j84 M o l1 c1 c2 c3 t2 t4))))))))
def X1_halfSquareEdge_j136 (M : Mem) (v9 : Int32) : Option (Int32) := some v9
def X1_halfSquareEdge (M : Mem) (o : Nat) (l1 : Int32) : Option (Int32) := ld M (o + 3) 24 l1 (fun t1 => if t1 = 3 then (bd2 (loop (X1_halfSquareEdge_L19 M o l1) 3000 (0, 0, 0)) (fun x1 x2 => if x1 = x2 then (X1_halfSquareEdge_j136 M x1) else (X1_halfSquareEdge_j136 M 0))) else (some 0))
set_option maxHeartbeats 4000000 in
set_option maxRecDepth 100000 in
theorem X1_halfSquareEdge_L19_j120_ok (hX : Cx p s m args meth c D cA ad n A sa cX1_halfSquareEdge 7 RX1 kX1_halfSquareEdge) {M : Mem} {o : Nat} {l1 : Int32} {v6 : Int32} {v7 : Int32} {v8 : Int32} (ho : DrOk n o) {r : (Int32 × Int32 × Int32) ⊕ (Int32 × Int32)} (h : X1_halfSquareEdge_L19_j120 M o l1 v6 v7 v8 = some r) (hin : ∀ (q0 : Int32) (q1 : Int32) (q2 : Int32), r = .inl (q0, q1, q2) → JM 1 22 p l e s m args below meth c D cA ad n A 7 out M1 M 19 [(0, .ref (ad o)), (1, .int l1), (2, .int q0), (3, .int q1), (4, .int q2)] []) (hex0 : ∀ (q0 : Int32) (q1 : Int32), r = .inr (q0, q1) → JM 1 22 p l e s m args below meth c D cA ad n A 7 out M1 M 126 [(2, .int q0), (3, .int q1)] []) : JM 1 22 p l e s m args below meth c D cA ad n A 7 out M1 M 120 [(0, .ref (ad o)), (1, .int l1), (2, .int v6), (3, .int v7), (4, .int v8)] [] := by
  unfold X1_halfSquareEdge_L19_j120 at h
  obtain ⟨t9, et9, h⟩ := bnd_inv h
  refine J.iinc (q := 4) (L' := [(4, .int t9), (0, .ref (ad o)), (1, .int l1), (2, .int v6), (3, .int v7)]) hX 72 rfl rfl et9 (by decide) rfl ?_
  refine J.goto (tgt := 19) hX 73 rfl (by decide) ?_
  refine J.sub (L' := [(0, .ref (ad o)), (1, .int l1), (2, .int v6), (3, .int v7), (4, .int t9)]) [1, 2, 3, 4, 0] rfl ?_
  exact hin _ _ _ (Option.some.inj h).symm
set_option maxHeartbeats 4000000 in
set_option maxRecDepth 100000 in
theorem X1_halfSquareEdge_L19_j84_ok (hX : Cx p s m args meth c D cA ad n A sa cX1_halfSquareEdge 7 RX1 kX1_halfSquareEdge) {M : Mem} {o : Nat} {l1 : Int32} {v1 : Int32} {v2 : Int32} {v3 : Int32} {v4 : Int32} {v5 : Int32} (ho : DrOk n o) {r : (Int32 × Int32 × Int32) ⊕ (Int32 × Int32)} (h : X1_halfSquareEdge_L19_j84 M o l1 v1 v2 v3 v4 v5 = some r) (hin : ∀ (q0 : Int32) (q1 : Int32) (q2 : Int32), r = .inl (q0, q1, q2) → JM 1 22 p l e s m args below meth c D cA ad n A 7 out M1 M 19 [(0, .ref (ad o)), (1, .int l1), (2, .int q0), (3, .int q1), (4, .int q2)] []) (hex0 : ∀ (q0 : Int32) (q1 : Int32), r = .inr (q0, q1) → JM 1 22 p l e s m args below meth c D cA ad n A 7 out M1 M 126 [(2, .int q0), (3, .int q1)] []) : JM 1 22 p l e s m args below meth c D cA ad n A 7 out M1 M 84 [(0, .ref (ad o)), (1, .int l1), (2, .int v1), (3, .int v2), (4, .int v3), (5, .int v4), (6, .int v5)] [] := by
  unfold X1_halfSquareEdge_L19_j84 at h
  refine J.aload_n hX 52 0 rfl rfl ?_
  refine J.getR hX 53 o 1 ho.lt0 ho.s0 rfl in_wsX10 0 (by decide) w_33 rfl rfl ?_
  refine J.iload hX 54 5 rfl rfl ?_
  obtain ⟨t7, et7, hb, h⟩ := ld_inv h
  refine J.ialdN hX 55 (o + 1) ho.lt1 ho.s1 hb et7 rfl ?_
  refine J.aload_n hX 56 0 rfl rfl ?_
  refine J.getR hX 57 o 1 ho.lt0 ho.s0 rfl in_wsX10 0 (by decide) w_33 rfl rfl ?_
  refine J.iload hX 58 6 rfl rfl ?_
  obtain ⟨t8, et8, hb, h⟩ := ld_inv h
  refine J.ialdN hX 59 (o + 1) ho.lt1 ho.s1 hb et8 rfl ?_
  refine J.icmp_ne (tgt := 120) hX 60 rfl (by decide) (fun b4 => ?_) (fun b4 => ?_)
  · rw [if_neg b4] at h
    refine J.sub (L' := [(0, .ref (ad o)), (1, .int l1), (2, .int v1), (3, .int v2), (4, .int v3)]) [0, 1, 2, 3, 4] rfl ?_
    exact X1_halfSquareEdge_L19_j120_ok hX ho h hin hex0
  · rw [if_pos b4] at h
    refine J.aload_n hX 61 0 rfl rfl ?_
    refine J.getR hX 62 o 1 ho.lt0 ho.s0 rfl in_wsX10 1 (by decide) w_34 rfl rfl ?_
    refine J.iload hX 63 6 rfl rfl ?_
    obtain ⟨t10, et10, hb, h⟩ := ld_inv h
    refine J.ialdN hX 64 (o + 2) ho.lt2 ho.s2 hb et10 rfl ?_
    refine J.aload_n hX 65 0 rfl rfl ?_
    refine J.getR hX 66 o 1 ho.lt0 ho.s0 rfl in_wsX10 1 (by decide) w_34 rfl rfl ?_
    refine J.iload hX 67 5 rfl rfl ?_
    obtain ⟨t11, et11, hb, h⟩ := ld_inv h
    refine J.ialdN hX 68 (o + 2) ho.lt2 ho.s2 hb et11 rfl ?_
    refine J.isub hX 69 rfl ?_
    obtain ⟨t12, et12, h⟩ := bnd_inv h
    refine J.mabs hX 70 rfl w_531 w_532 w_533 w_534 (Nat.le_of_ble_eq_true rfl) (Nat.le_of_ble_eq_true rfl) (Nat.zero_le _) (Nat.zero_le _) ?_
    refine J.nm et12 ?_
    refine J.istore_n (L' := [(3, .int t12), (0, .ref (ad o)), (1, .int l1), (2, .int v1), (4, .int v3), (5, .int v4), (6, .int v5)]) hX 71 rfl (by decide) rfl ?_
    refine J.sub (L' := [(0, .ref (ad o)), (1, .int l1), (2, .int v1), (3, .int t12), (4, .int v3)]) [1, 2, 3, 0, 4] rfl ?_
    exact X1_halfSquareEdge_L19_j120_ok hX ho h hin hex0
set_option maxHeartbeats 4000000 in
set_option maxRecDepth 100000 in
theorem X1_halfSquareEdge_L19_ok (hX : Cx p s m args meth c D cA ad n A sa cX1_halfSquareEdge 7 RX1 kX1_halfSquareEdge) {M : Mem} {o : Nat} {l1 : Int32} {c1 : Int32} {c2 : Int32} {c3 : Int32} (ho : DrOk n o) {r : (Int32 × Int32 × Int32) ⊕ (Int32 × Int32)} (h : X1_halfSquareEdge_L19 M o l1 (c1, c2, c3) = some r) (hin : ∀ (q0 : Int32) (q1 : Int32) (q2 : Int32), r = .inl (q0, q1, q2) → JM 1 22 p l e s m args below meth c D cA ad n A 7 out M1 M 19 [(0, .ref (ad o)), (1, .int l1), (2, .int q0), (3, .int q1), (4, .int q2)] []) (hex0 : ∀ (q0 : Int32) (q1 : Int32), r = .inr (q0, q1) → JM 1 22 p l e s m args below meth c D cA ad n A 7 out M1 M 126 [(2, .int q0), (3, .int q1)] []) : JM 1 22 p l e s m args below meth c D cA ad n A 7 out M1 M 19 [(0, .ref (ad o)), (1, .int l1), (2, .int c1), (3, .int c2), (4, .int c3)] [] := by
  unfold X1_halfSquareEdge_L19 at h
  have h := un3_inv h
  refine J.iload hX 14 4 rfl rfl ?_
  refine J.iconst (v := 3) hX 15 rfl (by decide) ?_
  refine J.icmp_ge (tgt := 126) hX 16 rfl (by decide) (fun b2 => ?_) (fun b2 => ?_)
  · rw [if_pos b2] at h
    refine J.sub (L' := [(2, .int c1), (3, .int c2)]) [2, 3] rfl ?_
    exact hex0 _ _ (Option.some.inj h).symm
  · rw [if_neg b2] at h
    refine J.iload_n hX 17 1 rfl rfl ?_
    refine J.bipush (v := 8) hX 18 rfl (by decide) ?_
    refine J.imul hX 19 rfl ?_
    refine J.iload hX 20 4 rfl rfl ?_
    refine J.iadd hX 21 rfl ?_
    obtain ⟨t2, et2, h⟩ := bnd_inv h
    refine J.nm et2 ?_
    refine J.istore (L' := [(5, .int t2), (0, .ref (ad o)), (1, .int l1), (2, .int c1), (3, .int c2), (4, .int c3)]) hX 22 rfl (by decide) rfl ?_
    refine J.iload_n hX 23 2 rfl rfl ?_
    refine J.bipush (v := 8) hX 24 rfl (by decide) ?_
    refine J.imul hX 25 rfl ?_
    refine J.aload_n hX 26 1 rfl rfl ?_
    refine J.iload_n hX 27 2 rfl rfl ?_
    refine J.iload hX 28 5 rfl rfl ?_
    obtain ⟨t3, hc, h⟩ := bd1_inv h
    refine J.callV1 (As := [.int l1, .int c3]) (rest := [.int (l1 * 8)]) (k := o) hX 29 rfl (mX1_next ho hc) okX1_next w_161 ho.lt0 ho.s0 rfl rfl rfl (Nat.le_of_ble_eq_true rfl) ⟨Nat.le_of_ble_eq_true rfl, Nat.le_of_ble_eq_true rfl⟩ ⟨Nat.zero_le _, Nat.zero_le _⟩ ?_
    refine J.iadd hX 30 rfl ?_
    obtain ⟨t4, et4, h⟩ := bnd_inv h
    refine J.nm et4 ?_
    refine J.istore (L' := [(6, .int t4), (5, .int t2), (0, .ref (ad o)), (1, .int l1), (2, .int c1), (3, .int c2), (4, .int c3)]) hX 31 rfl (by decide) rfl ?_
    refine J.aload_n hX 32 2 rfl rfl ?_
    refine J.getR hX 33 o 1 ho.lt0 ho.s0 rfl in_wsX10 1 (by decide) w_34 rfl rfl ?_
    refine J.iload hX 34 1 rfl rfl ?_
    obtain ⟨t5, et5, hb, h⟩ := ld_inv h
    refine J.ialdN hX 35 (o + 2) ho.lt2 ho.s2 hb et5 rfl ?_
    refine J.aload_n hX 36 2 rfl rfl ?_
    refine J.getR hX 37 o 1 ho.lt0 ho.s0 rfl in_wsX10 1 (by decide) w_34 rfl rfl ?_
    refine J.iload hX 38 0 rfl rfl ?_
    obtain ⟨t6, et6, hb, h⟩ := ld_inv h
    refine J.ialdN hX 39 (o + 2) ho.lt2 ho.s2 hb et6 rfl ?_
    refine J.icmp_ne (tgt := 84) hX 40 rfl (by decide) (fun b3 => ?_) (fun b3 => ?_)
    · rw [if_neg b3] at h
      refine J.sub (L' := [(0, .ref (ad o)), (1, .int l1), (2, .int c1), (3, .int c2), (4, .int c3), (5, .int t2), (6, .int t4)]) [2, 3, 4, 5, 6, 1, 0] rfl ?_
      exact X1_halfSquareEdge_L19_j84_ok hX ho h hin hex0
    · rw [if_pos b3] at h
      refine J.aload_n hX 41 2 rfl rfl ?_
      refine J.getR hX 42 o 1 ho.lt0 ho.s0 rfl in_wsX10 0 (by decide) w_33 rfl rfl ?_
      refine J.iload hX 43 0 rfl rfl ?_
      obtain ⟨t13, et13, hb, h⟩ := ld_inv h
      refine J.ialdN hX 44 (o + 1) ho.lt1 ho.s1 hb et13 rfl ?_
      refine J.aload_n hX 45 2 rfl rfl ?_
      refine J.getR hX 46 o 1 ho.lt0 ho.s0 rfl in_wsX10 0 (by decide) w_33 rfl rfl ?_
      refine J.iload hX 47 1 rfl rfl ?_
      obtain ⟨t14, et14, hb, h⟩ := ld_inv h
      refine J.ialdN hX 48 (o + 1) ho.lt1 ho.s1 hb et14 rfl ?_
      refine J.isub hX 49 rfl ?_
      obtain ⟨t15, et15, h⟩ := bnd_inv h
      refine J.mabs hX 50 rfl w_531 w_532 w_533 w_534 (Nat.le_of_ble_eq_true rfl) (Nat.le_of_ble_eq_true rfl) (Nat.zero_le _) (Nat.zero_le _) ?_
      refine J.nm et15 ?_
      refine J.istore_n (L' := [(2, .int t15), (6, .int t4), (5, .int t2), (0, .ref (ad o)), (1, .int l1), (3, .int c2), (4, .int c3)]) hX 51 rfl (by decide) rfl ?_
      refine J.sub (L' := [(0, .ref (ad o)), (1, .int l1), (2, .int t15), (3, .int c2), (4, .int c3), (5, .int t2), (6, .int t4)]) [3, 4, 0, 5, 6, 2, 1] rfl ?_
      exact X1_halfSquareEdge_L19_j84_ok hX ho h hin hex0
set_option maxHeartbeats 4000000 in
set_option maxRecDepth 100000 in
theorem X1_halfSquareEdge_j136_ok (hX : Cx p s m args meth c D cA ad n A sa cX1_halfSquareEdge 7 RX1 kX1_halfSquareEdge) {M : Mem} {v9 : Int32} {r : Int32}  (hr : meth.sig.returnType = (some .int)) (ht : ∀ x ∈ c.exceptionTable.toList, False) (h : X1_halfSquareEdge_j136 M v9 = some r) : JM 1 22 p l e s m args below meth c D cA ad n A 7 (.inl (some (.int r))) M M 136 [] [.int v9] := by
  unfold X1_halfSquareEdge_j136 at h
  cases h
  exact J.iret hX hr 80 rfl
set_option maxHeartbeats 4000000 in
set_option maxRecDepth 100000 in
theorem mX1_halfSquareEdge {l : Launch} {D : va_G} {cA : Nat → ClassId} {ad : Nat → Nat} {n : Nat} {A : Nat → Prop} {sa : Nat → Nat} {M : Mem} {o : Nat} {l1 : Int32} {r : Int32} (ho : DrOk n o) (h : X1_halfSquareEdge M o l1 = some r) : CT l D cA ad n A sa yX1_halfSquareEdge cX1_halfSquareEdge 7 (some .int) 1 22 [.ref (ad o), .int l1] M (.inl (some (.int r))) M := by
  refine CT.of (kt := kX1_halfSquareEdge) (by decide) kX1_halfSquareEdge_ok (Nat.le_of_ble_eq_true rfl) ?_
  intro p e s m args below meth c hX hr ht
  unfold X1_halfSquareEdge at h
  refine J.sub (L' := [(0, .ref (ad o)), (1, .int l1)]) [0, 1] rfl ?_
  refine J.aload_n hX 0 0 rfl rfl ?_
  refine J.getR hX 1 o 1 ho.lt0 ho.s0 rfl in_wsX10 2 (by decide) w_35 rfl rfl ?_
  refine J.iload_n hX 2 1 rfl rfl ?_
  obtain ⟨t1, et1, hb, h⟩ := ld_inv h
  refine J.ialdN hX 3 (o + 3) ho.lt3 ho.s3 hb et1 rfl ?_
  refine J.iconst (v := 3) hX 4 rfl (by decide) ?_
  refine J.icmp_eq (tgt := 12) hX 5 rfl (by decide) (fun b1 => ?_) (fun b1 => ?_)
  · rw [if_pos b1] at h
    refine J.iconst (v := 0) hX 8 rfl (by decide) ?_
    refine J.istore_n (L' := [(2, .int 0), (0, .ref (ad o)), (1, .int l1)]) hX 9 rfl (by decide) rfl ?_
    refine J.iconst (v := 0) hX 10 rfl (by decide) ?_
    refine J.istore_n (L' := [(3, .int 0), (2, .int 0), (0, .ref (ad o)), (1, .int l1)]) hX 11 rfl (by decide) rfl ?_
    refine J.iconst (v := 0) hX 12 rfl (by decide) ?_
    refine J.istore (L' := [(4, .int 0), (3, .int 0), (2, .int 0), (0, .ref (ad o)), (1, .int l1)]) hX 13 rfl (by decide) rfl ?_
    refine J.sub (L' := [(0, .ref (ad o)), (1, .int l1), (2, .int 0), (3, .int 0), (4, .int 0)]) [3, 4, 2, 1, 0] rfl ?_
    obtain ⟨x1, x2, hlp, h⟩ := bd2_inv h
    suffices hE : JM 1 22 p l e s m args below meth c D cA ad n A 7 (.inl (some (.int r))) M M 126 [(2, .int x1), (3, .int x2)] [] by
      exact loop_ok (fun q9 : Int32 × Int32 × Int32 => JM 1 22 p l e s m args below meth c D cA ad n A 7 (.inl (some (.int r))) M M 19 [(0, .ref (ad o)), (1, .int l1), (2, .int q9.1), (3, .int q9.2.1), (4, .int q9.2.2)] []) (fun q9 r hB hst hex9 => X1_halfSquareEdge_L19_ok hX ho hB (fun _ _ _ hr => hst _ hr) (fun _ _ hr => by cases hex9 _ hr; exact hE)) 3000 _ hlp
    refine J.iload_n hX 74 0 rfl rfl ?_
    refine J.iload_n hX 75 1 rfl rfl ?_
    refine J.icmp_ne (tgt := 135) hX 76 rfl (by decide) (fun b5 => ?_) (fun b5 => ?_)
    · rw [if_neg b5] at h
      refine J.iconst (v := 0) hX 79 rfl (by decide) ?_
      refine J.sub (L' := []) [] rfl ?_
      exact X1_halfSquareEdge_j136_ok hX  hr ht h
    · rw [if_pos b5] at h
      refine J.iload_n hX 77 0 rfl rfl ?_
      refine J.goto (tgt := 136) hX 78 rfl (by decide) ?_
      refine J.sub (L' := []) [] rfl ?_
      exact X1_halfSquareEdge_j136_ok hX  hr ht h
  · rw [if_neg b1] at h
    refine J.iconst (v := 0) hX 6 rfl (by decide) ?_
    cases h
    exact J.iret hX hr 7 rfl
end G13
