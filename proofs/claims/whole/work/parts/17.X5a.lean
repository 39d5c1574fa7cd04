section G17
variable {p : Program} {l : Launch} {e : Env} {s : State} {m : MethodId} {args : Array Value} {below : List Frame} {meth : Method} {c : Code} {D : va_G} {cA : Nat → ClassId} {ad : Nat → Nat} {n : Nat} {A : Nat → Prop} {sa : Nat → Nat} {out : Option Value ⊕ String} {M1 : Mem}
def X5_thrown (M : Mem) : Option (Int32) := some (M 27 0)
set_option maxHeartbeats 4000000 in
set_option maxRecDepth 100000 in
theorem mX5_thrown {l : Launch} {D : va_G} {cA : Nat → ClassId} {ad : Nat → Nat} {n : Nat} {A : Nat → Prop} {sa : Nat → Nat} {M : Mem} {r : Int32} (h : X5_thrown M = some r) : CT l D cA ad n A sa yX5_thrown cX5_thrown 1 (some .int) 0 0 [.ref (ad 27)] M (.inl (some (.int r))) M := by
  refine CT.of (kt := kX5_thrown) (by decide) kX5_thrown_ok (Nat.le_of_ble_eq_true rfl) ?_
  intro p e s m args below meth c hX hr ht
  unfold X5_thrown at h
  refine J.sub (L' := [(0, .ref (ad 27))]) [0] rfl ?_
  refine J.aload_n hX 0 0 rfl rfl ?_
  refine J.getI hX 1 27 5 (hX.lt (k := 27) (by decide)) sh_27 rfl in_wsX50 0 (by decide) w_141 rfl rfl ?_
  cases h
  exact J.iret hX hr 2 rfl
def X5_goes_j33 (N3 : Mem) (v2 : Int32) : Option (Int32 × Mem) := chk (isB v2) (some (v2, N3))
def X5_goes_j18 (N1 : Mem) (v1 : Int32) : Option (Int32 × Mem) := bnd (wr N1 27 0 v1) (fun N2 => if (N2 27 0) = 0 then (X5_goes_j33 N2 1) else (X5_goes_j33 N2 0))
def X5_goes (M : Mem) (l1 : Int32) (l2 : Int32) : Option (Int32 × Mem) := if l1 = 0 then (X5_goes_j18 M 1) else (if l2 = 0 then (X5_goes_j18 M 2) else (X5_goes_j18 M 0))
set_option maxHeartbeats 4000000 in
set_option maxRecDepth 100000 in
theorem X5_goes_j33_ok (hX : Cx p s m args meth c D cA ad n A sa cX5_goes 3 RX5 kX5_goes) {N3 : Mem} {v2 : Int32} {r : Int32} {Mf : Mem}  (hr : meth.sig.returnType = (some .boolean)) (ht : ∀ x ∈ c.exceptionTable.toList, False) (h : X5_goes_j33 N3 v2 = some (r, Mf)) : JM 0 0 p l e s m args below meth c D cA ad n A 3 (.inl (some (.int r))) Mf N3 33 [] [.int v2] := by
  unfold X5_goes_j33 at h
  obtain ⟨hz, h⟩ := chk_inv h
  cases h
  exact J.zret hX hr 17 (isB_nar hz) rfl
set_option maxHeartbeats 4000000 in
set_option maxRecDepth 100000 in
theorem X5_goes_j18_ok (hX : Cx p s m args meth c D cA ad n A sa cX5_goes 3 RX5 kX5_goes) {N1 : Mem} {v1 : Int32} {r : Int32} {Mf : Mem}  (hr : meth.sig.returnType = (some .boolean)) (ht : ∀ x ∈ c.exceptionTable.toList, False) (h : X5_goes_j18 N1 v1 = some (r, Mf)) : JM 0 0 p l e s m args below meth c D cA ad n A 3 (.inl (some (.int r))) Mf N1 18 [(0, .ref (ad 27))] [.int v1, .ref (ad 27)] := by
  unfold X5_goes_j18 at h
  obtain ⟨N2, eN2, h⟩ := bnd_inv h
  refine J.putIN hX 10 27 5 (hX.lt (k := 27) (by decide)) sh_27 rfl in_wsX50 0 (by decide) w_141 tyX5 tyX5_ok nmX5 eN2 rfl rfl (by decide +kernel) rfl ?_
  refine J.aload_n hX 11 0 rfl rfl ?_
  refine J.getI hX 12 27 5 (hX.lt (k := 27) (by decide)) sh_27 rfl in_wsX50 0 (by decide) w_141 rfl rfl ?_
  refine J.if_ne (tgt := 32) hX 13 rfl (by decide) (fun b3 => ?_) (fun b3 => ?_)
  · rw [if_neg b3] at h
    refine J.iconst (v := 0) hX 16 rfl (by decide) ?_
    refine J.sub (L' := []) [] rfl ?_
    exact X5_goes_j33_ok hX  hr ht h
  · rw [if_pos b3] at h
    refine J.iconst (v := 1) hX 14 rfl (by decide) ?_
    refine J.goto (tgt := 33) hX 15 rfl (by decide) ?_
    refine J.sub (L' := []) [] rfl ?_
    exact X5_goes_j33_ok hX  hr ht h
set_option maxHeartbeats 4000000 in
set_option maxRecDepth 100000 in
theorem mX5_goes {l : Launch} {D : va_G} {cA : Nat → ClassId} {ad : Nat → Nat} {n : Nat} {A : Nat → Prop} {sa : Nat → Nat} {M : Mem} {l1 : Int32} {l2 : Int32} {r : Int32} {Mf : Mem} (h : X5_goes M l1 l2 = some (r, Mf)) : CT l D cA ad n A sa yX5_goes cX5_goes 3 (some .boolean) 0 0 [.ref (ad 27), .int l1, .int l2] M (.inl (some (.int r))) Mf := by
  refine CT.of (kt := kX5_goes) (by decide) kX5_goes_ok (Nat.le_of_ble_eq_true rfl) ?_
  intro p e s m args below meth c hX hr ht
  unfold X5_goes at h
  refine J.sub (L' := [(0, .ref (ad 27)), (1, .int l1), (2, .int l2)]) [0, 1, 2] rfl ?_
  refine J.aload_n hX 0 0 rfl rfl ?_
  refine J.iload_n hX 1 1 rfl rfl ?_
  refine J.if_ne (tgt := 9) hX 2 rfl (by decide) (fun b1 => ?_) (fun b1 => ?_)
  · rw [if_neg b1] at h
    refine J.iload_n hX 5 2 rfl rfl ?_
    refine J.if_ne (tgt := 17) hX 6 rfl (by decide) (fun b2 => ?_) (fun b2 => ?_)
    · rw [if_neg b2] at h
      refine J.iconst (v := 0) hX 9 rfl (by decide) ?_
      refine J.sub (L' := [(0, .ref (ad 27))]) [0] rfl ?_
      exact X5_goes_j18_ok hX  hr ht h
    · rw [if_pos b2] at h
      refine J.iconst (v := 2) hX 7 rfl (by decide) ?_
      refine J.goto (tgt := 18) hX 8 rfl (by decide) ?_
      refine J.sub (L' := [(0, .ref (ad 27))]) [0] rfl ?_
      exact X5_goes_j18_ok hX  hr ht h
  · rw [if_pos b1] at h
    refine J.iconst (v := 1) hX 3 rfl (by decide) ?_
    refine J.goto (tgt := 18) hX 4 rfl (by decide) ?_
    refine J.sub (L' := [(0, .ref (ad 27))]) [0] rfl ?_
    exact X5_goes_j18_ok hX  hr ht h
def X5_within_j15 (M : Mem) (v1 : Int32) : Option (Int32) := chk (isB v1) (some v1)
def X5_within (M : Mem) (l0 : Int32) (l1 : Int32) (l2 : Int32) : Option (Int32) := if l0 < l1 then (X5_within_j15 M 0) else (if l2 < l0 then (X5_within_j15 M 0) else (X5_within_j15 M 1))
set_option maxHeartbeats 4000000 in
set_option maxRecDepth 100000 in
theorem X5_within_j15_ok (hX : Cx p s m args meth c D cA ad n A sa cX5_within 3 RX5 kX5_within) {M : Mem} {v1 : Int32} {r : Int32}  (hr : meth.sig.returnType = (some .boolean)) (ht : ∀ x ∈ c.exceptionTable.toList, False) (h : X5_within_j15 M v1 = some r) : JM 0 0 p l e s m args below meth c D cA ad n A 3 (.inl (some (.int r))) M M 15 [] [.int v1] := by
  unfold X5_within_j15 at h
  obtain ⟨hz, h⟩ := chk_inv h
  cases h
  exact J.zret hX hr 9 (isB_nar hz) rfl
set_option maxHeartbeats 4000000 in
set_option maxRecDepth 100000 in
theorem mX5_within {l : Launch} {D : va_G} {cA : Nat → ClassId} {ad : Nat → Nat} {n : Nat} {A : Nat → Prop} {sa : Nat → Nat} {M : Mem} {l0 : Int32} {l1 : Int32} {l2 : Int32} {r : Int32} (h : X5_within M l0 l1 l2 = some r) : CT l D cA ad n A sa yX5_within cX5_within 3 (some .boolean) 0 0 [.int l0, .int l1, .int l2] M (.inl (some (.int r))) M := by
  refine CT.of (kt := kX5_within) (by decide) kX5_within_ok (Nat.le_of_ble_eq_true rfl) ?_
  intro p e s m args below meth c hX hr ht
  unfold X5_within at h
  refine J.sub (L' := [(0, .int l0), (1, .int l1), (2, .int l2)]) [0, 1, 2] rfl ?_
  refine J.iload_n hX 0 0 rfl rfl ?_
  refine J.iload_n hX 1 1 rfl rfl ?_
  refine J.icmp_lt (tgt := 14) hX 2 rfl (by decide) (fun b1 => ?_) (fun b1 => ?_)
  · rw [if_pos b1] at h
    refine J.iconst (v := 0) hX 8 rfl (by decide) ?_
    refine J.sub (L' := []) [] rfl ?_
    exact X5_within_j15_ok hX  hr ht h
  · rw [if_neg b1] at h
    refine J.iload_n hX 3 0 rfl rfl ?_
    refine J.iload_n hX 4 2 rfl rfl ?_
    refine J.icmp_gt (tgt := 14) hX 5 rfl (by decide) (fun b2 => ?_) (fun b2 => ?_)
    · rw [if_pos b2] at h
      refine J.iconst (v := 0) hX 8 rfl (by decide) ?_
      refine J.sub (L' := []) [] rfl ?_
      exact X5_within_j15_ok hX  hr ht h
    · rw [if_neg b2] at h
      refine J.iconst (v := 1) hX 6 rfl (by decide) ?_
      refine J.goto (tgt := 15) hX 7 rfl (by decide) ?_
      refine J.sub (L' := []) [] rfl ?_
      exact X5_within_j15_ok hX  hr ht h
def X5_isPatch_j15 (M : Mem) (v1 : Int32) : Option (Int32) := chk (isB v1) (some v1)
def X5_isPatch (M : Mem) (l0 : Int32) : Option (Int32) := if l0 < 0 then (X5_isPatch_j15 M 0) else (if 24 ≤ l0 then (X5_isPatch_j15 M 0) else (X5_isPatch_j15 M 1))
set_option maxHeartbeats 4000000 in
set_option maxRecDepth 100000 in
theorem X5_isPatch_j15_ok (hX : Cx p s m args meth c D cA ad n A sa cX5_isPatch 1 RX5 kX5_isPatch) {M : Mem} {v1 : Int32} {r : Int32}  (hr : meth.sig.returnType = (some .boolean)) (ht : ∀ x ∈ c.exceptionTable.toList, False) (h : X5_isPatch_j15 M v1 = some r) : JM 0 0 p l e s m args below meth c D cA ad n A 1 (.inl (some (.int r))) M M 15 [] [.int v1] := by
  unfold X5_isPatch_j15 at h
  obtain ⟨hz, h⟩ := chk_inv h
  cases h
  exact J.zret hX hr 8 (isB_nar hz) rfl
set_option maxHeartbeats 4000000 in
set_option maxRecDepth 100000 in
theorem mX5_isPatch {l : Launch} {D : va_G} {cA : Nat → ClassId} {ad : Nat → Nat} {n : Nat} {A : Nat → Prop} {sa : Nat → Nat} {M : Mem} {l0 : Int32} {r : Int32} (h : X5_isPatch M l0 = some r) : CT l D cA ad n A sa yX5_isPatch cX5_isPatch 1 (some .boolean) 0 0 [.int l0] M (.inl (some (.int r))) M := by
  refine CT.of (kt := kX5_isPatch) (by decide) kX5_isPatch_ok (Nat.le_of_ble_eq_true rfl) ?_
  intro p e s m args below meth c hX hr ht
  unfold X5_isPatch at h
  refine J.sub (L' := [(0, .int l0)]) [0] rfl ?_
  refine J.iload_n hX 0 0 rfl rfl ?_
  refine J.if_lt (tgt := 14) hX 1 rfl (by decide) (fun b1 => ?_) (fun b1 => ?_)
  · rw [if_pos b1] at h
    refine J.iconst (v := 0) hX 7 rfl (by decide) ?_
    refine J.sub (L' := []) [] rfl ?_
    exact X5_isPatch_j15_ok hX  hr ht h
  · rw [if_neg b1] at h
    refine J.iload_n hX 2 0 rfl rfl ?_
    refine J.bipush (v := 24) hX 3 rfl (by decide) ?_
    refine J.icmp_ge (tgt := 14) hX 4 rfl (by decide) (fun b2 => ?_) (fun b2 => ?_)
    · rw [if_pos b2] at h
      refine J.iconst (v := 0) hX 7 rfl (by decide) ?_
      refine J.sub (L' := []) [] rfl ?_
      exact X5_isPatch_j15_ok hX  hr ht h
    · rw [if_neg b2] at h
      refine J.iconst (v := 1) hX 5 rfl (by decide) ?_
      refine J.goto (tgt := 15) hX 6 rfl (by decide) ?_
      refine J.sub (L' := []) [] rfl ?_
      exact X5_isPatch_j15_ok hX  hr ht h
def X5_isCloth_j15 (M : Mem) (v1 : Int32) : Option (Int32) := chk (isB v1) (some v1)
def X5_isCloth (M : Mem) (l0 : Int32) : Option (Int32) := if l0 < 0 then (X5_isCloth_j15 M 0) else (if 12 ≤ l0 then (X5_isCloth_j15 M 0) else (X5_isCloth_j15 M 1))
set_option maxHeartbeats 4000000 in
set_option maxRecDepth 100000 in
theorem X5_isCloth_j15_ok (hX : Cx p s m args meth c D cA ad n A sa cX5_isCloth 1 RX5 kX5_isCloth) {M : Mem} {v1 : Int32} {r : Int32}  (hr : meth.sig.returnType = (some .boolean)) (ht : ∀ x ∈ c.exceptionTable.toList, False) (h : X5_isCloth_j15 M v1 = some r) : JM 0 0 p l e s m args below meth c D cA ad n A 1 (.inl (some (.int r))) M M 15 [] [.int v1] := by
  unfold X5_isCloth_j15 at h
  obtain ⟨hz, h⟩ := chk_inv h
  cases h
  exact J.zret hX hr 8 (isB_nar hz) rfl
set_option maxHeartbeats 4000000 in
set_option maxRecDepth 100000 in
theorem mX5_isCloth {l : Launch} {D : va_G} {cA : Nat → ClassId} {ad : Nat → Nat} {n : Nat} {A : Nat → Prop} {sa : Nat → Nat} {M : Mem} {l0 : Int32} {r : Int32} (h : X5_isCloth M l0 = some r) : CT l D cA ad n A sa yX5_isCloth cX5_isCloth 1 (some .boolean) 0 0 [.int l0] M (.inl (some (.int r))) M := by
  refine CT.of (kt := kX5_isCloth) (by decide) kX5_isCloth_ok (Nat.le_of_ble_eq_true rfl) ?_
  intro p e s m args below meth c hX hr ht
  unfold X5_isCloth at h
  refine J.sub (L' := [(0, .int l0)]) [0] rfl ?_
  refine J.iload_n hX 0 0 rfl rfl ?_
  refine J.if_lt (tgt := 14) hX 1 rfl (by decide) (fun b1 => ?_) (fun b1 => ?_)
  · rw [if_pos b1] at h
    refine J.iconst (v := 0) hX 7 rfl (by decide) ?_
    refine J.sub (L' := []) [] rfl ?_
    exact X5_isCloth_j15_ok hX  hr ht h
  · rw [if_neg b1] at h
    refine J.iload_n hX 2 0 rfl rfl ?_
    refine J.bipush (v := 12) hX 3 rfl (by decide) ?_
    refine J.icmp_ge (tgt := 14) hX 4 rfl (by decide) (fun b2 => ?_) (fun b2 => ?_)
    · rw [if_pos b2] at h
      refine J.iconst (v := 0) hX 7 rfl (by decide) ?_
      refine J.sub (L' := []) [] rfl ?_
      exact X5_isCloth_j15_ok hX  hr ht h
    · rw [if_neg b2] at h
      refine J.iconst (v := 1) hX 5 rfl (by decide) ?_
      refine J.goto (tgt := 15) hX 6 rfl (by decide) ?_
      refine J.sub (L' := []) [] rfl ?_
      exact X5_isCloth_j15_ok hX  hr ht h
def X5_next_j23 (M : Mem) (v1 : Int32) (v2 : Int32) : Option (Int32) := some (v2 + v1)
def X5_next (M : Mem) (l1 : Int32) (l2 : Int32) : Option (Int32) := ld M 28 264 l1 (fun t1 => if (l2 + 1) = t1 then (X5_next_j23 M 0 (8 * l1)) else (X5_next_j23 M (l2 + 1) (8 * l1)))
set_option maxHeartbeats 4000000 in
set_option maxRecDepth 100000 in
theorem X5_next_j23_ok (hX : Cx p s m args meth c D cA ad n A sa cX5_next 3 RX5 kX5_next) {M : Mem} {v1 : Int32} {v2 : Int32} {r : Int32}  (hr : meth.sig.returnType = (some .int)) (ht : ∀ x ∈ c.exceptionTable.toList, False) (h : X5_next_j23 M v1 v2 = some r) : JM 0 0 p l e s m args below meth c D cA ad n A 3 (.inl (some (.int r))) M M 23 [] [.int v1, .int v2] := by
  unfold X5_next_j23 at h
  refine J.iadd hX 16 rfl ?_
  cases h
  exact J.iret hX hr 17 rfl
set_option maxHeartbeats 4000000 in
set_option maxRecDepth 100000 in
theorem mX5_next {l : Launch} {D : va_G} {cA : Nat → ClassId} {ad : Nat → Nat} {n : Nat} {A : Nat → Prop} {sa : Nat → Nat} {M : Mem} {l1 : Int32} {l2 : Int32} {r : Int32} (h : X5_next M l1 l2 = some r) : CT l D cA ad n A sa yX5_next cX5_next 3 (some .int) 0 0 [.ref (ad 27), .int l1, .int l2] M (.inl (some (.int r))) M := by
  refine CT.of (kt := kX5_next) (by decide) kX5_next_ok (Nat.le_of_ble_eq_true rfl) ?_
  intro p e s m args below meth c hX hr ht
  unfold X5_next at h
  refine J.sub (L' := [(0, .ref (ad 27)), (1, .int l1), (2, .int l2)]) [0, 1, 2] rfl ?_
  refine J.bipush (v := 8) hX 0 rfl (by decide) ?_
  refine J.iload_n hX 1 1 rfl rfl ?_
  refine J.imul hX 2 rfl ?_
  refine J.iload_n hX 3 2 rfl rfl ?_
  refine J.iconst (v := 1) hX 4 rfl (by decide) ?_
  refine J.iadd hX 5 rfl ?_
  refine J.aload_n hX 6 0 rfl rfl ?_
  refine J.getR hX 7 27 5 (hX.lt (k := 27) (by decide)) sh_27 rfl in_wsX50 2 (by decide) w_75 rfl rfl ?_
  refine J.iload_n hX 8 1 rfl rfl ?_
  obtain ⟨t1, et1, hb, h⟩ := ld_inv h
  refine J.ialdN hX 9 28 (hX.lt (k := 28) (by decide)) sh_28 hb et1 rfl ?_
  refine J.icmp_ne (tgt := 20) hX 10 rfl (by decide) (fun b1 => ?_) (fun b1 => ?_)
  · rw [if_neg b1] at h
    refine J.iload_n hX 13 2 rfl rfl ?_
    refine J.iconst (v := 1) hX 14 rfl (by decide) ?_
    refine J.iadd hX 15 rfl ?_
    refine J.sub (L' := []) [] rfl ?_
    exact X5_next_j23_ok hX  hr ht h
  · rw [if_pos b1] at h
    refine J.iconst (v := 0) hX 11 rfl (by decide) ?_
    refine J.goto (tgt := 23) hX 12 rfl (by decide) ?_
    refine J.sub (L' := []) [] rfl ?_
    exact X5_next_j23_ok hX  hr ht h
def X5_side (M : Mem) (l1 : Int32) (l2 : Int32) (l3 : Int32) (l4 : Int32) : Option (Int32) := bnd (((8 * l1) + l2)) (fun t1 => bd1 (X5_next M l1 l2) (fun t2 => ld M 30 2112 t2 (fun t3 => ld M 30 2112 t1 (fun t4 => ld M 31 2112 t1 (fun t5 => ld M 31 2112 t2 (fun t6 => ld M 31 2112 t1 (fun t7 => ld M 30 2112 t1 (fun t8 => some (((t3 - t4) * (l4 - t5)) - ((t6 - t7) * (l3 - t8)))))))))))
set_option maxHeartbeats 4000000 in
set_option maxRecDepth 100000 in
theorem mX5_side {l : Launch} {D : va_G} {cA : Nat → ClassId} {ad : Nat → Nat} {n : Nat} {A : Nat → Prop} {sa : Nat → Nat} {M : Mem} {l1 : Int32} {l2 : Int32} {l3 : Int32} {l4 : Int32} {r : Int32} (h : X5_side M l1 l2 l3 l4 = some r) : CT l D cA ad n A sa yX5_side cX5_side 7 (some .int) 1 22 [.ref (ad 27), .int l1, .int l2, .int l3, .int l4] M (.inl (some (.int r))) M := by
  refine CT.of (kt := kX5_side) (by decide) kX5_side_ok (Nat.le_of_ble_eq_true rfl) ?_
  intro p e s m args below meth c hX hr ht
  unfold X5_side at h
  refine J.sub (L' := [(0, .ref (ad 27)), (1, .int l1), (2, .int l2), (3, .int l3), (4, .int l4)]) [0, 1, 2, 3, 4] rfl ?_
  refine J.bipush (v := 8) hX 0 rfl (by decide) ?_
  refine J.iload_n hX 1 1 rfl rfl ?_
  refine J.imul hX 2 rfl ?_
  refine J.iload_n hX 3 2 rfl rfl ?_
  refine J.iadd hX 4 rfl ?_
  obtain ⟨t1, et1, h⟩ := bnd_inv h
  refine J.nm et1 ?_
  refine J.istore (L' := [(5, .int t1), (0, .ref (ad 27)), (1, .int l1), (2, .int l2), (3, .int l3), (4, .int l4)]) hX 5 rfl (by decide) rfl ?_
  refine J.aload_n hX 6 1 rfl rfl ?_
  refine J.iload_n hX 7 2 rfl rfl ?_
  refine J.iload_n hX 8 3 rfl rfl ?_
  obtain ⟨t2, hc, h⟩ := bd1_inv h
  refine J.callV1 (As := [.int l1, .int l2]) (rest := []) (k := 27) hX 9 rfl (mX5_next  hc) okX5_next w_184 (hX.lt (k := 27) (by decide)) sh_27 rfl rfl rfl (Nat.le_of_ble_eq_true rfl) ⟨Nat.le_of_ble_eq_true rfl, Nat.le_of_ble_eq_true rfl⟩ ⟨Nat.zero_le _, Nat.zero_le _⟩ ?_
  refine J.istore (L' := [(6, .int t2), (5, .int t1), (0, .ref (ad 27)), (1, .int l1), (2, .int l2), (3, .int l3), (4, .int l4)]) hX 10 rfl (by decide) rfl ?_
  refine J.aload_n hX 11 2 rfl rfl ?_
  refine J.getR hX 12 27 5 (hX.lt (k := 27) (by decide)) sh_27 rfl in_wsX50 4 (by decide) w_77 rfl rfl ?_
  refine J.iload hX 13 0 rfl rfl ?_
  obtain ⟨t3, et3, hb, h⟩ := ld_inv h
  refine J.ialdN hX 14 30 (hX.lt (k := 30) (by decide)) sh_30 hb et3 rfl ?_
  refine J.aload_n hX 15 2 rfl rfl ?_
  refine J.getR hX 16 27 5 (hX.lt (k := 27) (by decide)) sh_27 rfl in_wsX50 4 (by decide) w_77 rfl rfl ?_
  refine J.iload hX 17 1 rfl rfl ?_
  obtain ⟨t4, et4, hb, h⟩ := ld_inv h
  refine J.ialdN hX 18 30 (hX.lt (k := 30) (by decide)) sh_30 hb et4 rfl ?_
  refine J.isub hX 19 rfl ?_
  refine J.iload hX 20 6 rfl rfl ?_
  refine J.aload_n hX 21 2 rfl rfl ?_
  refine J.getR hX 22 27 5 (hX.lt (k := 27) (by decide)) sh_27 rfl in_wsX50 5 (by decide) w_78 rfl rfl ?_
  refine J.iload hX 23 1 rfl rfl ?_
  obtain ⟨t5, et5, hb, h⟩ := ld_inv h
  refine J.ialdN hX 24 31 (hX.lt (k := 31) (by decide)) sh_31 hb et5 rfl ?_
  refine J.isub hX 25 rfl ?_
  refine J.imul hX 26 rfl ?_
  refine J.aload_n hX 27 2 rfl rfl ?_
  refine J.getR hX 28 27 5 (hX.lt (k := 27) (by decide)) sh_27 rfl in_wsX50 5 (by decide) w_78 rfl rfl ?_
  refine J.iload hX 29 0 rfl rfl ?_
  obtain ⟨t6, et6, hb, h⟩ := ld_inv h
  refine J.ialdN hX 30 31 (hX.lt (k := 31) (by decide)) sh_31 hb et6 rfl ?_
  refine J.aload_n hX 31 2 rfl rfl ?_
  refine J.getR hX 32 27 5 (hX.lt (k := 27) (by decide)) sh_27 rfl in_wsX50 5 (by decide) w_78 rfl rfl ?_
  refine J.iload hX 33 1 rfl rfl ?_
  obtain ⟨t7, et7, hb, h⟩ := ld_inv h
  refine J.ialdN hX 34 31 (hX.lt (k := 31) (by decide)) sh_31 hb et7 rfl ?_
  refine J.isub hX 35 rfl ?_
  refine J.iload_n hX 36 5 rfl rfl ?_
  refine J.aload_n hX 37 2 rfl rfl ?_
  refine J.getR hX 38 27 5 (hX.lt (k := 27) (by decide)) sh_27 rfl in_wsX50 4 (by decide) w_77 rfl rfl ?_
  refine J.iload hX 39 1 rfl rfl ?_
  obtain ⟨t8, et8, hb, h⟩ := ld_inv h
  refine J.ialdN hX 40 30 (hX.lt (k := 30) (by decide)) sh_30 hb et8 rfl ?_
  refine J.isub hX 41 rfl ?_
  refine J.imul hX 42 rfl ?_
  refine J.isub hX 43 rfl ?_
  cases h
  exact J.iret hX hr 44 rfl
def X5_areaOf_L4 (M : Mem) (l1 : Int32) (q9 : Int32 × Int32) : Option ((Int32 × Int32) ⊕ (Int32)) := un2 q9 (fun c1 c2 => ld M 28 264 l1 (fun t1 => if t1 ≤ c2 then (some (.inr c1)) else (bnd (((8 * l1) + c2)) (fun t2 => bd1 (X5_next M l1 c2) (fun t3 => ld M 30 2112 t2 (fun t4 => ld M 31 2112 t3 (fun t5 => ld M 30 2112 t3 (fun t6 => ld M 31 2112 t2 (fun t7 => bnd (((c1 + (t4 * t5)) - (t6 * t7))) (fun t8 => bnd (c2 + 1) (fun t9 => some (.inl (t8, t9)))))))))))))
def X5_areaOf (M : Mem) (l1 : Int32) : Option (Int32) := bd1 (loop (X5_areaOf_L4 M l1) 3000 (0, 0)) (fun x1 => some x1)
set_option maxHeartbeats 4000000 in
set_option maxRecDepth 100000 in
theorem X5_areaOf_L4_ok (hX : Cx p s m args meth c D cA ad n A sa cX5_areaOf 6 RX5 kX5_areaOf) {M : Mem} {l1 : Int32} {c1 : Int32} {c2 : Int32}  {r : (Int32 × Int32) ⊕ (Int32)} (h : X5_areaOf_L4 M l1 (c1, c2) = some r) (hin : ∀ (q0 : Int32) (q1 : Int32), r = .inl (q0, q1) → JM 1 22 p l e s m args below meth c D cA ad n A 6 out M1 M 4 [(0, .ref (ad 27)), (1, .int l1), (2, .int q0), (3, .int q1)] []) (hex0 : ∀ (q0 : Int32), r = .inr q0 → JM 1 22 p l e s m args below meth c D cA ad n A 6 out M1 M 70 [(2, .int q0)] []) : JM 1 22 p l e s m args below meth c D cA ad n A 6 out M1 M 4 [(0, .ref (ad 27)), (1, .int l1), (2, .int c1), (3, .int c2)] [] := by
  unfold X5_areaOf_L4 at h
  have h := un2_inv h
  refine J.iload_n hX 4 3 rfl rfl ?_
  refine J.aload_n hX 5 0 rfl rfl ?_
  refine J.getR hX 6 27 5 (hX.lt (k := 27) (by decide)) sh_27 rfl in_wsX50 2 (by decide) w_75 rfl rfl ?_
  refine J.iload_n hX 7 1 rfl rfl ?_
  obtain ⟨t1, et1, hb, h⟩ := ld_inv h
  refine J.ialdN hX 8 28 (hX.lt (k := 28) (by decide)) sh_28 hb et1 rfl ?_
  refine J.icmp_ge (tgt := 70) hX 9 rfl (by decide) (fun b1 => ?_) (fun b1 => ?_)
  · rw [if_pos b1] at h
    refine J.sub (L' := [(2, .int c1)]) [2] rfl ?_
    exact hex0 _ (Option.some.inj h).symm
  · rw [if_neg b1] at h
    refine J.bipush (v := 8) hX 10 rfl (by decide) ?_
    refine J.iload_n hX 11 1 rfl rfl ?_
    refine J.imul hX 12 rfl ?_
    refine J.iload_n hX 13 3 rfl rfl ?_
    refine J.iadd hX 14 rfl ?_
    obtain ⟨t2, et2, h⟩ := bnd_inv h
    refine J.nm et2 ?_
    refine J.istore (L' := [(4, .int t2), (0, .ref (ad 27)), (1, .int l1), (2, .int c1), (3, .int c2)]) hX 15 rfl (by decide) rfl ?_
    refine J.aload_n hX 16 1 rfl rfl ?_
    refine J.iload_n hX 17 2 rfl rfl ?_
    refine J.iload_n hX 18 4 rfl rfl ?_
    obtain ⟨t3, hc, h⟩ := bd1_inv h
    refine J.callV1 (As := [.int l1, .int c2]) (rest := []) (k := 27) hX 19 rfl (mX5_next  hc) okX5_next w_184 (hX.lt (k := 27) (by decide)) sh_27 rfl rfl rfl (Nat.le_of_ble_eq_true rfl) ⟨Nat.le_of_ble_eq_true rfl, Nat.le_of_ble_eq_true rfl⟩ ⟨Nat.zero_le _, Nat.zero_le _⟩ ?_
    refine J.istore (L' := [(5, .int t3), (4, .int t2), (0, .ref (ad 27)), (1, .int l1), (2, .int c1), (3, .int c2)]) hX 20 rfl (by decide) rfl ?_
    refine J.iload_n hX 21 4 rfl rfl ?_
    refine J.aload_n hX 22 2 rfl rfl ?_
    refine J.getR hX 23 27 5 (hX.lt (k := 27) (by decide)) sh_27 rfl in_wsX50 4 (by decide) w_77 rfl rfl ?_
    refine J.iload hX 24 1 rfl rfl ?_
    obtain ⟨t4, et4, hb, h⟩ := ld_inv h
    refine J.ialdN hX 25 30 (hX.lt (k := 30) (by decide)) sh_30 hb et4 rfl ?_
    refine J.aload_n hX 26 2 rfl rfl ?_
    refine J.getR hX 27 27 5 (hX.lt (k := 27) (by decide)) sh_27 rfl in_wsX50 5 (by decide) w_78 rfl rfl ?_
    refine J.iload hX 28 0 rfl rfl ?_
    obtain ⟨t5, et5, hb, h⟩ := ld_inv h
    refine J.ialdN hX 29 31 (hX.lt (k := 31) (by decide)) sh_31 hb et5 rfl ?_
    refine J.imul hX 30 rfl ?_
    refine J.iadd hX 31 rfl ?_
    refine J.aload_n hX 32 2 rfl rfl ?_
    refine J.getR hX 33 27 5 (hX.lt (k := 27) (by decide)) sh_27 rfl in_wsX50 4 (by decide) w_77 rfl rfl ?_
    refine J.iload hX 34 0 rfl rfl ?_
    obtain ⟨t6, et6, hb, h⟩ := ld_inv h
    refine J.ialdN hX 35 30 (hX.lt (k := 30) (by decide)) sh_30 hb et6 rfl ?_
    refine J.aload_n hX 36 2 rfl rfl ?_
    refine J.getR hX 37 27 5 (hX.lt (k := 27) (by decide)) sh_27 rfl in_wsX50 5 (by decide) w_78 rfl rfl ?_
    refine J.iload hX 38 1 rfl rfl ?_
    obtain ⟨t7, et7, hb, h⟩ := ld_inv h
    refine J.ialdN hX 39 31 (hX.lt (k := 31) (by decide)) sh_31 hb et7 rfl ?_
    refine J.imul hX 40 rfl ?_
    refine J.isub hX 41 rfl ?_
    obtain ⟨t8, et8, h⟩ := bnd_inv h
    refine J.nm et8 ?_
    refine J.istore_n (L' := [(2, .int t8), (5, .int t3), (4, .int t2), (0, .ref (ad 27)), (1, .int l1), (3, .int c2)]) hX 42 rfl (by decide) rfl ?_
    obtain ⟨t9, et9, h⟩ := bnd_inv h
    refine J.iinc (q := 5) (L' := [(3, .int t9), (2, .int t8), (5, .int t3), (4, .int t2), (0, .ref (ad 27)), (1, .int l1)]) hX 43 rfl rfl et9 (by decide) rfl ?_
    refine J.goto (tgt := 4) hX 44 rfl (by decide) ?_
    refine J.sub (L' := [(0, .ref (ad 27)), (1, .int l1), (2, .int t8), (3, .int t9)]) [4, 5, 1, 0] rfl ?_
    exact hin _ _ (Option.some.inj h).symm
set_option maxHeartbeats 4000000 in
set_option maxRecDepth 100000 in
theorem mX5_areaOf {l : Launch} {D : va_G} {cA : Nat → ClassId} {ad : Nat → Nat} {n : Nat} {A : Nat → Prop} {sa : Nat → Nat} {M : Mem} {l1 : Int32} {r : Int32} (h : X5_areaOf M l1 = some r) : CT l D cA ad n A sa yX5_areaOf cX5_areaOf 6 (some .int) 1 22 [.ref (ad 27), .int l1] M (.inl (some (.int r))) M := by
  refine CT.of (kt := kX5_areaOf) (by decide) kX5_areaOf_ok (Nat.le_of_ble_eq_true rfl) ?_
  intro p e s m args below meth c hX hr ht
  unfold X5_areaOf at h
  refine J.sub (L' := [(0, .ref (ad 27)), (1, .int l1)]) [0, 1] rfl ?_
  refine J.iconst (v := 0) hX 0 rfl (by decide) ?_
  refine J.istore_n (L' := [(2, .int 0), (0, .ref (ad 27)), (1, .int l1)]) hX 1 rfl (by decide) rfl ?_
  refine J.iconst (v := 0) hX 2 rfl (by decide) ?_
  refine J.istore_n (L' := [(3, .int 0), (2, .int 0), (0, .ref (ad 27)), (1, .int l1)]) hX 3 rfl (by decide) rfl ?_
  refine J.sub (L' := [(0, .ref (ad 27)), (1, .int l1), (2, .int 0), (3, .int 0)]) [2, 3, 1, 0] rfl ?_
  obtain ⟨x1, hlp, h⟩ := bd1_inv h
  suffices hE : JM 1 22 p l e s m args below meth c D cA ad n A 6 (.inl (some (.int r))) M M 70 [(2, .int x1)] [] by
    exact loop_ok (fun q9 : Int32 × Int32 => JM 1 22 p l e s m args below meth c D cA ad n A 6 (.inl (some (.int r))) M M 4 [(0, .ref (ad 27)), (1, .int l1), (2, .int q9.1), (3, .int q9.2)] []) (fun q9 r hB hst hex9 => X5_areaOf_L4_ok hX  hB (fun _ _ hr => hst _ hr) (fun _ hr => by cases hex9 _ hr; exact hE)) 3000 _ hlp
  refine J.iload_n hX 45 0 rfl rfl ?_
  cases h
  exact J.iret hX hr 46 rfl
def X5_isConvex_L17_j86 (M : Mem) (l1 : Int32) (c2 : Int32) (v2 : Int32) (v3 : Int32) : Option ((Int32 × Int32) ⊕ (Int32)) := bnd (v2 + 1) (fun t4 => some (.inl (v3, t4)))
def X5_isConvex_L17_j85 (M : Mem) (l1 : Int32) (c2 : Int32) (v1 : Int32) : Option ((Int32 × Int32) ⊕ (Int32)) := X5_isConvex_L17_j86 M l1 c2 v1 0
def X5_isConvex_L17_j81 (M : Mem) (l1 : Int32) (c2 : Int32) (v4 : Int32) : Option ((Int32 × Int32) ⊕ (Int32)) := X5_isConvex_L17_j86 M l1 c2 v4 1
def X5_isConvex_L17 (M : Mem) (l1 : Int32) (c2 : Int32) (q9 : Int32 × Int32) : Option ((Int32 × Int32) ⊕ (Int32)) := un2 q9 (fun c3 c4 => ld M 28 264 l1 (fun t2 => if t2 ≤ c4 then (some (.inr c3)) else (bnd (((8 * l1) + c4)) (fun t3 => if c3 = 0 then (X5_isConvex_L17_j85 M l1 c2 c4) else (if c4 = c2 then (X5_isConvex_L17_j81 M l1 c2 c4) else (bd1 (X5_next M l1 c2) (fun t5 => if t3 = t5 then (X5_isConvex_L17_j81 M l1 c2 c4) else (ld M 30 2112 t3 (fun t6 => ld M 31 2112 t3 (fun t7 => bd1 (X5_side M l1 c2 t6 t7) (fun t8 => if t8 ≤ 0 then (X5_isConvex_L17_j85 M l1 c2 c4) else (X5_isConvex_L17_j81 M l1 c2 c4))))))))))))
def X5_isConvex_L4 (M : Mem) (l1 : Int32) (q9 : Int32 × Int32) : Option ((Int32 × Int32) ⊕ (Int32)) := un2 q9 (fun c1 c2 => ld M 28 264 l1 (fun t1 => if t1 ≤ c2 then (some (.inr c1)) else (bd1 (loop (X5_isConvex_L17 M l1 c2) 3000 (c1, 0)) (fun x1 => bnd (c2 + 1) (fun t9 => some (.inl (x1, t9)))))))
def X5_isConvex (M : Mem) (l1 : Int32) : Option (Int32) := bd1 (loop (X5_isConvex_L4 M l1) 3000 (1, 0)) (fun x2 => chk (isB x2) (some x2))
set_option maxHeartbeats 4000000 in
set_option maxRecDepth 100000 in
theorem X5_isConvex_L17_j86_ok (hX : Cx p s m args meth c D cA ad n A sa cX5_isConvex 6 RX5 kX5_isConvex) {M : Mem} {l1 : Int32} {c2 : Int32} {v2 : Int32} {v3 : Int32}  {r : (Int32 × Int32) ⊕ (Int32)} (h : X5_isConvex_L17_j86 M l1 c2 v2 v3 = some r) (hin : ∀ (q0 : Int32) (q1 : Int32), r = .inl (q0, q1) → JM 2 48 p l e s m args below meth c D cA ad n A 6 out M1 M 17 [(0, .ref (ad 27)), (1, .int l1), (2, .int q0), (3, .int c2), (4, .int q1)] []) (hex0 : ∀ (q0 : Int32), r = .inr q0 → JM 2 48 p l e s m args below meth c D cA ad n A 6 out M1 M 93 [(0, .ref (ad 27)), (1, .int l1), (2, .int q0), (3, .int c2)] []) : JM 2 48 p l e s m args below meth c D cA ad n A 6 out M1 M 86 [(0, .ref (ad 27)), (1, .int l1), (3, .int c2), (4, .int v2)] [.int v3] := by
  unfold X5_isConvex_L17_j86 at h
  refine J.istore_n (L' := [(2, .int v3), (0, .ref (ad 27)), (1, .int l1), (3, .int c2), (4, .int v2)]) hX 51 rfl (by decide) rfl ?_
  obtain ⟨t4, et4, h⟩ := bnd_inv h
  refine J.iinc (q := 4) (L' := [(4, .int t4), (2, .int v3), (0, .ref (ad 27)), (1, .int l1), (3, .int c2)]) hX 52 rfl rfl et4 (by decide) rfl ?_
  refine J.goto (tgt := 17) hX 53 rfl (by decide) ?_
  refine J.sub (L' := [(0, .ref (ad 27)), (1, .int l1), (2, .int v3), (3, .int c2), (4, .int t4)]) [2, 3, 1, 4, 0] rfl ?_
  exact hin _ _ (Option.some.inj h).symm
set_option maxHeartbeats 4000000 in
set_option maxRecDepth 100000 in
theorem X5_isConvex_L17_j85_ok (hX : Cx p s m args meth c D cA ad n A sa cX5_isConvex 6 RX5 kX5_isConvex) {M : Mem} {l1 : Int32} {c2 : Int32} {v1 : Int32}  {r : (Int32 × Int32) ⊕ (Int32)} (h : X5_isConvex_L17_j85 M l1 c2 v1 = some r) (hin : ∀ (q0 : Int32) (q1 : Int32), r = .inl (q0, q1) → JM 2 48 p l e s m args below meth c D cA ad n A 6 out M1 M 17 [(0, .ref (ad 27)), (1, .int l1), (2, .int q0), (3, .int c2), (4, .int q1)] []) (hex0 : ∀ (q0 : Int32), r = .inr q0 → JM 2 48 p l e s m args below meth c D cA ad n A 6 out M1 M 93 [(0, .ref (ad 27)), (1, .int l1), (2, .int q0), (3, .int c2)] []) : JM 2 48 p l e s m args below meth c D cA ad n A 6 out M1 M 85 [(0, .ref (ad 27)), (1, .int l1), (3, .int c2), (4, .int v1)] [] := by
  unfold X5_isConvex_L17_j85 at h
  refine J.iconst (v := 0) hX 50 rfl (by decide) ?_
  refine J.sub (L' := [(0, .ref (ad 27)), (1, .int l1), (3, .int c2), (4, .int v1)]) [0, 1, 2, 3] rfl ?_
  exact X5_isConvex_L17_j86_ok hX  h hin hex0
set_option maxHeartbeats 4000000 in
set_option maxRecDepth 100000 in
theorem X5_isConvex_L17_j81_ok (hX : Cx p s m args meth c D cA ad n A sa cX5_isConvex 6 RX5 kX5_isConvex) {M : Mem} {l1 : Int32} {c2 : Int32} {v4 : Int32}  {r : (Int32 × Int32) ⊕ (Int32)} (h : X5_isConvex_L17_j81 M l1 c2 v4 = some r) (hin : ∀ (q0 : Int32) (q1 : Int32), r = .inl (q0, q1) → JM 2 48 p l e s m args below meth c D cA ad n A 6 out M1 M 17 [(0, .ref (ad 27)), (1, .int l1), (2, .int q0), (3, .int c2), (4, .int q1)] []) (hex0 : ∀ (q0 : Int32), r = .inr q0 → JM 2 48 p l e s m args below meth c D cA ad n A 6 out M1 M 93 [(0, .ref (ad 27)), (1, .int l1), (2, .int q0), (3, .int c2)] []) : JM 2 48 p l e s m args below meth c D cA ad n A 6 out M1 M 81 [(0, .ref (ad 27)), (1, .int l1), (3, .int c2), (4, .int v4)] [] := by
  unfold X5_isConvex_L17_j81 at h
  refine J.iconst (v := 1) hX 48 rfl (by decide) ?_
  refine J.goto (tgt := 86) hX 49 rfl (by decide) ?_
  refine J.sub (L' := [(0, .ref (ad 27)), (1, .int l1), (3, .int c2), (4, .int v4)]) [0, 1, 2, 3] rfl ?_
  exact X5_isConvex_L17_j86_ok hX  h hin hex0
set_option maxHeartbeats 4000000 in
set_option maxRecDepth 100000 in
theorem X5_isConvex_L17_ok (hX : Cx p s m args meth c D cA ad n A sa cX5_isConvex 6 RX5 kX5_isConvex) {M : Mem} {l1 : Int32} {c2 : Int32} {c3 : Int32} {c4 : Int32}  {r : (Int32 × Int32) ⊕ (Int32)} (h : X5_isConvex_L17 M l1 c2 (c3, c4) = some r) (hin : ∀ (q0 : Int32) (q1 : Int32), r = .inl (q0, q1) → JM 2 48 p l e s m args below meth c D cA ad n A 6 out M1 M 17 [(0, .ref (ad 27)), (1, .int l1), (2, .int q0), (3, .int c2), (4, .int q1)] []) (hex0 : ∀ (q0 : Int32), r = .inr q0 → JM 2 48 p l e s m args below meth c D cA ad n A 6 out M1 M 93 [(0, .ref (ad 27)), (1, .int l1), (2, .int q0), (3, .int c2)] []) : JM 2 48 p l e s m args below meth c D cA ad n A 6 out M1 M 17 [(0, .ref (ad 27)), (1, .int l1), (2, .int c3), (3, .int c2), (4, .int c4)] [] := by
  unfold X5_isConvex_L17 at h
  have h := un2_inv h
  refine J.iload hX 12 4 rfl rfl ?_
  refine J.aload_n hX 13 0 rfl rfl ?_
  refine J.getR hX 14 27 5 (hX.lt (k := 27) (by decide)) sh_27 rfl in_wsX50 2 (by decide) w_75 rfl rfl ?_
  refine J.iload_n hX 15 1 rfl rfl ?_
  obtain ⟨t2, et2, hb, h⟩ := ld_inv h
  refine J.ialdN hX 16 28 (hX.lt (k := 28) (by decide)) sh_28 hb et2 rfl ?_
  refine J.icmp_ge (tgt := 93) hX 17 rfl (by decide) (fun b2 => ?_) (fun b2 => ?_)
  · rw [if_pos b2] at h
    refine J.sub (L' := [(0, .ref (ad 27)), (1, .int l1), (2, .int c3), (3, .int c2)]) [0, 1, 2, 3] rfl ?_
    exact hex0 _ (Option.some.inj h).symm
  · rw [if_neg b2] at h
    refine J.bipush (v := 8) hX 18 rfl (by decide) ?_
    refine J.iload_n hX 19 1 rfl rfl ?_
    refine J.imul hX 20 rfl ?_
    refine J.iload hX 21 4 rfl rfl ?_
    refine J.iadd hX 22 rfl ?_
    obtain ⟨t3, et3, h⟩ := bnd_inv h
    refine J.nm et3 ?_
    refine J.istore (L' := [(5, .int t3), (0, .ref (ad 27)), (1, .int l1), (2, .int c3), (3, .int c2), (4, .int c4)]) hX 23 rfl (by decide) rfl ?_
    refine J.iload_n hX 24 3 rfl rfl ?_
    refine J.if_eq (tgt := 85) hX 25 rfl (by decide) (fun b3 => ?_) (fun b3 => ?_)
    · rw [if_pos b3] at h
      refine J.sub (L' := [(0, .ref (ad 27)), (1, .int l1), (3, .int c2), (4, .int c4)]) [1, 2, 4, 5] rfl ?_
      exact X5_isConvex_L17_j85_ok hX  h hin hex0
    · rw [if_neg b3] at h
      refine J.iload hX 26 5 rfl rfl ?_
      refine J.iload_n hX 27 4 rfl rfl ?_
      refine J.icmp_eq (tgt := 81) hX 28 rfl (by decide) (fun b4 => ?_) (fun b4 => ?_)
      · rw [if_pos b4] at h
        refine J.sub (L' := [(0, .ref (ad 27)), (1, .int l1), (3, .int c2), (4, .int c4)]) [1, 2, 4, 5] rfl ?_
        exact X5_isConvex_L17_j81_ok hX  h hin hex0
      · rw [if_neg b4] at h
        refine J.iload hX 29 0 rfl rfl ?_
        refine J.aload_n hX 30 1 rfl rfl ?_
        refine J.iload_n hX 31 2 rfl rfl ?_
        refine J.iload_n hX 32 4 rfl rfl ?_
        obtain ⟨t5, hc, h⟩ := bd1_inv h
        refine J.callV1 (As := [.int l1, .int c2]) (rest := [.int t3]) (k := 27) hX 33 rfl (mX5_next  hc) okX5_next w_184 (hX.lt (k := 27) (by decide)) sh_27 rfl rfl rfl (Nat.le_of_ble_eq_true rfl) ⟨Nat.le_of_ble_eq_true rfl, Nat.le_of_ble_eq_true rfl⟩ ⟨Nat.zero_le _, Nat.zero_le _⟩ ?_
        refine J.icmp_eq (tgt := 81) hX 34 rfl (by decide) (fun b5 => ?_) (fun b5 => ?_)
        · rw [if_pos b5] at h
          refine J.sub (L' := [(0, .ref (ad 27)), (1, .int l1), (3, .int c2), (4, .int c4)]) [1, 2, 4, 5] rfl ?_
          exact X5_isConvex_L17_j81_ok hX  h hin hex0
        · rw [if_neg b5] at h
          refine J.aload_n hX 35 1 rfl rfl ?_
          refine J.iload_n hX 36 2 rfl rfl ?_
          refine J.iload_n hX 37 4 rfl rfl ?_
          refine J.aload_n hX 38 1 rfl rfl ?_
          refine J.getR hX 39 27 5 (hX.lt (k := 27) (by decide)) sh_27 rfl in_wsX50 4 (by decide) w_77 rfl rfl ?_
          refine J.iload hX 40 0 rfl rfl ?_
          obtain ⟨t6, et6, hb, h⟩ := ld_inv h
          refine J.ialdN hX 41 30 (hX.lt (k := 30) (by decide)) sh_30 hb et6 rfl ?_
          refine J.aload_n hX 42 1 rfl rfl ?_
          refine J.getR hX 43 27 5 (hX.lt (k := 27) (by decide)) sh_27 rfl in_wsX50 5 (by decide) w_78 rfl rfl ?_
          refine J.iload hX 44 0 rfl rfl ?_
          obtain ⟨t7, et7, hb, h⟩ := ld_inv h
          refine J.ialdN hX 45 31 (hX.lt (k := 31) (by decide)) sh_31 hb et7 rfl ?_
          obtain ⟨t8, hc, h⟩ := bd1_inv h
          refine J.callV1 (As := [.int l1, .int c2, .int t6, .int t7]) (rest := []) (k := 27) hX 46 rfl (mX5_side  hc) okX5_side w_188 (hX.lt (k := 27) (by decide)) sh_27 rfl rfl rfl (Nat.le_of_ble_eq_true rfl) ⟨Nat.le_of_ble_eq_true rfl, Nat.le_of_ble_eq_true rfl⟩ ⟨Nat.zero_le _, Nat.zero_le _⟩ ?_
          refine J.if_le (tgt := 85) hX 47 rfl (by decide) (fun b6 => ?_) (fun b6 => ?_)
          · rw [if_pos b6] at h
            refine J.sub (L' := [(0, .ref (ad 27)), (1, .int l1), (3, .int c2), (4, .int c4)]) [1, 2, 4, 5] rfl ?_
            exact X5_isConvex_L17_j85_ok hX  h hin hex0
          · rw [if_neg b6] at h
            refine J.sub (L' := [(0, .ref (ad 27)), (1, .int l1), (3, .int c2), (4, .int c4)]) [1, 2, 4, 5] rfl ?_
            exact X5_isConvex_L17_j81_ok hX  h hin hex0
set_option maxHeartbeats 4000000 in
set_option maxRecDepth 100000 in
theorem X5_isConvex_L4_ok (hX : Cx p s m args meth c D cA ad n A sa cX5_isConvex 6 RX5 kX5_isConvex) {M : Mem} {l1 : Int32} {c1 : Int32} {c2 : Int32}  {r : (Int32 × Int32) ⊕ (Int32)} (h : X5_isConvex_L4 M l1 (c1, c2) = some r) (hin : ∀ (q0 : Int32) (q1 : Int32), r = .inl (q0, q1) → JM 2 48 p l e s m args below meth c D cA ad n A 6 out M1 M 4 [(0, .ref (ad 27)), (1, .int l1), (2, .int q0), (3, .int q1)] []) (hex0 : ∀ (q0 : Int32), r = .inr q0 → JM 2 48 p l e s m args below meth c D cA ad n A 6 out M1 M 99 [(2, .int q0)] []) : JM 2 48 p l e s m args below meth c D cA ad n A 6 out M1 M 4 [(0, .ref (ad 27)), (1, .int l1), (2, .int c1), (3, .int c2)] [] := by
  unfold X5_isConvex_L4 at h
  have h := un2_inv h
  refine J.iload_n hX 4 3 rfl rfl ?_
  refine J.aload_n hX 5 0 rfl rfl ?_
  refine J.getR hX 6 27 5 (hX.lt (k := 27) (by decide)) sh_27 rfl in_wsX50 2 (by decide) w_75 rfl rfl ?_
  refine J.iload_n hX 7 1 rfl rfl ?_
  obtain ⟨t1, et1, hb, h⟩ := ld_inv h
  refine J.ialdN hX 8 28 (hX.lt (k := 28) (by decide)) sh_28 hb et1 rfl ?_
  refine J.icmp_ge (tgt := 99) hX 9 rfl (by decide) (fun b1 => ?_) (fun b1 => ?_)
  · rw [if_pos b1] at h
    refine J.sub (L' := [(2, .int c1)]) [2] rfl ?_
    exact hex0 _ (Option.some.inj h).symm
  · rw [if_neg b1] at h
    refine J.iconst (v := 0) hX 10 rfl (by decide) ?_
    refine J.istore (L' := [(4, .int 0), (0, .ref (ad 27)), (1, .int l1), (2, .int c1), (3, .int c2)]) hX 11 rfl (by decide) rfl ?_
    refine J.sub (L' := [(0, .ref (ad 27)), (1, .int l1), (2, .int c1), (3, .int c2), (4, .int 0)]) [1, 2, 3, 4, 0] rfl ?_
    obtain ⟨x1, hlp, h⟩ := bd1_inv h
    suffices hE : JM 2 48 p l e s m args below meth c D cA ad n A 6 out M1 M 93 [(0, .ref (ad 27)), (1, .int l1), (2, .int x1), (3, .int c2)] [] by
      exact loop_ok (fun q9 : Int32 × Int32 => JM 2 48 p l e s m args below meth c D cA ad n A 6 out M1 M 17 [(0, .ref (ad 27)), (1, .int l1), (2, .int q9.1), (3, .int c2), (4, .int q9.2)] []) (fun q9 r hB hst hex9 => X5_isConvex_L17_ok hX  hB (fun _ _ hr => hst _ hr) (fun _ hr => by cases hex9 _ hr; exact hE)) 3000 _ hlp
    obtain ⟨t9, et9, h⟩ := bnd_inv h
    refine J.iinc (q := 3) (L' := [(3, .int t9), (0, .ref (ad 27)), (1, .int l1), (2, .int x1)]) hX 54 rfl rfl et9 (by decide) rfl ?_
    refine J.goto (tgt := 4) hX 55 rfl (by decide) ?_
    refine J.sub (L' := [(0, .ref (ad 27)), (1, .int l1), (2, .int x1), (3, .int t9)]) [1, 2, 3, 0] rfl ?_
    exact hin _ _ (Option.some.inj h).symm
set_option maxHeartbeats 4000000 in
set_option maxRecDepth 100000 in
theorem mX5_isConvex {l : Launch} {D : va_G} {cA : Nat → ClassId} {ad : Nat → Nat} {n : Nat} {A : Nat → Prop} {sa : Nat → Nat} {M : Mem} {l1 : Int32} {r : Int32} (h : X5_isConvex M l1 = some r) : CT l D cA ad n A sa yX5_isConvex cX5_isConvex 6 (some .boolean) 2 48 [.ref (ad 27), .int l1] M (.inl (some (.int r))) M := by
  refine CT.of (kt := kX5_isConvex) (by decide) kX5_isConvex_ok (Nat.le_of_ble_eq_true rfl) ?_
  intro p e s m args below meth c hX hr ht
  unfold X5_isConvex at h
  refine J.sub (L' := [(0, .ref (ad 27)), (1, .int l1)]) [0, 1] rfl ?_
  refine J.iconst (v := 1) hX 0 rfl (by decide) ?_
  refine J.istore_n (L' := [(2, .int 1), (0, .ref (ad 27)), (1, .int l1)]) hX 1 rfl (by decide) rfl ?_
  refine J.iconst (v := 0) hX 2 rfl (by decide) ?_
  refine J.istore_n (L' := [(3, .int 0), (2, .int 1), (0, .ref (ad 27)), (1, .int l1)]) hX 3 rfl (by decide) rfl ?_
  refine J.sub (L' := [(0, .ref (ad 27)), (1, .int l1), (2, .int 1), (3, .int 0)]) [2, 3, 1, 0] rfl ?_
  obtain ⟨x2, hlp, h⟩ := bd1_inv h
  suffices hE : JM 2 48 p l e s m args below meth c D cA ad n A 6 (.inl (some (.int r))) M M 99 [(2, .int x2)] [] by
    exact loop_ok (fun q9 : Int32 × Int32 => JM 2 48 p l e s m args below meth c D cA ad n A 6 (.inl (some (.int r))) M M 4 [(0, .ref (ad 27)), (1, .int l1), (2, .int q9.1), (3, .int q9.2)] []) (fun q9 r hB hst hex9 => X5_isConvex_L4_ok hX  hB (fun _ _ hr => hst _ hr) (fun _ hr => by cases hex9 _ hr; exact hE)) 3000 _ hlp
  refine J.iload_n hX 56 0 rfl rfl ?_
  obtain ⟨hz, h⟩ := chk_inv h
  cases h
  exact J.zret hX hr 57 (isB_nar hz) rfl
def X5_lies_L9_j84 (M : Mem) (l1 : Int32) (l2 : Int32) (l3 : Int32) (v10 : Int32) (v11 : Int32) (v12 : Int32) : Option ((Int32 × Int32 × Int32) ⊕ (Int32 × Int32)) := bnd (v11 + 1) (fun t5 => some (.inl (v10, v12, t5)))
def X5_lies_L9_j83 (M : Mem) (l1 : Int32) (l2 : Int32) (l3 : Int32) (v8 : Int32) (v9 : Int32) : Option ((Int32 × Int32 × Int32) ⊕ (Int32 × Int32)) := X5_lies_L9_j84 M l1 l2 l3 v8 v9 0
def X5_lies_L9_j67 (M : Mem) (l1 : Int32) (l2 : Int32) (l3 : Int32) (v4 : Int32) (v5 : Int32) (v6 : Int32) (v7 : Int32) : Option ((Int32 × Int32 × Int32) ⊕ (Int32 × Int32)) := if v4 = 0 then (X5_lies_L9_j83 M l1 l2 l3 v7 v5) else (if 0 < v6 then (X5_lies_L9_j83 M l1 l2 l3 v7 v5) else (X5_lies_L9_j84 M l1 l2 l3 v7 v5 1))
def X5_lies_L9_j66 (M : Mem) (l1 : Int32) (l2 : Int32) (l3 : Int32) (v1 : Int32) (v2 : Int32) (v3 : Int32) : Option ((Int32 × Int32 × Int32) ⊕ (Int32 × Int32)) := X5_lies_L9_j67 M l1 l2 l3 v1 v2 v3 0
def X5_lies_L9 (M : Mem) (l1 : Int32) (l2 : Int32) (l3 : Int32) (q9 : Int32 × Int32 × Int32) : Option ((Int32 × Int32 × Int32) ⊕ (Int32 × Int32)) := un3 q9 (fun c1 c2 c3 => ld M 28 264 l1 (fun t1 => if t1 ≤ c3 then (some (.inr (c1, c2))) else (ld M 30 2112 ((8 * l1) + c3) (fun t2 => ld M 31 2112 ((8 * l1) + c3) (fun t3 => bd1 (X5_side M l2 l3 t2 t3) (fun t4 => if c1 = 0 then (X5_lies_L9_j66 M l1 l2 l3 c2 c3 t4) else (if t4 < 0 then (X5_lies_L9_j66 M l1 l2 l3 c2 c3 t4) else (X5_lies_L9_j67 M l1 l2 l3 c2 c3 t4 1))))))))
def X5_lies_j111 (M : Mem) (v13 : Int32) : Option (Int32) := some v13
def X5_lies (M : Mem) (l1 : Int32) (l2 : Int32) (l3 : Int32) : Option (Int32) := bd2 (loop (X5_lies_L9 M l1 l2 l3) 3000 (1, 1, 0)) (fun x1 x2 => if x1 = 0 then (if x2 = 0 then (X5_lies_j111 M 0) else (X5_lies_j111 M (-1))) else (X5_lies_j111 M 1))
set_option maxHeartbeats 4000000 in
set_option maxRecDepth 100000 in
theorem X5_lies_L9_j84_ok (hX : Cx p s m args meth c D cA ad n A sa cX5_lies 8 RX5 kX5_lies) {M : Mem} {l1 : Int32} {l2 : Int32} {l3 : Int32} {v10 : Int32} {v11 : Int32} {v12 : Int32}  {r : (Int32 × Int32 × Int32) ⊕ (Int32 × Int32)} (h : X5_lies_L9_j84 M l1 l2 l3 v10 v11 v12 = some r) (hin : ∀ (q0 : Int32) (q1 : Int32) (q2 : Int32), r = .inl (q0, q1, q2) → JM 2 48 p l e s m args below meth c D cA ad n A 8 out M1 M 9 [(0, .ref (ad 27)), (1, .int l1), (2, .int l2), (3, .int l3), (4, .int q0), (5, .int q1), (6, .int q2)] []) (hex0 : ∀ (q0 : Int32) (q1 : Int32), r = .inr (q0, q1) → JM 2 48 p l e s m args below meth c D cA ad n A 8 out M1 M 92 [(4, .int q0), (5, .int q1)] []) : JM 2 48 p l e s m args below meth c D cA ad n A 8 out M1 M 84 [(0, .ref (ad 27)), (1, .int l1), (2, .int l2), (3, .int l3), (4, .int v10), (6, .int v11)] [.int v12] := by
  unfold X5_lies_L9_j84 at h
  refine J.istore (L' := [(5, .int v12), (0, .ref (ad 27)), (1, .int l1), (2, .int l2), (3, .int l3), (4, .int v10), (6, .int v11)]) hX 48 rfl (by decide) rfl ?_
  obtain ⟨t5, et5, h⟩ := bnd_inv h
  refine J.iinc (q := 6) (L' := [(6, .int t5), (5, .int v12), (0, .ref (ad 27)), (1, .int l1), (2, .int l2), (3, .int l3), (4, .int v10)]) hX 49 rfl rfl et5 (by decide) rfl ?_
  refine J.goto (tgt := 9) hX 50 rfl (by decide) ?_
  refine J.sub (L' := [(0, .ref (ad 27)), (1, .int l1), (2, .int l2), (3, .int l3), (4, .int v10), (5, .int v12), (6, .int t5)]) [2, 3, 4, 5, 6, 1, 0] rfl ?_
  exact hin _ _ _ (Option.some.inj h).symm
set_option maxHeartbeats 4000000 in
set_option maxRecDepth 100000 in
theorem X5_lies_L9_j83_ok (hX : Cx p s m args meth c D cA ad n A sa cX5_lies 8 RX5 kX5_lies) {M : Mem} {l1 : Int32} {l2 : Int32} {l3 : Int32} {v8 : Int32} {v9 : Int32}  {r : (Int32 × Int32 × Int32) ⊕ (Int32 × Int32)} (h : X5_lies_L9_j83 M l1 l2 l3 v8 v9 = some r) (hin : ∀ (q0 : Int32) (q1 : Int32) (q2 : Int32), r = .inl (q0, q1, q2) → JM 2 48 p l e s m args below meth c D cA ad n A 8 out M1 M 9 [(0, .ref (ad 27)), (1, .int l1), (2, .int l2), (3, .int l3), (4, .int q0), (5, .int q1), (6, .int q2)] []) (hex0 : ∀ (q0 : Int32) (q1 : Int32), r = .inr (q0, q1) → JM 2 48 p l e s m args below meth c D cA ad n A 8 out M1 M 92 [(4, .int q0), (5, .int q1)] []) : JM 2 48 p l e s m args below meth c D cA ad n A 8 out M1 M 83 [(0, .ref (ad 27)), (1, .int l1), (2, .int l2), (3, .int l3), (4, .int v8), (6, .int v9)] [] := by
  unfold X5_lies_L9_j83 at h
  refine J.iconst (v := 0) hX 47 rfl (by decide) ?_
  refine J.sub (L' := [(0, .ref (ad 27)), (1, .int l1), (2, .int l2), (3, .int l3), (4, .int v8), (6, .int v9)]) [0, 1, 2, 3, 4, 5] rfl ?_
  exact X5_lies_L9_j84_ok hX  h hin hex0
set_option maxHeartbeats 4000000 in
set_option maxRecDepth 100000 in
theorem X5_lies_L9_j67_ok (hX : Cx p s m args meth c D cA ad n A sa cX5_lies 8 RX5 kX5_lies) {M : Mem} {l1 : Int32} {l2 : Int32} {l3 : Int32} {v4 : Int32} {v5 : Int32} {v6 : Int32} {v7 : Int32}  {r : (Int32 × Int32 × Int32) ⊕ (Int32 × Int32)} (h : X5_lies_L9_j67 M l1 l2 l3 v4 v5 v6 v7 = some r) (hin : ∀ (q0 : Int32) (q1 : Int32) (q2 : Int32), r = .inl (q0, q1, q2) → JM 2 48 p l e s m args below meth c D cA ad n A 8 out M1 M 9 [(0, .ref (ad 27)), (1, .int l1), (2, .int l2), (3, .int l3), (4, .int q0), (5, .int q1), (6, .int q2)] []) (hex0 : ∀ (q0 : Int32) (q1 : Int32), r = .inr (q0, q1) → JM 2 48 p l e s m args below meth c D cA ad n A 8 out M1 M 92 [(4, .int q0), (5, .int q1)] []) : JM 2 48 p l e s m args below meth c D cA ad n A 8 out M1 M 67 [(0, .ref (ad 27)), (1, .int l1), (2, .int l2), (3, .int l3), (5, .int v4), (6, .int v5), (7, .int v6)] [.int v7] := by
  unfold X5_lies_L9_j67 at h
  refine J.istore (L' := [(4, .int v7), (0, .ref (ad 27)), (1, .int l1), (2, .int l2), (3, .int l3), (5, .int v4), (6, .int v5), (7, .int v6)]) hX 40 rfl (by decide) rfl ?_
  refine J.iload hX 41 5 rfl rfl ?_
  refine J.if_eq (tgt := 83) hX 42 rfl (by decide) (fun b3 => ?_) (fun b3 => ?_)
  · rw [if_pos b3] at h
    refine J.sub (L' := [(0, .ref (ad 27)), (1, .int l1), (2, .int l2), (3, .int l3), (4, .int v7), (6, .int v5)]) [1, 2, 3, 4, 0, 6] rfl ?_
    exact X5_lies_L9_j83_ok hX  h hin hex0
  · rw [if_neg b3] at h
    refine J.iload hX 43 7 rfl rfl ?_
    refine J.if_gt (tgt := 83) hX 44 rfl (by decide) (fun b4 => ?_) (fun b4 => ?_)
    · rw [if_pos b4] at h
      refine J.sub (L' := [(0, .ref (ad 27)), (1, .int l1), (2, .int l2), (3, .int l3), (4, .int v7), (6, .int v5)]) [1, 2, 3, 4, 0, 6] rfl ?_
      exact X5_lies_L9_j83_ok hX  h hin hex0
    · rw [if_neg b4] at h
      refine J.iconst (v := 1) hX 45 rfl (by decide) ?_
      refine J.goto (tgt := 84) hX 46 rfl (by decide) ?_
      refine J.sub (L' := [(0, .ref (ad 27)), (1, .int l1), (2, .int l2), (3, .int l3), (4, .int v7), (6, .int v5)]) [1, 2, 3, 4, 0, 6] rfl ?_
      exact X5_lies_L9_j84_ok hX  h hin hex0
set_option maxHeartbeats 4000000 in
set_option maxRecDepth 100000 in
theorem X5_lies_L9_j66_ok (hX : Cx p s m args meth c D cA ad n A sa cX5_lies 8 RX5 kX5_lies) {M : Mem} {l1 : Int32} {l2 : Int32} {l3 : Int32} {v1 : Int32} {v2 : Int32} {v3 : Int32}  {r : (Int32 × Int32 × Int32) ⊕ (Int32 × Int32)} (h : X5_lies_L9_j66 M l1 l2 l3 v1 v2 v3 = some r) (hin : ∀ (q0 : Int32) (q1 : Int32) (q2 : Int32), r = .inl (q0, q1, q2) → JM 2 48 p l e s m args below meth c D cA ad n A 8 out M1 M 9 [(0, .ref (ad 27)), (1, .int l1), (2, .int l2), (3, .int l3), (4, .int q0), (5, .int q1), (6, .int q2)] []) (hex0 : ∀ (q0 : Int32) (q1 : Int32), r = .inr (q0, q1) → JM 2 48 p l e s m args below meth c D cA ad n A 8 out M1 M 92 [(4, .int q0), (5, .int q1)] []) : JM 2 48 p l e s m args below meth c D cA ad n A 8 out M1 M 66 [(0, .ref (ad 27)), (1, .int l1), (2, .int l2), (3, .int l3), (5, .int v1), (6, .int v2), (7, .int v3)] [] := by
  unfold X5_lies_L9_j66 at h
  refine J.iconst (v := 0) hX 39 rfl (by decide) ?_
  refine J.sub (L' := [(0, .ref (ad 27)), (1, .int l1), (2, .int l2), (3, .int l3), (5, .int v1), (6, .int v2), (7, .int v3)]) [0, 1, 2, 3, 4, 5, 6] rfl ?_
  exact X5_lies_L9_j67_ok hX  h hin hex0
set_option maxHeartbeats 4000000 in
set_option maxRecDepth 100000 in
theorem X5_lies_L9_ok (hX : Cx p s m args meth c D cA ad n A sa cX5_lies 8 RX5 kX5_lies) {M : Mem} {l1 : Int32} {l2 : Int32} {l3 : Int32} {c1 : Int32} {c2 : Int32} {c3 : Int32}  {r : (Int32 × Int32 × Int32) ⊕ (Int32 × Int32)} (h : X5_lies_L9 M l1 l2 l3 (c1, c2, c3) = some r) (hin : ∀ (q0 : Int32) (q1 : Int32) (q2 : Int32), r = .inl (q0, q1, q2) → JM 2 48 p l e s m args below meth c D cA ad n A 8 out M1 M 9 [(0, .ref (ad 27)), (1, .int l1), (2, .int l2), (3, .int l3), (4, .int q0), (5, .int q1), (6, .int q2)] []) (hex0 : ∀ (q0 : Int32) (q1 : Int32), r = .inr (q0, q1) → JM 2 48 p l e s m args below meth c D cA ad n A 8 out M1 M 92 [(4, .int q0), (5, .int q1)] []) : JM 2 48 p l e s m args below meth c D cA ad n A 8 out M1 M 9 [(0, .ref (ad 27)), (1, .int l1), (2, .int l2), (3, .int l3), (4, .int c1), (5, .int c2), (6, .int c3)] [] := by
  unfold X5_lies_L9 at h
  have h := un3_inv h
  refine J.iload hX 6 6 rfl rfl ?_
  refine J.aload_n hX 7 0 rfl rfl ?_
  refine J.getR hX 8 27 5 (hX.lt (k := 27) (by decide)) sh_27 rfl in_wsX50 2 (by decide) w_75 rfl rfl ?_
  refine J.iload_n hX 9 1 rfl rfl ?_
  obtain ⟨t1, et1, hb, h⟩ := ld_inv h
  refine J.ialdN hX 10 28 (hX.lt (k := 28) (by decide)) sh_28 hb et1 rfl ?_
  refine J.icmp_ge (tgt := 92) hX 11 rfl (by decide) (fun b1 => ?_) (fun b1 => ?_)
  · rw [if_pos b1] at h
    refine J.sub (L' := [(4, .int c1), (5, .int c2)]) [4, 5] rfl ?_
    exact hex0 _ _ (Option.some.inj h).symm
  · rw [if_neg b1] at h
    refine J.aload_n hX 12 0 rfl rfl ?_
    refine J.iload_n hX 13 2 rfl rfl ?_
    refine J.iload_n hX 14 3 rfl rfl ?_
    refine J.aload_n hX 15 0 rfl rfl ?_
    refine J.getR hX 16 27 5 (hX.lt (k := 27) (by decide)) sh_27 rfl in_wsX50 4 (by decide) w_77 rfl rfl ?_
    refine J.bipush (v := 8) hX 17 rfl (by decide) ?_
    refine J.iload_n hX 18 1 rfl rfl ?_
    refine J.imul hX 19 rfl ?_
    refine J.iload hX 20 6 rfl rfl ?_
    refine J.iadd hX 21 rfl ?_
    obtain ⟨t2, et2, hb, h⟩ := ld_inv h
    refine J.ialdN hX 22 30 (hX.lt (k := 30) (by decide)) sh_30 hb et2 rfl ?_
    refine J.aload_n hX 23 0 rfl rfl ?_
    refine J.getR hX 24 27 5 (hX.lt (k := 27) (by decide)) sh_27 rfl in_wsX50 5 (by decide) w_78 rfl rfl ?_
    refine J.bipush (v := 8) hX 25 rfl (by decide) ?_
    refine J.iload_n hX 26 1 rfl rfl ?_
    refine J.imul hX 27 rfl ?_
    refine J.iload hX 28 6 rfl rfl ?_
    refine J.iadd hX 29 rfl ?_
    obtain ⟨t3, et3, hb, h⟩ := ld_inv h
    refine J.ialdN hX 30 31 (hX.lt (k := 31) (by decide)) sh_31 hb et3 rfl ?_
    obtain ⟨t4, hc, h⟩ := bd1_inv h
    refine J.callV1 (As := [.int l2, .int l3, .int t2, .int t3]) (rest := []) (k := 27) hX 31 rfl (mX5_side  hc) okX5_side w_188 (hX.lt (k := 27) (by decide)) sh_27 rfl rfl rfl (Nat.le_of_ble_eq_true rfl) ⟨Nat.le_of_ble_eq_true rfl, Nat.le_of_ble_eq_true rfl⟩ ⟨Nat.zero_le _, Nat.zero_le _⟩ ?_
    refine J.istore (L' := [(7, .int t4), (0, .ref (ad 27)), (1, .int l1), (2, .int l2), (3, .int l3), (4, .int c1), (5, .int c2), (6, .int c3)]) hX 32 rfl (by decide) rfl ?_
    refine J.iload hX 33 5 rfl rfl ?_
    refine J.if_eq (tgt := 66) hX 34 rfl (by decide) (fun b2 => ?_) (fun b2 => ?_)
    · rw [if_pos b2] at h
      refine J.sub (L' := [(0, .ref (ad 27)), (1, .int l1), (2, .int l2), (3, .int l3), (5, .int c2), (6, .int c3), (7, .int t4)]) [1, 2, 3, 4, 6, 7, 0] rfl ?_
      exact X5_lies_L9_j66_ok hX  h hin hex0
    · rw [if_neg b2] at h
      refine J.iload hX 35 0 rfl rfl ?_
      refine J.if_lt (tgt := 66) hX 36 rfl (by decide) (fun b5 => ?_) (fun b5 => ?_)
      · rw [if_pos b5] at h
        refine J.sub (L' := [(0, .ref (ad 27)), (1, .int l1), (2, .int l2), (3, .int l3), (5, .int c2), (6, .int c3), (7, .int t4)]) [1, 2, 3, 4, 6, 7, 0] rfl ?_
        exact X5_lies_L9_j66_ok hX  h hin hex0
      · rw [if_neg b5] at h
        refine J.iconst (v := 1) hX 37 rfl (by decide) ?_
        refine J.goto (tgt := 67) hX 38 rfl (by decide) ?_
        refine J.sub (L' := [(0, .ref (ad 27)), (1, .int l1), (2, .int l2), (3, .int l3), (5, .int c2), (6, .int c3), (7, .int t4)]) [1, 2, 3, 4, 6, 7, 0] rfl ?_
        exact X5_lies_L9_j67_ok hX  h hin hex0
set_option maxHeartbeats 4000000 in
set_option maxRecDepth 100000 in
theorem X5_lies_j111_ok (hX : Cx p s m args meth c D cA ad n A sa cX5_lies 8 RX5 kX5_lies) {M : Mem} {v13 : Int32} {r : Int32}  (hr : meth.sig.returnType = (some .int)) (ht : ∀ x ∈ c.exceptionTable.toList, False) (h : X5_lies_j111 M v13 = some r) : JM 2 48 p l e s m args below meth c D cA ad n A 8 (.inl (some (.int r))) M M 111 [] [.int v13] := by
  unfold X5_lies_j111 at h
  cases h
  exact J.iret hX hr 60 rfl
set_option maxHeartbeats 4000000 in
set_option maxRecDepth 100000 in
theorem mX5_lies {l : Launch} {D : va_G} {cA : Nat → ClassId} {ad : Nat → Nat} {n : Nat} {A : Nat → Prop} {sa : Nat → Nat} {M : Mem} {l1 : Int32} {l2 : Int32} {l3 : Int32} {r : Int32} (h : X5_lies M l1 l2 l3 = some r) : CT l D cA ad n A sa yX5_lies cX5_lies 8 (some .int) 2 48 [.ref (ad 27), .int l1, .int l2, .int l3] M (.inl (some (.int r))) M := by
  refine CT.of (kt := kX5_lies) (by decide) kX5_lies_ok (Nat.le_of_ble_eq_true rfl) ?_
  intro p e s m args below meth c hX hr ht
  unfold X5_lies at h
  refine J.sub (L' := [(0, .ref (ad 27)), (1, .int l1), (2, .int l2), (3, .int l3)]) [0, 1, 2, 3] rfl ?_
  refine J.iconst (v := 1) hX 0 rfl (by decide) ?_
  refine J.istore (L' := [(4, .int 1), (0, .ref (ad 27)), (1, .int l1), (2, .int l2), (3, .int l3)]) hX 1 rfl (by decide) rfl ?_
  refine J.iconst (v := 1) hX 2 rfl (by decide) ?_
  refine J.istore (L' := [(5, .int 1), (4, .int 1), (0, .ref (ad 27)), (1, .int l1), (2, .int l2), (3, .int l3)]) hX 3 rfl (by decide) rfl ?_
  refine J.iconst (v := 0) hX 4 rfl (by decide) ?_
  refine J.istore (L' := [(6, .int 0), (5, .int 1), (4, .int 1), (0, .ref (ad 27)), (1, .int l1), (2, .int l2), (3, .int l3)]) hX 5 rfl (by decide) rfl ?_
  refine J.sub (L' := [(0, .ref (ad 27)), (1, .int l1), (2, .int l2), (3, .int l3), (4, .int 1), (5, .int 1), (6, .int 0)]) [3, 4, 5, 6, 2, 1, 0] rfl ?_
  obtain ⟨x1, x2, hlp, h⟩ := bd2_inv h
  suffices hE : JM 2 48 p l e s m args below meth c D cA ad n A 8 (.inl (some (.int r))) M M 92 [(4, .int x1), (5, .int x2)] [] by
    exact loop_ok (fun q9 : Int32 × Int32 × Int32 => JM 2 48 p l e s m args below meth c D cA ad n A 8 (.inl (some (.int r))) M M 9 [(0, .ref (ad 27)), (1, .int l1), (2, .int l2), (3, .int l3), (4, .int q9.1), (5, .int q9.2.1), (6, .int q9.2.2)] []) (fun q9 r hB hst hex9 => X5_lies_L9_ok hX  hB (fun _ _ _ hr => hst _ hr) (fun _ _ hr => by cases hex9 _ hr; exact hE)) 3000 _ hlp
  refine J.iload hX 51 0 rfl rfl ?_
  refine J.if_eq (tgt := 101) hX 52 rfl (by decide) (fun b6 => ?_) (fun b6 => ?_)
  · rw [if_pos b6] at h
    refine J.iload hX 55 1 rfl rfl ?_
    refine J.if_eq (tgt := 110) hX 56 rfl (by decide) (fun b7 => ?_) (fun b7 => ?_)
    · rw [if_pos b7] at h
      refine J.iconst (v := 0) hX 59 rfl (by decide) ?_
      refine J.sub (L' := []) [] rfl ?_
      exact X5_lies_j111_ok hX  hr ht h
    · rw [if_neg b7] at h
      refine J.iconst (v := (-1)) hX 57 rfl (by decide) ?_
      refine J.goto (tgt := 111) hX 58 rfl (by decide) ?_
      refine J.sub (L' := []) [] rfl ?_
      exact X5_lies_j111_ok hX  hr ht h
  · rw [if_neg b6] at h
    refine J.iconst (v := 1) hX 53 rfl (by decide) ?_
    refine J.goto (tgt := 111) hX 54 rfl (by decide) ?_
    refine J.sub (L' := []) [] rfl ?_
    exact X5_lies_j111_ok hX  hr ht h
def X5_apart_L5_j37 (M : Mem) (l1 : Int32) (l2 : Int32) (v2 : Int32) (v3 : Int32) : Option ((Int32 × Int32) ⊕ (Int32)) := bnd (v2 + 1) (fun t2 => some (.inl (v3, t2)))
def X5_apart_L5_j32 (M : Mem) (l1 : Int32) (l2 : Int32) (v1 : Int32) : Option ((Int32 × Int32) ⊕ (Int32)) := X5_apart_L5_j37 M l1 l2 v1 1
def X5_apart_L5 (M : Mem) (l1 : Int32) (l2 : Int32) (q9 : Int32 × Int32) : Option ((Int32 × Int32) ⊕ (Int32)) := un2 q9 (fun c1 c2 => ld M 28 264 l1 (fun t1 => if t1 ≤ c2 then (some (.inr c1)) else (if c1 = 0 then (bd1 (X5_lies M l2 l1 c2) (fun t3 => if t3 = (-1) then (X5_apart_L5_j32 M l1 l2 c2) else (X5_apart_L5_j37 M l1 l2 c2 0))) else (X5_apart_L5_j32 M l1 l2 c2))))
def X5_apart_L47_j79 (M : Mem) (l1 : Int32) (l2 : Int32) (v5 : Int32) (v6 : Int32) : Option ((Int32 × Int32) ⊕ (Int32)) := bnd (v5 + 1) (fun t5 => some (.inl (v6, t5)))
def X5_apart_L47_j74 (M : Mem) (l1 : Int32) (l2 : Int32) (v4 : Int32) : Option ((Int32 × Int32) ⊕ (Int32)) := X5_apart_L47_j79 M l1 l2 v4 1
def X5_apart_L47 (M : Mem) (l1 : Int32) (l2 : Int32) (q9 : Int32 × Int32) : Option ((Int32 × Int32) ⊕ (Int32)) := un2 q9 (fun c3 c4 => ld M 28 264 l2 (fun t4 => if t4 ≤ c4 then (some (.inr c3)) else (if c3 = 0 then (bd1 (X5_lies M l1 l2 c4) (fun t6 => if t6 = (-1) then (X5_apart_L47_j74 M l1 l2 c4) else (X5_apart_L47_j79 M l1 l2 c4 0))) else (X5_apart_L47_j74 M l1 l2 c4))))
def X5_apart (M : Mem) (l1 : Int32) (l2 : Int32) : Option (Int32) := bd1 (loop (X5_apart_L5 M l1 l2) 3000 (0, 0)) (fun x1 => bd1 (loop (X5_apart_L47 M l1 l2) 3000 (x1, 0)) (fun x2 => chk (isB x2) (some x2)))
set_option maxHeartbeats 4000000 in
set_option maxRecDepth 100000 in
theorem X5_apart_L5_j37_ok (hX : Cx p s m args meth c D cA ad n A sa cX5_apart 5 RX5 kX5_apart) {M : Mem} {l1 : Int32} {l2 : Int32} {v2 : Int32} {v3 : Int32}  {r : (Int32 × Int32) ⊕ (Int32)} (h : X5_apart_L5_j37 M l1 l2 v2 v3 = some r) (hin : ∀ (q0 : Int32) (q1 : Int32), r = .inl (q0, q1) → JM 3 75 p l e s m args below meth c D cA ad n A 5 out M1 M 5 [(0, .ref (ad 27)), (1, .int l1), (2, .int l2), (3, .int q0), (4, .int q1)] []) (hex0 : ∀ (q0 : Int32), r = .inr q0 → JM 3 75 p l e s m args below meth c D cA ad n A 5 out M1 M 44 [(0, .ref (ad 27)), (1, .int l1), (2, .int l2), (3, .int q0)] []) : JM 3 75 p l e s m args below meth c D cA ad n A 5 out M1 M 37 [(0, .ref (ad 27)), (1, .int l1), (2, .int l2), (4, .int v2)] [.int v3] := by
  unfold X5_apart_L5_j37 at h
  refine J.istore_n (L' := [(3, .int v3), (0, .ref (ad 27)), (1, .int l1), (2, .int l2), (4, .int v2)]) hX 22 rfl (by decide) rfl ?_
  obtain ⟨t2, et2, h⟩ := bnd_inv h
  refine J.iinc (q := 4) (L' := [(4, .int t2), (3, .int v3), (0, .ref (ad 27)), (1, .int l1), (2, .int l2)]) hX 23 rfl rfl et2 (by decide) rfl ?_
  refine J.goto (tgt := 5) hX 24 rfl (by decide) ?_
  refine J.sub (L' := [(0, .ref (ad 27)), (1, .int l1), (2, .int l2), (3, .int v3), (4, .int t2)]) [2, 3, 4, 1, 0] rfl ?_
  exact hin _ _ (Option.some.inj h).symm
set_option maxHeartbeats 4000000 in
set_option maxRecDepth 100000 in
theorem X5_apart_L5_j32_ok (hX : Cx p s m args meth c D cA ad n A sa cX5_apart 5 RX5 kX5_apart) {M : Mem} {l1 : Int32} {l2 : Int32} {v1 : Int32}  {r : (Int32 × Int32) ⊕ (Int32)} (h : X5_apart_L5_j32 M l1 l2 v1 = some r) (hin : ∀ (q0 : Int32) (q1 : Int32), r = .inl (q0, q1) → JM 3 75 p l e s m args below meth c D cA ad n A 5 out M1 M 5 [(0, .ref (ad 27)), (1, .int l1), (2, .int l2), (3, .int q0), (4, .int q1)] []) (hex0 : ∀ (q0 : Int32), r = .inr q0 → JM 3 75 p l e s m args below meth c D cA ad n A 5 out M1 M 44 [(0, .ref (ad 27)), (1, .int l1), (2, .int l2), (3, .int q0)] []) : JM 3 75 p l e s m args below meth c D cA ad n A 5 out M1 M 32 [(0, .ref (ad 27)), (1, .int l1), (2, .int l2), (4, .int v1)] [] := by
  unfold X5_apart_L5_j32 at h
  refine J.iconst (v := 1) hX 19 rfl (by decide) ?_
  refine J.goto (tgt := 37) hX 20 rfl (by decide) ?_
  refine J.sub (L' := [(0, .ref (ad 27)), (1, .int l1), (2, .int l2), (4, .int v1)]) [0, 1, 2, 3] rfl ?_
  exact X5_apart_L5_j37_ok hX  h hin hex0
set_option maxHeartbeats 4000000 in
set_option maxRecDepth 100000 in
theorem X5_apart_L5_ok (hX : Cx p s m args meth c D cA ad n A sa cX5_apart 5 RX5 kX5_apart) {M : Mem} {l1 : Int32} {l2 : Int32} {c1 : Int32} {c2 : Int32}  {r : (Int32 × Int32) ⊕ (Int32)} (h : X5_apart_L5 M l1 l2 (c1, c2) = some r) (hin : ∀ (q0 : Int32) (q1 : Int32), r = .inl (q0, q1) → JM 3 75 p l e s m args below meth c D cA ad n A 5 out M1 M 5 [(0, .ref (ad 27)), (1, .int l1), (2, .int l2), (3, .int q0), (4, .int q1)] []) (hex0 : ∀ (q0 : Int32), r = .inr q0 → JM 3 75 p l e s m args below meth c D cA ad n A 5 out M1 M 44 [(0, .ref (ad 27)), (1, .int l1), (2, .int l2), (3, .int q0)] []) : JM 3 75 p l e s m args below meth c D cA ad n A 5 out M1 M 5 [(0, .ref (ad 27)), (1, .int l1), (2, .int l2), (3, .int c1), (4, .int c2)] [] := by
  unfold X5_apart_L5 at h
  have h := un2_inv h
  refine J.iload hX 4 4 rfl rfl ?_
  refine J.aload_n hX 5 0 rfl rfl ?_
  refine J.getR hX 6 27 5 (hX.lt (k := 27) (by decide)) sh_27 rfl in_wsX50 2 (by decide) w_75 rfl rfl ?_
  refine J.iload_n hX 7 1 rfl rfl ?_
  obtain ⟨t1, et1, hb, h⟩ := ld_inv h
  refine J.ialdN hX 8 28 (hX.lt (k := 28) (by decide)) sh_28 hb et1 rfl ?_
  refine J.icmp_ge (tgt := 44) hX 9 rfl (by decide) (fun b1 => ?_) (fun b1 => ?_)
  · rw [if_pos b1] at h
    refine J.sub (L' := [(0, .ref (ad 27)), (1, .int l1), (2, .int l2), (3, .int c1)]) [0, 1, 2, 3] rfl ?_
    exact hex0 _ (Option.some.inj h).symm
  · rw [if_neg b1] at h
    refine J.iload_n hX 10 3 rfl rfl ?_
    refine J.if_ne (tgt := 32) hX 11 rfl (by decide) (fun b2 => ?_) (fun b2 => ?_)
    · rw [if_neg b2] at h
      refine J.sub (L' := [(0, .ref (ad 27)), (1, .int l1), (2, .int l2), (4, .int c2)]) [0, 1, 2, 4] rfl ?_
      exact X5_apart_L5_j32_ok hX  h hin hex0
    · rw [if_pos b2] at h
      refine J.aload_n hX 12 0 rfl rfl ?_
      refine J.iload_n hX 13 2 rfl rfl ?_
      refine J.iload_n hX 14 1 rfl rfl ?_
      refine J.iload hX 15 4 rfl rfl ?_
      obtain ⟨t3, hc, h⟩ := bd1_inv h
      refine J.callV1 (As := [.int l2, .int l1, .int c2]) (rest := []) (k := 27) hX 16 rfl (mX5_lies  hc) okX5_lies w_280 (hX.lt (k := 27) (by decide)) sh_27 rfl rfl rfl (Nat.le_of_ble_eq_true rfl) ⟨Nat.le_of_ble_eq_true rfl, Nat.le_of_ble_eq_true rfl⟩ ⟨Nat.zero_le _, Nat.zero_le _⟩ ?_
      refine J.iconst (v := (-1)) hX 17 rfl (by decide) ?_
      refine J.icmp_ne (tgt := 36) hX 18 rfl (by decide) (fun b3 => ?_) (fun b3 => ?_)
      · rw [if_neg b3] at h
        refine J.iconst (v := 0) hX 21 rfl (by decide) ?_
        refine J.sub (L' := [(0, .ref (ad 27)), (1, .int l1), (2, .int l2), (4, .int c2)]) [0, 1, 2, 4] rfl ?_
        exact X5_apart_L5_j37_ok hX  h hin hex0
      · rw [if_pos b3] at h
        refine J.sub (L' := [(0, .ref (ad 27)), (1, .int l1), (2, .int l2), (4, .int c2)]) [0, 1, 2, 4] rfl ?_
        exact X5_apart_L5_j32_ok hX  h hin hex0
set_option maxHeartbeats 4000000 in
set_option maxRecDepth 100000 in
theorem X5_apart_L47_j79_ok (hX : Cx p s m args meth c D cA ad n A sa cX5_apart 5 RX5 kX5_apart) {M : Mem} {l1 : Int32} {l2 : Int32} {v5 : Int32} {v6 : Int32}  {r : (Int32 × Int32) ⊕ (Int32)} (h : X5_apart_L47_j79 M l1 l2 v5 v6 = some r) (hin : ∀ (q0 : Int32) (q1 : Int32), r = .inl (q0, q1) → JM 3 75 p l e s m args below meth c D cA ad n A 5 out M1 M 47 [(0, .ref (ad 27)), (1, .int l1), (2, .int l2), (3, .int q0), (4, .int q1)] []) (hex0 : ∀ (q0 : Int32), r = .inr q0 → JM 3 75 p l e s m args below meth c D cA ad n A 5 out M1 M 86 [(3, .int q0)] []) : JM 3 75 p l e s m args below meth c D cA ad n A 5 out M1 M 79 [(0, .ref (ad 27)), (1, .int l1), (2, .int l2), (4, .int v5)] [.int v6] := by
  unfold X5_apart_L47_j79 at h
  refine J.istore_n (L' := [(3, .int v6), (0, .ref (ad 27)), (1, .int l1), (2, .int l2), (4, .int v5)]) hX 45 rfl (by decide) rfl ?_
  obtain ⟨t5, et5, h⟩ := bnd_inv h
  refine J.iinc (q := 4) (L' := [(4, .int t5), (3, .int v6), (0, .ref (ad 27)), (1, .int l1), (2, .int l2)]) hX 46 rfl rfl et5 (by decide) rfl ?_
  refine J.goto (tgt := 47) hX 47 rfl (by decide) ?_
  refine J.sub (L' := [(0, .ref (ad 27)), (1, .int l1), (2, .int l2), (3, .int v6), (4, .int t5)]) [2, 3, 4, 1, 0] rfl ?_
  exact hin _ _ (Option.some.inj h).symm
set_option maxHeartbeats 4000000 in
set_option maxRecDepth 100000 in
theorem X5_apart_L47_j74_ok (hX : Cx p s m args meth c D cA ad n A sa cX5_apart 5 RX5 kX5_apart) {M : Mem} {l1 : Int32} {l2 : Int32} {v4 : Int32}  {r : (Int32 × Int32) ⊕ (Int32)} (h : X5_apart_L47_j74 M l1 l2 v4 = some r) (hin : ∀ (q0 : Int32) (q1 : Int32), r = .inl (q0, q1) → JM 3 75 p l e s m args below meth c D cA ad n A 5 out M1 M 47 [(0, .ref (ad 27)), (1, .int l1), (2, .int l2), (3, .int q0), (4, .int q1)] []) (hex0 : ∀ (q0 : Int32), r = .inr q0 → JM 3 75 p l e s m args below meth c D cA ad n A 5 out M1 M 86 [(3, .int q0)] []) : JM 3 75 p l e s m args below meth c D cA ad n A 5 out M1 M 74 [(0, .ref (ad 27)), (1, .int l1), (2, .int l2), (4, .int v4)] [] := by
  unfold X5_apart_L47_j74 at h
  refine J.iconst (v := 1) hX 42 rfl (by decide) ?_
  refine J.goto (tgt := 79) hX 43 rfl (by decide) ?_
  refine J.sub (L' := [(0, .ref (ad 27)), (1, .int l1), (2, .int l2), (4, .int v4)]) [0, 1, 2, 3] rfl ?_
  exact X5_apart_L47_j79_ok hX  h hin hex0
set_option maxHeartbeats 4000000 in
set_option maxRecDepth 100000 in
theorem X5_apart_L47_ok (hX : Cx p s m args meth c D cA ad n A sa cX5_apart 5 RX5 kX5_apart) {M : Mem} {l1 : Int32} {l2 : Int32} {c3 : Int32} {c4 : Int32}  {r : (Int32 × Int32) ⊕ (Int32)} (h : X5_apart_L47 M l1 l2 (c3, c4) = some r) (hin : ∀ (q0 : Int32) (q1 : Int32), r = .inl (q0, q1) → JM 3 75 p l e s m args below meth c D cA ad n A 5 out M1 M 47 [(0, .ref (ad 27)), (1, .int l1), (2, .int l2), (3, .int q0), (4, .int q1)] []) (hex0 : ∀ (q0 : Int32), r = .inr q0 → JM 3 75 p l e s m args below meth c D cA ad n A 5 out M1 M 86 [(3, .int q0)] []) : JM 3 75 p l e s m args below meth c D cA ad n A 5 out M1 M 47 [(0, .ref (ad 27)), (1, .int l1), (2, .int l2), (3, .int c3), (4, .int c4)] [] := by
  unfold X5_apart_L47 at h
  have h := un2_inv h
  refine J.iload hX 27 4 rfl rfl ?_
  refine J.aload_n hX 28 0 rfl rfl ?_
  refine J.getR hX 29 27 5 (hX.lt (k := 27) (by decide)) sh_27 rfl in_wsX50 2 (by decide) w_75 rfl rfl ?_
  refine J.iload_n hX 30 2 rfl rfl ?_
  obtain ⟨t4, et4, hb, h⟩ := ld_inv h
  refine J.ialdN hX 31 28 (hX.lt (k := 28) (by decide)) sh_28 hb et4 rfl ?_
  refine J.icmp_ge (tgt := 86) hX 32 rfl (by decide) (fun b4 => ?_) (fun b4 => ?_)
  · rw [if_pos b4] at h
    refine J.sub (L' := [(3, .int c3)]) [3] rfl ?_
    exact hex0 _ (Option.some.inj h).symm
  · rw [if_neg b4] at h
    refine J.iload_n hX 33 3 rfl rfl ?_
    refine J.if_ne (tgt := 74) hX 34 rfl (by decide) (fun b5 => ?_) (fun b5 => ?_)
    · rw [if_neg b5] at h
      refine J.sub (L' := [(0, .ref (ad 27)), (1, .int l1), (2, .int l2), (4, .int c4)]) [0, 1, 2, 4] rfl ?_
      exact X5_apart_L47_j74_ok hX  h hin hex0
    · rw [if_pos b5] at h
      refine J.aload_n hX 35 0 rfl rfl ?_
      refine J.iload_n hX 36 1 rfl rfl ?_
      refine J.iload_n hX 37 2 rfl rfl ?_
      refine J.iload hX 38 4 rfl rfl ?_
      obtain ⟨t6, hc, h⟩ := bd1_inv h
      refine J.callV1 (As := [.int l1, .int l2, .int c4]) (rest := []) (k := 27) hX 39 rfl (mX5_lies  hc) okX5_lies w_280 (hX.lt (k := 27) (by decide)) sh_27 rfl rfl rfl (Nat.le_of_ble_eq_true rfl) ⟨Nat.le_of_ble_eq_true rfl, Nat.le_of_ble_eq_true rfl⟩ ⟨Nat.zero_le _, Nat.zero_le _⟩ ?_
      refine J.iconst (v := (-1)) hX 40 rfl (by decide) ?_
      refine J.icmp_ne (tgt := 78) hX 41 rfl (by decide) (fun b6 => ?_) (fun b6 => ?_)
      · rw [if_neg b6] at h
        refine J.iconst (v := 0) hX 44 rfl (by decide) ?_
        refine J.sub (L' := [(0, .ref (ad 27)), (1, .int l1), (2, .int l2), (4, .int c4)]) [0, 1, 2, 4] rfl ?_
        exact X5_apart_L47_j79_ok hX  h hin hex0
      · rw [if_pos b6] at h
        refine J.sub (L' := [(0, .ref (ad 27)), (1, .int l1), (2, .int l2), (4, .int c4)]) [0, 1, 2, 4] rfl ?_
        exact X5_apart_L47_j74_ok hX  h hin hex0
set_option maxHeartbeats 4000000 in
set_option maxRecDepth 100000 in
theorem mX5_apart {l : Launch} {D : va_G} {cA : Nat → ClassId} {ad : Nat → Nat} {n : Nat} {A : Nat → Prop} {sa : Nat → Nat} {M : Mem} {l1 : Int32} {l2 : Int32} {r : Int32} (h : X5_apart M l1 l2 = some r) : CT l D cA ad n A sa yX5_apart cX5_apart 5 (some .boolean) 3 75 [.ref (ad 27), .int l1, .int l2] M (.inl (some (.int r))) M := by
  refine CT.of (kt := kX5_apart) (by decide) kX5_apart_ok (Nat.le_of_ble_eq_true rfl) ?_
  intro p e s m args below meth c hX hr ht
  unfold X5_apart at h
  refine J.sub (L' := [(0, .ref (ad 27)), (1, .int l1), (2, .int l2)]) [0, 1, 2] rfl ?_
  refine J.iconst (v := 0) hX 0 rfl (by decide) ?_
  refine J.istore_n (L' := [(3, .int 0), (0, .ref (ad 27)), (1, .int l1), (2, .int l2)]) hX 1 rfl (by decide) rfl ?_
  refine J.iconst (v := 0) hX 2 rfl (by decide) ?_
  refine J.istore (L' := [(4, .int 0), (3, .int 0), (0, .ref (ad 27)), (1, .int l1), (2, .int l2)]) hX 3 rfl (by decide) rfl ?_
  refine J.sub (L' := [(0, .ref (ad 27)), (1, .int l1), (2, .int l2), (3, .int 0), (4, .int 0)]) [2, 3, 4, 1, 0] rfl ?_
  obtain ⟨x1, hlp, h⟩ := bd1_inv h
  suffices hE : JM 3 75 p l e s m args below meth c D cA ad n A 5 (.inl (some (.int r))) M M 44 [(0, .ref (ad 27)), (1, .int l1), (2, .int l2), (3, .int x1)] [] by
    exact loop_ok (fun q9 : Int32 × Int32 => JM 3 75 p l e s m args below meth c D cA ad n A 5 (.inl (some (.int r))) M M 5 [(0, .ref (ad 27)), (1, .int l1), (2, .int l2), (3, .int q9.1), (4, .int q9.2)] []) (fun q9 r hB hst hex9 => X5_apart_L5_ok hX  hB (fun _ _ hr => hst _ hr) (fun _ hr => by cases hex9 _ hr; exact hE)) 3000 _ hlp
  refine J.iconst (v := 0) hX 25 rfl (by decide) ?_
  refine J.istore (L' := [(4, .int 0), (0, .ref (ad 27)), (1, .int l1), (2, .int l2), (3, .int x1)]) hX 26 rfl (by decide) rfl ?_
  refine J.sub (L' := [(0, .ref (ad 27)), (1, .int l1), (2, .int l2), (3, .int x1), (4, .int 0)]) [1, 2, 3, 4, 0] rfl ?_
  obtain ⟨x2, hlp, h⟩ := bd1_inv h
  suffices hE : JM 3 75 p l e s m args below meth c D cA ad n A 5 (.inl (some (.int r))) M M 86 [(3, .int x2)] [] by
    exact loop_ok (fun q9 : Int32 × Int32 => JM 3 75 p l e s m args below meth c D cA ad n A 5 (.inl (some (.int r))) M M 47 [(0, .ref (ad 27)), (1, .int l1), (2, .int l2), (3, .int q9.1), (4, .int q9.2)] []) (fun q9 r hB hst hex9 => X5_apart_L47_ok hX  hB (fun _ _ hr => hst _ hr) (fun _ hr => by cases hex9 _ hr; exact hE)) 3000 _ hlp
  refine J.iload_n hX 48 0 rfl rfl ?_
  obtain ⟨hz, h⟩ := chk_inv h
  cases h
  exact J.zret hX hr 49 (isB_nar hz) rfl
def X5_corner_j49 (N4 : Mem) (l1 : Int32) (l2 : Int32) (l3 : Int32) (l4 : Int32) (v3 : Int32) (v4 : Int32) : Option (Mem) := bd2 (X5_goes N4 v4 v3) (fun t3 N5 => if t3 = 0 then (some N5) else (sto N5 28 264 (240 + l1) 0 (fun N6 => sto N6 30 2112 ((8 * (240 + l1)) + l2) l3 (fun N7 => sto N7 31 2112 ((8 * (240 + l1)) + l2) l4 (fun N8 => some N8)))))
def X5_corner_j48 (N3 : Mem) (l1 : Int32) (l2 : Int32) (l3 : Int32) (l4 : Int32) (v2 : Int32) : Option (Mem) := X5_corner_j49 N3 l1 l2 l3 l4 0 v2
def X5_corner_j23 (N2 : Mem) (l1 : Int32) (l2 : Int32) (l3 : Int32) (l4 : Int32) (v1 : Int32) : Option (Mem) := bd1 (X5_within N2 l3 0 96) (fun t2 => if t2 = 0 then (X5_corner_j48 N2 l1 l2 l3 l4 v1) else (bd1 (X5_within N2 l4 0 96) (fun t4 => if t4 = 0 then (X5_corner_j48 N2 l1 l2 l3 l4 v1) else (X5_corner_j49 N2 l1 l2 l3 l4 1 v1))))
def X5_corner_j22 (N1 : Mem) (l1 : Int32) (l2 : Int32) (l3 : Int32) (l4 : Int32) : Option (Mem) := X5_corner_j23 N1 l1 l2 l3 l4 0
def X5_corner (M : Mem) (l1 : Int32) (l2 : Int32) (l3 : Int32) (l4 : Int32) : Option (Mem) := bd1 (X5_isPatch M l1) (fun t1 => if t1 = 0 then (X5_corner_j22 M l1 l2 l3 l4) else (bd1 (X5_within M l2 0 7) (fun t5 => if t5 = 0 then (X5_corner_j22 M l1 l2 l3 l4) else (X5_corner_j23 M l1 l2 l3 l4 1))))
set_option maxHeartbeats 4000000 in
set_option maxRecDepth 100000 in
theorem X5_corner_j49_ok (hX : Cx p s m args meth c D cA ad n A sa cX5_corner 5 RX5 kX5_corner) {N4 : Mem} {l1 : Int32} {l2 : Int32} {l3 : Int32} {l4 : Int32} {v3 : Int32} {v4 : Int32} {Mf : Mem}  (hr : meth.sig.returnType = none) (ht : ∀ x ∈ c.exceptionTable.toList, False) (h : X5_corner_j49 N4 l1 l2 l3 l4 v3 v4 = some Mf) : JM 1 22 p l e s m args below meth c D cA ad n A 5 (.inl none) Mf N4 49 [(0, .ref (ad 27)), (1, .int l1), (2, .int l2), (3, .int l3), (4, .int l4)] [.int v3, .int v4, .ref (ad 27)] := by
  unfold X5_corner_j49 at h
  obtain ⟨t3, N5, hc, h⟩ := bd2_inv h
  refine J.callV1 (As := [.int v4, .int v3]) (rest := []) (k := 27) hX 25 rfl (mX5_goes  hc) okX5_goes w_137 (hX.lt (k := 27) (by decide)) sh_27 rfl rfl rfl (Nat.le_of_ble_eq_true rfl) ⟨Nat.le_of_ble_eq_true rfl, Nat.le_of_ble_eq_true rfl⟩ ⟨Nat.zero_le _, Nat.zero_le _⟩ ?_
  refine J.if_eq (tgt := 99) hX 26 rfl (by decide) (fun b3 => ?_) (fun b3 => ?_)
  · rw [if_pos b3] at h
    cases h
    exact J.vret hX hr 56 rfl
  · rw [if_neg b3] at h
    refine J.aload_n hX 27 0 rfl rfl ?_
    refine J.getR hX 28 27 5 (hX.lt (k := 27) (by decide)) sh_27 rfl in_wsX50 2 (by decide) w_75 rfl rfl ?_
    refine J.sipush (v := 240) hX 29 rfl (by decide) ?_
    refine J.iload_n hX 30 1 rfl rfl ?_
    refine J.iadd hX 31 rfl ?_
    refine J.iconst (v := 0) hX 32 rfl (by decide) ?_
    obtain ⟨N6, eN6, hb, h⟩ := sto_inv h
    refine J.iastN hX 33 28 (hX.lt (k := 28) (by decide)) sh_28 hb eN6 rfl ?_
    refine J.aload_n hX 34 0 rfl rfl ?_
    refine J.getR hX 35 27 5 (hX.lt (k := 27) (by decide)) sh_27 rfl in_wsX50 4 (by decide) w_77 rfl rfl ?_
    refine J.bipush (v := 8) hX 36 rfl (by decide) ?_
    refine J.sipush (v := 240) hX 37 rfl (by decide) ?_
    refine J.iload_n hX 38 1 rfl rfl ?_
    refine J.iadd hX 39 rfl ?_
    refine J.imul hX 40 rfl ?_
    refine J.iload_n hX 41 2 rfl rfl ?_
    refine J.iadd hX 42 rfl ?_
    refine J.iload_n hX 43 3 rfl rfl ?_
    obtain ⟨N7, eN7, hb, h⟩ := sto_inv h
    refine J.iastN hX 44 30 (hX.lt (k := 30) (by decide)) sh_30 hb eN7 rfl ?_
    refine J.aload_n hX 45 0 rfl rfl ?_
    refine J.getR hX 46 27 5 (hX.lt (k := 27) (by decide)) sh_27 rfl in_wsX50 5 (by decide) w_78 rfl rfl ?_
    refine J.bipush (v := 8) hX 47 rfl (by decide) ?_
    refine J.sipush (v := 240) hX 48 rfl (by decide) ?_
    refine J.iload_n hX 49 1 rfl rfl ?_
    refine J.iadd hX 50 rfl ?_
    refine J.imul hX 51 rfl ?_
    refine J.iload_n hX 52 2 rfl rfl ?_
    refine J.iadd hX 53 rfl ?_
    refine J.iload hX 54 4 rfl rfl ?_
    obtain ⟨N8, eN8, hb, h⟩ := sto_inv h
    refine J.iastN hX 55 31 (hX.lt (k := 31) (by decide)) sh_31 hb eN8 rfl ?_
    cases h
    exact J.vret hX hr 56 rfl
set_option maxHeartbeats 4000000 in
set_option maxRecDepth 100000 in
theorem X5_corner_j48_ok (hX : Cx p s m args meth c D cA ad n A sa cX5_corner 5 RX5 kX5_corner) {N3 : Mem} {l1 : Int32} {l2 : Int32} {l3 : Int32} {l4 : Int32} {v2 : Int32} {Mf : Mem}  (hr : meth.sig.returnType = none) (ht : ∀ x ∈ c.exceptionTable.toList, False) (h : X5_corner_j48 N3 l1 l2 l3 l4 v2 = some Mf) : JM 1 22 p l e s m args below meth c D cA ad n A 5 (.inl none) Mf N3 48 [(0, .ref (ad 27)), (1, .int l1), (2, .int l2), (3, .int l3), (4, .int l4)] [.int v2, .ref (ad 27)] := by
  unfold X5_corner_j48 at h
  refine J.iconst (v := 0) hX 24 rfl (by decide) ?_
  refine J.sub (L' := [(0, .ref (ad 27)), (1, .int l1), (2, .int l2), (3, .int l3), (4, .int l4)]) [0, 1, 2, 3, 4] rfl ?_
  exact X5_corner_j49_ok hX  hr ht h
set_option maxHeartbeats 4000000 in
set_option maxRecDepth 100000 in
theorem X5_corner_j23_ok (hX : Cx p s m args meth c D cA ad n A sa cX5_corner 5 RX5 kX5_corner) {N2 : Mem} {l1 : Int32} {l2 : Int32} {l3 : Int32} {l4 : Int32} {v1 : Int32} {Mf : Mem}  (hr : meth.sig.returnType = none) (ht : ∀ x ∈ c.exceptionTable.toList, False) (h : X5_corner_j23 N2 l1 l2 l3 l4 v1 = some Mf) : JM 1 22 p l e s m args below meth c D cA ad n A 5 (.inl none) Mf N2 23 [(0, .ref (ad 27)), (1, .int l1), (2, .int l2), (3, .int l3), (4, .int l4)] [.int v1, .ref (ad 27)] := by
  unfold X5_corner_j23 at h
  refine J.iload_n hX 12 3 rfl rfl ?_
  refine J.iconst (v := 0) hX 13 rfl (by decide) ?_
  refine J.bipush (v := 96) hX 14 rfl (by decide) ?_
  obtain ⟨t2, hc, h⟩ := bd1_inv h
  refine J.callS1 (As := [.int l3, .int 0, .int 96]) (rest := [.int v1, .ref (ad 27)]) hX 15 rfl (mX5_within  hc) okX5_within w_134 rfl rfl (Nat.le_of_ble_eq_true rfl) ⟨Nat.le_of_ble_eq_true rfl, Nat.le_of_ble_eq_true rfl⟩ ⟨Nat.zero_le _, Nat.zero_le _⟩ ?_
  refine J.if_eq (tgt := 48) hX 16 rfl (by decide) (fun b2 => ?_) (fun b2 => ?_)
  · rw [if_pos b2] at h
    refine J.sub (L' := [(0, .ref (ad 27)), (1, .int l1), (2, .int l2), (3, .int l3), (4, .int l4)]) [0, 1, 2, 3, 4] rfl ?_
    exact X5_corner_j48_ok hX  hr ht h
  · rw [if_neg b2] at h
    refine J.iload hX 17 4 rfl rfl ?_
    refine J.iconst (v := 0) hX 18 rfl (by decide) ?_
    refine J.bipush (v := 96) hX 19 rfl (by decide) ?_
    obtain ⟨t4, hc, h⟩ := bd1_inv h
    refine J.callS1 (As := [.int l4, .int 0, .int 96]) (rest := [.int v1, .ref (ad 27)]) hX 20 rfl (mX5_within  hc) okX5_within w_134 rfl rfl (Nat.le_of_ble_eq_true rfl) ⟨Nat.le_of_ble_eq_true rfl, Nat.le_of_ble_eq_true rfl⟩ ⟨Nat.zero_le _, Nat.zero_le _⟩ ?_
    refine J.if_eq (tgt := 48) hX 21 rfl (by decide) (fun b4 => ?_) (fun b4 => ?_)
    · rw [if_pos b4] at h
      refine J.sub (L' := [(0, .ref (ad 27)), (1, .int l1), (2, .int l2), (3, .int l3), (4, .int l4)]) [0, 1, 2, 3, 4] rfl ?_
      exact X5_corner_j48_ok hX  hr ht h
    · rw [if_neg b4] at h
      refine J.iconst (v := 1) hX 22 rfl (by decide) ?_
      refine J.goto (tgt := 49) hX 23 rfl (by decide) ?_
      refine J.sub (L' := [(0, .ref (ad 27)), (1, .int l1), (2, .int l2), (3, .int l3), (4, .int l4)]) [0, 1, 2, 3, 4] rfl ?_
      exact X5_corner_j49_ok hX  hr ht h
set_option maxHeartbeats 4000000 in
set_option maxRecDepth 100000 in
theorem X5_corner_j22_ok (hX : Cx p s m args meth c D cA ad n A sa cX5_corner 5 RX5 kX5_corner) {N1 : Mem} {l1 : Int32} {l2 : Int32} {l3 : Int32} {l4 : Int32} {Mf : Mem}  (hr : meth.sig.returnType = none) (ht : ∀ x ∈ c.exceptionTable.toList, False) (h : X5_corner_j22 N1 l1 l2 l3 l4 = some Mf) : JM 1 22 p l e s m args below meth c D cA ad n A 5 (.inl none) Mf N1 22 [(0, .ref (ad 27)), (1, .int l1), (2, .int l2), (3, .int l3), (4, .int l4)] [.ref (ad 27)] := by
  unfold X5_corner_j22 at h
  refine J.iconst (v := 0) hX 11 rfl (by decide) ?_
  refine J.sub (L' := [(0, .ref (ad 27)), (1, .int l1), (2, .int l2), (3, .int l3), (4, .int l4)]) [0, 1, 2, 3, 4] rfl ?_
  exact X5_corner_j23_ok hX  hr ht h
set_option maxHeartbeats 4000000 in
set_option maxRecDepth 100000 in
theorem mX5_corner {l : Launch} {D : va_G} {cA : Nat → ClassId} {ad : Nat → Nat} {n : Nat} {A : Nat → Prop} {sa : Nat → Nat} {M : Mem} {l1 : Int32} {l2 : Int32} {l3 : Int32} {l4 : Int32} {Mf : Mem} (h : X5_corner M l1 l2 l3 l4 = some Mf) : CT l D cA ad n A sa yX5_corner cX5_corner 5 none 1 22 [.ref (ad 27), .int l1, .int l2, .int l3, .int l4] M (.inl none) Mf := by
  refine CT.of (kt := kX5_corner) (by decide) kX5_corner_ok (Nat.le_of_ble_eq_true rfl) ?_
  intro p e s m args below meth c hX hr ht
  unfold X5_corner at h
  refine J.sub (L' := [(0, .ref (ad 27)), (1, .int l1), (2, .int l2), (3, .int l3), (4, .int l4)]) [0, 1, 2, 3, 4] rfl ?_
  refine J.aload_n hX 0 0 rfl rfl ?_
  refine J.iload_n hX 1 1 rfl rfl ?_
  obtain ⟨t1, hc, h⟩ := bd1_inv h
  refine J.callS1 (As := [.int l1]) (rest := [.ref (ad 27)]) hX 2 rfl (mX5_isPatch  hc) okX5_isPatch w_131 rfl rfl (Nat.le_of_ble_eq_true rfl) ⟨Nat.le_of_ble_eq_true rfl, Nat.le_of_ble_eq_true rfl⟩ ⟨Nat.zero_le _, Nat.zero_le _⟩ ?_
  refine J.if_eq (tgt := 22) hX 3 rfl (by decide) (fun b1 => ?_) (fun b1 => ?_)
  · rw [if_pos b1] at h
    refine J.sub (L' := [(0, .ref (ad 27)), (1, .int l1), (2, .int l2), (3, .int l3), (4, .int l4)]) [0, 1, 2, 3, 4] rfl ?_
    exact X5_corner_j22_ok hX  hr ht h
  · rw [if_neg b1] at h
    refine J.iload_n hX 4 2 rfl rfl ?_
    refine J.iconst (v := 0) hX 5 rfl (by decide) ?_
    refine J.bipush (v := 7) hX 6 rfl (by decide) ?_
    obtain ⟨t5, hc, h⟩ := bd1_inv h
    refine J.callS1 (As := [.int l2, .int 0, .int 7]) (rest := [.ref (ad 27)]) hX 7 rfl (mX5_within  hc) okX5_within w_134 rfl rfl (Nat.le_of_ble_eq_true rfl) ⟨Nat.le_of_ble_eq_true rfl, Nat.le_of_ble_eq_true rfl⟩ ⟨Nat.zero_le _, Nat.zero_le _⟩ ?_
    refine J.if_eq (tgt := 22) hX 8 rfl (by decide) (fun b5 => ?_) (fun b5 => ?_)
    · rw [if_pos b5] at h
      refine J.sub (L' := [(0, .ref (ad 27)), (1, .int l1), (2, .int l2), (3, .int l3), (4, .int l4)]) [0, 1, 2, 3, 4] rfl ?_
      exact X5_corner_j22_ok hX  hr ht h
    · rw [if_neg b5] at h
      refine J.iconst (v := 1) hX 9 rfl (by decide) ?_
      refine J.goto (tgt := 23) hX 10 rfl (by decide) ?_
      refine J.sub (L' := [(0, .ref (ad 27)), (1, .int l1), (2, .int l2), (3, .int l3), (4, .int l4)]) [0, 1, 2, 3, 4] rfl ?_
      exact X5_corner_j23_ok hX  hr ht h
def X5_close_j20 (N2 : Mem) (l1 : Int32) (l2 : Int32) (l3 : Int32) (v1 : Int32) : Option (Int32 × Mem) := bd1 (X5_within N2 l2 3 8) (fun t2 => bd2 (X5_goes N2 v1 t2) (fun t3 N3 => if t3 = 0 then (some (0, N3)) else (bnd ((240 + l1)) (fun t4 => sto N3 28 264 t4 l2 (fun N4 => sto N4 29 264 t4 l3 (fun N5 => bd1 (X5_isConvex N5 t4) (fun t5 => if t5 = 0 then (sto N5 28 264 t4 0 (fun N6 => some (0, N6))) else (bd1 (X5_areaOf N5 t4) (fun t6 => some (t6, N5))))))))))
def X5_close_j19 (N1 : Mem) (l1 : Int32) (l2 : Int32) (l3 : Int32) : Option (Int32 × Mem) := X5_close_j20 N1 l1 l2 l3 0
def X5_close (M : Mem) (l1 : Int32) (l2 : Int32) (l3 : Int32) : Option (Int32 × Mem) := bd1 (X5_isPatch M l1) (fun t1 => if t1 = 0 then (X5_close_j19 M l1 l2 l3) else (bd1 (X5_isCloth M l3) (fun t7 => if t7 = 0 then (X5_close_j19 M l1 l2 l3) else (X5_close_j20 M l1 l2 l3 1))))
set_option maxHeartbeats 4000000 in
set_option maxRecDepth 100000 in
theorem X5_close_j20_ok (hX : Cx p s m args meth c D cA ad n A sa cX5_close 5 RX5 kX5_close) {N2 : Mem} {l1 : Int32} {l2 : Int32} {l3 : Int32} {v1 : Int32} {r : Int32} {Mf : Mem}  (hr : meth.sig.returnType = (some .int)) (ht : ∀ x ∈ c.exceptionTable.toList, False) (h : X5_close_j20 N2 l1 l2 l3 v1 = some (r, Mf)) : JM 3 73 p l e s m args below meth c D cA ad n A 5 (.inl (some (.int r))) Mf N2 20 [(0, .ref (ad 27)), (1, .int l1), (2, .int l2), (3, .int l3)] [.int v1, .ref (ad 27)] := by
  unfold X5_close_j20 at h
  refine J.iload_n hX 10 2 rfl rfl ?_
  refine J.iconst (v := 3) hX 11 rfl (by decide) ?_
  refine J.bipush (v := 8) hX 12 rfl (by decide) ?_
  obtain ⟨t2, hc, h⟩ := bd1_inv h
  refine J.callS1 (As := [.int l2, .int 3, .int 8]) (rest := [.int v1, .ref (ad 27)]) hX 13 rfl (mX5_within  hc) okX5_within w_134 rfl rfl (Nat.le_of_ble_eq_true rfl) ⟨Nat.le_of_ble_eq_true rfl, Nat.le_of_ble_eq_true rfl⟩ ⟨Nat.zero_le _, Nat.zero_le _⟩ ?_
  obtain ⟨t3, N3, hc, h⟩ := bd2_inv h
  refine J.callV1 (As := [.int v1, .int t2]) (rest := []) (k := 27) hX 14 rfl (mX5_goes  hc) okX5_goes w_137 (hX.lt (k := 27) (by decide)) sh_27 rfl rfl rfl (Nat.le_of_ble_eq_true rfl) ⟨Nat.le_of_ble_eq_true rfl, Nat.le_of_ble_eq_true rfl⟩ ⟨Nat.zero_le _, Nat.zero_le _⟩ ?_
  refine J.if_ne (tgt := 35) hX 15 rfl (by decide) (fun b2 => ?_) (fun b2 => ?_)
  · rw [if_neg b2] at h
    refine J.sipush (v := 240) hX 18 rfl (by decide) ?_
    refine J.iload_n hX 19 1 rfl rfl ?_
    refine J.iadd hX 20 rfl ?_
    obtain ⟨t4, et4, h⟩ := bnd_inv h
    refine J.nm et4 ?_
    refine J.istore (L' := [(4, .int t4), (0, .ref (ad 27)), (1, .int l1), (2, .int l2), (3, .int l3)]) hX 21 rfl (by decide) rfl ?_
    refine J.aload_n hX 22 1 rfl rfl ?_
    refine J.getR hX 23 27 5 (hX.lt (k := 27) (by decide)) sh_27 rfl in_wsX50 2 (by decide) w_75 rfl rfl ?_
    refine J.iload hX 24 0 rfl rfl ?_
    refine J.iload_n hX 25 3 rfl rfl ?_
    obtain ⟨N4, eN4, hb, h⟩ := sto_inv h
    refine J.iastN hX 26 28 (hX.lt (k := 28) (by decide)) sh_28 hb eN4 rfl ?_
    refine J.aload_n hX 27 1 rfl rfl ?_
    refine J.getR hX 28 27 5 (hX.lt (k := 27) (by decide)) sh_27 rfl in_wsX50 3 (by decide) w_76 rfl rfl ?_
    refine J.iload hX 29 0 rfl rfl ?_
    refine J.iload_n hX 30 4 rfl rfl ?_
    obtain ⟨N5, eN5, hb, h⟩ := sto_inv h
    refine J.iastN hX 31 29 (hX.lt (k := 29) (by decide)) sh_29 hb eN5 rfl ?_
    refine J.aload_n hX 32 1 rfl rfl ?_
    refine J.iload hX 33 0 rfl rfl ?_
    obtain ⟨t5, hc, h⟩ := bd1_inv h
    refine J.callV1 (As := [.int t4]) (rest := []) (k := 27) hX 34 rfl (mX5_isConvex  hc) okX5_isConvex w_180 (hX.lt (k := 27) (by decide)) sh_27 rfl rfl rfl (Nat.le_of_ble_eq_true rfl) ⟨Nat.le_of_ble_eq_true rfl, Nat.le_of_ble_eq_true rfl⟩ ⟨Nat.zero_le _, Nat.zero_le _⟩ ?_
    refine J.if_ne (tgt := 77) hX 35 rfl (by decide) (fun b3 => ?_) (fun b3 => ?_)
    · rw [if_neg b3] at h
      refine J.aload_n hX 43 1 rfl rfl ?_
      refine J.iload hX 44 0 rfl rfl ?_
      obtain ⟨t6, hc, h⟩ := bd1_inv h
      refine J.callV1 (As := [.int t4]) (rest := []) (k := 27) hX 45 rfl (mX5_areaOf  hc) okX5_areaOf w_192 (hX.lt (k := 27) (by decide)) sh_27 rfl rfl rfl (Nat.le_of_ble_eq_true rfl) ⟨Nat.le_of_ble_eq_true rfl, Nat.le_of_ble_eq_true rfl⟩ ⟨Nat.zero_le _, Nat.zero_le _⟩ ?_
      cases h
      exact J.iret hX hr 46 rfl
    · rw [if_pos b3] at h
      refine J.aload_n hX 36 1 rfl rfl ?_
      refine J.getR hX 37 27 5 (hX.lt (k := 27) (by decide)) sh_27 rfl in_wsX50 2 (by decide) w_75 rfl rfl ?_
      refine J.iload hX 38 0 rfl rfl ?_
      refine J.iconst (v := 0) hX 39 rfl (by decide) ?_
      obtain ⟨N6, eN6, hb, h⟩ := sto_inv h
      refine J.iastN hX 40 28 (hX.lt (k := 28) (by decide)) sh_28 hb eN6 rfl ?_
      refine J.iconst (v := 0) hX 41 rfl (by decide) ?_
      cases h
      exact J.iret hX hr 42 rfl
  · rw [if_pos b2] at h
    refine J.iconst (v := 0) hX 16 rfl (by decide) ?_
    cases h
    exact J.iret hX hr 17 rfl
set_option maxHeartbeats 4000000 in
set_option maxRecDepth 100000 in
theorem X5_close_j19_ok (hX : Cx p s m args meth c D cA ad n A sa cX5_close 5 RX5 kX5_close) {N1 : Mem} {l1 : Int32} {l2 : Int32} {l3 : Int32} {r : Int32} {Mf : Mem}  (hr : meth.sig.returnType = (some .int)) (ht : ∀ x ∈ c.exceptionTable.toList, False) (h : X5_close_j19 N1 l1 l2 l3 = some (r, Mf)) : JM 3 73 p l e s m args below meth c D cA ad n A 5 (.inl (some (.int r))) Mf N1 19 [(0, .ref (ad 27)), (1, .int l1), (2, .int l2), (3, .int l3)] [.ref (ad 27)] := by
  unfold X5_close_j19 at h
  refine J.iconst (v := 0) hX 9 rfl (by decide) ?_
  refine J.sub (L' := [(0, .ref (ad 27)), (1, .int l1), (2, .int l2), (3, .int l3)]) [0, 1, 2, 3] rfl ?_
  exact X5_close_j20_ok hX  hr ht h
set_option maxHeartbeats 4000000 in
set_option maxRecDepth 100000 in
theorem mX5_close {l : Launch} {D : va_G} {cA : Nat → ClassId} {ad : Nat → Nat} {n : Nat} {A : Nat → Prop} {sa : Nat → Nat} {M : Mem} {l1 : Int32} {l2 : Int32} {l3 : Int32} {r : Int32} {Mf : Mem} (h : X5_close M l1 l2 l3 = some (r, Mf)) : CT l D cA ad n A sa yX5_close cX5_close 5 (some .int) 3 73 [.ref (ad 27), .int l1, .int l2, .int l3] M (.inl (some (.int r))) Mf := by
  refine CT.of (kt := kX5_close) (by decide) kX5_close_ok (Nat.le_of_ble_eq_true rfl) ?_
  intro p e s m args below meth c hX hr ht
  unfold X5_close at h
  refine J.sub (L' := [(0, .ref (ad 27)), (1, .int l1), (2, .int l2), (3, .int l3)]) [0, 1, 2, 3] rfl ?_
  refine J.aload_n hX 0 0 rfl rfl ?_
  refine J.iload_n hX 1 1 rfl rfl ?_
  obtain ⟨t1, hc, h⟩ := bd1_inv h
  refine J.callS1 (As := [.int l1]) (rest := [.ref (ad 27)]) hX 2 rfl (mX5_isPatch  hc) okX5_isPatch w_131 rfl rfl (Nat.le_of_ble_eq_true rfl) ⟨Nat.le_of_ble_eq_true rfl, Nat.le_of_ble_eq_true rfl⟩ ⟨Nat.zero_le _, Nat.zero_le _⟩ ?_
  refine J.if_eq (tgt := 19) hX 3 rfl (by decide) (fun b1 => ?_) (fun b1 => ?_)
  · rw [if_pos b1] at h
    refine J.sub (L' := [(0, .ref (ad 27)), (1, .int l1), (2, .int l2), (3, .int l3)]) [0, 1, 2, 3] rfl ?_
    exact X5_close_j19_ok hX  hr ht h
  · rw [if_neg b1] at h
    refine J.iload_n hX 4 3 rfl rfl ?_
    obtain ⟨t7, hc, h⟩ := bd1_inv h
    refine J.callS1 (As := [.int l3]) (rest := [.ref (ad 27)]) hX 5 rfl (mX5_isCloth  hc) okX5_isCloth w_177 rfl rfl (Nat.le_of_ble_eq_true rfl) ⟨Nat.le_of_ble_eq_true rfl, Nat.le_of_ble_eq_true rfl⟩ ⟨Nat.zero_le _, Nat.zero_le _⟩ ?_
    refine J.if_eq (tgt := 19) hX 6 rfl (by decide) (fun b4 => ?_) (fun b4 => ?_)
    · rw [if_pos b4] at h
      refine J.sub (L' := [(0, .ref (ad 27)), (1, .int l1), (2, .int l2), (3, .int l3)]) [0, 1, 2, 3] rfl ?_
      exact X5_close_j19_ok hX  hr ht h
    · rw [if_neg b4] at h
      refine J.iconst (v := 1) hX 7 rfl (by decide) ?_
      refine J.goto (tgt := 20) hX 8 rfl (by decide) ?_
      refine J.sub (L' := [(0, .ref (ad 27)), (1, .int l1), (2, .int l2), (3, .int l3)]) [0, 1, 2, 3] rfl ?_
      exact X5_close_j20_ok hX  hr ht h
def X5_open_j32 (N2 : Mem) (l1 : Int32) (v1 : Int32) : Option (Int32 × Mem) := sto N2 28 264 (240 + l1) 0 (fun N3 => chk (isB v1) (some (v1, N3)))
def X5_open (M : Mem) (l1 : Int32) : Option (Int32 × Mem) := bd1 (X5_isPatch M l1) (fun t1 => bd2 (X5_goes M t1 1) (fun t2 N1 => if t2 = 0 then (chk (isB 0) (some (0, N1))) else (ld N1 28 264 (240 + l1) (fun t3 => if t3 ≤ 0 then (X5_open_j32 N1 l1 0) else (X5_open_j32 N1 l1 1)))))
set_option maxHeartbeats 4000000 in
set_option maxRecDepth 100000 in
theorem X5_open_j32_ok (hX : Cx p s m args meth c D cA ad n A sa cX5_open 3 RX5 kX5_open) {N2 : Mem} {l1 : Int32} {v1 : Int32} {r : Int32} {Mf : Mem}  (hr : meth.sig.returnType = (some .boolean)) (ht : ∀ x ∈ c.exceptionTable.toList, False) (h : X5_open_j32 N2 l1 v1 = some (r, Mf)) : JM 1 22 p l e s m args below meth c D cA ad n A 3 (.inl (some (.int r))) Mf N2 32 [(0, .ref (ad 27)), (1, .int l1)] [.int v1] := by
  unfold X5_open_j32 at h
  refine J.istore_n (L' := [(2, .int v1), (0, .ref (ad 27)), (1, .int l1)]) hX 18 rfl (by decide) rfl ?_
  refine J.aload_n hX 19 1 rfl rfl ?_
  refine J.getR hX 20 27 5 (hX.lt (k := 27) (by decide)) sh_27 rfl in_wsX50 2 (by decide) w_75 rfl rfl ?_
  refine J.sipush (v := 240) hX 21 rfl (by decide) ?_
  refine J.iload_n hX 22 2 rfl rfl ?_
  refine J.iadd hX 23 rfl ?_
  refine J.iconst (v := 0) hX 24 rfl (by decide) ?_
  obtain ⟨N3, eN3, hb, h⟩ := sto_inv h
  refine J.iastN hX 25 28 (hX.lt (k := 28) (by decide)) sh_28 hb eN3 rfl ?_
  refine J.iload_n hX 26 0 rfl rfl ?_
  obtain ⟨hz, h⟩ := chk_inv h
  cases h
  exact J.zret hX hr 27 (isB_nar hz) rfl
set_option maxHeartbeats 4000000 in
set_option maxRecDepth 100000 in
theorem mX5_open {l : Launch} {D : va_G} {cA : Nat → ClassId} {ad : Nat → Nat} {n : Nat} {A : Nat → Prop} {sa : Nat → Nat} {M : Mem} {l1 : Int32} {r : Int32} {Mf : Mem} (h : X5_open M l1 = some (r, Mf)) : CT l D cA ad n A sa yX5_open cX5_open 3 (some .boolean) 1 22 [.ref (ad 27), .int l1] M (.inl (some (.int r))) Mf := by
  refine CT.of (kt := kX5_open) (by decide) kX5_open_ok (Nat.le_of_ble_eq_true rfl) ?_
  intro p e s m args below meth c hX hr ht
  unfold X5_open at h
  refine J.sub (L' := [(0, .ref (ad 27)), (1, .int l1)]) [0, 1] rfl ?_
  refine J.aload_n hX 0 0 rfl rfl ?_
  refine J.iload_n hX 1 1 rfl rfl ?_
  obtain ⟨t1, hc, h⟩ := bd1_inv h
  refine J.callS1 (As := [.int l1]) (rest := [.ref (ad 27)]) hX 2 rfl (mX5_isPatch  hc) okX5_isPatch w_131 rfl rfl (Nat.le_of_ble_eq_true rfl) ⟨Nat.le_of_ble_eq_true rfl, Nat.le_of_ble_eq_true rfl⟩ ⟨Nat.zero_le _, Nat.zero_le _⟩ ?_
  refine J.iconst (v := 1) hX 3 rfl (by decide) ?_
  obtain ⟨t2, N1, hc, h⟩ := bd2_inv h
  refine J.callV1 (As := [.int t1, .int 1]) (rest := []) (k := 27) hX 4 rfl (mX5_goes  hc) okX5_goes w_137 (hX.lt (k := 27) (by decide)) sh_27 rfl rfl rfl (Nat.le_of_ble_eq_true rfl) ⟨Nat.le_of_ble_eq_true rfl, Nat.le_of_ble_eq_true rfl⟩ ⟨Nat.zero_le _, Nat.zero_le _⟩ ?_
  refine J.if_ne (tgt := 14) hX 5 rfl (by decide) (fun b1 => ?_) (fun b1 => ?_)
  · rw [if_neg b1] at h
    refine J.aload_n hX 8 0 rfl rfl ?_
    refine J.getR hX 9 27 5 (hX.lt (k := 27) (by decide)) sh_27 rfl in_wsX50 2 (by decide) w_75 rfl rfl ?_
    refine J.sipush (v := 240) hX 10 rfl (by decide) ?_
    refine J.iload_n hX 11 1 rfl rfl ?_
    refine J.iadd hX 12 rfl ?_
    obtain ⟨t3, et3, hb, h⟩ := ld_inv h
    refine J.ialdN hX 13 28 (hX.lt (k := 28) (by decide)) sh_28 hb et3 rfl ?_
    refine J.if_le (tgt := 31) hX 14 rfl (by decide) (fun b2 => ?_) (fun b2 => ?_)
    · rw [if_pos b2] at h
      refine J.iconst (v := 0) hX 17 rfl (by decide) ?_
      refine J.sub (L' := [(0, .ref (ad 27)), (1, .int l1)]) [0, 1] rfl ?_
      exact X5_open_j32_ok hX  hr ht h
    · rw [if_neg b2] at h
      refine J.iconst (v := 1) hX 15 rfl (by decide) ?_
      refine J.goto (tgt := 32) hX 16 rfl (by decide) ?_
      refine J.sub (L' := [(0, .ref (ad 27)), (1, .int l1)]) [0, 1] rfl ?_
      exact X5_open_j32_ok hX  hr ht h
  · rw [if_pos b1] at h
    refine J.iconst (v := 0) hX 6 rfl (by decide) ?_
    obtain ⟨hz, h⟩ := chk_inv h
    cases h
    exact J.zret hX hr 7 (isB_nar hz) rfl
def X5_closed_L6_j29 (M : Mem) (v1 : Int32) (v2 : Int32) : Option ((Int32 × Int32) ⊕ (Int32)) := bnd (v1 + 1) (fun t2 => some (.inl (v2, t2)))
def X5_closed_L6 (M : Mem) (q9 : Int32 × Int32) : Option ((Int32 × Int32) ⊕ (Int32)) := un2 q9 (fun c1 c2 => if 264 ≤ c2 then (some (.inr c1)) else (ld M 28 264 c2 (fun t1 => if t1 ≤ 0 then (X5_closed_L6_j29 M c2 c1) else (X5_closed_L6_j29 M c2 (c1 + 1)))))
def X5_closed (M : Mem) : Option (Int32) := bd1 (loop (X5_closed_L6 M) 3000 (0, 240)) (fun x1 => some x1)
set_option maxHeartbeats 4000000 in
set_option maxRecDepth 100000 in
theorem X5_closed_L6_j29_ok (hX : Cx p s m args meth c D cA ad n A sa cX5_closed 3 RX5 kX5_closed) {M : Mem} {v1 : Int32} {v2 : Int32}  {r : (Int32 × Int32) ⊕ (Int32)} (h : X5_closed_L6_j29 M v1 v2 = some r) (hin : ∀ (q0 : Int32) (q1 : Int32), r = .inl (q0, q1) → JM 0 0 p l e s m args below meth c D cA ad n A 3 out M1 M 6 [(0, .ref (ad 27)), (1, .int q0), (2, .int q1)] []) (hex0 : ∀ (q0 : Int32), r = .inr q0 → JM 0 0 p l e s m args below meth c D cA ad n A 3 out M1 M 36 [(1, .int q0)] []) : JM 0 0 p l e s m args below meth c D cA ad n A 3 out M1 M 29 [(0, .ref (ad 27)), (2, .int v1)] [.int v2] := by
  unfold X5_closed_L6_j29 at h
  refine J.istore_n (L' := [(1, .int v2), (0, .ref (ad 27)), (2, .int v1)]) hX 17 rfl (by decide) rfl ?_
  obtain ⟨t2, et2, h⟩ := bnd_inv h
  refine J.iinc (q := 2) (L' := [(2, .int t2), (1, .int v2), (0, .ref (ad 27))]) hX 18 rfl rfl et2 (by decide) rfl ?_
  refine J.goto (tgt := 6) hX 19 rfl (by decide) ?_
  refine J.sub (L' := [(0, .ref (ad 27)), (1, .int v2), (2, .int t2)]) [2, 1, 0] rfl ?_
  exact hin _ _ (Option.some.inj h).symm
set_option maxHeartbeats 4000000 in
set_option maxRecDepth 100000 in
theorem X5_closed_L6_ok (hX : Cx p s m args meth c D cA ad n A sa cX5_closed 3 RX5 kX5_closed) {M : Mem}  {c1 : Int32} {c2 : Int32}  {r : (Int32 × Int32) ⊕ (Int32)} (h : X5_closed_L6 M (c1, c2) = some r) (hin : ∀ (q0 : Int32) (q1 : Int32), r = .inl (q0, q1) → JM 0 0 p l e s m args below meth c D cA ad n A 3 out M1 M 6 [(0, .ref (ad 27)), (1, .int q0), (2, .int q1)] []) (hex0 : ∀ (q0 : Int32), r = .inr q0 → JM 0 0 p l e s m args below meth c D cA ad n A 3 out M1 M 36 [(1, .int q0)] []) : JM 0 0 p l e s m args below meth c D cA ad n A 3 out M1 M 6 [(0, .ref (ad 27)), (1, .int c1), (2, .int c2)] [] := by
  unfold X5_closed_L6 at h
  have h := un2_inv h
  refine J.iload_n hX 4 2 rfl rfl ?_
  refine J.sipush (v := 264) hX 5 rfl (by decide) ?_
  refine J.icmp_ge (tgt := 36) hX 6 rfl (by decide) (fun b1 => ?_) (fun b1 => ?_)
  · rw [if_pos b1] at h
    refine J.sub (L' := [(1, .int c1)]) [1] rfl ?_
    exact hex0 _ (Option.some.inj h).symm
  · rw [if_neg b1] at h
    refine J.aload_n hX 7 0 rfl rfl ?_
    refine J.getR hX 8 27 5 (hX.lt (k := 27) (by decide)) sh_27 rfl in_wsX50 2 (by decide) w_75 rfl rfl ?_
    refine J.iload_n hX 9 2 rfl rfl ?_
    obtain ⟨t1, et1, hb, h⟩ := ld_inv h
    refine J.ialdN hX 10 28 (hX.lt (k := 28) (by decide)) sh_28 hb et1 rfl ?_
    refine J.if_le (tgt := 28) hX 11 rfl (by decide) (fun b2 => ?_) (fun b2 => ?_)
    · rw [if_pos b2] at h
      refine J.iload_n hX 16 1 rfl rfl ?_
      refine J.sub (L' := [(0, .ref (ad 27)), (2, .int c2)]) [0, 2] rfl ?_
      exact X5_closed_L6_j29_ok hX  h hin hex0
    · rw [if_neg b2] at h
      refine J.iload_n hX 12 1 rfl rfl ?_
      refine J.iconst (v := 1) hX 13 rfl (by decide) ?_
      refine J.iadd hX 14 rfl ?_
      refine J.goto (tgt := 29) hX 15 rfl (by decide) ?_
      refine J.sub (L' := [(0, .ref (ad 27)), (2, .int c2)]) [0, 2] rfl ?_
      exact X5_closed_L6_j29_ok hX  h hin hex0
set_option maxHeartbeats 4000000 in
set_option maxRecDepth 100000 in
theorem mX5_closed {l : Launch} {D : va_G} {cA : Nat → ClassId} {ad : Nat → Nat} {n : Nat} {A : Nat → Prop} {sa : Nat → Nat} {M : Mem} {r : Int32} (h : X5_closed M = some r) : CT l D cA ad n A sa yX5_closed cX5_closed 3 (some .int) 0 0 [.ref (ad 27)] M (.inl (some (.int r))) M := by
  refine CT.of (kt := kX5_closed) (by decide) kX5_closed_ok (Nat.le_of_ble_eq_true rfl) ?_
  intro p e s m args below meth c hX hr ht
  unfold X5_closed at h
  refine J.sub (L' := [(0, .ref (ad 27))]) [0] rfl ?_
  refine J.iconst (v := 0) hX 0 rfl (by decide) ?_
  refine J.istore_n (L' := [(1, .int 0), (0, .ref (ad 27))]) hX 1 rfl (by decide) rfl ?_
  refine J.sipush (v := 240) hX 2 rfl (by decide) ?_
  refine J.istore_n (L' := [(2, .int 240), (1, .int 0), (0, .ref (ad 27))]) hX 3 rfl (by decide) rfl ?_
  refine J.sub (L' := [(0, .ref (ad 27)), (1, .int 0), (2, .int 240)]) [2, 1, 0] rfl ?_
  obtain ⟨x1, hlp, h⟩ := bd1_inv h
  suffices hE : JM 0 0 p l e s m args below meth c D cA ad n A 3 (.inl (some (.int r))) M M 36 [(1, .int x1)] [] by
    exact loop_ok (fun q9 : Int32 × Int32 => JM 0 0 p l e s m args below meth c D cA ad n A 3 (.inl (some (.int r))) M M 6 [(0, .ref (ad 27)), (1, .int q9.1), (2, .int q9.2)] []) (fun q9 r hB hst hex9 => X5_closed_L6_ok hX  hB (fun _ _ hr => hst _ hr) (fun _ hr => by cases hex9 _ hr; exact hE)) 3000 _ hlp
  refine J.iload_n hX 20 0 rfl rfl ?_
  cases h
  exact J.iret hX hr 21 rfl
def X5_clear_L14 (t1 : Int32) (q9 : Int32 × Mem) : Option ((Int32 × Mem) ⊕ (Mem)) := un2 q9 (fun c1 N2 => if 264 ≤ c1 then (some (.inr N2)) else (sto N2 28 264 c1 0 (fun N3 => bnd (c1 + 1) (fun t2 => some (.inl (t2, N3))))))
def X5_clear (M : Mem) : Option (Int32 × Mem) := bnd (wr M 27 0 0) (fun N1 => bd1 (X5_closed N1) (fun t1 => bd1 (loop (X5_clear_L14 t1) 3000 (240, N1)) (fun N4 => some (t1, N4))))
set_option maxHeartbeats 4000000 in
set_option maxRecDepth 100000 in
theorem X5_clear_L14_ok (hX : Cx p s m args meth c D cA ad n A sa cX5_clear 3 RX5 kX5_clear) {N2 : Mem} {t1 : Int32} {c1 : Int32}  {r : (Int32 × Mem) ⊕ (Mem)} (h : X5_clear_L14 t1 (c1, N2) = some r) (hin : ∀ (q0 : Int32) (Mq : Mem), r = .inl (q0, Mq) → JM 1 22 p l e s m args below meth c D cA ad n A 3 out M1 Mq 14 [(0, .ref (ad 27)), (1, .int t1), (2, .int q0)] []) (hex0 : ∀  (Mq : Mem), r = .inr Mq → JM 1 22 p l e s m args below meth c D cA ad n A 3 out M1 Mq 34 [(1, .int t1)] []) : JM 1 22 p l e s m args below meth c D cA ad n A 3 out M1 N2 14 [(0, .ref (ad 27)), (1, .int t1), (2, .int c1)] [] := by
  unfold X5_clear_L14 at h
  have h := un2_inv h
  refine J.iload_n hX 8 2 rfl rfl ?_
  refine J.sipush (v := 264) hX 9 rfl (by decide) ?_
  refine J.icmp_ge (tgt := 34) hX 10 rfl (by decide) (fun b1 => ?_) (fun b1 => ?_)
  · rw [if_pos b1] at h
    refine J.sub (L' := [(1, .int t1)]) [1] rfl ?_
    exact hex0 _ (Option.some.inj h).symm
  · rw [if_neg b1] at h
    refine J.aload_n hX 11 0 rfl rfl ?_
    refine J.getR hX 12 27 5 (hX.lt (k := 27) (by decide)) sh_27 rfl in_wsX50 2 (by decide) w_75 rfl rfl ?_
    refine J.iload_n hX 13 2 rfl rfl ?_
    refine J.iconst (v := 0) hX 14 rfl (by decide) ?_
    obtain ⟨N3, eN3, hb, h⟩ := sto_inv h
    refine J.iastN hX 15 28 (hX.lt (k := 28) (by decide)) sh_28 hb eN3 rfl ?_
    obtain ⟨t2, et2, h⟩ := bnd_inv h
    refine J.iinc (q := 2) (L' := [(2, .int t2), (0, .ref (ad 27)), (1, .int t1)]) hX 16 rfl rfl et2 (by decide) rfl ?_
    refine J.goto (tgt := 14) hX 17 rfl (by decide) ?_
    refine J.sub (L' := [(0, .ref (ad 27)), (1, .int t1), (2, .int t2)]) [1, 2, 0] rfl ?_
    exact hin _ _ (Option.some.inj h).symm
set_option maxHeartbeats 4000000 in
set_option maxRecDepth 100000 in
theorem mX5_clear {l : Launch} {D : va_G} {cA : Nat → ClassId} {ad : Nat → Nat} {n : Nat} {A : Nat → Prop} {sa : Nat → Nat} {M : Mem} {r : Int32} {Mf : Mem} (h : X5_clear M = some (r, Mf)) : CT l D cA ad n A sa yX5_clear cX5_clear 3 (some .int) 1 22 [.ref (ad 27)] M (.inl (some (.int r))) Mf := by
  refine CT.of (kt := kX5_clear) (by decide) kX5_clear_ok (Nat.le_of_ble_eq_true rfl) ?_
  intro p e s m args below meth c hX hr ht
  unfold X5_clear at h
  refine J.sub (L' := [(0, .ref (ad 27))]) [0] rfl ?_
  refine J.aload_n hX 0 0 rfl rfl ?_
  refine J.iconst (v := 0) hX 1 rfl (by decide) ?_
  obtain ⟨N1, eN1, h⟩ := bnd_inv h
  refine J.putIN hX 2 27 5 (hX.lt (k := 27) (by decide)) sh_27 rfl in_wsX50 0 (by decide) w_141 tyX5 tyX5_ok nmX5 eN1 rfl rfl (by decide +kernel) rfl ?_
  refine J.aload_n hX 3 0 rfl rfl ?_
  obtain ⟨t1, hc, h⟩ := bd1_inv h
  refine J.callV1 (As := []) (rest := []) (k := 27) hX 4 rfl (mX5_closed  hc) okX5_closed w_236 (hX.lt (k := 27) (by decide)) sh_27 rfl rfl rfl (Nat.le_of_ble_eq_true rfl) ⟨Nat.le_of_ble_eq_true rfl, Nat.le_of_ble_eq_true rfl⟩ ⟨Nat.zero_le _, Nat.zero_le _⟩ ?_
  refine J.istore_n (L' := [(1, .int t1), (0, .ref (ad 27))]) hX 5 rfl (by decide) rfl ?_
  refine J.sipush (v := 240) hX 6 rfl (by decide) ?_
  refine J.istore_n (L' := [(2, .int 240), (1, .int t1), (0, .ref (ad 27))]) hX 7 rfl (by decide) rfl ?_
  refine J.sub (L' := [(0, .ref (ad 27)), (1, .int t1), (2, .int 240)]) [2, 1, 0] rfl ?_
  obtain ⟨N4, hlp, h⟩ := bd1_inv h
  suffices hE : JM 1 22 p l e s m args below meth c D cA ad n A 3 (.inl (some (.int r))) Mf N4 34 [(1, .int t1)] [] by
    exact loop_ok (fun q9 : Int32 × Mem => JM 1 22 p l e s m args below meth c D cA ad n A 3 (.inl (some (.int r))) Mf q9.2 14 [(0, .ref (ad 27)), (1, .int t1), (2, .int q9.1)] []) (fun q9 r hB hst hex9 => X5_clear_L14_ok hX  hB (fun _ _ hr => hst _ hr) (fun _ hr => by cases hex9 _ hr; exact hE)) 3000 _ hlp
  refine J.iload_n hX 18 0 rfl rfl ?_
  cases h
  exact J.iret hX hr 19 rfl
def X5_overlapping_L2_j61 (M : Mem) (v1 : Int32) : Option ((Int32) ⊕ ((Unit) ⊕ (Int32))) := bnd (v1 + 1) (fun t3 => some (.inl t3))
def X5_overlapping_L2 (M : Mem) (q9 : Int32) : Option ((Int32) ⊕ ((Unit) ⊕ (Int32))) := un1 q9 (fun c1 => if 576 ≤ c1 then (some (.inr (.inl ()))) else (bnd ((240 + (c1 / 24))) (fun t1 => bnd ((240 + (c1 - c1 / 24 * 24))) (fun t2 => if t2 ≤ t1 then (X5_overlapping_L2_j61 M c1) else (ld M 28 264 t1 (fun t4 => if t4 ≤ 0 then (X5_overlapping_L2_j61 M c1) else (ld M 28 264 t2 (fun t5 => if t5 ≤ 0 then (X5_overlapping_L2_j61 M c1) else (bd1 (X5_apart M t1 t2) (fun t6 => if t6 = 0 then (some (.inr (.inr c1))) else (X5_overlapping_L2_j61 M c1)))))))))))
def X5_overlapping (M : Mem) : Option (Int32) := bdS (loop (X5_overlapping_L2 M) 3000 0) (fun a9 => un0 a9 (some (-1))) (fun a9 => un1 a9 (fun x1 => some x1))
set_option maxHeartbeats 4000000 in
set_option maxRecDepth 100000 in
theorem X5_overlapping_L2_j61_ok (hX : Cx p s m args meth c D cA ad n A sa cX5_overlapping 4 RX5 kX5_overlapping) {M : Mem} {v1 : Int32}  {r : (Int32) ⊕ ((Unit) ⊕ (Int32))} (h : X5_overlapping_L2_j61 M v1 = some r) (hin : ∀ (q0 : Int32), r = .inl q0 → JM 4 99 p l e s m args below meth c D cA ad n A 4 out M1 M 2 [(0, .ref (ad 27)), (1, .int q0)] []) (hex0 : r = .inr (.inl ()) → JM 4 99 p l e s m args below meth c D cA ad n A 4 out M1 M 67 [] []) (hex1 : ∀ (q0 : Int32), r = .inr (.inr q0) → JM 4 99 p l e s m args below meth c D cA ad n A 4 out M1 M 59 [(1, .int q0)] []) : JM 4 99 p l e s m args below meth c D cA ad n A 4 out M1 M 61 [(0, .ref (ad 27)), (1, .int v1)] [] := by
  unfold X5_overlapping_L2_j61 at h
  obtain ⟨t3, et3, h⟩ := bnd_inv h
  refine J.iinc (q := 1) (L' := [(1, .int t3), (0, .ref (ad 27))]) hX 37 rfl rfl et3 (by decide) rfl ?_
  refine J.goto (tgt := 2) hX 38 rfl (by decide) ?_
  refine J.sub (L' := [(0, .ref (ad 27)), (1, .int t3)]) [1, 0] rfl ?_
  exact hin _ (Option.some.inj h).symm
set_option maxHeartbeats 4000000 in
set_option maxRecDepth 100000 in
theorem X5_overlapping_L2_ok (hX : Cx p s m args meth c D cA ad n A sa cX5_overlapping 4 RX5 kX5_overlapping) {M : Mem}  {c1 : Int32}  {r : (Int32) ⊕ ((Unit) ⊕ (Int32))} (h : X5_overlapping_L2 M c1 = some r) (hin : ∀ (q0 : Int32), r = .inl q0 → JM 4 99 p l e s m args below meth c D cA ad n A 4 out M1 M 2 [(0, .ref (ad 27)), (1, .int q0)] []) (hex0 : r = .inr (.inl ()) → JM 4 99 p l e s m args below meth c D cA ad n A 4 out M1 M 67 [] []) (hex1 : ∀ (q0 : Int32), r = .inr (.inr q0) → JM 4 99 p l e s m args below meth c D cA ad n A 4 out M1 M 59 [(1, .int q0)] []) : JM 4 99 p l e s m args below meth c D cA ad n A 4 out M1 M 2 [(0, .ref (ad 27)), (1, .int c1)] [] := by
  unfold X5_overlapping_L2 at h
  have h := un1_inv h
  refine J.iload_n hX 2 1 rfl rfl ?_
  refine J.sipush (v := 576) hX 3 rfl (by decide) ?_
  refine J.icmp_ge (tgt := 67) hX 4 rfl (by decide) (fun b1 => ?_) (fun b1 => ?_)
  · rw [if_pos b1] at h
    refine J.sub (L' := []) [] rfl ?_
    exact hex0  (Option.some.inj h).symm
  · rw [if_neg b1] at h
    refine J.sipush (v := 240) hX 5 rfl (by decide) ?_
    refine J.iload_n hX 6 1 rfl rfl ?_
    refine J.bipush (v := 24) hX 7 rfl (by decide) ?_
    refine J.idiv hX 8 rfl (by decide) ?_
    refine J.iadd hX 9 rfl ?_
    obtain ⟨t1, et1, h⟩ := bnd_inv h
    refine J.nm et1 ?_
    refine J.istore_n (L' := [(2, .int t1), (0, .ref (ad 27)), (1, .int c1)]) hX 10 rfl (by decide) rfl ?_
    refine J.sipush (v := 240) hX 11 rfl (by decide) ?_
    refine J.iload_n hX 12 2 rfl rfl ?_
    refine J.bipush (v := 24) hX 13 rfl (by decide) ?_
    refine J.irem hX 14 rfl (by decide) ?_
    refine J.iadd hX 15 rfl ?_
    obtain ⟨t2, et2, h⟩ := bnd_inv h
    refine J.nm et2 ?_
    refine J.istore_n (L' := [(3, .int t2), (2, .int t1), (0, .ref (ad 27)), (1, .int c1)]) hX 16 rfl (by decide) rfl ?_
    refine J.iload_n hX 17 1 rfl rfl ?_
    refine J.iload_n hX 18 0 rfl rfl ?_
    refine J.icmp_ge (tgt := 61) hX 19 rfl (by decide) (fun b2 => ?_) (fun b2 => ?_)
    · rw [if_pos b2] at h
      refine J.sub (L' := [(0, .ref (ad 27)), (1, .int c1)]) [2, 3] rfl ?_
      exact X5_overlapping_L2_j61_ok hX  h hin hex0 hex1
    · rw [if_neg b2] at h
      refine J.aload_n hX 20 2 rfl rfl ?_
      refine J.getR hX 21 27 5 (hX.lt (k := 27) (by decide)) sh_27 rfl in_wsX50 2 (by decide) w_75 rfl rfl ?_
      refine J.iload_n hX 22 1 rfl rfl ?_
      obtain ⟨t4, et4, hb, h⟩ := ld_inv h
      refine J.ialdN hX 23 28 (hX.lt (k := 28) (by decide)) sh_28 hb et4 rfl ?_
      refine J.if_le (tgt := 61) hX 24 rfl (by decide) (fun b3 => ?_) (fun b3 => ?_)
      · rw [if_pos b3] at h
        refine J.sub (L' := [(0, .ref (ad 27)), (1, .int c1)]) [2, 3] rfl ?_
        exact X5_overlapping_L2_j61_ok hX  h hin hex0 hex1
      · rw [if_neg b3] at h
        refine J.aload_n hX 25 2 rfl rfl ?_
        refine J.getR hX 26 27 5 (hX.lt (k := 27) (by decide)) sh_27 rfl in_wsX50 2 (by decide) w_75 rfl rfl ?_
        refine J.iload_n hX 27 0 rfl rfl ?_
        obtain ⟨t5, et5, hb, h⟩ := ld_inv h
        refine J.ialdN hX 28 28 (hX.lt (k := 28) (by decide)) sh_28 hb et5 rfl ?_
        refine J.if_le (tgt := 61) hX 29 rfl (by decide) (fun b4 => ?_) (fun b4 => ?_)
        · rw [if_pos b4] at h
          refine J.sub (L' := [(0, .ref (ad 27)), (1, .int c1)]) [2, 3] rfl ?_
          exact X5_overlapping_L2_j61_ok hX  h hin hex0 hex1
        · rw [if_neg b4] at h
          refine J.aload_n hX 30 2 rfl rfl ?_
          refine J.iload_n hX 31 1 rfl rfl ?_
          refine J.iload_n hX 32 0 rfl rfl ?_
          obtain ⟨t6, hc, h⟩ := bd1_inv h
          refine J.callV1 (As := [.int t1, .int t2]) (rest := []) (k := 27) hX 33 rfl (mX5_apart  hc) okX5_apart w_276 (hX.lt (k := 27) (by decide)) sh_27 rfl rfl rfl (Nat.le_of_ble_eq_true rfl) ⟨Nat.le_of_ble_eq_true rfl, Nat.le_of_ble_eq_true rfl⟩ ⟨Nat.zero_le _, Nat.zero_le _⟩ ?_
          refine J.if_ne (tgt := 61) hX 34 rfl (by decide) (fun b5 => ?_) (fun b5 => ?_)
          · rw [if_neg b5] at h
            refine J.sub (L' := [(0, .ref (ad 27)), (1, .int c1)]) [2, 3] rfl ?_
            exact X5_overlapping_L2_j61_ok hX  h hin hex0 hex1
          · rw [if_pos b5] at h
            refine J.sub (L' := [(1, .int c1)]) [3] rfl ?_
            exact hex1 _ (Option.some.inj h).symm
set_option maxHeartbeats 4000000 in
set_option maxRecDepth 100000 in
theorem mX5_overlapping {l : Launch} {D : va_G} {cA : Nat → ClassId} {ad : Nat → Nat} {n : Nat} {A : Nat → Prop} {sa : Nat → Nat} {M : Mem} {r : Int32} (h : X5_overlapping M = some r) : CT l D cA ad n A sa yX5_overlapping cX5_overlapping 4 (some .int) 4 99 [.ref (ad 27)] M (.inl (some (.int r))) M := by
  refine CT.of (kt := kX5_overlapping) (by decide) kX5_overlapping_ok (Nat.le_of_ble_eq_true rfl) ?_
  intro p e s m args below meth c hX hr ht
  unfold X5_overlapping at h
  refine J.sub (L' := [(0, .ref (ad 27))]) [0] rfl ?_
  refine J.iconst (v := 0) hX 0 rfl (by decide) ?_
  refine J.istore_n (L' := [(1, .int 0), (0, .ref (ad 27))]) hX 1 rfl (by decide) rfl ?_
  refine J.sub (L' := [(0, .ref (ad 27)), (1, .int 0)]) [1, 0] rfl ?_
  rcases bdS_inv h with ⟨a9, hlp, h⟩ | ⟨a9, hlp, h⟩
  · have h := un0_inv h
    suffices hE : JM 4 99 p l e s m args below meth c D cA ad n A 4 (.inl (some (.int r))) M M 67 [] [] by
      exact loop_ok (fun q9 : Int32 => JM 4 99 p l e s m args below meth c D cA ad n A 4 (.inl (some (.int r))) M M 2 [(0, .ref (ad 27)), (1, .int q9)] []) (fun q9 r hB hst hex9 => X5_overlapping_L2_ok hX  hB (fun _ hr => hst _ hr) (fun hr => by cases hex9 _ hr; exact hE) (fun _ hr => by cases hex9 _ hr)) 3000 _ hlp
    refine J.iconst (v := (-1)) hX 39 rfl (by decide) ?_
    cases h
    exact J.iret hX hr 40 rfl
  · obtain ⟨x1, rfl⟩ : ∃ z, z = a9 := ⟨_, rfl⟩
    have h := un1_inv h
    suffices hE : JM 4 99 p l e s m args below meth c D cA ad n A 4 (.inl (some (.int r))) M M 59 [(1, .int x1)] [] by
      exact loop_ok (fun q9 : Int32 => JM 4 99 p l e s m args below meth c D cA ad n A 4 (.inl (some (.int r))) M M 2 [(0, .ref (ad 27)), (1, .int q9)] []) (fun q9 r hB hst hex9 => X5_overlapping_L2_ok hX  hB (fun _ hr => hst _ hr) (fun hr => by cases hex9 _ hr) (fun _ hr => by cases hex9 _ hr; exact hE)) 3000 _ hlp
    refine J.iload_n hX 35 0 rfl rfl ?_
    cases h
    exact J.iret hX hr 36 rfl
def X5_state_L6_j33 (M : Mem) (v1 : Int32) (v2 : Int32) : Option ((Int32 × Int32) ⊕ (Int32)) := bnd (v1 + 1) (fun t2 => some (.inl (v2, t2)))
def X5_state_L6 (M : Mem) (q9 : Int32 × Int32) : Option ((Int32 × Int32) ⊕ (Int32)) := un2 q9 (fun c1 c2 => if 264 ≤ c2 then (some (.inr c1)) else (ld M 28 264 c2 (fun t1 => if t1 ≤ 0 then (X5_state_L6_j33 M c2 c1) else (bd1 (X5_areaOf M c2) (fun t3 => X5_state_L6_j33 M c2 (c1 + t3))))))
def X5_state_j64 (M : Mem) (v3 : Int32) : Option (Int32) := some v3
def X5_state (M : Mem) : Option (Int32) := bd1 (loop (X5_state_L6 M) 3000 (0, 240)) (fun x1 => bd1 (X5_overlapping M) (fun t4 => if t4 = (-1) then (if x1 = 18432 then (X5_state_j64 M 0) else (X5_state_j64 M 1)) else (X5_state_j64 M 2)))
set_option maxHeartbeats 4000000 in
set_option maxRecDepth 100000 in
theorem X5_state_L6_j33_ok (hX : Cx p s m args meth c D cA ad n A sa cX5_state 3 RX5 kX5_state) {M : Mem} {v1 : Int32} {v2 : Int32}  {r : (Int32 × Int32) ⊕ (Int32)} (h : X5_state_L6_j33 M v1 v2 = some r) (hin : ∀ (q0 : Int32) (q1 : Int32), r = .inl (q0, q1) → JM 5 122 p l e s m args below meth c D cA ad n A 3 out M1 M 6 [(0, .ref (ad 27)), (1, .int q0), (2, .int q1)] []) (hex0 : ∀ (q0 : Int32), r = .inr q0 → JM 5 122 p l e s m args below meth c D cA ad n A 3 out M1 M 40 [(0, .ref (ad 27)), (1, .int q0)] []) : JM 5 122 p l e s m args below meth c D cA ad n A 3 out M1 M 33 [(0, .ref (ad 27)), (2, .int v1)] [.int v2] := by
  unfold X5_state_L6_j33 at h
  refine J.istore_n (L' := [(1, .int v2), (0, .ref (ad 27)), (2, .int v1)]) hX 19 rfl (by decide) rfl ?_
  obtain ⟨t2, et2, h⟩ := bnd_inv h
  refine J.iinc (q := 2) (L' := [(2, .int t2), (1, .int v2), (0, .ref (ad 27))]) hX 20 rfl rfl et2 (by decide) rfl ?_
  refine J.goto (tgt := 6) hX 21 rfl (by decide) ?_
  refine J.sub (L' := [(0, .ref (ad 27)), (1, .int v2), (2, .int t2)]) [2, 1, 0] rfl ?_
  exact hin _ _ (Option.some.inj h).symm
set_option maxHeartbeats 4000000 in
set_option maxRecDepth 100000 in
theorem X5_state_L6_ok (hX : Cx p s m args meth c D cA ad n A sa cX5_state 3 RX5 kX5_state) {M : Mem}  {c1 : Int32} {c2 : Int32}  {r : (Int32 × Int32) ⊕ (Int32)} (h : X5_state_L6 M (c1, c2) = some r) (hin : ∀ (q0 : Int32) (q1 : Int32), r = .inl (q0, q1) → JM 5 122 p l e s m args below meth c D cA ad n A 3 out M1 M 6 [(0, .ref (ad 27)), (1, .int q0), (2, .int q1)] []) (hex0 : ∀ (q0 : Int32), r = .inr q0 → JM 5 122 p l e s m args below meth c D cA ad n A 3 out M1 M 40 [(0, .ref (ad 27)), (1, .int q0)] []) : JM 5 122 p l e s m args below meth c D cA ad n A 3 out M1 M 6 [(0, .ref (ad 27)), (1, .int c1), (2, .int c2)] [] := by
  unfold X5_state_L6 at h
  have h := un2_inv h
  refine J.iload_n hX 4 2 rfl rfl ?_
  refine J.sipush (v := 264) hX 5 rfl (by decide) ?_
  refine J.icmp_ge (tgt := 40) hX 6 rfl (by decide) (fun b1 => ?_) (fun b1 => ?_)
  · rw [if_pos b1] at h
    refine J.sub (L' := [(0, .ref (ad 27)), (1, .int c1)]) [0, 1] rfl ?_
    exact hex0 _ (Option.some.inj h).symm
  · rw [if_neg b1] at h
    refine J.aload_n hX 7 0 rfl rfl ?_
    refine J.getR hX 8 27 5 (hX.lt (k := 27) (by decide)) sh_27 rfl in_wsX50 2 (by decide) w_75 rfl rfl ?_
    refine J.iload_n hX 9 2 rfl rfl ?_
    obtain ⟨t1, et1, hb, h⟩ := ld_inv h
    refine J.ialdN hX 10 28 (hX.lt (k := 28) (by decide)) sh_28 hb et1 rfl ?_
    refine J.if_le (tgt := 32) hX 11 rfl (by decide) (fun b2 => ?_) (fun b2 => ?_)
    · rw [if_pos b2] at h
      refine J.iload_n hX 18 1 rfl rfl ?_
      refine J.sub (L' := [(0, .ref (ad 27)), (2, .int c2)]) [0, 2] rfl ?_
      exact X5_state_L6_j33_ok hX  h hin hex0
    · rw [if_neg b2] at h
      refine J.iload_n hX 12 1 rfl rfl ?_
      refine J.aload_n hX 13 0 rfl rfl ?_
      refine J.iload_n hX 14 2 rfl rfl ?_
      obtain ⟨t3, hc, h⟩ := bd1_inv h
      refine J.callV1 (As := [.int c2]) (rest := [.int c1]) (k := 27) hX 15 rfl (mX5_areaOf  hc) okX5_areaOf w_192 (hX.lt (k := 27) (by decide)) sh_27 rfl rfl rfl (Nat.le_of_ble_eq_true rfl) ⟨Nat.le_of_ble_eq_true rfl, Nat.le_of_ble_eq_true rfl⟩ ⟨Nat.zero_le _, Nat.zero_le _⟩ ?_
      refine J.iadd hX 16 rfl ?_
      refine J.goto (tgt := 33) hX 17 rfl (by decide) ?_
      refine J.sub (L' := [(0, .ref (ad 27)), (2, .int c2)]) [0, 2] rfl ?_
      exact X5_state_L6_j33_ok hX  h hin hex0
set_option maxHeartbeats 4000000 in
set_option maxRecDepth 100000 in
theorem X5_state_j64_ok (hX : Cx p s m args meth c D cA ad n A sa cX5_state 3 RX5 kX5_state) {M : Mem} {v3 : Int32} {r : Int32}  (hr : meth.sig.returnType = (some .int)) (ht : ∀ x ∈ c.exceptionTable.toList, False) (h : X5_state_j64 M v3 = some r) : JM 5 122 p l e s m args below meth c D cA ad n A 3 (.inl (some (.int r))) M M 64 [] [.int v3] := by
  unfold X5_state_j64 at h
  cases h
  exact J.iret hX hr 34 rfl
set_option maxHeartbeats 4000000 in
set_option maxRecDepth 100000 in
theorem mX5_state {l : Launch} {D : va_G} {cA : Nat → ClassId} {ad : Nat → Nat} {n : Nat} {A : Nat → Prop} {sa : Nat → Nat} {M : Mem} {r : Int32} (h : X5_state M = some r) : CT l D cA ad n A sa yX5_state cX5_state 3 (some .int) 5 122 [.ref (ad 27)] M (.inl (some (.int r))) M := by
  refine CT.of (kt := kX5_state) (by decide) kX5_state_ok (Nat.le_of_ble_eq_true rfl) ?_
  intro p e s m args below meth c hX hr ht
  unfold X5_state at h
  refine J.sub (L' := [(0, .ref (ad 27))]) [0] rfl ?_
  refine J.iconst (v := 0) hX 0 rfl (by decide) ?_
  refine J.istore_n (L' := [(1, .int 0), (0, .ref (ad 27))]) hX 1 rfl (by decide) rfl ?_
  refine J.sipush (v := 240) hX 2 rfl (by decide) ?_
  refine J.istore_n (L' := [(2, .int 240), (1, .int 0), (0, .ref (ad 27))]) hX 3 rfl (by decide) rfl ?_
  refine J.sub (L' := [(0, .ref (ad 27)), (1, .int 0), (2, .int 240)]) [2, 1, 0] rfl ?_
  obtain ⟨x1, hlp, h⟩ := bd1_inv h
  suffices hE : JM 5 122 p l e s m args below meth c D cA ad n A 3 (.inl (some (.int r))) M M 40 [(0, .ref (ad 27)), (1, .int x1)] [] by
    exact loop_ok (fun q9 : Int32 × Int32 => JM 5 122 p l e s m args below meth c D cA ad n A 3 (.inl (some (.int r))) M M 6 [(0, .ref (ad 27)), (1, .int q9.1), (2, .int q9.2)] []) (fun q9 r hB hst hex9 => X5_state_L6_ok hX  hB (fun _ _ hr => hst _ hr) (fun _ hr => by cases hex9 _ hr; exact hE)) 3000 _ hlp
  refine J.aload_n hX 22 0 rfl rfl ?_
  obtain ⟨t4, hc, h⟩ := bd1_inv h
  refine J.callV1 (As := []) (rest := []) (k := 27) hX 23 rfl (mX5_overlapping  hc) okX5_overlapping w_272 (hX.lt (k := 27) (by decide)) sh_27 rfl rfl rfl (Nat.le_of_ble_eq_true rfl) ⟨Nat.le_of_ble_eq_true rfl, Nat.le_of_ble_eq_true rfl⟩ ⟨Nat.zero_le _, Nat.zero_le _⟩ ?_
  refine J.iconst (v := (-1)) hX 24 rfl (by decide) ?_
  refine J.icmp_eq (tgt := 52) hX 25 rfl (by decide) (fun b3 => ?_) (fun b3 => ?_)
  · rw [if_pos b3] at h
    refine J.iload_n hX 28 1 rfl rfl ?_
    refine J.sipush (v := 18432) hX 29 rfl (by decide) ?_
    refine J.icmp_ne (tgt := 63) hX 30 rfl (by decide) (fun b4 => ?_) (fun b4 => ?_)
    · rw [if_neg b4] at h
      refine J.iconst (v := 1) hX 33 rfl (by decide) ?_
      refine J.sub (L' := []) [] rfl ?_
      exact X5_state_j64_ok hX  hr ht h
    · rw [if_pos b4] at h
      refine J.iconst (v := 0) hX 31 rfl (by decide) ?_
      refine J.goto (tgt := 64) hX 32 rfl (by decide) ?_
      refine J.sub (L' := []) [] rfl ?_
      exact X5_state_j64_ok hX  hr ht h
  · rw [if_neg b3] at h
    refine J.iconst (v := 2) hX 26 rfl (by decide) ?_
    refine J.goto (tgt := 64) hX 27 rfl (by decide) ?_
    refine J.sub (L' := []) [] rfl ?_
    exact X5_state_j64_ok hX  hr ht h
def X5_check (M : Mem) : Option (Int32 × Mem) := bnd (wr M 27 0 0) (fun N1 => bd1 (X5_state N1) (fun t1 => some (t1, N1)))
set_option maxHeartbeats 4000000 in
set_option maxRecDepth 100000 in
theorem mX5_check {l : Launch} {D : va_G} {cA : Nat → ClassId} {ad : Nat → Nat} {n : Nat} {A : Nat → Prop} {sa : Nat → Nat} {M : Mem} {r : Int32} {Mf : Mem} (h : X5_check M = some (r, Mf)) : CT l D cA ad n A sa yX5_check cX5_check 1 (some .int) 6 144 [.ref (ad 27)] M (.inl (some (.int r))) Mf := by
  refine CT.of (kt := kX5_check) (by decide) kX5_check_ok (Nat.le_of_ble_eq_true rfl) ?_
  intro p e s m args below meth c hX hr ht
  unfold X5_check at h
  refine J.sub (L' := [(0, .ref (ad 27))]) [0] rfl ?_
  refine J.aload_n hX 0 0 rfl rfl ?_
  refine J.iconst (v := 0) hX 1 rfl (by decide) ?_
  obtain ⟨N1, eN1, h⟩ := bnd_inv h
  refine J.putIN hX 2 27 5 (hX.lt (k := 27) (by decide)) sh_27 rfl in_wsX50 0 (by decide) w_141 tyX5 tyX5_ok nmX5 eN1 rfl rfl (by decide +kernel) rfl ?_
  refine J.aload_n hX 3 0 rfl rfl ?_
  obtain ⟨t1, hc, h⟩ := bd1_inv h
  refine J.callV1 (As := []) (rest := []) (k := 27) hX 4 rfl (mX5_state  hc) okX5_state w_268 (hX.lt (k := 27) (by decide)) sh_27 rfl rfl rfl (Nat.le_of_ble_eq_true rfl) ⟨Nat.le_of_ble_eq_true rfl, Nat.le_of_ble_eq_true rfl⟩ ⟨Nat.zero_le _, Nat.zero_le _⟩ ?_
  cases h
  exact J.iret hX hr 5 rfl
def X5_clash_j45 (N2 : Mem) (v1 : Int32) : Option (Int32 × Mem) := some (v1, N2)
def X5_clash (M : Mem) (l1 : Int32) : Option (Int32 × Mem) := bd1 (X5_within M l1 0 1) (fun t1 => bd2 (X5_goes M t1 1) (fun t2 N1 => if t2 = 0 then (some (0, N1)) else (bd1 (X5_overlapping N1) (fun t3 => if t3 = (-1) then (X5_clash_j45 N1 (-1)) else (if l1 = 0 then (X5_clash_j45 N1 (t3 / 24)) else (X5_clash_j45 N1 (t3 - t3 / 24 * 24)))))))
set_option maxHeartbeats 4000000 in
set_option maxRecDepth 100000 in
theorem X5_clash_j45_ok (hX : Cx p s m args meth c D cA ad n A sa cX5_clash 3 RX5 kX5_clash) {N2 : Mem} {v1 : Int32} {r : Int32} {Mf : Mem}  (hr : meth.sig.returnType = (some .int)) (ht : ∀ x ∈ c.exceptionTable.toList, False) (h : X5_clash_j45 N2 v1 = some (r, Mf)) : JM 5 122 p l e s m args below meth c D cA ad n A 3 (.inl (some (.int r))) Mf N2 45 [] [.int v1] := by
  unfold X5_clash_j45 at h
  cases h
  exact J.iret hX hr 27 rfl
set_option maxHeartbeats 4000000 in
set_option maxRecDepth 100000 in
theorem mX5_clash {l : Launch} {D : va_G} {cA : Nat → ClassId} {ad : Nat → Nat} {n : Nat} {A : Nat → Prop} {sa : Nat → Nat} {M : Mem} {l1 : Int32} {r : Int32} {Mf : Mem} (h : X5_clash M l1 = some (r, Mf)) : CT l D cA ad n A sa yX5_clash cX5_clash 3 (some .int) 5 122 [.ref (ad 27), .int l1] M (.inl (some (.int r))) Mf := by
  refine CT.of (kt := kX5_clash) (by decide) kX5_clash_ok (Nat.le_of_ble_eq_true rfl) ?_
  intro p e s m args below meth c hX hr ht
  unfold X5_clash at h
  refine J.sub (L' := [(0, .ref (ad 27)), (1, .int l1)]) [0, 1] rfl ?_
  refine J.aload_n hX 0 0 rfl rfl ?_
  refine J.iload_n hX 1 1 rfl rfl ?_
  refine J.iconst (v := 0) hX 2 rfl (by decide) ?_
  refine J.iconst (v := 1) hX 3 rfl (by decide) ?_
  obtain ⟨t1, hc, h⟩ := bd1_inv h
  refine J.callS1 (As := [.int l1, .int 0, .int 1]) (rest := [.ref (ad 27)]) hX 4 rfl (mX5_within  hc) okX5_within w_134 rfl rfl (Nat.le_of_ble_eq_true rfl) ⟨Nat.le_of_ble_eq_true rfl, Nat.le_of_ble_eq_true rfl⟩ ⟨Nat.zero_le _, Nat.zero_le _⟩ ?_
  refine J.iconst (v := 1) hX 5 rfl (by decide) ?_
  obtain ⟨t2, N1, hc, h⟩ := bd2_inv h
  refine J.callV1 (As := [.int t1, .int 1]) (rest := []) (k := 27) hX 6 rfl (mX5_goes  hc) okX5_goes w_137 (hX.lt (k := 27) (by decide)) sh_27 rfl rfl rfl (Nat.le_of_ble_eq_true rfl) ⟨Nat.le_of_ble_eq_true rfl, Nat.le_of_ble_eq_true rfl⟩ ⟨Nat.zero_le _, Nat.zero_le _⟩ ?_
  refine J.if_ne (tgt := 16) hX 7 rfl (by decide) (fun b1 => ?_) (fun b1 => ?_)
  · rw [if_neg b1] at h
    refine J.aload_n hX 10 0 rfl rfl ?_
    obtain ⟨t3, hc, h⟩ := bd1_inv h
    refine J.callV1 (As := []) (rest := []) (k := 27) hX 11 rfl (mX5_overlapping  hc) okX5_overlapping w_272 (hX.lt (k := 27) (by decide)) sh_27 rfl rfl rfl (Nat.le_of_ble_eq_true rfl) ⟨Nat.le_of_ble_eq_true rfl, Nat.le_of_ble_eq_true rfl⟩ ⟨Nat.zero_le _, Nat.zero_le _⟩ ?_
    refine J.istore_n (L' := [(2, .int t3), (0, .ref (ad 27)), (1, .int l1)]) hX 12 rfl (by decide) rfl ?_
    refine J.iload_n hX 13 0 rfl rfl ?_
    refine J.iconst (v := (-1)) hX 14 rfl (by decide) ?_
    refine J.icmp_ne (tgt := 30) hX 15 rfl (by decide) (fun b2 => ?_) (fun b2 => ?_)
    · rw [if_neg b2] at h
      refine J.iload_n hX 18 2 rfl rfl ?_
      refine J.if_ne (tgt := 41) hX 19 rfl (by decide) (fun b3 => ?_) (fun b3 => ?_)
      · rw [if_neg b3] at h
        refine J.iload_n hX 24 0 rfl rfl ?_
        refine J.bipush (v := 24) hX 25 rfl (by decide) ?_
        refine J.irem hX 26 rfl (by decide) ?_
        refine J.sub (L' := []) [] rfl ?_
        exact X5_clash_j45_ok hX  hr ht h
      · rw [if_pos b3] at h
        refine J.iload_n hX 20 0 rfl rfl ?_
        refine J.bipush (v := 24) hX 21 rfl (by decide) ?_
        refine J.idiv hX 22 rfl (by decide) ?_
        refine J.goto (tgt := 45) hX 23 rfl (by decide) ?_
        refine J.sub (L' := []) [] rfl ?_
        exact X5_clash_j45_ok hX  hr ht h
    · rw [if_pos b2] at h
      refine J.iconst (v := (-1)) hX 16 rfl (by decide) ?_
      refine J.goto (tgt := 45) hX 17 rfl (by decide) ?_
      refine J.sub (L' := []) [] rfl ?_
      exact X5_clash_j45_ok hX  hr ht h
  · rw [if_pos b1] at h
    refine J.iconst (v := 0) hX 8 rfl (by decide) ?_
    cases h
    exact J.iret hX hr 9 rfl
def X5_bits_L4 (M : Mem) (l0 : Int32) (q9 : Int32 × Int32) : Option ((Int32 × Int32) ⊕ (Int32)) := un2 q9 (fun c1 c2 => if 24 ≤ c2 then (some (.inr c1)) else (bnd ((c1 + ((l0 >>> (c2 &&& 31)) &&& 1))) (fun t1 => bnd (c2 + 1) (fun t2 => some (.inl (t1, t2))))))
def X5_bits (M : Mem) (l0 : Int32) : Option (Int32) := bd1 (loop (X5_bits_L4 M l0) 3000 (0, 0)) (fun x1 => some x1)
set_option maxHeartbeats 4000000 in
set_option maxRecDepth 100000 in
theorem X5_bits_L4_ok (hX : Cx p s m args meth c D cA ad n A sa cX5_bits 3 RX5 kX5_bits) {M : Mem} {l0 : Int32} {c1 : Int32} {c2 : Int32}  {r : (Int32 × Int32) ⊕ (Int32)} (h : X5_bits_L4 M l0 (c1, c2) = some r) (hin : ∀ (q0 : Int32) (q1 : Int32), r = .inl (q0, q1) → JM 0 0 p l e s m args below meth c D cA ad n A 3 out M1 M 4 [(0, .int l0), (1, .int q0), (2, .int q1)] []) (hex0 : ∀ (q0 : Int32), r = .inr q0 → JM 0 0 p l e s m args below meth c D cA ad n A 3 out M1 M 24 [(1, .int q0)] []) : JM 0 0 p l e s m args below meth c D cA ad n A 3 out M1 M 4 [(0, .int l0), (1, .int c1), (2, .int c2)] [] := by
  unfold X5_bits_L4 at h
  have h := un2_inv h
  refine J.iload_n hX 4 2 rfl rfl ?_
  refine J.bipush (v := 24) hX 5 rfl (by decide) ?_
  refine J.icmp_ge (tgt := 24) hX 6 rfl (by decide) (fun b1 => ?_) (fun b1 => ?_)
  · rw [if_pos b1] at h
    refine J.sub (L' := [(1, .int c1)]) [1] rfl ?_
    exact hex0 _ (Option.some.inj h).symm
  · rw [if_neg b1] at h
    refine J.iload_n hX 7 1 rfl rfl ?_
    refine J.iload_n hX 8 0 rfl rfl ?_
    refine J.iload_n hX 9 2 rfl rfl ?_
    refine J.ishr hX 10 rfl ?_
    refine J.iconst (v := 1) hX 11 rfl (by decide) ?_
    refine J.iand hX 12 rfl ?_
    refine J.iadd hX 13 rfl ?_
    obtain ⟨t1, et1, h⟩ := bnd_inv h
    refine J.nm et1 ?_
    refine J.istore_n (L' := [(1, .int t1), (0, .int l0), (2, .int c2)]) hX 14 rfl (by decide) rfl ?_
    obtain ⟨t2, et2, h⟩ := bnd_inv h
    refine J.iinc (q := 2) (L' := [(2, .int t2), (1, .int t1), (0, .int l0)]) hX 15 rfl rfl et2 (by decide) rfl ?_
    refine J.goto (tgt := 4) hX 16 rfl (by decide) ?_
    refine J.sub (L' := [(0, .int l0), (1, .int t1), (2, .int t2)]) [2, 1, 0] rfl ?_
    exact hin _ _ (Option.some.inj h).symm
set_option maxHeartbeats 4000000 in
set_option maxRecDepth 100000 in
theorem mX5_bits {l : Launch} {D : va_G} {cA : Nat → ClassId} {ad : Nat → Nat} {n : Nat} {A : Nat → Prop} {sa : Nat → Nat} {M : Mem} {l0 : Int32} {r : Int32} (h : X5_bits M l0 = some r) : CT l D cA ad n A sa yX5_bits cX5_bits 3 (some .int) 0 0 [.int l0] M (.inl (some (.int r))) M := by
  refine CT.of (kt := kX5_bits) (by decide) kX5_bits_ok (Nat.le_of_ble_eq_true rfl) ?_
  intro p e s m args below meth c hX hr ht
  unfold X5_bits at h
  refine J.sub (L' := [(0, .int l0)]) [0] rfl ?_
  refine J.iconst (v := 0) hX 0 rfl (by decide) ?_
  refine J.istore_n (L' := [(1, .int 0), (0, .int l0)]) hX 1 rfl (by decide) rfl ?_
  refine J.iconst (v := 0) hX 2 rfl (by decide) ?_
  refine J.istore_n (L' := [(2, .int 0), (1, .int 0), (0, .int l0)]) hX 3 rfl (by decide) rfl ?_
  refine J.sub (L' := [(0, .int l0), (1, .int 0), (2, .int 0)]) [2, 1, 0] rfl ?_
  obtain ⟨x1, hlp, h⟩ := bd1_inv h
  suffices hE : JM 0 0 p l e s m args below meth c D cA ad n A 3 (.inl (some (.int r))) M M 24 [(1, .int x1)] [] by
    exact loop_ok (fun q9 : Int32 × Int32 => JM 0 0 p l e s m args below meth c D cA ad n A 3 (.inl (some (.int r))) M M 4 [(0, .int l0), (1, .int q9.1), (2, .int q9.2)] []) (fun q9 r hB hst hex9 => X5_bits_L4_ok hX  hB (fun _ _ hr => hst _ hr) (fun _ hr => by cases hex9 _ hr; exact hE)) 3000 _ hlp
  refine J.iload_n hX 17 0 rfl rfl ?_
  cases h
  exact J.iret hX hr 18 rfl
def X5_leftOf_L6_j75 (M : Mem) (l1 : Int32) (l2 : Int32) (l3 : Int32) (v6 : Int32) (v7 : Int32) : Option ((Int32 × Int32) ⊕ ((Int32) ⊕ (Unit))) := bnd (v6 + 1) (fun t1 => some (.inl (v7, t1)))
def X5_leftOf_L6_j73 (M : Mem) (l1 : Int32) (l2 : Int32) (l3 : Int32) (v4 : Int32) (v5 : Int32) : Option ((Int32 × Int32) ⊕ ((Int32) ⊕ (Unit))) := X5_leftOf_L6_j75 M l1 l2 l3 v5 v4
def X5_leftOf_L6_j39 (M : Mem) (l1 : Int32) (l2 : Int32) (l3 : Int32) (v1 : Int32) (v2 : Int32) (v3 : Int32) : Option ((Int32 × Int32) ⊕ ((Int32) ⊕ (Unit))) := if v3 = 0 then (some (.inr (.inr ()))) else (if ((l1 >>> (v2 &&& 31)) &&& 1) = 1 then (if v3 ≤ 0 then (X5_leftOf_L6_j73 M l1 l2 l3 v1 v2) else (X5_leftOf_L6_j75 M l1 l2 l3 v2 (v1 ||| (1 <<< (v2 &&& 31))))) else (X5_leftOf_L6_j73 M l1 l2 l3 v1 v2))
def X5_leftOf_L6 (M : Mem) (l1 : Int32) (l2 : Int32) (l3 : Int32) (q9 : Int32 × Int32) : Option ((Int32 × Int32) ⊕ ((Int32) ⊕ (Unit))) := un2 q9 (fun c1 c2 => if 24 ≤ c2 then (some (.inr (.inl c1))) else (if ((l1 >>> (c2 &&& 31)) &&& 1) = 1 then (bd1 (X5_lies M (240 + c2) l2 l3) (fun t2 => X5_leftOf_L6_j39 M l1 l2 l3 c1 c2 t2)) else (X5_leftOf_L6_j39 M l1 l2 l3 c1 c2 1)))
def X5_leftOf_j100 (M : Mem) (v8 : Int32) : Option (Int32) := some v8
def X5_leftOf_j94 (M : Mem) : Option (Int32) := X5_leftOf_j100 M (-1)
def X5_leftOf (M : Mem) (l1 : Int32) (l2 : Int32) (l3 : Int32) : Option (Int32) := bdS (loop (X5_leftOf_L6 M l1 l2 l3) 3000 (0, 0)) (fun a9 => un1 a9 (fun x1 => if x1 = 0 then (X5_leftOf_j94 M) else (if x1 = l1 then (X5_leftOf_j94 M) else (X5_leftOf_j100 M x1)))) (fun a9 => un0 a9 (some (-1)))
set_option maxHeartbeats 4000000 in
set_option maxRecDepth 100000 in
theorem X5_leftOf_L6_j75_ok (hX : Cx p s m args meth c D cA ad n A sa cX5_leftOf 7 RX5 kX5_leftOf) {M : Mem} {l1 : Int32} {l2 : Int32} {l3 : Int32} {v6 : Int32} {v7 : Int32}  {r : (Int32 × Int32) ⊕ ((Int32) ⊕ (Unit))} (h : X5_leftOf_L6_j75 M l1 l2 l3 v6 v7 = some r) (hin : ∀ (q0 : Int32) (q1 : Int32), r = .inl (q0, q1) → JM 3 75 p l e s m args below meth c D cA ad n A 7 out M1 M 6 [(0, .ref (ad 27)), (1, .int l1), (2, .int l2), (3, .int l3), (4, .int q0), (5, .int q1)] []) (hex0 : ∀ (q0 : Int32), r = .inr (.inl q0) → JM 3 75 p l e s m args below meth c D cA ad n A 7 out M1 M 83 [(1, .int l1), (4, .int q0)] []) (hex1 : r = .inr (.inr ()) → JM 3 75 p l e s m args below meth c D cA ad n A 7 out M1 M 46 [] []) : JM 3 75 p l e s m args below meth c D cA ad n A 7 out M1 M 75 [(0, .ref (ad 27)), (1, .int l1), (2, .int l2), (3, .int l3), (5, .int v6)] [.int v7] := by
  unfold X5_leftOf_L6_j75 at h
  refine J.istore (L' := [(4, .int v7), (0, .ref (ad 27)), (1, .int l1), (2, .int l2), (3, .int l3), (5, .int v6)]) hX 44 rfl (by decide) rfl ?_
  obtain ⟨t1, et1, h⟩ := bnd_inv h
  refine J.iinc (q := 5) (L' := [(5, .int t1), (4, .int v7), (0, .ref (ad 27)), (1, .int l1), (2, .int l2), (3, .int l3)]) hX 45 rfl rfl et1 (by decide) rfl ?_
  refine J.goto (tgt := 6) hX 46 rfl (by decide) ?_
  refine J.sub (L' := [(0, .ref (ad 27)), (1, .int l1), (2, .int l2), (3, .int l3), (4, .int v7), (5, .int t1)]) [2, 3, 4, 5, 1, 0] rfl ?_
  exact hin _ _ (Option.some.inj h).symm
set_option maxHeartbeats 4000000 in
set_option maxRecDepth 100000 in
theorem X5_leftOf_L6_j73_ok (hX : Cx p s m args meth c D cA ad n A sa cX5_leftOf 7 RX5 kX5_leftOf) {M : Mem} {l1 : Int32} {l2 : Int32} {l3 : Int32} {v4 : Int32} {v5 : Int32}  {r : (Int32 × Int32) ⊕ ((Int32) ⊕ (Unit))} (h : X5_leftOf_L6_j73 M l1 l2 l3 v4 v5 = some r) (hin : ∀ (q0 : Int32) (q1 : Int32), r = .inl (q0, q1) → JM 3 75 p l e s m args below meth c D cA ad n A 7 out M1 M 6 [(0, .ref (ad 27)), (1, .int l1), (2, .int l2), (3, .int l3), (4, .int q0), (5, .int q1)] []) (hex0 : ∀ (q0 : Int32), r = .inr (.inl q0) → JM 3 75 p l e s m args below meth c D cA ad n A 7 out M1 M 83 [(1, .int l1), (4, .int q0)] []) (hex1 : r = .inr (.inr ()) → JM 3 75 p l e s m args below meth c D cA ad n A 7 out M1 M 46 [] []) : JM 3 75 p l e s m args below meth c D cA ad n A 7 out M1 M 73 [(0, .ref (ad 27)), (1, .int l1), (2, .int l2), (3, .int l3), (4, .int v4), (5, .int v5)] [] := by
  unfold X5_leftOf_L6_j73 at h
  refine J.iload hX 43 4 rfl rfl ?_
  refine J.sub (L' := [(0, .ref (ad 27)), (1, .int l1), (2, .int l2), (3, .int l3), (5, .int v5)]) [0, 1, 2, 3, 5] rfl ?_
  exact X5_leftOf_L6_j75_ok hX  h hin hex0 hex1
set_option maxHeartbeats 4000000 in
set_option maxRecDepth 100000 in
theorem X5_leftOf_L6_j39_ok (hX : Cx p s m args meth c D cA ad n A sa cX5_leftOf 7 RX5 kX5_leftOf) {M : Mem} {l1 : Int32} {l2 : Int32} {l3 : Int32} {v1 : Int32} {v2 : Int32} {v3 : Int32}  {r : (Int32 × Int32) ⊕ ((Int32) ⊕ (Unit))} (h : X5_leftOf_L6_j39 M l1 l2 l3 v1 v2 v3 = some r) (hin : ∀ (q0 : Int32) (q1 : Int32), r = .inl (q0, q1) → JM 3 75 p l e s m args below meth c D cA ad n A 7 out M1 M 6 [(0, .ref (ad 27)), (1, .int l1), (2, .int l2), (3, .int l3), (4, .int q0), (5, .int q1)] []) (hex0 : ∀ (q0 : Int32), r = .inr (.inl q0) → JM 3 75 p l e s m args below meth c D cA ad n A 7 out M1 M 83 [(1, .int l1), (4, .int q0)] []) (hex1 : r = .inr (.inr ()) → JM 3 75 p l e s m args below meth c D cA ad n A 7 out M1 M 46 [] []) : JM 3 75 p l e s m args below meth c D cA ad n A 7 out M1 M 39 [(0, .ref (ad 27)), (1, .int l1), (2, .int l2), (3, .int l3), (4, .int v1), (5, .int v2)] [.int v3] := by
  unfold X5_leftOf_L6_j39 at h
  refine J.istore (L' := [(6, .int v3), (0, .ref (ad 27)), (1, .int l1), (2, .int l2), (3, .int l3), (4, .int v1), (5, .int v2)]) hX 23 rfl (by decide) rfl ?_
  refine J.iload hX 24 0 rfl rfl ?_
  refine J.if_ne (tgt := 48) hX 25 rfl (by decide) (fun b3 => ?_) (fun b3 => ?_)
  · rw [if_neg b3] at h
    refine J.iload_n hX 28 2 rfl rfl ?_
    refine J.iload hX 29 6 rfl rfl ?_
    refine J.ishr hX 30 rfl ?_
    refine J.iconst (v := 1) hX 31 rfl (by decide) ?_
    refine J.iand hX 32 rfl ?_
    refine J.iconst (v := 1) hX 33 rfl (by decide) ?_
    refine J.icmp_ne (tgt := 73) hX 34 rfl (by decide) (fun b4 => ?_) (fun b4 => ?_)
    · rw [if_neg b4] at h
      refine J.sub (L' := [(0, .ref (ad 27)), (1, .int l1), (2, .int l2), (3, .int l3), (4, .int v1), (5, .int v2)]) [1, 2, 3, 4, 5, 6] rfl ?_
      exact X5_leftOf_L6_j73_ok hX  h hin hex0 hex1
    · rw [if_pos b4] at h
      refine J.iload hX 35 0 rfl rfl ?_
      refine J.if_le (tgt := 73) hX 36 rfl (by decide) (fun b5 => ?_) (fun b5 => ?_)
      · rw [if_pos b5] at h
        refine J.sub (L' := [(0, .ref (ad 27)), (1, .int l1), (2, .int l2), (3, .int l3), (4, .int v1), (5, .int v2)]) [1, 2, 3, 4, 5, 6] rfl ?_
        exact X5_leftOf_L6_j73_ok hX  h hin hex0 hex1
      · rw [if_neg b5] at h
        refine J.iload hX 37 5 rfl rfl ?_
        refine J.iconst (v := 1) hX 38 rfl (by decide) ?_
        refine J.iload hX 39 6 rfl rfl ?_
        refine J.ishl hX 40 rfl ?_
        refine J.ior hX 41 rfl ?_
        refine J.goto (tgt := 75) hX 42 rfl (by decide) ?_
        refine J.sub (L' := [(0, .ref (ad 27)), (1, .int l1), (2, .int l2), (3, .int l3), (5, .int v2)]) [1, 2, 3, 4, 6] rfl ?_
        exact X5_leftOf_L6_j75_ok hX  h hin hex0 hex1
  · rw [if_pos b3] at h
    refine J.sub (L' := []) [] rfl ?_
    exact hex1  (Option.some.inj h).symm
set_option maxHeartbeats 4000000 in
set_option maxRecDepth 100000 in
theorem X5_leftOf_L6_ok (hX : Cx p s m args meth c D cA ad n A sa cX5_leftOf 7 RX5 kX5_leftOf) {M : Mem} {l1 : Int32} {l2 : Int32} {l3 : Int32} {c1 : Int32} {c2 : Int32}  {r : (Int32 × Int32) ⊕ ((Int32) ⊕ (Unit))} (h : X5_leftOf_L6 M l1 l2 l3 (c1, c2) = some r) (hin : ∀ (q0 : Int32) (q1 : Int32), r = .inl (q0, q1) → JM 3 75 p l e s m args below meth c D cA ad n A 7 out M1 M 6 [(0, .ref (ad 27)), (1, .int l1), (2, .int l2), (3, .int l3), (4, .int q0), (5, .int q1)] []) (hex0 : ∀ (q0 : Int32), r = .inr (.inl q0) → JM 3 75 p l e s m args below meth c D cA ad n A 7 out M1 M 83 [(1, .int l1), (4, .int q0)] []) (hex1 : r = .inr (.inr ()) → JM 3 75 p l e s m args below meth c D cA ad n A 7 out M1 M 46 [] []) : JM 3 75 p l e s m args below meth c D cA ad n A 7 out M1 M 6 [(0, .ref (ad 27)), (1, .int l1), (2, .int l2), (3, .int l3), (4, .int c1), (5, .int c2)] [] := by
  unfold X5_leftOf_L6 at h
  have h := un2_inv h
  refine J.iload hX 4 5 rfl rfl ?_
  refine J.bipush (v := 24) hX 5 rfl (by decide) ?_
  refine J.icmp_ge (tgt := 83) hX 6 rfl (by decide) (fun b1 => ?_) (fun b1 => ?_)
  · rw [if_pos b1] at h
    refine J.sub (L' := [(1, .int l1), (4, .int c1)]) [1, 4] rfl ?_
    exact hex0 _ (Option.some.inj h).symm
  · rw [if_neg b1] at h
    refine J.iload_n hX 7 1 rfl rfl ?_
    refine J.iload hX 8 5 rfl rfl ?_
    refine J.ishr hX 9 rfl ?_
    refine J.iconst (v := 1) hX 10 rfl (by decide) ?_
    refine J.iand hX 11 rfl ?_
    refine J.iconst (v := 1) hX 12 rfl (by decide) ?_
    refine J.icmp_ne (tgt := 38) hX 13 rfl (by decide) (fun b2 => ?_) (fun b2 => ?_)
    · rw [if_neg b2] at h
      refine J.iconst (v := 1) hX 22 rfl (by decide) ?_
      refine J.sub (L' := [(0, .ref (ad 27)), (1, .int l1), (2, .int l2), (3, .int l3), (4, .int c1), (5, .int c2)]) [0, 1, 2, 3, 4, 5] rfl ?_
      exact X5_leftOf_L6_j39_ok hX  h hin hex0 hex1
    · rw [if_pos b2] at h
      refine J.aload_n hX 14 0 rfl rfl ?_
      refine J.sipush (v := 240) hX 15 rfl (by decide) ?_
      refine J.iload hX 16 5 rfl rfl ?_
      refine J.iadd hX 17 rfl ?_
      refine J.iload_n hX 18 2 rfl rfl ?_
      refine J.iload_n hX 19 3 rfl rfl ?_
      obtain ⟨t2, hc, h⟩ := bd1_inv h
      refine J.callV1 (As := [.int (240 + c2), .int l2, .int l3]) (rest := []) (k := 27) hX 20 rfl (mX5_lies  hc) okX5_lies w_280 (hX.lt (k := 27) (by decide)) sh_27 rfl rfl rfl (Nat.le_of_ble_eq_true rfl) ⟨Nat.le_of_ble_eq_true rfl, Nat.le_of_ble_eq_true rfl⟩ ⟨Nat.zero_le _, Nat.zero_le _⟩ ?_
      refine J.goto (tgt := 39) hX 21 rfl (by decide) ?_
      refine J.sub (L' := [(0, .ref (ad 27)), (1, .int l1), (2, .int l2), (3, .int l3), (4, .int c1), (5, .int c2)]) [0, 1, 2, 3, 4, 5] rfl ?_
      exact X5_leftOf_L6_j39_ok hX  h hin hex0 hex1
set_option maxHeartbeats 4000000 in
set_option maxRecDepth 100000 in
theorem X5_leftOf_j100_ok (hX : Cx p s m args meth c D cA ad n A sa cX5_leftOf 7 RX5 kX5_leftOf) {M : Mem} {v8 : Int32} {r : Int32}  (hr : meth.sig.returnType = (some .int)) (ht : ∀ x ∈ c.exceptionTable.toList, False) (h : X5_leftOf_j100 M v8 = some r) : JM 3 75 p l e s m args below meth c D cA ad n A 7 (.inl (some (.int r))) M M 100 [] [.int v8] := by
  unfold X5_leftOf_j100 at h
  cases h
  exact J.iret hX hr 55 rfl
set_option maxHeartbeats 4000000 in
set_option maxRecDepth 100000 in
theorem X5_leftOf_j94_ok (hX : Cx p s m args meth c D cA ad n A sa cX5_leftOf 7 RX5 kX5_leftOf) {M : Mem}  {r : Int32}  (hr : meth.sig.returnType = (some .int)) (ht : ∀ x ∈ c.exceptionTable.toList, False) (h : X5_leftOf_j94 M = some r) : JM 3 75 p l e s m args below meth c D cA ad n A 7 (.inl (some (.int r))) M M 94 [] [] := by
  unfold X5_leftOf_j94 at h
  refine J.iconst (v := (-1)) hX 52 rfl (by decide) ?_
  refine J.goto (tgt := 100) hX 53 rfl (by decide) ?_
  refine J.sub (L' := []) [] rfl ?_
  exact X5_leftOf_j100_ok hX  hr ht h
set_option maxHeartbeats 4000000 in
set_option maxRecDepth 100000 in
theorem mX5_leftOf {l : Launch} {D : va_G} {cA : Nat → ClassId} {ad : Nat → Nat} {n : Nat} {A : Nat → Prop} {sa : Nat → Nat} {M : Mem} {l1 : Int32} {l2 : Int32} {l3 : Int32} {r : Int32} (h : X5_leftOf M l1 l2 l3 = some r) : CT l D cA ad n A sa yX5_leftOf cX5_leftOf 7 (some .int) 3 75 [.ref (ad 27), .int l1, .int l2, .int l3] M (.inl (some (.int r))) M := by
  refine CT.of (kt := kX5_leftOf) (by decide) kX5_leftOf_ok (Nat.le_of_ble_eq_true rfl) ?_
  intro p e s m args below meth c hX hr ht
  unfold X5_leftOf at h
  refine J.sub (L' := [(0, .ref (ad 27)), (1, .int l1), (2, .int l2), (3, .int l3)]) [0, 1, 2, 3] rfl ?_
  refine J.iconst (v := 0) hX 0 rfl (by decide) ?_
  refine J.istore (L' := [(4, .int 0), (0, .ref (ad 27)), (1, .int l1), (2, .int l2), (3, .int l3)]) hX 1 rfl (by decide) rfl ?_
  refine J.iconst (v := 0) hX 2 rfl (by decide) ?_
  refine J.istore (L' := [(5, .int 0), (4, .int 0), (0, .ref (ad 27)), (1, .int l1), (2, .int l2), (3, .int l3)]) hX 3 rfl (by decide) rfl ?_
  refine J.sub (L' := [(0, .ref (ad 27)), (1, .int l1), (2, .int l2), (3, .int l3), (4, .int 0), (5, .int 0)]) [2, 3, 4, 5, 1, 0] rfl ?_
  rcases bdS_inv h with ⟨a9, hlp, h⟩ | ⟨a9, hlp, h⟩
  · obtain ⟨x1, rfl⟩ : ∃ z, z = a9 := ⟨_, rfl⟩
    have h := un1_inv h
    suffices hE : JM 3 75 p l e s m args below meth c D cA ad n A 7 (.inl (some (.int r))) M M 83 [(1, .int l1), (4, .int x1)] [] by
      exact loop_ok (fun q9 : Int32 × Int32 => JM 3 75 p l e s m args below meth c D cA ad n A 7 (.inl (some (.int r))) M M 6 [(0, .ref (ad 27)), (1, .int l1), (2, .int l2), (3, .int l3), (4, .int q9.1), (5, .int q9.2)] []) (fun q9 r hB hst hex9 => X5_leftOf_L6_ok hX  hB (fun _ _ hr => hst _ hr) (fun _ hr => by cases hex9 _ hr; exact hE) (fun hr => by cases hex9 _ hr)) 3000 _ hlp
    refine J.iload hX 47 1 rfl rfl ?_
    refine J.if_eq (tgt := 94) hX 48 rfl (by decide) (fun b6 => ?_) (fun b6 => ?_)
    · rw [if_pos b6] at h
      refine J.sub (L' := []) [] rfl ?_
      exact X5_leftOf_j94_ok hX  hr ht h
    · rw [if_neg b6] at h
      refine J.iload hX 49 1 rfl rfl ?_
      refine J.iload_n hX 50 0 rfl rfl ?_
      refine J.icmp_ne (tgt := 98) hX 51 rfl (by decide) (fun b7 => ?_) (fun b7 => ?_)
      · rw [if_neg b7] at h
        refine J.iload hX 54 1 rfl rfl ?_
        refine J.sub (L' := []) [] rfl ?_
        exact X5_leftOf_j100_ok hX  hr ht h
      · rw [if_pos b7] at h
        refine J.sub (L' := []) [] rfl ?_
        exact X5_leftOf_j94_ok hX  hr ht h
  · have h := un0_inv h
    suffices hE : JM 3 75 p l e s m args below meth c D cA ad n A 7 (.inl (some (.int r))) M M 46 [] [] by
      exact loop_ok (fun q9 : Int32 × Int32 => JM 3 75 p l e s m args below meth c D cA ad n A 7 (.inl (some (.int r))) M M 6 [(0, .ref (ad 27)), (1, .int l1), (2, .int l2), (3, .int l3), (4, .int q9.1), (5, .int q9.2)] []) (fun q9 r hB hst hex9 => X5_leftOf_L6_ok hX  hB (fun _ _ hr => hst _ hr) (fun _ hr => by cases hex9 _ hr) (fun hr => by cases hex9 _ hr; exact hE)) 3000 _ hlp
    refine J.iconst (v := (-1)) hX 26 rfl (by decide) ?_
    cases h
    exact J.iret hX hr 27 rfl
def X5_piece_L18_j61 (N4 : Mem) (v1 : Int32) (v2 : Int32) (v3 : Int32) : Option ((Int32 × Mem) ⊕ (Mem)) := sto N4 32 32 v3 v2 (fun N5 => bnd (v1 + 1) (fun t3 => some (.inl (t3, N5))))
def X5_piece_L18  (q9 : Int32 × Mem) : Option ((Int32 × Mem) ⊕ (Mem)) := un2 q9 (fun c1 N3 => if 24 ≤ c1 then (some (.inr N3)) else (ld N3 28 264 (240 + c1) (fun t1 => if t1 ≤ 0 then (ld N3 32 32 0 (fun t2 => X5_piece_L18_j61 N3 c1 t2 0)) else (ld N3 32 32 0 (fun t4 => X5_piece_L18_j61 N3 c1 (t4 ||| (1 <<< (c1 &&& 31))) 0)))))
def X5_piece_L88_j247 (N12 : Mem) (c2 : Int32) (t5 : Int32) (t6 : Int32) (v11 : Int32) (v12 : Int32) : Option ((Int32 × Int32 × Mem) ⊕ (Int32 × Mem)) := bnd (v12 + 1) (fun t9 => some (.inl (v11, t9, N12)))
def X5_piece_L88_j177 (N11 : Mem) (c2 : Int32) (t5 : Int32) (t6 : Int32) (v9 : Int32) (v10 : Int32) : Option ((Int32 × Int32 × Mem) ⊕ (Int32 × Mem)) := if v10 = (-1) then (X5_piece_L88_j247 N11 c2 t5 t6 v10 v9) else (sto N11 33 96 (4 * c2) (v9 / 8) (fun N13 => sto N13 33 96 ((4 * c2) + 1) (v9 - v9 / 8 * 8) (fun N14 => bd1 (X5_bits N14 v10) (fun t10 => sto N14 33 96 ((4 * c2) + 2) t10 (fun N15 => bd1 (X5_bits N15 (t6 &&& (v10 ^^^ (-1)))) (fun t11 => sto N15 33 96 ((4 * c2) + 3) t11 (fun N16 => X5_piece_L88_j247 N16 c2 t5 t6 v10 v9)))))))
def X5_piece_L88_j154 (N10 : Mem) (c2 : Int32) (t5 : Int32) (t6 : Int32) (v6 : Int32) (v7 : Int32) (v8 : Int32) : Option ((Int32 × Int32 × Mem) ⊕ (Int32 × Mem)) := if v8 = 0 then (X5_piece_L88_j177 N10 c2 t5 t6 v6 (-1)) else (bd1 (X5_leftOf N10 t6 v7 (v6 - v6 / 8 * 8)) (fun t12 => X5_piece_L88_j177 N10 c2 t5 t6 v6 t12))
def X5_piece_L88_j153 (N9 : Mem) (c2 : Int32) (t5 : Int32) (t6 : Int32) (v4 : Int32) (v5 : Int32) : Option ((Int32 × Int32 × Mem) ⊕ (Int32 × Mem)) := X5_piece_L88_j154 N9 c2 t5 t6 v4 v5 0
def X5_piece_L88 (c2 : Int32) (t5 : Int32) (t6 : Int32) (q9 : Int32 × Int32 × Mem) : Option ((Int32 × Int32 × Mem) ⊕ (Int32 × Mem)) := un3 q9 (fun c4 c5 N8 => if 192 ≤ c5 then (some (.inr (c4, N8))) else (if c4 = (-1) then (bd1 (X5_bits N8 t6) (fun t7 => if t7 ≤ 1 then (some (.inr (c4, N8))) else (bnd ((240 + (c5 / 8))) (fun t8 => if ((t6 >>> ((c5 / 8) &&& 31)) &&& 1) = 1 then (ld N8 28 264 t8 (fun t13 => if t13 ≤ (c5 - c5 / 8 * 8) then (X5_piece_L88_j153 N8 c2 t5 t6 c5 t8) else (X5_piece_L88_j154 N8 c2 t5 t6 c5 t8 1))) else (X5_piece_L88_j153 N8 c2 t5 t6 c5 t8))))) else (some (.inr (c4, N8)))))
def X5_piece_L68_j304 (N20 : Mem) (v21 : Int32) (v22 : Int32) : Option ((Int32 × Int32 × Mem) ⊕ ((Int32 × Mem) ⊕ (Mem))) := some (.inl (v21, v22, N20))
def X5_piece_L68_j269 (N19 : Mem) (v17 : Int32) (v18 : Int32) (v19 : Int32) (v20 : Int32) : Option ((Int32 × Int32 × Mem) ⊕ ((Int32 × Mem) ⊕ (Mem))) := if v20 = (-1) then (X5_piece_L68_j304 N19 v17 v18) else (bnd (v17 + 1) (fun t14 => sto N19 32 32 v18 (v19 &&& (v20 ^^^ (-1))) (fun N21 => sto N21 32 32 (v18 + 1) v20 (fun N22 => bnd ((v18 + 2)) (fun t15 => X5_piece_L68_j304 N22 t14 t15)))))
def X5_piece_L68_j253 (N18 : Mem) (v13 : Int32) (v14 : Int32) (v15 : Int32) (v16 : Int32) : Option ((Int32 × Int32 × Mem) ⊕ ((Int32 × Mem) ⊕ (Mem))) := if v16 = (-1) then (bd1 (X5_bits N18 v15) (fun t16 => if t16 ≤ 1 then (X5_piece_L68_j269 N18 v13 v14 v15 v16) else (some (.inr (.inr N18))))) else (X5_piece_L68_j269 N18 v13 v14 v15 v16)
def X5_piece_L68  (q9 : Int32 × Int32 × Mem) : Option ((Int32 × Int32 × Mem) ⊕ ((Int32 × Mem) ⊕ (Mem))) := un3 q9 (fun c2 c3 N7 => if c3 ≤ 0 then (some (.inr (.inl (c2, N7)))) else (bnd (c3 + (-1)) (fun t5 => ld N7 32 32 t5 (fun t6 => bd2 (loop (X5_piece_L88 c2 t5 t6) 3000 ((-1), 0, N7)) (fun x1 N17 => X5_piece_L68_j253 N17 c2 t5 t6 x1)))))
def X5_piece_L314 (x2 : Int32) (q9 : Int32 × Mem) : Option ((Int32 × Mem) ⊕ (Mem)) := un2 q9 (fun c6 N25 => if (4 * x2) ≤ c6 then (some (.inr N25)) else (ld N25 33 96 c6 (fun t17 => sto N25 34 96 c6 t17 (fun N26 => bnd (c6 + 1) (fun t18 => some (.inl (t18, N26)))))))
def X5_piece (M : Mem) : Option (Int32 × Mem) := bnd (wr M 27 0 0) (fun N1 => sto N1 32 32 0 0 (fun N2 => bd1 (loop (X5_piece_L18) 3000 (0, N2)) (fun N6 => bdS (loop (X5_piece_L68) 3000 (0, 1, N6)) (fun a9 => un2 a9 (fun x2 N23 => bnd (wr N23 27 8 x2) (fun N24 => bd1 (loop (X5_piece_L314 x2) 3000 (0, N24)) (fun N27 => some (x2, N27))))) (fun a9 => un1 a9 (fun N28 => some ((-1), N28))))))
set_option maxHeartbeats 4000000 in
set_option maxRecDepth 100000 in
theorem X5_piece_L18_j61_ok (hX : Cx p s m args meth c D cA ad n A sa cX5_piece 8 RX5 kX5_piece) {N4 : Mem} {v1 : Int32} {v2 : Int32} {v3 : Int32}  {r : (Int32 × Mem) ⊕ (Mem)} (h : X5_piece_L18_j61 N4 v1 v2 v3 = some r) (hin : ∀ (q0 : Int32) (Mq : Mem), r = .inl (q0, Mq) → JM 4 101 p l e s m args below meth c D cA ad n A 8 out M1 Mq 18 [(0, .ref (ad 27)), (1, .int 0), (2, .int 1), (3, .int q0)] []) (hex0 : ∀  (Mq : Mem), r = .inr Mq → JM 4 101 p l e s m args below meth c D cA ad n A 8 out M1 Mq 68 [(0, .ref (ad 27)), (1, .int 0), (2, .int 1)] []) : JM 4 101 p l e s m args below meth c D cA ad n A 8 out M1 N4 61 [(0, .ref (ad 27)), (1, .int 0), (2, .int 1), (3, .int v1)] [.int v2, .int v3, .ref (ad 32)] := by
  unfold X5_piece_L18_j61 at h
  obtain ⟨N5, eN5, hb, h⟩ := sto_inv h
  refine J.iastN hX 40 32 (hX.lt (k := 32) (by decide)) sh_32 hb eN5 rfl ?_
  obtain ⟨t3, et3, h⟩ := bnd_inv h
  refine J.iinc (q := 3) (L' := [(3, .int t3), (0, .ref (ad 27)), (1, .int 0), (2, .int 1)]) hX 41 rfl rfl et3 (by decide) rfl ?_
  refine J.goto (tgt := 18) hX 42 rfl (by decide) ?_
  refine J.sub (L' := [(0, .ref (ad 27)), (1, .int 0), (2, .int 1), (3, .int t3)]) [1, 2, 3, 0] rfl ?_
  exact hin _ _ (Option.some.inj h).symm
set_option maxHeartbeats 4000000 in
set_option maxRecDepth 100000 in
theorem X5_piece_L18_ok (hX : Cx p s m args meth c D cA ad n A sa cX5_piece 8 RX5 kX5_piece) {N3 : Mem}  {c1 : Int32}  {r : (Int32 × Mem) ⊕ (Mem)} (h : X5_piece_L18  (c1, N3) = some r) (hin : ∀ (q0 : Int32) (Mq : Mem), r = .inl (q0, Mq) → JM 4 101 p l e s m args below meth c D cA ad n A 8 out M1 Mq 18 [(0, .ref (ad 27)), (1, .int 0), (2, .int 1), (3, .int q0)] []) (hex0 : ∀  (Mq : Mem), r = .inr Mq → JM 4 101 p l e s m args below meth c D cA ad n A 8 out M1 Mq 68 [(0, .ref (ad 27)), (1, .int 0), (2, .int 1)] []) : JM 4 101 p l e s m args below meth c D cA ad n A 8 out M1 N3 18 [(0, .ref (ad 27)), (1, .int 0), (2, .int 1), (3, .int c1)] [] := by
  unfold X5_piece_L18 at h
  have h := un2_inv h
  refine J.iload_n hX 14 3 rfl rfl ?_
  refine J.bipush (v := 24) hX 15 rfl (by decide) ?_
  refine J.icmp_ge (tgt := 68) hX 16 rfl (by decide) (fun b1 => ?_) (fun b1 => ?_)
  · rw [if_pos b1] at h
    refine J.sub (L' := [(0, .ref (ad 27)), (1, .int 0), (2, .int 1)]) [0, 1, 2] rfl ?_
    exact hex0 _ (Option.some.inj h).symm
  · rw [if_neg b1] at h
    refine J.aload_n hX 17 0 rfl rfl ?_
    refine J.getR hX 18 27 5 (hX.lt (k := 27) (by decide)) sh_27 rfl in_wsX50 6 (by decide) w_79 rfl rfl ?_
    refine J.iconst (v := 0) hX 19 rfl (by decide) ?_
    refine J.aload_n hX 20 0 rfl rfl ?_
    refine J.getR hX 21 27 5 (hX.lt (k := 27) (by decide)) sh_27 rfl in_wsX50 2 (by decide) w_75 rfl rfl ?_
    refine J.sipush (v := 240) hX 22 rfl (by decide) ?_
    refine J.iload_n hX 23 3 rfl rfl ?_
    refine J.iadd hX 24 rfl ?_
    obtain ⟨t1, et1, hb, h⟩ := ld_inv h
    refine J.ialdN hX 25 28 (hX.lt (k := 28) (by decide)) sh_28 hb et1 rfl ?_
    refine J.if_le (tgt := 55) hX 26 rfl (by decide) (fun b2 => ?_) (fun b2 => ?_)
    · rw [if_pos b2] at h
      refine J.aload_n hX 36 0 rfl rfl ?_
      refine J.getR hX 37 27 5 (hX.lt (k := 27) (by decide)) sh_27 rfl in_wsX50 6 (by decide) w_79 rfl rfl ?_
      refine J.iconst (v := 0) hX 38 rfl (by decide) ?_
      obtain ⟨t2, et2, hb, h⟩ := ld_inv h
      refine J.ialdN hX 39 32 (hX.lt (k := 32) (by decide)) sh_32 hb et2 rfl ?_
      refine J.sub (L' := [(0, .ref (ad 27)), (1, .int 0), (2, .int 1), (3, .int c1)]) [0, 1, 2, 3] rfl ?_
      exact X5_piece_L18_j61_ok hX  h hin hex0
    · rw [if_neg b2] at h
      refine J.aload_n hX 27 0 rfl rfl ?_
      refine J.getR hX 28 27 5 (hX.lt (k := 27) (by decide)) sh_27 rfl in_wsX50 6 (by decide) w_79 rfl rfl ?_
      refine J.iconst (v := 0) hX 29 rfl (by decide) ?_
      obtain ⟨t4, et4, hb, h⟩ := ld_inv h
      refine J.ialdN hX 30 32 (hX.lt (k := 32) (by decide)) sh_32 hb et4 rfl ?_
      refine J.iconst (v := 1) hX 31 rfl (by decide) ?_
      refine J.iload_n hX 32 3 rfl rfl ?_
      refine J.ishl hX 33 rfl ?_
      refine J.ior hX 34 rfl ?_
      refine J.goto (tgt := 61) hX 35 rfl (by decide) ?_
      refine J.sub (L' := [(0, .ref (ad 27)), (1, .int 0), (2, .int 1), (3, .int c1)]) [0, 1, 2, 3] rfl ?_
      exact X5_piece_L18_j61_ok hX  h hin hex0
set_option maxHeartbeats 4000000 in
set_option maxRecDepth 100000 in
theorem X5_piece_L88_j247_ok (hX : Cx p s m args meth c D cA ad n A sa cX5_piece 8 RX5 kX5_piece) {N12 : Mem} {c2 : Int32} {t5 : Int32} {t6 : Int32} {v11 : Int32} {v12 : Int32}  {r : (Int32 × Int32 × Mem) ⊕ (Int32 × Mem)} (h : X5_piece_L88_j247 N12 c2 t5 t6 v11 v12 = some r) (hin : ∀ (q0 : Int32) (q1 : Int32) (Mq : Mem), r = .inl (q0, q1, Mq) → JM 4 101 p l e s m args below meth c D cA ad n A 8 out M1 Mq 88 [(0, .ref (ad 27)), (1, .int c2), (2, .int t5), (3, .int t6), (4, .int q0), (5, .int q1)] []) (hex0 : ∀ (q0 : Int32) (Mq : Mem), r = .inr (q0, Mq) → JM 4 101 p l e s m args below meth c D cA ad n A 8 out M1 Mq 253 [(0, .ref (ad 27)), (1, .int c2), (2, .int t5), (3, .int t6), (4, .int q0)] []) : JM 4 101 p l e s m args below meth c D cA ad n A 8 out M1 N12 247 [(0, .ref (ad 27)), (1, .int c2), (2, .int t5), (3, .int t6), (4, .int v11), (5, .int v12)] [] := by
  unfold X5_piece_L88_j247 at h
  obtain ⟨t9, et9, h⟩ := bnd_inv h
  refine J.iinc (q := 5) (L' := [(5, .int t9), (0, .ref (ad 27)), (1, .int c2), (2, .int t5), (3, .int t6), (4, .int v11)]) hX 151 rfl rfl et9 (by decide) rfl ?_
  refine J.goto (tgt := 88) hX 152 rfl (by decide) ?_
  refine J.sub (L' := [(0, .ref (ad 27)), (1, .int c2), (2, .int t5), (3, .int t6), (4, .int v11), (5, .int t9)]) [1, 2, 3, 4, 5, 0] rfl ?_
  exact hin _ _ _ (Option.some.inj h).symm
set_option maxHeartbeats 4000000 in
set_option maxRecDepth 100000 in
theorem X5_piece_L88_j177_ok (hX : Cx p s m args meth c D cA ad n A sa cX5_piece 8 RX5 kX5_piece) {N11 : Mem} {c2 : Int32} {t5 : Int32} {t6 : Int32} {v9 : Int32} {v10 : Int32}  {r : (Int32 × Int32 × Mem) ⊕ (Int32 × Mem)} (h : X5_piece_L88_j177 N11 c2 t5 t6 v9 v10 = some r) (hin : ∀ (q0 : Int32) (q1 : Int32) (Mq : Mem), r = .inl (q0, q1, Mq) → JM 4 101 p l e s m args below meth c D cA ad n A 8 out M1 Mq 88 [(0, .ref (ad 27)), (1, .int c2), (2, .int t5), (3, .int t6), (4, .int q0), (5, .int q1)] []) (hex0 : ∀ (q0 : Int32) (Mq : Mem), r = .inr (q0, Mq) → JM 4 101 p l e s m args below meth c D cA ad n A 8 out M1 Mq 253 [(0, .ref (ad 27)), (1, .int c2), (2, .int t5), (3, .int t6), (4, .int q0)] []) : JM 4 101 p l e s m args below meth c D cA ad n A 8 out M1 N11 177 [(0, .ref (ad 27)), (1, .int c2), (2, .int t5), (3, .int t6), (5, .int v9)] [.int v10] := by
  unfold X5_piece_L88_j177 at h
  refine J.istore (L' := [(4, .int v10), (0, .ref (ad 27)), (1, .int c2), (2, .int t5), (3, .int t6), (5, .int v9)]) hX 103 rfl (by decide) rfl ?_
  refine J.iload hX 104 0 rfl rfl ?_
  refine J.iconst (v := (-1)) hX 105 rfl (by decide) ?_
  refine J.icmp_eq (tgt := 247) hX 106 rfl (by decide) (fun b9 => ?_) (fun b9 => ?_)
  · rw [if_pos b9] at h
    refine J.sub (L' := [(0, .ref (ad 27)), (1, .int c2), (2, .int t5), (3, .int t6), (4, .int v10), (5, .int v9)]) [1, 2, 3, 4, 0, 5] rfl ?_
    exact X5_piece_L88_j247_ok hX  h hin hex0
  · rw [if_neg b9] at h
    refine J.aload_n hX 107 1 rfl rfl ?_
    refine J.getR hX 108 27 5 (hX.lt (k := 27) (by decide)) sh_27 rfl in_wsX50 7 (by decide) w_80 rfl rfl ?_
    refine J.iconst (v := 4) hX 109 rfl (by decide) ?_
    refine J.iload_n hX 110 2 rfl rfl ?_
    refine J.imul hX 111 rfl ?_
    refine J.iload hX 112 5 rfl rfl ?_
    refine J.bipush (v := 8) hX 113 rfl (by decide) ?_
    refine J.idiv hX 114 rfl (by decide) ?_
    obtain ⟨N13, eN13, hb, h⟩ := sto_inv h
    refine J.iastN hX 115 33 (hX.lt (k := 33) (by decide)) sh_33 hb eN13 rfl ?_
    refine J.aload_n hX 116 1 rfl rfl ?_
    refine J.getR hX 117 27 5 (hX.lt (k := 27) (by decide)) sh_27 rfl in_wsX50 7 (by decide) w_80 rfl rfl ?_
    refine J.iconst (v := 4) hX 118 rfl (by decide) ?_
    refine J.iload_n hX 119 2 rfl rfl ?_
    refine J.imul hX 120 rfl ?_
    refine J.iconst (v := 1) hX 121 rfl (by decide) ?_
    refine J.iadd hX 122 rfl ?_
    refine J.iload hX 123 5 rfl rfl ?_
    refine J.bipush (v := 8) hX 124 rfl (by decide) ?_
    refine J.irem hX 125 rfl (by decide) ?_
    obtain ⟨N14, eN14, hb, h⟩ := sto_inv h
    refine J.iastN hX 126 33 (hX.lt (k := 33) (by decide)) sh_33 hb eN14 rfl ?_
    refine J.aload_n hX 127 1 rfl rfl ?_
    refine J.getR hX 128 27 5 (hX.lt (k := 27) (by decide)) sh_27 rfl in_wsX50 7 (by decide) w_80 rfl rfl ?_
    refine J.iconst (v := 4) hX 129 rfl (by decide) ?_
    refine J.iload_n hX 130 2 rfl rfl ?_
    refine J.imul hX 131 rfl ?_
    refine J.iconst (v := 2) hX 132 rfl (by decide) ?_
    refine J.iadd hX 133 rfl ?_
    refine J.iload hX 134 0 rfl rfl ?_
    obtain ⟨t10, hc, h⟩ := bd1_inv h
    refine J.callS1 (As := [.int v10]) (rest := [.int ((4 * c2) + 2), .ref (ad 33)]) hX 135 rfl (mX5_bits  hc) okX5_bits w_334 rfl rfl (Nat.le_of_ble_eq_true rfl) ⟨Nat.le_of_ble_eq_true rfl, Nat.le_of_ble_eq_true rfl⟩ ⟨Nat.zero_le _, Nat.zero_le _⟩ ?_
    obtain ⟨N15, eN15, hb, h⟩ := sto_inv h
    refine J.iastN hX 136 33 (hX.lt (k := 33) (by decide)) sh_33 hb eN15 rfl ?_
    refine J.aload_n hX 137 1 rfl rfl ?_
    refine J.getR hX 138 27 5 (hX.lt (k := 27) (by decide)) sh_27 rfl in_wsX50 7 (by decide) w_80 rfl rfl ?_
    refine J.iconst (v := 4) hX 139 rfl (by decide) ?_
    refine J.iload_n hX 140 2 rfl rfl ?_
    refine J.imul hX 141 rfl ?_
    refine J.iconst (v := 3) hX 142 rfl (by decide) ?_
    refine J.iadd hX 143 rfl ?_
    refine J.iload_n hX 144 4 rfl rfl ?_
    refine J.iload hX 145 0 rfl rfl ?_
    refine J.iconst (v := (-1)) hX 146 rfl (by decide) ?_
    refine J.ixor hX 147 rfl ?_
    refine J.iand hX 148 rfl ?_
    obtain ⟨t11, hc, h⟩ := bd1_inv h
    refine J.callS1 (As := [.int (t6 &&& (v10 ^^^ (-1)))]) (rest := [.int ((4 * c2) + 3), .ref (ad 33)]) hX 149 rfl (mX5_bits  hc) okX5_bits w_334 rfl rfl (Nat.le_of_ble_eq_true rfl) ⟨Nat.le_of_ble_eq_true rfl, Nat.le_of_ble_eq_true rfl⟩ ⟨Nat.zero_le _, Nat.zero_le _⟩ ?_
    obtain ⟨N16, eN16, hb, h⟩ := sto_inv h
    refine J.iastN hX 150 33 (hX.lt (k := 33) (by decide)) sh_33 hb eN16 rfl ?_
    refine J.sub (L' := [(0, .ref (ad 27)), (1, .int c2), (2, .int t5), (3, .int t6), (4, .int v10), (5, .int v9)]) [1, 2, 3, 4, 0, 5] rfl ?_
    exact X5_piece_L88_j247_ok hX  h hin hex0
set_option maxHeartbeats 4000000 in
set_option maxRecDepth 100000 in
theorem X5_piece_L88_j154_ok (hX : Cx p s m args meth c D cA ad n A sa cX5_piece 8 RX5 kX5_piece) {N10 : Mem} {c2 : Int32} {t5 : Int32} {t6 : Int32} {v6 : Int32} {v7 : Int32} {v8 : Int32}  {r : (Int32 × Int32 × Mem) ⊕ (Int32 × Mem)} (h : X5_piece_L88_j154 N10 c2 t5 t6 v6 v7 v8 = some r) (hin : ∀ (q0 : Int32) (q1 : Int32) (Mq : Mem), r = .inl (q0, q1, Mq) → JM 4 101 p l e s m args below meth c D cA ad n A 8 out M1 Mq 88 [(0, .ref (ad 27)), (1, .int c2), (2, .int t5), (3, .int t6), (4, .int q0), (5, .int q1)] []) (hex0 : ∀ (q0 : Int32) (Mq : Mem), r = .inr (q0, Mq) → JM 4 101 p l e s m args below meth c D cA ad n A 8 out M1 Mq 253 [(0, .ref (ad 27)), (1, .int c2), (2, .int t5), (3, .int t6), (4, .int q0)] []) : JM 4 101 p l e s m args below meth c D cA ad n A 8 out M1 N10 154 [(0, .ref (ad 27)), (1, .int c2), (2, .int t5), (3, .int t6), (5, .int v6), (6, .int v7)] [.int v8] := by
  unfold X5_piece_L88_j154 at h
  refine J.istore (L' := [(7, .int v8), (0, .ref (ad 27)), (1, .int c2), (2, .int t5), (3, .int t6), (5, .int v6), (6, .int v7)]) hX 91 rfl (by decide) rfl ?_
  refine J.iload hX 92 0 rfl rfl ?_
  refine J.if_eq (tgt := 176) hX 93 rfl (by decide) (fun b8 => ?_) (fun b8 => ?_)
  · rw [if_pos b8] at h
    refine J.iconst (v := (-1)) hX 102 rfl (by decide) ?_
    refine J.sub (L' := [(0, .ref (ad 27)), (1, .int c2), (2, .int t5), (3, .int t6), (5, .int v6)]) [1, 2, 3, 4, 5] rfl ?_
    exact X5_piece_L88_j177_ok hX  h hin hex0
  · rw [if_neg b8] at h
    refine J.aload_n hX 94 1 rfl rfl ?_
    refine J.iload_n hX 95 4 rfl rfl ?_
    refine J.iload hX 96 6 rfl rfl ?_
    refine J.iload hX 97 5 rfl rfl ?_
    refine J.bipush (v := 8) hX 98 rfl (by decide) ?_
    refine J.irem hX 99 rfl (by decide) ?_
    obtain ⟨t12, hc, h⟩ := bd1_inv h
    refine J.callV1 (As := [.int t6, .int v7, .int (v6 - v6 / 8 * 8)]) (rest := []) (k := 27) hX 100 rfl (mX5_leftOf  hc) okX5_leftOf w_337 (hX.lt (k := 27) (by decide)) sh_27 rfl rfl rfl (Nat.le_of_ble_eq_true rfl) ⟨Nat.le_of_ble_eq_true rfl, Nat.le_of_ble_eq_true rfl⟩ ⟨Nat.zero_le _, Nat.zero_le _⟩ ?_
    refine J.goto (tgt := 177) hX 101 rfl (by decide) ?_
    refine J.sub (L' := [(0, .ref (ad 27)), (1, .int c2), (2, .int t5), (3, .int t6), (5, .int v6)]) [1, 2, 3, 4, 5] rfl ?_
    exact X5_piece_L88_j177_ok hX  h hin hex0
set_option maxHeartbeats 4000000 in
set_option maxRecDepth 100000 in
theorem X5_piece_L88_j153_ok (hX : Cx p s m args meth c D cA ad n A sa cX5_piece 8 RX5 kX5_piece) {N9 : Mem} {c2 : Int32} {t5 : Int32} {t6 : Int32} {v4 : Int32} {v5 : Int32}  {r : (Int32 × Int32 × Mem) ⊕ (Int32 × Mem)} (h : X5_piece_L88_j153 N9 c2 t5 t6 v4 v5 = some r) (hin : ∀ (q0 : Int32) (q1 : Int32) (Mq : Mem), r = .inl (q0, q1, Mq) → JM 4 101 p l e s m args below meth c D cA ad n A 8 out M1 Mq 88 [(0, .ref (ad 27)), (1, .int c2), (2, .int t5), (3, .int t6), (4, .int q0), (5, .int q1)] []) (hex0 : ∀ (q0 : Int32) (Mq : Mem), r = .inr (q0, Mq) → JM 4 101 p l e s m args below meth c D cA ad n A 8 out M1 Mq 253 [(0, .ref (ad 27)), (1, .int c2), (2, .int t5), (3, .int t6), (4, .int q0)] []) : JM 4 101 p l e s m args below meth c D cA ad n A 8 out M1 N9 153 [(0, .ref (ad 27)), (1, .int c2), (2, .int t5), (3, .int t6), (5, .int v4), (6, .int v5)] [] := by
  unfold X5_piece_L88_j153 at h
  refine J.iconst (v := 0) hX 90 rfl (by decide) ?_
  refine J.sub (L' := [(0, .ref (ad 27)), (1, .int c2), (2, .int t5), (3, .int t6), (5, .int v4), (6, .int v5)]) [0, 1, 2, 3, 4, 5] rfl ?_
  exact X5_piece_L88_j154_ok hX  h hin hex0
set_option maxHeartbeats 4000000 in
set_option maxRecDepth 100000 in
theorem X5_piece_L88_ok (hX : Cx p s m args meth c D cA ad n A sa cX5_piece 8 RX5 kX5_piece) {N8 : Mem} {c2 : Int32} {t5 : Int32} {t6 : Int32} {c4 : Int32} {c5 : Int32}  {r : (Int32 × Int32 × Mem) ⊕ (Int32 × Mem)} (h : X5_piece_L88 c2 t5 t6 (c4, c5, N8) = some r) (hin : ∀ (q0 : Int32) (q1 : Int32) (Mq : Mem), r = .inl (q0, q1, Mq) → JM 4 101 p l e s m args below meth c D cA ad n A 8 out M1 Mq 88 [(0, .ref (ad 27)), (1, .int c2), (2, .int t5), (3, .int t6), (4, .int q0), (5, .int q1)] []) (hex0 : ∀ (q0 : Int32) (Mq : Mem), r = .inr (q0, Mq) → JM 4 101 p l e s m args below meth c D cA ad n A 8 out M1 Mq 253 [(0, .ref (ad 27)), (1, .int c2), (2, .int t5), (3, .int t6), (4, .int q0)] []) : JM 4 101 p l e s m args below meth c D cA ad n A 8 out M1 N8 88 [(0, .ref (ad 27)), (1, .int c2), (2, .int t5), (3, .int t6), (4, .int c4), (5, .int c5)] [] := by
  unfold X5_piece_L88 at h
  have h := un3_inv h
  refine J.iload hX 55 5 rfl rfl ?_
  refine J.sipush (v := 192) hX 56 rfl (by decide) ?_
  refine J.icmp_ge (tgt := 253) hX 57 rfl (by decide) (fun b4 => ?_) (fun b4 => ?_)
  · rw [if_pos b4] at h
    refine J.sub (L' := [(0, .ref (ad 27)), (1, .int c2), (2, .int t5), (3, .int t6), (4, .int c4)]) [0, 1, 2, 3, 4] rfl ?_
    exact hex0 _ _ (Option.some.inj h).symm
  · rw [if_neg b4] at h
    refine J.iload hX 58 4 rfl rfl ?_
    refine J.iconst (v := (-1)) hX 59 rfl (by decide) ?_
    refine J.icmp_ne (tgt := 253) hX 60 rfl (by decide) (fun b5 => ?_) (fun b5 => ?_)
    · rw [if_neg b5] at h
      refine J.sub (L' := [(0, .ref (ad 27)), (1, .int c2), (2, .int t5), (3, .int t6), (4, .int c4)]) [0, 1, 2, 3, 4] rfl ?_
      exact hex0 _ _ (Option.some.inj h).symm
    · rw [if_pos b5] at h
      refine J.iload_n hX 61 3 rfl rfl ?_
      obtain ⟨t7, hc, h⟩ := bd1_inv h
      refine J.callS1 (As := [.int t6]) (rest := []) hX 62 rfl (mX5_bits  hc) okX5_bits w_334 rfl rfl (Nat.le_of_ble_eq_true rfl) ⟨Nat.le_of_ble_eq_true rfl, Nat.le_of_ble_eq_true rfl⟩ ⟨Nat.zero_le _, Nat.zero_le _⟩ ?_
      refine J.iconst (v := 1) hX 63 rfl (by decide) ?_
      refine J.icmp_le (tgt := 253) hX 64 rfl (by decide) (fun b6 => ?_) (fun b6 => ?_)
      · rw [if_pos b6] at h
        refine J.sub (L' := [(0, .ref (ad 27)), (1, .int c2), (2, .int t5), (3, .int t6), (4, .int c4)]) [0, 1, 2, 3, 4] rfl ?_
        exact hex0 _ _ (Option.some.inj h).symm
      · rw [if_neg b6] at h
        refine J.sipush (v := 240) hX 65 rfl (by decide) ?_
        refine J.iload hX 66 5 rfl rfl ?_
        refine J.bipush (v := 8) hX 67 rfl (by decide) ?_
        refine J.idiv hX 68 rfl (by decide) ?_
        refine J.iadd hX 69 rfl ?_
        obtain ⟨t8, et8, h⟩ := bnd_inv h
        refine J.nm et8 ?_
        refine J.istore (L' := [(6, .int t8), (0, .ref (ad 27)), (1, .int c2), (2, .int t5), (3, .int t6), (4, .int c4), (5, .int c5)]) hX 70 rfl (by decide) rfl ?_
        refine J.iload_n hX 71 4 rfl rfl ?_
        refine J.iload hX 72 6 rfl rfl ?_
        refine J.bipush (v := 8) hX 73 rfl (by decide) ?_
        refine J.idiv hX 74 rfl (by decide) ?_
        refine J.ishr hX 75 rfl ?_
        refine J.iconst (v := 1) hX 76 rfl (by decide) ?_
        refine J.iand hX 77 rfl ?_
        refine J.iconst (v := 1) hX 78 rfl (by decide) ?_
        refine J.icmp_ne (tgt := 153) hX 79 rfl (by decide) (fun b7 => ?_) (fun b7 => ?_)
        · rw [if_neg b7] at h
          refine J.sub (L' := [(0, .ref (ad 27)), (1, .int c2), (2, .int t5), (3, .int t6), (5, .int c5), (6, .int t8)]) [1, 2, 3, 4, 6, 0] rfl ?_
          exact X5_piece_L88_j153_ok hX  h hin hex0
        · rw [if_pos b7] at h
          refine J.iload hX 80 6 rfl rfl ?_
          refine J.bipush (v := 8) hX 81 rfl (by decide) ?_
          refine J.irem hX 82 rfl (by decide) ?_
          refine J.aload_n hX 83 1 rfl rfl ?_
          refine J.getR hX 84 27 5 (hX.lt (k := 27) (by decide)) sh_27 rfl in_wsX50 2 (by decide) w_75 rfl rfl ?_
          refine J.iload hX 85 0 rfl rfl ?_
          obtain ⟨t13, et13, hb, h⟩ := ld_inv h
          refine J.ialdN hX 86 28 (hX.lt (k := 28) (by decide)) sh_28 hb et13 rfl ?_
          refine J.icmp_ge (tgt := 153) hX 87 rfl (by decide) (fun b10 => ?_) (fun b10 => ?_)
          · rw [if_pos b10] at h
            refine J.sub (L' := [(0, .ref (ad 27)), (1, .int c2), (2, .int t5), (3, .int t6), (5, .int c5), (6, .int t8)]) [1, 2, 3, 4, 6, 0] rfl ?_
            exact X5_piece_L88_j153_ok hX  h hin hex0
          · rw [if_neg b10] at h
            refine J.iconst (v := 1) hX 88 rfl (by decide) ?_
            refine J.goto (tgt := 154) hX 89 rfl (by decide) ?_
            refine J.sub (L' := [(0, .ref (ad 27)), (1, .int c2), (2, .int t5), (3, .int t6), (5, .int c5), (6, .int t8)]) [1, 2, 3, 4, 6, 0] rfl ?_
            exact X5_piece_L88_j154_ok hX  h hin hex0
set_option maxHeartbeats 4000000 in
set_option maxRecDepth 100000 in
theorem X5_piece_L68_j304_ok (hX : Cx p s m args meth c D cA ad n A sa cX5_piece 8 RX5 kX5_piece) {N20 : Mem} {v21 : Int32} {v22 : Int32}  {r : (Int32 × Int32 × Mem) ⊕ ((Int32 × Mem) ⊕ (Mem))} (h : X5_piece_L68_j304 N20 v21 v22 = some r) (hin : ∀ (q0 : Int32) (q1 : Int32) (Mq : Mem), r = .inl (q0, q1, Mq) → JM 4 101 p l e s m args below meth c D cA ad n A 8 out M1 Mq 68 [(0, .ref (ad 27)), (1, .int q0), (2, .int q1)] []) (hex0 : ∀ (q0 : Int32) (Mq : Mem), r = .inr (.inl (q0, Mq)) → JM 4 101 p l e s m args below meth c D cA ad n A 8 out M1 Mq 307 [(0, .ref (ad 27)), (1, .int q0)] []) (hex1 : ∀  (Mq : Mem), r = .inr (.inr Mq) → JM 4 101 p l e s m args below meth c D cA ad n A 8 out M1 Mq 267 [] []) : JM 4 101 p l e s m args below meth c D cA ad n A 8 out M1 N20 304 [(0, .ref (ad 27)), (1, .int v21), (2, .int v22)] [] := by
  unfold X5_piece_L68_j304 at h
  refine J.goto (tgt := 68) hX 186 rfl (by decide) ?_
  refine J.sub (L' := [(0, .ref (ad 27)), (1, .int v21), (2, .int v22)]) [0, 1, 2] rfl ?_
  exact hin _ _ _ (Option.some.inj h).symm
set_option maxHeartbeats 4000000 in
set_option maxRecDepth 100000 in
theorem X5_piece_L68_j269_ok (hX : Cx p s m args meth c D cA ad n A sa cX5_piece 8 RX5 kX5_piece) {N19 : Mem} {v17 : Int32} {v18 : Int32} {v19 : Int32} {v20 : Int32}  {r : (Int32 × Int32 × Mem) ⊕ ((Int32 × Mem) ⊕ (Mem))} (h : X5_piece_L68_j269 N19 v17 v18 v19 v20 = some r) (hin : ∀ (q0 : Int32) (q1 : Int32) (Mq : Mem), r = .inl (q0, q1, Mq) → JM 4 101 p l e s m args below meth c D cA ad n A 8 out M1 Mq 68 [(0, .ref (ad 27)), (1, .int q0), (2, .int q1)] []) (hex0 : ∀ (q0 : Int32) (Mq : Mem), r = .inr (.inl (q0, Mq)) → JM 4 101 p l e s m args below meth c D cA ad n A 8 out M1 Mq 307 [(0, .ref (ad 27)), (1, .int q0)] []) (hex1 : ∀  (Mq : Mem), r = .inr (.inr Mq) → JM 4 101 p l e s m args below meth c D cA ad n A 8 out M1 Mq 267 [] []) : JM 4 101 p l e s m args below meth c D cA ad n A 8 out M1 N19 269 [(0, .ref (ad 27)), (1, .int v17), (2, .int v18), (3, .int v19), (4, .int v20)] [] := by
  unfold X5_piece_L68_j269 at h
  refine J.iload hX 162 4 rfl rfl ?_
  refine J.iconst (v := (-1)) hX 163 rfl (by decide) ?_
  refine J.icmp_eq (tgt := 304) hX 164 rfl (by decide) (fun b12 => ?_) (fun b12 => ?_)
  · rw [if_pos b12] at h
    refine J.sub (L' := [(0, .ref (ad 27)), (1, .int v17), (2, .int v18)]) [0, 1, 2] rfl ?_
    exact X5_piece_L68_j304_ok hX  h hin hex0 hex1
  · rw [if_neg b12] at h
    obtain ⟨t14, et14, h⟩ := bnd_inv h
    refine J.iinc (q := 1) (L' := [(1, .int t14), (0, .ref (ad 27)), (2, .int v18), (3, .int v19), (4, .int v20)]) hX 165 rfl rfl et14 (by decide) rfl ?_
    refine J.aload_n hX 166 1 rfl rfl ?_
    refine J.getR hX 167 27 5 (hX.lt (k := 27) (by decide)) sh_27 rfl in_wsX50 6 (by decide) w_79 rfl rfl ?_
    refine J.iload_n hX 168 2 rfl rfl ?_
    refine J.iload_n hX 169 3 rfl rfl ?_
    refine J.iload hX 170 4 rfl rfl ?_
    refine J.iconst (v := (-1)) hX 171 rfl (by decide) ?_
    refine J.ixor hX 172 rfl ?_
    refine J.iand hX 173 rfl ?_
    obtain ⟨N21, eN21, hb, h⟩ := sto_inv h
    refine J.iastN hX 174 32 (hX.lt (k := 32) (by decide)) sh_32 hb eN21 rfl ?_
    refine J.aload_n hX 175 1 rfl rfl ?_
    refine J.getR hX 176 27 5 (hX.lt (k := 27) (by decide)) sh_27 rfl in_wsX50 6 (by decide) w_79 rfl rfl ?_
    refine J.iload_n hX 177 2 rfl rfl ?_
    refine J.iconst (v := 1) hX 178 rfl (by decide) ?_
    refine J.iadd hX 179 rfl ?_
    refine J.iload hX 180 4 rfl rfl ?_
    obtain ⟨N22, eN22, hb, h⟩ := sto_inv h
    refine J.iastN hX 181 32 (hX.lt (k := 32) (by decide)) sh_32 hb eN22 rfl ?_
    refine J.iload_n hX 182 2 rfl rfl ?_
    refine J.iconst (v := 2) hX 183 rfl (by decide) ?_
    refine J.iadd hX 184 rfl ?_
    obtain ⟨t15, et15, h⟩ := bnd_inv h
    refine J.nm et15 ?_
    refine J.istore_n (L' := [(2, .int t15), (1, .int t14), (0, .ref (ad 27)), (3, .int v19), (4, .int v20)]) hX 185 rfl (by decide) rfl ?_
    refine J.sub (L' := [(0, .ref (ad 27)), (1, .int t14), (2, .int t15)]) [2, 1, 0] rfl ?_
    exact X5_piece_L68_j304_ok hX  h hin hex0 hex1
set_option maxHeartbeats 4000000 in
set_option maxRecDepth 100000 in
theorem X5_piece_L68_j253_ok (hX : Cx p s m args meth c D cA ad n A sa cX5_piece 8 RX5 kX5_piece) {N18 : Mem} {v13 : Int32} {v14 : Int32} {v15 : Int32} {v16 : Int32}  {r : (Int32 × Int32 × Mem) ⊕ ((Int32 × Mem) ⊕ (Mem))} (h : X5_piece_L68_j253 N18 v13 v14 v15 v16 = some r) (hin : ∀ (q0 : Int32) (q1 : Int32) (Mq : Mem), r = .inl (q0, q1, Mq) → JM 4 101 p l e s m args below meth c D cA ad n A 8 out M1 Mq 68 [(0, .ref (ad 27)), (1, .int q0), (2, .int q1)] []) (hex0 : ∀ (q0 : Int32) (Mq : Mem), r = .inr (.inl (q0, Mq)) → JM 4 101 p l e s m args below meth c D cA ad n A 8 out M1 Mq 307 [(0, .ref (ad 27)), (1, .int q0)] []) (hex1 : ∀  (Mq : Mem), r = .inr (.inr Mq) → JM 4 101 p l e s m args below meth c D cA ad n A 8 out M1 Mq 267 [] []) : JM 4 101 p l e s m args below meth c D cA ad n A 8 out M1 N18 253 [(0, .ref (ad 27)), (1, .int v13), (2, .int v14), (3, .int v15), (4, .int v16)] [] := by
  unfold X5_piece_L68_j253 at h
  refine J.iload hX 153 4 rfl rfl ?_
  refine J.iconst (v := (-1)) hX 154 rfl (by decide) ?_
  refine J.icmp_ne (tgt := 269) hX 155 rfl (by decide) (fun b11 => ?_) (fun b11 => ?_)
  · rw [if_neg b11] at h
    refine J.sub (L' := [(0, .ref (ad 27)), (1, .int v13), (2, .int v14), (3, .int v15), (4, .int v16)]) [0, 1, 2, 3, 4] rfl ?_
    exact X5_piece_L68_j269_ok hX  h hin hex0 hex1
  · rw [if_pos b11] at h
    refine J.iload_n hX 156 3 rfl rfl ?_
    obtain ⟨t16, hc, h⟩ := bd1_inv h
    refine J.callS1 (As := [.int v15]) (rest := []) hX 157 rfl (mX5_bits  hc) okX5_bits w_334 rfl rfl (Nat.le_of_ble_eq_true rfl) ⟨Nat.le_of_ble_eq_true rfl, Nat.le_of_ble_eq_true rfl⟩ ⟨Nat.zero_le _, Nat.zero_le _⟩ ?_
    refine J.iconst (v := 1) hX 158 rfl (by decide) ?_
    refine J.icmp_le (tgt := 269) hX 159 rfl (by decide) (fun b13 => ?_) (fun b13 => ?_)
    · rw [if_pos b13] at h
      refine J.sub (L' := [(0, .ref (ad 27)), (1, .int v13), (2, .int v14), (3, .int v15), (4, .int v16)]) [0, 1, 2, 3, 4] rfl ?_
      exact X5_piece_L68_j269_ok hX  h hin hex0 hex1
    · rw [if_neg b13] at h
      refine J.sub (L' := []) [] rfl ?_
      exact hex1 _ (Option.some.inj h).symm
set_option maxHeartbeats 4000000 in
set_option maxRecDepth 100000 in
theorem X5_piece_L68_ok (hX : Cx p s m args meth c D cA ad n A sa cX5_piece 8 RX5 kX5_piece) {N7 : Mem}  {c2 : Int32} {c3 : Int32}  {r : (Int32 × Int32 × Mem) ⊕ ((Int32 × Mem) ⊕ (Mem))} (h : X5_piece_L68  (c2, c3, N7) = some r) (hin : ∀ (q0 : Int32) (q1 : Int32) (Mq : Mem), r = .inl (q0, q1, Mq) → JM 4 101 p l e s m args below meth c D cA ad n A 8 out M1 Mq 68 [(0, .ref (ad 27)), (1, .int q0), (2, .int q1)] []) (hex0 : ∀ (q0 : Int32) (Mq : Mem), r = .inr (.inl (q0, Mq)) → JM 4 101 p l e s m args below meth c D cA ad n A 8 out M1 Mq 307 [(0, .ref (ad 27)), (1, .int q0)] []) (hex1 : ∀  (Mq : Mem), r = .inr (.inr Mq) → JM 4 101 p l e s m args below meth c D cA ad n A 8 out M1 Mq 267 [] []) : JM 4 101 p l e s m args below meth c D cA ad n A 8 out M1 N7 68 [(0, .ref (ad 27)), (1, .int c2), (2, .int c3)] [] := by
  unfold X5_piece_L68 at h
  have h := un3_inv h
  refine J.iload_n hX 43 2 rfl rfl ?_
  refine J.if_le (tgt := 307) hX 44 rfl (by decide) (fun b3 => ?_) (fun b3 => ?_)
  · rw [if_pos b3] at h
    refine J.sub (L' := [(0, .ref (ad 27)), (1, .int c2)]) [0, 1] rfl ?_
    exact hex0 _ _ (Option.some.inj h).symm
  · rw [if_neg b3] at h
    obtain ⟨t5, et5, h⟩ := bnd_inv h
    refine J.iinc (q := 2) (L' := [(2, .int t5), (0, .ref (ad 27)), (1, .int c2)]) hX 45 rfl rfl et5 (by decide) rfl ?_
    refine J.aload_n hX 46 1 rfl rfl ?_
    refine J.getR hX 47 27 5 (hX.lt (k := 27) (by decide)) sh_27 rfl in_wsX50 6 (by decide) w_79 rfl rfl ?_
    refine J.iload_n hX 48 0 rfl rfl ?_
    obtain ⟨t6, et6, hb, h⟩ := ld_inv h
    refine J.ialdN hX 49 32 (hX.lt (k := 32) (by decide)) sh_32 hb et6 rfl ?_
    refine J.istore_n (L' := [(3, .int t6), (2, .int t5), (0, .ref (ad 27)), (1, .int c2)]) hX 50 rfl (by decide) rfl ?_
    refine J.iconst (v := (-1)) hX 51 rfl (by decide) ?_
    refine J.istore (L' := [(4, .int (-1)), (3, .int t6), (2, .int t5), (0, .ref (ad 27)), (1, .int c2)]) hX 52 rfl (by decide) rfl ?_
    refine J.iconst (v := 0) hX 53 rfl (by decide) ?_
    refine J.istore (L' := [(5, .int 0), (4, .int (-1)), (3, .int t6), (2, .int t5), (0, .ref (ad 27)), (1, .int c2)]) hX 54 rfl (by decide) rfl ?_
    refine J.sub (L' := [(0, .ref (ad 27)), (1, .int c2), (2, .int t5), (3, .int t6), (4, .int (-1)), (5, .int 0)]) [4, 5, 3, 2, 1, 0] rfl ?_
    obtain ⟨x1, N17, hlp, h⟩ := bd2_inv h
    suffices hE : JM 4 101 p l e s m args below meth c D cA ad n A 8 out M1 N17 253 [(0, .ref (ad 27)), (1, .int c2), (2, .int t5), (3, .int t6), (4, .int x1)] [] by
      exact loop_ok (fun q9 : Int32 × Int32 × Mem => JM 4 101 p l e s m args below meth c D cA ad n A 8 out M1 q9.2.2 88 [(0, .ref (ad 27)), (1, .int c2), (2, .int t5), (3, .int t6), (4, .int q9.1), (5, .int q9.2.1)] []) (fun q9 r hB hst hex9 => X5_piece_L88_ok hX  hB (fun _ _ _ hr => hst _ hr) (fun _ _ hr => by cases hex9 _ hr; exact hE)) 3000 _ hlp
    refine J.sub (L' := [(0, .ref (ad 27)), (1, .int c2), (2, .int t5), (3, .int t6), (4, .int x1)]) [0, 1, 2, 3, 4] rfl ?_
    exact X5_piece_L68_j253_ok hX  h hin hex0 hex1
set_option maxHeartbeats 4000000 in
set_option maxRecDepth 100000 in
theorem X5_piece_L314_ok (hX : Cx p s m args meth c D cA ad n A sa cX5_piece 8 RX5 kX5_piece) {N25 : Mem} {x2 : Int32} {c6 : Int32}  {r : (Int32 × Mem) ⊕ (Mem)} (h : X5_piece_L314 x2 (c6, N25) = some r) (hin : ∀ (q0 : Int32) (Mq : Mem), r = .inl (q0, Mq) → JM 4 101 p l e s m args below meth c D cA ad n A 8 out M1 Mq 314 [(0, .ref (ad 27)), (1, .int x2), (3, .int q0)] []) (hex0 : ∀  (Mq : Mem), r = .inr Mq → JM 4 101 p l e s m args below meth c D cA ad n A 8 out M1 Mq 339 [(1, .int x2)] []) : JM 4 101 p l e s m args below meth c D cA ad n A 8 out M1 N25 314 [(0, .ref (ad 27)), (1, .int x2), (3, .int c6)] [] := by
  unfold X5_piece_L314 at h
  have h := un2_inv h
  refine J.iload_n hX 192 2 rfl rfl ?_
  refine J.iconst (v := 4) hX 193 rfl (by decide) ?_
  refine J.iload_n hX 194 1 rfl rfl ?_
  refine J.imul hX 195 rfl ?_
  refine J.icmp_ge (tgt := 339) hX 196 rfl (by decide) (fun b14 => ?_) (fun b14 => ?_)
  · rw [if_pos b14] at h
    refine J.sub (L' := [(1, .int x2)]) [1] rfl ?_
    exact hex0 _ (Option.some.inj h).symm
  · rw [if_neg b14] at h
    refine J.aload_n hX 197 0 rfl rfl ?_
    refine J.getR hX 198 27 5 (hX.lt (k := 27) (by decide)) sh_27 rfl in_wsX50 9 (by decide) w_81 rfl rfl ?_
    refine J.iload_n hX 199 2 rfl rfl ?_
    refine J.aload_n hX 200 0 rfl rfl ?_
    refine J.getR hX 201 27 5 (hX.lt (k := 27) (by decide)) sh_27 rfl in_wsX50 7 (by decide) w_80 rfl rfl ?_
    refine J.iload_n hX 202 2 rfl rfl ?_
    obtain ⟨t17, et17, hb, h⟩ := ld_inv h
    refine J.ialdN hX 203 33 (hX.lt (k := 33) (by decide)) sh_33 hb et17 rfl ?_
    obtain ⟨N26, eN26, hb, h⟩ := sto_inv h
    refine J.iastN hX 204 34 (hX.lt (k := 34) (by decide)) sh_34 hb eN26 rfl ?_
    obtain ⟨t18, et18, h⟩ := bnd_inv h
    refine J.iinc (q := 2) (L' := [(3, .int t18), (0, .ref (ad 27)), (1, .int x2)]) hX 205 rfl rfl et18 (by decide) rfl ?_
    refine J.goto (tgt := 314) hX 206 rfl (by decide) ?_
    refine J.sub (L' := [(0, .ref (ad 27)), (1, .int x2), (3, .int t18)]) [1, 2, 0] rfl ?_
    exact hin _ _ (Option.some.inj h).symm
set_option maxHeartbeats 4000000 in
set_option maxRecDepth 100000 in
theorem mX5_piece {l : Launch} {D : va_G} {cA : Nat → ClassId} {ad : Nat → Nat} {n : Nat} {A : Nat → Prop} {sa : Nat → Nat} {M : Mem} {r : Int32} {Mf : Mem} (h : X5_piece M = some (r, Mf)) : CT l D cA ad n A sa yX5_piece cX5_piece 8 (some .int) 4 101 [.ref (ad 27)] M (.inl (some (.int r))) Mf := by
  refine CT.of (kt := kX5_piece) (by decide) kX5_piece_ok (Nat.le_of_ble_eq_true rfl) ?_
  intro p e s m args below meth c hX hr ht
  unfold X5_piece at h
  refine J.sub (L' := [(0, .ref (ad 27))]) [0] rfl ?_
  refine J.aload_n hX 0 0 rfl rfl ?_
  refine J.iconst (v := 0) hX 1 rfl (by decide) ?_
  obtain ⟨N1, eN1, h⟩ := bnd_inv h
  refine J.putIN hX 2 27 5 (hX.lt (k := 27) (by decide)) sh_27 rfl in_wsX50 0 (by decide) w_141 tyX5 tyX5_ok nmX5 eN1 rfl rfl (by decide +kernel) rfl ?_
  refine J.iconst (v := 0) hX 3 rfl (by decide) ?_
  refine J.istore_n (L' := [(1, .int 0), (0, .ref (ad 27))]) hX 4 rfl (by decide) rfl ?_
  refine J.iconst (v := 1) hX 5 rfl (by decide) ?_
  refine J.istore_n (L' := [(2, .int 1), (1, .int 0), (0, .ref (ad 27))]) hX 6 rfl (by decide) rfl ?_
  refine J.aload_n hX 7 2 rfl rfl ?_
  refine J.getR hX 8 27 5 (hX.lt (k := 27) (by decide)) sh_27 rfl in_wsX50 6 (by decide) w_79 rfl rfl ?_
  refine J.iconst (v := 0) hX 9 rfl (by decide) ?_
  refine J.iconst (v := 0) hX 10 rfl (by decide) ?_
  obtain ⟨N2, eN2, hb, h⟩ := sto_inv h
  refine J.iastN hX 11 32 (hX.lt (k := 32) (by decide)) sh_32 hb eN2 rfl ?_
  refine J.iconst (v := 0) hX 12 rfl (by decide) ?_
  refine J.istore_n (L' := [(3, .int 0), (2, .int 1), (1, .int 0), (0, .ref (ad 27))]) hX 13 rfl (by decide) rfl ?_
  refine J.sub (L' := [(0, .ref (ad 27)), (1, .int 0), (2, .int 1), (3, .int 0)]) [3, 2, 1, 0] rfl ?_
  obtain ⟨N6, hlp, h⟩ := bd1_inv h
  suffices hE : JM 4 101 p l e s m args below meth c D cA ad n A 8 (.inl (some (.int r))) Mf N6 68 [(0, .ref (ad 27)), (1, .int 0), (2, .int 1)] [] by
    exact loop_ok (fun q9 : Int32 × Mem => JM 4 101 p l e s m args below meth c D cA ad n A 8 (.inl (some (.int r))) Mf q9.2 18 [(0, .ref (ad 27)), (1, .int 0), (2, .int 1), (3, .int q9.1)] []) (fun q9 r hB hst hex9 => X5_piece_L18_ok hX  hB (fun _ _ hr => hst _ hr) (fun _ hr => by cases hex9 _ hr; exact hE)) 3000 _ hlp
  refine J.sub (L' := [(0, .ref (ad 27)), (1, .int 0), (2, .int 1)]) [0, 1, 2] rfl ?_
  rcases bdS_inv h with ⟨a9, hlp, h⟩ | ⟨a9, hlp, h⟩
  · obtain ⟨x2, N23⟩ := a9
    have h := un2_inv h
    suffices hE : JM 4 101 p l e s m args below meth c D cA ad n A 8 (.inl (some (.int r))) Mf N23 307 [(0, .ref (ad 27)), (1, .int x2)] [] by
      exact loop_ok (fun q9 : Int32 × Int32 × Mem => JM 4 101 p l e s m args below meth c D cA ad n A 8 (.inl (some (.int r))) Mf q9.2.2 68 [(0, .ref (ad 27)), (1, .int q9.1), (2, .int q9.2.1)] []) (fun q9 r hB hst hex9 => X5_piece_L68_ok hX  hB (fun _ _ _ hr => hst _ hr) (fun _ _ hr => by cases hex9 _ hr; exact hE) (fun _ hr => by cases hex9 _ hr)) 3000 _ hlp
    refine J.aload_n hX 187 0 rfl rfl ?_
    refine J.iload_n hX 188 1 rfl rfl ?_
    obtain ⟨N24, eN24, h⟩ := bnd_inv h
    refine J.putIN hX 189 27 5 (hX.lt (k := 27) (by decide)) sh_27 rfl in_wsX50 8 (by decide) w_333 tyX5 tyX5_ok nmX5 eN24 rfl rfl (by decide +kernel) rfl ?_
    refine J.iconst (v := 0) hX 190 rfl (by decide) ?_
    refine J.istore_n (L' := [(3, .int 0), (0, .ref (ad 27)), (1, .int x2)]) hX 191 rfl (by decide) rfl ?_
    refine J.sub (L' := [(0, .ref (ad 27)), (1, .int x2), (3, .int 0)]) [1, 2, 0] rfl ?_
    obtain ⟨N27, hlp, h⟩ := bd1_inv h
    suffices hE : JM 4 101 p l e s m args below meth c D cA ad n A 8 (.inl (some (.int r))) Mf N27 339 [(1, .int x2)] [] by
      exact loop_ok (fun q9 : Int32 × Mem => JM 4 101 p l e s m args below meth c D cA ad n A 8 (.inl (some (.int r))) Mf q9.2 314 [(0, .ref (ad 27)), (1, .int x2), (3, .int q9.1)] []) (fun q9 r hB hst hex9 => X5_piece_L314_ok hX  hB (fun _ _ hr => hst _ hr) (fun _ hr => by cases hex9 _ hr; exact hE)) 3000 _ hlp
    refine J.iload_n hX 207 0 rfl rfl ?_
    cases h
    exact J.iret hX hr 208 rfl
  · obtain ⟨N28, rfl⟩ : ∃ z, z = a9 := ⟨_, rfl⟩
    have h := un1_inv h
    suffices hE : JM 4 101 p l e s m args below meth c D cA ad n A 8 (.inl (some (.int r))) Mf N28 267 [] [] by
      exact loop_ok (fun q9 : Int32 × Int32 × Mem => JM 4 101 p l e s m args below meth c D cA ad n A 8 (.inl (some (.int r))) Mf q9.2.2 68 [(0, .ref (ad 27)), (1, .int q9.1), (2, .int q9.2.1)] []) (fun q9 r hB hst hex9 => X5_piece_L68_ok hX  hB (fun _ _ _ hr => hst _ hr) (fun _ _ hr => by cases hex9 _ hr) (fun _ hr => by cases hex9 _ hr; exact hE)) 3000 _ hlp
    refine J.iconst (v := (-1)) hX 160 rfl (by decide) ?_
    cases h
    exact J.iret hX hr 161 rfl
def X5_seam_j44 (N4 : Mem) (v2 : Int32) : Option (Int32 × Mem) := some (v2, N4)
def X5_seam_j18 (N2 : Mem) (l1 : Int32) (l2 : Int32) (v1 : Int32) : Option (Int32 × Mem) := bd1 (X5_within N2 l2 0 3) (fun t1 => bd2 (X5_goes N2 v1 t1) (fun t2 N3 => if t2 = 0 then (X5_seam_j44 N3 0) else (ld N3 34 96 ((4 * l1) + l2) (fun t3 => X5_seam_j44 N3 t3))))
def X5_seam_j17 (N1 : Mem) (l1 : Int32) (l2 : Int32) : Option (Int32 × Mem) := X5_seam_j18 N1 l1 l2 0
def X5_seam (M : Mem) (l1 : Int32) (l2 : Int32) : Option (Int32 × Mem) := if l1 < 0 then (X5_seam_j17 M l1 l2) else (if (M 27 8) ≤ l1 then (X5_seam_j17 M l1 l2) else (X5_seam_j18 M l1 l2 1))
set_option maxHeartbeats 4000000 in
set_option maxRecDepth 100000 in
theorem X5_seam_j44_ok (hX : Cx p s m args meth c D cA ad n A sa cX5_seam 3 RX5 kX5_seam) {N4 : Mem} {v2 : Int32} {r : Int32} {Mf : Mem}  (hr : meth.sig.returnType = (some .int)) (ht : ∀ x ∈ c.exceptionTable.toList, False) (h : X5_seam_j44 N4 v2 = some (r, Mf)) : JM 1 22 p l e s m args below meth c D cA ad n A 3 (.inl (some (.int r))) Mf N4 44 [] [.int v2] := by
  unfold X5_seam_j44 at h
  cases h
  exact J.iret hX hr 26 rfl
set_option maxHeartbeats 4000000 in
set_option maxRecDepth 100000 in
theorem X5_seam_j18_ok (hX : Cx p s m args meth c D cA ad n A sa cX5_seam 3 RX5 kX5_seam) {N2 : Mem} {l1 : Int32} {l2 : Int32} {v1 : Int32} {r : Int32} {Mf : Mem}  (hr : meth.sig.returnType = (some .int)) (ht : ∀ x ∈ c.exceptionTable.toList, False) (h : X5_seam_j18 N2 l1 l2 v1 = some (r, Mf)) : JM 1 22 p l e s m args below meth c D cA ad n A 3 (.inl (some (.int r))) Mf N2 18 [(0, .ref (ad 27)), (1, .int l1), (2, .int l2)] [.int v1, .ref (ad 27)] := by
  unfold X5_seam_j18 at h
  refine J.iload_n hX 10 2 rfl rfl ?_
  refine J.iconst (v := 0) hX 11 rfl (by decide) ?_
  refine J.iconst (v := 3) hX 12 rfl (by decide) ?_
  obtain ⟨t1, hc, h⟩ := bd1_inv h
  refine J.callS1 (As := [.int l2, .int 0, .int 3]) (rest := [.int v1, .ref (ad 27)]) hX 13 rfl (mX5_within  hc) okX5_within w_134 rfl rfl (Nat.le_of_ble_eq_true rfl) ⟨Nat.le_of_ble_eq_true rfl, Nat.le_of_ble_eq_true rfl⟩ ⟨Nat.zero_le _, Nat.zero_le _⟩ ?_
  obtain ⟨t2, N3, hc, h⟩ := bd2_inv h
  refine J.callV1 (As := [.int v1, .int t1]) (rest := []) (k := 27) hX 14 rfl (mX5_goes  hc) okX5_goes w_137 (hX.lt (k := 27) (by decide)) sh_27 rfl rfl rfl (Nat.le_of_ble_eq_true rfl) ⟨Nat.le_of_ble_eq_true rfl, Nat.le_of_ble_eq_true rfl⟩ ⟨Nat.zero_le _, Nat.zero_le _⟩ ?_
  refine J.if_eq (tgt := 43) hX 15 rfl (by decide) (fun b2 => ?_) (fun b2 => ?_)
  · rw [if_pos b2] at h
    refine J.iconst (v := 0) hX 25 rfl (by decide) ?_
    refine J.sub (L' := []) [] rfl ?_
    exact X5_seam_j44_ok hX  hr ht h
  · rw [if_neg b2] at h
    refine J.aload_n hX 16 0 rfl rfl ?_
    refine J.getR hX 17 27 5 (hX.lt (k := 27) (by decide)) sh_27 rfl in_wsX50 9 (by decide) w_81 rfl rfl ?_
    refine J.iconst (v := 4) hX 18 rfl (by decide) ?_
    refine J.iload_n hX 19 1 rfl rfl ?_
    refine J.imul hX 20 rfl ?_
    refine J.iload_n hX 21 2 rfl rfl ?_
    refine J.iadd hX 22 rfl ?_
    obtain ⟨t3, et3, hb, h⟩ := ld_inv h
    refine J.ialdN hX 23 34 (hX.lt (k := 34) (by decide)) sh_34 hb et3 rfl ?_
    refine J.goto (tgt := 44) hX 24 rfl (by decide) ?_
    refine J.sub (L' := []) [] rfl ?_
    exact X5_seam_j44_ok hX  hr ht h
set_option maxHeartbeats 4000000 in
set_option maxRecDepth 100000 in
theorem X5_seam_j17_ok (hX : Cx p s m args meth c D cA ad n A sa cX5_seam 3 RX5 kX5_seam) {N1 : Mem} {l1 : Int32} {l2 : Int32} {r : Int32} {Mf : Mem}  (hr : meth.sig.returnType = (some .int)) (ht : ∀ x ∈ c.exceptionTable.toList, False) (h : X5_seam_j17 N1 l1 l2 = some (r, Mf)) : JM 1 22 p l e s m args below meth c D cA ad n A 3 (.inl (some (.int r))) Mf N1 17 [(0, .ref (ad 27)), (1, .int l1), (2, .int l2)] [.ref (ad 27)] := by
  unfold X5_seam_j17 at h
  refine J.iconst (v := 0) hX 9 rfl (by decide) ?_
  refine J.sub (L' := [(0, .ref (ad 27)), (1, .int l1), (2, .int l2)]) [0, 1, 2] rfl ?_
  exact X5_seam_j18_ok hX  hr ht h
set_option maxHeartbeats 4000000 in
set_option maxRecDepth 100000 in
theorem mX5_seam {l : Launch} {D : va_G} {cA : Nat → ClassId} {ad : Nat → Nat} {n : Nat} {A : Nat → Prop} {sa : Nat → Nat} {M : Mem} {l1 : Int32} {l2 : Int32} {r : Int32} {Mf : Mem} (h : X5_seam M l1 l2 = some (r, Mf)) : CT l D cA ad n A sa yX5_seam cX5_seam 3 (some .int) 1 22 [.ref (ad 27), .int l1, .int l2] M (.inl (some (.int r))) Mf := by
  refine CT.of (kt := kX5_seam) (by decide) kX5_seam_ok (Nat.le_of_ble_eq_true rfl) ?_
  intro p e s m args below meth c hX hr ht
  unfold X5_seam at h
  refine J.sub (L' := [(0, .ref (ad 27)), (1, .int l1), (2, .int l2)]) [0, 1, 2] rfl ?_
  refine J.aload_n hX 0 0 rfl rfl ?_
  refine J.iload_n hX 1 1 rfl rfl ?_
  refine J.if_lt (tgt := 17) hX 2 rfl (by decide) (fun b1 => ?_) (fun b1 => ?_)
  · rw [if_pos b1] at h
    refine J.sub (L' := [(0, .ref (ad 27)), (1, .int l1), (2, .int l2)]) [0, 1, 2] rfl ?_
    exact X5_seam_j17_ok hX  hr ht h
  · rw [if_neg b1] at h
    refine J.iload_n hX 3 1 rfl rfl ?_
    refine J.aload_n hX 4 0 rfl rfl ?_
    refine J.getI hX 5 27 5 (hX.lt (k := 27) (by decide)) sh_27 rfl in_wsX50 8 (by decide) w_333 rfl rfl ?_
    refine J.icmp_ge (tgt := 17) hX 6 rfl (by decide) (fun b3 => ?_) (fun b3 => ?_)
    · rw [if_pos b3] at h
      refine J.sub (L' := [(0, .ref (ad 27)), (1, .int l1), (2, .int l2)]) [0, 1, 2] rfl ?_
      exact X5_seam_j17_ok hX  hr ht h
    · rw [if_neg b3] at h
      refine J.iconst (v := 1) hX 7 rfl (by decide) ?_
      refine J.goto (tgt := 18) hX 8 rfl (by decide) ?_
      refine J.sub (L' := [(0, .ref (ad 27)), (1, .int l1), (2, .int l2)]) [0, 1, 2] rfl ?_
      exact X5_seam_j18_ok hX  hr ht h
end G17
