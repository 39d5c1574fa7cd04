section G15
variable {p : Program} {l : Launch} {e : Env} {s : State} {m : MethodId} {args : Array Value} {below : List Frame} {meth : Method} {c : Code} {D : va_G} {cA : Nat → ClassId} {ad : Nat → Nat} {n : Nat} {A : Nat → Prop} {sa : Nat → Nat} {out : Option Value ⊕ String} {M1 : Mem}
def X3_addBlock (M : Mem) (d1 : Nat) : Option (Int32 × Mem) := chk (decide (d1 < 2147483648)) (sto M 11 10 (M 10 1) (Int32.ofNat d1) (fun N1 => bnd (wr N1 10 1 ((N1 10 1) + 1)) (fun N2 => some (((N2 10 1) - 1), N2))))
set_option maxHeartbeats 4000000 in
set_option maxRecDepth 100000 in
theorem mX3_addBlock {l : Launch} {D : va_G} {cA : Nat → ClassId} {ad : Nat → Nat} {n : Nat} {A : Nat → Prop} {sa : Nat → Nat} {M : Mem} {d1 : Nat} {r : Int32} {Mf : Mem} (hd1 : DrOk n d1) (h : X3_addBlock M d1 = some (r, Mf)) : CT l D cA ad n A sa yX3_addBlock cX3_addBlock 2 (some .int) 0 0 [.ref (ad 10), .ref (ad d1)] M (.inl (some (.int r))) Mf := by
  refine CT.of (kt := kX3_addBlock) (by decide) kX3_addBlock_ok (Nat.le_of_ble_eq_true rfl) ?_
  intro p e s m args below meth c hX hr ht
  unfold X3_addBlock at h
  refine J.sub (L' := [(0, .ref (ad 10)), (1, .ref (ad d1))]) [0, 1] rfl ?_
  refine J.aload_n hX 0 0 rfl rfl ?_
  refine J.getR hX 1 10 3 (hX.lt (k := 10) (by decide)) sh_10 rfl in_wsX30 0 (by decide) w_48 rfl rfl ?_
  refine J.aload_n hX 2 0 rfl rfl ?_
  refine J.getI hX 3 10 3 (hX.lt (k := 10) (by decide)) sh_10 rfl in_wsX30 1 (by decide) w_376 rfl rfl ?_
  refine J.aload_n hX 4 1 rfl rfl ?_
  obtain ⟨hz, h⟩ := chk_inv h
  obtain ⟨N1, eN1, hb, h⟩ := sto_inv h
  refine J.aastN hX 5 11 (hX.lt (k := 11) (by decide)) sh_11 hb hd1 d1 (of_decide_eq_true hz) eN1 rfl ?_
  refine J.aload_n hX 6 0 rfl rfl ?_
  refine J.dup hX 7 rfl rfl ?_
  refine J.getI hX 8 10 3 (hX.lt (k := 10) (by decide)) sh_10 rfl in_wsX30 1 (by decide) w_376 rfl rfl ?_
  refine J.iconst (v := 1) hX 9 rfl (by decide) ?_
  refine J.iadd hX 10 rfl ?_
  obtain ⟨N2, eN2, h⟩ := bnd_inv h
  refine J.putIN hX 11 10 3 (hX.lt (k := 10) (by decide)) sh_10 rfl in_wsX30 1 (by decide) w_376 tyX3 tyX3_ok nmX3 eN2 rfl rfl (by decide +kernel) rfl ?_
  refine J.aload_n hX 12 0 rfl rfl ?_
  refine J.getI hX 13 10 3 (hX.lt (k := 10) (by decide)) sh_10 rfl in_wsX30 1 (by decide) w_376 rfl rfl ?_
  refine J.iconst (v := 1) hX 14 rfl (by decide) ?_
  refine J.isub hX 15 rfl ?_
  cases h
  exact J.iret hX hr 16 rfl
def X3_blockAt_j25 (n : Nat) (M : Mem) (v1 : Int32) : Option (Int32) := some v1
def X3_blockAt (n : Nat) (M : Mem) (l1 : Int32) : Option (Int32) := ld M 12 36 l1 (fun t1 => if t1 = (-1) then (X3_blockAt_j25 n M 0) else (ld M 12 36 l1 (fun t2 => ld M 11 10 t2 (fun t3 => X3_blockAt_j25 n M t3))))
set_option maxHeartbeats 4000000 in
set_option maxRecDepth 100000 in
theorem X3_blockAt_j25_ok (hX : Cx p s m args meth c D cA ad n A sa cX3_blockAt 2 RX3 kX3_blockAt) {M : Mem} {v1 : Int32} {r : Int32}  (hr : meth.sig.returnType = (some (.object "QuiltDesk$Drawing"))) (ht : ∀ x ∈ c.exceptionTable.toList, False) (h : X3_blockAt_j25 n M v1 = some r) : JM 0 0 p l e s m args below meth c D cA ad n A 2 (.inl (some (va_rf (dec ad r)))) M M 25 [] [va_rf (dec ad v1)] := by
  unfold X3_blockAt_j25 at h
  cases h
  exact J.aret hX hr 15 rfl
set_option maxHeartbeats 4000000 in
set_option maxRecDepth 100000 in
theorem mX3_blockAt {l : Launch} {D : va_G} {cA : Nat → ClassId} {ad : Nat → Nat} {n : Nat} {A : Nat → Prop} {sa : Nat → Nat} {M : Mem} {l1 : Int32} {r : Int32} (h : X3_blockAt n M l1 = some r) : CT l D cA ad n A sa yX3_blockAt cX3_blockAt 2 (some (.object "QuiltDesk$Drawing")) 0 0 [.ref (ad 10), .int l1] M (.inl (some (va_rf (dec ad r)))) M := by
  refine CT.of (kt := kX3_blockAt) (by decide) kX3_blockAt_ok (Nat.le_of_ble_eq_true rfl) ?_
  intro p e s m args below meth c hX hr ht
  unfold X3_blockAt at h
  refine J.sub (L' := [(0, .ref (ad 10)), (1, .int l1)]) [0, 1] rfl ?_
  refine J.aload_n hX 0 0 rfl rfl ?_
  refine J.getR hX 1 10 3 (hX.lt (k := 10) (by decide)) sh_10 rfl in_wsX30 2 (by decide) w_49 rfl rfl ?_
  refine J.iload_n hX 2 1 rfl rfl ?_
  obtain ⟨t1, et1, hb, h⟩ := ld_inv h
  refine J.ialdN hX 3 12 (hX.lt (k := 12) (by decide)) sh_12 hb et1 rfl ?_
  refine J.iconst (v := (-1)) hX 4 rfl (by decide) ?_
  refine J.icmp_ne (tgt := 14) hX 5 rfl (by decide) (fun b1 => ?_) (fun b1 => ?_)
  · rw [if_neg b1] at h
    refine J.aload_n hX 8 0 rfl rfl ?_
    refine J.getR hX 9 10 3 (hX.lt (k := 10) (by decide)) sh_10 rfl in_wsX30 0 (by decide) w_48 rfl rfl ?_
    refine J.aload_n hX 10 0 rfl rfl ?_
    refine J.getR hX 11 10 3 (hX.lt (k := 10) (by decide)) sh_10 rfl in_wsX30 2 (by decide) w_49 rfl rfl ?_
    refine J.iload_n hX 12 1 rfl rfl ?_
    obtain ⟨t2, et2, hb, h⟩ := ld_inv h
    refine J.ialdN hX 13 12 (hX.lt (k := 12) (by decide)) sh_12 hb et2 rfl ?_
    obtain ⟨t3, et3, hb, h⟩ := ld_inv h
    refine J.aald hX 14 11 (hX.lt (k := 11) (by decide)) sh_11 hb rfl ?_
    rw [et3]
    refine J.sub (L' := []) [] rfl ?_
    exact X3_blockAt_j25_ok hX  hr ht h
  · rw [if_pos b1] at h
    refine J.anull hX 6 rfl ?_
    refine J.goto (tgt := 25) hX 7 rfl (by decide) ?_
    refine J.sub (L' := []) [] rfl ?_
    exact X3_blockAt_j25_ok hX  hr ht h
def X3_placedBlocks_L4_j23 (M : Mem) (v1 : Int32) (v2 : Int32) : Option ((Int32 × Int32) ⊕ (Int32)) := bnd (v2 + 1) (fun t2 => some (.inl (v1, t2)))
def X3_placedBlocks_L4 (M : Mem) (q9 : Int32 × Int32) : Option ((Int32 × Int32) ⊕ (Int32)) := un2 q9 (fun c1 c2 => if 36 ≤ c2 then (some (.inr c1)) else (ld M 12 36 c2 (fun t1 => if t1 = (-1) then (X3_placedBlocks_L4_j23 M c1 c2) else (bnd (c1 + 1) (fun t3 => X3_placedBlocks_L4_j23 M t3 c2)))))
def X3_placedBlocks (M : Mem) : Option (Int32) := bd1 (loop (X3_placedBlocks_L4 M) 3000 (0, 0)) (fun x1 => some x1)
set_option maxHeartbeats 4000000 in
set_option maxRecDepth 100000 in
theorem X3_placedBlocks_L4_j23_ok (hX : Cx p s m args meth c D cA ad n A sa cX3_placedBlocks 3 RX3 kX3_placedBlocks) {M : Mem} {v1 : Int32} {v2 : Int32}  {r : (Int32 × Int32) ⊕ (Int32)} (h : X3_placedBlocks_L4_j23 M v1 v2 = some r) (hin : ∀ (q0 : Int32) (q1 : Int32), r = .inl (q0, q1) → JM 0 0 p l e s m args below meth c D cA ad n A 3 out M1 M 4 [(0, .ref (ad 10)), (1, .int q0), (2, .int q1)] []) (hex0 : ∀ (q0 : Int32), r = .inr q0 → JM 0 0 p l e s m args below meth c D cA ad n A 3 out M1 M 29 [(1, .int q0)] []) : JM 0 0 p l e s m args below meth c D cA ad n A 3 out M1 M 23 [(0, .ref (ad 10)), (1, .int v1), (2, .int v2)] [] := by
  unfold X3_placedBlocks_L4_j23 at h
  obtain ⟨t2, et2, h⟩ := bnd_inv h
  refine J.iinc (q := 2) (L' := [(2, .int t2), (0, .ref (ad 10)), (1, .int v1)]) hX 14 rfl rfl et2 (by decide) rfl ?_
  refine J.goto (tgt := 4) hX 15 rfl (by decide) ?_
  refine J.sub (L' := [(0, .ref (ad 10)), (1, .int v1), (2, .int t2)]) [1, 2, 0] rfl ?_
  exact hin _ _ (Option.some.inj h).symm
set_option maxHeartbeats 4000000 in
set_option maxRecDepth 100000 in
theorem X3_placedBlocks_L4_ok (hX : Cx p s m args meth c D cA ad n A sa cX3_placedBlocks 3 RX3 kX3_placedBlocks) {M : Mem}  {c1 : Int32} {c2 : Int32}  {r : (Int32 × Int32) ⊕ (Int32)} (h : X3_placedBlocks_L4 M (c1, c2) = some r) (hin : ∀ (q0 : Int32) (q1 : Int32), r = .inl (q0, q1) → JM 0 0 p l e s m args below meth c D cA ad n A 3 out M1 M 4 [(0, .ref (ad 10)), (1, .int q0), (2, .int q1)] []) (hex0 : ∀ (q0 : Int32), r = .inr q0 → JM 0 0 p l e s m args below meth c D cA ad n A 3 out M1 M 29 [(1, .int q0)] []) : JM 0 0 p l e s m args below meth c D cA ad n A 3 out M1 M 4 [(0, .ref (ad 10)), (1, .int c1), (2, .int c2)] [] := by
  unfold X3_placedBlocks_L4 at h
  have h := un2_inv h
  refine J.iload_n hX 4 2 rfl rfl ?_
  refine J.bipush (v := 36) hX 5 rfl (by decide) ?_
  refine J.icmp_ge (tgt := 29) hX 6 rfl (by decide) (fun b1 => ?_) (fun b1 => ?_)
  · rw [if_pos b1] at h
    refine J.sub (L' := [(1, .int c1)]) [1] rfl ?_
    exact hex0 _ (Option.some.inj h).symm
  · rw [if_neg b1] at h
    refine J.aload_n hX 7 0 rfl rfl ?_
    refine J.getR hX 8 10 3 (hX.lt (k := 10) (by decide)) sh_10 rfl in_wsX30 2 (by decide) w_49 rfl rfl ?_
    refine J.iload_n hX 9 2 rfl rfl ?_
    obtain ⟨t1, et1, hb, h⟩ := ld_inv h
    refine J.ialdN hX 10 12 (hX.lt (k := 12) (by decide)) sh_12 hb et1 rfl ?_
    refine J.iconst (v := (-1)) hX 11 rfl (by decide) ?_
    refine J.icmp_eq (tgt := 23) hX 12 rfl (by decide) (fun b2 => ?_) (fun b2 => ?_)
    · rw [if_pos b2] at h
      refine J.sub (L' := [(0, .ref (ad 10)), (1, .int c1), (2, .int c2)]) [0, 1, 2] rfl ?_
      exact X3_placedBlocks_L4_j23_ok hX  h hin hex0
    · rw [if_neg b2] at h
      obtain ⟨t3, et3, h⟩ := bnd_inv h
      refine J.iinc (q := 1) (L' := [(1, .int t3), (0, .ref (ad 10)), (2, .int c2)]) hX 13 rfl rfl et3 (by decide) rfl ?_
      refine J.sub (L' := [(0, .ref (ad 10)), (1, .int t3), (2, .int c2)]) [1, 0, 2] rfl ?_
      exact X3_placedBlocks_L4_j23_ok hX  h hin hex0
set_option maxHeartbeats 4000000 in
set_option maxRecDepth 100000 in
theorem mX3_placedBlocks {l : Launch} {D : va_G} {cA : Nat → ClassId} {ad : Nat → Nat} {n : Nat} {A : Nat → Prop} {sa : Nat → Nat} {M : Mem} {r : Int32} (h : X3_placedBlocks M = some r) : CT l D cA ad n A sa yX3_placedBlocks cX3_placedBlocks 3 (some .int) 0 0 [.ref (ad 10)] M (.inl (some (.int r))) M := by
  refine CT.of (kt := kX3_placedBlocks) (by decide) kX3_placedBlocks_ok (Nat.le_of_ble_eq_true rfl) ?_
  intro p e s m args below meth c hX hr ht
  unfold X3_placedBlocks at h
  refine J.sub (L' := [(0, .ref (ad 10))]) [0] rfl ?_
  refine J.iconst (v := 0) hX 0 rfl (by decide) ?_
  refine J.istore_n (L' := [(1, .int 0), (0, .ref (ad 10))]) hX 1 rfl (by decide) rfl ?_
  refine J.iconst (v := 0) hX 2 rfl (by decide) ?_
  refine J.istore_n (L' := [(2, .int 0), (1, .int 0), (0, .ref (ad 10))]) hX 3 rfl (by decide) rfl ?_
  refine J.sub (L' := [(0, .ref (ad 10)), (1, .int 0), (2, .int 0)]) [2, 1, 0] rfl ?_
  obtain ⟨x1, hlp, h⟩ := bd1_inv h
  suffices hE : JM 0 0 p l e s m args below meth c D cA ad n A 3 (.inl (some (.int r))) M M 29 [(1, .int x1)] [] by
    exact loop_ok (fun q9 : Int32 × Int32 => JM 0 0 p l e s m args below meth c D cA ad n A 3 (.inl (some (.int r))) M M 4 [(0, .ref (ad 10)), (1, .int q9.1), (2, .int q9.2)] []) (fun q9 r hB hst hex9 => X3_placedBlocks_L4_ok hX  hB (fun _ _ hr => hst _ hr) (fun _ hr => by cases hex9 _ hr; exact hE)) 3000 _ hlp
  refine J.iload_n hX 16 0 rfl rfl ?_
  cases h
  exact J.iret hX hr 17 rfl
def X3_usedRows_L4_j27 (M : Mem) (v1 : Int32) (v2 : Int32) : Option ((Int32 × Int32) ⊕ (Int32)) := bnd (v2 + 1) (fun t2 => some (.inl (v1, t2)))
def X3_usedRows_L4 (M : Mem) (q9 : Int32 × Int32) : Option ((Int32 × Int32) ⊕ (Int32)) := un2 q9 (fun c1 c2 => if 36 ≤ c2 then (some (.inr c1)) else (ld M 12 36 c2 (fun t1 => if t1 = (-1) then (X3_usedRows_L4_j27 M c1 c2) else (bnd (((c2 / 6) + 1)) (fun t3 => X3_usedRows_L4_j27 M t3 c2)))))
def X3_usedRows (M : Mem) : Option (Int32) := bd1 (loop (X3_usedRows_L4 M) 3000 (0, 0)) (fun x1 => some x1)
set_option maxHeartbeats 4000000 in
set_option maxRecDepth 100000 in
theorem X3_usedRows_L4_j27_ok (hX : Cx p s m args meth c D cA ad n A sa cX3_usedRows 3 RX3 kX3_usedRows) {M : Mem} {v1 : Int32} {v2 : Int32}  {r : (Int32 × Int32) ⊕ (Int32)} (h : X3_usedRows_L4_j27 M v1 v2 = some r) (hin : ∀ (q0 : Int32) (q1 : Int32), r = .inl (q0, q1) → JM 0 0 p l e s m args below meth c D cA ad n A 3 out M1 M 4 [(0, .ref (ad 10)), (1, .int q0), (2, .int q1)] []) (hex0 : ∀ (q0 : Int32), r = .inr q0 → JM 0 0 p l e s m args below meth c D cA ad n A 3 out M1 M 33 [(1, .int q0)] []) : JM 0 0 p l e s m args below meth c D cA ad n A 3 out M1 M 27 [(0, .ref (ad 10)), (1, .int v1), (2, .int v2)] [] := by
  unfold X3_usedRows_L4_j27 at h
  obtain ⟨t2, et2, h⟩ := bnd_inv h
  refine J.iinc (q := 2) (L' := [(2, .int t2), (0, .ref (ad 10)), (1, .int v1)]) hX 19 rfl rfl et2 (by decide) rfl ?_
  refine J.goto (tgt := 4) hX 20 rfl (by decide) ?_
  refine J.sub (L' := [(0, .ref (ad 10)), (1, .int v1), (2, .int t2)]) [1, 2, 0] rfl ?_
  exact hin _ _ (Option.some.inj h).symm
set_option maxHeartbeats 4000000 in
set_option maxRecDepth 100000 in
theorem X3_usedRows_L4_ok (hX : Cx p s m args meth c D cA ad n A sa cX3_usedRows 3 RX3 kX3_usedRows) {M : Mem}  {c1 : Int32} {c2 : Int32}  {r : (Int32 × Int32) ⊕ (Int32)} (h : X3_usedRows_L4 M (c1, c2) = some r) (hin : ∀ (q0 : Int32) (q1 : Int32), r = .inl (q0, q1) → JM 0 0 p l e s m args below meth c D cA ad n A 3 out M1 M 4 [(0, .ref (ad 10)), (1, .int q0), (2, .int q1)] []) (hex0 : ∀ (q0 : Int32), r = .inr q0 → JM 0 0 p l e s m args below meth c D cA ad n A 3 out M1 M 33 [(1, .int q0)] []) : JM 0 0 p l e s m args below meth c D cA ad n A 3 out M1 M 4 [(0, .ref (ad 10)), (1, .int c1), (2, .int c2)] [] := by
  unfold X3_usedRows_L4 at h
  have h := un2_inv h
  refine J.iload_n hX 4 2 rfl rfl ?_
  refine J.bipush (v := 36) hX 5 rfl (by decide) ?_
  refine J.icmp_ge (tgt := 33) hX 6 rfl (by decide) (fun b1 => ?_) (fun b1 => ?_)
  · rw [if_pos b1] at h
    refine J.sub (L' := [(1, .int c1)]) [1] rfl ?_
    exact hex0 _ (Option.some.inj h).symm
  · rw [if_neg b1] at h
    refine J.aload_n hX 7 0 rfl rfl ?_
    refine J.getR hX 8 10 3 (hX.lt (k := 10) (by decide)) sh_10 rfl in_wsX30 2 (by decide) w_49 rfl rfl ?_
    refine J.iload_n hX 9 2 rfl rfl ?_
    obtain ⟨t1, et1, hb, h⟩ := ld_inv h
    refine J.ialdN hX 10 12 (hX.lt (k := 12) (by decide)) sh_12 hb et1 rfl ?_
    refine J.iconst (v := (-1)) hX 11 rfl (by decide) ?_
    refine J.icmp_eq (tgt := 27) hX 12 rfl (by decide) (fun b2 => ?_) (fun b2 => ?_)
    · rw [if_pos b2] at h
      refine J.sub (L' := [(0, .ref (ad 10)), (1, .int c1), (2, .int c2)]) [0, 1, 2] rfl ?_
      exact X3_usedRows_L4_j27_ok hX  h hin hex0
    · rw [if_neg b2] at h
      refine J.iload_n hX 13 2 rfl rfl ?_
      refine J.bipush (v := 6) hX 14 rfl (by decide) ?_
      refine J.idiv hX 15 rfl (by decide) ?_
      refine J.iconst (v := 1) hX 16 rfl (by decide) ?_
      refine J.iadd hX 17 rfl ?_
      obtain ⟨t3, et3, h⟩ := bnd_inv h
      refine J.nm et3 ?_
      refine J.istore_n (L' := [(1, .int t3), (0, .ref (ad 10)), (2, .int c2)]) hX 18 rfl (by decide) rfl ?_
      refine J.sub (L' := [(0, .ref (ad 10)), (1, .int t3), (2, .int c2)]) [1, 0, 2] rfl ?_
      exact X3_usedRows_L4_j27_ok hX  h hin hex0
set_option maxHeartbeats 4000000 in
set_option maxRecDepth 100000 in
theorem mX3_usedRows {l : Launch} {D : va_G} {cA : Nat → ClassId} {ad : Nat → Nat} {n : Nat} {A : Nat → Prop} {sa : Nat → Nat} {M : Mem} {r : Int32} (h : X3_usedRows M = some r) : CT l D cA ad n A sa yX3_usedRows cX3_usedRows 3 (some .int) 0 0 [.ref (ad 10)] M (.inl (some (.int r))) M := by
  refine CT.of (kt := kX3_usedRows) (by decide) kX3_usedRows_ok (Nat.le_of_ble_eq_true rfl) ?_
  intro p e s m args below meth c hX hr ht
  unfold X3_usedRows at h
  refine J.sub (L' := [(0, .ref (ad 10))]) [0] rfl ?_
  refine J.iconst (v := 0) hX 0 rfl (by decide) ?_
  refine J.istore_n (L' := [(1, .int 0), (0, .ref (ad 10))]) hX 1 rfl (by decide) rfl ?_
  refine J.iconst (v := 0) hX 2 rfl (by decide) ?_
  refine J.istore_n (L' := [(2, .int 0), (1, .int 0), (0, .ref (ad 10))]) hX 3 rfl (by decide) rfl ?_
  refine J.sub (L' := [(0, .ref (ad 10)), (1, .int 0), (2, .int 0)]) [2, 1, 0] rfl ?_
  obtain ⟨x1, hlp, h⟩ := bd1_inv h
  suffices hE : JM 0 0 p l e s m args below meth c D cA ad n A 3 (.inl (some (.int r))) M M 33 [(1, .int x1)] [] by
    exact loop_ok (fun q9 : Int32 × Int32 => JM 0 0 p l e s m args below meth c D cA ad n A 3 (.inl (some (.int r))) M M 4 [(0, .ref (ad 10)), (1, .int q9.1), (2, .int q9.2)] []) (fun q9 r hB hst hex9 => X3_usedRows_L4_ok hX  hB (fun _ _ hr => hst _ hr) (fun _ hr => by cases hex9 _ hr; exact hE)) 3000 _ hlp
  refine J.iload_n hX 21 0 rfl rfl ?_
  cases h
  exact J.iret hX hr 22 rfl
def X3_usedColumns_L4_j31 (M : Mem) (v1 : Int32) (v2 : Int32) : Option ((Int32 × Int32) ⊕ (Int32)) := bnd (v2 + 1) (fun t2 => some (.inl (v1, t2)))
def X3_usedColumns_L4 (M : Mem) (q9 : Int32 × Int32) : Option ((Int32 × Int32) ⊕ (Int32)) := un2 q9 (fun c1 c2 => if 36 ≤ c2 then (some (.inr c1)) else (ld M 12 36 c2 (fun t1 => if t1 = (-1) then (X3_usedColumns_L4_j31 M c1 c2) else (bnd (if c1 < ((c2 - c2 / 6 * 6) + 1) then ((c2 - c2 / 6 * 6) + 1) else c1) (fun t3 => X3_usedColumns_L4_j31 M t3 c2)))))
def X3_usedColumns (M : Mem) : Option (Int32) := bd1 (loop (X3_usedColumns_L4 M) 3000 (0, 0)) (fun x1 => some x1)
set_option maxHeartbeats 4000000 in
set_option maxRecDepth 100000 in
theorem X3_usedColumns_L4_j31_ok (hX : Cx p s m args meth c D cA ad n A sa cX3_usedColumns 3 RX3 kX3_usedColumns) {M : Mem} {v1 : Int32} {v2 : Int32}  {r : (Int32 × Int32) ⊕ (Int32)} (h : X3_usedColumns_L4_j31 M v1 v2 = some r) (hin : ∀ (q0 : Int32) (q1 : Int32), r = .inl (q0, q1) → JM 1 21 p l e s m args below meth c D cA ad n A 3 out M1 M 4 [(0, .ref (ad 10)), (1, .int q0), (2, .int q1)] []) (hex0 : ∀ (q0 : Int32), r = .inr q0 → JM 1 21 p l e s m args below meth c D cA ad n A 3 out M1 M 37 [(1, .int q0)] []) : JM 1 21 p l e s m args below meth c D cA ad n A 3 out M1 M 31 [(0, .ref (ad 10)), (1, .int v1), (2, .int v2)] [] := by
  unfold X3_usedColumns_L4_j31 at h
  obtain ⟨t2, et2, h⟩ := bnd_inv h
  refine J.iinc (q := 2) (L' := [(2, .int t2), (0, .ref (ad 10)), (1, .int v1)]) hX 21 rfl rfl et2 (by decide) rfl ?_
  refine J.goto (tgt := 4) hX 22 rfl (by decide) ?_
  refine J.sub (L' := [(0, .ref (ad 10)), (1, .int v1), (2, .int t2)]) [1, 2, 0] rfl ?_
  exact hin _ _ (Option.some.inj h).symm
set_option maxHeartbeats 4000000 in
set_option maxRecDepth 100000 in
theorem X3_usedColumns_L4_ok (hX : Cx p s m args meth c D cA ad n A sa cX3_usedColumns 3 RX3 kX3_usedColumns) {M : Mem}  {c1 : Int32} {c2 : Int32}  {r : (Int32 × Int32) ⊕ (Int32)} (h : X3_usedColumns_L4 M (c1, c2) = some r) (hin : ∀ (q0 : Int32) (q1 : Int32), r = .inl (q0, q1) → JM 1 21 p l e s m args below meth c D cA ad n A 3 out M1 M 4 [(0, .ref (ad 10)), (1, .int q0), (2, .int q1)] []) (hex0 : ∀ (q0 : Int32), r = .inr q0 → JM 1 21 p l e s m args below meth c D cA ad n A 3 out M1 M 37 [(1, .int q0)] []) : JM 1 21 p l e s m args below meth c D cA ad n A 3 out M1 M 4 [(0, .ref (ad 10)), (1, .int c1), (2, .int c2)] [] := by
  unfold X3_usedColumns_L4 at h
  have h := un2_inv h
  refine J.iload_n hX 4 2 rfl rfl ?_
  refine J.bipush (v := 36) hX 5 rfl (by decide) ?_
  refine J.icmp_ge (tgt := 37) hX 6 rfl (by decide) (fun b1 => ?_) (fun b1 => ?_)
  · rw [if_pos b1] at h
    refine J.sub (L' := [(1, .int c1)]) [1] rfl ?_
    exact hex0 _ (Option.some.inj h).symm
  · rw [if_neg b1] at h
    refine J.aload_n hX 7 0 rfl rfl ?_
    refine J.getR hX 8 10 3 (hX.lt (k := 10) (by decide)) sh_10 rfl in_wsX30 2 (by decide) w_49 rfl rfl ?_
    refine J.iload_n hX 9 2 rfl rfl ?_
    obtain ⟨t1, et1, hb, h⟩ := ld_inv h
    refine J.ialdN hX 10 12 (hX.lt (k := 12) (by decide)) sh_12 hb et1 rfl ?_
    refine J.iconst (v := (-1)) hX 11 rfl (by decide) ?_
    refine J.icmp_eq (tgt := 31) hX 12 rfl (by decide) (fun b2 => ?_) (fun b2 => ?_)
    · rw [if_pos b2] at h
      refine J.sub (L' := [(0, .ref (ad 10)), (1, .int c1), (2, .int c2)]) [0, 1, 2] rfl ?_
      exact X3_usedColumns_L4_j31_ok hX  h hin hex0
    · rw [if_neg b2] at h
      refine J.iload_n hX 13 1 rfl rfl ?_
      refine J.iload_n hX 14 2 rfl rfl ?_
      refine J.bipush (v := 6) hX 15 rfl (by decide) ?_
      refine J.irem hX 16 rfl (by decide) ?_
      refine J.iconst (v := 1) hX 17 rfl (by decide) ?_
      refine J.iadd hX 18 rfl ?_
      obtain ⟨t3, et3, h⟩ := bnd_inv h
      refine J.mmax hX 19 rfl w_575 w_555 w_533 w_556 (Nat.le_of_ble_eq_true rfl) (Nat.le_of_ble_eq_true rfl) (Nat.zero_le _) (Nat.zero_le _) ?_
      refine J.nm et3 ?_
      refine J.istore_n (L' := [(1, .int t3), (0, .ref (ad 10)), (2, .int c2)]) hX 20 rfl (by decide) rfl ?_
      refine J.sub (L' := [(0, .ref (ad 10)), (1, .int t3), (2, .int c2)]) [1, 0, 2] rfl ?_
      exact X3_usedColumns_L4_j31_ok hX  h hin hex0
set_option maxHeartbeats 4000000 in
set_option maxRecDepth 100000 in
theorem mX3_usedColumns {l : Launch} {D : va_G} {cA : Nat → ClassId} {ad : Nat → Nat} {n : Nat} {A : Nat → Prop} {sa : Nat → Nat} {M : Mem} {r : Int32} (h : X3_usedColumns M = some r) : CT l D cA ad n A sa yX3_usedColumns cX3_usedColumns 3 (some .int) 1 21 [.ref (ad 10)] M (.inl (some (.int r))) M := by
  refine CT.of (kt := kX3_usedColumns) (by decide) kX3_usedColumns_ok (Nat.le_of_ble_eq_true rfl) ?_
  intro p e s m args below meth c hX hr ht
  unfold X3_usedColumns at h
  refine J.sub (L' := [(0, .ref (ad 10))]) [0] rfl ?_
  refine J.iconst (v := 0) hX 0 rfl (by decide) ?_
  refine J.istore_n (L' := [(1, .int 0), (0, .ref (ad 10))]) hX 1 rfl (by decide) rfl ?_
  refine J.iconst (v := 0) hX 2 rfl (by decide) ?_
  refine J.istore_n (L' := [(2, .int 0), (1, .int 0), (0, .ref (ad 10))]) hX 3 rfl (by decide) rfl ?_
  refine J.sub (L' := [(0, .ref (ad 10)), (1, .int 0), (2, .int 0)]) [2, 1, 0] rfl ?_
  obtain ⟨x1, hlp, h⟩ := bd1_inv h
  suffices hE : JM 1 21 p l e s m args below meth c D cA ad n A 3 (.inl (some (.int r))) M M 37 [(1, .int x1)] [] by
    exact loop_ok (fun q9 : Int32 × Int32 => JM 1 21 p l e s m args below meth c D cA ad n A 3 (.inl (some (.int r))) M M 4 [(0, .ref (ad 10)), (1, .int q9.1), (2, .int q9.2)] []) (fun q9 r hB hst hex9 => X3_usedColumns_L4_ok hX  hB (fun _ _ hr => hst _ hr) (fun _ hr => by cases hex9 _ hr; exact hE)) 3000 _ hlp
  refine J.iload_n hX 23 0 rfl rfl ?_
  cases h
  exact J.iret hX hr 24 rfl
def X3_reach (M : Mem) (l1 : Int32) : Option (Int32) := ld M 14 2 0 (fun t1 => some ((l1 * 96) + ((l1 - 1) * t1)))
set_option maxHeartbeats 4000000 in
set_option maxRecDepth 100000 in
theorem mX3_reach {l : Launch} {D : va_G} {cA : Nat → ClassId} {ad : Nat → Nat} {n : Nat} {A : Nat → Prop} {sa : Nat → Nat} {M : Mem} {l1 : Int32} {r : Int32} (h : X3_reach M l1 = some r) : CT l D cA ad n A sa yX3_reach cX3_reach 2 (some .int) 0 0 [.ref (ad 10), .int l1] M (.inl (some (.int r))) M := by
  refine CT.of (kt := kX3_reach) (by decide) kX3_reach_ok (Nat.le_of_ble_eq_true rfl) ?_
  intro p e s m args below meth c hX hr ht
  unfold X3_reach at h
  refine J.sub (L' := [(0, .ref (ad 10)), (1, .int l1)]) [0, 1] rfl ?_
  refine J.iload_n hX 0 1 rfl rfl ?_
  refine J.bipush (v := 96) hX 1 rfl (by decide) ?_
  refine J.imul hX 2 rfl ?_
  refine J.iload_n hX 3 1 rfl rfl ?_
  refine J.iconst (v := 1) hX 4 rfl (by decide) ?_
  refine J.isub hX 5 rfl ?_
  refine J.aload_n hX 6 0 rfl rfl ?_
  refine J.getR hX 7 10 3 (hX.lt (k := 10) (by decide)) sh_10 rfl in_wsX30 4 (by decide) w_51 rfl rfl ?_
  refine J.iconst (v := 0) hX 8 rfl (by decide) ?_
  obtain ⟨t1, et1, hb, h⟩ := ld_inv h
  refine J.ialdN hX 9 14 (hX.lt (k := 14) (by decide)) sh_14 hb et1 rfl ?_
  refine J.imul hX 10 rfl ?_
  refine J.iadd hX 11 rfl ?_
  cases h
  exact J.iret hX hr 12 rfl
def X3_withBorder_j22 (M : Mem) (v1 : Int32) : Option (Int32) := some v1
def X3_withBorder (M : Mem) (l1 : Int32) : Option (Int32) := if l1 = 0 then (X3_withBorder_j22 M 0) else (bd1 (X3_reach M l1) (fun t1 => ld M 14 2 1 (fun t2 => X3_withBorder_j22 M (t1 + (2 * t2)))))
set_option maxHeartbeats 4000000 in
set_option maxRecDepth 100000 in
theorem X3_withBorder_j22_ok (hX : Cx p s m args meth c D cA ad n A sa cX3_withBorder 2 RX3 kX3_withBorder) {M : Mem} {v1 : Int32} {r : Int32}  (hr : meth.sig.returnType = (some .int)) (ht : ∀ x ∈ c.exceptionTable.toList, False) (h : X3_withBorder_j22 M v1 = some r) : JM 1 21 p l e s m args below meth c D cA ad n A 2 (.inl (some (.int r))) M M 22 [] [.int v1] := by
  unfold X3_withBorder_j22 at h
  cases h
  exact J.iret hX hr 14 rfl
set_option maxHeartbeats 4000000 in
set_option maxRecDepth 100000 in
theorem mX3_withBorder {l : Launch} {D : va_G} {cA : Nat → ClassId} {ad : Nat → Nat} {n : Nat} {A : Nat → Prop} {sa : Nat → Nat} {M : Mem} {l1 : Int32} {r : Int32} (h : X3_withBorder M l1 = some r) : CT l D cA ad n A sa yX3_withBorder cX3_withBorder 2 (some .int) 1 21 [.ref (ad 10), .int l1] M (.inl (some (.int r))) M := by
  refine CT.of (kt := kX3_withBorder) (by decide) kX3_withBorder_ok (Nat.le_of_ble_eq_true rfl) ?_
  intro p e s m args below meth c hX hr ht
  unfold X3_withBorder at h
  refine J.sub (L' := [(0, .ref (ad 10)), (1, .int l1)]) [0, 1] rfl ?_
  refine J.iload_n hX 0 1 rfl rfl ?_
  refine J.if_ne (tgt := 8) hX 1 rfl (by decide) (fun b1 => ?_) (fun b1 => ?_)
  · rw [if_neg b1] at h
    refine J.aload_n hX 4 0 rfl rfl ?_
    refine J.iload_n hX 5 1 rfl rfl ?_
    obtain ⟨t1, hc, h⟩ := bd1_inv h
    refine J.callV1 (As := [.int l1]) (rest := []) (k := 10) hX 6 rfl (mX3_reach  hc) okX3_reach w_593 (hX.lt (k := 10) (by decide)) sh_10 rfl rfl rfl (Nat.le_of_ble_eq_true rfl) ⟨Nat.le_of_ble_eq_true rfl, Nat.le_of_ble_eq_true rfl⟩ ⟨Nat.zero_le _, Nat.zero_le _⟩ ?_
    refine J.iconst (v := 2) hX 7 rfl (by decide) ?_
    refine J.aload_n hX 8 0 rfl rfl ?_
    refine J.getR hX 9 10 3 (hX.lt (k := 10) (by decide)) sh_10 rfl in_wsX30 4 (by decide) w_51 rfl rfl ?_
    refine J.iconst (v := 1) hX 10 rfl (by decide) ?_
    obtain ⟨t2, et2, hb, h⟩ := ld_inv h
    refine J.ialdN hX 11 14 (hX.lt (k := 14) (by decide)) sh_14 hb et2 rfl ?_
    refine J.imul hX 12 rfl ?_
    refine J.iadd hX 13 rfl ?_
    refine J.sub (L' := []) [] rfl ?_
    exact X3_withBorder_j22_ok hX  hr ht h
  · rw [if_pos b1] at h
    refine J.iconst (v := 0) hX 2 rfl (by decide) ?_
    refine J.goto (tgt := 22) hX 3 rfl (by decide) ?_
    refine J.sub (L' := []) [] rfl ?_
    exact X3_withBorder_j22_ok hX  hr ht h
def X3_swapCloths_L2_j44 (n : Nat) (N2 : Mem) (l1 : Int32) (l2 : Int32) (v1 : Int32) : Option ((Int32 × Mem) ⊕ (Mem)) := bnd (v1 + 1) (fun t3 => some (.inl (t3, N2)))
def X3_swapCloths_L2 (n : Nat) (l1 : Int32) (l2 : Int32) (q9 : Int32 × Mem) : Option ((Int32 × Mem) ⊕ (Mem)) := un2 q9 (fun c1 N1 => if 2 ≤ c1 then (some (.inr N1)) else (ld N1 15 2 c1 (fun t1 => if t1 = l1 then (sto N1 15 2 c1 l2 (fun N4 => X3_swapCloths_L2_j44 n N4 l1 l2 c1)) else (ld N1 15 2 c1 (fun t2 => if t2 = l2 then (sto N1 15 2 c1 l1 (fun N3 => X3_swapCloths_L2_j44 n N3 l1 l2 c1)) else (X3_swapCloths_L2_j44 n N1 l1 l2 c1))))))
def X3_swapCloths_L55_j88 (n : Nat) (N7 : Mem) (l1 : Int32) (l2 : Int32) (v2 : Int32) (v3 : Int32) : Option ((Int32 × Int32 × Mem) ⊕ (Int32 × Mem)) := bnd (v3 + 1) (fun t5 => some (.inl (v2, t5, N7)))
def X3_swapCloths_L55 (n : Nat) (l1 : Int32) (l2 : Int32) (q9 : Int32 × Int32 × Mem) : Option ((Int32 × Int32 × Mem) ⊕ (Int32 × Mem)) := un3 q9 (fun c2 c3 N6 => if (N6 10 1) ≤ c3 then (some (.inr (c2, N6))) else (ld N6 11 10 c3 (fun t4 => if t4 = 0 then (X3_swapCloths_L55_j88 n N6 l1 l2 c2 c3) else (chk (drok n t4) (bd2 (X1_swapCloths N6 (t4.toNatClampNeg) l1 l2) (fun t6 N8 => bnd ((c2 + t6)) (fun t7 => X3_swapCloths_L55_j88 n N8 l1 l2 t7 c3)))))))
def X3_swapCloths (n : Nat) (M : Mem) (l1 : Int32) (l2 : Int32) : Option (Int32 × Mem) := bd1 (loop (X3_swapCloths_L2 n l1 l2) 3000 (0, M)) (fun N5 => bd2 (loop (X3_swapCloths_L55 n l1 l2) 3000 (0, 0, N5)) (fun x1 N9 => some (x1, N9)))
set_option maxHeartbeats 4000000 in
set_option maxRecDepth 100000 in
theorem X3_swapCloths_L2_j44_ok (hX : Cx p s m args meth c D cA ad n A sa cX3_swapCloths 6 RX3 kX3_swapCloths) {N2 : Mem} {l1 : Int32} {l2 : Int32} {v1 : Int32}  {r : (Int32 × Mem) ⊕ (Mem)} (h : X3_swapCloths_L2_j44 n N2 l1 l2 v1 = some r) (hin : ∀ (q0 : Int32) (Mq : Mem), r = .inl (q0, Mq) → JM 3 67 p l e s m args below meth c D cA ad n A 6 out M1 Mq 2 [(0, .ref (ad 10)), (1, .int l1), (2, .int l2), (3, .int q0)] []) (hex0 : ∀  (Mq : Mem), r = .inr Mq → JM 3 67 p l e s m args below meth c D cA ad n A 6 out M1 Mq 50 [(0, .ref (ad 10)), (1, .int l1), (2, .int l2)] []) : JM 3 67 p l e s m args below meth c D cA ad n A 6 out M1 N2 44 [(0, .ref (ad 10)), (1, .int l1), (2, .int l2), (3, .int v1)] [] := by
  unfold X3_swapCloths_L2_j44 at h
  obtain ⟨t3, et3, h⟩ := bnd_inv h
  refine J.iinc (q := 3) (L' := [(3, .int t3), (0, .ref (ad 10)), (1, .int l1), (2, .int l2)]) hX 28 rfl rfl et3 (by decide) rfl ?_
  refine J.goto (tgt := 2) hX 29 rfl (by decide) ?_
  refine J.sub (L' := [(0, .ref (ad 10)), (1, .int l1), (2, .int l2), (3, .int t3)]) [1, 2, 3, 0] rfl ?_
  exact hin _ _ (Option.some.inj h).symm
set_option maxHeartbeats 4000000 in
set_option maxRecDepth 100000 in
theorem X3_swapCloths_L2_ok (hX : Cx p s m args meth c D cA ad n A sa cX3_swapCloths 6 RX3 kX3_swapCloths) {N1 : Mem} {l1 : Int32} {l2 : Int32} {c1 : Int32}  {r : (Int32 × Mem) ⊕ (Mem)} (h : X3_swapCloths_L2 n l1 l2 (c1, N1) = some r) (hin : ∀ (q0 : Int32) (Mq : Mem), r = .inl (q0, Mq) → JM 3 67 p l e s m args below meth c D cA ad n A 6 out M1 Mq 2 [(0, .ref (ad 10)), (1, .int l1), (2, .int l2), (3, .int q0)] []) (hex0 : ∀  (Mq : Mem), r = .inr Mq → JM 3 67 p l e s m args below meth c D cA ad n A 6 out M1 Mq 50 [(0, .ref (ad 10)), (1, .int l1), (2, .int l2)] []) : JM 3 67 p l e s m args below meth c D cA ad n A 6 out M1 N1 2 [(0, .ref (ad 10)), (1, .int l1), (2, .int l2), (3, .int c1)] [] := by
  unfold X3_swapCloths_L2 at h
  have h := un2_inv h
  refine J.iload_n hX 2 3 rfl rfl ?_
  refine J.iconst (v := 2) hX 3 rfl (by decide) ?_
  refine J.icmp_ge (tgt := 50) hX 4 rfl (by decide) (fun b1 => ?_) (fun b1 => ?_)
  · rw [if_pos b1] at h
    refine J.sub (L' := [(0, .ref (ad 10)), (1, .int l1), (2, .int l2)]) [0, 1, 2] rfl ?_
    exact hex0 _ (Option.some.inj h).symm
  · rw [if_neg b1] at h
    refine J.aload_n hX 5 0 rfl rfl ?_
    refine J.getR hX 6 10 3 (hX.lt (k := 10) (by decide)) sh_10 rfl in_wsX30 5 (by decide) w_52 rfl rfl ?_
    refine J.iload_n hX 7 3 rfl rfl ?_
    obtain ⟨t1, et1, hb, h⟩ := ld_inv h
    refine J.ialdN hX 8 15 (hX.lt (k := 15) (by decide)) sh_15 hb et1 rfl ?_
    refine J.iload_n hX 9 1 rfl rfl ?_
    refine J.icmp_ne (tgt := 27) hX 10 rfl (by decide) (fun b2 => ?_) (fun b2 => ?_)
    · rw [if_neg b2] at h
      refine J.aload_n hX 17 0 rfl rfl ?_
      refine J.getR hX 18 10 3 (hX.lt (k := 10) (by decide)) sh_10 rfl in_wsX30 5 (by decide) w_52 rfl rfl ?_
      refine J.iload_n hX 19 3 rfl rfl ?_
      obtain ⟨t2, et2, hb, h⟩ := ld_inv h
      refine J.ialdN hX 20 15 (hX.lt (k := 15) (by decide)) sh_15 hb et2 rfl ?_
      refine J.iload_n hX 21 2 rfl rfl ?_
      refine J.icmp_ne (tgt := 44) hX 22 rfl (by decide) (fun b3 => ?_) (fun b3 => ?_)
      · rw [if_neg b3] at h
        refine J.sub (L' := [(0, .ref (ad 10)), (1, .int l1), (2, .int l2), (3, .int c1)]) [0, 1, 2, 3] rfl ?_
        exact X3_swapCloths_L2_j44_ok hX  h hin hex0
      · rw [if_pos b3] at h
        refine J.aload_n hX 23 0 rfl rfl ?_
        refine J.getR hX 24 10 3 (hX.lt (k := 10) (by decide)) sh_10 rfl in_wsX30 5 (by decide) w_52 rfl rfl ?_
        refine J.iload_n hX 25 3 rfl rfl ?_
        refine J.iload_n hX 26 1 rfl rfl ?_
        obtain ⟨N3, eN3, hb, h⟩ := sto_inv h
        refine J.iastN hX 27 15 (hX.lt (k := 15) (by decide)) sh_15 hb eN3 rfl ?_
        refine J.sub (L' := [(0, .ref (ad 10)), (1, .int l1), (2, .int l2), (3, .int c1)]) [0, 1, 2, 3] rfl ?_
        exact X3_swapCloths_L2_j44_ok hX  h hin hex0
    · rw [if_pos b2] at h
      refine J.aload_n hX 11 0 rfl rfl ?_
      refine J.getR hX 12 10 3 (hX.lt (k := 10) (by decide)) sh_10 rfl in_wsX30 5 (by decide) w_52 rfl rfl ?_
      refine J.iload_n hX 13 3 rfl rfl ?_
      refine J.iload_n hX 14 2 rfl rfl ?_
      obtain ⟨N4, eN4, hb, h⟩ := sto_inv h
      refine J.iastN hX 15 15 (hX.lt (k := 15) (by decide)) sh_15 hb eN4 rfl ?_
      refine J.goto (tgt := 44) hX 16 rfl (by decide) ?_
      refine J.sub (L' := [(0, .ref (ad 10)), (1, .int l1), (2, .int l2), (3, .int c1)]) [0, 1, 2, 3] rfl ?_
      exact X3_swapCloths_L2_j44_ok hX  h hin hex0
set_option maxHeartbeats 4000000 in
set_option maxRecDepth 100000 in
theorem X3_swapCloths_L55_j88_ok (hX : Cx p s m args meth c D cA ad n A sa cX3_swapCloths 6 RX3 kX3_swapCloths) {N7 : Mem} {l1 : Int32} {l2 : Int32} {v2 : Int32} {v3 : Int32}  {r : (Int32 × Int32 × Mem) ⊕ (Int32 × Mem)} (h : X3_swapCloths_L55_j88 n N7 l1 l2 v2 v3 = some r) (hin : ∀ (q0 : Int32) (q1 : Int32) (Mq : Mem), r = .inl (q0, q1, Mq) → JM 3 67 p l e s m args below meth c D cA ad n A 6 out M1 Mq 55 [(0, .ref (ad 10)), (1, .int l1), (2, .int l2), (3, .int q0), (4, .int q1)] []) (hex0 : ∀ (q0 : Int32) (Mq : Mem), r = .inr (q0, Mq) → JM 3 67 p l e s m args below meth c D cA ad n A 6 out M1 Mq 94 [(3, .int q0)] []) : JM 3 67 p l e s m args below meth c D cA ad n A 6 out M1 N7 88 [(0, .ref (ad 10)), (1, .int l1), (2, .int l2), (3, .int v2), (4, .int v3)] [] := by
  unfold X3_swapCloths_L55_j88 at h
  obtain ⟨t5, et5, h⟩ := bnd_inv h
  refine J.iinc (q := 4) (L' := [(4, .int t5), (0, .ref (ad 10)), (1, .int l1), (2, .int l2), (3, .int v2)]) hX 52 rfl rfl et5 (by decide) rfl ?_
  refine J.goto (tgt := 55) hX 53 rfl (by decide) ?_
  refine J.sub (L' := [(0, .ref (ad 10)), (1, .int l1), (2, .int l2), (3, .int v2), (4, .int t5)]) [1, 2, 3, 4, 0] rfl ?_
  exact hin _ _ _ (Option.some.inj h).symm
set_option maxHeartbeats 4000000 in
set_option maxRecDepth 100000 in
theorem X3_swapCloths_L55_ok (hX : Cx p s m args meth c D cA ad n A sa cX3_swapCloths 6 RX3 kX3_swapCloths) {N6 : Mem} {l1 : Int32} {l2 : Int32} {c2 : Int32} {c3 : Int32}  {r : (Int32 × Int32 × Mem) ⊕ (Int32 × Mem)} (h : X3_swapCloths_L55 n l1 l2 (c2, c3, N6) = some r) (hin : ∀ (q0 : Int32) (q1 : Int32) (Mq : Mem), r = .inl (q0, q1, Mq) → JM 3 67 p l e s m args below meth c D cA ad n A 6 out M1 Mq 55 [(0, .ref (ad 10)), (1, .int l1), (2, .int l2), (3, .int q0), (4, .int q1)] []) (hex0 : ∀ (q0 : Int32) (Mq : Mem), r = .inr (q0, Mq) → JM 3 67 p l e s m args below meth c D cA ad n A 6 out M1 Mq 94 [(3, .int q0)] []) : JM 3 67 p l e s m args below meth c D cA ad n A 6 out M1 N6 55 [(0, .ref (ad 10)), (1, .int l1), (2, .int l2), (3, .int c2), (4, .int c3)] [] := by
  unfold X3_swapCloths_L55 at h
  have h := un3_inv h
  refine J.iload hX 34 4 rfl rfl ?_
  refine J.aload_n hX 35 0 rfl rfl ?_
  refine J.getI hX 36 10 3 (hX.lt (k := 10) (by decide)) sh_10 rfl in_wsX30 1 (by decide) w_376 rfl rfl ?_
  refine J.icmp_ge (tgt := 94) hX 37 rfl (by decide) (fun b4 => ?_) (fun b4 => ?_)
  · rw [if_pos b4] at h
    refine J.sub (L' := [(3, .int c2)]) [3] rfl ?_
    exact hex0 _ _ (Option.some.inj h).symm
  · rw [if_neg b4] at h
    refine J.aload_n hX 38 0 rfl rfl ?_
    refine J.getR hX 39 10 3 (hX.lt (k := 10) (by decide)) sh_10 rfl in_wsX30 0 (by decide) w_48 rfl rfl ?_
    refine J.iload hX 40 4 rfl rfl ?_
    obtain ⟨t4, et4, hb, h⟩ := ld_inv h
    refine J.aald hX 41 11 (hX.lt (k := 11) (by decide)) sh_11 hb rfl ?_
    rw [et4]
    refine J.astoreQ (L' := [(5, va_rf (dec ad t4)), (0, .ref (ad 10)), (1, .int l1), (2, .int l2), (3, .int c2), (4, .int c3)]) hX 42 rfl (by decide) rfl ?_
    refine J.aloadQ hX 43 0 rfl rfl ?_
    refine J.ifnull (tgt := 88) hX 44 rfl (by decide) (fun b5 => ?_) (fun b5 => ?_)
    · rw [if_pos b5] at h
      refine J.sub (L' := [(0, .ref (ad 10)), (1, .int l1), (2, .int l2), (3, .int c2), (4, .int c3)]) [1, 2, 3, 4, 5] rfl ?_
      exact X3_swapCloths_L55_j88_ok hX  h hin hex0
    · rw [if_neg b5] at h
      refine J.iload_n hX 45 4 rfl rfl ?_
      obtain ⟨hdt4, h⟩ := chk_inv h
      have hdt4 := drok_ok hdt4
      refine J.aloadQ hX 46 0 rfl rfl ?_
      refine J.isref b5 ?_
      refine J.iload_n hX 47 2 rfl rfl ?_
      refine J.iload_n hX 48 3 rfl rfl ?_
      obtain ⟨t6, N8, hc, h⟩ := bd2_inv h
      refine J.callV1 (As := [.int l1, .int l2]) (rest := [.int c2]) (k := t4.toNatClampNeg) hX 49 rfl (mX1_swapCloths hdt4 hc) okX1_swapCloths w_473 hdt4.lt0 hdt4.s0 rfl rfl rfl (Nat.le_of_ble_eq_true rfl) ⟨Nat.le_of_ble_eq_true rfl, Nat.le_of_ble_eq_true rfl⟩ ⟨Nat.zero_le _, Nat.zero_le _⟩ ?_
      refine J.iadd hX 50 rfl ?_
      obtain ⟨t7, et7, h⟩ := bnd_inv h
      refine J.nm et7 ?_
      refine J.istore_n (L' := [(3, .int t7), (5, va_rf (dec ad t4)), (0, .ref (ad 10)), (1, .int l1), (2, .int l2), (4, .int c3)]) hX 51 rfl (by decide) (by first | rfl | (simp only [List.filter, cat_rf]; done) | (simp only [List.filter, cat_rf]; rfl)) ?_
      refine J.sub (L' := [(0, .ref (ad 10)), (1, .int l1), (2, .int l2), (3, .int t7), (4, .int c3)]) [2, 3, 4, 0, 5] rfl ?_
      exact X3_swapCloths_L55_j88_ok hX  h hin hex0
set_option maxHeartbeats 4000000 in
set_option maxRecDepth 100000 in
theorem mX3_swapCloths {l : Launch} {D : va_G} {cA : Nat → ClassId} {ad : Nat → Nat} {n : Nat} {A : Nat → Prop} {sa : Nat → Nat} {M : Mem} {l1 : Int32} {l2 : Int32} {r : Int32} {Mf : Mem} (h : X3_swapCloths n M l1 l2 = some (r, Mf)) : CT l D cA ad n A sa yX3_swapCloths cX3_swapCloths 6 (some .int) 3 67 [.ref (ad 10), .int l1, .int l2] M (.inl (some (.int r))) Mf := by
  refine CT.of (kt := kX3_swapCloths) (by decide) kX3_swapCloths_ok (Nat.le_of_ble_eq_true rfl) ?_
  intro p e s m args below meth c hX hr ht
  unfold X3_swapCloths at h
  refine J.sub (L' := [(0, .ref (ad 10)), (1, .int l1), (2, .int l2)]) [0, 1, 2] rfl ?_
  refine J.iconst (v := 0) hX 0 rfl (by decide) ?_
  refine J.istore_n (L' := [(3, .int 0), (0, .ref (ad 10)), (1, .int l1), (2, .int l2)]) hX 1 rfl (by decide) rfl ?_
  refine J.sub (L' := [(0, .ref (ad 10)), (1, .int l1), (2, .int l2), (3, .int 0)]) [1, 2, 3, 0] rfl ?_
  obtain ⟨N5, hlp, h⟩ := bd1_inv h
  suffices hE : JM 3 67 p l e s m args below meth c D cA ad n A 6 (.inl (some (.int r))) Mf N5 50 [(0, .ref (ad 10)), (1, .int l1), (2, .int l2)] [] by
    exact loop_ok (fun q9 : Int32 × Mem => JM 3 67 p l e s m args below meth c D cA ad n A 6 (.inl (some (.int r))) Mf q9.2 2 [(0, .ref (ad 10)), (1, .int l1), (2, .int l2), (3, .int q9.1)] []) (fun q9 r hB hst hex9 => X3_swapCloths_L2_ok hX  hB (fun _ _ hr => hst _ hr) (fun _ hr => by cases hex9 _ hr; exact hE)) 3000 _ hlp
  refine J.iconst (v := 0) hX 30 rfl (by decide) ?_
  refine J.istore_n (L' := [(3, .int 0), (0, .ref (ad 10)), (1, .int l1), (2, .int l2)]) hX 31 rfl (by decide) rfl ?_
  refine J.iconst (v := 0) hX 32 rfl (by decide) ?_
  refine J.istore (L' := [(4, .int 0), (3, .int 0), (0, .ref (ad 10)), (1, .int l1), (2, .int l2)]) hX 33 rfl (by decide) rfl ?_
  refine J.sub (L' := [(0, .ref (ad 10)), (1, .int l1), (2, .int l2), (3, .int 0), (4, .int 0)]) [2, 3, 4, 1, 0] rfl ?_
  obtain ⟨x1, N9, hlp, h⟩ := bd2_inv h
  suffices hE : JM 3 67 p l e s m args below meth c D cA ad n A 6 (.inl (some (.int r))) Mf N9 94 [(3, .int x1)] [] by
    exact loop_ok (fun q9 : Int32 × Int32 × Mem => JM 3 67 p l e s m args below meth c D cA ad n A 6 (.inl (some (.int r))) Mf q9.2.2 55 [(0, .ref (ad 10)), (1, .int l1), (2, .int l2), (3, .int q9.1), (4, .int q9.2.1)] []) (fun q9 r hB hst hex9 => X3_swapCloths_L55_ok hX  hB (fun _ _ _ hr => hst _ hr) (fun _ _ hr => by cases hex9 _ hr; exact hE)) 3000 _ hlp
  refine J.iload_n hX 54 0 rfl rfl ?_
  cases h
  exact J.iret hX hr 55 rfl
def X3_clothArea_L4_j31 (n : Nat) (M : Mem) (l1 : Int32) (v1 : Int32) (v2 : Int32) : Option ((Int32 × Int32) ⊕ (Int32)) := bnd (v2 + 1) (fun t2 => some (.inl (v1, t2)))
def X3_clothArea_L4 (n : Nat) (M : Mem) (l1 : Int32) (q9 : Int32 × Int32) : Option ((Int32 × Int32) ⊕ (Int32)) := un2 q9 (fun c1 c2 => if 36 ≤ c2 then (some (.inr c1)) else (bd1 (X3_blockAt n M c2) (fun t1 => if t1 = 0 then (X3_clothArea_L4_j31 n M l1 c1 c2) else (chk (drok n t1) (bd1 (X1_clothArea M (t1.toNatClampNeg) l1) (fun t3 => bnd ((c1 + t3)) (fun t4 => X3_clothArea_L4_j31 n M l1 t4 c2)))))))
def X3_clothArea (n : Nat) (M : Mem) (l1 : Int32) : Option (Int32) := bd1 (loop (X3_clothArea_L4 n M l1) 3000 (0, 0)) (fun x1 => some x1)
set_option maxHeartbeats 4000000 in
set_option maxRecDepth 100000 in
theorem X3_clothArea_L4_j31_ok (hX : Cx p s m args meth c D cA ad n A sa cX3_clothArea 5 RX3 kX3_clothArea) {M : Mem} {l1 : Int32} {v1 : Int32} {v2 : Int32}  {r : (Int32 × Int32) ⊕ (Int32)} (h : X3_clothArea_L4_j31 n M l1 v1 v2 = some r) (hin : ∀ (q0 : Int32) (q1 : Int32), r = .inl (q0, q1) → JM 3 70 p l e s m args below meth c D cA ad n A 5 out M1 M 4 [(0, .ref (ad 10)), (1, .int l1), (2, .int q0), (3, .int q1)] []) (hex0 : ∀ (q0 : Int32), r = .inr q0 → JM 3 70 p l e s m args below meth c D cA ad n A 5 out M1 M 37 [(2, .int q0)] []) : JM 3 70 p l e s m args below meth c D cA ad n A 5 out M1 M 31 [(0, .ref (ad 10)), (1, .int l1), (2, .int v1), (3, .int v2)] [] := by
  unfold X3_clothArea_L4_j31 at h
  obtain ⟨t2, et2, h⟩ := bnd_inv h
  refine J.iinc (q := 3) (L' := [(3, .int t2), (0, .ref (ad 10)), (1, .int l1), (2, .int v1)]) hX 19 rfl rfl et2 (by decide) rfl ?_
  refine J.goto (tgt := 4) hX 20 rfl (by decide) ?_
  refine J.sub (L' := [(0, .ref (ad 10)), (1, .int l1), (2, .int v1), (3, .int t2)]) [1, 2, 3, 0] rfl ?_
  exact hin _ _ (Option.some.inj h).symm
set_option maxHeartbeats 4000000 in
set_option maxRecDepth 100000 in
theorem X3_clothArea_L4_ok (hX : Cx p s m args meth c D cA ad n A sa cX3_clothArea 5 RX3 kX3_clothArea) {M : Mem} {l1 : Int32} {c1 : Int32} {c2 : Int32}  {r : (Int32 × Int32) ⊕ (Int32)} (h : X3_clothArea_L4 n M l1 (c1, c2) = some r) (hin : ∀ (q0 : Int32) (q1 : Int32), r = .inl (q0, q1) → JM 3 70 p l e s m args below meth c D cA ad n A 5 out M1 M 4 [(0, .ref (ad 10)), (1, .int l1), (2, .int q0), (3, .int q1)] []) (hex0 : ∀ (q0 : Int32), r = .inr q0 → JM 3 70 p l e s m args below meth c D cA ad n A 5 out M1 M 37 [(2, .int q0)] []) : JM 3 70 p l e s m args below meth c D cA ad n A 5 out M1 M 4 [(0, .ref (ad 10)), (1, .int l1), (2, .int c1), (3, .int c2)] [] := by
  unfold X3_clothArea_L4 at h
  have h := un2_inv h
  refine J.iload_n hX 4 3 rfl rfl ?_
  refine J.bipush (v := 36) hX 5 rfl (by decide) ?_
  refine J.icmp_ge (tgt := 37) hX 6 rfl (by decide) (fun b1 => ?_) (fun b1 => ?_)
  · rw [if_pos b1] at h
    refine J.sub (L' := [(2, .int c1)]) [2] rfl ?_
    exact hex0 _ (Option.some.inj h).symm
  · rw [if_neg b1] at h
    refine J.aload_n hX 7 0 rfl rfl ?_
    refine J.iload_n hX 8 3 rfl rfl ?_
    obtain ⟨t1, hc, h⟩ := bd1_inv h
    refine J.callV1 (As := [.int c2]) (rest := []) (k := 10) hX 9 rfl (mX3_blockAt  hc) okX3_blockAt w_423 (hX.lt (k := 10) (by decide)) sh_10 rfl rfl rfl (Nat.le_of_ble_eq_true rfl) ⟨Nat.le_of_ble_eq_true rfl, Nat.le_of_ble_eq_true rfl⟩ ⟨Nat.zero_le _, Nat.zero_le _⟩ ?_
    refine J.astoreQ (L' := [(4, va_rf (dec ad t1)), (0, .ref (ad 10)), (1, .int l1), (2, .int c1), (3, .int c2)]) hX 10 rfl (by decide) rfl ?_
    refine J.aloadQ hX 11 0 rfl rfl ?_
    refine J.ifnull (tgt := 31) hX 12 rfl (by decide) (fun b2 => ?_) (fun b2 => ?_)
    · rw [if_pos b2] at h
      refine J.sub (L' := [(0, .ref (ad 10)), (1, .int l1), (2, .int c1), (3, .int c2)]) [1, 2, 3, 4] rfl ?_
      exact X3_clothArea_L4_j31_ok hX  h hin hex0
    · rw [if_neg b2] at h
      refine J.iload_n hX 13 3 rfl rfl ?_
      obtain ⟨hdt1, h⟩ := chk_inv h
      have hdt1 := drok_ok hdt1
      refine J.aloadQ hX 14 0 rfl rfl ?_
      refine J.isref b2 ?_
      refine J.iload_n hX 15 2 rfl rfl ?_
      obtain ⟨t3, hc, h⟩ := bd1_inv h
      refine J.callV1 (As := [.int l1]) (rest := [.int c1]) (k := t1.toNatClampNeg) hX 16 rfl (mX1_clothArea hdt1 hc) okX1_clothArea w_492 hdt1.lt0 hdt1.s0 rfl rfl rfl (Nat.le_of_ble_eq_true rfl) ⟨Nat.le_of_ble_eq_true rfl, Nat.le_of_ble_eq_true rfl⟩ ⟨Nat.zero_le _, Nat.zero_le _⟩ ?_
      refine J.iadd hX 17 rfl ?_
      obtain ⟨t4, et4, h⟩ := bnd_inv h
      refine J.nm et4 ?_
      refine J.istore_n (L' := [(2, .int t4), (4, va_rf (dec ad t1)), (0, .ref (ad 10)), (1, .int l1), (3, .int c2)]) hX 18 rfl (by decide) (by first | rfl | (simp only [List.filter, cat_rf]; done) | (simp only [List.filter, cat_rf]; rfl)) ?_
      refine J.sub (L' := [(0, .ref (ad 10)), (1, .int l1), (2, .int t4), (3, .int c2)]) [2, 3, 0, 4] rfl ?_
      exact X3_clothArea_L4_j31_ok hX  h hin hex0
set_option maxHeartbeats 4000000 in
set_option maxRecDepth 100000 in
theorem mX3_clothArea {l : Launch} {D : va_G} {cA : Nat → ClassId} {ad : Nat → Nat} {n : Nat} {A : Nat → Prop} {sa : Nat → Nat} {M : Mem} {l1 : Int32} {r : Int32} (h : X3_clothArea n M l1 = some r) : CT l D cA ad n A sa yX3_clothArea cX3_clothArea 5 (some .int) 3 70 [.ref (ad 10), .int l1] M (.inl (some (.int r))) M := by
  refine CT.of (kt := kX3_clothArea) (by decide) kX3_clothArea_ok (Nat.le_of_ble_eq_true rfl) ?_
  intro p e s m args below meth c hX hr ht
  unfold X3_clothArea at h
  refine J.sub (L' := [(0, .ref (ad 10)), (1, .int l1)]) [0, 1] rfl ?_
  refine J.iconst (v := 0) hX 0 rfl (by decide) ?_
  refine J.istore_n (L' := [(2, .int 0), (0, .ref (ad 10)), (1, .int l1)]) hX 1 rfl (by decide) rfl ?_
  refine J.iconst (v := 0) hX 2 rfl (by decide) ?_
  refine J.istore_n (L' := [(3, .int 0), (2, .int 0), (0, .ref (ad 10)), (1, .int l1)]) hX 3 rfl (by decide) rfl ?_
  refine J.sub (L' := [(0, .ref (ad 10)), (1, .int l1), (2, .int 0), (3, .int 0)]) [2, 3, 1, 0] rfl ?_
  obtain ⟨x1, hlp, h⟩ := bd1_inv h
  suffices hE : JM 3 70 p l e s m args below meth c D cA ad n A 5 (.inl (some (.int r))) M M 37 [(2, .int x1)] [] by
    exact loop_ok (fun q9 : Int32 × Int32 => JM 3 70 p l e s m args below meth c D cA ad n A 5 (.inl (some (.int r))) M M 4 [(0, .ref (ad 10)), (1, .int l1), (2, .int q9.1), (3, .int q9.2)] []) (fun q9 r hB hst hex9 => X3_clothArea_L4_ok hX  hB (fun _ _ hr => hst _ hr) (fun _ hr => by cases hex9 _ hr; exact hE)) 3000 _ hlp
  refine J.iload_n hX 21 0 rfl rfl ?_
  cases h
  exact J.iret hX hr 22 rfl
def X3_mirrored_j13 (M : Mem) (v1 : Int32) : Option (Int32) := some v1
def X3_mirrored (M : Mem) (l0 : Int32) (l1 : Int32) : Option (Int32) := if l0 < 4 then (X3_mirrored_j13 M l1) else (X3_mirrored_j13 M (96 - l1))
set_option maxHeartbeats 4000000 in
set_option maxRecDepth 100000 in
theorem X3_mirrored_j13_ok (hX : Cx p s m args meth c D cA ad n A sa cX3_mirrored 2 RX3 kX3_mirrored) {M : Mem} {v1 : Int32} {r : Int32}  (hr : meth.sig.returnType = (some .int)) (ht : ∀ x ∈ c.exceptionTable.toList, False) (h : X3_mirrored_j13 M v1 = some r) : JM 0 0 p l e s m args below meth c D cA ad n A 2 (.inl (some (.int r))) M M 13 [] [.int v1] := by
  unfold X3_mirrored_j13 at h
  cases h
  exact J.iret hX hr 8 rfl
set_option maxHeartbeats 4000000 in
set_option maxRecDepth 100000 in
theorem mX3_mirrored {l : Launch} {D : va_G} {cA : Nat → ClassId} {ad : Nat → Nat} {n : Nat} {A : Nat → Prop} {sa : Nat → Nat} {M : Mem} {l0 : Int32} {l1 : Int32} {r : Int32} (h : X3_mirrored M l0 l1 = some r) : CT l D cA ad n A sa yX3_mirrored cX3_mirrored 2 (some .int) 0 0 [.int l0, .int l1] M (.inl (some (.int r))) M := by
  refine CT.of (kt := kX3_mirrored) (by decide) kX3_mirrored_ok (Nat.le_of_ble_eq_true rfl) ?_
  intro p e s m args below meth c hX hr ht
  unfold X3_mirrored at h
  refine J.sub (L' := [(0, .int l0), (1, .int l1)]) [0, 1] rfl ?_
  refine J.iload_n hX 0 0 rfl rfl ?_
  refine J.iconst (v := 4) hX 1 rfl (by decide) ?_
  refine J.icmp_lt (tgt := 12) hX 2 rfl (by decide) (fun b1 => ?_) (fun b1 => ?_)
  · rw [if_pos b1] at h
    refine J.iload_n hX 7 1 rfl rfl ?_
    refine J.sub (L' := []) [] rfl ?_
    exact X3_mirrored_j13_ok hX  hr ht h
  · rw [if_neg b1] at h
    refine J.bipush (v := 96) hX 3 rfl (by decide) ?_
    refine J.iload_n hX 4 1 rfl rfl ?_
    refine J.isub hX 5 rfl ?_
    refine J.goto (tgt := 13) hX 6 rfl (by decide) ?_
    refine J.sub (L' := []) [] rfl ?_
    exact X3_mirrored_j13_ok hX  hr ht h
def X3_turnedX (M : Mem) (l0 : Int32) (l1 : Int32) (l2 : Int32) : Option (Int32) := bnd ((l0 - l0 / 4 * 4)) (fun t1 => if t1 = 0 then (bd1 (X3_mirrored M l0 l1) (fun t2 => some t2)) else (if t1 = 1 then (some (96 - l2)) else (if t1 = 2 then (bd1 (X3_mirrored M l0 l1) (fun t3 => some (96 - t3))) else (some l2))))
set_option maxHeartbeats 4000000 in
set_option maxRecDepth 100000 in
theorem mX3_turnedX {l : Launch} {D : va_G} {cA : Nat → ClassId} {ad : Nat → Nat} {n : Nat} {A : Nat → Prop} {sa : Nat → Nat} {M : Mem} {l0 : Int32} {l1 : Int32} {l2 : Int32} {r : Int32} (h : X3_turnedX M l0 l1 l2 = some r) : CT l D cA ad n A sa yX3_turnedX cX3_turnedX 3 (some .int) 1 21 [.int l0, .int l1, .int l2] M (.inl (some (.int r))) M := by
  refine CT.of (kt := kX3_turnedX) (by decide) kX3_turnedX_ok (Nat.le_of_ble_eq_true rfl) ?_
  intro p e s m args below meth c hX hr ht
  unfold X3_turnedX at h
  refine J.sub (L' := [(0, .int l0), (1, .int l1), (2, .int l2)]) [0, 1, 2] rfl ?_
  refine J.iload_n hX 0 0 rfl rfl ?_
  refine J.iconst (v := 4) hX 1 rfl (by decide) ?_
  refine J.irem hX 2 rfl (by decide) ?_
  obtain ⟨t1, et1, h⟩ := bnd_inv h
  refine J.nm et1 ?_
  by_cases b1 : t1 = 0
  · rw [if_pos b1] at h
    refine J.tabIn hX 3 (25) 28 rfl (by rw [b1]; decide) (by rw [b1]; decide) (by rw [b1]; decide) (by decide) ?_
    refine J.iload_n hX 4 0 rfl rfl ?_
    refine J.iload_n hX 5 1 rfl rfl ?_
    obtain ⟨t2, hc, h⟩ := bd1_inv h
    refine J.callS1 (As := [.int l0, .int l1]) (rest := []) hX 6 rfl (mX3_mirrored  hc) okX3_mirrored w_437 rfl rfl (Nat.le_of_ble_eq_true rfl) ⟨Nat.le_of_ble_eq_true rfl, Nat.le_of_ble_eq_true rfl⟩ ⟨Nat.zero_le _, Nat.zero_le _⟩ ?_
    cases h
    exact J.iret hX hr 7 rfl
  · rw [if_neg b1] at h
    by_cases b2 : t1 = 1
    · rw [if_pos b2] at h
      refine J.tabIn hX 3 (31) 34 rfl (by rw [b2]; decide) (by rw [b2]; decide) (by rw [b2]; decide) (by decide) ?_
      refine J.bipush (v := 96) hX 8 rfl (by decide) ?_
      refine J.iload_n hX 9 2 rfl rfl ?_
      refine J.isub hX 10 rfl ?_
      cases h
      exact J.iret hX hr 11 rfl
    · rw [if_neg b2] at h
      by_cases b3 : t1 = 2
      · rw [if_pos b3] at h
        refine J.tabIn hX 3 (36) 39 rfl (by rw [b3]; decide) (by rw [b3]; decide) (by rw [b3]; decide) (by decide) ?_
        refine J.bipush (v := 96) hX 12 rfl (by decide) ?_
        refine J.iload_n hX 13 0 rfl rfl ?_
        refine J.iload_n hX 14 1 rfl rfl ?_
        obtain ⟨t3, hc, h⟩ := bd1_inv h
        refine J.callS1 (As := [.int l0, .int l1]) (rest := [.int 96]) hX 15 rfl (mX3_mirrored  hc) okX3_mirrored w_437 rfl rfl (Nat.le_of_ble_eq_true rfl) ⟨Nat.le_of_ble_eq_true rfl, Nat.le_of_ble_eq_true rfl⟩ ⟨Nat.zero_le _, Nat.zero_le _⟩ ?_
        refine J.isub hX 16 rfl ?_
        cases h
        exact J.iret hX hr 17 rfl
      · rw [if_neg b3] at h
        refine J.tabOut hX 3 48 rfl (by have z0 : t1.toInt ≠ 0 := sw_ne b1; have z1 : t1.toInt ≠ 1 := sw_ne b2; have z2 : t1.toInt ≠ 2 := sw_ne b3; omega) (by decide) ?_
        refine J.iload_n hX 18 2 rfl rfl ?_
        cases h
        exact J.iret hX hr 19 rfl
def X3_turnedY (M : Mem) (l0 : Int32) (l1 : Int32) (l2 : Int32) : Option (Int32) := bnd ((l0 - l0 / 4 * 4)) (fun t1 => if t1 = 0 then (some l2) else (if t1 = 1 then (bd1 (X3_mirrored M l0 l1) (fun t2 => some t2)) else (if t1 = 2 then (some (96 - l2)) else (bd1 (X3_mirrored M l0 l1) (fun t3 => some (96 - t3))))))
set_option maxHeartbeats 4000000 in
set_option maxRecDepth 100000 in
theorem mX3_turnedY {l : Launch} {D : va_G} {cA : Nat → ClassId} {ad : Nat → Nat} {n : Nat} {A : Nat → Prop} {sa : Nat → Nat} {M : Mem} {l0 : Int32} {l1 : Int32} {l2 : Int32} {r : Int32} (h : X3_turnedY M l0 l1 l2 = some r) : CT l D cA ad n A sa yX3_turnedY cX3_turnedY 3 (some .int) 1 21 [.int l0, .int l1, .int l2] M (.inl (some (.int r))) M := by
  refine CT.of (kt := kX3_turnedY) (by decide) kX3_turnedY_ok (Nat.le_of_ble_eq_true rfl) ?_
  intro p e s m args below meth c hX hr ht
  unfold X3_turnedY at h
  refine J.sub (L' := [(0, .int l0), (1, .int l1), (2, .int l2)]) [0, 1, 2] rfl ?_
  refine J.iload_n hX 0 0 rfl rfl ?_
  refine J.iconst (v := 4) hX 1 rfl (by decide) ?_
  refine J.irem hX 2 rfl (by decide) ?_
  obtain ⟨t1, et1, h⟩ := bnd_inv h
  refine J.nm et1 ?_
  by_cases b1 : t1 = 0
  · rw [if_pos b1] at h
    refine J.tabIn hX 3 (25) 28 rfl (by rw [b1]; decide) (by rw [b1]; decide) (by rw [b1]; decide) (by decide) ?_
    refine J.iload_n hX 4 2 rfl rfl ?_
    cases h
    exact J.iret hX hr 5 rfl
  · rw [if_neg b1] at h
    by_cases b2 : t1 = 1
    · rw [if_pos b2] at h
      refine J.tabIn hX 3 (27) 30 rfl (by rw [b2]; decide) (by rw [b2]; decide) (by rw [b2]; decide) (by decide) ?_
      refine J.iload_n hX 6 0 rfl rfl ?_
      refine J.iload_n hX 7 1 rfl rfl ?_
      obtain ⟨t2, hc, h⟩ := bd1_inv h
      refine J.callS1 (As := [.int l0, .int l1]) (rest := []) hX 8 rfl (mX3_mirrored  hc) okX3_mirrored w_437 rfl rfl (Nat.le_of_ble_eq_true rfl) ⟨Nat.le_of_ble_eq_true rfl, Nat.le_of_ble_eq_true rfl⟩ ⟨Nat.zero_le _, Nat.zero_le _⟩ ?_
      cases h
      exact J.iret hX hr 9 rfl
    · rw [if_neg b2] at h
      by_cases b3 : t1 = 2
      · rw [if_pos b3] at h
        refine J.tabIn hX 3 (33) 36 rfl (by rw [b3]; decide) (by rw [b3]; decide) (by rw [b3]; decide) (by decide) ?_
        refine J.bipush (v := 96) hX 10 rfl (by decide) ?_
        refine J.iload_n hX 11 2 rfl rfl ?_
        refine J.isub hX 12 rfl ?_
        cases h
        exact J.iret hX hr 13 rfl
      · rw [if_neg b3] at h
        refine J.tabOut hX 3 41 rfl (by have z0 : t1.toInt ≠ 0 := sw_ne b1; have z1 : t1.toInt ≠ 1 := sw_ne b2; have z2 : t1.toInt ≠ 2 := sw_ne b3; omega) (by decide) ?_
        refine J.bipush (v := 96) hX 14 rfl (by decide) ?_
        refine J.iload_n hX 15 0 rfl rfl ?_
        refine J.iload_n hX 16 1 rfl rfl ?_
        obtain ⟨t3, hc, h⟩ := bd1_inv h
        refine J.callS1 (As := [.int l0, .int l1]) (rest := [.int 96]) hX 17 rfl (mX3_mirrored  hc) okX3_mirrored w_437 rfl rfl (Nat.le_of_ble_eq_true rfl) ⟨Nat.le_of_ble_eq_true rfl, Nat.le_of_ble_eq_true rfl⟩ ⟨Nat.zero_le _, Nat.zero_le _⟩ ?_
        refine J.isub hX 18 rfl ?_
        cases h
        exact J.iret hX hr 19 rfl
def X3_markCorners_L13_j85 (N3 : Mem) (d1 : Nat) (l2 : Int32) (l3 : Int32) (l4 : Int32) (c1 : Int32) (v1 : Int32) : Option ((Int32 × Mem) ⊕ (Mem)) := bnd (v1 + 1) (fun t5 => some (.inl (t5, N3)))
def X3_markCorners_L13 (d1 : Nat) (l2 : Int32) (l3 : Int32) (l4 : Int32) (c1 : Int32) (q9 : Int32 × Mem) : Option ((Int32 × Mem) ⊕ (Mem)) := un2 q9 (fun c2 N2 => ld N2 (d1 + 3) 24 c1 (fun t1 => if t1 ≤ c2 then (some (.inr N2)) else (ld N2 (d1 + 1) 192 ((c1 * 8) + c2) (fun t2 => ld N2 (d1 + 2) 192 ((c1 * 8) + c2) (fun t3 => bd1 (X3_turnedX N2 l2 t2 t3) (fun t4 => if t4 = l3 then (bd1 (X3_turnedY N2 l2 t2 t3) (fun t6 => ld N2 16 97 t6 (fun t7 => sto N2 16 97 t6 (t7 ||| l4) (fun N4 => X3_markCorners_L13_j85 N4 d1 l2 l3 l4 c1 c2)))) else (X3_markCorners_L13_j85 N2 d1 l2 l3 l4 c1 c2)))))))
def X3_markCorners_L3 (d1 : Nat) (l2 : Int32) (l3 : Int32) (l4 : Int32) (q9 : Int32 × Mem) : Option ((Int32 × Mem) ⊕ (Mem)) := un2 q9 (fun c1 N1 => if 24 ≤ c1 then (some (.inr N1)) else (bd1 (loop (X3_markCorners_L13 d1 l2 l3 l4 c1) 3000 (0, N1)) (fun N5 => bnd (c1 + 1) (fun t8 => some (.inl (t8, N5))))))
def X3_markCorners (M : Mem) (d1 : Nat) (l2 : Int32) (l3 : Int32) (l4 : Int32) : Option (Mem) := bd1 (loop (X3_markCorners_L3 d1 l2 l3 l4) 3000 (0, M)) (fun N6 => some N6)
set_option maxHeartbeats 4000000 in
set_option maxRecDepth 100000 in
theorem X3_markCorners_L13_j85_ok (hX : Cx p s m args meth c D cA ad n A sa cX3_markCorners 9 RX3 kX3_markCorners) {N3 : Mem} {d1 : Nat} {l2 : Int32} {l3 : Int32} {l4 : Int32} {c1 : Int32} {v1 : Int32} (hd1 : DrOk n d1) {r : (Int32 × Mem) ⊕ (Mem)} (h : X3_markCorners_L13_j85 N3 d1 l2 l3 l4 c1 v1 = some r) (hin : ∀ (q0 : Int32) (Mq : Mem), r = .inl (q0, Mq) → JM 2 43 p l e s m args below meth c D cA ad n A 9 out M1 Mq 13 [(0, .ref (ad 10)), (1, .ref (ad d1)), (2, .int l2), (3, .int l3), (4, .int l4), (5, .int c1), (6, .int q0)] []) (hex0 : ∀  (Mq : Mem), r = .inr Mq → JM 2 43 p l e s m args below meth c D cA ad n A 9 out M1 Mq 91 [(0, .ref (ad 10)), (1, .ref (ad d1)), (2, .int l2), (3, .int l3), (4, .int l4), (5, .int c1)] []) : JM 2 43 p l e s m args below meth c D cA ad n A 9 out M1 N3 85 [(0, .ref (ad 10)), (1, .ref (ad d1)), (2, .int l2), (3, .int l3), (4, .int l4), (5, .int c1), (6, .int v1)] [] := by
  unfold X3_markCorners_L13_j85 at h
  obtain ⟨t5, et5, h⟩ := bnd_inv h
  refine J.iinc (q := 6) (L' := [(6, .int t5), (0, .ref (ad 10)), (1, .ref (ad d1)), (2, .int l2), (3, .int l3), (4, .int l4), (5, .int c1)]) hX 48 rfl rfl et5 (by decide) rfl ?_
  refine J.goto (tgt := 13) hX 49 rfl (by decide) ?_
  refine J.sub (L' := [(0, .ref (ad 10)), (1, .ref (ad d1)), (2, .int l2), (3, .int l3), (4, .int l4), (5, .int c1), (6, .int t5)]) [1, 2, 3, 4, 5, 6, 0] rfl ?_
  exact hin _ _ (Option.some.inj h).symm
set_option maxHeartbeats 4000000 in
set_option maxRecDepth 100000 in
theorem X3_markCorners_L13_ok (hX : Cx p s m args meth c D cA ad n A sa cX3_markCorners 9 RX3 kX3_markCorners) {N2 : Mem} {d1 : Nat} {l2 : Int32} {l3 : Int32} {l4 : Int32} {c1 : Int32} {c2 : Int32} (hd1 : DrOk n d1) {r : (Int32 × Mem) ⊕ (Mem)} (h : X3_markCorners_L13 d1 l2 l3 l4 c1 (c2, N2) = some r) (hin : ∀ (q0 : Int32) (Mq : Mem), r = .inl (q0, Mq) → JM 2 43 p l e s m args below meth c D cA ad n A 9 out M1 Mq 13 [(0, .ref (ad 10)), (1, .ref (ad d1)), (2, .int l2), (3, .int l3), (4, .int l4), (5, .int c1), (6, .int q0)] []) (hex0 : ∀  (Mq : Mem), r = .inr Mq → JM 2 43 p l e s m args below meth c D cA ad n A 9 out M1 Mq 91 [(0, .ref (ad 10)), (1, .ref (ad d1)), (2, .int l2), (3, .int l3), (4, .int l4), (5, .int c1)] []) : JM 2 43 p l e s m args below meth c D cA ad n A 9 out M1 N2 13 [(0, .ref (ad 10)), (1, .ref (ad d1)), (2, .int l2), (3, .int l3), (4, .int l4), (5, .int c1), (6, .int c2)] [] := by
  unfold X3_markCorners_L13 at h
  have h := un2_inv h
  refine J.iload hX 7 6 rfl rfl ?_
  refine J.aload_n hX 8 1 rfl rfl ?_
  refine J.getR hX 9 d1 1 hd1.lt0 hd1.s0 rfl in_wsX10 2 (by decide) w_431 rfl rfl ?_
  refine J.iload hX 10 5 rfl rfl ?_
  obtain ⟨t1, et1, hb, h⟩ := ld_inv h
  refine J.ialdN hX 11 (d1 + 3) hd1.lt3 hd1.s3 hb et1 rfl ?_
  refine J.icmp_ge (tgt := 91) hX 12 rfl (by decide) (fun b2 => ?_) (fun b2 => ?_)
  · rw [if_pos b2] at h
    refine J.sub (L' := [(0, .ref (ad 10)), (1, .ref (ad d1)), (2, .int l2), (3, .int l3), (4, .int l4), (5, .int c1)]) [0, 1, 2, 3, 4, 5] rfl ?_
    exact hex0 _ (Option.some.inj h).symm
  · rw [if_neg b2] at h
    refine J.aload_n hX 13 1 rfl rfl ?_
    refine J.getR hX 14 d1 1 hd1.lt0 hd1.s0 rfl in_wsX10 0 (by decide) w_432 rfl rfl ?_
    refine J.iload hX 15 5 rfl rfl ?_
    refine J.bipush (v := 8) hX 16 rfl (by decide) ?_
    refine J.imul hX 17 rfl ?_
    refine J.iload hX 18 6 rfl rfl ?_
    refine J.iadd hX 19 rfl ?_
    obtain ⟨t2, et2, hb, h⟩ := ld_inv h
    refine J.ialdN hX 20 (d1 + 1) hd1.lt1 hd1.s1 hb et2 rfl ?_
    refine J.istore (L' := [(7, .int t2), (0, .ref (ad 10)), (1, .ref (ad d1)), (2, .int l2), (3, .int l3), (4, .int l4), (5, .int c1), (6, .int c2)]) hX 21 rfl (by decide) rfl ?_
    refine J.aload_n hX 22 2 rfl rfl ?_
    refine J.getR hX 23 d1 1 hd1.lt0 hd1.s0 rfl in_wsX10 1 (by decide) w_433 rfl rfl ?_
    refine J.iload hX 24 6 rfl rfl ?_
    refine J.bipush (v := 8) hX 25 rfl (by decide) ?_
    refine J.imul hX 26 rfl ?_
    refine J.iload hX 27 7 rfl rfl ?_
    refine J.iadd hX 28 rfl ?_
    obtain ⟨t3, et3, hb, h⟩ := ld_inv h
    refine J.ialdN hX 29 (d1 + 2) hd1.lt2 hd1.s2 hb et3 rfl ?_
    refine J.istore (L' := [(8, .int t3), (7, .int t2), (0, .ref (ad 10)), (1, .ref (ad d1)), (2, .int l2), (3, .int l3), (4, .int l4), (5, .int c1), (6, .int c2)]) hX 30 rfl (by decide) rfl ?_
    refine J.iload_n hX 31 4 rfl rfl ?_
    refine J.iload hX 32 1 rfl rfl ?_
    refine J.iload hX 33 0 rfl rfl ?_
    obtain ⟨t4, hc, h⟩ := bd1_inv h
    refine J.callS1 (As := [.int l2, .int t2, .int t3]) (rest := []) hX 34 rfl (mX3_turnedX  hc) okX3_turnedX w_434 rfl rfl (Nat.le_of_ble_eq_true rfl) ⟨Nat.le_of_ble_eq_true rfl, Nat.le_of_ble_eq_true rfl⟩ ⟨Nat.zero_le _, Nat.zero_le _⟩ ?_
    refine J.iload_n hX 35 5 rfl rfl ?_
    refine J.icmp_ne (tgt := 85) hX 36 rfl (by decide) (fun b3 => ?_) (fun b3 => ?_)
    · rw [if_neg b3] at h
      refine J.sub (L' := [(0, .ref (ad 10)), (1, .ref (ad d1)), (2, .int l2), (3, .int l3), (4, .int l4), (5, .int c1), (6, .int c2)]) [2, 3, 4, 5, 6, 7, 8] rfl ?_
      exact X3_markCorners_L13_j85_ok hX hd1 h hin hex0
    · rw [if_pos b3] at h
      refine J.aload_n hX 37 2 rfl rfl ?_
      refine J.getR hX 38 10 3 (hX.lt (k := 10) (by decide)) sh_10 rfl in_wsX30 6 (by decide) w_53 rfl rfl ?_
      refine J.iload_n hX 39 4 rfl rfl ?_
      refine J.iload hX 40 1 rfl rfl ?_
      refine J.iload hX 41 0 rfl rfl ?_
      obtain ⟨t6, hc, h⟩ := bd1_inv h
      refine J.callS1 (As := [.int l2, .int t2, .int t3]) (rest := [.ref (ad 16)]) hX 42 rfl (mX3_turnedY  hc) okX3_turnedY w_440 rfl rfl (Nat.le_of_ble_eq_true rfl) ⟨Nat.le_of_ble_eq_true rfl, Nat.le_of_ble_eq_true rfl⟩ ⟨Nat.zero_le _, Nat.zero_le _⟩ ?_
      refine J.dup2 hX 43 rfl rfl rfl ?_
      obtain ⟨t7, et7, hb, h⟩ := ld_inv h
      refine J.ialdN hX 44 16 (hX.lt (k := 16) (by decide)) sh_16 hb et7 rfl ?_
      refine J.iload hX 45 6 rfl rfl ?_
      refine J.ior hX 46 rfl ?_
      obtain ⟨N4, eN4, hb, h⟩ := sto_inv h
      refine J.iastN hX 47 16 (hX.lt (k := 16) (by decide)) sh_16 hb eN4 rfl ?_
      refine J.sub (L' := [(0, .ref (ad 10)), (1, .ref (ad d1)), (2, .int l2), (3, .int l3), (4, .int l4), (5, .int c1), (6, .int c2)]) [2, 3, 4, 5, 6, 7, 8] rfl ?_
      exact X3_markCorners_L13_j85_ok hX hd1 h hin hex0
set_option maxHeartbeats 4000000 in
set_option maxRecDepth 100000 in
theorem X3_markCorners_L3_ok (hX : Cx p s m args meth c D cA ad n A sa cX3_markCorners 9 RX3 kX3_markCorners) {N1 : Mem} {d1 : Nat} {l2 : Int32} {l3 : Int32} {l4 : Int32} {c1 : Int32} (hd1 : DrOk n d1) {r : (Int32 × Mem) ⊕ (Mem)} (h : X3_markCorners_L3 d1 l2 l3 l4 (c1, N1) = some r) (hin : ∀ (q0 : Int32) (Mq : Mem), r = .inl (q0, Mq) → JM 2 43 p l e s m args below meth c D cA ad n A 9 out M1 Mq 3 [(0, .ref (ad 10)), (1, .ref (ad d1)), (2, .int l2), (3, .int l3), (4, .int l4), (5, .int q0)] []) (hex0 : ∀  (Mq : Mem), r = .inr Mq → JM 2 43 p l e s m args below meth c D cA ad n A 9 out M1 Mq 97 [] []) : JM 2 43 p l e s m args below meth c D cA ad n A 9 out M1 N1 3 [(0, .ref (ad 10)), (1, .ref (ad d1)), (2, .int l2), (3, .int l3), (4, .int l4), (5, .int c1)] [] := by
  unfold X3_markCorners_L3 at h
  have h := un2_inv h
  refine J.iload hX 2 5 rfl rfl ?_
  refine J.bipush (v := 24) hX 3 rfl (by decide) ?_
  refine J.icmp_ge (tgt := 97) hX 4 rfl (by decide) (fun b1 => ?_) (fun b1 => ?_)
  · rw [if_pos b1] at h
    refine J.sub (L' := []) [] rfl ?_
    exact hex0 _ (Option.some.inj h).symm
  · rw [if_neg b1] at h
    refine J.iconst (v := 0) hX 5 rfl (by decide) ?_
    refine J.istore (L' := [(6, .int 0), (0, .ref (ad 10)), (1, .ref (ad d1)), (2, .int l2), (3, .int l3), (4, .int l4), (5, .int c1)]) hX 6 rfl (by decide) rfl ?_
    refine J.sub (L' := [(0, .ref (ad 10)), (1, .ref (ad d1)), (2, .int l2), (3, .int l3), (4, .int l4), (5, .int c1), (6, .int 0)]) [1, 2, 3, 4, 5, 6, 0] rfl ?_
    obtain ⟨N5, hlp, h⟩ := bd1_inv h
    suffices hE : JM 2 43 p l e s m args below meth c D cA ad n A 9 out M1 N5 91 [(0, .ref (ad 10)), (1, .ref (ad d1)), (2, .int l2), (3, .int l3), (4, .int l4), (5, .int c1)] [] by
      exact loop_ok (fun q9 : Int32 × Mem => JM 2 43 p l e s m args below meth c D cA ad n A 9 out M1 q9.2 13 [(0, .ref (ad 10)), (1, .ref (ad d1)), (2, .int l2), (3, .int l3), (4, .int l4), (5, .int c1), (6, .int q9.1)] []) (fun q9 r hB hst hex9 => X3_markCorners_L13_ok hX hd1 hB (fun _ _ hr => hst _ hr) (fun _ hr => by cases hex9 _ hr; exact hE)) 3000 _ hlp
    obtain ⟨t8, et8, h⟩ := bnd_inv h
    refine J.iinc (q := 5) (L' := [(5, .int t8), (0, .ref (ad 10)), (1, .ref (ad d1)), (2, .int l2), (3, .int l3), (4, .int l4)]) hX 50 rfl rfl et8 (by decide) rfl ?_
    refine J.goto (tgt := 3) hX 51 rfl (by decide) ?_
    refine J.sub (L' := [(0, .ref (ad 10)), (1, .ref (ad d1)), (2, .int l2), (3, .int l3), (4, .int l4), (5, .int t8)]) [1, 2, 3, 4, 5, 0] rfl ?_
    exact hin _ _ (Option.some.inj h).symm
set_option maxHeartbeats 4000000 in
set_option maxRecDepth 100000 in
theorem mX3_markCorners {l : Launch} {D : va_G} {cA : Nat → ClassId} {ad : Nat → Nat} {n : Nat} {A : Nat → Prop} {sa : Nat → Nat} {M : Mem} {d1 : Nat} {l2 : Int32} {l3 : Int32} {l4 : Int32} {Mf : Mem} (hd1 : DrOk n d1) (h : X3_markCorners M d1 l2 l3 l4 = some Mf) : CT l D cA ad n A sa yX3_markCorners cX3_markCorners 9 none 2 43 [.ref (ad 10), .ref (ad d1), .int l2, .int l3, .int l4] M (.inl none) Mf := by
  refine CT.of (kt := kX3_markCorners) (by decide) kX3_markCorners_ok (Nat.le_of_ble_eq_true rfl) ?_
  intro p e s m args below meth c hX hr ht
  unfold X3_markCorners at h
  refine J.sub (L' := [(0, .ref (ad 10)), (1, .ref (ad d1)), (2, .int l2), (3, .int l3), (4, .int l4)]) [0, 1, 2, 3, 4] rfl ?_
  refine J.iconst (v := 0) hX 0 rfl (by decide) ?_
  refine J.istore (L' := [(5, .int 0), (0, .ref (ad 10)), (1, .ref (ad d1)), (2, .int l2), (3, .int l3), (4, .int l4)]) hX 1 rfl (by decide) rfl ?_
  refine J.sub (L' := [(0, .ref (ad 10)), (1, .ref (ad d1)), (2, .int l2), (3, .int l3), (4, .int l4), (5, .int 0)]) [1, 2, 3, 4, 5, 0] rfl ?_
  obtain ⟨N6, hlp, h⟩ := bd1_inv h
  suffices hE : JM 2 43 p l e s m args below meth c D cA ad n A 9 (.inl none) Mf N6 97 [] [] by
    exact loop_ok (fun q9 : Int32 × Mem => JM 2 43 p l e s m args below meth c D cA ad n A 9 (.inl none) Mf q9.2 3 [(0, .ref (ad 10)), (1, .ref (ad d1)), (2, .int l2), (3, .int l3), (4, .int l4), (5, .int q9.1)] []) (fun q9 r hB hst hex9 => X3_markCorners_L3_ok hX hd1 hB (fun _ _ hr => hst _ hr) (fun _ hr => by cases hex9 _ hr; exact hE)) 3000 _ hlp
  cases h
  exact J.vret hX hr 52 rfl
def X3_unmatchedCorners_L67_j99 (n : Nat) (N6 : Mem) (v3 : Int32) (v4 : Int32) : Option ((Int32 × Int32) ⊕ (Int32)) := bnd (v4 + 1) (fun t7 => some (.inl (v3, t7)))
def X3_unmatchedCorners_L67_j96 (n : Nat) (N5 : Mem) (v1 : Int32) (v2 : Int32) : Option ((Int32 × Int32) ⊕ (Int32)) := bnd (v1 + 1) (fun t6 => X3_unmatchedCorners_L67_j99 n N5 t6 v2)
def X3_unmatchedCorners_L67 (n : Nat) (N4 : Mem) (q9 : Int32 × Int32) : Option ((Int32 × Int32) ⊕ (Int32)) := un2 q9 (fun c1 c2 => if 96 < c2 then (some (.inr c1)) else (ld N4 16 97 c2 (fun t5 => if t5 = 1 then (X3_unmatchedCorners_L67_j96 n N4 c1 c2) else (ld N4 16 97 c2 (fun t8 => if t8 = 2 then (X3_unmatchedCorners_L67_j96 n N4 c1 c2) else (X3_unmatchedCorners_L67_j99 n N4 c1 c2))))))
def X3_unmatchedCorners (n : Nat) (M : Mem) (l1 : Int32) : Option (Int32 × Mem) := bd1 (X3_blockAt n M l1) (fun t1 => bd1 (X3_blockAt n M (l1 + 1)) (fun t2 => if t1 = 0 then (some ((-1), M)) else (if t2 = 0 then (some ((-1), M)) else (bd1 (J7_fill_53178 M 16 97 0) (fun N1 => chk (drok n t1) (ld N1 13 36 l1 (fun t3 => bd1 (X3_markCorners N1 (t1.toNatClampNeg) t3 96 1) (fun N2 => chk (drok n t2) (ld N2 13 36 (l1 + 1) (fun t4 => bd1 (X3_markCorners N2 (t2.toNatClampNeg) t4 0 2) (fun N3 => bd1 (loop (X3_unmatchedCorners_L67 n N3) 3000 (0, 0)) (fun x1 => some (x1, N3)))))))))))))
set_option maxHeartbeats 4000000 in
set_option maxRecDepth 100000 in
theorem X3_unmatchedCorners_L67_j99_ok (hX : Cx p s m args meth c D cA ad n A sa cX3_unmatchedCorners 6 RX3 kX3_unmatchedCorners) {N6 : Mem} {v3 : Int32} {v4 : Int32}  {r : (Int32 × Int32) ⊕ (Int32)} (h : X3_unmatchedCorners_L67_j99 n N6 v3 v4 = some r) (hin : ∀ (q0 : Int32) (q1 : Int32), r = .inl (q0, q1) → JM 3 71 p l e s m args below meth c D cA ad n A 6 out M1 N6 67 [(0, .ref (ad 10)), (4, .int q0), (5, .int q1)] []) (hex0 : ∀ (q0 : Int32), r = .inr q0 → JM 3 71 p l e s m args below meth c D cA ad n A 6 out M1 N6 105 [(4, .int q0)] []) : JM 3 71 p l e s m args below meth c D cA ad n A 6 out M1 N6 99 [(0, .ref (ad 10)), (4, .int v3), (5, .int v4)] [] := by
  unfold X3_unmatchedCorners_L67_j99 at h
  obtain ⟨t7, et7, h⟩ := bnd_inv h
  refine J.iinc (q := 2) (L' := [(5, .int t7), (0, .ref (ad 10)), (4, .int v3)]) hX 60 rfl rfl et7 (by decide) rfl ?_
  refine J.goto (tgt := 67) hX 61 rfl (by decide) ?_
  refine J.sub (L' := [(0, .ref (ad 10)), (4, .int v3), (5, .int t7)]) [1, 2, 0] rfl ?_
  exact hin _ _ (Option.some.inj h).symm
set_option maxHeartbeats 4000000 in
set_option maxRecDepth 100000 in
theorem X3_unmatchedCorners_L67_j96_ok (hX : Cx p s m args meth c D cA ad n A sa cX3_unmatchedCorners 6 RX3 kX3_unmatchedCorners) {N5 : Mem} {v1 : Int32} {v2 : Int32}  {r : (Int32 × Int32) ⊕ (Int32)} (h : X3_unmatchedCorners_L67_j96 n N5 v1 v2 = some r) (hin : ∀ (q0 : Int32) (q1 : Int32), r = .inl (q0, q1) → JM 3 71 p l e s m args below meth c D cA ad n A 6 out M1 N5 67 [(0, .ref (ad 10)), (4, .int q0), (5, .int q1)] []) (hex0 : ∀ (q0 : Int32), r = .inr q0 → JM 3 71 p l e s m args below meth c D cA ad n A 6 out M1 N5 105 [(4, .int q0)] []) : JM 3 71 p l e s m args below meth c D cA ad n A 6 out M1 N5 96 [(0, .ref (ad 10)), (4, .int v1), (5, .int v2)] [] := by
  unfold X3_unmatchedCorners_L67_j96 at h
  obtain ⟨t6, et6, h⟩ := bnd_inv h
  refine J.iinc (q := 1) (L' := [(4, .int t6), (0, .ref (ad 10)), (5, .int v2)]) hX 59 rfl rfl et6 (by decide) rfl ?_
  refine J.sub (L' := [(0, .ref (ad 10)), (4, .int t6), (5, .int v2)]) [1, 0, 2] rfl ?_
  exact X3_unmatchedCorners_L67_j99_ok hX  h hin hex0
set_option maxHeartbeats 4000000 in
set_option maxRecDepth 100000 in
theorem X3_unmatchedCorners_L67_ok (hX : Cx p s m args meth c D cA ad n A sa cX3_unmatchedCorners 6 RX3 kX3_unmatchedCorners) {N4 : Mem}  {c1 : Int32} {c2 : Int32}  {r : (Int32 × Int32) ⊕ (Int32)} (h : X3_unmatchedCorners_L67 n N4 (c1, c2) = some r) (hin : ∀ (q0 : Int32) (q1 : Int32), r = .inl (q0, q1) → JM 3 71 p l e s m args below meth c D cA ad n A 6 out M1 N4 67 [(0, .ref (ad 10)), (4, .int q0), (5, .int q1)] []) (hex0 : ∀ (q0 : Int32), r = .inr q0 → JM 3 71 p l e s m args below meth c D cA ad n A 6 out M1 N4 105 [(4, .int q0)] []) : JM 3 71 p l e s m args below meth c D cA ad n A 6 out M1 N4 67 [(0, .ref (ad 10)), (4, .int c1), (5, .int c2)] [] := by
  unfold X3_unmatchedCorners_L67 at h
  have h := un2_inv h
  refine J.iload hX 44 2 rfl rfl ?_
  refine J.bipush (v := 96) hX 45 rfl (by decide) ?_
  refine J.icmp_gt (tgt := 105) hX 46 rfl (by decide) (fun b3 => ?_) (fun b3 => ?_)
  · rw [if_pos b3] at h
    refine J.sub (L' := [(4, .int c1)]) [1] rfl ?_
    exact hex0 _ (Option.some.inj h).symm
  · rw [if_neg b3] at h
    refine J.aload_n hX 47 0 rfl rfl ?_
    refine J.getR hX 48 10 3 (hX.lt (k := 10) (by decide)) sh_10 rfl in_wsX30 6 (by decide) w_53 rfl rfl ?_
    refine J.iload hX 49 2 rfl rfl ?_
    obtain ⟨t5, et5, hb, h⟩ := ld_inv h
    refine J.ialdN hX 50 16 (hX.lt (k := 16) (by decide)) sh_16 hb et5 rfl ?_
    refine J.iconst (v := 1) hX 51 rfl (by decide) ?_
    refine J.icmp_eq (tgt := 96) hX 52 rfl (by decide) (fun b4 => ?_) (fun b4 => ?_)
    · rw [if_pos b4] at h
      refine J.sub (L' := [(0, .ref (ad 10)), (4, .int c1), (5, .int c2)]) [0, 1, 2] rfl ?_
      exact X3_unmatchedCorners_L67_j96_ok hX  h hin hex0
    · rw [if_neg b4] at h
      refine J.aload_n hX 53 0 rfl rfl ?_
      refine J.getR hX 54 10 3 (hX.lt (k := 10) (by decide)) sh_10 rfl in_wsX30 6 (by decide) w_53 rfl rfl ?_
      refine J.iload hX 55 2 rfl rfl ?_
      obtain ⟨t8, et8, hb, h⟩ := ld_inv h
      refine J.ialdN hX 56 16 (hX.lt (k := 16) (by decide)) sh_16 hb et8 rfl ?_
      refine J.iconst (v := 2) hX 57 rfl (by decide) ?_
      refine J.icmp_ne (tgt := 99) hX 58 rfl (by decide) (fun b5 => ?_) (fun b5 => ?_)
      · rw [if_neg b5] at h
        refine J.sub (L' := [(0, .ref (ad 10)), (4, .int c1), (5, .int c2)]) [0, 1, 2] rfl ?_
        exact X3_unmatchedCorners_L67_j99_ok hX  h hin hex0
      · rw [if_pos b5] at h
        refine J.sub (L' := [(0, .ref (ad 10)), (4, .int c1), (5, .int c2)]) [0, 1, 2] rfl ?_
        exact X3_unmatchedCorners_L67_j96_ok hX  h hin hex0
set_option maxHeartbeats 4000000 in
set_option maxRecDepth 100000 in
theorem mX3_unmatchedCorners {l : Launch} {D : va_G} {cA : Nat → ClassId} {ad : Nat → Nat} {n : Nat} {A : Nat → Prop} {sa : Nat → Nat} {M : Mem} {l1 : Int32} {r : Int32} {Mf : Mem} (h : X3_unmatchedCorners n M l1 = some (r, Mf)) : CT l D cA ad n A sa yX3_unmatchedCorners cX3_unmatchedCorners 6 (some .int) 3 71 [.ref (ad 10), .int l1] M (.inl (some (.int r))) Mf := by
  refine CT.of (kt := kX3_unmatchedCorners) (by decide) kX3_unmatchedCorners_ok (Nat.le_of_ble_eq_true rfl) ?_
  intro p e s m args below meth c hX hr ht
  unfold X3_unmatchedCorners at h
  refine J.sub (L' := [(0, .ref (ad 10)), (1, .int l1)]) [0, 1] rfl ?_
  refine J.aload_n hX 0 0 rfl rfl ?_
  refine J.iload_n hX 1 1 rfl rfl ?_
  obtain ⟨t1, hc, h⟩ := bd1_inv h
  refine J.callV1 (As := [.int l1]) (rest := []) (k := 10) hX 2 rfl (mX3_blockAt  hc) okX3_blockAt w_423 (hX.lt (k := 10) (by decide)) sh_10 rfl rfl rfl (Nat.le_of_ble_eq_true rfl) ⟨Nat.le_of_ble_eq_true rfl, Nat.le_of_ble_eq_true rfl⟩ ⟨Nat.zero_le _, Nat.zero_le _⟩ ?_
  refine J.astoreQ_n (L' := [(2, va_rf (dec ad t1)), (0, .ref (ad 10)), (1, .int l1)]) hX 3 rfl (by decide) rfl ?_
  refine J.aload_n hX 4 1 rfl rfl ?_
  refine J.iload_n hX 5 2 rfl rfl ?_
  refine J.iconst (v := 1) hX 6 rfl (by decide) ?_
  refine J.iadd hX 7 rfl ?_
  obtain ⟨t2, hc, h⟩ := bd1_inv h
  refine J.callV1 (As := [.int (l1 + 1)]) (rest := []) (k := 10) hX 8 rfl (mX3_blockAt  hc) okX3_blockAt w_423 (hX.lt (k := 10) (by decide)) sh_10 rfl rfl rfl (Nat.le_of_ble_eq_true rfl) ⟨Nat.le_of_ble_eq_true rfl, Nat.le_of_ble_eq_true rfl⟩ ⟨Nat.zero_le _, Nat.zero_le _⟩ ?_
  refine J.astoreQ_n (L' := [(3, va_rf (dec ad t2)), (2, va_rf (dec ad t1)), (0, .ref (ad 10)), (1, .int l1)]) hX 9 rfl (by decide) (by first | rfl | (simp only [List.filter, cat_rf]; done) | (simp only [List.filter, cat_rf]; rfl)) ?_
  refine J.aloadQn hX 10 1 rfl rfl ?_
  refine J.ifnull (tgt := 22) hX 11 rfl (by decide) (fun b1 => ?_) (fun b1 => ?_)
  · rw [if_pos b1] at h
    refine J.iconst (v := (-1)) hX 14 rfl (by decide) ?_
    cases h
    exact J.iret hX hr 15 rfl
  · rw [if_neg b1] at h
    refine J.aloadQn hX 12 0 rfl rfl ?_
    refine J.ifnonnull (tgt := 24) hX 13 rfl (by decide) (fun b2 => ?_) (fun b2 => ?_)
    · rw [if_neg b2] at h
      refine J.aload_n hX 16 2 rfl rfl ?_
      refine J.getR hX 17 10 3 (hX.lt (k := 10) (by decide)) sh_10 rfl in_wsX30 6 (by decide) w_53 rfl rfl ?_
      refine J.iconst (v := 0) hX 18 rfl (by decide) ?_
      obtain ⟨N1, hc, h⟩ := bd1_inv h
      refine J.callS0 (As := [.ref (ad 16), .int 0]) (rest := []) hX 19 rfl (mJ7_fill_53178 (hX.lt (k := 16) (by decide)) sh_16 hc) okJ7_fill_53178 w_54 rfl rfl (Nat.le_of_ble_eq_true rfl) ⟨Nat.le_of_ble_eq_true rfl, Nat.le_of_ble_eq_true rfl⟩ ⟨Nat.zero_le _, Nat.zero_le _⟩ ?_
      refine J.aload_n hX 20 2 rfl rfl ?_
      obtain ⟨hdt1, h⟩ := chk_inv h
      have hdt1 := drok_ok hdt1
      refine J.aloadQn hX 21 1 rfl rfl ?_
      refine J.isref b1 ?_
      refine J.aload_n hX 22 2 rfl rfl ?_
      refine J.getR hX 23 10 3 (hX.lt (k := 10) (by decide)) sh_10 rfl in_wsX30 3 (by decide) w_50 rfl rfl ?_
      refine J.iload_n hX 24 3 rfl rfl ?_
      obtain ⟨t3, et3, hb, h⟩ := ld_inv h
      refine J.ialdN hX 25 13 (hX.lt (k := 13) (by decide)) sh_13 hb et3 rfl ?_
      refine J.bipush (v := 96) hX 26 rfl (by decide) ?_
      refine J.iconst (v := 1) hX 27 rfl (by decide) ?_
      obtain ⟨N2, hc, h⟩ := bd1_inv h
      refine J.callV0 (As := [.ref (ad t1.toNatClampNeg), .int t3, .int 96, .int 1]) (rest := []) (k := 10) hX 28 rfl (mX3_markCorners hdt1 hc) okX3_markCorners w_427 (hX.lt (k := 10) (by decide)) sh_10 rfl rfl rfl (Nat.le_of_ble_eq_true rfl) ⟨Nat.le_of_ble_eq_true rfl, Nat.le_of_ble_eq_true rfl⟩ ⟨Nat.zero_le _, Nat.zero_le _⟩ ?_
      refine J.aload_n hX 29 2 rfl rfl ?_
      obtain ⟨hdt2, h⟩ := chk_inv h
      have hdt2 := drok_ok hdt2
      refine J.aloadQn hX 30 0 rfl rfl ?_
      refine J.isref b2 ?_
      refine J.aload_n hX 31 2 rfl rfl ?_
      refine J.getR hX 32 10 3 (hX.lt (k := 10) (by decide)) sh_10 rfl in_wsX30 3 (by decide) w_50 rfl rfl ?_
      refine J.iload_n hX 33 3 rfl rfl ?_
      refine J.iconst (v := 1) hX 34 rfl (by decide) ?_
      refine J.iadd hX 35 rfl ?_
      obtain ⟨t4, et4, hb, h⟩ := ld_inv h
      refine J.ialdN hX 36 13 (hX.lt (k := 13) (by decide)) sh_13 hb et4 rfl ?_
      refine J.iconst (v := 0) hX 37 rfl (by decide) ?_
      refine J.iconst (v := 2) hX 38 rfl (by decide) ?_
      obtain ⟨N3, hc, h⟩ := bd1_inv h
      refine J.callV0 (As := [.ref (ad t2.toNatClampNeg), .int t4, .int 0, .int 2]) (rest := []) (k := 10) hX 39 rfl (mX3_markCorners hdt2 hc) okX3_markCorners w_427 (hX.lt (k := 10) (by decide)) sh_10 rfl rfl rfl (Nat.le_of_ble_eq_true rfl) ⟨Nat.le_of_ble_eq_true rfl, Nat.le_of_ble_eq_true rfl⟩ ⟨Nat.zero_le _, Nat.zero_le _⟩ ?_
      refine J.iconst (v := 0) hX 40 rfl (by decide) ?_
      refine J.istore (L' := [(4, .int 0), (3, va_rf (dec ad t2)), (2, va_rf (dec ad t1)), (0, .ref (ad 10)), (1, .int l1)]) hX 41 rfl (by decide) (by first | rfl | (simp only [List.filter, cat_rf]; done) | (simp only [List.filter, cat_rf]; rfl)) ?_
      refine J.iconst (v := 0) hX 42 rfl (by decide) ?_
      refine J.istore (L' := [(5, .int 0), (4, .int 0), (3, va_rf (dec ad t2)), (2, va_rf (dec ad t1)), (0, .ref (ad 10)), (1, .int l1)]) hX 43 rfl (by decide) (by first | rfl | (simp only [List.filter, cat_rf]; done) | (simp only [List.filter, cat_rf]; rfl)) ?_
      refine J.sub (L' := [(0, .ref (ad 10)), (4, .int 0), (5, .int 0)]) [4, 1, 0] rfl ?_
      obtain ⟨x1, hlp, h⟩ := bd1_inv h
      suffices hE : JM 3 71 p l e s m args below meth c D cA ad n A 6 (.inl (some (.int r))) Mf N3 105 [(4, .int x1)] [] by
        exact loop_ok (fun q9 : Int32 × Int32 => JM 3 71 p l e s m args below meth c D cA ad n A 6 (.inl (some (.int r))) Mf N3 67 [(0, .ref (ad 10)), (4, .int q9.1), (5, .int q9.2)] []) (fun q9 r hB hst hex9 => X3_unmatchedCorners_L67_ok hX  hB (fun _ _ hr => hst _ hr) (fun _ hr => by cases hex9 _ hr; exact hE)) 3000 _ hlp
      refine J.iload hX 62 0 rfl rfl ?_
      cases h
      exact J.iret hX hr 63 rfl
    · rw [if_pos b2] at h
      refine J.iconst (v := (-1)) hX 14 rfl (by decide) ?_
      cases h
      exact J.iret hX hr 15 rfl
end G15
