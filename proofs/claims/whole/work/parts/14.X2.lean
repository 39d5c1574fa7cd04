section G14
variable {p : Program} {l : Launch} {e : Env} {s : State} {m : MethodId} {args : Array Value} {below : List Frame} {meth : Method} {c : Code} {D : va_G} {cA : Nat → ClassId} {ad : Nat → Nat} {n : Nat} {A : Nat → Prop} {sa : Nat → Nat} {out : Option Value ⊕ String} {M1 : Mem}
def X2_putWaiting_j17 (N1 : Mem) (l1 : Int32) : Option (Int32 × Mem) := some (l1, N1)
def X2_putWaiting (M : Mem) (l1 : Int32) (l2 : Int32) : Option (Int32 × Mem) := bd1 (J6_bitCount_0f7a4 M l2) (fun t1 => if t1 < 2 then (X2_putWaiting_j17 M l1) else (if l1 < (Int32.ofNat 24) then (sto M 7 24 l1 l2 (fun N2 => some ((l1 + 1), N2))) else (X2_putWaiting_j17 M l1)))
set_option maxHeartbeats 4000000 in
set_option maxRecDepth 100000 in
theorem X2_putWaiting_j17_ok (hX : Cx p s m args meth c D cA ad n A sa cX2_putWaiting 3 RX2 kX2_putWaiting) {N1 : Mem} {l1 : Int32} {r : Int32} {Mf : Mem}  (hr : meth.sig.returnType = (some .int)) (ht : ∀ x ∈ c.exceptionTable.toList, False) (h : X2_putWaiting_j17 N1 l1 = some (r, Mf)) : JM 1 20 p l e s m args below meth c D cA ad n A 3 (.inl (some (.int r))) Mf N1 17 [(1, .int l1)] [] := by
  unfold X2_putWaiting_j17 at h
  refine J.iload_n hX 9 0 rfl rfl ?_
  cases h
  exact J.iret hX hr 10 rfl
set_option maxHeartbeats 4000000 in
set_option maxRecDepth 100000 in
theorem mX2_putWaiting {l : Launch} {D : va_G} {cA : Nat → ClassId} {ad : Nat → Nat} {n : Nat} {A : Nat → Prop} {sa : Nat → Nat} {M : Mem} {l1 : Int32} {l2 : Int32} {r : Int32} {Mf : Mem} (h : X2_putWaiting M l1 l2 = some (r, Mf)) : CT l D cA ad n A sa yX2_putWaiting cX2_putWaiting 3 (some .int) 1 20 [.ref (ad 6), .int l1, .int l2] M (.inl (some (.int r))) Mf := by
  refine CT.of (kt := kX2_putWaiting) (by decide) kX2_putWaiting_ok (Nat.le_of_ble_eq_true rfl) ?_
  intro p e s m args below meth c hX hr ht
  unfold X2_putWaiting at h
  refine J.sub (L' := [(0, .ref (ad 6)), (1, .int l1), (2, .int l2)]) [0, 1, 2] rfl ?_
  refine J.iload_n hX 0 2 rfl rfl ?_
  obtain ⟨t1, hc, h⟩ := bd1_inv h
  refine J.callS1 (As := [.int l2]) (rest := []) hX 1 rfl (mJ6_bitCount_0f7a4  hc) okJ6_bitCount_0f7a4 w_314 rfl rfl (Nat.le_of_ble_eq_true rfl) ⟨Nat.le_of_ble_eq_true rfl, Nat.le_of_ble_eq_true rfl⟩ ⟨Nat.zero_le _, Nat.zero_le _⟩ ?_
  refine J.iconst (v := 2) hX 2 rfl (by decide) ?_
  refine J.icmp_lt (tgt := 17) hX 3 rfl (by decide) (fun b1 => ?_) (fun b1 => ?_)
  · rw [if_pos b1] at h
    refine J.sub (L' := [(1, .int l1)]) [1] rfl ?_
    exact X2_putWaiting_j17_ok hX  hr ht h
  · rw [if_neg b1] at h
    refine J.iload_n hX 4 1 rfl rfl ?_
    refine J.aload_n hX 5 0 rfl rfl ?_
    refine J.getR hX 6 6 2 (hX.lt (k := 6) (by decide)) sh_6 rfl in_wsX20 0 (by decide) w_40 rfl rfl ?_
    refine J.alen (v := Int32.ofNat 24) hX 7 7 (hX.lt (k := 7) (by decide)) sh_7 rfl rfl ?_
    refine J.icmp_lt (tgt := 19) hX 8 rfl (by decide) (fun b2 => ?_) (fun b2 => ?_)
    · rw [if_pos b2] at h
      refine J.aload_n hX 11 0 rfl rfl ?_
      refine J.getR hX 12 6 2 (hX.lt (k := 6) (by decide)) sh_6 rfl in_wsX20 0 (by decide) w_40 rfl rfl ?_
      refine J.iload_n hX 13 1 rfl rfl ?_
      refine J.iload_n hX 14 2 rfl rfl ?_
      obtain ⟨N2, eN2, hb, h⟩ := sto_inv h
      refine J.iastN hX 15 7 (hX.lt (k := 7) (by decide)) sh_7 hb eN2 rfl ?_
      refine J.iload_n hX 16 1 rfl rfl ?_
      refine J.iconst (v := 1) hX 17 rfl (by decide) ?_
      refine J.iadd hX 18 rfl ?_
      cases h
      exact J.iret hX hr 19 rfl
    · rw [if_neg b2] at h
      refine J.sub (L' := [(1, .int l1)]) [1] rfl ?_
      exact X2_putWaiting_j17_ok hX  hr ht h
def X2_leftPart_L6_j63 (M : Mem) (d1 : Nat) (l2 : Int32) (l3 : Int32) (v1 : Int32) (v2 : Int32) : Option ((Int32 × Int32) ⊕ ((Int32) ⊕ (Unit))) := bnd (v2 + 1) (fun t2 => some (.inl (v1, t2)))
def X2_leftPart_L6 (M : Mem) (d1 : Nat) (l2 : Int32) (l3 : Int32) (q9 : Int32 × Int32) : Option ((Int32 × Int32) ⊕ ((Int32) ⊕ (Unit))) := un2 q9 (fun c1 c2 => if 24 ≤ c2 then (some (.inr (.inl c1))) else (if ((l2 >>> (c2 &&& 31)) &&& 1) = 0 then (X2_leftPart_L6_j63 M d1 l2 l3 c1 c2) else (bd1 (X1_sideOf M d1 (l3 / 8) (l3 - l3 / 8 * 8) c2) (fun t1 => if t1 = 0 then (some (.inr (.inr ()))) else (if t1 = 1 then (bnd ((c1 ||| (1 <<< (c2 &&& 31)))) (fun t3 => X2_leftPart_L6_j63 M d1 l2 l3 t3 c2)) else (X2_leftPart_L6_j63 M d1 l2 l3 c1 c2))))))
def X2_leftPart (M : Mem) (d1 : Nat) (l2 : Int32) (l3 : Int32) : Option (Int32) := bdS (loop (X2_leftPart_L6 M d1 l2 l3) 3000 (0, 0)) (fun a9 => un1 a9 (fun x1 => some x1)) (fun a9 => un0 a9 (some 0))
set_option maxHeartbeats 4000000 in
set_option maxRecDepth 100000 in
theorem X2_leftPart_L6_j63_ok (hX : Cx p s m args meth c D cA ad n A sa cX2_leftPart 7 RX2 kX2_leftPart) {M : Mem} {d1 : Nat} {l2 : Int32} {l3 : Int32} {v1 : Int32} {v2 : Int32} (hd1 : DrOk n d1) {r : (Int32 × Int32) ⊕ ((Int32) ⊕ (Unit))} (h : X2_leftPart_L6_j63 M d1 l2 l3 v1 v2 = some r) (hin : ∀ (q0 : Int32) (q1 : Int32), r = .inl (q0, q1) → JM 2 52 p l e s m args below meth c D cA ad n A 7 out M1 M 6 [(1, .ref (ad d1)), (2, .int l2), (3, .int l3), (4, .int q0), (5, .int q1)] []) (hex0 : ∀ (q0 : Int32), r = .inr (.inl q0) → JM 2 52 p l e s m args below meth c D cA ad n A 7 out M1 M 69 [(4, .int q0)] []) (hex1 : r = .inr (.inr ()) → JM 2 52 p l e s m args below meth c D cA ad n A 7 out M1 M 46 [] []) : JM 2 52 p l e s m args below meth c D cA ad n A 7 out M1 M 63 [(1, .ref (ad d1)), (2, .int l2), (3, .int l3), (4, .int v1), (5, .int v2)] [] := by
  unfold X2_leftPart_L6_j63 at h
  obtain ⟨t2, et2, h⟩ := bnd_inv h
  refine J.iinc (q := 4) (L' := [(5, .int t2), (1, .ref (ad d1)), (2, .int l2), (3, .int l3), (4, .int v1)]) hX 37 rfl rfl et2 (by decide) rfl ?_
  refine J.goto (tgt := 6) hX 38 rfl (by decide) ?_
  refine J.sub (L' := [(1, .ref (ad d1)), (2, .int l2), (3, .int l3), (4, .int v1), (5, .int t2)]) [1, 2, 3, 4, 0] rfl ?_
  exact hin _ _ (Option.some.inj h).symm
set_option maxHeartbeats 4000000 in
set_option maxRecDepth 100000 in
theorem X2_leftPart_L6_ok (hX : Cx p s m args meth c D cA ad n A sa cX2_leftPart 7 RX2 kX2_leftPart) {M : Mem} {d1 : Nat} {l2 : Int32} {l3 : Int32} {c1 : Int32} {c2 : Int32} (hd1 : DrOk n d1) {r : (Int32 × Int32) ⊕ ((Int32) ⊕ (Unit))} (h : X2_leftPart_L6 M d1 l2 l3 (c1, c2) = some r) (hin : ∀ (q0 : Int32) (q1 : Int32), r = .inl (q0, q1) → JM 2 52 p l e s m args below meth c D cA ad n A 7 out M1 M 6 [(1, .ref (ad d1)), (2, .int l2), (3, .int l3), (4, .int q0), (5, .int q1)] []) (hex0 : ∀ (q0 : Int32), r = .inr (.inl q0) → JM 2 52 p l e s m args below meth c D cA ad n A 7 out M1 M 69 [(4, .int q0)] []) (hex1 : r = .inr (.inr ()) → JM 2 52 p l e s m args below meth c D cA ad n A 7 out M1 M 46 [] []) : JM 2 52 p l e s m args below meth c D cA ad n A 7 out M1 M 6 [(1, .ref (ad d1)), (2, .int l2), (3, .int l3), (4, .int c1), (5, .int c2)] [] := by
  unfold X2_leftPart_L6 at h
  have h := un2_inv h
  refine J.iload hX 4 4 rfl rfl ?_
  refine J.bipush (v := 24) hX 5 rfl (by decide) ?_
  refine J.icmp_ge (tgt := 69) hX 6 rfl (by decide) (fun b1 => ?_) (fun b1 => ?_)
  · rw [if_pos b1] at h
    refine J.sub (L' := [(4, .int c1)]) [3] rfl ?_
    exact hex0 _ (Option.some.inj h).symm
  · rw [if_neg b1] at h
    refine J.iload_n hX 7 1 rfl rfl ?_
    refine J.iload hX 8 4 rfl rfl ?_
    refine J.ishr hX 9 rfl ?_
    refine J.iconst (v := 1) hX 10 rfl (by decide) ?_
    refine J.iand hX 11 rfl ?_
    refine J.if_ne (tgt := 25) hX 12 rfl (by decide) (fun b2 => ?_) (fun b2 => ?_)
    · rw [if_neg b2] at h
      refine J.aload_n hX 14 0 rfl rfl ?_
      refine J.iload_n hX 15 2 rfl rfl ?_
      refine J.bipush (v := 8) hX 16 rfl (by decide) ?_
      refine J.idiv hX 17 rfl (by decide) ?_
      refine J.iload_n hX 18 2 rfl rfl ?_
      refine J.bipush (v := 8) hX 19 rfl (by decide) ?_
      refine J.irem hX 20 rfl (by decide) ?_
      refine J.iload hX 21 4 rfl rfl ?_
      obtain ⟨t1, hc, h⟩ := bd1_inv h
      refine J.callV1 (As := [.int (l3 / 8), .int (l3 - l3 / 8 * 8), .int c2]) (rest := []) (k := d1) hX 22 rfl (mX1_sideOf hd1 hc) okX1_sideOf w_324 hd1.lt0 hd1.s0 rfl rfl rfl (Nat.le_of_ble_eq_true rfl) ⟨Nat.le_of_ble_eq_true rfl, Nat.le_of_ble_eq_true rfl⟩ ⟨Nat.zero_le _, Nat.zero_le _⟩ ?_
      refine J.istore (L' := [(6, .int t1), (1, .ref (ad d1)), (2, .int l2), (3, .int l3), (4, .int c1), (5, .int c2)]) hX 23 rfl (by decide) rfl ?_
      refine J.iload hX 24 0 rfl rfl ?_
      refine J.if_ne (tgt := 48) hX 25 rfl (by decide) (fun b3 => ?_) (fun b3 => ?_)
      · rw [if_neg b3] at h
        refine J.iload hX 28 0 rfl rfl ?_
        refine J.iconst (v := 1) hX 29 rfl (by decide) ?_
        refine J.icmp_ne (tgt := 63) hX 30 rfl (by decide) (fun b4 => ?_) (fun b4 => ?_)
        · rw [if_neg b4] at h
          refine J.sub (L' := [(1, .ref (ad d1)), (2, .int l2), (3, .int l3), (4, .int c1), (5, .int c2)]) [1, 2, 3, 4, 5] rfl ?_
          exact X2_leftPart_L6_j63_ok hX hd1 h hin hex0 hex1
        · rw [if_pos b4] at h
          refine J.iload hX 31 4 rfl rfl ?_
          refine J.iconst (v := 1) hX 32 rfl (by decide) ?_
          refine J.iload hX 33 5 rfl rfl ?_
          refine J.ishl hX 34 rfl ?_
          refine J.ior hX 35 rfl ?_
          obtain ⟨t3, et3, h⟩ := bnd_inv h
          refine J.nm et3 ?_
          refine J.istore (L' := [(4, .int t3), (6, .int t1), (1, .ref (ad d1)), (2, .int l2), (3, .int l3), (5, .int c2)]) hX 36 rfl (by decide) rfl ?_
          refine J.sub (L' := [(1, .ref (ad d1)), (2, .int l2), (3, .int l3), (4, .int t3), (5, .int c2)]) [2, 3, 4, 0, 5] rfl ?_
          exact X2_leftPart_L6_j63_ok hX hd1 h hin hex0 hex1
      · rw [if_pos b3] at h
        refine J.sub (L' := []) [] rfl ?_
        exact hex1  (Option.some.inj h).symm
    · rw [if_pos b2] at h
      refine J.goto (tgt := 63) hX 13 rfl (by decide) ?_
      refine J.sub (L' := [(1, .ref (ad d1)), (2, .int l2), (3, .int l3), (4, .int c1), (5, .int c2)]) [0, 1, 2, 3, 4] rfl ?_
      exact X2_leftPart_L6_j63_ok hX hd1 h hin hex0 hex1
set_option maxHeartbeats 4000000 in
set_option maxRecDepth 100000 in
theorem mX2_leftPart {l : Launch} {D : va_G} {cA : Nat → ClassId} {ad : Nat → Nat} {n : Nat} {A : Nat → Prop} {sa : Nat → Nat} {M : Mem} {d1 : Nat} {l2 : Int32} {l3 : Int32} {r : Int32} (hd1 : DrOk n d1) (h : X2_leftPart M d1 l2 l3 = some r) : CT l D cA ad n A sa yX2_leftPart cX2_leftPart 7 (some .int) 2 52 [.ref (ad 6), .ref (ad d1), .int l2, .int l3] M (.inl (some (.int r))) M := by
  refine CT.of (kt := kX2_leftPart) (by decide) kX2_leftPart_ok (Nat.le_of_ble_eq_true rfl) ?_
  intro p e s m args below meth c hX hr ht
  unfold X2_leftPart at h
  refine J.sub (L' := [(0, .ref (ad 6)), (1, .ref (ad d1)), (2, .int l2), (3, .int l3)]) [0, 1, 2, 3] rfl ?_
  refine J.iconst (v := 0) hX 0 rfl (by decide) ?_
  refine J.istore (L' := [(4, .int 0), (0, .ref (ad 6)), (1, .ref (ad d1)), (2, .int l2), (3, .int l3)]) hX 1 rfl (by decide) rfl ?_
  refine J.iconst (v := 0) hX 2 rfl (by decide) ?_
  refine J.istore (L' := [(5, .int 0), (4, .int 0), (0, .ref (ad 6)), (1, .ref (ad d1)), (2, .int l2), (3, .int l3)]) hX 3 rfl (by decide) rfl ?_
  refine J.sub (L' := [(1, .ref (ad d1)), (2, .int l2), (3, .int l3), (4, .int 0), (5, .int 0)]) [3, 4, 5, 1, 0] rfl ?_
  rcases bdS_inv h with ⟨a9, hlp, h⟩ | ⟨a9, hlp, h⟩
  · obtain ⟨x1, rfl⟩ : ∃ z, z = a9 := ⟨_, rfl⟩
    have h := un1_inv h
    suffices hE : JM 2 52 p l e s m args below meth c D cA ad n A 7 (.inl (some (.int r))) M M 69 [(4, .int x1)] [] by
      exact loop_ok (fun q9 : Int32 × Int32 => JM 2 52 p l e s m args below meth c D cA ad n A 7 (.inl (some (.int r))) M M 6 [(1, .ref (ad d1)), (2, .int l2), (3, .int l3), (4, .int q9.1), (5, .int q9.2)] []) (fun q9 r hB hst hex9 => X2_leftPart_L6_ok hX hd1 hB (fun _ _ hr => hst _ hr) (fun _ hr => by cases hex9 _ hr; exact hE) (fun hr => by cases hex9 _ hr)) 3000 _ hlp
    refine J.iload hX 39 0 rfl rfl ?_
    cases h
    exact J.iret hX hr 40 rfl
  · have h := un0_inv h
    suffices hE : JM 2 52 p l e s m args below meth c D cA ad n A 7 (.inl (some (.int r))) M M 46 [] [] by
      exact loop_ok (fun q9 : Int32 × Int32 => JM 2 52 p l e s m args below meth c D cA ad n A 7 (.inl (some (.int r))) M M 6 [(1, .ref (ad d1)), (2, .int l2), (3, .int l3), (4, .int q9.1), (5, .int q9.2)] []) (fun q9 r hB hst hex9 => X2_leftPart_L6_ok hX hd1 hB (fun _ _ hr => hst _ hr) (fun _ hr => by cases hex9 _ hr) (fun hr => by cases hex9 _ hr; exact hE)) 3000 _ hlp
    refine J.iconst (v := 0) hX 26 rfl (by decide) ?_
    cases h
    exact J.iret hX hr 27 rfl
def X2_firstSeam_L22_j66 (M : Mem) (d1 : Nat) (l2 : Int32) (c1 : Int32) (v1 : Int32) : Option ((Int32) ⊕ ((Unit) ⊕ (Int32))) := bnd (v1 + 1) (fun t4 => some (.inl t4))
def X2_firstSeam_L22 (M : Mem) (d1 : Nat) (l2 : Int32) (c1 : Int32) (q9 : Int32) : Option ((Int32) ⊕ ((Unit) ⊕ (Int32))) := un1 q9 (fun c2 => ld M (d1 + 3) 24 c1 (fun t1 => if t1 ≤ c2 then (some (.inr (.inl ()))) else (bnd (((c1 * 8) + c2)) (fun t2 => bd1 (X2_leftPart M d1 l2 t2) (fun t3 => if t3 = 0 then (X2_firstSeam_L22_j66 M d1 l2 c1 c2) else (if t3 = l2 then (X2_firstSeam_L22_j66 M d1 l2 c1 c2) else (some (.inr (.inr t2)))))))))
def X2_firstSeam_L2_j72 (M : Mem) (d1 : Nat) (l2 : Int32) (v2 : Int32) : Option ((Int32) ⊕ ((Unit) ⊕ (Int32))) := bnd (v2 + 1) (fun t5 => some (.inl t5))
def X2_firstSeam_L2 (M : Mem) (d1 : Nat) (l2 : Int32) (q9 : Int32) : Option ((Int32) ⊕ ((Unit) ⊕ (Int32))) := un1 q9 (fun c1 => if 24 ≤ c1 then (some (.inr (.inl ()))) else (if ((l2 >>> (c1 &&& 31)) &&& 1) = 0 then (X2_firstSeam_L2_j72 M d1 l2 c1) else (bdS (loop (X2_firstSeam_L22 M d1 l2 c1) 3000 0) (fun a9 => un0 a9 (X2_firstSeam_L2_j72 M d1 l2 c1)) (fun a9 => un1 a9 (fun x1 => some (.inr (.inr x1)))))))
def X2_firstSeam (M : Mem) (d1 : Nat) (l2 : Int32) : Option (Int32) := bdS (loop (X2_firstSeam_L2 M d1 l2) 3000 0) (fun a9 => un0 a9 (some (-1))) (fun a9 => un1 a9 (fun x2 => some x2))
set_option maxHeartbeats 4000000 in
set_option maxRecDepth 100000 in
theorem X2_firstSeam_L22_j66_ok (hX : Cx p s m args meth c D cA ad n A sa cX2_firstSeam 7 RX2 kX2_firstSeam) {M : Mem} {d1 : Nat} {l2 : Int32} {c1 : Int32} {v1 : Int32} (hd1 : DrOk n d1) {r : (Int32) ⊕ ((Unit) ⊕ (Int32))} (h : X2_firstSeam_L22_j66 M d1 l2 c1 v1 = some r) (hin : ∀ (q0 : Int32), r = .inl q0 → JM 3 78 p l e s m args below meth c D cA ad n A 7 out M1 M 22 [(0, .ref (ad 6)), (1, .ref (ad d1)), (2, .int l2), (3, .int c1), (4, .int q0)] []) (hex0 : r = .inr (.inl ()) → JM 3 78 p l e s m args below meth c D cA ad n A 7 out M1 M 72 [(0, .ref (ad 6)), (1, .ref (ad d1)), (2, .int l2), (3, .int c1)] []) (hex1 : ∀ (q0 : Int32), r = .inr (.inr q0) → JM 3 78 p l e s m args below meth c D cA ad n A 7 out M1 M 63 [(5, .int q0)] []) : JM 3 78 p l e s m args below meth c D cA ad n A 7 out M1 M 66 [(0, .ref (ad 6)), (1, .ref (ad d1)), (2, .int l2), (3, .int c1), (4, .int v1)] [] := by
  unfold X2_firstSeam_L22_j66 at h
  obtain ⟨t4, et4, h⟩ := bnd_inv h
  refine J.iinc (q := 4) (L' := [(4, .int t4), (0, .ref (ad 6)), (1, .ref (ad d1)), (2, .int l2), (3, .int c1)]) hX 39 rfl rfl et4 (by decide) rfl ?_
  refine J.goto (tgt := 22) hX 40 rfl (by decide) ?_
  refine J.sub (L' := [(0, .ref (ad 6)), (1, .ref (ad d1)), (2, .int l2), (3, .int c1), (4, .int t4)]) [1, 2, 3, 4, 0] rfl ?_
  exact hin _ (Option.some.inj h).symm
set_option maxHeartbeats 4000000 in
set_option maxRecDepth 100000 in
theorem X2_firstSeam_L22_ok (hX : Cx p s m args meth c D cA ad n A sa cX2_firstSeam 7 RX2 kX2_firstSeam) {M : Mem} {d1 : Nat} {l2 : Int32} {c1 : Int32} {c2 : Int32} (hd1 : DrOk n d1) {r : (Int32) ⊕ ((Unit) ⊕ (Int32))} (h : X2_firstSeam_L22 M d1 l2 c1 c2 = some r) (hin : ∀ (q0 : Int32), r = .inl q0 → JM 3 78 p l e s m args below meth c D cA ad n A 7 out M1 M 22 [(0, .ref (ad 6)), (1, .ref (ad d1)), (2, .int l2), (3, .int c1), (4, .int q0)] []) (hex0 : r = .inr (.inl ()) → JM 3 78 p l e s m args below meth c D cA ad n A 7 out M1 M 72 [(0, .ref (ad 6)), (1, .ref (ad d1)), (2, .int l2), (3, .int c1)] []) (hex1 : ∀ (q0 : Int32), r = .inr (.inr q0) → JM 3 78 p l e s m args below meth c D cA ad n A 7 out M1 M 63 [(5, .int q0)] []) : JM 3 78 p l e s m args below meth c D cA ad n A 7 out M1 M 22 [(0, .ref (ad 6)), (1, .ref (ad d1)), (2, .int l2), (3, .int c1), (4, .int c2)] [] := by
  unfold X2_firstSeam_L22 at h
  have h := un1_inv h
  refine J.iload hX 14 4 rfl rfl ?_
  refine J.aload_n hX 15 1 rfl rfl ?_
  refine J.getR hX 16 d1 1 hd1.lt0 hd1.s0 rfl in_wsX10 2 (by decide) w_319 rfl rfl ?_
  refine J.iload_n hX 17 3 rfl rfl ?_
  obtain ⟨t1, et1, hb, h⟩ := ld_inv h
  refine J.ialdN hX 18 (d1 + 3) hd1.lt3 hd1.s3 hb et1 rfl ?_
  refine J.icmp_ge (tgt := 72) hX 19 rfl (by decide) (fun b3 => ?_) (fun b3 => ?_)
  · rw [if_pos b3] at h
    refine J.sub (L' := [(0, .ref (ad 6)), (1, .ref (ad d1)), (2, .int l2), (3, .int c1)]) [0, 1, 2, 3] rfl ?_
    exact hex0  (Option.some.inj h).symm
  · rw [if_neg b3] at h
    refine J.iload_n hX 20 3 rfl rfl ?_
    refine J.bipush (v := 8) hX 21 rfl (by decide) ?_
    refine J.imul hX 22 rfl ?_
    refine J.iload hX 23 4 rfl rfl ?_
    refine J.iadd hX 24 rfl ?_
    obtain ⟨t2, et2, h⟩ := bnd_inv h
    refine J.nm et2 ?_
    refine J.istore (L' := [(5, .int t2), (0, .ref (ad 6)), (1, .ref (ad d1)), (2, .int l2), (3, .int c1), (4, .int c2)]) hX 25 rfl (by decide) rfl ?_
    refine J.aload_n hX 26 1 rfl rfl ?_
    refine J.aload_n hX 27 2 rfl rfl ?_
    refine J.iload_n hX 28 3 rfl rfl ?_
    refine J.iload hX 29 0 rfl rfl ?_
    obtain ⟨t3, hc, h⟩ := bd1_inv h
    refine J.callV1 (As := [.ref (ad d1), .int l2, .int t2]) (rest := []) (k := 6) hX 30 rfl (mX2_leftPart hd1 hc) okX2_leftPart w_320 (hX.lt (k := 6) (by decide)) sh_6 rfl rfl rfl (Nat.le_of_ble_eq_true rfl) ⟨Nat.le_of_ble_eq_true rfl, Nat.le_of_ble_eq_true rfl⟩ ⟨Nat.zero_le _, Nat.zero_le _⟩ ?_
    refine J.istore (L' := [(6, .int t3), (5, .int t2), (0, .ref (ad 6)), (1, .ref (ad d1)), (2, .int l2), (3, .int c1), (4, .int c2)]) hX 31 rfl (by decide) rfl ?_
    refine J.iload hX 32 0 rfl rfl ?_
    refine J.if_eq (tgt := 66) hX 33 rfl (by decide) (fun b4 => ?_) (fun b4 => ?_)
    · rw [if_pos b4] at h
      refine J.sub (L' := [(0, .ref (ad 6)), (1, .ref (ad d1)), (2, .int l2), (3, .int c1), (4, .int c2)]) [2, 3, 4, 5, 6] rfl ?_
      exact X2_firstSeam_L22_j66_ok hX hd1 h hin hex0 hex1
    · rw [if_neg b4] at h
      refine J.iload hX 34 0 rfl rfl ?_
      refine J.iload_n hX 35 4 rfl rfl ?_
      refine J.icmp_eq (tgt := 66) hX 36 rfl (by decide) (fun b5 => ?_) (fun b5 => ?_)
      · rw [if_pos b5] at h
        refine J.sub (L' := [(0, .ref (ad 6)), (1, .ref (ad d1)), (2, .int l2), (3, .int c1), (4, .int c2)]) [2, 3, 4, 5, 6] rfl ?_
        exact X2_firstSeam_L22_j66_ok hX hd1 h hin hex0 hex1
      · rw [if_neg b5] at h
        refine J.sub (L' := [(5, .int t2)]) [1] rfl ?_
        exact hex1 _ (Option.some.inj h).symm
set_option maxHeartbeats 4000000 in
set_option maxRecDepth 100000 in
theorem X2_firstSeam_L2_j72_ok (hX : Cx p s m args meth c D cA ad n A sa cX2_firstSeam 7 RX2 kX2_firstSeam) {M : Mem} {d1 : Nat} {l2 : Int32} {v2 : Int32} (hd1 : DrOk n d1) {r : (Int32) ⊕ ((Unit) ⊕ (Int32))} (h : X2_firstSeam_L2_j72 M d1 l2 v2 = some r) (hin : ∀ (q0 : Int32), r = .inl q0 → JM 3 78 p l e s m args below meth c D cA ad n A 7 out M1 M 2 [(0, .ref (ad 6)), (1, .ref (ad d1)), (2, .int l2), (3, .int q0)] []) (hex0 : r = .inr (.inl ()) → JM 3 78 p l e s m args below meth c D cA ad n A 7 out M1 M 78 [] []) (hex1 : ∀ (q0 : Int32), r = .inr (.inr q0) → JM 3 78 p l e s m args below meth c D cA ad n A 7 out M1 M 63 [(5, .int q0)] []) : JM 3 78 p l e s m args below meth c D cA ad n A 7 out M1 M 72 [(0, .ref (ad 6)), (1, .ref (ad d1)), (2, .int l2), (3, .int v2)] [] := by
  unfold X2_firstSeam_L2_j72 at h
  obtain ⟨t5, et5, h⟩ := bnd_inv h
  refine J.iinc (q := 3) (L' := [(3, .int t5), (0, .ref (ad 6)), (1, .ref (ad d1)), (2, .int l2)]) hX 41 rfl rfl et5 (by decide) rfl ?_
  refine J.goto (tgt := 2) hX 42 rfl (by decide) ?_
  refine J.sub (L' := [(0, .ref (ad 6)), (1, .ref (ad d1)), (2, .int l2), (3, .int t5)]) [1, 2, 3, 0] rfl ?_
  exact hin _ (Option.some.inj h).symm
set_option maxHeartbeats 4000000 in
set_option maxRecDepth 100000 in
theorem X2_firstSeam_L2_ok (hX : Cx p s m args meth c D cA ad n A sa cX2_firstSeam 7 RX2 kX2_firstSeam) {M : Mem} {d1 : Nat} {l2 : Int32} {c1 : Int32} (hd1 : DrOk n d1) {r : (Int32) ⊕ ((Unit) ⊕ (Int32))} (h : X2_firstSeam_L2 M d1 l2 c1 = some r) (hin : ∀ (q0 : Int32), r = .inl q0 → JM 3 78 p l e s m args below meth c D cA ad n A 7 out M1 M 2 [(0, .ref (ad 6)), (1, .ref (ad d1)), (2, .int l2), (3, .int q0)] []) (hex0 : r = .inr (.inl ()) → JM 3 78 p l e s m args below meth c D cA ad n A 7 out M1 M 78 [] []) (hex1 : ∀ (q0 : Int32), r = .inr (.inr q0) → JM 3 78 p l e s m args below meth c D cA ad n A 7 out M1 M 63 [(5, .int q0)] []) : JM 3 78 p l e s m args below meth c D cA ad n A 7 out M1 M 2 [(0, .ref (ad 6)), (1, .ref (ad d1)), (2, .int l2), (3, .int c1)] [] := by
  unfold X2_firstSeam_L2 at h
  have h := un1_inv h
  refine J.iload_n hX 2 3 rfl rfl ?_
  refine J.bipush (v := 24) hX 3 rfl (by decide) ?_
  refine J.icmp_ge (tgt := 78) hX 4 rfl (by decide) (fun b1 => ?_) (fun b1 => ?_)
  · rw [if_pos b1] at h
    refine J.sub (L' := []) [] rfl ?_
    exact hex0  (Option.some.inj h).symm
  · rw [if_neg b1] at h
    refine J.iload_n hX 5 2 rfl rfl ?_
    refine J.iload_n hX 6 3 rfl rfl ?_
    refine J.ishr hX 7 rfl ?_
    refine J.iconst (v := 1) hX 8 rfl (by decide) ?_
    refine J.iand hX 9 rfl ?_
    refine J.if_ne (tgt := 19) hX 10 rfl (by decide) (fun b2 => ?_) (fun b2 => ?_)
    · rw [if_neg b2] at h
      refine J.iconst (v := 0) hX 12 rfl (by decide) ?_
      refine J.istore (L' := [(4, .int 0), (0, .ref (ad 6)), (1, .ref (ad d1)), (2, .int l2), (3, .int c1)]) hX 13 rfl (by decide) rfl ?_
      refine J.sub (L' := [(0, .ref (ad 6)), (1, .ref (ad d1)), (2, .int l2), (3, .int c1), (4, .int 0)]) [1, 2, 3, 4, 0] rfl ?_
      rcases bdS_inv h with ⟨a9, hlp, h⟩ | ⟨a9, hlp, h⟩
      · have h := un0_inv h
        suffices hE : JM 3 78 p l e s m args below meth c D cA ad n A 7 out M1 M 72 [(0, .ref (ad 6)), (1, .ref (ad d1)), (2, .int l2), (3, .int c1)] [] by
          exact loop_ok (fun q9 : Int32 => JM 3 78 p l e s m args below meth c D cA ad n A 7 out M1 M 22 [(0, .ref (ad 6)), (1, .ref (ad d1)), (2, .int l2), (3, .int c1), (4, .int q9)] []) (fun q9 r hB hst hex9 => X2_firstSeam_L22_ok hX hd1 hB (fun _ hr => hst _ hr) (fun hr => by cases hex9 _ hr; exact hE) (fun _ hr => by cases hex9 _ hr)) 3000 _ hlp
        refine J.sub (L' := [(0, .ref (ad 6)), (1, .ref (ad d1)), (2, .int l2), (3, .int c1)]) [0, 1, 2, 3] rfl ?_
        exact X2_firstSeam_L2_j72_ok hX hd1 h hin hex0 hex1
      · obtain ⟨x1, rfl⟩ : ∃ z, z = a9 := ⟨_, rfl⟩
        have h := un1_inv h
        suffices hE : JM 3 78 p l e s m args below meth c D cA ad n A 7 out M1 M 63 [(5, .int x1)] [] by
          exact loop_ok (fun q9 : Int32 => JM 3 78 p l e s m args below meth c D cA ad n A 7 out M1 M 22 [(0, .ref (ad 6)), (1, .ref (ad d1)), (2, .int l2), (3, .int c1), (4, .int q9)] []) (fun q9 r hB hst hex9 => X2_firstSeam_L22_ok hX hd1 hB (fun _ hr => hst _ hr) (fun hr => by cases hex9 _ hr) (fun _ hr => by cases hex9 _ hr; exact hE)) 3000 _ hlp
        refine J.sub (L' := [(5, .int x1)]) [0] rfl ?_
        exact hex1 _ (Option.some.inj h).symm
    · rw [if_pos b2] at h
      refine J.goto (tgt := 72) hX 11 rfl (by decide) ?_
      refine J.sub (L' := [(0, .ref (ad 6)), (1, .ref (ad d1)), (2, .int l2), (3, .int c1)]) [0, 1, 2, 3] rfl ?_
      exact X2_firstSeam_L2_j72_ok hX hd1 h hin hex0 hex1
set_option maxHeartbeats 4000000 in
set_option maxRecDepth 100000 in
theorem mX2_firstSeam {l : Launch} {D : va_G} {cA : Nat → ClassId} {ad : Nat → Nat} {n : Nat} {A : Nat → Prop} {sa : Nat → Nat} {M : Mem} {d1 : Nat} {l2 : Int32} {r : Int32} (hd1 : DrOk n d1) (h : X2_firstSeam M d1 l2 = some r) : CT l D cA ad n A sa yX2_firstSeam cX2_firstSeam 7 (some .int) 3 78 [.ref (ad 6), .ref (ad d1), .int l2] M (.inl (some (.int r))) M := by
  refine CT.of (kt := kX2_firstSeam) (by decide) kX2_firstSeam_ok (Nat.le_of_ble_eq_true rfl) ?_
  intro p e s m args below meth c hX hr ht
  unfold X2_firstSeam at h
  refine J.sub (L' := [(0, .ref (ad 6)), (1, .ref (ad d1)), (2, .int l2)]) [0, 1, 2] rfl ?_
  refine J.iconst (v := 0) hX 0 rfl (by decide) ?_
  refine J.istore_n (L' := [(3, .int 0), (0, .ref (ad 6)), (1, .ref (ad d1)), (2, .int l2)]) hX 1 rfl (by decide) rfl ?_
  refine J.sub (L' := [(0, .ref (ad 6)), (1, .ref (ad d1)), (2, .int l2), (3, .int 0)]) [1, 2, 3, 0] rfl ?_
  rcases bdS_inv h with ⟨a9, hlp, h⟩ | ⟨a9, hlp, h⟩
  · have h := un0_inv h
    suffices hE : JM 3 78 p l e s m args below meth c D cA ad n A 7 (.inl (some (.int r))) M M 78 [] [] by
      exact loop_ok (fun q9 : Int32 => JM 3 78 p l e s m args below meth c D cA ad n A 7 (.inl (some (.int r))) M M 2 [(0, .ref (ad 6)), (1, .ref (ad d1)), (2, .int l2), (3, .int q9)] []) (fun q9 r hB hst hex9 => X2_firstSeam_L2_ok hX hd1 hB (fun _ hr => hst _ hr) (fun hr => by cases hex9 _ hr; exact hE) (fun _ hr => by cases hex9 _ hr)) 3000 _ hlp
    refine J.iconst (v := (-1)) hX 43 rfl (by decide) ?_
    cases h
    exact J.iret hX hr 44 rfl
  · obtain ⟨x2, rfl⟩ : ∃ z, z = a9 := ⟨_, rfl⟩
    have h := un1_inv h
    suffices hE : JM 3 78 p l e s m args below meth c D cA ad n A 7 (.inl (some (.int r))) M M 63 [(5, .int x2)] [] by
      exact loop_ok (fun q9 : Int32 => JM 3 78 p l e s m args below meth c D cA ad n A 7 (.inl (some (.int r))) M M 2 [(0, .ref (ad 6)), (1, .ref (ad d1)), (2, .int l2), (3, .int q9)] []) (fun q9 r hB hst hex9 => X2_firstSeam_L2_ok hX hd1 hB (fun _ hr => hst _ hr) (fun hr => by cases hex9 _ hr) (fun _ hr => by cases hex9 _ hr; exact hE)) 3000 _ hlp
    refine J.iload hX 37 0 rfl rfl ?_
    cases h
    exact J.iret hX hr 38 rfl
def X2_noteSeam (M : Mem) (l1 : Int32) (l2 : Int32) (l3 : Int32) (l4 : Int32) : Option (Mem) := bnd ((l1 * 4)) (fun t1 => sto M 8 92 t1 (l2 / 8) (fun N1 => sto N1 8 92 (t1 + 1) (l2 - l2 / 8 * 8) (fun N2 => bd1 (J6_bitCount_0f7a4 N2 l3) (fun t2 => sto N2 8 92 (t1 + 2) t2 (fun N3 => bd1 (J6_bitCount_0f7a4 N3 l4) (fun t3 => sto N3 8 92 (t1 + 3) t3 (fun N4 => some N4)))))))
set_option maxHeartbeats 4000000 in
set_option maxRecDepth 100000 in
theorem mX2_noteSeam {l : Launch} {D : va_G} {cA : Nat → ClassId} {ad : Nat → Nat} {n : Nat} {A : Nat → Prop} {sa : Nat → Nat} {M : Mem} {l1 : Int32} {l2 : Int32} {l3 : Int32} {l4 : Int32} {Mf : Mem} (h : X2_noteSeam M l1 l2 l3 l4 = some Mf) : CT l D cA ad n A sa yX2_noteSeam cX2_noteSeam 6 none 1 20 [.ref (ad 6), .int l1, .int l2, .int l3, .int l4] M (.inl none) Mf := by
  refine CT.of (kt := kX2_noteSeam) (by decide) kX2_noteSeam_ok (Nat.le_of_ble_eq_true rfl) ?_
  intro p e s m args below meth c hX hr ht
  unfold X2_noteSeam at h
  refine J.sub (L' := [(0, .ref (ad 6)), (1, .int l1), (2, .int l2), (3, .int l3), (4, .int l4)]) [0, 1, 2, 3, 4] rfl ?_
  refine J.iload_n hX 0 1 rfl rfl ?_
  refine J.iconst (v := 4) hX 1 rfl (by decide) ?_
  refine J.imul hX 2 rfl ?_
  obtain ⟨t1, et1, h⟩ := bnd_inv h
  refine J.nm et1 ?_
  refine J.istore (L' := [(5, .int t1), (0, .ref (ad 6)), (1, .int l1), (2, .int l2), (3, .int l3), (4, .int l4)]) hX 3 rfl (by decide) rfl ?_
  refine J.aload_n hX 4 1 rfl rfl ?_
  refine J.getR hX 5 6 2 (hX.lt (k := 6) (by decide)) sh_6 rfl in_wsX20 1 (by decide) w_41 rfl rfl ?_
  refine J.iload hX 6 0 rfl rfl ?_
  refine J.iload_n hX 7 3 rfl rfl ?_
  refine J.bipush (v := 8) hX 8 rfl (by decide) ?_
  refine J.idiv hX 9 rfl (by decide) ?_
  obtain ⟨N1, eN1, hb, h⟩ := sto_inv h
  refine J.iastN hX 10 8 (hX.lt (k := 8) (by decide)) sh_8 hb eN1 rfl ?_
  refine J.aload_n hX 11 1 rfl rfl ?_
  refine J.getR hX 12 6 2 (hX.lt (k := 6) (by decide)) sh_6 rfl in_wsX20 1 (by decide) w_41 rfl rfl ?_
  refine J.iload hX 13 0 rfl rfl ?_
  refine J.iconst (v := 1) hX 14 rfl (by decide) ?_
  refine J.iadd hX 15 rfl ?_
  refine J.iload_n hX 16 3 rfl rfl ?_
  refine J.bipush (v := 8) hX 17 rfl (by decide) ?_
  refine J.irem hX 18 rfl (by decide) ?_
  obtain ⟨N2, eN2, hb, h⟩ := sto_inv h
  refine J.iastN hX 19 8 (hX.lt (k := 8) (by decide)) sh_8 hb eN2 rfl ?_
  refine J.aload_n hX 20 1 rfl rfl ?_
  refine J.getR hX 21 6 2 (hX.lt (k := 6) (by decide)) sh_6 rfl in_wsX20 1 (by decide) w_41 rfl rfl ?_
  refine J.iload hX 22 0 rfl rfl ?_
  refine J.iconst (v := 2) hX 23 rfl (by decide) ?_
  refine J.iadd hX 24 rfl ?_
  refine J.iload_n hX 25 4 rfl rfl ?_
  obtain ⟨t2, hc, h⟩ := bd1_inv h
  refine J.callS1 (As := [.int l3]) (rest := [.int (t1 + 2), .ref (ad 8)]) hX 26 rfl (mJ6_bitCount_0f7a4  hc) okJ6_bitCount_0f7a4 w_314 rfl rfl (Nat.le_of_ble_eq_true rfl) ⟨Nat.le_of_ble_eq_true rfl, Nat.le_of_ble_eq_true rfl⟩ ⟨Nat.zero_le _, Nat.zero_le _⟩ ?_
  obtain ⟨N3, eN3, hb, h⟩ := sto_inv h
  refine J.iastN hX 27 8 (hX.lt (k := 8) (by decide)) sh_8 hb eN3 rfl ?_
  refine J.aload_n hX 28 1 rfl rfl ?_
  refine J.getR hX 29 6 2 (hX.lt (k := 6) (by decide)) sh_6 rfl in_wsX20 1 (by decide) w_41 rfl rfl ?_
  refine J.iload hX 30 0 rfl rfl ?_
  refine J.iconst (v := 3) hX 31 rfl (by decide) ?_
  refine J.iadd hX 32 rfl ?_
  refine J.iload hX 33 5 rfl rfl ?_
  obtain ⟨t3, hc, h⟩ := bd1_inv h
  refine J.callS1 (As := [.int l4]) (rest := [.int (t1 + 3), .ref (ad 8)]) hX 34 rfl (mJ6_bitCount_0f7a4  hc) okJ6_bitCount_0f7a4 w_314 rfl rfl (Nat.le_of_ble_eq_true rfl) ⟨Nat.le_of_ble_eq_true rfl, Nat.le_of_ble_eq_true rfl⟩ ⟨Nat.zero_le _, Nat.zero_le _⟩ ?_
  obtain ⟨N4, eN4, hb, h⟩ := sto_inv h
  refine J.iastN hX 35 8 (hX.lt (k := 8) (by decide)) sh_8 hb eN4 rfl ?_
  cases h
  exact J.vret hX hr 36 rfl
def X2_findOrder_L12 (d1 : Nat) (q9 : Int32 × Int32 × Mem) : Option ((Int32 × Int32 × Mem) ⊕ ((Int32 × Mem) ⊕ (Mem))) := un3 q9 (fun c1 c2 N2 => if c2 ≤ 0 then (some (.inr (.inl (c1, N2)))) else (if 23 ≤ c1 then (some (.inr (.inl (c1, N2)))) else (bnd (c2 + (-1)) (fun t3 => ld N2 7 24 t3 (fun t4 => bd1 (X2_firstSeam N2 d1 t4) (fun t5 => if t5 = (-1) then (some (.inr (.inr N2))) else (bd1 (X2_leftPart N2 d1 t4 t5) (fun t6 => bnd ((t4 &&& (t6 ^^^ (-1)))) (fun t7 => bd1 (X2_noteSeam N2 c1 t5 t6 t7) (fun N3 => bnd (c1 + 1) (fun t8 => bd2 (X2_putWaiting N3 t3 t7) (fun t9 N4 => bd2 (X2_putWaiting N4 t9 t6) (fun t10 N5 => some (.inl (t8, t10, N5)))))))))))))))
def X2_findOrder_j103 (N7 : Mem) (v1 : Int32) : Option (Int32 × Mem) := cpy N7 8 92 9 92 (v1 * 4) 0 (fun N8 => bnd (wr N8 6 3 v1) (fun N9 => some (v1, N9)))
def X2_findOrder (M : Mem) (d1 : Nat) : Option (Int32 × Mem) := bd1 (X1_closedSet M d1) (fun t1 => bd2 (X2_putWaiting M 0 t1) (fun t2 N1 => bdS (loop (X2_findOrder_L12 d1) 3000 (0, t2, N1)) (fun a9 => un2 a9 (fun x1 N6 => X2_findOrder_j103 N6 x1)) (fun a9 => un1 a9 (fun N10 => some ((-1), N10)))))
set_option maxHeartbeats 4000000 in
set_option maxRecDepth 100000 in
theorem X2_findOrder_L12_ok (hX : Cx p s m args meth c D cA ad n A sa cX2_findOrder 8 RX2 kX2_findOrder) {N2 : Mem} {d1 : Nat} {c1 : Int32} {c2 : Int32} (hd1 : DrOk n d1) {r : (Int32 × Int32 × Mem) ⊕ ((Int32 × Mem) ⊕ (Mem))} (h : X2_findOrder_L12 d1 (c1, c2, N2) = some r) (hin : ∀ (q0 : Int32) (q1 : Int32) (Mq : Mem), r = .inl (q0, q1, Mq) → JM 4 104 p l e s m args below meth c D cA ad n A 8 out M1 Mq 12 [(0, .ref (ad 6)), (1, .ref (ad d1)), (2, .int q0), (3, .int q1)] []) (hex0 : ∀ (q0 : Int32) (Mq : Mem), r = .inr (.inl (q0, Mq)) → JM 4 104 p l e s m args below meth c D cA ad n A 8 out M1 Mq 103 [(0, .ref (ad 6)), (2, .int q0)] []) (hex1 : ∀  (Mq : Mem), r = .inr (.inr Mq) → JM 4 104 p l e s m args below meth c D cA ad n A 8 out M1 Mq 48 [] []) : JM 4 104 p l e s m args below meth c D cA ad n A 8 out M1 N2 12 [(0, .ref (ad 6)), (1, .ref (ad d1)), (2, .int c1), (3, .int c2)] [] := by
  unfold X2_findOrder_L12 at h
  have h := un3_inv h
  refine J.iload_n hX 8 3 rfl rfl ?_
  refine J.if_le (tgt := 103) hX 9 rfl (by decide) (fun b1 => ?_) (fun b1 => ?_)
  · rw [if_pos b1] at h
    refine J.sub (L' := [(0, .ref (ad 6)), (2, .int c1)]) [0, 2] rfl ?_
    exact hex0 _ _ (Option.some.inj h).symm
  · rw [if_neg b1] at h
    refine J.iload_n hX 10 2 rfl rfl ?_
    refine J.bipush (v := 23) hX 11 rfl (by decide) ?_
    refine J.icmp_ge (tgt := 103) hX 12 rfl (by decide) (fun b2 => ?_) (fun b2 => ?_)
    · rw [if_pos b2] at h
      refine J.sub (L' := [(0, .ref (ad 6)), (2, .int c1)]) [0, 2] rfl ?_
      exact hex0 _ _ (Option.some.inj h).symm
    · rw [if_neg b2] at h
      obtain ⟨t3, et3, h⟩ := bnd_inv h
      refine J.iinc (q := 3) (L' := [(3, .int t3), (0, .ref (ad 6)), (1, .ref (ad d1)), (2, .int c1)]) hX 13 rfl rfl et3 (by decide) rfl ?_
      refine J.aload_n hX 14 1 rfl rfl ?_
      refine J.getR hX 15 6 2 (hX.lt (k := 6) (by decide)) sh_6 rfl in_wsX20 0 (by decide) w_40 rfl rfl ?_
      refine J.iload_n hX 16 0 rfl rfl ?_
      obtain ⟨t4, et4, hb, h⟩ := ld_inv h
      refine J.ialdN hX 17 7 (hX.lt (k := 7) (by decide)) sh_7 hb et4 rfl ?_
      refine J.istore (L' := [(4, .int t4), (3, .int t3), (0, .ref (ad 6)), (1, .ref (ad d1)), (2, .int c1)]) hX 18 rfl (by decide) rfl ?_
      refine J.aload_n hX 19 2 rfl rfl ?_
      refine J.aload_n hX 20 3 rfl rfl ?_
      refine J.iload hX 21 0 rfl rfl ?_
      obtain ⟨t5, hc, h⟩ := bd1_inv h
      refine J.callV1 (As := [.ref (ad d1), .int t4]) (rest := []) (k := 6) hX 22 rfl (mX2_firstSeam hd1 hc) okX2_firstSeam w_315 (hX.lt (k := 6) (by decide)) sh_6 rfl rfl rfl (Nat.le_of_ble_eq_true rfl) ⟨Nat.le_of_ble_eq_true rfl, Nat.le_of_ble_eq_true rfl⟩ ⟨Nat.zero_le _, Nat.zero_le _⟩ ?_
      refine J.istore (L' := [(5, .int t5), (4, .int t4), (3, .int t3), (0, .ref (ad 6)), (1, .ref (ad d1)), (2, .int c1)]) hX 23 rfl (by decide) rfl ?_
      refine J.iload hX 24 0 rfl rfl ?_
      refine J.iconst (v := (-1)) hX 25 rfl (by decide) ?_
      refine J.icmp_ne (tgt := 50) hX 26 rfl (by decide) (fun b3 => ?_) (fun b3 => ?_)
      · rw [if_neg b3] at h
        refine J.aload_n hX 29 3 rfl rfl ?_
        refine J.aload_n hX 30 4 rfl rfl ?_
        refine J.iload hX 31 1 rfl rfl ?_
        refine J.iload hX 32 0 rfl rfl ?_
        obtain ⟨t6, hc, h⟩ := bd1_inv h
        refine J.callV1 (As := [.ref (ad d1), .int t4, .int t5]) (rest := []) (k := 6) hX 33 rfl (mX2_leftPart hd1 hc) okX2_leftPart w_320 (hX.lt (k := 6) (by decide)) sh_6 rfl rfl rfl (Nat.le_of_ble_eq_true rfl) ⟨Nat.le_of_ble_eq_true rfl, Nat.le_of_ble_eq_true rfl⟩ ⟨Nat.zero_le _, Nat.zero_le _⟩ ?_
        refine J.istore (L' := [(6, .int t6), (5, .int t5), (4, .int t4), (3, .int t3), (0, .ref (ad 6)), (1, .ref (ad d1)), (2, .int c1)]) hX 34 rfl (by decide) rfl ?_
        refine J.iload hX 35 2 rfl rfl ?_
        refine J.iload hX 36 0 rfl rfl ?_
        refine J.iconst (v := (-1)) hX 37 rfl (by decide) ?_
        refine J.ixor hX 38 rfl ?_
        refine J.iand hX 39 rfl ?_
        obtain ⟨t7, et7, h⟩ := bnd_inv h
        refine J.nm et7 ?_
        refine J.istore (L' := [(7, .int t7), (6, .int t6), (5, .int t5), (4, .int t4), (3, .int t3), (0, .ref (ad 6)), (1, .ref (ad d1)), (2, .int c1)]) hX 40 rfl (by decide) rfl ?_
        refine J.aload_n hX 41 5 rfl rfl ?_
        refine J.iload_n hX 42 7 rfl rfl ?_
        refine J.iload hX 43 2 rfl rfl ?_
        refine J.iload hX 44 1 rfl rfl ?_
        refine J.iload hX 45 0 rfl rfl ?_
        obtain ⟨N3, hc, h⟩ := bd1_inv h
        refine J.callV0 (As := [.int c1, .int t5, .int t6, .int t7]) (rest := []) (k := 6) hX 46 rfl (mX2_noteSeam  hc) okX2_noteSeam w_325 (hX.lt (k := 6) (by decide)) sh_6 rfl rfl rfl (Nat.le_of_ble_eq_true rfl) ⟨Nat.le_of_ble_eq_true rfl, Nat.le_of_ble_eq_true rfl⟩ ⟨Nat.zero_le _, Nat.zero_le _⟩ ?_
        obtain ⟨t8, et8, h⟩ := bnd_inv h
        refine J.iinc (q := 7) (L' := [(2, .int t8), (7, .int t7), (6, .int t6), (5, .int t5), (4, .int t4), (3, .int t3), (0, .ref (ad 6)), (1, .ref (ad d1))]) hX 47 rfl rfl et8 (by decide) rfl ?_
        refine J.aload_n hX 48 6 rfl rfl ?_
        refine J.iload_n hX 49 5 rfl rfl ?_
        refine J.iload hX 50 1 rfl rfl ?_
        obtain ⟨t9, N4, hc, h⟩ := bd2_inv h
        refine J.callV1 (As := [.int t3, .int t7]) (rest := []) (k := 6) hX 51 rfl (mX2_putWaiting  hc) okX2_putWaiting w_310 (hX.lt (k := 6) (by decide)) sh_6 rfl rfl rfl (Nat.le_of_ble_eq_true rfl) ⟨Nat.le_of_ble_eq_true rfl, Nat.le_of_ble_eq_true rfl⟩ ⟨Nat.zero_le _, Nat.zero_le _⟩ ?_
        refine J.istore_n (L' := [(3, .int t9), (2, .int t8), (7, .int t7), (6, .int t6), (5, .int t5), (4, .int t4), (0, .ref (ad 6)), (1, .ref (ad d1))]) hX 52 rfl (by decide) rfl ?_
        refine J.aload_n hX 53 6 rfl rfl ?_
        refine J.iload_n hX 54 0 rfl rfl ?_
        refine J.iload hX 55 3 rfl rfl ?_
        obtain ⟨t10, N5, hc, h⟩ := bd2_inv h
        refine J.callV1 (As := [.int t9, .int t6]) (rest := []) (k := 6) hX 56 rfl (mX2_putWaiting  hc) okX2_putWaiting w_310 (hX.lt (k := 6) (by decide)) sh_6 rfl rfl rfl (Nat.le_of_ble_eq_true rfl) ⟨Nat.le_of_ble_eq_true rfl, Nat.le_of_ble_eq_true rfl⟩ ⟨Nat.zero_le _, Nat.zero_le _⟩ ?_
        refine J.istore_n (L' := [(3, .int t10), (2, .int t8), (7, .int t7), (6, .int t6), (5, .int t5), (4, .int t4), (0, .ref (ad 6)), (1, .ref (ad d1))]) hX 57 rfl (by decide) rfl ?_
        refine J.goto (tgt := 12) hX 58 rfl (by decide) ?_
        refine J.sub (L' := [(0, .ref (ad 6)), (1, .ref (ad d1)), (2, .int t8), (3, .int t10)]) [6, 7, 1, 0] rfl ?_
        exact hin _ _ _ (Option.some.inj h).symm
      · rw [if_pos b3] at h
        refine J.sub (L' := []) [] rfl ?_
        exact hex1 _ (Option.some.inj h).symm
set_option maxHeartbeats 4000000 in
set_option maxRecDepth 100000 in
theorem X2_findOrder_j103_ok (hX : Cx p s m args meth c D cA ad n A sa cX2_findOrder 8 RX2 kX2_findOrder) {N7 : Mem} {v1 : Int32} {r : Int32} {Mf : Mem}  (hr : meth.sig.returnType = (some .int)) (ht : ∀ x ∈ c.exceptionTable.toList, False) (h : X2_findOrder_j103 N7 v1 = some (r, Mf)) : JM 4 104 p l e s m args below meth c D cA ad n A 8 (.inl (some (.int r))) Mf N7 103 [(0, .ref (ad 6)), (2, .int v1)] [] := by
  unfold X2_findOrder_j103 at h
  refine J.aload_n hX 59 0 rfl rfl ?_
  refine J.getR hX 60 6 2 (hX.lt (k := 6) (by decide)) sh_6 rfl in_wsX20 1 (by decide) w_41 rfl rfl ?_
  refine J.iconst (v := 0) hX 61 rfl (by decide) ?_
  refine J.aload_n hX 62 0 rfl rfl ?_
  refine J.getR hX 63 6 2 (hX.lt (k := 6) (by decide)) sh_6 rfl in_wsX20 2 (by decide) w_42 rfl rfl ?_
  refine J.iconst (v := 0) hX 64 rfl (by decide) ?_
  refine J.iload_n hX 65 1 rfl rfl ?_
  refine J.iconst (v := 4) hX 66 rfl (by decide) ?_
  refine J.imul hX 67 rfl ?_
  obtain ⟨N8, eN8, hb, h⟩ := cpy_inv h
  refine J.copy hX 68 8 9 (hX.lt (k := 8) (by decide)) sh_8 (hX.lt (k := 9) (by decide)) sh_9 hb eN8 rfl w_304 w_305 w_306 w_307 (Nat.le_of_ble_eq_true rfl) (by show _ ≤ 104; decide +kernel) ?_
  refine J.aload_n hX 69 0 rfl rfl ?_
  refine J.iload_n hX 70 1 rfl rfl ?_
  obtain ⟨N9, eN9, h⟩ := bnd_inv h
  refine J.putIN hX 71 6 2 (hX.lt (k := 6) (by decide)) sh_6 rfl in_wsX20 3 (by decide) w_308 tyX2 tyX2_ok nmX2 eN9 rfl rfl (by decide +kernel) rfl ?_
  refine J.iload_n hX 72 1 rfl rfl ?_
  cases h
  exact J.iret hX hr 73 rfl
set_option maxHeartbeats 4000000 in
set_option maxRecDepth 100000 in
theorem mX2_findOrder {l : Launch} {D : va_G} {cA : Nat → ClassId} {ad : Nat → Nat} {n : Nat} {A : Nat → Prop} {sa : Nat → Nat} {M : Mem} {d1 : Nat} {r : Int32} {Mf : Mem} (hd1 : DrOk n d1) (h : X2_findOrder M d1 = some (r, Mf)) : CT l D cA ad n A sa yX2_findOrder cX2_findOrder 8 (some .int) 4 104 [.ref (ad 6), .ref (ad d1)] M (.inl (some (.int r))) Mf := by
  refine CT.of (kt := kX2_findOrder) (by decide) kX2_findOrder_ok (Nat.le_of_ble_eq_true rfl) ?_
  intro p e s m args below meth c hX hr ht
  unfold X2_findOrder at h
  refine J.sub (L' := [(0, .ref (ad 6)), (1, .ref (ad d1))]) [0, 1] rfl ?_
  refine J.iconst (v := 0) hX 0 rfl (by decide) ?_
  refine J.istore_n (L' := [(2, .int 0), (0, .ref (ad 6)), (1, .ref (ad d1))]) hX 1 rfl (by decide) rfl ?_
  refine J.aload_n hX 2 1 rfl rfl ?_
  refine J.iconst (v := 0) hX 3 rfl (by decide) ?_
  refine J.aload_n hX 4 2 rfl rfl ?_
  obtain ⟨t1, hc, h⟩ := bd1_inv h
  refine J.callV1 (As := []) (rest := [.int 0, .ref (ad 6)]) (k := d1) hX 5 rfl (mX1_closedSet hd1 hc) okX1_closedSet w_309 hd1.lt0 hd1.s0 rfl rfl rfl (Nat.le_of_ble_eq_true rfl) ⟨Nat.le_of_ble_eq_true rfl, Nat.le_of_ble_eq_true rfl⟩ ⟨Nat.zero_le _, Nat.zero_le _⟩ ?_
  obtain ⟨t2, N1, hc, h⟩ := bd2_inv h
  refine J.callV1 (As := [.int 0, .int t1]) (rest := []) (k := 6) hX 6 rfl (mX2_putWaiting  hc) okX2_putWaiting w_310 (hX.lt (k := 6) (by decide)) sh_6 rfl rfl rfl (Nat.le_of_ble_eq_true rfl) ⟨Nat.le_of_ble_eq_true rfl, Nat.le_of_ble_eq_true rfl⟩ ⟨Nat.zero_le _, Nat.zero_le _⟩ ?_
  refine J.istore_n (L' := [(3, .int t2), (2, .int 0), (0, .ref (ad 6)), (1, .ref (ad d1))]) hX 7 rfl (by decide) rfl ?_
  refine J.sub (L' := [(0, .ref (ad 6)), (1, .ref (ad d1)), (2, .int 0), (3, .int t2)]) [2, 3, 1, 0] rfl ?_
  rcases bdS_inv h with ⟨a9, hlp, h⟩ | ⟨a9, hlp, h⟩
  · obtain ⟨x1, N6⟩ := a9
    have h := un2_inv h
    suffices hE : JM 4 104 p l e s m args below meth c D cA ad n A 8 (.inl (some (.int r))) Mf N6 103 [(0, .ref (ad 6)), (2, .int x1)] [] by
      exact loop_ok (fun q9 : Int32 × Int32 × Mem => JM 4 104 p l e s m args below meth c D cA ad n A 8 (.inl (some (.int r))) Mf q9.2.2 12 [(0, .ref (ad 6)), (1, .ref (ad d1)), (2, .int q9.1), (3, .int q9.2.1)] []) (fun q9 r hB hst hex9 => X2_findOrder_L12_ok hX hd1 hB (fun _ _ _ hr => hst _ hr) (fun _ _ hr => by cases hex9 _ hr; exact hE) (fun _ hr => by cases hex9 _ hr)) 3000 _ hlp
    refine J.sub (L' := [(0, .ref (ad 6)), (2, .int x1)]) [0, 1] rfl ?_
    exact X2_findOrder_j103_ok hX  hr ht h
  · obtain ⟨N10, rfl⟩ : ∃ z, z = a9 := ⟨_, rfl⟩
    have h := un1_inv h
    suffices hE : JM 4 104 p l e s m args below meth c D cA ad n A 8 (.inl (some (.int r))) Mf N10 48 [] [] by
      exact loop_ok (fun q9 : Int32 × Int32 × Mem => JM 4 104 p l e s m args below meth c D cA ad n A 8 (.inl (some (.int r))) Mf q9.2.2 12 [(0, .ref (ad 6)), (1, .ref (ad d1)), (2, .int q9.1), (3, .int q9.2.1)] []) (fun q9 r hB hst hex9 => X2_findOrder_L12_ok hX hd1 hB (fun _ _ _ hr => hst _ hr) (fun _ _ hr => by cases hex9 _ hr) (fun _ hr => by cases hex9 _ hr; exact hE)) 3000 _ hlp
    refine J.iconst (v := (-1)) hX 27 rfl (by decide) ?_
    cases h
    exact J.iret hX hr 28 rfl
end G14
