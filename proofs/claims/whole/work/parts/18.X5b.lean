section G18
variable {p : Program} {l : Launch} {e : Env} {s : State} {m : MethodId} {args : Array Value} {below : List Frame} {meth : Method} {c : Code} {D : va_G} {cA : Nat → ClassId} {ad : Nat → Nat} {n : Nat} {A : Nat → Prop} {sa : Nat → Nat} {out : Option Value ⊕ String} {M1 : Mem}
def X5_keep_L83 (c1 : Int32) (t2 : Int32) (q9 : Int32 × Mem) : Option ((Int32 × Mem) ⊕ (Mem)) := un2 q9 (fun c2 N7 => if 8 ≤ c2 then (some (.inr N7)) else (ld N7 30 2112 ((1920 + (8 * c1)) + c2) (fun t5 => sto N7 30 2112 ((8 * t2) + c2) t5 (fun N8 => ld N8 31 2112 ((1920 + (8 * c1)) + c2) (fun t6 => sto N8 31 2112 ((8 * t2) + c2) t6 (fun N9 => bnd (c2 + 1) (fun t7 => some (.inl (t7, N9)))))))))
def X5_keep_L33  (q9 : Int32 × Mem) : Option ((Int32 × Mem) ⊕ (Mem)) := un2 q9 (fun c1 N4 => if 24 ≤ c1 then (some (.inr N4)) else (bnd (((24 * (N4 27 1)) + c1)) (fun t2 => ld N4 28 264 (240 + c1) (fun t3 => sto N4 28 264 t2 t3 (fun N5 => ld N5 29 264 (240 + c1) (fun t4 => sto N5 29 264 t2 t4 (fun N6 => bd1 (loop (X5_keep_L83 c1 t2) 3000 (0, N6)) (fun N10 => bnd (c1 + 1) (fun t8 => some (.inl (t8, N10)))))))))))
def X5_keep_j22 (N2 : Mem) (v1 : Int32) : Option (Int32 × Mem) := bd2 (X5_goes N2 v1 1) (fun t1 N3 => if t1 = 0 then (some (0, N3)) else (bd1 (loop (X5_keep_L33) 3000 (0, N3)) (fun N11 => bnd (wr N11 27 1 ((N11 27 1) + 1)) (fun N12 => some (((N12 27 1) - 1), N12)))))
def X5_keep_j21 (N1 : Mem) : Option (Int32 × Mem) := X5_keep_j22 N1 0
def X5_keep (M : Mem) : Option (Int32 × Mem) := if 10 ≤ (M 27 1) then (X5_keep_j21 M) else (bd1 (X5_state M) (fun t9 => if t9 = 0 then (X5_keep_j22 M 1) else (X5_keep_j21 M)))
set_option maxHeartbeats 4000000 in
set_option maxRecDepth 100000 in
theorem X5_keep_L83_ok (hX : Cx p s m args meth c D cA ad n A sa cX5_keep 4 RX5 kX5_keep) {N7 : Mem} {c1 : Int32} {t2 : Int32} {c2 : Int32}  {r : (Int32 × Mem) ⊕ (Mem)} (h : X5_keep_L83 c1 t2 (c2, N7) = some r) (hin : ∀ (q0 : Int32) (Mq : Mem), r = .inl (q0, Mq) → JM 6 144 p l e s m args below meth c D cA ad n A 4 out M1 Mq 83 [(0, .ref (ad 27)), (1, .int c1), (2, .int t2), (3, .int q0)] []) (hex0 : ∀  (Mq : Mem), r = .inr Mq → JM 6 144 p l e s m args below meth c D cA ad n A 4 out M1 Mq 147 [(0, .ref (ad 27)), (1, .int c1)] []) : JM 6 144 p l e s m args below meth c D cA ad n A 4 out M1 N7 83 [(0, .ref (ad 27)), (1, .int c1), (2, .int t2), (3, .int c2)] [] := by
  unfold X5_keep_L83 at h
  have h := un2_inv h
  refine J.iload_n hX 50 3 rfl rfl ?_
  refine J.bipush (v := 8) hX 51 rfl (by decide) ?_
  refine J.icmp_ge (tgt := 147) hX 52 rfl (by decide) (fun b4 => ?_) (fun b4 => ?_)
  · rw [if_pos b4] at h
    refine J.sub (L' := [(0, .ref (ad 27)), (1, .int c1)]) [0, 1] rfl ?_
    exact hex0 _ (Option.some.inj h).symm
  · rw [if_neg b4] at h
    refine J.aload_n hX 53 0 rfl rfl ?_
    refine J.getR hX 54 27 5 (hX.lt (k := 27) (by decide)) sh_27 rfl in_wsX50 4 (by decide) w_77 rfl rfl ?_
    refine J.bipush (v := 8) hX 55 rfl (by decide) ?_
    refine J.iload_n hX 56 2 rfl rfl ?_
    refine J.imul hX 57 rfl ?_
    refine J.iload_n hX 58 3 rfl rfl ?_
    refine J.iadd hX 59 rfl ?_
    refine J.aload_n hX 60 0 rfl rfl ?_
    refine J.getR hX 61 27 5 (hX.lt (k := 27) (by decide)) sh_27 rfl in_wsX50 4 (by decide) w_77 rfl rfl ?_
    refine J.sipush (v := 1920) hX 62 rfl (by decide) ?_
    refine J.bipush (v := 8) hX 63 rfl (by decide) ?_
    refine J.iload_n hX 64 1 rfl rfl ?_
    refine J.imul hX 65 rfl ?_
    refine J.iadd hX 66 rfl ?_
    refine J.iload_n hX 67 3 rfl rfl ?_
    refine J.iadd hX 68 rfl ?_
    obtain ⟨t5, et5, hb, h⟩ := ld_inv h
    refine J.ialdN hX 69 30 (hX.lt (k := 30) (by decide)) sh_30 hb et5 rfl ?_
    obtain ⟨N8, eN8, hb, h⟩ := sto_inv h
    refine J.iastN hX 70 30 (hX.lt (k := 30) (by decide)) sh_30 hb eN8 rfl ?_
    refine J.aload_n hX 71 0 rfl rfl ?_
    refine J.getR hX 72 27 5 (hX.lt (k := 27) (by decide)) sh_27 rfl in_wsX50 5 (by decide) w_78 rfl rfl ?_
    refine J.bipush (v := 8) hX 73 rfl (by decide) ?_
    refine J.iload_n hX 74 2 rfl rfl ?_
    refine J.imul hX 75 rfl ?_
    refine J.iload_n hX 76 3 rfl rfl ?_
    refine J.iadd hX 77 rfl ?_
    refine J.aload_n hX 78 0 rfl rfl ?_
    refine J.getR hX 79 27 5 (hX.lt (k := 27) (by decide)) sh_27 rfl in_wsX50 5 (by decide) w_78 rfl rfl ?_
    refine J.sipush (v := 1920) hX 80 rfl (by decide) ?_
    refine J.bipush (v := 8) hX 81 rfl (by decide) ?_
    refine J.iload_n hX 82 1 rfl rfl ?_
    refine J.imul hX 83 rfl ?_
    refine J.iadd hX 84 rfl ?_
    refine J.iload_n hX 85 3 rfl rfl ?_
    refine J.iadd hX 86 rfl ?_
    obtain ⟨t6, et6, hb, h⟩ := ld_inv h
    refine J.ialdN hX 87 31 (hX.lt (k := 31) (by decide)) sh_31 hb et6 rfl ?_
    obtain ⟨N9, eN9, hb, h⟩ := sto_inv h
    refine J.iastN hX 88 31 (hX.lt (k := 31) (by decide)) sh_31 hb eN9 rfl ?_
    obtain ⟨t7, et7, h⟩ := bnd_inv h
    refine J.iinc (q := 3) (L' := [(3, .int t7), (0, .ref (ad 27)), (1, .int c1), (2, .int t2)]) hX 89 rfl rfl et7 (by decide) rfl ?_
    refine J.goto (tgt := 83) hX 90 rfl (by decide) ?_
    refine J.sub (L' := [(0, .ref (ad 27)), (1, .int c1), (2, .int t2), (3, .int t7)]) [1, 2, 3, 0] rfl ?_
    exact hin _ _ (Option.some.inj h).symm
set_option maxHeartbeats 4000000 in
set_option maxRecDepth 100000 in
theorem X5_keep_L33_ok (hX : Cx p s m args meth c D cA ad n A sa cX5_keep 4 RX5 kX5_keep) {N4 : Mem}  {c1 : Int32}  {r : (Int32 × Mem) ⊕ (Mem)} (h : X5_keep_L33  (c1, N4) = some r) (hin : ∀ (q0 : Int32) (Mq : Mem), r = .inl (q0, Mq) → JM 6 144 p l e s m args below meth c D cA ad n A 4 out M1 Mq 33 [(0, .ref (ad 27)), (1, .int q0)] []) (hex0 : ∀  (Mq : Mem), r = .inr Mq → JM 6 144 p l e s m args below meth c D cA ad n A 4 out M1 Mq 153 [(0, .ref (ad 27))] []) : JM 6 144 p l e s m args below meth c D cA ad n A 4 out M1 N4 33 [(0, .ref (ad 27)), (1, .int c1)] [] := by
  unfold X5_keep_L33 at h
  have h := un2_inv h
  refine J.iload_n hX 18 1 rfl rfl ?_
  refine J.bipush (v := 24) hX 19 rfl (by decide) ?_
  refine J.icmp_ge (tgt := 153) hX 20 rfl (by decide) (fun b3 => ?_) (fun b3 => ?_)
  · rw [if_pos b3] at h
    refine J.sub (L' := [(0, .ref (ad 27))]) [0] rfl ?_
    exact hex0 _ (Option.some.inj h).symm
  · rw [if_neg b3] at h
    refine J.bipush (v := 24) hX 21 rfl (by decide) ?_
    refine J.aload_n hX 22 0 rfl rfl ?_
    refine J.getI hX 23 27 5 (hX.lt (k := 27) (by decide)) sh_27 rfl in_wsX50 1 (by decide) w_381 rfl rfl ?_
    refine J.imul hX 24 rfl ?_
    refine J.iload_n hX 25 1 rfl rfl ?_
    refine J.iadd hX 26 rfl ?_
    obtain ⟨t2, et2, h⟩ := bnd_inv h
    refine J.nm et2 ?_
    refine J.istore_n (L' := [(2, .int t2), (0, .ref (ad 27)), (1, .int c1)]) hX 27 rfl (by decide) rfl ?_
    refine J.aload_n hX 28 1 rfl rfl ?_
    refine J.getR hX 29 27 5 (hX.lt (k := 27) (by decide)) sh_27 rfl in_wsX50 2 (by decide) w_75 rfl rfl ?_
    refine J.iload_n hX 30 0 rfl rfl ?_
    refine J.aload_n hX 31 1 rfl rfl ?_
    refine J.getR hX 32 27 5 (hX.lt (k := 27) (by decide)) sh_27 rfl in_wsX50 2 (by decide) w_75 rfl rfl ?_
    refine J.sipush (v := 240) hX 33 rfl (by decide) ?_
    refine J.iload_n hX 34 2 rfl rfl ?_
    refine J.iadd hX 35 rfl ?_
    obtain ⟨t3, et3, hb, h⟩ := ld_inv h
    refine J.ialdN hX 36 28 (hX.lt (k := 28) (by decide)) sh_28 hb et3 rfl ?_
    obtain ⟨N5, eN5, hb, h⟩ := sto_inv h
    refine J.iastN hX 37 28 (hX.lt (k := 28) (by decide)) sh_28 hb eN5 rfl ?_
    refine J.aload_n hX 38 1 rfl rfl ?_
    refine J.getR hX 39 27 5 (hX.lt (k := 27) (by decide)) sh_27 rfl in_wsX50 3 (by decide) w_76 rfl rfl ?_
    refine J.iload_n hX 40 0 rfl rfl ?_
    refine J.aload_n hX 41 1 rfl rfl ?_
    refine J.getR hX 42 27 5 (hX.lt (k := 27) (by decide)) sh_27 rfl in_wsX50 3 (by decide) w_76 rfl rfl ?_
    refine J.sipush (v := 240) hX 43 rfl (by decide) ?_
    refine J.iload_n hX 44 2 rfl rfl ?_
    refine J.iadd hX 45 rfl ?_
    obtain ⟨t4, et4, hb, h⟩ := ld_inv h
    refine J.ialdN hX 46 29 (hX.lt (k := 29) (by decide)) sh_29 hb et4 rfl ?_
    obtain ⟨N6, eN6, hb, h⟩ := sto_inv h
    refine J.iastN hX 47 29 (hX.lt (k := 29) (by decide)) sh_29 hb eN6 rfl ?_
    refine J.iconst (v := 0) hX 48 rfl (by decide) ?_
    refine J.istore_n (L' := [(3, .int 0), (2, .int t2), (0, .ref (ad 27)), (1, .int c1)]) hX 49 rfl (by decide) rfl ?_
    refine J.sub (L' := [(0, .ref (ad 27)), (1, .int c1), (2, .int t2), (3, .int 0)]) [2, 3, 1, 0] rfl ?_
    obtain ⟨N10, hlp, h⟩ := bd1_inv h
    suffices hE : JM 6 144 p l e s m args below meth c D cA ad n A 4 out M1 N10 147 [(0, .ref (ad 27)), (1, .int c1)] [] by
      exact loop_ok (fun q9 : Int32 × Mem => JM 6 144 p l e s m args below meth c D cA ad n A 4 out M1 q9.2 83 [(0, .ref (ad 27)), (1, .int c1), (2, .int t2), (3, .int q9.1)] []) (fun q9 r hB hst hex9 => X5_keep_L83_ok hX  hB (fun _ _ hr => hst _ hr) (fun _ hr => by cases hex9 _ hr; exact hE)) 3000 _ hlp
    obtain ⟨t8, et8, h⟩ := bnd_inv h
    refine J.iinc (q := 1) (L' := [(1, .int t8), (0, .ref (ad 27))]) hX 91 rfl rfl et8 (by decide) rfl ?_
    refine J.goto (tgt := 33) hX 92 rfl (by decide) ?_
    refine J.sub (L' := [(0, .ref (ad 27)), (1, .int t8)]) [1, 0] rfl ?_
    exact hin _ _ (Option.some.inj h).symm
set_option maxHeartbeats 4000000 in
set_option maxRecDepth 100000 in
theorem X5_keep_j22_ok (hX : Cx p s m args meth c D cA ad n A sa cX5_keep 4 RX5 kX5_keep) {N2 : Mem} {v1 : Int32} {r : Int32} {Mf : Mem}  (hr : meth.sig.returnType = (some .int)) (ht : ∀ x ∈ c.exceptionTable.toList, False) (h : X5_keep_j22 N2 v1 = some (r, Mf)) : JM 6 144 p l e s m args below meth c D cA ad n A 4 (.inl (some (.int r))) Mf N2 22 [(0, .ref (ad 27))] [.int v1, .ref (ad 27)] := by
  unfold X5_keep_j22 at h
  refine J.iconst (v := 1) hX 11 rfl (by decide) ?_
  obtain ⟨t1, N3, hc, h⟩ := bd2_inv h
  refine J.callV1 (As := [.int v1, .int 1]) (rest := []) (k := 27) hX 12 rfl (mX5_goes  hc) okX5_goes w_137 (hX.lt (k := 27) (by decide)) sh_27 rfl rfl rfl (Nat.le_of_ble_eq_true rfl) ⟨Nat.le_of_ble_eq_true rfl, Nat.le_of_ble_eq_true rfl⟩ ⟨Nat.zero_le _, Nat.zero_le _⟩ ?_
  refine J.if_ne (tgt := 31) hX 13 rfl (by decide) (fun b2 => ?_) (fun b2 => ?_)
  · rw [if_neg b2] at h
    refine J.iconst (v := 0) hX 16 rfl (by decide) ?_
    refine J.istore_n (L' := [(1, .int 0), (0, .ref (ad 27))]) hX 17 rfl (by decide) rfl ?_
    refine J.sub (L' := [(0, .ref (ad 27)), (1, .int 0)]) [1, 0] rfl ?_
    obtain ⟨N11, hlp, h⟩ := bd1_inv h
    suffices hE : JM 6 144 p l e s m args below meth c D cA ad n A 4 (.inl (some (.int r))) Mf N11 153 [(0, .ref (ad 27))] [] by
      exact loop_ok (fun q9 : Int32 × Mem => JM 6 144 p l e s m args below meth c D cA ad n A 4 (.inl (some (.int r))) Mf q9.2 33 [(0, .ref (ad 27)), (1, .int q9.1)] []) (fun q9 r hB hst hex9 => X5_keep_L33_ok hX  hB (fun _ _ hr => hst _ hr) (fun _ hr => by cases hex9 _ hr; exact hE)) 3000 _ hlp
    refine J.aload_n hX 93 0 rfl rfl ?_
    refine J.dup hX 94 rfl rfl ?_
    refine J.getI hX 95 27 5 (hX.lt (k := 27) (by decide)) sh_27 rfl in_wsX50 1 (by decide) w_381 rfl rfl ?_
    refine J.iconst (v := 1) hX 96 rfl (by decide) ?_
    refine J.iadd hX 97 rfl ?_
    obtain ⟨N12, eN12, h⟩ := bnd_inv h
    refine J.putIN hX 98 27 5 (hX.lt (k := 27) (by decide)) sh_27 rfl in_wsX50 1 (by decide) w_381 tyX5 tyX5_ok nmX5 eN12 rfl rfl (by decide +kernel) rfl ?_
    refine J.aload_n hX 99 0 rfl rfl ?_
    refine J.getI hX 100 27 5 (hX.lt (k := 27) (by decide)) sh_27 rfl in_wsX50 1 (by decide) w_381 rfl rfl ?_
    refine J.iconst (v := 1) hX 101 rfl (by decide) ?_
    refine J.isub hX 102 rfl ?_
    cases h
    exact J.iret hX hr 103 rfl
  · rw [if_pos b2] at h
    refine J.iconst (v := 0) hX 14 rfl (by decide) ?_
    cases h
    exact J.iret hX hr 15 rfl
set_option maxHeartbeats 4000000 in
set_option maxRecDepth 100000 in
theorem X5_keep_j21_ok (hX : Cx p s m args meth c D cA ad n A sa cX5_keep 4 RX5 kX5_keep) {N1 : Mem}  {r : Int32} {Mf : Mem}  (hr : meth.sig.returnType = (some .int)) (ht : ∀ x ∈ c.exceptionTable.toList, False) (h : X5_keep_j21 N1 = some (r, Mf)) : JM 6 144 p l e s m args below meth c D cA ad n A 4 (.inl (some (.int r))) Mf N1 21 [(0, .ref (ad 27))] [.ref (ad 27)] := by
  unfold X5_keep_j21 at h
  refine J.iconst (v := 0) hX 10 rfl (by decide) ?_
  refine J.sub (L' := [(0, .ref (ad 27))]) [0] rfl ?_
  exact X5_keep_j22_ok hX  hr ht h
set_option maxHeartbeats 4000000 in
set_option maxRecDepth 100000 in
theorem mX5_keep {l : Launch} {D : va_G} {cA : Nat → ClassId} {ad : Nat → Nat} {n : Nat} {A : Nat → Prop} {sa : Nat → Nat} {M : Mem} {r : Int32} {Mf : Mem} (h : X5_keep M = some (r, Mf)) : CT l D cA ad n A sa yX5_keep cX5_keep 4 (some .int) 6 144 [.ref (ad 27)] M (.inl (some (.int r))) Mf := by
  refine CT.of (kt := kX5_keep) (by decide) kX5_keep_ok (Nat.le_of_ble_eq_true rfl) ?_
  intro p e s m args below meth c hX hr ht
  unfold X5_keep at h
  refine J.sub (L' := [(0, .ref (ad 27))]) [0] rfl ?_
  refine J.aload_n hX 0 0 rfl rfl ?_
  refine J.aload_n hX 1 0 rfl rfl ?_
  refine J.getI hX 2 27 5 (hX.lt (k := 27) (by decide)) sh_27 rfl in_wsX50 1 (by decide) w_381 rfl rfl ?_
  refine J.bipush (v := 10) hX 3 rfl (by decide) ?_
  refine J.icmp_ge (tgt := 21) hX 4 rfl (by decide) (fun b1 => ?_) (fun b1 => ?_)
  · rw [if_pos b1] at h
    refine J.sub (L' := [(0, .ref (ad 27))]) [0] rfl ?_
    exact X5_keep_j21_ok hX  hr ht h
  · rw [if_neg b1] at h
    refine J.aload_n hX 5 0 rfl rfl ?_
    obtain ⟨t9, hc, h⟩ := bd1_inv h
    refine J.callV1 (As := []) (rest := [.ref (ad 27)]) (k := 27) hX 6 rfl (mX5_state  hc) okX5_state w_268 (hX.lt (k := 27) (by decide)) sh_27 rfl rfl rfl (Nat.le_of_ble_eq_true rfl) ⟨Nat.le_of_ble_eq_true rfl, Nat.le_of_ble_eq_true rfl⟩ ⟨Nat.zero_le _, Nat.zero_le _⟩ ?_
    refine J.if_ne (tgt := 21) hX 7 rfl (by decide) (fun b5 => ?_) (fun b5 => ?_)
    · rw [if_neg b5] at h
      refine J.sub (L' := [(0, .ref (ad 27))]) [0] rfl ?_
      exact X5_keep_j21_ok hX  hr ht h
    · rw [if_pos b5] at h
      refine J.iconst (v := 1) hX 8 rfl (by decide) ?_
      refine J.goto (tgt := 22) hX 9 rfl (by decide) ?_
      refine J.sub (L' := [(0, .ref (ad 27))]) [0] rfl ?_
      exact X5_keep_j22_ok hX  hr ht h
def X5_place_j37 (N2 : Mem) (l1 : Int32) (l2 : Int32) (l3 : Int32) (l4 : Int32) (v1 : Int32) : Option (Int32 × Mem) := bd1 (X5_within N2 l4 0 7) (fun t2 => bd2 (X5_goes N2 v1 t2) (fun t3 N3 => if t3 = 0 then (some (0, N3)) else (bnd (((6 * l1) + l2)) (fun t4 => ld N3 35 36 t4 (fun t5 => sto N3 35 36 t4 l3 (fun N4 => sto N4 36 36 t4 l4 (fun N5 => some (t5, N5))))))))
def X5_place_j36 (N1 : Mem) (l1 : Int32) (l2 : Int32) (l3 : Int32) (l4 : Int32) : Option (Int32 × Mem) := X5_place_j37 N1 l1 l2 l3 l4 0
def X5_place (M : Mem) (l1 : Int32) (l2 : Int32) (l3 : Int32) (l4 : Int32) : Option (Int32 × Mem) := bd1 (X5_within M l1 0 5) (fun t1 => if t1 = 0 then (X5_place_j36 M l1 l2 l3 l4) else (bd1 (X5_within M l2 0 5) (fun t6 => if t6 = 0 then (X5_place_j36 M l1 l2 l3 l4) else (if l3 < (-1) then (X5_place_j36 M l1 l2 l3 l4) else (if (M 27 1) ≤ l3 then (X5_place_j36 M l1 l2 l3 l4) else (X5_place_j37 M l1 l2 l3 l4 1))))))
set_option maxHeartbeats 4000000 in
set_option maxRecDepth 100000 in
theorem X5_place_j37_ok (hX : Cx p s m args meth c D cA ad n A sa cX5_place 7 RX5 kX5_place) {N2 : Mem} {l1 : Int32} {l2 : Int32} {l3 : Int32} {l4 : Int32} {v1 : Int32} {r : Int32} {Mf : Mem}  (hr : meth.sig.returnType = (some .int)) (ht : ∀ x ∈ c.exceptionTable.toList, False) (h : X5_place_j37 N2 l1 l2 l3 l4 v1 = some (r, Mf)) : JM 1 22 p l e s m args below meth c D cA ad n A 7 (.inl (some (.int r))) Mf N2 37 [(0, .ref (ad 27)), (1, .int l1), (2, .int l2), (3, .int l3), (4, .int l4)] [.int v1, .ref (ad 27)] := by
  unfold X5_place_j37 at h
  refine J.iload hX 21 4 rfl rfl ?_
  refine J.iconst (v := 0) hX 22 rfl (by decide) ?_
  refine J.bipush (v := 7) hX 23 rfl (by decide) ?_
  obtain ⟨t2, hc, h⟩ := bd1_inv h
  refine J.callS1 (As := [.int l4, .int 0, .int 7]) (rest := [.int v1, .ref (ad 27)]) hX 24 rfl (mX5_within  hc) okX5_within w_134 rfl rfl (Nat.le_of_ble_eq_true rfl) ⟨Nat.le_of_ble_eq_true rfl, Nat.le_of_ble_eq_true rfl⟩ ⟨Nat.zero_le _, Nat.zero_le _⟩ ?_
  obtain ⟨t3, N3, hc, h⟩ := bd2_inv h
  refine J.callV1 (As := [.int v1, .int t2]) (rest := []) (k := 27) hX 25 rfl (mX5_goes  hc) okX5_goes w_137 (hX.lt (k := 27) (by decide)) sh_27 rfl rfl rfl (Nat.le_of_ble_eq_true rfl) ⟨Nat.le_of_ble_eq_true rfl, Nat.le_of_ble_eq_true rfl⟩ ⟨Nat.zero_le _, Nat.zero_le _⟩ ?_
  refine J.if_ne (tgt := 53) hX 26 rfl (by decide) (fun b2 => ?_) (fun b2 => ?_)
  · rw [if_neg b2] at h
    refine J.bipush (v := 6) hX 29 rfl (by decide) ?_
    refine J.iload_n hX 30 1 rfl rfl ?_
    refine J.imul hX 31 rfl ?_
    refine J.iload_n hX 32 2 rfl rfl ?_
    refine J.iadd hX 33 rfl ?_
    obtain ⟨t4, et4, h⟩ := bnd_inv h
    refine J.nm et4 ?_
    refine J.istore (L' := [(5, .int t4), (0, .ref (ad 27)), (1, .int l1), (2, .int l2), (3, .int l3), (4, .int l4)]) hX 34 rfl (by decide) rfl ?_
    refine J.aload_n hX 35 1 rfl rfl ?_
    refine J.getR hX 36 27 5 (hX.lt (k := 27) (by decide)) sh_27 rfl in_wsX50 10 (by decide) w_82 rfl rfl ?_
    refine J.iload hX 37 0 rfl rfl ?_
    obtain ⟨t5, et5, hb, h⟩ := ld_inv h
    refine J.ialdN hX 38 35 (hX.lt (k := 35) (by decide)) sh_35 hb et5 rfl ?_
    refine J.istore (L' := [(6, .int t5), (5, .int t4), (0, .ref (ad 27)), (1, .int l1), (2, .int l2), (3, .int l3), (4, .int l4)]) hX 39 rfl (by decide) rfl ?_
    refine J.aload_n hX 40 2 rfl rfl ?_
    refine J.getR hX 41 27 5 (hX.lt (k := 27) (by decide)) sh_27 rfl in_wsX50 10 (by decide) w_82 rfl rfl ?_
    refine J.iload hX 42 1 rfl rfl ?_
    refine J.iload_n hX 43 5 rfl rfl ?_
    obtain ⟨N4, eN4, hb, h⟩ := sto_inv h
    refine J.iastN hX 44 35 (hX.lt (k := 35) (by decide)) sh_35 hb eN4 rfl ?_
    refine J.aload_n hX 45 2 rfl rfl ?_
    refine J.getR hX 46 27 5 (hX.lt (k := 27) (by decide)) sh_27 rfl in_wsX50 11 (by decide) w_83 rfl rfl ?_
    refine J.iload hX 47 1 rfl rfl ?_
    refine J.iload hX 48 6 rfl rfl ?_
    obtain ⟨N5, eN5, hb, h⟩ := sto_inv h
    refine J.iastN hX 49 36 (hX.lt (k := 36) (by decide)) sh_36 hb eN5 rfl ?_
    refine J.iload hX 50 0 rfl rfl ?_
    cases h
    exact J.iret hX hr 51 rfl
  · rw [if_pos b2] at h
    refine J.iconst (v := 0) hX 27 rfl (by decide) ?_
    cases h
    exact J.iret hX hr 28 rfl
set_option maxHeartbeats 4000000 in
set_option maxRecDepth 100000 in
theorem X5_place_j36_ok (hX : Cx p s m args meth c D cA ad n A sa cX5_place 7 RX5 kX5_place) {N1 : Mem} {l1 : Int32} {l2 : Int32} {l3 : Int32} {l4 : Int32} {r : Int32} {Mf : Mem}  (hr : meth.sig.returnType = (some .int)) (ht : ∀ x ∈ c.exceptionTable.toList, False) (h : X5_place_j36 N1 l1 l2 l3 l4 = some (r, Mf)) : JM 1 22 p l e s m args below meth c D cA ad n A 7 (.inl (some (.int r))) Mf N1 36 [(0, .ref (ad 27)), (1, .int l1), (2, .int l2), (3, .int l3), (4, .int l4)] [.ref (ad 27)] := by
  unfold X5_place_j36 at h
  refine J.iconst (v := 0) hX 20 rfl (by decide) ?_
  refine J.sub (L' := [(0, .ref (ad 27)), (1, .int l1), (2, .int l2), (3, .int l3), (4, .int l4)]) [0, 1, 2, 3, 4] rfl ?_
  exact X5_place_j37_ok hX  hr ht h
set_option maxHeartbeats 4000000 in
set_option maxRecDepth 100000 in
theorem mX5_place {l : Launch} {D : va_G} {cA : Nat → ClassId} {ad : Nat → Nat} {n : Nat} {A : Nat → Prop} {sa : Nat → Nat} {M : Mem} {l1 : Int32} {l2 : Int32} {l3 : Int32} {l4 : Int32} {r : Int32} {Mf : Mem} (h : X5_place M l1 l2 l3 l4 = some (r, Mf)) : CT l D cA ad n A sa yX5_place cX5_place 7 (some .int) 1 22 [.ref (ad 27), .int l1, .int l2, .int l3, .int l4] M (.inl (some (.int r))) Mf := by
  refine CT.of (kt := kX5_place) (by decide) kX5_place_ok (Nat.le_of_ble_eq_true rfl) ?_
  intro p e s m args below meth c hX hr ht
  unfold X5_place at h
  refine J.sub (L' := [(0, .ref (ad 27)), (1, .int l1), (2, .int l2), (3, .int l3), (4, .int l4)]) [0, 1, 2, 3, 4] rfl ?_
  refine J.aload_n hX 0 0 rfl rfl ?_
  refine J.iload_n hX 1 1 rfl rfl ?_
  refine J.iconst (v := 0) hX 2 rfl (by decide) ?_
  refine J.iconst (v := 5) hX 3 rfl (by decide) ?_
  obtain ⟨t1, hc, h⟩ := bd1_inv h
  refine J.callS1 (As := [.int l1, .int 0, .int 5]) (rest := [.ref (ad 27)]) hX 4 rfl (mX5_within  hc) okX5_within w_134 rfl rfl (Nat.le_of_ble_eq_true rfl) ⟨Nat.le_of_ble_eq_true rfl, Nat.le_of_ble_eq_true rfl⟩ ⟨Nat.zero_le _, Nat.zero_le _⟩ ?_
  refine J.if_eq (tgt := 36) hX 5 rfl (by decide) (fun b1 => ?_) (fun b1 => ?_)
  · rw [if_pos b1] at h
    refine J.sub (L' := [(0, .ref (ad 27)), (1, .int l1), (2, .int l2), (3, .int l3), (4, .int l4)]) [0, 1, 2, 3, 4] rfl ?_
    exact X5_place_j36_ok hX  hr ht h
  · rw [if_neg b1] at h
    refine J.iload_n hX 6 2 rfl rfl ?_
    refine J.iconst (v := 0) hX 7 rfl (by decide) ?_
    refine J.iconst (v := 5) hX 8 rfl (by decide) ?_
    obtain ⟨t6, hc, h⟩ := bd1_inv h
    refine J.callS1 (As := [.int l2, .int 0, .int 5]) (rest := [.ref (ad 27)]) hX 9 rfl (mX5_within  hc) okX5_within w_134 rfl rfl (Nat.le_of_ble_eq_true rfl) ⟨Nat.le_of_ble_eq_true rfl, Nat.le_of_ble_eq_true rfl⟩ ⟨Nat.zero_le _, Nat.zero_le _⟩ ?_
    refine J.if_eq (tgt := 36) hX 10 rfl (by decide) (fun b3 => ?_) (fun b3 => ?_)
    · rw [if_pos b3] at h
      refine J.sub (L' := [(0, .ref (ad 27)), (1, .int l1), (2, .int l2), (3, .int l3), (4, .int l4)]) [0, 1, 2, 3, 4] rfl ?_
      exact X5_place_j36_ok hX  hr ht h
    · rw [if_neg b3] at h
      refine J.iload_n hX 11 3 rfl rfl ?_
      refine J.iconst (v := (-1)) hX 12 rfl (by decide) ?_
      refine J.icmp_lt (tgt := 36) hX 13 rfl (by decide) (fun b4 => ?_) (fun b4 => ?_)
      · rw [if_pos b4] at h
        refine J.sub (L' := [(0, .ref (ad 27)), (1, .int l1), (2, .int l2), (3, .int l3), (4, .int l4)]) [0, 1, 2, 3, 4] rfl ?_
        exact X5_place_j36_ok hX  hr ht h
      · rw [if_neg b4] at h
        refine J.iload_n hX 14 3 rfl rfl ?_
        refine J.aload_n hX 15 0 rfl rfl ?_
        refine J.getI hX 16 27 5 (hX.lt (k := 27) (by decide)) sh_27 rfl in_wsX50 1 (by decide) w_381 rfl rfl ?_
        refine J.icmp_ge (tgt := 36) hX 17 rfl (by decide) (fun b5 => ?_) (fun b5 => ?_)
        · rw [if_pos b5] at h
          refine J.sub (L' := [(0, .ref (ad 27)), (1, .int l1), (2, .int l2), (3, .int l3), (4, .int l4)]) [0, 1, 2, 3, 4] rfl ?_
          exact X5_place_j36_ok hX  hr ht h
        · rw [if_neg b5] at h
          refine J.iconst (v := 1) hX 18 rfl (by decide) ?_
          refine J.goto (tgt := 37) hX 19 rfl (by decide) ?_
          refine J.sub (L' := [(0, .ref (ad 27)), (1, .int l1), (2, .int l2), (3, .int l3), (4, .int l4)]) [0, 1, 2, 3, 4] rfl ?_
          exact X5_place_j37_ok hX  hr ht h
def X5_frame_j22 (N2 : Mem) (l1 : Int32) (l2 : Int32) (l3 : Int32) (v1 : Int32) : Option (Int32 × Mem) := bd1 (X5_within N2 l2 0 60) (fun t2 => bd2 (X5_goes N2 v1 t2) (fun t3 N3 => if t3 = 0 then (some (0, N3)) else (ld N3 37 2 l1 (fun t4 => sto N3 37 2 l1 l2 (fun N4 => sto N4 38 2 l1 l3 (fun N5 => some (t4, N5)))))))
def X5_frame_j21 (N1 : Mem) (l1 : Int32) (l2 : Int32) (l3 : Int32) : Option (Int32 × Mem) := X5_frame_j22 N1 l1 l2 l3 0
def X5_frame (M : Mem) (l1 : Int32) (l2 : Int32) (l3 : Int32) : Option (Int32 × Mem) := bd1 (X5_within M l1 0 1) (fun t1 => if t1 = 0 then (X5_frame_j21 M l1 l2 l3) else (bd1 (X5_isCloth M l3) (fun t5 => if t5 = 0 then (X5_frame_j21 M l1 l2 l3) else (X5_frame_j22 M l1 l2 l3 1))))
set_option maxHeartbeats 4000000 in
set_option maxRecDepth 100000 in
theorem X5_frame_j22_ok (hX : Cx p s m args meth c D cA ad n A sa cX5_frame 5 RX5 kX5_frame) {N2 : Mem} {l1 : Int32} {l2 : Int32} {l3 : Int32} {v1 : Int32} {r : Int32} {Mf : Mem}  (hr : meth.sig.returnType = (some .int)) (ht : ∀ x ∈ c.exceptionTable.toList, False) (h : X5_frame_j22 N2 l1 l2 l3 v1 = some (r, Mf)) : JM 1 22 p l e s m args below meth c D cA ad n A 5 (.inl (some (.int r))) Mf N2 22 [(0, .ref (ad 27)), (1, .int l1), (2, .int l2), (3, .int l3)] [.int v1, .ref (ad 27)] := by
  unfold X5_frame_j22 at h
  refine J.iload_n hX 12 2 rfl rfl ?_
  refine J.iconst (v := 0) hX 13 rfl (by decide) ?_
  refine J.bipush (v := 60) hX 14 rfl (by decide) ?_
  obtain ⟨t2, hc, h⟩ := bd1_inv h
  refine J.callS1 (As := [.int l2, .int 0, .int 60]) (rest := [.int v1, .ref (ad 27)]) hX 15 rfl (mX5_within  hc) okX5_within w_134 rfl rfl (Nat.le_of_ble_eq_true rfl) ⟨Nat.le_of_ble_eq_true rfl, Nat.le_of_ble_eq_true rfl⟩ ⟨Nat.zero_le _, Nat.zero_le _⟩ ?_
  obtain ⟨t3, N3, hc, h⟩ := bd2_inv h
  refine J.callV1 (As := [.int v1, .int t2]) (rest := []) (k := 27) hX 16 rfl (mX5_goes  hc) okX5_goes w_137 (hX.lt (k := 27) (by decide)) sh_27 rfl rfl rfl (Nat.le_of_ble_eq_true rfl) ⟨Nat.le_of_ble_eq_true rfl, Nat.le_of_ble_eq_true rfl⟩ ⟨Nat.zero_le _, Nat.zero_le _⟩ ?_
  refine J.if_ne (tgt := 37) hX 17 rfl (by decide) (fun b2 => ?_) (fun b2 => ?_)
  · rw [if_neg b2] at h
    refine J.aload_n hX 20 0 rfl rfl ?_
    refine J.getR hX 21 27 5 (hX.lt (k := 27) (by decide)) sh_27 rfl in_wsX50 12 (by decide) w_84 rfl rfl ?_
    refine J.iload_n hX 22 1 rfl rfl ?_
    obtain ⟨t4, et4, hb, h⟩ := ld_inv h
    refine J.ialdN hX 23 37 (hX.lt (k := 37) (by decide)) sh_37 hb et4 rfl ?_
    refine J.istore (L' := [(4, .int t4), (0, .ref (ad 27)), (1, .int l1), (2, .int l2), (3, .int l3)]) hX 24 rfl (by decide) rfl ?_
    refine J.aload_n hX 25 1 rfl rfl ?_
    refine J.getR hX 26 27 5 (hX.lt (k := 27) (by decide)) sh_27 rfl in_wsX50 12 (by decide) w_84 rfl rfl ?_
    refine J.iload_n hX 27 2 rfl rfl ?_
    refine J.iload_n hX 28 3 rfl rfl ?_
    obtain ⟨N4, eN4, hb, h⟩ := sto_inv h
    refine J.iastN hX 29 37 (hX.lt (k := 37) (by decide)) sh_37 hb eN4 rfl ?_
    refine J.aload_n hX 30 1 rfl rfl ?_
    refine J.getR hX 31 27 5 (hX.lt (k := 27) (by decide)) sh_27 rfl in_wsX50 13 (by decide) w_85 rfl rfl ?_
    refine J.iload_n hX 32 2 rfl rfl ?_
    refine J.iload_n hX 33 4 rfl rfl ?_
    obtain ⟨N5, eN5, hb, h⟩ := sto_inv h
    refine J.iastN hX 34 38 (hX.lt (k := 38) (by decide)) sh_38 hb eN5 rfl ?_
    refine J.iload hX 35 0 rfl rfl ?_
    cases h
    exact J.iret hX hr 36 rfl
  · rw [if_pos b2] at h
    refine J.iconst (v := 0) hX 18 rfl (by decide) ?_
    cases h
    exact J.iret hX hr 19 rfl
set_option maxHeartbeats 4000000 in
set_option maxRecDepth 100000 in
theorem X5_frame_j21_ok (hX : Cx p s m args meth c D cA ad n A sa cX5_frame 5 RX5 kX5_frame) {N1 : Mem} {l1 : Int32} {l2 : Int32} {l3 : Int32} {r : Int32} {Mf : Mem}  (hr : meth.sig.returnType = (some .int)) (ht : ∀ x ∈ c.exceptionTable.toList, False) (h : X5_frame_j21 N1 l1 l2 l3 = some (r, Mf)) : JM 1 22 p l e s m args below meth c D cA ad n A 5 (.inl (some (.int r))) Mf N1 21 [(0, .ref (ad 27)), (1, .int l1), (2, .int l2), (3, .int l3)] [.ref (ad 27)] := by
  unfold X5_frame_j21 at h
  refine J.iconst (v := 0) hX 11 rfl (by decide) ?_
  refine J.sub (L' := [(0, .ref (ad 27)), (1, .int l1), (2, .int l2), (3, .int l3)]) [0, 1, 2, 3] rfl ?_
  exact X5_frame_j22_ok hX  hr ht h
set_option maxHeartbeats 4000000 in
set_option maxRecDepth 100000 in
theorem mX5_frame {l : Launch} {D : va_G} {cA : Nat → ClassId} {ad : Nat → Nat} {n : Nat} {A : Nat → Prop} {sa : Nat → Nat} {M : Mem} {l1 : Int32} {l2 : Int32} {l3 : Int32} {r : Int32} {Mf : Mem} (h : X5_frame M l1 l2 l3 = some (r, Mf)) : CT l D cA ad n A sa yX5_frame cX5_frame 5 (some .int) 1 22 [.ref (ad 27), .int l1, .int l2, .int l3] M (.inl (some (.int r))) Mf := by
  refine CT.of (kt := kX5_frame) (by decide) kX5_frame_ok (Nat.le_of_ble_eq_true rfl) ?_
  intro p e s m args below meth c hX hr ht
  unfold X5_frame at h
  refine J.sub (L' := [(0, .ref (ad 27)), (1, .int l1), (2, .int l2), (3, .int l3)]) [0, 1, 2, 3] rfl ?_
  refine J.aload_n hX 0 0 rfl rfl ?_
  refine J.iload_n hX 1 1 rfl rfl ?_
  refine J.iconst (v := 0) hX 2 rfl (by decide) ?_
  refine J.iconst (v := 1) hX 3 rfl (by decide) ?_
  obtain ⟨t1, hc, h⟩ := bd1_inv h
  refine J.callS1 (As := [.int l1, .int 0, .int 1]) (rest := [.ref (ad 27)]) hX 4 rfl (mX5_within  hc) okX5_within w_134 rfl rfl (Nat.le_of_ble_eq_true rfl) ⟨Nat.le_of_ble_eq_true rfl, Nat.le_of_ble_eq_true rfl⟩ ⟨Nat.zero_le _, Nat.zero_le _⟩ ?_
  refine J.if_eq (tgt := 21) hX 5 rfl (by decide) (fun b1 => ?_) (fun b1 => ?_)
  · rw [if_pos b1] at h
    refine J.sub (L' := [(0, .ref (ad 27)), (1, .int l1), (2, .int l2), (3, .int l3)]) [0, 1, 2, 3] rfl ?_
    exact X5_frame_j21_ok hX  hr ht h
  · rw [if_neg b1] at h
    refine J.iload_n hX 6 3 rfl rfl ?_
    obtain ⟨t5, hc, h⟩ := bd1_inv h
    refine J.callS1 (As := [.int l3]) (rest := [.ref (ad 27)]) hX 7 rfl (mX5_isCloth  hc) okX5_isCloth w_177 rfl rfl (Nat.le_of_ble_eq_true rfl) ⟨Nat.le_of_ble_eq_true rfl, Nat.le_of_ble_eq_true rfl⟩ ⟨Nat.zero_le _, Nat.zero_le _⟩ ?_
    refine J.if_eq (tgt := 21) hX 8 rfl (by decide) (fun b3 => ?_) (fun b3 => ?_)
    · rw [if_pos b3] at h
      refine J.sub (L' := [(0, .ref (ad 27)), (1, .int l1), (2, .int l2), (3, .int l3)]) [0, 1, 2, 3] rfl ?_
      exact X5_frame_j21_ok hX  hr ht h
    · rw [if_neg b3] at h
      refine J.iconst (v := 1) hX 9 rfl (by decide) ?_
      refine J.goto (tgt := 22) hX 10 rfl (by decide) ?_
      refine J.sub (L' := [(0, .ref (ad 27)), (1, .int l1), (2, .int l2), (3, .int l3)]) [0, 1, 2, 3] rfl ?_
      exact X5_frame_j22_ok hX  hr ht h
def X5_turned_L21 (M : Mem) (l2 : Int32) (l3 : Int32) (q9 : Int32 × Int32 × Int32) : Option ((Int32 × Int32 × Int32) ⊕ (Int32 × Int32)) := un3 q9 (fun c1 c2 c3 => if (l2 - l2 / 4 * 4) ≤ c3 then (some (.inr (c1, c2))) else (bnd ((96 - c2)) (fun t1 => bnd (c3 + 1) (fun t2 => some (.inl (t1, c1, t2))))))
def X5_turned_j61 (M : Mem) (v2 : Int32) : Option (Int32) := some v2
def X5_turned_j13 (M : Mem) (l1 : Int32) (l2 : Int32) (l3 : Int32) (v1 : Int32) : Option (Int32) := bd2 (loop (X5_turned_L21 M l2 l3) 3000 (v1, l1, 0)) (fun x1 x2 => if l3 = 0 then (X5_turned_j61 M x1) else (X5_turned_j61 M x2))
def X5_turned (M : Mem) (l0 : Int32) (l1 : Int32) (l2 : Int32) (l3 : Int32) : Option (Int32) := if l2 < 4 then (X5_turned_j13 M l1 l2 l3 l0) else (X5_turned_j13 M l1 l2 l3 (96 - l0))
set_option maxHeartbeats 4000000 in
set_option maxRecDepth 100000 in
theorem X5_turned_L21_ok (hX : Cx p s m args meth c D cA ad n A sa cX5_turned 8 RX5 kX5_turned) {M : Mem} {l2 : Int32} {l3 : Int32} {c1 : Int32} {c2 : Int32} {c3 : Int32}  {r : (Int32 × Int32 × Int32) ⊕ (Int32 × Int32)} (h : X5_turned_L21 M l2 l3 (c1, c2, c3) = some r) (hin : ∀ (q0 : Int32) (q1 : Int32) (q2 : Int32), r = .inl (q0, q1, q2) → JM 0 0 p l e s m args below meth c D cA ad n A 8 out M1 M 21 [(2, .int l2), (3, .int l3), (4, .int q0), (5, .int q1), (6, .int q2)] []) (hex0 : ∀ (q0 : Int32) (q1 : Int32), r = .inr (q0, q1) → JM 0 0 p l e s m args below meth c D cA ad n A 8 out M1 M 50 [(3, .int l3), (4, .int q0), (5, .int q1)] []) : JM 0 0 p l e s m args below meth c D cA ad n A 8 out M1 M 21 [(2, .int l2), (3, .int l3), (4, .int c1), (5, .int c2), (6, .int c3)] [] := by
  unfold X5_turned_L21 at h
  have h := un3_inv h
  refine J.iload hX 13 4 rfl rfl ?_
  refine J.iload_n hX 14 0 rfl rfl ?_
  refine J.iconst (v := 4) hX 15 rfl (by decide) ?_
  refine J.irem hX 16 rfl (by decide) ?_
  refine J.icmp_ge (tgt := 50) hX 17 rfl (by decide) (fun b2 => ?_) (fun b2 => ?_)
  · rw [if_pos b2] at h
    refine J.sub (L' := [(3, .int l3), (4, .int c1), (5, .int c2)]) [1, 2, 3] rfl ?_
    exact hex0 _ _ (Option.some.inj h).symm
  · rw [if_neg b2] at h
    refine J.iload hX 18 2 rfl rfl ?_
    refine J.istore (L' := [(7, .int c1), (2, .int l2), (3, .int l3), (4, .int c1), (5, .int c2), (6, .int c3)]) hX 19 rfl (by decide) rfl ?_
    refine J.bipush (v := 96) hX 20 rfl (by decide) ?_
    refine J.iload hX 21 4 rfl rfl ?_
    refine J.isub hX 22 rfl ?_
    obtain ⟨t1, et1, h⟩ := bnd_inv h
    refine J.nm et1 ?_
    refine J.istore (L' := [(4, .int t1), (7, .int c1), (2, .int l2), (3, .int l3), (5, .int c2), (6, .int c3)]) hX 23 rfl (by decide) rfl ?_
    refine J.iload hX 24 1 rfl rfl ?_
    refine J.istore (L' := [(5, .int c1), (4, .int t1), (7, .int c1), (2, .int l2), (3, .int l3), (6, .int c3)]) hX 25 rfl (by decide) rfl ?_
    obtain ⟨t2, et2, h⟩ := bnd_inv h
    refine J.iinc (q := 5) (L' := [(6, .int t2), (5, .int c1), (4, .int t1), (7, .int c1), (2, .int l2), (3, .int l3)]) hX 26 rfl rfl et2 (by decide) rfl ?_
    refine J.goto (tgt := 21) hX 27 rfl (by decide) ?_
    refine J.sub (L' := [(2, .int l2), (3, .int l3), (4, .int t1), (5, .int c1), (6, .int t2)]) [4, 5, 2, 1, 0] rfl ?_
    exact hin _ _ _ (Option.some.inj h).symm
set_option maxHeartbeats 4000000 in
set_option maxRecDepth 100000 in
theorem X5_turned_j61_ok (hX : Cx p s m args meth c D cA ad n A sa cX5_turned 8 RX5 kX5_turned) {M : Mem} {v2 : Int32} {r : Int32}  (hr : meth.sig.returnType = (some .int)) (ht : ∀ x ∈ c.exceptionTable.toList, False) (h : X5_turned_j61 M v2 = some r) : JM 0 0 p l e s m args below meth c D cA ad n A 8 (.inl (some (.int r))) M M 61 [] [.int v2] := by
  unfold X5_turned_j61 at h
  cases h
  exact J.iret hX hr 33 rfl
set_option maxHeartbeats 4000000 in
set_option maxRecDepth 100000 in
theorem X5_turned_j13_ok (hX : Cx p s m args meth c D cA ad n A sa cX5_turned 8 RX5 kX5_turned) {M : Mem} {l1 : Int32} {l2 : Int32} {l3 : Int32} {v1 : Int32} {r : Int32}  (hr : meth.sig.returnType = (some .int)) (ht : ∀ x ∈ c.exceptionTable.toList, False) (h : X5_turned_j13 M l1 l2 l3 v1 = some r) : JM 0 0 p l e s m args below meth c D cA ad n A 8 (.inl (some (.int r))) M M 13 [(1, .int l1), (2, .int l2), (3, .int l3)] [.int v1] := by
  unfold X5_turned_j13 at h
  refine J.istore (L' := [(4, .int v1), (1, .int l1), (2, .int l2), (3, .int l3)]) hX 8 rfl (by decide) rfl ?_
  refine J.iload_n hX 9 1 rfl rfl ?_
  refine J.istore (L' := [(5, .int l1), (4, .int v1), (1, .int l1), (2, .int l2), (3, .int l3)]) hX 10 rfl (by decide) rfl ?_
  refine J.iconst (v := 0) hX 11 rfl (by decide) ?_
  refine J.istore (L' := [(6, .int 0), (5, .int l1), (4, .int v1), (1, .int l1), (2, .int l2), (3, .int l3)]) hX 12 rfl (by decide) rfl ?_
  refine J.sub (L' := [(2, .int l2), (3, .int l3), (4, .int v1), (5, .int l1), (6, .int 0)]) [4, 5, 2, 1, 0] rfl ?_
  obtain ⟨x1, x2, hlp, h⟩ := bd2_inv h
  suffices hE : JM 0 0 p l e s m args below meth c D cA ad n A 8 (.inl (some (.int r))) M M 50 [(3, .int l3), (4, .int x1), (5, .int x2)] [] by
    exact loop_ok (fun q9 : Int32 × Int32 × Int32 => JM 0 0 p l e s m args below meth c D cA ad n A 8 (.inl (some (.int r))) M M 21 [(2, .int l2), (3, .int l3), (4, .int q9.1), (5, .int q9.2.1), (6, .int q9.2.2)] []) (fun q9 r hB hst hex9 => X5_turned_L21_ok hX  hB (fun _ _ _ hr => hst _ hr) (fun _ _ hr => by cases hex9 _ hr; exact hE)) 3000 _ hlp
  refine J.iload_n hX 28 0 rfl rfl ?_
  refine J.if_ne (tgt := 59) hX 29 rfl (by decide) (fun b3 => ?_) (fun b3 => ?_)
  · rw [if_neg b3] at h
    refine J.iload hX 32 2 rfl rfl ?_
    refine J.sub (L' := []) [] rfl ?_
    exact X5_turned_j61_ok hX  hr ht h
  · rw [if_pos b3] at h
    refine J.iload hX 30 1 rfl rfl ?_
    refine J.goto (tgt := 61) hX 31 rfl (by decide) ?_
    refine J.sub (L' := []) [] rfl ?_
    exact X5_turned_j61_ok hX  hr ht h
set_option maxHeartbeats 4000000 in
set_option maxRecDepth 100000 in
theorem mX5_turned {l : Launch} {D : va_G} {cA : Nat → ClassId} {ad : Nat → Nat} {n : Nat} {A : Nat → Prop} {sa : Nat → Nat} {M : Mem} {l0 : Int32} {l1 : Int32} {l2 : Int32} {l3 : Int32} {r : Int32} (h : X5_turned M l0 l1 l2 l3 = some r) : CT l D cA ad n A sa yX5_turned cX5_turned 8 (some .int) 0 0 [.int l0, .int l1, .int l2, .int l3] M (.inl (some (.int r))) M := by
  refine CT.of (kt := kX5_turned) (by decide) kX5_turned_ok (Nat.le_of_ble_eq_true rfl) ?_
  intro p e s m args below meth c hX hr ht
  unfold X5_turned at h
  refine J.sub (L' := [(0, .int l0), (1, .int l1), (2, .int l2), (3, .int l3)]) [0, 1, 2, 3] rfl ?_
  refine J.iload_n hX 0 2 rfl rfl ?_
  refine J.iconst (v := 4) hX 1 rfl (by decide) ?_
  refine J.icmp_lt (tgt := 12) hX 2 rfl (by decide) (fun b1 => ?_) (fun b1 => ?_)
  · rw [if_pos b1] at h
    refine J.iload_n hX 7 0 rfl rfl ?_
    refine J.sub (L' := [(1, .int l1), (2, .int l2), (3, .int l3)]) [1, 2, 3] rfl ?_
    exact X5_turned_j13_ok hX  hr ht h
  · rw [if_neg b1] at h
    refine J.bipush (v := 96) hX 3 rfl (by decide) ?_
    refine J.iload_n hX 4 0 rfl rfl ?_
    refine J.isub hX 5 rfl ?_
    refine J.goto (tgt := 13) hX 6 rfl (by decide) ?_
    refine J.sub (L' := [(1, .int l1), (2, .int l2), (3, .int l3)]) [1, 2, 3] rfl ?_
    exact X5_turned_j13_ok hX  hr ht h
def X5_hasCorner_L34_j122 (M : Mem) (l1 : Int32) (l2 : Int32) (l3 : Int32) (c2 : Int32) (v2 : Int32) (v3 : Int32) : Option ((Int32 × Int32) ⊕ (Int32)) := bnd (v2 + 1) (fun t6 => some (.inl (v3, t6)))
def X5_hasCorner_L34_j117 (M : Mem) (l1 : Int32) (l2 : Int32) (l3 : Int32) (c2 : Int32) (v1 : Int32) : Option ((Int32 × Int32) ⊕ (Int32)) := X5_hasCorner_L34_j122 M l1 l2 l3 c2 v1 1
def X5_hasCorner_L34_j121 (M : Mem) (l1 : Int32) (l2 : Int32) (l3 : Int32) (c2 : Int32) (v4 : Int32) : Option ((Int32 × Int32) ⊕ (Int32)) := X5_hasCorner_L34_j122 M l1 l2 l3 c2 v4 0
def X5_hasCorner_L34 (M : Mem) (l1 : Int32) (l2 : Int32) (l3 : Int32) (c2 : Int32) (q9 : Int32 × Int32) : Option ((Int32 × Int32) ⊕ (Int32)) := un2 q9 (fun c3 c4 => ld M 28 264 c2 (fun t4 => if t4 ≤ c4 then (some (.inr c3)) else (bnd (((8 * c2) + c4)) (fun t5 => if c3 = 0 then (ld M 30 2112 t5 (fun t7 => ld M 31 2112 t5 (fun t8 => ld M 36 36 l1 (fun t9 => bd1 (X5_turned M t7 t8 t9 0) (fun t10 => if t10 = l2 then (ld M 30 2112 t5 (fun t11 => ld M 31 2112 t5 (fun t12 => ld M 36 36 l1 (fun t13 => bd1 (X5_turned M t11 t12 t13 1) (fun t14 => if t14 = l3 then (X5_hasCorner_L34_j117 M l1 l2 l3 c2 c4) else (X5_hasCorner_L34_j121 M l1 l2 l3 c2 c4)))))) else (X5_hasCorner_L34_j121 M l1 l2 l3 c2 c4)))))) else (X5_hasCorner_L34_j117 M l1 l2 l3 c2 c4)))))
def X5_hasCorner_L14 (M : Mem) (l1 : Int32) (l2 : Int32) (l3 : Int32) (q9 : Int32 × Int32) : Option ((Int32 × Int32) ⊕ (Int32)) := un2 q9 (fun c1 c2 => ld M 35 36 l1 (fun t3 => if ((24 * t3) + 24) ≤ c2 then (some (.inr c1)) else (bd1 (loop (X5_hasCorner_L34 M l1 l2 l3 c2) 3000 (c1, 0)) (fun x1 => bnd (c2 + 1) (fun t15 => some (.inl (x1, t15)))))))
def X5_hasCorner (M : Mem) (l1 : Int32) (l2 : Int32) (l3 : Int32) : Option (Int32) := ld M 35 36 l1 (fun t1 => bnd ((24 * t1)) (fun t2 => bd1 (loop (X5_hasCorner_L14 M l1 l2 l3) 3000 (0, t2)) (fun x2 => chk (isB x2) (some x2))))
set_option maxHeartbeats 4000000 in
set_option maxRecDepth 100000 in
theorem X5_hasCorner_L34_j122_ok (hX : Cx p s m args meth c D cA ad n A sa cX5_hasCorner 8 RX5 kX5_hasCorner) {M : Mem} {l1 : Int32} {l2 : Int32} {l3 : Int32} {c2 : Int32} {v2 : Int32} {v3 : Int32}  {r : (Int32 × Int32) ⊕ (Int32)} (h : X5_hasCorner_L34_j122 M l1 l2 l3 c2 v2 v3 = some r) (hin : ∀ (q0 : Int32) (q1 : Int32), r = .inl (q0, q1) → JM 1 27 p l e s m args below meth c D cA ad n A 8 out M1 M 34 [(0, .ref (ad 27)), (1, .int l1), (2, .int l2), (3, .int l3), (4, .int q0), (5, .int c2), (6, .int q1)] []) (hex0 : ∀ (q0 : Int32), r = .inr q0 → JM 1 27 p l e s m args below meth c D cA ad n A 8 out M1 M 130 [(0, .ref (ad 27)), (1, .int l1), (2, .int l2), (3, .int l3), (4, .int q0), (5, .int c2)] []) : JM 1 27 p l e s m args below meth c D cA ad n A 8 out M1 M 122 [(0, .ref (ad 27)), (1, .int l1), (2, .int l2), (3, .int l3), (5, .int c2), (6, .int v2)] [.int v3] := by
  unfold X5_hasCorner_L34_j122 at h
  refine J.istore (L' := [(4, .int v3), (0, .ref (ad 27)), (1, .int l1), (2, .int l2), (3, .int l3), (5, .int c2), (6, .int v2)]) hX 70 rfl (by decide) rfl ?_
  obtain ⟨t6, et6, h⟩ := bnd_inv h
  refine J.iinc (q := 6) (L' := [(6, .int t6), (4, .int v3), (0, .ref (ad 27)), (1, .int l1), (2, .int l2), (3, .int l3), (5, .int c2)]) hX 71 rfl rfl et6 (by decide) rfl ?_
  refine J.goto (tgt := 34) hX 72 rfl (by decide) ?_
  refine J.sub (L' := [(0, .ref (ad 27)), (1, .int l1), (2, .int l2), (3, .int l3), (4, .int v3), (5, .int c2), (6, .int t6)]) [2, 3, 4, 5, 1, 6, 0] rfl ?_
  exact hin _ _ (Option.some.inj h).symm
set_option maxHeartbeats 4000000 in
set_option maxRecDepth 100000 in
theorem X5_hasCorner_L34_j117_ok (hX : Cx p s m args meth c D cA ad n A sa cX5_hasCorner 8 RX5 kX5_hasCorner) {M : Mem} {l1 : Int32} {l2 : Int32} {l3 : Int32} {c2 : Int32} {v1 : Int32}  {r : (Int32 × Int32) ⊕ (Int32)} (h : X5_hasCorner_L34_j117 M l1 l2 l3 c2 v1 = some r) (hin : ∀ (q0 : Int32) (q1 : Int32), r = .inl (q0, q1) → JM 1 27 p l e s m args below meth c D cA ad n A 8 out M1 M 34 [(0, .ref (ad 27)), (1, .int l1), (2, .int l2), (3, .int l3), (4, .int q0), (5, .int c2), (6, .int q1)] []) (hex0 : ∀ (q0 : Int32), r = .inr q0 → JM 1 27 p l e s m args below meth c D cA ad n A 8 out M1 M 130 [(0, .ref (ad 27)), (1, .int l1), (2, .int l2), (3, .int l3), (4, .int q0), (5, .int c2)] []) : JM 1 27 p l e s m args below meth c D cA ad n A 8 out M1 M 117 [(0, .ref (ad 27)), (1, .int l1), (2, .int l2), (3, .int l3), (5, .int c2), (6, .int v1)] [] := by
  unfold X5_hasCorner_L34_j117 at h
  refine J.iconst (v := 1) hX 67 rfl (by decide) ?_
  refine J.goto (tgt := 122) hX 68 rfl (by decide) ?_
  refine J.sub (L' := [(0, .ref (ad 27)), (1, .int l1), (2, .int l2), (3, .int l3), (5, .int c2), (6, .int v1)]) [0, 1, 2, 3, 4, 5] rfl ?_
  exact X5_hasCorner_L34_j122_ok hX  h hin hex0
set_option maxHeartbeats 4000000 in
set_option maxRecDepth 100000 in
theorem X5_hasCorner_L34_j121_ok (hX : Cx p s m args meth c D cA ad n A sa cX5_hasCorner 8 RX5 kX5_hasCorner) {M : Mem} {l1 : Int32} {l2 : Int32} {l3 : Int32} {c2 : Int32} {v4 : Int32}  {r : (Int32 × Int32) ⊕ (Int32)} (h : X5_hasCorner_L34_j121 M l1 l2 l3 c2 v4 = some r) (hin : ∀ (q0 : Int32) (q1 : Int32), r = .inl (q0, q1) → JM 1 27 p l e s m args below meth c D cA ad n A 8 out M1 M 34 [(0, .ref (ad 27)), (1, .int l1), (2, .int l2), (3, .int l3), (4, .int q0), (5, .int c2), (6, .int q1)] []) (hex0 : ∀ (q0 : Int32), r = .inr q0 → JM 1 27 p l e s m args below meth c D cA ad n A 8 out M1 M 130 [(0, .ref (ad 27)), (1, .int l1), (2, .int l2), (3, .int l3), (4, .int q0), (5, .int c2)] []) : JM 1 27 p l e s m args below meth c D cA ad n A 8 out M1 M 121 [(0, .ref (ad 27)), (1, .int l1), (2, .int l2), (3, .int l3), (5, .int c2), (6, .int v4)] [] := by
  unfold X5_hasCorner_L34_j121 at h
  refine J.iconst (v := 0) hX 69 rfl (by decide) ?_
  refine J.sub (L' := [(0, .ref (ad 27)), (1, .int l1), (2, .int l2), (3, .int l3), (5, .int c2), (6, .int v4)]) [0, 1, 2, 3, 4, 5] rfl ?_
  exact X5_hasCorner_L34_j122_ok hX  h hin hex0
set_option maxHeartbeats 4000000 in
set_option maxRecDepth 100000 in
theorem X5_hasCorner_L34_ok (hX : Cx p s m args meth c D cA ad n A sa cX5_hasCorner 8 RX5 kX5_hasCorner) {M : Mem} {l1 : Int32} {l2 : Int32} {l3 : Int32} {c2 : Int32} {c3 : Int32} {c4 : Int32}  {r : (Int32 × Int32) ⊕ (Int32)} (h : X5_hasCorner_L34 M l1 l2 l3 c2 (c3, c4) = some r) (hin : ∀ (q0 : Int32) (q1 : Int32), r = .inl (q0, q1) → JM 1 27 p l e s m args below meth c D cA ad n A 8 out M1 M 34 [(0, .ref (ad 27)), (1, .int l1), (2, .int l2), (3, .int l3), (4, .int q0), (5, .int c2), (6, .int q1)] []) (hex0 : ∀ (q0 : Int32), r = .inr q0 → JM 1 27 p l e s m args below meth c D cA ad n A 8 out M1 M 130 [(0, .ref (ad 27)), (1, .int l1), (2, .int l2), (3, .int l3), (4, .int q0), (5, .int c2)] []) : JM 1 27 p l e s m args below meth c D cA ad n A 8 out M1 M 34 [(0, .ref (ad 27)), (1, .int l1), (2, .int l2), (3, .int l3), (4, .int c3), (5, .int c2), (6, .int c4)] [] := by
  unfold X5_hasCorner_L34 at h
  have h := un2_inv h
  refine J.iload hX 21 6 rfl rfl ?_
  refine J.aload_n hX 22 0 rfl rfl ?_
  refine J.getR hX 23 27 5 (hX.lt (k := 27) (by decide)) sh_27 rfl in_wsX50 2 (by decide) w_75 rfl rfl ?_
  refine J.iload hX 24 5 rfl rfl ?_
  obtain ⟨t4, et4, hb, h⟩ := ld_inv h
  refine J.ialdN hX 25 28 (hX.lt (k := 28) (by decide)) sh_28 hb et4 rfl ?_
  refine J.icmp_ge (tgt := 130) hX 26 rfl (by decide) (fun b2 => ?_) (fun b2 => ?_)
  · rw [if_pos b2] at h
    refine J.sub (L' := [(0, .ref (ad 27)), (1, .int l1), (2, .int l2), (3, .int l3), (4, .int c3), (5, .int c2)]) [0, 1, 2, 3, 4, 5] rfl ?_
    exact hex0 _ (Option.some.inj h).symm
  · rw [if_neg b2] at h
    refine J.bipush (v := 8) hX 27 rfl (by decide) ?_
    refine J.iload hX 28 5 rfl rfl ?_
    refine J.imul hX 29 rfl ?_
    refine J.iload hX 30 6 rfl rfl ?_
    refine J.iadd hX 31 rfl ?_
    obtain ⟨t5, et5, h⟩ := bnd_inv h
    refine J.nm et5 ?_
    refine J.istore (L' := [(7, .int t5), (0, .ref (ad 27)), (1, .int l1), (2, .int l2), (3, .int l3), (4, .int c3), (5, .int c2), (6, .int c4)]) hX 32 rfl (by decide) rfl ?_
    refine J.iload hX 33 5 rfl rfl ?_
    refine J.if_ne (tgt := 117) hX 34 rfl (by decide) (fun b3 => ?_) (fun b3 => ?_)
    · rw [if_neg b3] at h
      refine J.sub (L' := [(0, .ref (ad 27)), (1, .int l1), (2, .int l2), (3, .int l3), (5, .int c2), (6, .int c4)]) [1, 2, 3, 4, 6, 7] rfl ?_
      exact X5_hasCorner_L34_j117_ok hX  h hin hex0
    · rw [if_pos b3] at h
      refine J.aload_n hX 35 1 rfl rfl ?_
      refine J.getR hX 36 27 5 (hX.lt (k := 27) (by decide)) sh_27 rfl in_wsX50 4 (by decide) w_77 rfl rfl ?_
      refine J.iload hX 37 0 rfl rfl ?_
      obtain ⟨t7, et7, hb, h⟩ := ld_inv h
      refine J.ialdN hX 38 30 (hX.lt (k := 30) (by decide)) sh_30 hb et7 rfl ?_
      refine J.aload_n hX 39 1 rfl rfl ?_
      refine J.getR hX 40 27 5 (hX.lt (k := 27) (by decide)) sh_27 rfl in_wsX50 5 (by decide) w_78 rfl rfl ?_
      refine J.iload hX 41 0 rfl rfl ?_
      obtain ⟨t8, et8, hb, h⟩ := ld_inv h
      refine J.ialdN hX 42 31 (hX.lt (k := 31) (by decide)) sh_31 hb et8 rfl ?_
      refine J.aload_n hX 43 1 rfl rfl ?_
      refine J.getR hX 44 27 5 (hX.lt (k := 27) (by decide)) sh_27 rfl in_wsX50 11 (by decide) w_83 rfl rfl ?_
      refine J.iload_n hX 45 2 rfl rfl ?_
      obtain ⟨t9, et9, hb, h⟩ := ld_inv h
      refine J.ialdN hX 46 36 (hX.lt (k := 36) (by decide)) sh_36 hb et9 rfl ?_
      refine J.iconst (v := 0) hX 47 rfl (by decide) ?_
      obtain ⟨t10, hc, h⟩ := bd1_inv h
      refine J.callS1 (As := [.int t7, .int t8, .int t9, .int 0]) (rest := []) hX 48 rfl (mX5_turned  hc) okX5_turned w_451 rfl rfl (Nat.le_of_ble_eq_true rfl) ⟨Nat.le_of_ble_eq_true rfl, Nat.le_of_ble_eq_true rfl⟩ ⟨Nat.zero_le _, Nat.zero_le _⟩ ?_
      refine J.iload_n hX 49 3 rfl rfl ?_
      refine J.icmp_ne (tgt := 121) hX 50 rfl (by decide) (fun b4 => ?_) (fun b4 => ?_)
      · rw [if_neg b4] at h
        refine J.sub (L' := [(0, .ref (ad 27)), (1, .int l1), (2, .int l2), (3, .int l3), (5, .int c2), (6, .int c4)]) [1, 2, 3, 4, 6, 7] rfl ?_
        exact X5_hasCorner_L34_j121_ok hX  h hin hex0
      · rw [if_pos b4] at h
        refine J.aload_n hX 51 1 rfl rfl ?_
        refine J.getR hX 52 27 5 (hX.lt (k := 27) (by decide)) sh_27 rfl in_wsX50 4 (by decide) w_77 rfl rfl ?_
        refine J.iload hX 53 0 rfl rfl ?_
        obtain ⟨t11, et11, hb, h⟩ := ld_inv h
        refine J.ialdN hX 54 30 (hX.lt (k := 30) (by decide)) sh_30 hb et11 rfl ?_
        refine J.aload_n hX 55 1 rfl rfl ?_
        refine J.getR hX 56 27 5 (hX.lt (k := 27) (by decide)) sh_27 rfl in_wsX50 5 (by decide) w_78 rfl rfl ?_
        refine J.iload hX 57 0 rfl rfl ?_
        obtain ⟨t12, et12, hb, h⟩ := ld_inv h
        refine J.ialdN hX 58 31 (hX.lt (k := 31) (by decide)) sh_31 hb et12 rfl ?_
        refine J.aload_n hX 59 1 rfl rfl ?_
        refine J.getR hX 60 27 5 (hX.lt (k := 27) (by decide)) sh_27 rfl in_wsX50 11 (by decide) w_83 rfl rfl ?_
        refine J.iload_n hX 61 2 rfl rfl ?_
        obtain ⟨t13, et13, hb, h⟩ := ld_inv h
        refine J.ialdN hX 62 36 (hX.lt (k := 36) (by decide)) sh_36 hb et13 rfl ?_
        refine J.iconst (v := 1) hX 63 rfl (by decide) ?_
        obtain ⟨t14, hc, h⟩ := bd1_inv h
        refine J.callS1 (As := [.int t11, .int t12, .int t13, .int 1]) (rest := []) hX 64 rfl (mX5_turned  hc) okX5_turned w_451 rfl rfl (Nat.le_of_ble_eq_true rfl) ⟨Nat.le_of_ble_eq_true rfl, Nat.le_of_ble_eq_true rfl⟩ ⟨Nat.zero_le _, Nat.zero_le _⟩ ?_
        refine J.iload_n hX 65 4 rfl rfl ?_
        refine J.icmp_ne (tgt := 121) hX 66 rfl (by decide) (fun b5 => ?_) (fun b5 => ?_)
        · rw [if_neg b5] at h
          refine J.sub (L' := [(0, .ref (ad 27)), (1, .int l1), (2, .int l2), (3, .int l3), (5, .int c2), (6, .int c4)]) [1, 2, 3, 4, 6, 7] rfl ?_
          exact X5_hasCorner_L34_j121_ok hX  h hin hex0
        · rw [if_pos b5] at h
          refine J.sub (L' := [(0, .ref (ad 27)), (1, .int l1), (2, .int l2), (3, .int l3), (5, .int c2), (6, .int c4)]) [1, 2, 3, 4, 6, 7] rfl ?_
          exact X5_hasCorner_L34_j117_ok hX  h hin hex0
set_option maxHeartbeats 4000000 in
set_option maxRecDepth 100000 in
theorem X5_hasCorner_L14_ok (hX : Cx p s m args meth c D cA ad n A sa cX5_hasCorner 8 RX5 kX5_hasCorner) {M : Mem} {l1 : Int32} {l2 : Int32} {l3 : Int32} {c1 : Int32} {c2 : Int32}  {r : (Int32 × Int32) ⊕ (Int32)} (h : X5_hasCorner_L14 M l1 l2 l3 (c1, c2) = some r) (hin : ∀ (q0 : Int32) (q1 : Int32), r = .inl (q0, q1) → JM 1 27 p l e s m args below meth c D cA ad n A 8 out M1 M 14 [(0, .ref (ad 27)), (1, .int l1), (2, .int l2), (3, .int l3), (4, .int q0), (5, .int q1)] []) (hex0 : ∀ (q0 : Int32), r = .inr q0 → JM 1 27 p l e s m args below meth c D cA ad n A 8 out M1 M 136 [(4, .int q0)] []) : JM 1 27 p l e s m args below meth c D cA ad n A 8 out M1 M 14 [(0, .ref (ad 27)), (1, .int l1), (2, .int l2), (3, .int l3), (4, .int c1), (5, .int c2)] [] := by
  unfold X5_hasCorner_L14 at h
  have h := un2_inv h
  refine J.iload hX 9 5 rfl rfl ?_
  refine J.bipush (v := 24) hX 10 rfl (by decide) ?_
  refine J.aload_n hX 11 0 rfl rfl ?_
  refine J.getR hX 12 27 5 (hX.lt (k := 27) (by decide)) sh_27 rfl in_wsX50 10 (by decide) w_82 rfl rfl ?_
  refine J.iload_n hX 13 1 rfl rfl ?_
  obtain ⟨t3, et3, hb, h⟩ := ld_inv h
  refine J.ialdN hX 14 35 (hX.lt (k := 35) (by decide)) sh_35 hb et3 rfl ?_
  refine J.imul hX 15 rfl ?_
  refine J.bipush (v := 24) hX 16 rfl (by decide) ?_
  refine J.iadd hX 17 rfl ?_
  refine J.icmp_ge (tgt := 136) hX 18 rfl (by decide) (fun b1 => ?_) (fun b1 => ?_)
  · rw [if_pos b1] at h
    refine J.sub (L' := [(4, .int c1)]) [4] rfl ?_
    exact hex0 _ (Option.some.inj h).symm
  · rw [if_neg b1] at h
    refine J.iconst (v := 0) hX 19 rfl (by decide) ?_
    refine J.istore (L' := [(6, .int 0), (0, .ref (ad 27)), (1, .int l1), (2, .int l2), (3, .int l3), (4, .int c1), (5, .int c2)]) hX 20 rfl (by decide) rfl ?_
    refine J.sub (L' := [(0, .ref (ad 27)), (1, .int l1), (2, .int l2), (3, .int l3), (4, .int c1), (5, .int c2), (6, .int 0)]) [1, 2, 3, 4, 5, 6, 0] rfl ?_
    obtain ⟨x1, hlp, h⟩ := bd1_inv h
    suffices hE : JM 1 27 p l e s m args below meth c D cA ad n A 8 out M1 M 130 [(0, .ref (ad 27)), (1, .int l1), (2, .int l2), (3, .int l3), (4, .int x1), (5, .int c2)] [] by
      exact loop_ok (fun q9 : Int32 × Int32 => JM 1 27 p l e s m args below meth c D cA ad n A 8 out M1 M 34 [(0, .ref (ad 27)), (1, .int l1), (2, .int l2), (3, .int l3), (4, .int q9.1), (5, .int c2), (6, .int q9.2)] []) (fun q9 r hB hst hex9 => X5_hasCorner_L34_ok hX  hB (fun _ _ hr => hst _ hr) (fun _ hr => by cases hex9 _ hr; exact hE)) 3000 _ hlp
    obtain ⟨t15, et15, h⟩ := bnd_inv h
    refine J.iinc (q := 5) (L' := [(5, .int t15), (0, .ref (ad 27)), (1, .int l1), (2, .int l2), (3, .int l3), (4, .int x1)]) hX 73 rfl rfl et15 (by decide) rfl ?_
    refine J.goto (tgt := 14) hX 74 rfl (by decide) ?_
    refine J.sub (L' := [(0, .ref (ad 27)), (1, .int l1), (2, .int l2), (3, .int l3), (4, .int x1), (5, .int t15)]) [1, 2, 3, 4, 5, 0] rfl ?_
    exact hin _ _ (Option.some.inj h).symm
set_option maxHeartbeats 4000000 in
set_option maxRecDepth 100000 in
theorem mX5_hasCorner {l : Launch} {D : va_G} {cA : Nat → ClassId} {ad : Nat → Nat} {n : Nat} {A : Nat → Prop} {sa : Nat → Nat} {M : Mem} {l1 : Int32} {l2 : Int32} {l3 : Int32} {r : Int32} (h : X5_hasCorner M l1 l2 l3 = some r) : CT l D cA ad n A sa yX5_hasCorner cX5_hasCorner 8 (some .boolean) 1 27 [.ref (ad 27), .int l1, .int l2, .int l3] M (.inl (some (.int r))) M := by
  refine CT.of (kt := kX5_hasCorner) (by decide) kX5_hasCorner_ok (Nat.le_of_ble_eq_true rfl) ?_
  intro p e s m args below meth c hX hr ht
  unfold X5_hasCorner at h
  refine J.sub (L' := [(0, .ref (ad 27)), (1, .int l1), (2, .int l2), (3, .int l3)]) [0, 1, 2, 3] rfl ?_
  refine J.iconst (v := 0) hX 0 rfl (by decide) ?_
  refine J.istore (L' := [(4, .int 0), (0, .ref (ad 27)), (1, .int l1), (2, .int l2), (3, .int l3)]) hX 1 rfl (by decide) rfl ?_
  refine J.bipush (v := 24) hX 2 rfl (by decide) ?_
  refine J.aload_n hX 3 1 rfl rfl ?_
  refine J.getR hX 4 27 5 (hX.lt (k := 27) (by decide)) sh_27 rfl in_wsX50 10 (by decide) w_82 rfl rfl ?_
  refine J.iload_n hX 5 2 rfl rfl ?_
  obtain ⟨t1, et1, hb, h⟩ := ld_inv h
  refine J.ialdN hX 6 35 (hX.lt (k := 35) (by decide)) sh_35 hb et1 rfl ?_
  refine J.imul hX 7 rfl ?_
  obtain ⟨t2, et2, h⟩ := bnd_inv h
  refine J.nm et2 ?_
  refine J.istore (L' := [(5, .int t2), (4, .int 0), (0, .ref (ad 27)), (1, .int l1), (2, .int l2), (3, .int l3)]) hX 8 rfl (by decide) rfl ?_
  refine J.sub (L' := [(0, .ref (ad 27)), (1, .int l1), (2, .int l2), (3, .int l3), (4, .int 0), (5, .int t2)]) [2, 3, 4, 5, 1, 0] rfl ?_
  obtain ⟨x2, hlp, h⟩ := bd1_inv h
  suffices hE : JM 1 27 p l e s m args below meth c D cA ad n A 8 (.inl (some (.int r))) M M 136 [(4, .int x2)] [] by
    exact loop_ok (fun q9 : Int32 × Int32 => JM 1 27 p l e s m args below meth c D cA ad n A 8 (.inl (some (.int r))) M M 14 [(0, .ref (ad 27)), (1, .int l1), (2, .int l2), (3, .int l3), (4, .int q9.1), (5, .int q9.2)] []) (fun q9 r hB hst hex9 => X5_hasCorner_L14_ok hX  hB (fun _ _ hr => hst _ hr) (fun _ hr => by cases hex9 _ hr; exact hE)) 3000 _ hlp
  refine J.iload hX 75 0 rfl rfl ?_
  obtain ⟨hz, h⟩ := chk_inv h
  cases h
  exact J.zret hX hr 76 (isB_nar hz) rfl
def X5_mismatch_L70_j108 (N5 : Mem) (t3 : Int32) (v2 : Int32) (v3 : Int32) : Option ((Int32 × Int32) ⊕ (Int32)) := bnd (v2 + 1) (fun t8 => some (.inl (v3, t8)))
def X5_mismatch_L70 (N4 : Mem) (t3 : Int32) (q9 : Int32 × Int32) : Option ((Int32 × Int32) ⊕ (Int32)) := un2 q9 (fun c1 c2 => if 96 < c2 then (some (.inr c1)) else (bd1 (X5_hasCorner N4 t3 96 c2) (fun t6 => bd1 (X5_hasCorner N4 (t3 + 1) 0 c2) (fun t7 => if t6 = t7 then (X5_mismatch_L70_j108 N4 t3 c2 c1) else (X5_mismatch_L70_j108 N4 t3 c2 (c1 + 1))))))
def X5_mismatch_j24 (N2 : Mem) (l1 : Int32) (l2 : Int32) (v1 : Int32) : Option (Int32 × Mem) := bd2 (X5_goes N2 v1 1) (fun t2 N3 => if t2 = 0 then (some (0, N3)) else (bnd (((6 * l1) + l2)) (fun t3 => ld N3 35 36 t3 (fun t4 => if t4 = (-1) then (some ((-1), N3)) else (ld N3 35 36 (t3 + 1) (fun t5 => if t5 = (-1) then (some ((-1), N3)) else (bd1 (loop (X5_mismatch_L70 N3 t3) 3000 (0, 0)) (fun x1 => some (x1, N3)))))))))
def X5_mismatch_j23 (N1 : Mem) (l1 : Int32) (l2 : Int32) : Option (Int32 × Mem) := X5_mismatch_j24 N1 l1 l2 0
def X5_mismatch (M : Mem) (l1 : Int32) (l2 : Int32) : Option (Int32 × Mem) := bd1 (X5_within M l1 0 5) (fun t1 => if t1 = 0 then (X5_mismatch_j23 M l1 l2) else (bd1 (X5_within M l2 0 4) (fun t9 => if t9 = 0 then (X5_mismatch_j23 M l1 l2) else (X5_mismatch_j24 M l1 l2 1))))
set_option maxHeartbeats 4000000 in
set_option maxRecDepth 100000 in
theorem X5_mismatch_L70_j108_ok (hX : Cx p s m args meth c D cA ad n A sa cX5_mismatch 6 RX5 kX5_mismatch) {N5 : Mem} {t3 : Int32} {v2 : Int32} {v3 : Int32}  {r : (Int32 × Int32) ⊕ (Int32)} (h : X5_mismatch_L70_j108 N5 t3 v2 v3 = some r) (hin : ∀ (q0 : Int32) (q1 : Int32), r = .inl (q0, q1) → JM 2 54 p l e s m args below meth c D cA ad n A 6 out M1 N5 70 [(0, .ref (ad 27)), (3, .int t3), (4, .int q0), (5, .int q1)] []) (hex0 : ∀ (q0 : Int32), r = .inr q0 → JM 2 54 p l e s m args below meth c D cA ad n A 6 out M1 N5 116 [(4, .int q0)] []) : JM 2 54 p l e s m args below meth c D cA ad n A 6 out M1 N5 108 [(0, .ref (ad 27)), (3, .int t3), (5, .int v2)] [.int v3] := by
  unfold X5_mismatch_L70_j108 at h
  refine J.istore (L' := [(4, .int v3), (0, .ref (ad 27)), (3, .int t3), (5, .int v2)]) hX 66 rfl (by decide) rfl ?_
  obtain ⟨t8, et8, h⟩ := bnd_inv h
  refine J.iinc (q := 3) (L' := [(5, .int t8), (4, .int v3), (0, .ref (ad 27)), (3, .int t3)]) hX 67 rfl rfl et8 (by decide) rfl ?_
  refine J.goto (tgt := 70) hX 68 rfl (by decide) ?_
  refine J.sub (L' := [(0, .ref (ad 27)), (3, .int t3), (4, .int v3), (5, .int t8)]) [2, 3, 1, 0] rfl ?_
  exact hin _ _ (Option.some.inj h).symm
set_option maxHeartbeats 4000000 in
set_option maxRecDepth 100000 in
theorem X5_mismatch_L70_ok (hX : Cx p s m args meth c D cA ad n A sa cX5_mismatch 6 RX5 kX5_mismatch) {N4 : Mem} {t3 : Int32} {c1 : Int32} {c2 : Int32}  {r : (Int32 × Int32) ⊕ (Int32)} (h : X5_mismatch_L70 N4 t3 (c1, c2) = some r) (hin : ∀ (q0 : Int32) (q1 : Int32), r = .inl (q0, q1) → JM 2 54 p l e s m args below meth c D cA ad n A 6 out M1 N4 70 [(0, .ref (ad 27)), (3, .int t3), (4, .int q0), (5, .int q1)] []) (hex0 : ∀ (q0 : Int32), r = .inr q0 → JM 2 54 p l e s m args below meth c D cA ad n A 6 out M1 N4 116 [(4, .int q0)] []) : JM 2 54 p l e s m args below meth c D cA ad n A 6 out M1 N4 70 [(0, .ref (ad 27)), (3, .int t3), (4, .int c1), (5, .int c2)] [] := by
  unfold X5_mismatch_L70 at h
  have h := un2_inv h
  refine J.iload hX 45 3 rfl rfl ?_
  refine J.bipush (v := 96) hX 46 rfl (by decide) ?_
  refine J.icmp_gt (tgt := 116) hX 47 rfl (by decide) (fun b5 => ?_) (fun b5 => ?_)
  · rw [if_pos b5] at h
    refine J.sub (L' := [(4, .int c1)]) [2] rfl ?_
    exact hex0 _ (Option.some.inj h).symm
  · rw [if_neg b5] at h
    refine J.aload_n hX 48 0 rfl rfl ?_
    refine J.iload_n hX 49 1 rfl rfl ?_
    refine J.bipush (v := 96) hX 50 rfl (by decide) ?_
    refine J.iload hX 51 3 rfl rfl ?_
    obtain ⟨t6, hc, h⟩ := bd1_inv h
    refine J.callV1 (As := [.int t3, .int 96, .int c2]) (rest := []) (k := 27) hX 52 rfl (mX5_hasCorner  hc) okX5_hasCorner w_447 (hX.lt (k := 27) (by decide)) sh_27 rfl rfl rfl (Nat.le_of_ble_eq_true rfl) ⟨Nat.le_of_ble_eq_true rfl, Nat.le_of_ble_eq_true rfl⟩ ⟨Nat.zero_le _, Nat.zero_le _⟩ ?_
    refine J.aload_n hX 53 0 rfl rfl ?_
    refine J.iload_n hX 54 1 rfl rfl ?_
    refine J.iconst (v := 1) hX 55 rfl (by decide) ?_
    refine J.iadd hX 56 rfl ?_
    refine J.iconst (v := 0) hX 57 rfl (by decide) ?_
    refine J.iload hX 58 3 rfl rfl ?_
    obtain ⟨t7, hc, h⟩ := bd1_inv h
    refine J.callV1 (As := [.int (t3 + 1), .int 0, .int c2]) (rest := [.int t6]) (k := 27) hX 59 rfl (mX5_hasCorner  hc) okX5_hasCorner w_447 (hX.lt (k := 27) (by decide)) sh_27 rfl rfl rfl (Nat.le_of_ble_eq_true rfl) ⟨Nat.le_of_ble_eq_true rfl, Nat.le_of_ble_eq_true rfl⟩ ⟨Nat.zero_le _, Nat.zero_le _⟩ ?_
    refine J.icmp_eq (tgt := 106) hX 60 rfl (by decide) (fun b6 => ?_) (fun b6 => ?_)
    · rw [if_pos b6] at h
      refine J.iload hX 65 2 rfl rfl ?_
      refine J.sub (L' := [(0, .ref (ad 27)), (3, .int t3), (5, .int c2)]) [0, 1, 3] rfl ?_
      exact X5_mismatch_L70_j108_ok hX  h hin hex0
    · rw [if_neg b6] at h
      refine J.iload hX 61 2 rfl rfl ?_
      refine J.iconst (v := 1) hX 62 rfl (by decide) ?_
      refine J.iadd hX 63 rfl ?_
      refine J.goto (tgt := 108) hX 64 rfl (by decide) ?_
      refine J.sub (L' := [(0, .ref (ad 27)), (3, .int t3), (5, .int c2)]) [0, 1, 3] rfl ?_
      exact X5_mismatch_L70_j108_ok hX  h hin hex0
set_option maxHeartbeats 4000000 in
set_option maxRecDepth 100000 in
theorem X5_mismatch_j24_ok (hX : Cx p s m args meth c D cA ad n A sa cX5_mismatch 6 RX5 kX5_mismatch) {N2 : Mem} {l1 : Int32} {l2 : Int32} {v1 : Int32} {r : Int32} {Mf : Mem}  (hr : meth.sig.returnType = (some .int)) (ht : ∀ x ∈ c.exceptionTable.toList, False) (h : X5_mismatch_j24 N2 l1 l2 v1 = some (r, Mf)) : JM 2 54 p l e s m args below meth c D cA ad n A 6 (.inl (some (.int r))) Mf N2 24 [(0, .ref (ad 27)), (1, .int l1), (2, .int l2)] [.int v1, .ref (ad 27)] := by
  unfold X5_mismatch_j24 at h
  refine J.iconst (v := 1) hX 14 rfl (by decide) ?_
  obtain ⟨t2, N3, hc, h⟩ := bd2_inv h
  refine J.callV1 (As := [.int v1, .int 1]) (rest := []) (k := 27) hX 15 rfl (mX5_goes  hc) okX5_goes w_137 (hX.lt (k := 27) (by decide)) sh_27 rfl rfl rfl (Nat.le_of_ble_eq_true rfl) ⟨Nat.le_of_ble_eq_true rfl, Nat.le_of_ble_eq_true rfl⟩ ⟨Nat.zero_le _, Nat.zero_le _⟩ ?_
  refine J.if_ne (tgt := 33) hX 16 rfl (by decide) (fun b2 => ?_) (fun b2 => ?_)
  · rw [if_neg b2] at h
    refine J.bipush (v := 6) hX 19 rfl (by decide) ?_
    refine J.iload_n hX 20 1 rfl rfl ?_
    refine J.imul hX 21 rfl ?_
    refine J.iload_n hX 22 2 rfl rfl ?_
    refine J.iadd hX 23 rfl ?_
    obtain ⟨t3, et3, h⟩ := bnd_inv h
    refine J.nm et3 ?_
    refine J.istore_n (L' := [(3, .int t3), (0, .ref (ad 27)), (1, .int l1), (2, .int l2)]) hX 24 rfl (by decide) rfl ?_
    refine J.aload_n hX 25 1 rfl rfl ?_
    refine J.getR hX 26 27 5 (hX.lt (k := 27) (by decide)) sh_27 rfl in_wsX50 10 (by decide) w_82 rfl rfl ?_
    refine J.iload_n hX 27 0 rfl rfl ?_
    obtain ⟨t4, et4, hb, h⟩ := ld_inv h
    refine J.ialdN hX 28 35 (hX.lt (k := 35) (by decide)) sh_35 hb et4 rfl ?_
    refine J.iconst (v := (-1)) hX 29 rfl (by decide) ?_
    refine J.icmp_eq (tgt := 62) hX 30 rfl (by decide) (fun b3 => ?_) (fun b3 => ?_)
    · rw [if_pos b3] at h
      refine J.iconst (v := (-1)) hX 39 rfl (by decide) ?_
      cases h
      exact J.iret hX hr 40 rfl
    · rw [if_neg b3] at h
      refine J.aload_n hX 31 1 rfl rfl ?_
      refine J.getR hX 32 27 5 (hX.lt (k := 27) (by decide)) sh_27 rfl in_wsX50 10 (by decide) w_82 rfl rfl ?_
      refine J.iload_n hX 33 0 rfl rfl ?_
      refine J.iconst (v := 1) hX 34 rfl (by decide) ?_
      refine J.iadd hX 35 rfl ?_
      obtain ⟨t5, et5, hb, h⟩ := ld_inv h
      refine J.ialdN hX 36 35 (hX.lt (k := 35) (by decide)) sh_35 hb et5 rfl ?_
      refine J.iconst (v := (-1)) hX 37 rfl (by decide) ?_
      refine J.icmp_ne (tgt := 64) hX 38 rfl (by decide) (fun b4 => ?_) (fun b4 => ?_)
      · rw [if_neg b4] at h
        refine J.iconst (v := 0) hX 41 rfl (by decide) ?_
        refine J.istore (L' := [(4, .int 0), (3, .int t3), (0, .ref (ad 27)), (1, .int l1), (2, .int l2)]) hX 42 rfl (by decide) rfl ?_
        refine J.iconst (v := 0) hX 43 rfl (by decide) ?_
        refine J.istore (L' := [(5, .int 0), (4, .int 0), (3, .int t3), (0, .ref (ad 27)), (1, .int l1), (2, .int l2)]) hX 44 rfl (by decide) rfl ?_
        refine J.sub (L' := [(0, .ref (ad 27)), (3, .int t3), (4, .int 0), (5, .int 0)]) [3, 2, 1, 0] rfl ?_
        obtain ⟨x1, hlp, h⟩ := bd1_inv h
        suffices hE : JM 2 54 p l e s m args below meth c D cA ad n A 6 (.inl (some (.int r))) Mf N3 116 [(4, .int x1)] [] by
          exact loop_ok (fun q9 : Int32 × Int32 => JM 2 54 p l e s m args below meth c D cA ad n A 6 (.inl (some (.int r))) Mf N3 70 [(0, .ref (ad 27)), (3, .int t3), (4, .int q9.1), (5, .int q9.2)] []) (fun q9 r hB hst hex9 => X5_mismatch_L70_ok hX  hB (fun _ _ hr => hst _ hr) (fun _ hr => by cases hex9 _ hr; exact hE)) 3000 _ hlp
        refine J.iload hX 69 0 rfl rfl ?_
        cases h
        exact J.iret hX hr 70 rfl
      · rw [if_pos b4] at h
        refine J.iconst (v := (-1)) hX 39 rfl (by decide) ?_
        cases h
        exact J.iret hX hr 40 rfl
  · rw [if_pos b2] at h
    refine J.iconst (v := 0) hX 17 rfl (by decide) ?_
    cases h
    exact J.iret hX hr 18 rfl
set_option maxHeartbeats 4000000 in
set_option maxRecDepth 100000 in
theorem X5_mismatch_j23_ok (hX : Cx p s m args meth c D cA ad n A sa cX5_mismatch 6 RX5 kX5_mismatch) {N1 : Mem} {l1 : Int32} {l2 : Int32} {r : Int32} {Mf : Mem}  (hr : meth.sig.returnType = (some .int)) (ht : ∀ x ∈ c.exceptionTable.toList, False) (h : X5_mismatch_j23 N1 l1 l2 = some (r, Mf)) : JM 2 54 p l e s m args below meth c D cA ad n A 6 (.inl (some (.int r))) Mf N1 23 [(0, .ref (ad 27)), (1, .int l1), (2, .int l2)] [.ref (ad 27)] := by
  unfold X5_mismatch_j23 at h
  refine J.iconst (v := 0) hX 13 rfl (by decide) ?_
  refine J.sub (L' := [(0, .ref (ad 27)), (1, .int l1), (2, .int l2)]) [0, 1, 2] rfl ?_
  exact X5_mismatch_j24_ok hX  hr ht h
set_option maxHeartbeats 4000000 in
set_option maxRecDepth 100000 in
theorem mX5_mismatch {l : Launch} {D : va_G} {cA : Nat → ClassId} {ad : Nat → Nat} {n : Nat} {A : Nat → Prop} {sa : Nat → Nat} {M : Mem} {l1 : Int32} {l2 : Int32} {r : Int32} {Mf : Mem} (h : X5_mismatch M l1 l2 = some (r, Mf)) : CT l D cA ad n A sa yX5_mismatch cX5_mismatch 6 (some .int) 2 54 [.ref (ad 27), .int l1, .int l2] M (.inl (some (.int r))) Mf := by
  refine CT.of (kt := kX5_mismatch) (by decide) kX5_mismatch_ok (Nat.le_of_ble_eq_true rfl) ?_
  intro p e s m args below meth c hX hr ht
  unfold X5_mismatch at h
  refine J.sub (L' := [(0, .ref (ad 27)), (1, .int l1), (2, .int l2)]) [0, 1, 2] rfl ?_
  refine J.aload_n hX 0 0 rfl rfl ?_
  refine J.iload_n hX 1 1 rfl rfl ?_
  refine J.iconst (v := 0) hX 2 rfl (by decide) ?_
  refine J.iconst (v := 5) hX 3 rfl (by decide) ?_
  obtain ⟨t1, hc, h⟩ := bd1_inv h
  refine J.callS1 (As := [.int l1, .int 0, .int 5]) (rest := [.ref (ad 27)]) hX 4 rfl (mX5_within  hc) okX5_within w_134 rfl rfl (Nat.le_of_ble_eq_true rfl) ⟨Nat.le_of_ble_eq_true rfl, Nat.le_of_ble_eq_true rfl⟩ ⟨Nat.zero_le _, Nat.zero_le _⟩ ?_
  refine J.if_eq (tgt := 23) hX 5 rfl (by decide) (fun b1 => ?_) (fun b1 => ?_)
  · rw [if_pos b1] at h
    refine J.sub (L' := [(0, .ref (ad 27)), (1, .int l1), (2, .int l2)]) [0, 1, 2] rfl ?_
    exact X5_mismatch_j23_ok hX  hr ht h
  · rw [if_neg b1] at h
    refine J.iload_n hX 6 2 rfl rfl ?_
    refine J.iconst (v := 0) hX 7 rfl (by decide) ?_
    refine J.iconst (v := 4) hX 8 rfl (by decide) ?_
    obtain ⟨t9, hc, h⟩ := bd1_inv h
    refine J.callS1 (As := [.int l2, .int 0, .int 4]) (rest := [.ref (ad 27)]) hX 9 rfl (mX5_within  hc) okX5_within w_134 rfl rfl (Nat.le_of_ble_eq_true rfl) ⟨Nat.le_of_ble_eq_true rfl, Nat.le_of_ble_eq_true rfl⟩ ⟨Nat.zero_le _, Nat.zero_le _⟩ ?_
    refine J.if_eq (tgt := 23) hX 10 rfl (by decide) (fun b7 => ?_) (fun b7 => ?_)
    · rw [if_pos b7] at h
      refine J.sub (L' := [(0, .ref (ad 27)), (1, .int l1), (2, .int l2)]) [0, 1, 2] rfl ?_
      exact X5_mismatch_j23_ok hX  hr ht h
    · rw [if_neg b7] at h
      refine J.iconst (v := 1) hX 11 rfl (by decide) ?_
      refine J.goto (tgt := 24) hX 12 rfl (by decide) ?_
      refine J.sub (L' := [(0, .ref (ad 27)), (1, .int l1), (2, .int l2)]) [0, 1, 2] rfl ?_
      exact X5_mismatch_j24_ok hX  hr ht h
def X5_swapped_j19 (M : Mem) (v1 : Int32) : Option (Int32) := some v1
def X5_swapped (M : Mem) (l0 : Int32) (l1 : Int32) (l2 : Int32) : Option (Int32) := if l0 = l1 then (X5_swapped_j19 M l2) else (if l0 = l2 then (X5_swapped_j19 M l1) else (X5_swapped_j19 M l0))
set_option maxHeartbeats 4000000 in
set_option maxRecDepth 100000 in
theorem X5_swapped_j19_ok (hX : Cx p s m args meth c D cA ad n A sa cX5_swapped 3 RX5 kX5_swapped) {M : Mem} {v1 : Int32} {r : Int32}  (hr : meth.sig.returnType = (some .int)) (ht : ∀ x ∈ c.exceptionTable.toList, False) (h : X5_swapped_j19 M v1 = some r) : JM 0 0 p l e s m args below meth c D cA ad n A 3 (.inl (some (.int r))) M M 19 [] [.int v1] := by
  unfold X5_swapped_j19 at h
  cases h
  exact J.iret hX hr 11 rfl
set_option maxHeartbeats 4000000 in
set_option maxRecDepth 100000 in
theorem mX5_swapped {l : Launch} {D : va_G} {cA : Nat → ClassId} {ad : Nat → Nat} {n : Nat} {A : Nat → Prop} {sa : Nat → Nat} {M : Mem} {l0 : Int32} {l1 : Int32} {l2 : Int32} {r : Int32} (h : X5_swapped M l0 l1 l2 = some r) : CT l D cA ad n A sa yX5_swapped cX5_swapped 3 (some .int) 0 0 [.int l0, .int l1, .int l2] M (.inl (some (.int r))) M := by
  refine CT.of (kt := kX5_swapped) (by decide) kX5_swapped_ok (Nat.le_of_ble_eq_true rfl) ?_
  intro p e s m args below meth c hX hr ht
  unfold X5_swapped at h
  refine J.sub (L' := [(0, .int l0), (1, .int l1), (2, .int l2)]) [0, 1, 2] rfl ?_
  refine J.iload_n hX 0 0 rfl rfl ?_
  refine J.iload_n hX 1 1 rfl rfl ?_
  refine J.icmp_ne (tgt := 9) hX 2 rfl (by decide) (fun b1 => ?_) (fun b1 => ?_)
  · rw [if_neg b1] at h
    refine J.iload_n hX 5 0 rfl rfl ?_
    refine J.iload_n hX 6 2 rfl rfl ?_
    refine J.icmp_ne (tgt := 18) hX 7 rfl (by decide) (fun b2 => ?_) (fun b2 => ?_)
    · rw [if_neg b2] at h
      refine J.iload_n hX 10 0 rfl rfl ?_
      refine J.sub (L' := []) [] rfl ?_
      exact X5_swapped_j19_ok hX  hr ht h
    · rw [if_pos b2] at h
      refine J.iload_n hX 8 1 rfl rfl ?_
      refine J.goto (tgt := 19) hX 9 rfl (by decide) ?_
      refine J.sub (L' := []) [] rfl ?_
      exact X5_swapped_j19_ok hX  hr ht h
  · rw [if_pos b1] at h
    refine J.iload_n hX 3 2 rfl rfl ?_
    refine J.goto (tgt := 19) hX 4 rfl (by decide) ?_
    refine J.sub (L' := []) [] rfl ?_
    exact X5_swapped_j19_ok hX  hr ht h
def X5_swap_L34_j113 (N8 : Mem) (l1 : Int32) (l2 : Int32) (v9 : Int32) (v10 : Int32) : Option ((Int32 × Int32 × Mem) ⊕ (Int32 × Mem)) := ld N8 29 264 v9 (fun t4 => bd1 (X5_swapped N8 t4 l1 l2) (fun t5 => sto N8 29 264 v9 t5 (fun N9 => bnd (v9 + 1) (fun t6 => some (.inl (v10, t6, N9))))))
def X5_swap_L34_j112 (N7 : Mem) (l1 : Int32) (l2 : Int32) (v7 : Int32) (v8 : Int32) : Option ((Int32 × Int32 × Mem) ⊕ (Int32 × Mem)) := X5_swap_L34_j113 N7 l1 l2 v8 v7
def X5_swap_L34_j106 (N10 : Mem) (l1 : Int32) (l2 : Int32) (v11 : Int32) (v12 : Int32) : Option ((Int32 × Int32 × Mem) ⊕ (Int32 × Mem)) := X5_swap_L34_j113 N10 l1 l2 v12 (v11 + 1)
def X5_swap_L34_j77 (N6 : Mem) (l1 : Int32) (l2 : Int32) (v4 : Int32) (v5 : Int32) (v6 : Int32) : Option ((Int32 × Int32 × Mem) ⊕ (Int32 × Mem)) := if v6 = 0 then (X5_swap_L34_j112 N6 l1 l2 v4 v5) else (ld N6 29 264 v5 (fun t7 => if t7 = l1 then (X5_swap_L34_j106 N6 l1 l2 v4 v5) else (ld N6 29 264 v5 (fun t8 => if t8 = l2 then (X5_swap_L34_j106 N6 l1 l2 v4 v5) else (X5_swap_L34_j112 N6 l1 l2 v4 v5)))))
def X5_swap_L34_j76 (N5 : Mem) (l1 : Int32) (l2 : Int32) (v2 : Int32) (v3 : Int32) : Option ((Int32 × Int32 × Mem) ⊕ (Int32 × Mem)) := X5_swap_L34_j77 N5 l1 l2 v2 v3 0
def X5_swap_L34_j72 (N11 : Mem) (l1 : Int32) (l2 : Int32) (v13 : Int32) (v14 : Int32) : Option ((Int32 × Int32 × Mem) ⊕ (Int32 × Mem)) := X5_swap_L34_j77 N11 l1 l2 v13 v14 1
def X5_swap_L34 (l1 : Int32) (l2 : Int32) (q9 : Int32 × Int32 × Mem) : Option ((Int32 × Int32 × Mem) ⊕ (Int32 × Mem)) := un3 q9 (fun c1 c2 N4 => if 264 ≤ c2 then (some (.inr (c1, N4))) else (ld N4 28 264 c2 (fun t3 => if t3 ≤ 0 then (X5_swap_L34_j76 N4 l1 l2 c1 c2) else (if 240 ≤ c2 then (X5_swap_L34_j72 N4 l1 l2 c1 c2) else (if (24 * (N4 27 1)) ≤ c2 then (X5_swap_L34_j76 N4 l1 l2 c1 c2) else (X5_swap_L34_j72 N4 l1 l2 c1 c2))))))
def X5_swap_j20 (N2 : Mem) (l1 : Int32) (l2 : Int32) (v1 : Int32) : Option (Int32 × Mem) := bd2 (X5_goes N2 v1 1) (fun t2 N3 => if t2 = 0 then (some (0, N3)) else (bd2 (loop (X5_swap_L34 l1 l2) 3000 (0, 0, N3)) (fun x1 N12 => ld N12 38 2 0 (fun t9 => bd1 (X5_swapped N12 t9 l1 l2) (fun t10 => sto N12 38 2 0 t10 (fun N13 => ld N13 38 2 1 (fun t11 => bd1 (X5_swapped N13 t11 l1 l2) (fun t12 => sto N13 38 2 1 t12 (fun N14 => some (x1, N14))))))))))
def X5_swap_j19 (N1 : Mem) (l1 : Int32) (l2 : Int32) : Option (Int32 × Mem) := X5_swap_j20 N1 l1 l2 0
def X5_swap (M : Mem) (l1 : Int32) (l2 : Int32) : Option (Int32 × Mem) := bd1 (X5_isCloth M l1) (fun t1 => if t1 = 0 then (X5_swap_j19 M l1 l2) else (bd1 (X5_isCloth M l2) (fun t13 => if t13 = 0 then (X5_swap_j19 M l1 l2) else (X5_swap_j20 M l1 l2 1))))
set_option maxHeartbeats 4000000 in
set_option maxRecDepth 100000 in
theorem X5_swap_L34_j113_ok (hX : Cx p s m args meth c D cA ad n A sa cX5_swap 6 RX5 kX5_swap) {N8 : Mem} {l1 : Int32} {l2 : Int32} {v9 : Int32} {v10 : Int32}  {r : (Int32 × Int32 × Mem) ⊕ (Int32 × Mem)} (h : X5_swap_L34_j113 N8 l1 l2 v9 v10 = some r) (hin : ∀ (q0 : Int32) (q1 : Int32) (Mq : Mem), r = .inl (q0, q1, Mq) → JM 1 22 p l e s m args below meth c D cA ad n A 6 out M1 Mq 34 [(0, .ref (ad 27)), (1, .int l1), (2, .int l2), (3, .int q0), (4, .int q1)] []) (hex0 : ∀ (q0 : Int32) (Mq : Mem), r = .inr (q0, Mq) → JM 1 22 p l e s m args below meth c D cA ad n A 6 out M1 Mq 139 [(0, .ref (ad 27)), (1, .int l1), (2, .int l2), (3, .int q0)] []) : JM 1 22 p l e s m args below meth c D cA ad n A 6 out M1 N8 113 [(0, .ref (ad 27)), (1, .int l1), (2, .int l2), (4, .int v9)] [.int v10] := by
  unfold X5_swap_L34_j113 at h
  refine J.istore_n (L' := [(3, .int v10), (0, .ref (ad 27)), (1, .int l1), (2, .int l2), (4, .int v9)]) hX 59 rfl (by decide) rfl ?_
  refine J.aload_n hX 60 1 rfl rfl ?_
  refine J.getR hX 61 27 5 (hX.lt (k := 27) (by decide)) sh_27 rfl in_wsX50 3 (by decide) w_76 rfl rfl ?_
  refine J.iload hX 62 4 rfl rfl ?_
  refine J.aload_n hX 63 1 rfl rfl ?_
  refine J.getR hX 64 27 5 (hX.lt (k := 27) (by decide)) sh_27 rfl in_wsX50 3 (by decide) w_76 rfl rfl ?_
  refine J.iload hX 65 4 rfl rfl ?_
  obtain ⟨t4, et4, hb, h⟩ := ld_inv h
  refine J.ialdN hX 66 29 (hX.lt (k := 29) (by decide)) sh_29 hb et4 rfl ?_
  refine J.iload_n hX 67 2 rfl rfl ?_
  refine J.iload_n hX 68 3 rfl rfl ?_
  obtain ⟨t5, hc, h⟩ := bd1_inv h
  refine J.callS1 (As := [.int t4, .int l1, .int l2]) (rest := [.int v9, .ref (ad 29)]) hX 69 rfl (mX5_swapped  hc) okX5_swapped w_478 rfl rfl (Nat.le_of_ble_eq_true rfl) ⟨Nat.le_of_ble_eq_true rfl, Nat.le_of_ble_eq_true rfl⟩ ⟨Nat.zero_le _, Nat.zero_le _⟩ ?_
  obtain ⟨N9, eN9, hb, h⟩ := sto_inv h
  refine J.iastN hX 70 29 (hX.lt (k := 29) (by decide)) sh_29 hb eN9 rfl ?_
  obtain ⟨t6, et6, h⟩ := bnd_inv h
  refine J.iinc (q := 4) (L' := [(4, .int t6), (3, .int v10), (0, .ref (ad 27)), (1, .int l1), (2, .int l2)]) hX 71 rfl rfl et6 (by decide) rfl ?_
  refine J.goto (tgt := 34) hX 72 rfl (by decide) ?_
  refine J.sub (L' := [(0, .ref (ad 27)), (1, .int l1), (2, .int l2), (3, .int v10), (4, .int t6)]) [2, 3, 4, 1, 0] rfl ?_
  exact hin _ _ _ (Option.some.inj h).symm
set_option maxHeartbeats 4000000 in
set_option maxRecDepth 100000 in
theorem X5_swap_L34_j112_ok (hX : Cx p s m args meth c D cA ad n A sa cX5_swap 6 RX5 kX5_swap) {N7 : Mem} {l1 : Int32} {l2 : Int32} {v7 : Int32} {v8 : Int32}  {r : (Int32 × Int32 × Mem) ⊕ (Int32 × Mem)} (h : X5_swap_L34_j112 N7 l1 l2 v7 v8 = some r) (hin : ∀ (q0 : Int32) (q1 : Int32) (Mq : Mem), r = .inl (q0, q1, Mq) → JM 1 22 p l e s m args below meth c D cA ad n A 6 out M1 Mq 34 [(0, .ref (ad 27)), (1, .int l1), (2, .int l2), (3, .int q0), (4, .int q1)] []) (hex0 : ∀ (q0 : Int32) (Mq : Mem), r = .inr (q0, Mq) → JM 1 22 p l e s m args below meth c D cA ad n A 6 out M1 Mq 139 [(0, .ref (ad 27)), (1, .int l1), (2, .int l2), (3, .int q0)] []) : JM 1 22 p l e s m args below meth c D cA ad n A 6 out M1 N7 112 [(0, .ref (ad 27)), (1, .int l1), (2, .int l2), (3, .int v7), (4, .int v8)] [] := by
  unfold X5_swap_L34_j112 at h
  refine J.iload_n hX 58 3 rfl rfl ?_
  refine J.sub (L' := [(0, .ref (ad 27)), (1, .int l1), (2, .int l2), (4, .int v8)]) [0, 1, 2, 4] rfl ?_
  exact X5_swap_L34_j113_ok hX  h hin hex0
set_option maxHeartbeats 4000000 in
set_option maxRecDepth 100000 in
theorem X5_swap_L34_j106_ok (hX : Cx p s m args meth c D cA ad n A sa cX5_swap 6 RX5 kX5_swap) {N10 : Mem} {l1 : Int32} {l2 : Int32} {v11 : Int32} {v12 : Int32}  {r : (Int32 × Int32 × Mem) ⊕ (Int32 × Mem)} (h : X5_swap_L34_j106 N10 l1 l2 v11 v12 = some r) (hin : ∀ (q0 : Int32) (q1 : Int32) (Mq : Mem), r = .inl (q0, q1, Mq) → JM 1 22 p l e s m args below meth c D cA ad n A 6 out M1 Mq 34 [(0, .ref (ad 27)), (1, .int l1), (2, .int l2), (3, .int q0), (4, .int q1)] []) (hex0 : ∀ (q0 : Int32) (Mq : Mem), r = .inr (q0, Mq) → JM 1 22 p l e s m args below meth c D cA ad n A 6 out M1 Mq 139 [(0, .ref (ad 27)), (1, .int l1), (2, .int l2), (3, .int q0)] []) : JM 1 22 p l e s m args below meth c D cA ad n A 6 out M1 N10 106 [(0, .ref (ad 27)), (1, .int l1), (2, .int l2), (3, .int v11), (4, .int v12)] [] := by
  unfold X5_swap_L34_j106 at h
  refine J.iload_n hX 54 3 rfl rfl ?_
  refine J.iconst (v := 1) hX 55 rfl (by decide) ?_
  refine J.iadd hX 56 rfl ?_
  refine J.goto (tgt := 113) hX 57 rfl (by decide) ?_
  refine J.sub (L' := [(0, .ref (ad 27)), (1, .int l1), (2, .int l2), (4, .int v12)]) [0, 1, 2, 4] rfl ?_
  exact X5_swap_L34_j113_ok hX  h hin hex0
set_option maxHeartbeats 4000000 in
set_option maxRecDepth 100000 in
theorem X5_swap_L34_j77_ok (hX : Cx p s m args meth c D cA ad n A sa cX5_swap 6 RX5 kX5_swap) {N6 : Mem} {l1 : Int32} {l2 : Int32} {v4 : Int32} {v5 : Int32} {v6 : Int32}  {r : (Int32 × Int32 × Mem) ⊕ (Int32 × Mem)} (h : X5_swap_L34_j77 N6 l1 l2 v4 v5 v6 = some r) (hin : ∀ (q0 : Int32) (q1 : Int32) (Mq : Mem), r = .inl (q0, q1, Mq) → JM 1 22 p l e s m args below meth c D cA ad n A 6 out M1 Mq 34 [(0, .ref (ad 27)), (1, .int l1), (2, .int l2), (3, .int q0), (4, .int q1)] []) (hex0 : ∀ (q0 : Int32) (Mq : Mem), r = .inr (q0, Mq) → JM 1 22 p l e s m args below meth c D cA ad n A 6 out M1 Mq 139 [(0, .ref (ad 27)), (1, .int l1), (2, .int l2), (3, .int q0)] []) : JM 1 22 p l e s m args below meth c D cA ad n A 6 out M1 N6 77 [(0, .ref (ad 27)), (1, .int l1), (2, .int l2), (3, .int v4), (4, .int v5)] [.int v6] := by
  unfold X5_swap_L34_j77 at h
  refine J.istore (L' := [(5, .int v6), (0, .ref (ad 27)), (1, .int l1), (2, .int l2), (3, .int v4), (4, .int v5)]) hX 39 rfl (by decide) rfl ?_
  refine J.iload hX 40 0 rfl rfl ?_
  refine J.if_eq (tgt := 112) hX 41 rfl (by decide) (fun b5 => ?_) (fun b5 => ?_)
  · rw [if_pos b5] at h
    refine J.sub (L' := [(0, .ref (ad 27)), (1, .int l1), (2, .int l2), (3, .int v4), (4, .int v5)]) [1, 2, 3, 4, 5] rfl ?_
    exact X5_swap_L34_j112_ok hX  h hin hex0
  · rw [if_neg b5] at h
    refine J.aload_n hX 42 1 rfl rfl ?_
    refine J.getR hX 43 27 5 (hX.lt (k := 27) (by decide)) sh_27 rfl in_wsX50 3 (by decide) w_76 rfl rfl ?_
    refine J.iload hX 44 5 rfl rfl ?_
    obtain ⟨t7, et7, hb, h⟩ := ld_inv h
    refine J.ialdN hX 45 29 (hX.lt (k := 29) (by decide)) sh_29 hb et7 rfl ?_
    refine J.iload_n hX 46 2 rfl rfl ?_
    refine J.icmp_eq (tgt := 106) hX 47 rfl (by decide) (fun b6 => ?_) (fun b6 => ?_)
    · rw [if_pos b6] at h
      refine J.sub (L' := [(0, .ref (ad 27)), (1, .int l1), (2, .int l2), (3, .int v4), (4, .int v5)]) [1, 2, 3, 4, 5] rfl ?_
      exact X5_swap_L34_j106_ok hX  h hin hex0
    · rw [if_neg b6] at h
      refine J.aload_n hX 48 1 rfl rfl ?_
      refine J.getR hX 49 27 5 (hX.lt (k := 27) (by decide)) sh_27 rfl in_wsX50 3 (by decide) w_76 rfl rfl ?_
      refine J.iload hX 50 5 rfl rfl ?_
      obtain ⟨t8, et8, hb, h⟩ := ld_inv h
      refine J.ialdN hX 51 29 (hX.lt (k := 29) (by decide)) sh_29 hb et8 rfl ?_
      refine J.iload_n hX 52 3 rfl rfl ?_
      refine J.icmp_ne (tgt := 112) hX 53 rfl (by decide) (fun b7 => ?_) (fun b7 => ?_)
      · rw [if_neg b7] at h
        refine J.sub (L' := [(0, .ref (ad 27)), (1, .int l1), (2, .int l2), (3, .int v4), (4, .int v5)]) [1, 2, 3, 4, 5] rfl ?_
        exact X5_swap_L34_j112_ok hX  h hin hex0
      · rw [if_pos b7] at h
        refine J.sub (L' := [(0, .ref (ad 27)), (1, .int l1), (2, .int l2), (3, .int v4), (4, .int v5)]) [1, 2, 3, 4, 5] rfl ?_
        exact X5_swap_L34_j106_ok hX  h hin hex0
set_option maxHeartbeats 4000000 in
set_option maxRecDepth 100000 in
theorem X5_swap_L34_j76_ok (hX : Cx p s m args meth c D cA ad n A sa cX5_swap 6 RX5 kX5_swap) {N5 : Mem} {l1 : Int32} {l2 : Int32} {v2 : Int32} {v3 : Int32}  {r : (Int32 × Int32 × Mem) ⊕ (Int32 × Mem)} (h : X5_swap_L34_j76 N5 l1 l2 v2 v3 = some r) (hin : ∀ (q0 : Int32) (q1 : Int32) (Mq : Mem), r = .inl (q0, q1, Mq) → JM 1 22 p l e s m args below meth c D cA ad n A 6 out M1 Mq 34 [(0, .ref (ad 27)), (1, .int l1), (2, .int l2), (3, .int q0), (4, .int q1)] []) (hex0 : ∀ (q0 : Int32) (Mq : Mem), r = .inr (q0, Mq) → JM 1 22 p l e s m args below meth c D cA ad n A 6 out M1 Mq 139 [(0, .ref (ad 27)), (1, .int l1), (2, .int l2), (3, .int q0)] []) : JM 1 22 p l e s m args below meth c D cA ad n A 6 out M1 N5 76 [(0, .ref (ad 27)), (1, .int l1), (2, .int l2), (3, .int v2), (4, .int v3)] [] := by
  unfold X5_swap_L34_j76 at h
  refine J.iconst (v := 0) hX 38 rfl (by decide) ?_
  refine J.sub (L' := [(0, .ref (ad 27)), (1, .int l1), (2, .int l2), (3, .int v2), (4, .int v3)]) [0, 1, 2, 3, 4] rfl ?_
  exact X5_swap_L34_j77_ok hX  h hin hex0
set_option maxHeartbeats 4000000 in
set_option maxRecDepth 100000 in
theorem X5_swap_L34_j72_ok (hX : Cx p s m args meth c D cA ad n A sa cX5_swap 6 RX5 kX5_swap) {N11 : Mem} {l1 : Int32} {l2 : Int32} {v13 : Int32} {v14 : Int32}  {r : (Int32 × Int32 × Mem) ⊕ (Int32 × Mem)} (h : X5_swap_L34_j72 N11 l1 l2 v13 v14 = some r) (hin : ∀ (q0 : Int32) (q1 : Int32) (Mq : Mem), r = .inl (q0, q1, Mq) → JM 1 22 p l e s m args below meth c D cA ad n A 6 out M1 Mq 34 [(0, .ref (ad 27)), (1, .int l1), (2, .int l2), (3, .int q0), (4, .int q1)] []) (hex0 : ∀ (q0 : Int32) (Mq : Mem), r = .inr (q0, Mq) → JM 1 22 p l e s m args below meth c D cA ad n A 6 out M1 Mq 139 [(0, .ref (ad 27)), (1, .int l1), (2, .int l2), (3, .int q0)] []) : JM 1 22 p l e s m args below meth c D cA ad n A 6 out M1 N11 72 [(0, .ref (ad 27)), (1, .int l1), (2, .int l2), (3, .int v13), (4, .int v14)] [] := by
  unfold X5_swap_L34_j72 at h
  refine J.iconst (v := 1) hX 36 rfl (by decide) ?_
  refine J.goto (tgt := 77) hX 37 rfl (by decide) ?_
  refine J.sub (L' := [(0, .ref (ad 27)), (1, .int l1), (2, .int l2), (3, .int v13), (4, .int v14)]) [0, 1, 2, 3, 4] rfl ?_
  exact X5_swap_L34_j77_ok hX  h hin hex0
set_option maxHeartbeats 4000000 in
set_option maxRecDepth 100000 in
theorem X5_swap_L34_ok (hX : Cx p s m args meth c D cA ad n A sa cX5_swap 6 RX5 kX5_swap) {N4 : Mem} {l1 : Int32} {l2 : Int32} {c1 : Int32} {c2 : Int32}  {r : (Int32 × Int32 × Mem) ⊕ (Int32 × Mem)} (h : X5_swap_L34 l1 l2 (c1, c2, N4) = some r) (hin : ∀ (q0 : Int32) (q1 : Int32) (Mq : Mem), r = .inl (q0, q1, Mq) → JM 1 22 p l e s m args below meth c D cA ad n A 6 out M1 Mq 34 [(0, .ref (ad 27)), (1, .int l1), (2, .int l2), (3, .int q0), (4, .int q1)] []) (hex0 : ∀ (q0 : Int32) (Mq : Mem), r = .inr (q0, Mq) → JM 1 22 p l e s m args below meth c D cA ad n A 6 out M1 Mq 139 [(0, .ref (ad 27)), (1, .int l1), (2, .int l2), (3, .int q0)] []) : JM 1 22 p l e s m args below meth c D cA ad n A 6 out M1 N4 34 [(0, .ref (ad 27)), (1, .int l1), (2, .int l2), (3, .int c1), (4, .int c2)] [] := by
  unfold X5_swap_L34 at h
  have h := un3_inv h
  refine J.iload hX 19 4 rfl rfl ?_
  refine J.sipush (v := 264) hX 20 rfl (by decide) ?_
  refine J.icmp_ge (tgt := 139) hX 21 rfl (by decide) (fun b3 => ?_) (fun b3 => ?_)
  · rw [if_pos b3] at h
    refine J.sub (L' := [(0, .ref (ad 27)), (1, .int l1), (2, .int l2), (3, .int c1)]) [0, 1, 2, 3] rfl ?_
    exact hex0 _ _ (Option.some.inj h).symm
  · rw [if_neg b3] at h
    refine J.aload_n hX 22 0 rfl rfl ?_
    refine J.getR hX 23 27 5 (hX.lt (k := 27) (by decide)) sh_27 rfl in_wsX50 2 (by decide) w_75 rfl rfl ?_
    refine J.iload hX 24 4 rfl rfl ?_
    obtain ⟨t3, et3, hb, h⟩ := ld_inv h
    refine J.ialdN hX 25 28 (hX.lt (k := 28) (by decide)) sh_28 hb et3 rfl ?_
    refine J.if_le (tgt := 76) hX 26 rfl (by decide) (fun b4 => ?_) (fun b4 => ?_)
    · rw [if_pos b4] at h
      refine J.sub (L' := [(0, .ref (ad 27)), (1, .int l1), (2, .int l2), (3, .int c1), (4, .int c2)]) [0, 1, 2, 3, 4] rfl ?_
      exact X5_swap_L34_j76_ok hX  h hin hex0
    · rw [if_neg b4] at h
      refine J.iload hX 27 4 rfl rfl ?_
      refine J.sipush (v := 240) hX 28 rfl (by decide) ?_
      refine J.icmp_ge (tgt := 72) hX 29 rfl (by decide) (fun b8 => ?_) (fun b8 => ?_)
      · rw [if_pos b8] at h
        refine J.sub (L' := [(0, .ref (ad 27)), (1, .int l1), (2, .int l2), (3, .int c1), (4, .int c2)]) [0, 1, 2, 3, 4] rfl ?_
        exact X5_swap_L34_j72_ok hX  h hin hex0
      · rw [if_neg b8] at h
        refine J.iload hX 30 4 rfl rfl ?_
        refine J.bipush (v := 24) hX 31 rfl (by decide) ?_
        refine J.aload_n hX 32 0 rfl rfl ?_
        refine J.getI hX 33 27 5 (hX.lt (k := 27) (by decide)) sh_27 rfl in_wsX50 1 (by decide) w_381 rfl rfl ?_
        refine J.imul hX 34 rfl ?_
        refine J.icmp_ge (tgt := 76) hX 35 rfl (by decide) (fun b9 => ?_) (fun b9 => ?_)
        · rw [if_pos b9] at h
          refine J.sub (L' := [(0, .ref (ad 27)), (1, .int l1), (2, .int l2), (3, .int c1), (4, .int c2)]) [0, 1, 2, 3, 4] rfl ?_
          exact X5_swap_L34_j76_ok hX  h hin hex0
        · rw [if_neg b9] at h
          refine J.sub (L' := [(0, .ref (ad 27)), (1, .int l1), (2, .int l2), (3, .int c1), (4, .int c2)]) [0, 1, 2, 3, 4] rfl ?_
          exact X5_swap_L34_j72_ok hX  h hin hex0
set_option maxHeartbeats 4000000 in
set_option maxRecDepth 100000 in
theorem X5_swap_j20_ok (hX : Cx p s m args meth c D cA ad n A sa cX5_swap 6 RX5 kX5_swap) {N2 : Mem} {l1 : Int32} {l2 : Int32} {v1 : Int32} {r : Int32} {Mf : Mem}  (hr : meth.sig.returnType = (some .int)) (ht : ∀ x ∈ c.exceptionTable.toList, False) (h : X5_swap_j20 N2 l1 l2 v1 = some (r, Mf)) : JM 1 22 p l e s m args below meth c D cA ad n A 6 (.inl (some (.int r))) Mf N2 20 [(0, .ref (ad 27)), (1, .int l1), (2, .int l2)] [.int v1, .ref (ad 27)] := by
  unfold X5_swap_j20 at h
  refine J.iconst (v := 1) hX 10 rfl (by decide) ?_
  obtain ⟨t2, N3, hc, h⟩ := bd2_inv h
  refine J.callV1 (As := [.int v1, .int 1]) (rest := []) (k := 27) hX 11 rfl (mX5_goes  hc) okX5_goes w_137 (hX.lt (k := 27) (by decide)) sh_27 rfl rfl rfl (Nat.le_of_ble_eq_true rfl) ⟨Nat.le_of_ble_eq_true rfl, Nat.le_of_ble_eq_true rfl⟩ ⟨Nat.zero_le _, Nat.zero_le _⟩ ?_
  refine J.if_ne (tgt := 29) hX 12 rfl (by decide) (fun b2 => ?_) (fun b2 => ?_)
  · rw [if_neg b2] at h
    refine J.iconst (v := 0) hX 15 rfl (by decide) ?_
    refine J.istore_n (L' := [(3, .int 0), (0, .ref (ad 27)), (1, .int l1), (2, .int l2)]) hX 16 rfl (by decide) rfl ?_
    refine J.iconst (v := 0) hX 17 rfl (by decide) ?_
    refine J.istore (L' := [(4, .int 0), (3, .int 0), (0, .ref (ad 27)), (1, .int l1), (2, .int l2)]) hX 18 rfl (by decide) rfl ?_
    refine J.sub (L' := [(0, .ref (ad 27)), (1, .int l1), (2, .int l2), (3, .int 0), (4, .int 0)]) [2, 3, 4, 1, 0] rfl ?_
    obtain ⟨x1, N12, hlp, h⟩ := bd2_inv h
    suffices hE : JM 1 22 p l e s m args below meth c D cA ad n A 6 (.inl (some (.int r))) Mf N12 139 [(0, .ref (ad 27)), (1, .int l1), (2, .int l2), (3, .int x1)] [] by
      exact loop_ok (fun q9 : Int32 × Int32 × Mem => JM 1 22 p l e s m args below meth c D cA ad n A 6 (.inl (some (.int r))) Mf q9.2.2 34 [(0, .ref (ad 27)), (1, .int l1), (2, .int l2), (3, .int q9.1), (4, .int q9.2.1)] []) (fun q9 r hB hst hex9 => X5_swap_L34_ok hX  hB (fun _ _ _ hr => hst _ hr) (fun _ _ hr => by cases hex9 _ hr; exact hE)) 3000 _ hlp
    refine J.aload_n hX 73 0 rfl rfl ?_
    refine J.getR hX 74 27 5 (hX.lt (k := 27) (by decide)) sh_27 rfl in_wsX50 13 (by decide) w_85 rfl rfl ?_
    refine J.iconst (v := 0) hX 75 rfl (by decide) ?_
    refine J.aload_n hX 76 0 rfl rfl ?_
    refine J.getR hX 77 27 5 (hX.lt (k := 27) (by decide)) sh_27 rfl in_wsX50 13 (by decide) w_85 rfl rfl ?_
    refine J.iconst (v := 0) hX 78 rfl (by decide) ?_
    obtain ⟨t9, et9, hb, h⟩ := ld_inv h
    refine J.ialdN hX 79 38 (hX.lt (k := 38) (by decide)) sh_38 hb et9 rfl ?_
    refine J.iload_n hX 80 1 rfl rfl ?_
    refine J.iload_n hX 81 2 rfl rfl ?_
    obtain ⟨t10, hc, h⟩ := bd1_inv h
    refine J.callS1 (As := [.int t9, .int l1, .int l2]) (rest := [.int 0, .ref (ad 38)]) hX 82 rfl (mX5_swapped  hc) okX5_swapped w_478 rfl rfl (Nat.le_of_ble_eq_true rfl) ⟨Nat.le_of_ble_eq_true rfl, Nat.le_of_ble_eq_true rfl⟩ ⟨Nat.zero_le _, Nat.zero_le _⟩ ?_
    obtain ⟨N13, eN13, hb, h⟩ := sto_inv h
    refine J.iastN hX 83 38 (hX.lt (k := 38) (by decide)) sh_38 hb eN13 rfl ?_
    refine J.aload_n hX 84 0 rfl rfl ?_
    refine J.getR hX 85 27 5 (hX.lt (k := 27) (by decide)) sh_27 rfl in_wsX50 13 (by decide) w_85 rfl rfl ?_
    refine J.iconst (v := 1) hX 86 rfl (by decide) ?_
    refine J.aload_n hX 87 0 rfl rfl ?_
    refine J.getR hX 88 27 5 (hX.lt (k := 27) (by decide)) sh_27 rfl in_wsX50 13 (by decide) w_85 rfl rfl ?_
    refine J.iconst (v := 1) hX 89 rfl (by decide) ?_
    obtain ⟨t11, et11, hb, h⟩ := ld_inv h
    refine J.ialdN hX 90 38 (hX.lt (k := 38) (by decide)) sh_38 hb et11 rfl ?_
    refine J.iload_n hX 91 1 rfl rfl ?_
    refine J.iload_n hX 92 2 rfl rfl ?_
    obtain ⟨t12, hc, h⟩ := bd1_inv h
    refine J.callS1 (As := [.int t11, .int l1, .int l2]) (rest := [.int 1, .ref (ad 38)]) hX 93 rfl (mX5_swapped  hc) okX5_swapped w_478 rfl rfl (Nat.le_of_ble_eq_true rfl) ⟨Nat.le_of_ble_eq_true rfl, Nat.le_of_ble_eq_true rfl⟩ ⟨Nat.zero_le _, Nat.zero_le _⟩ ?_
    obtain ⟨N14, eN14, hb, h⟩ := sto_inv h
    refine J.iastN hX 94 38 (hX.lt (k := 38) (by decide)) sh_38 hb eN14 rfl ?_
    refine J.iload_n hX 95 3 rfl rfl ?_
    cases h
    exact J.iret hX hr 96 rfl
  · rw [if_pos b2] at h
    refine J.iconst (v := 0) hX 13 rfl (by decide) ?_
    cases h
    exact J.iret hX hr 14 rfl
set_option maxHeartbeats 4000000 in
set_option maxRecDepth 100000 in
theorem X5_swap_j19_ok (hX : Cx p s m args meth c D cA ad n A sa cX5_swap 6 RX5 kX5_swap) {N1 : Mem} {l1 : Int32} {l2 : Int32} {r : Int32} {Mf : Mem}  (hr : meth.sig.returnType = (some .int)) (ht : ∀ x ∈ c.exceptionTable.toList, False) (h : X5_swap_j19 N1 l1 l2 = some (r, Mf)) : JM 1 22 p l e s m args below meth c D cA ad n A 6 (.inl (some (.int r))) Mf N1 19 [(0, .ref (ad 27)), (1, .int l1), (2, .int l2)] [.ref (ad 27)] := by
  unfold X5_swap_j19 at h
  refine J.iconst (v := 0) hX 9 rfl (by decide) ?_
  refine J.sub (L' := [(0, .ref (ad 27)), (1, .int l1), (2, .int l2)]) [0, 1, 2] rfl ?_
  exact X5_swap_j20_ok hX  hr ht h
set_option maxHeartbeats 4000000 in
set_option maxRecDepth 100000 in
theorem mX5_swap {l : Launch} {D : va_G} {cA : Nat → ClassId} {ad : Nat → Nat} {n : Nat} {A : Nat → Prop} {sa : Nat → Nat} {M : Mem} {l1 : Int32} {l2 : Int32} {r : Int32} {Mf : Mem} (h : X5_swap M l1 l2 = some (r, Mf)) : CT l D cA ad n A sa yX5_swap cX5_swap 6 (some .int) 1 22 [.ref (ad 27), .int l1, .int l2] M (.inl (some (.int r))) Mf := by
  refine CT.of (kt := kX5_swap) (by decide) kX5_swap_ok (Nat.le_of_ble_eq_true rfl) ?_
  intro p e s m args below meth c hX hr ht
  unfold X5_swap at h
  refine J.sub (L' := [(0, .ref (ad 27)), (1, .int l1), (2, .int l2)]) [0, 1, 2] rfl ?_
  refine J.aload_n hX 0 0 rfl rfl ?_
  refine J.iload_n hX 1 1 rfl rfl ?_
  obtain ⟨t1, hc, h⟩ := bd1_inv h
  refine J.callS1 (As := [.int l1]) (rest := [.ref (ad 27)]) hX 2 rfl (mX5_isCloth  hc) okX5_isCloth w_177 rfl rfl (Nat.le_of_ble_eq_true rfl) ⟨Nat.le_of_ble_eq_true rfl, Nat.le_of_ble_eq_true rfl⟩ ⟨Nat.zero_le _, Nat.zero_le _⟩ ?_
  refine J.if_eq (tgt := 19) hX 3 rfl (by decide) (fun b1 => ?_) (fun b1 => ?_)
  · rw [if_pos b1] at h
    refine J.sub (L' := [(0, .ref (ad 27)), (1, .int l1), (2, .int l2)]) [0, 1, 2] rfl ?_
    exact X5_swap_j19_ok hX  hr ht h
  · rw [if_neg b1] at h
    refine J.iload_n hX 4 2 rfl rfl ?_
    obtain ⟨t13, hc, h⟩ := bd1_inv h
    refine J.callS1 (As := [.int l2]) (rest := [.ref (ad 27)]) hX 5 rfl (mX5_isCloth  hc) okX5_isCloth w_177 rfl rfl (Nat.le_of_ble_eq_true rfl) ⟨Nat.le_of_ble_eq_true rfl, Nat.le_of_ble_eq_true rfl⟩ ⟨Nat.zero_le _, Nat.zero_le _⟩ ?_
    refine J.if_eq (tgt := 19) hX 6 rfl (by decide) (fun b10 => ?_) (fun b10 => ?_)
    · rw [if_pos b10] at h
      refine J.sub (L' := [(0, .ref (ad 27)), (1, .int l1), (2, .int l2)]) [0, 1, 2] rfl ?_
      exact X5_swap_j19_ok hX  hr ht h
    · rw [if_neg b10] at h
      refine J.iconst (v := 1) hX 7 rfl (by decide) ?_
      refine J.goto (tgt := 20) hX 8 rfl (by decide) ?_
      refine J.sub (L' := [(0, .ref (ad 27)), (1, .int l1), (2, .int l2)]) [0, 1, 2] rfl ?_
      exact X5_swap_j20_ok hX  hr ht h
def X5_area_L35_j95 (N5 : Mem) (l1 : Int32) (c2 : Int32) (v3 : Int32) (v4 : Int32) : Option ((Int32 × Int32) ⊕ (Int32)) := bnd (v3 + 1) (fun t8 => some (.inl (v4, t8)))
def X5_area_L35_j94 (N4 : Mem) (l1 : Int32) (c2 : Int32) (v1 : Int32) (v2 : Int32) : Option ((Int32 × Int32) ⊕ (Int32)) := X5_area_L35_j95 N4 l1 c2 v2 v1
def X5_area_L35 (N3 : Mem) (l1 : Int32) (c2 : Int32) (q9 : Int32 × Int32) : Option ((Int32 × Int32) ⊕ (Int32)) := un2 q9 (fun c3 c4 => ld N3 35 36 c2 (fun t5 => if ((24 * t5) + 24) ≤ c4 then (some (.inr c3)) else (ld N3 35 36 c2 (fun t6 => if t6 = (-1) then (some (.inr c3)) else (ld N3 28 264 c4 (fun t7 => if t7 ≤ 0 then (X5_area_L35_j94 N3 l1 c2 c3 c4) else (ld N3 29 264 c4 (fun t9 => if t9 = l1 then (bd1 (X5_areaOf N3 c4) (fun t10 => X5_area_L35_j95 N3 l1 c2 c4 (c3 + t10))) else (X5_area_L35_j94 N3 l1 c2 c3 c4)))))))))
def X5_area_L18_j102 (N6 : Mem) (l1 : Int32) (v5 : Int32) (v6 : Int32) : Option ((Int32 × Int32) ⊕ (Int32)) := bnd (v6 + 1) (fun t11 => some (.inl (v5, t11)))
def X5_area_L18 (N2 : Mem) (l1 : Int32) (q9 : Int32 × Int32) : Option ((Int32 × Int32) ⊕ (Int32)) := un2 q9 (fun c1 c2 => if 36 ≤ c2 then (some (.inr c1)) else (ld N2 35 36 c2 (fun t3 => bnd ((24 * t3)) (fun t4 => bd1 (loop (X5_area_L35 N2 l1 c2) 3000 (c1, t4)) (fun x1 => X5_area_L18_j102 N2 l1 x1 c2)))))
def X5_area (M : Mem) (l1 : Int32) : Option (Int32 × Mem) := bd1 (X5_isCloth M l1) (fun t1 => bd2 (X5_goes M t1 1) (fun t2 N1 => if t2 = 0 then (some (0, N1)) else (bd1 (loop (X5_area_L18 N1 l1) 3000 (0, 0)) (fun x2 => some (x2, N1)))))
set_option maxHeartbeats 4000000 in
set_option maxRecDepth 100000 in
theorem X5_area_L35_j95_ok (hX : Cx p s m args meth c D cA ad n A sa cX5_area 5 RX5 kX5_area) {N5 : Mem} {l1 : Int32} {c2 : Int32} {v3 : Int32} {v4 : Int32}  {r : (Int32 × Int32) ⊕ (Int32)} (h : X5_area_L35_j95 N5 l1 c2 v3 v4 = some r) (hin : ∀ (q0 : Int32) (q1 : Int32), r = .inl (q0, q1) → JM 2 47 p l e s m args below meth c D cA ad n A 5 out M1 N5 35 [(0, .ref (ad 27)), (1, .int l1), (2, .int q0), (3, .int c2), (4, .int q1)] []) (hex0 : ∀ (q0 : Int32), r = .inr q0 → JM 2 47 p l e s m args below meth c D cA ad n A 5 out M1 N5 102 [(0, .ref (ad 27)), (1, .int l1), (2, .int q0), (3, .int c2)] []) : JM 2 47 p l e s m args below meth c D cA ad n A 5 out M1 N5 95 [(0, .ref (ad 27)), (1, .int l1), (3, .int c2), (4, .int v3)] [.int v4] := by
  unfold X5_area_L35_j95 at h
  refine J.istore_n (L' := [(2, .int v4), (0, .ref (ad 27)), (1, .int l1), (3, .int c2), (4, .int v3)]) hX 56 rfl (by decide) rfl ?_
  obtain ⟨t8, et8, h⟩ := bnd_inv h
  refine J.iinc (q := 4) (L' := [(4, .int t8), (2, .int v4), (0, .ref (ad 27)), (1, .int l1), (3, .int c2)]) hX 57 rfl rfl et8 (by decide) rfl ?_
  refine J.goto (tgt := 35) hX 58 rfl (by decide) ?_
  refine J.sub (L' := [(0, .ref (ad 27)), (1, .int l1), (2, .int v4), (3, .int c2), (4, .int t8)]) [2, 3, 1, 4, 0] rfl ?_
  exact hin _ _ (Option.some.inj h).symm
set_option maxHeartbeats 4000000 in
set_option maxRecDepth 100000 in
theorem X5_area_L35_j94_ok (hX : Cx p s m args meth c D cA ad n A sa cX5_area 5 RX5 kX5_area) {N4 : Mem} {l1 : Int32} {c2 : Int32} {v1 : Int32} {v2 : Int32}  {r : (Int32 × Int32) ⊕ (Int32)} (h : X5_area_L35_j94 N4 l1 c2 v1 v2 = some r) (hin : ∀ (q0 : Int32) (q1 : Int32), r = .inl (q0, q1) → JM 2 47 p l e s m args below meth c D cA ad n A 5 out M1 N4 35 [(0, .ref (ad 27)), (1, .int l1), (2, .int q0), (3, .int c2), (4, .int q1)] []) (hex0 : ∀ (q0 : Int32), r = .inr q0 → JM 2 47 p l e s m args below meth c D cA ad n A 5 out M1 N4 102 [(0, .ref (ad 27)), (1, .int l1), (2, .int q0), (3, .int c2)] []) : JM 2 47 p l e s m args below meth c D cA ad n A 5 out M1 N4 94 [(0, .ref (ad 27)), (1, .int l1), (2, .int v1), (3, .int c2), (4, .int v2)] [] := by
  unfold X5_area_L35_j94 at h
  refine J.iload_n hX 55 2 rfl rfl ?_
  refine J.sub (L' := [(0, .ref (ad 27)), (1, .int l1), (3, .int c2), (4, .int v2)]) [0, 1, 3, 4] rfl ?_
  exact X5_area_L35_j95_ok hX  h hin hex0
set_option maxHeartbeats 4000000 in
set_option maxRecDepth 100000 in
theorem X5_area_L35_ok (hX : Cx p s m args meth c D cA ad n A sa cX5_area 5 RX5 kX5_area) {N3 : Mem} {l1 : Int32} {c2 : Int32} {c3 : Int32} {c4 : Int32}  {r : (Int32 × Int32) ⊕ (Int32)} (h : X5_area_L35 N3 l1 c2 (c3, c4) = some r) (hin : ∀ (q0 : Int32) (q1 : Int32), r = .inl (q0, q1) → JM 2 47 p l e s m args below meth c D cA ad n A 5 out M1 N3 35 [(0, .ref (ad 27)), (1, .int l1), (2, .int q0), (3, .int c2), (4, .int q1)] []) (hex0 : ∀ (q0 : Int32), r = .inr q0 → JM 2 47 p l e s m args below meth c D cA ad n A 5 out M1 N3 102 [(0, .ref (ad 27)), (1, .int l1), (2, .int q0), (3, .int c2)] []) : JM 2 47 p l e s m args below meth c D cA ad n A 5 out M1 N3 35 [(0, .ref (ad 27)), (1, .int l1), (2, .int c3), (3, .int c2), (4, .int c4)] [] := by
  unfold X5_area_L35 at h
  have h := un2_inv h
  refine J.iload hX 22 4 rfl rfl ?_
  refine J.bipush (v := 24) hX 23 rfl (by decide) ?_
  refine J.aload_n hX 24 0 rfl rfl ?_
  refine J.getR hX 25 27 5 (hX.lt (k := 27) (by decide)) sh_27 rfl in_wsX50 10 (by decide) w_82 rfl rfl ?_
  refine J.iload_n hX 26 3 rfl rfl ?_
  obtain ⟨t5, et5, hb, h⟩ := ld_inv h
  refine J.ialdN hX 27 35 (hX.lt (k := 35) (by decide)) sh_35 hb et5 rfl ?_
  refine J.imul hX 28 rfl ?_
  refine J.bipush (v := 24) hX 29 rfl (by decide) ?_
  refine J.iadd hX 30 rfl ?_
  refine J.icmp_ge (tgt := 102) hX 31 rfl (by decide) (fun b3 => ?_) (fun b3 => ?_)
  · rw [if_pos b3] at h
    refine J.sub (L' := [(0, .ref (ad 27)), (1, .int l1), (2, .int c3), (3, .int c2)]) [0, 1, 2, 3] rfl ?_
    exact hex0 _ (Option.some.inj h).symm
  · rw [if_neg b3] at h
    refine J.aload_n hX 32 0 rfl rfl ?_
    refine J.getR hX 33 27 5 (hX.lt (k := 27) (by decide)) sh_27 rfl in_wsX50 10 (by decide) w_82 rfl rfl ?_
    refine J.iload_n hX 34 3 rfl rfl ?_
    obtain ⟨t6, et6, hb, h⟩ := ld_inv h
    refine J.ialdN hX 35 35 (hX.lt (k := 35) (by decide)) sh_35 hb et6 rfl ?_
    refine J.iconst (v := (-1)) hX 36 rfl (by decide) ?_
    refine J.icmp_eq (tgt := 102) hX 37 rfl (by decide) (fun b4 => ?_) (fun b4 => ?_)
    · rw [if_pos b4] at h
      refine J.sub (L' := [(0, .ref (ad 27)), (1, .int l1), (2, .int c3), (3, .int c2)]) [0, 1, 2, 3] rfl ?_
      exact hex0 _ (Option.some.inj h).symm
    · rw [if_neg b4] at h
      refine J.aload_n hX 38 0 rfl rfl ?_
      refine J.getR hX 39 27 5 (hX.lt (k := 27) (by decide)) sh_27 rfl in_wsX50 2 (by decide) w_75 rfl rfl ?_
      refine J.iload hX 40 4 rfl rfl ?_
      obtain ⟨t7, et7, hb, h⟩ := ld_inv h
      refine J.ialdN hX 41 28 (hX.lt (k := 28) (by decide)) sh_28 hb et7 rfl ?_
      refine J.if_le (tgt := 94) hX 42 rfl (by decide) (fun b5 => ?_) (fun b5 => ?_)
      · rw [if_pos b5] at h
        refine J.sub (L' := [(0, .ref (ad 27)), (1, .int l1), (2, .int c3), (3, .int c2), (4, .int c4)]) [0, 1, 2, 3, 4] rfl ?_
        exact X5_area_L35_j94_ok hX  h hin hex0
      · rw [if_neg b5] at h
        refine J.aload_n hX 43 0 rfl rfl ?_
        refine J.getR hX 44 27 5 (hX.lt (k := 27) (by decide)) sh_27 rfl in_wsX50 3 (by decide) w_76 rfl rfl ?_
        refine J.iload hX 45 4 rfl rfl ?_
        obtain ⟨t9, et9, hb, h⟩ := ld_inv h
        refine J.ialdN hX 46 29 (hX.lt (k := 29) (by decide)) sh_29 hb et9 rfl ?_
        refine J.iload_n hX 47 1 rfl rfl ?_
        refine J.icmp_ne (tgt := 94) hX 48 rfl (by decide) (fun b6 => ?_) (fun b6 => ?_)
        · rw [if_neg b6] at h
          refine J.sub (L' := [(0, .ref (ad 27)), (1, .int l1), (2, .int c3), (3, .int c2), (4, .int c4)]) [0, 1, 2, 3, 4] rfl ?_
          exact X5_area_L35_j94_ok hX  h hin hex0
        · rw [if_pos b6] at h
          refine J.iload_n hX 49 2 rfl rfl ?_
          refine J.aload_n hX 50 0 rfl rfl ?_
          refine J.iload hX 51 4 rfl rfl ?_
          obtain ⟨t10, hc, h⟩ := bd1_inv h
          refine J.callV1 (As := [.int c4]) (rest := [.int c3]) (k := 27) hX 52 rfl (mX5_areaOf  hc) okX5_areaOf w_192 (hX.lt (k := 27) (by decide)) sh_27 rfl rfl rfl (Nat.le_of_ble_eq_true rfl) ⟨Nat.le_of_ble_eq_true rfl, Nat.le_of_ble_eq_true rfl⟩ ⟨Nat.zero_le _, Nat.zero_le _⟩ ?_
          refine J.iadd hX 53 rfl ?_
          refine J.goto (tgt := 95) hX 54 rfl (by decide) ?_
          refine J.sub (L' := [(0, .ref (ad 27)), (1, .int l1), (3, .int c2), (4, .int c4)]) [0, 1, 3, 4] rfl ?_
          exact X5_area_L35_j95_ok hX  h hin hex0
set_option maxHeartbeats 4000000 in
set_option maxRecDepth 100000 in
theorem X5_area_L18_j102_ok (hX : Cx p s m args meth c D cA ad n A sa cX5_area 5 RX5 kX5_area) {N6 : Mem} {l1 : Int32} {v5 : Int32} {v6 : Int32}  {r : (Int32 × Int32) ⊕ (Int32)} (h : X5_area_L18_j102 N6 l1 v5 v6 = some r) (hin : ∀ (q0 : Int32) (q1 : Int32), r = .inl (q0, q1) → JM 2 47 p l e s m args below meth c D cA ad n A 5 out M1 N6 18 [(0, .ref (ad 27)), (1, .int l1), (2, .int q0), (3, .int q1)] []) (hex0 : ∀ (q0 : Int32), r = .inr q0 → JM 2 47 p l e s m args below meth c D cA ad n A 5 out M1 N6 108 [(2, .int q0)] []) : JM 2 47 p l e s m args below meth c D cA ad n A 5 out M1 N6 102 [(0, .ref (ad 27)), (1, .int l1), (2, .int v5), (3, .int v6)] [] := by
  unfold X5_area_L18_j102 at h
  obtain ⟨t11, et11, h⟩ := bnd_inv h
  refine J.iinc (q := 3) (L' := [(3, .int t11), (0, .ref (ad 27)), (1, .int l1), (2, .int v5)]) hX 59 rfl rfl et11 (by decide) rfl ?_
  refine J.goto (tgt := 18) hX 60 rfl (by decide) ?_
  refine J.sub (L' := [(0, .ref (ad 27)), (1, .int l1), (2, .int v5), (3, .int t11)]) [1, 2, 3, 0] rfl ?_
  exact hin _ _ (Option.some.inj h).symm
set_option maxHeartbeats 4000000 in
set_option maxRecDepth 100000 in
theorem X5_area_L18_ok (hX : Cx p s m args meth c D cA ad n A sa cX5_area 5 RX5 kX5_area) {N2 : Mem} {l1 : Int32} {c1 : Int32} {c2 : Int32}  {r : (Int32 × Int32) ⊕ (Int32)} (h : X5_area_L18 N2 l1 (c1, c2) = some r) (hin : ∀ (q0 : Int32) (q1 : Int32), r = .inl (q0, q1) → JM 2 47 p l e s m args below meth c D cA ad n A 5 out M1 N2 18 [(0, .ref (ad 27)), (1, .int l1), (2, .int q0), (3, .int q1)] []) (hex0 : ∀ (q0 : Int32), r = .inr q0 → JM 2 47 p l e s m args below meth c D cA ad n A 5 out M1 N2 108 [(2, .int q0)] []) : JM 2 47 p l e s m args below meth c D cA ad n A 5 out M1 N2 18 [(0, .ref (ad 27)), (1, .int l1), (2, .int c1), (3, .int c2)] [] := by
  unfold X5_area_L18 at h
  have h := un2_inv h
  refine J.iload_n hX 12 3 rfl rfl ?_
  refine J.bipush (v := 36) hX 13 rfl (by decide) ?_
  refine J.icmp_ge (tgt := 108) hX 14 rfl (by decide) (fun b2 => ?_) (fun b2 => ?_)
  · rw [if_pos b2] at h
    refine J.sub (L' := [(2, .int c1)]) [2] rfl ?_
    exact hex0 _ (Option.some.inj h).symm
  · rw [if_neg b2] at h
    refine J.bipush (v := 24) hX 15 rfl (by decide) ?_
    refine J.aload_n hX 16 0 rfl rfl ?_
    refine J.getR hX 17 27 5 (hX.lt (k := 27) (by decide)) sh_27 rfl in_wsX50 10 (by decide) w_82 rfl rfl ?_
    refine J.iload_n hX 18 3 rfl rfl ?_
    obtain ⟨t3, et3, hb, h⟩ := ld_inv h
    refine J.ialdN hX 19 35 (hX.lt (k := 35) (by decide)) sh_35 hb et3 rfl ?_
    refine J.imul hX 20 rfl ?_
    obtain ⟨t4, et4, h⟩ := bnd_inv h
    refine J.nm et4 ?_
    refine J.istore (L' := [(4, .int t4), (0, .ref (ad 27)), (1, .int l1), (2, .int c1), (3, .int c2)]) hX 21 rfl (by decide) rfl ?_
    refine J.sub (L' := [(0, .ref (ad 27)), (1, .int l1), (2, .int c1), (3, .int c2), (4, .int t4)]) [1, 2, 3, 4, 0] rfl ?_
    obtain ⟨x1, hlp, h⟩ := bd1_inv h
    suffices hE : JM 2 47 p l e s m args below meth c D cA ad n A 5 out M1 N2 102 [(0, .ref (ad 27)), (1, .int l1), (2, .int x1), (3, .int c2)] [] by
      exact loop_ok (fun q9 : Int32 × Int32 => JM 2 47 p l e s m args below meth c D cA ad n A 5 out M1 N2 35 [(0, .ref (ad 27)), (1, .int l1), (2, .int q9.1), (3, .int c2), (4, .int q9.2)] []) (fun q9 r hB hst hex9 => X5_area_L35_ok hX  hB (fun _ _ hr => hst _ hr) (fun _ hr => by cases hex9 _ hr; exact hE)) 3000 _ hlp
    refine J.sub (L' := [(0, .ref (ad 27)), (1, .int l1), (2, .int x1), (3, .int c2)]) [0, 1, 2, 3] rfl ?_
    exact X5_area_L18_j102_ok hX  h hin hex0
set_option maxHeartbeats 4000000 in
set_option maxRecDepth 100000 in
theorem mX5_area {l : Launch} {D : va_G} {cA : Nat → ClassId} {ad : Nat → Nat} {n : Nat} {A : Nat → Prop} {sa : Nat → Nat} {M : Mem} {l1 : Int32} {r : Int32} {Mf : Mem} (h : X5_area M l1 = some (r, Mf)) : CT l D cA ad n A sa yX5_area cX5_area 5 (some .int) 2 47 [.ref (ad 27), .int l1] M (.inl (some (.int r))) Mf := by
  refine CT.of (kt := kX5_area) (by decide) kX5_area_ok (Nat.le_of_ble_eq_true rfl) ?_
  intro p e s m args below meth c hX hr ht
  unfold X5_area at h
  refine J.sub (L' := [(0, .ref (ad 27)), (1, .int l1)]) [0, 1] rfl ?_
  refine J.aload_n hX 0 0 rfl rfl ?_
  refine J.iload_n hX 1 1 rfl rfl ?_
  obtain ⟨t1, hc, h⟩ := bd1_inv h
  refine J.callS1 (As := [.int l1]) (rest := [.ref (ad 27)]) hX 2 rfl (mX5_isCloth  hc) okX5_isCloth w_177 rfl rfl (Nat.le_of_ble_eq_true rfl) ⟨Nat.le_of_ble_eq_true rfl, Nat.le_of_ble_eq_true rfl⟩ ⟨Nat.zero_le _, Nat.zero_le _⟩ ?_
  refine J.iconst (v := 1) hX 3 rfl (by decide) ?_
  obtain ⟨t2, N1, hc, h⟩ := bd2_inv h
  refine J.callV1 (As := [.int t1, .int 1]) (rest := []) (k := 27) hX 4 rfl (mX5_goes  hc) okX5_goes w_137 (hX.lt (k := 27) (by decide)) sh_27 rfl rfl rfl (Nat.le_of_ble_eq_true rfl) ⟨Nat.le_of_ble_eq_true rfl, Nat.le_of_ble_eq_true rfl⟩ ⟨Nat.zero_le _, Nat.zero_le _⟩ ?_
  refine J.if_ne (tgt := 14) hX 5 rfl (by decide) (fun b1 => ?_) (fun b1 => ?_)
  · rw [if_neg b1] at h
    refine J.iconst (v := 0) hX 8 rfl (by decide) ?_
    refine J.istore_n (L' := [(2, .int 0), (0, .ref (ad 27)), (1, .int l1)]) hX 9 rfl (by decide) rfl ?_
    refine J.iconst (v := 0) hX 10 rfl (by decide) ?_
    refine J.istore_n (L' := [(3, .int 0), (2, .int 0), (0, .ref (ad 27)), (1, .int l1)]) hX 11 rfl (by decide) rfl ?_
    refine J.sub (L' := [(0, .ref (ad 27)), (1, .int l1), (2, .int 0), (3, .int 0)]) [2, 3, 1, 0] rfl ?_
    obtain ⟨x2, hlp, h⟩ := bd1_inv h
    suffices hE : JM 2 47 p l e s m args below meth c D cA ad n A 5 (.inl (some (.int r))) Mf N1 108 [(2, .int x2)] [] by
      exact loop_ok (fun q9 : Int32 × Int32 => JM 2 47 p l e s m args below meth c D cA ad n A 5 (.inl (some (.int r))) Mf N1 18 [(0, .ref (ad 27)), (1, .int l1), (2, .int q9.1), (3, .int q9.2)] []) (fun q9 r hB hst hex9 => X5_area_L18_ok hX  hB (fun _ _ hr => hst _ hr) (fun _ hr => by cases hex9 _ hr; exact hE)) 3000 _ hlp
    refine J.iload_n hX 61 0 rfl rfl ?_
    cases h
    exact J.iret hX hr 62 rfl
  · rw [if_pos b1] at h
    refine J.iconst (v := 0) hX 6 rfl (by decide) ?_
    cases h
    exact J.iret hX hr 7 rfl
def X5_rows_L4_j30 (M : Mem) (v1 : Int32) (v2 : Int32) : Option ((Int32 × Int32) ⊕ (Int32)) := bnd (v1 + 1) (fun t2 => some (.inl (v2, t2)))
def X5_rows_L4 (M : Mem) (q9 : Int32 × Int32) : Option ((Int32 × Int32) ⊕ (Int32)) := un2 q9 (fun c1 c2 => if 36 ≤ c2 then (some (.inr c1)) else (ld M 35 36 c2 (fun t1 => if t1 = (-1) then (X5_rows_L4_j30 M c2 c1) else (X5_rows_L4_j30 M c2 ((c2 / 6) + 1)))))
def X5_rows (M : Mem) : Option (Int32) := bd1 (loop (X5_rows_L4 M) 3000 (0, 0)) (fun x1 => some x1)
set_option maxHeartbeats 4000000 in
set_option maxRecDepth 100000 in
theorem X5_rows_L4_j30_ok (hX : Cx p s m args meth c D cA ad n A sa cX5_rows 3 RX5 kX5_rows) {M : Mem} {v1 : Int32} {v2 : Int32}  {r : (Int32 × Int32) ⊕ (Int32)} (h : X5_rows_L4_j30 M v1 v2 = some r) (hin : ∀ (q0 : Int32) (q1 : Int32), r = .inl (q0, q1) → JM 0 0 p l e s m args below meth c D cA ad n A 3 out M1 M 4 [(0, .ref (ad 27)), (1, .int q0), (2, .int q1)] []) (hex0 : ∀ (q0 : Int32), r = .inr q0 → JM 0 0 p l e s m args below meth c D cA ad n A 3 out M1 M 37 [(1, .int q0)] []) : JM 0 0 p l e s m args below meth c D cA ad n A 3 out M1 M 30 [(0, .ref (ad 27)), (2, .int v1)] [.int v2] := by
  unfold X5_rows_L4_j30 at h
  refine J.istore_n (L' := [(1, .int v2), (0, .ref (ad 27)), (2, .int v1)]) hX 20 rfl (by decide) rfl ?_
  obtain ⟨t2, et2, h⟩ := bnd_inv h
  refine J.iinc (q := 2) (L' := [(2, .int t2), (1, .int v2), (0, .ref (ad 27))]) hX 21 rfl rfl et2 (by decide) rfl ?_
  refine J.goto (tgt := 4) hX 22 rfl (by decide) ?_
  refine J.sub (L' := [(0, .ref (ad 27)), (1, .int v2), (2, .int t2)]) [2, 1, 0] rfl ?_
  exact hin _ _ (Option.some.inj h).symm
set_option maxHeartbeats 4000000 in
set_option maxRecDepth 100000 in
theorem X5_rows_L4_ok (hX : Cx p s m args meth c D cA ad n A sa cX5_rows 3 RX5 kX5_rows) {M : Mem}  {c1 : Int32} {c2 : Int32}  {r : (Int32 × Int32) ⊕ (Int32)} (h : X5_rows_L4 M (c1, c2) = some r) (hin : ∀ (q0 : Int32) (q1 : Int32), r = .inl (q0, q1) → JM 0 0 p l e s m args below meth c D cA ad n A 3 out M1 M 4 [(0, .ref (ad 27)), (1, .int q0), (2, .int q1)] []) (hex0 : ∀ (q0 : Int32), r = .inr q0 → JM 0 0 p l e s m args below meth c D cA ad n A 3 out M1 M 37 [(1, .int q0)] []) : JM 0 0 p l e s m args below meth c D cA ad n A 3 out M1 M 4 [(0, .ref (ad 27)), (1, .int c1), (2, .int c2)] [] := by
  unfold X5_rows_L4 at h
  have h := un2_inv h
  refine J.iload_n hX 4 2 rfl rfl ?_
  refine J.bipush (v := 36) hX 5 rfl (by decide) ?_
  refine J.icmp_ge (tgt := 37) hX 6 rfl (by decide) (fun b1 => ?_) (fun b1 => ?_)
  · rw [if_pos b1] at h
    refine J.sub (L' := [(1, .int c1)]) [1] rfl ?_
    exact hex0 _ (Option.some.inj h).symm
  · rw [if_neg b1] at h
    refine J.aload_n hX 7 0 rfl rfl ?_
    refine J.getR hX 8 27 5 (hX.lt (k := 27) (by decide)) sh_27 rfl in_wsX50 10 (by decide) w_82 rfl rfl ?_
    refine J.iload_n hX 9 2 rfl rfl ?_
    obtain ⟨t1, et1, hb, h⟩ := ld_inv h
    refine J.ialdN hX 10 35 (hX.lt (k := 35) (by decide)) sh_35 hb et1 rfl ?_
    refine J.iconst (v := (-1)) hX 11 rfl (by decide) ?_
    refine J.icmp_eq (tgt := 29) hX 12 rfl (by decide) (fun b2 => ?_) (fun b2 => ?_)
    · rw [if_pos b2] at h
      refine J.iload_n hX 19 1 rfl rfl ?_
      refine J.sub (L' := [(0, .ref (ad 27)), (2, .int c2)]) [0, 2] rfl ?_
      exact X5_rows_L4_j30_ok hX  h hin hex0
    · rw [if_neg b2] at h
      refine J.iload_n hX 13 2 rfl rfl ?_
      refine J.bipush (v := 6) hX 14 rfl (by decide) ?_
      refine J.idiv hX 15 rfl (by decide) ?_
      refine J.iconst (v := 1) hX 16 rfl (by decide) ?_
      refine J.iadd hX 17 rfl ?_
      refine J.goto (tgt := 30) hX 18 rfl (by decide) ?_
      refine J.sub (L' := [(0, .ref (ad 27)), (2, .int c2)]) [0, 2] rfl ?_
      exact X5_rows_L4_j30_ok hX  h hin hex0
set_option maxHeartbeats 4000000 in
set_option maxRecDepth 100000 in
theorem mX5_rows {l : Launch} {D : va_G} {cA : Nat → ClassId} {ad : Nat → Nat} {n : Nat} {A : Nat → Prop} {sa : Nat → Nat} {M : Mem} {r : Int32} (h : X5_rows M = some r) : CT l D cA ad n A sa yX5_rows cX5_rows 3 (some .int) 0 0 [.ref (ad 27)] M (.inl (some (.int r))) M := by
  refine CT.of (kt := kX5_rows) (by decide) kX5_rows_ok (Nat.le_of_ble_eq_true rfl) ?_
  intro p e s m args below meth c hX hr ht
  unfold X5_rows at h
  refine J.sub (L' := [(0, .ref (ad 27))]) [0] rfl ?_
  refine J.iconst (v := 0) hX 0 rfl (by decide) ?_
  refine J.istore_n (L' := [(1, .int 0), (0, .ref (ad 27))]) hX 1 rfl (by decide) rfl ?_
  refine J.iconst (v := 0) hX 2 rfl (by decide) ?_
  refine J.istore_n (L' := [(2, .int 0), (1, .int 0), (0, .ref (ad 27))]) hX 3 rfl (by decide) rfl ?_
  refine J.sub (L' := [(0, .ref (ad 27)), (1, .int 0), (2, .int 0)]) [2, 1, 0] rfl ?_
  obtain ⟨x1, hlp, h⟩ := bd1_inv h
  suffices hE : JM 0 0 p l e s m args below meth c D cA ad n A 3 (.inl (some (.int r))) M M 37 [(1, .int x1)] [] by
    exact loop_ok (fun q9 : Int32 × Int32 => JM 0 0 p l e s m args below meth c D cA ad n A 3 (.inl (some (.int r))) M M 4 [(0, .ref (ad 27)), (1, .int q9.1), (2, .int q9.2)] []) (fun q9 r hB hst hex9 => X5_rows_L4_ok hX  hB (fun _ _ hr => hst _ hr) (fun _ hr => by cases hex9 _ hr; exact hE)) 3000 _ hlp
  refine J.iload_n hX 23 0 rfl rfl ?_
  cases h
  exact J.iret hX hr 24 rfl
def X5_columns_L4_j40 (M : Mem) (v3 : Int32) (v4 : Int32) : Option ((Int32 × Int32) ⊕ (Int32)) := bnd (v3 + 1) (fun t2 => some (.inl (v4, t2)))
def X5_columns_L4_j39 (M : Mem) (v1 : Int32) (v2 : Int32) : Option ((Int32 × Int32) ⊕ (Int32)) := X5_columns_L4_j40 M v2 v1
def X5_columns_L4 (M : Mem) (q9 : Int32 × Int32) : Option ((Int32 × Int32) ⊕ (Int32)) := un2 q9 (fun c1 c2 => if 36 ≤ c2 then (some (.inr c1)) else (ld M 35 36 c2 (fun t1 => if t1 = (-1) then (X5_columns_L4_j39 M c1 c2) else (if ((c2 - c2 / 6 * 6) + 1) ≤ c1 then (X5_columns_L4_j39 M c1 c2) else (X5_columns_L4_j40 M c2 ((c2 - c2 / 6 * 6) + 1))))))
def X5_columns (M : Mem) : Option (Int32) := bd1 (loop (X5_columns_L4 M) 3000 (0, 0)) (fun x1 => some x1)
set_option maxHeartbeats 4000000 in
set_option maxRecDepth 100000 in
theorem X5_columns_L4_j40_ok (hX : Cx p s m args meth c D cA ad n A sa cX5_columns 3 RX5 kX5_columns) {M : Mem} {v3 : Int32} {v4 : Int32}  {r : (Int32 × Int32) ⊕ (Int32)} (h : X5_columns_L4_j40 M v3 v4 = some r) (hin : ∀ (q0 : Int32) (q1 : Int32), r = .inl (q0, q1) → JM 0 0 p l e s m args below meth c D cA ad n A 3 out M1 M 4 [(0, .ref (ad 27)), (1, .int q0), (2, .int q1)] []) (hex0 : ∀ (q0 : Int32), r = .inr q0 → JM 0 0 p l e s m args below meth c D cA ad n A 3 out M1 M 47 [(1, .int q0)] []) : JM 0 0 p l e s m args below meth c D cA ad n A 3 out M1 M 40 [(0, .ref (ad 27)), (2, .int v3)] [.int v4] := by
  unfold X5_columns_L4_j40 at h
  refine J.istore_n (L' := [(1, .int v4), (0, .ref (ad 27)), (2, .int v3)]) hX 27 rfl (by decide) rfl ?_
  obtain ⟨t2, et2, h⟩ := bnd_inv h
  refine J.iinc (q := 2) (L' := [(2, .int t2), (1, .int v4), (0, .ref (ad 27))]) hX 28 rfl rfl et2 (by decide) rfl ?_
  refine J.goto (tgt := 4) hX 29 rfl (by decide) ?_
  refine J.sub (L' := [(0, .ref (ad 27)), (1, .int v4), (2, .int t2)]) [2, 1, 0] rfl ?_
  exact hin _ _ (Option.some.inj h).symm
set_option maxHeartbeats 4000000 in
set_option maxRecDepth 100000 in
theorem X5_columns_L4_j39_ok (hX : Cx p s m args meth c D cA ad n A sa cX5_columns 3 RX5 kX5_columns) {M : Mem} {v1 : Int32} {v2 : Int32}  {r : (Int32 × Int32) ⊕ (Int32)} (h : X5_columns_L4_j39 M v1 v2 = some r) (hin : ∀ (q0 : Int32) (q1 : Int32), r = .inl (q0, q1) → JM 0 0 p l e s m args below meth c D cA ad n A 3 out M1 M 4 [(0, .ref (ad 27)), (1, .int q0), (2, .int q1)] []) (hex0 : ∀ (q0 : Int32), r = .inr q0 → JM 0 0 p l e s m args below meth c D cA ad n A 3 out M1 M 47 [(1, .int q0)] []) : JM 0 0 p l e s m args below meth c D cA ad n A 3 out M1 M 39 [(0, .ref (ad 27)), (1, .int v1), (2, .int v2)] [] := by
  unfold X5_columns_L4_j39 at h
  refine J.iload_n hX 26 1 rfl rfl ?_
  refine J.sub (L' := [(0, .ref (ad 27)), (2, .int v2)]) [0, 2] rfl ?_
  exact X5_columns_L4_j40_ok hX  h hin hex0
set_option maxHeartbeats 4000000 in
set_option maxRecDepth 100000 in
theorem X5_columns_L4_ok (hX : Cx p s m args meth c D cA ad n A sa cX5_columns 3 RX5 kX5_columns) {M : Mem}  {c1 : Int32} {c2 : Int32}  {r : (Int32 × Int32) ⊕ (Int32)} (h : X5_columns_L4 M (c1, c2) = some r) (hin : ∀ (q0 : Int32) (q1 : Int32), r = .inl (q0, q1) → JM 0 0 p l e s m args below meth c D cA ad n A 3 out M1 M 4 [(0, .ref (ad 27)), (1, .int q0), (2, .int q1)] []) (hex0 : ∀ (q0 : Int32), r = .inr q0 → JM 0 0 p l e s m args below meth c D cA ad n A 3 out M1 M 47 [(1, .int q0)] []) : JM 0 0 p l e s m args below meth c D cA ad n A 3 out M1 M 4 [(0, .ref (ad 27)), (1, .int c1), (2, .int c2)] [] := by
  unfold X5_columns_L4 at h
  have h := un2_inv h
  refine J.iload_n hX 4 2 rfl rfl ?_
  refine J.bipush (v := 36) hX 5 rfl (by decide) ?_
  refine J.icmp_ge (tgt := 47) hX 6 rfl (by decide) (fun b1 => ?_) (fun b1 => ?_)
  · rw [if_pos b1] at h
    refine J.sub (L' := [(1, .int c1)]) [1] rfl ?_
    exact hex0 _ (Option.some.inj h).symm
  · rw [if_neg b1] at h
    refine J.aload_n hX 7 0 rfl rfl ?_
    refine J.getR hX 8 27 5 (hX.lt (k := 27) (by decide)) sh_27 rfl in_wsX50 10 (by decide) w_82 rfl rfl ?_
    refine J.iload_n hX 9 2 rfl rfl ?_
    obtain ⟨t1, et1, hb, h⟩ := ld_inv h
    refine J.ialdN hX 10 35 (hX.lt (k := 35) (by decide)) sh_35 hb et1 rfl ?_
    refine J.iconst (v := (-1)) hX 11 rfl (by decide) ?_
    refine J.icmp_eq (tgt := 39) hX 12 rfl (by decide) (fun b2 => ?_) (fun b2 => ?_)
    · rw [if_pos b2] at h
      refine J.sub (L' := [(0, .ref (ad 27)), (1, .int c1), (2, .int c2)]) [0, 1, 2] rfl ?_
      exact X5_columns_L4_j39_ok hX  h hin hex0
    · rw [if_neg b2] at h
      refine J.iload_n hX 13 2 rfl rfl ?_
      refine J.bipush (v := 6) hX 14 rfl (by decide) ?_
      refine J.irem hX 15 rfl (by decide) ?_
      refine J.iconst (v := 1) hX 16 rfl (by decide) ?_
      refine J.iadd hX 17 rfl ?_
      refine J.iload_n hX 18 1 rfl rfl ?_
      refine J.icmp_le (tgt := 39) hX 19 rfl (by decide) (fun b3 => ?_) (fun b3 => ?_)
      · rw [if_pos b3] at h
        refine J.sub (L' := [(0, .ref (ad 27)), (1, .int c1), (2, .int c2)]) [0, 1, 2] rfl ?_
        exact X5_columns_L4_j39_ok hX  h hin hex0
      · rw [if_neg b3] at h
        refine J.iload_n hX 20 2 rfl rfl ?_
        refine J.bipush (v := 6) hX 21 rfl (by decide) ?_
        refine J.irem hX 22 rfl (by decide) ?_
        refine J.iconst (v := 1) hX 23 rfl (by decide) ?_
        refine J.iadd hX 24 rfl ?_
        refine J.goto (tgt := 40) hX 25 rfl (by decide) ?_
        refine J.sub (L' := [(0, .ref (ad 27)), (2, .int c2)]) [0, 2] rfl ?_
        exact X5_columns_L4_j40_ok hX  h hin hex0
set_option maxHeartbeats 4000000 in
set_option maxRecDepth 100000 in
theorem mX5_columns {l : Launch} {D : va_G} {cA : Nat → ClassId} {ad : Nat → Nat} {n : Nat} {A : Nat → Prop} {sa : Nat → Nat} {M : Mem} {r : Int32} (h : X5_columns M = some r) : CT l D cA ad n A sa yX5_columns cX5_columns 3 (some .int) 0 0 [.ref (ad 27)] M (.inl (some (.int r))) M := by
  refine CT.of (kt := kX5_columns) (by decide) kX5_columns_ok (Nat.le_of_ble_eq_true rfl) ?_
  intro p e s m args below meth c hX hr ht
  unfold X5_columns at h
  refine J.sub (L' := [(0, .ref (ad 27))]) [0] rfl ?_
  refine J.iconst (v := 0) hX 0 rfl (by decide) ?_
  refine J.istore_n (L' := [(1, .int 0), (0, .ref (ad 27))]) hX 1 rfl (by decide) rfl ?_
  refine J.iconst (v := 0) hX 2 rfl (by decide) ?_
  refine J.istore_n (L' := [(2, .int 0), (1, .int 0), (0, .ref (ad 27))]) hX 3 rfl (by decide) rfl ?_
  refine J.sub (L' := [(0, .ref (ad 27)), (1, .int 0), (2, .int 0)]) [2, 1, 0] rfl ?_
  obtain ⟨x1, hlp, h⟩ := bd1_inv h
  suffices hE : JM 0 0 p l e s m args below meth c D cA ad n A 3 (.inl (some (.int r))) M M 47 [(1, .int x1)] [] by
    exact loop_ok (fun q9 : Int32 × Int32 => JM 0 0 p l e s m args below meth c D cA ad n A 3 (.inl (some (.int r))) M M 4 [(0, .ref (ad 27)), (1, .int q9.1), (2, .int q9.2)] []) (fun q9 r hB hst hex9 => X5_columns_L4_ok hX  hB (fun _ _ hr => hst _ hr) (fun _ hr => by cases hex9 _ hr; exact hE)) 3000 _ hlp
  refine J.iload_n hX 30 0 rfl rfl ?_
  cases h
  exact J.iret hX hr 31 rfl
def X5_across_j23 (M : Mem) (v1 : Int32) : Option (Int32) := some v1
def X5_across (M : Mem) (l1 : Int32) : Option (Int32) := if l1 = 0 then (X5_across_j23 M 0) else (ld M 37 2 0 (fun t1 => X5_across_j23 M ((96 * l1) + (t1 * (l1 - 1)))))
set_option maxHeartbeats 4000000 in
set_option maxRecDepth 100000 in
theorem X5_across_j23_ok (hX : Cx p s m args meth c D cA ad n A sa cX5_across 2 RX5 kX5_across) {M : Mem} {v1 : Int32} {r : Int32}  (hr : meth.sig.returnType = (some .int)) (ht : ∀ x ∈ c.exceptionTable.toList, False) (h : X5_across_j23 M v1 = some r) : JM 0 0 p l e s m args below meth c D cA ad n A 2 (.inl (some (.int r))) M M 23 [] [.int v1] := by
  unfold X5_across_j23 at h
  cases h
  exact J.iret hX hr 16 rfl
set_option maxHeartbeats 4000000 in
set_option maxRecDepth 100000 in
theorem mX5_across {l : Launch} {D : va_G} {cA : Nat → ClassId} {ad : Nat → Nat} {n : Nat} {A : Nat → Prop} {sa : Nat → Nat} {M : Mem} {l1 : Int32} {r : Int32} (h : X5_across M l1 = some r) : CT l D cA ad n A sa yX5_across cX5_across 2 (some .int) 0 0 [.ref (ad 27), .int l1] M (.inl (some (.int r))) M := by
  refine CT.of (kt := kX5_across) (by decide) kX5_across_ok (Nat.le_of_ble_eq_true rfl) ?_
  intro p e s m args below meth c hX hr ht
  unfold X5_across at h
  refine J.sub (L' := [(0, .ref (ad 27)), (1, .int l1)]) [0, 1] rfl ?_
  refine J.iload_n hX 0 1 rfl rfl ?_
  refine J.if_ne (tgt := 8) hX 1 rfl (by decide) (fun b1 => ?_) (fun b1 => ?_)
  · rw [if_neg b1] at h
    refine J.bipush (v := 96) hX 4 rfl (by decide) ?_
    refine J.iload_n hX 5 1 rfl rfl ?_
    refine J.imul hX 6 rfl ?_
    refine J.aload_n hX 7 0 rfl rfl ?_
    refine J.getR hX 8 27 5 (hX.lt (k := 27) (by decide)) sh_27 rfl in_wsX50 12 (by decide) w_84 rfl rfl ?_
    refine J.iconst (v := 0) hX 9 rfl (by decide) ?_
    obtain ⟨t1, et1, hb, h⟩ := ld_inv h
    refine J.ialdN hX 10 37 (hX.lt (k := 37) (by decide)) sh_37 hb et1 rfl ?_
    refine J.iload_n hX 11 1 rfl rfl ?_
    refine J.iconst (v := 1) hX 12 rfl (by decide) ?_
    refine J.isub hX 13 rfl ?_
    refine J.imul hX 14 rfl ?_
    refine J.iadd hX 15 rfl ?_
    refine J.sub (L' := []) [] rfl ?_
    exact X5_across_j23_ok hX  hr ht h
  · rw [if_pos b1] at h
    refine J.iconst (v := 0) hX 2 rfl (by decide) ?_
    refine J.goto (tgt := 23) hX 3 rfl (by decide) ?_
    refine J.sub (L' := []) [] rfl ?_
    exact X5_across_j23_ok hX  hr ht h
def X5_cutOf_j37 (N3 : Mem) (l3 : Int32) (v3 : Int32) (v4 : Int32) : Option (Mem) := sto N3 40 1000 v4 v3 (fun N4 => sto N4 41 1000 (N4 27 14) l3 (fun N5 => bnd (wr N5 27 14 ((N5 27 14) + 1)) (fun N6 => some N6)))
def X5_cutOf_j18 (N1 : Mem) (l1 : Int32) (l2 : Int32) (l3 : Int32) (v1 : Int32) (v2 : Int32) : Option (Mem) := sto N1 39 1000 v2 v1 (fun N2 => if l1 ≤ l2 then (X5_cutOf_j37 N2 l3 l1 (N2 27 14)) else (X5_cutOf_j37 N2 l3 l2 (N2 27 14)))
def X5_cutOf (M : Mem) (l1 : Int32) (l2 : Int32) (l3 : Int32) : Option (Mem) := if l1 ≤ l2 then (X5_cutOf_j18 M l1 l2 l3 l2 (M 27 14)) else (X5_cutOf_j18 M l1 l2 l3 l1 (M 27 14))
set_option maxHeartbeats 4000000 in
set_option maxRecDepth 100000 in
theorem X5_cutOf_j37_ok (hX : Cx p s m args meth c D cA ad n A sa cX5_cutOf 4 RX5 kX5_cutOf) {N3 : Mem} {l3 : Int32} {v3 : Int32} {v4 : Int32} {Mf : Mem}  (hr : meth.sig.returnType = none) (ht : ∀ x ∈ c.exceptionTable.toList, False) (h : X5_cutOf_j37 N3 l3 v3 v4 = some Mf) : JM 0 0 p l e s m args below meth c D cA ad n A 4 (.inl none) Mf N3 37 [(0, .ref (ad 27)), (3, .int l3)] [.int v3, .int v4, .ref (ad 40)] := by
  unfold X5_cutOf_j37 at h
  obtain ⟨N4, eN4, hb, h⟩ := sto_inv h
  refine J.iastN hX 21 40 (hX.lt (k := 40) (by decide)) sh_40 hb eN4 rfl ?_
  refine J.aload_n hX 22 0 rfl rfl ?_
  refine J.getR hX 23 27 5 (hX.lt (k := 27) (by decide)) sh_27 rfl in_wsX50 17 (by decide) w_88 rfl rfl ?_
  refine J.aload_n hX 24 0 rfl rfl ?_
  refine J.getI hX 25 27 5 (hX.lt (k := 27) (by decide)) sh_27 rfl in_wsX50 14 (by decide) w_621 rfl rfl ?_
  refine J.iload_n hX 26 1 rfl rfl ?_
  obtain ⟨N5, eN5, hb, h⟩ := sto_inv h
  refine J.iastN hX 27 41 (hX.lt (k := 41) (by decide)) sh_41 hb eN5 rfl ?_
  refine J.aload_n hX 28 0 rfl rfl ?_
  refine J.dup hX 29 rfl rfl ?_
  refine J.getI hX 30 27 5 (hX.lt (k := 27) (by decide)) sh_27 rfl in_wsX50 14 (by decide) w_621 rfl rfl ?_
  refine J.iconst (v := 1) hX 31 rfl (by decide) ?_
  refine J.iadd hX 32 rfl ?_
  obtain ⟨N6, eN6, h⟩ := bnd_inv h
  refine J.putIN hX 33 27 5 (hX.lt (k := 27) (by decide)) sh_27 rfl in_wsX50 14 (by decide) w_621 tyX5 tyX5_ok nmX5 eN6 rfl rfl (by decide +kernel) rfl ?_
  cases h
  exact J.vret hX hr 34 rfl
set_option maxHeartbeats 4000000 in
set_option maxRecDepth 100000 in
theorem X5_cutOf_j18_ok (hX : Cx p s m args meth c D cA ad n A sa cX5_cutOf 4 RX5 kX5_cutOf) {N1 : Mem} {l1 : Int32} {l2 : Int32} {l3 : Int32} {v1 : Int32} {v2 : Int32} {Mf : Mem}  (hr : meth.sig.returnType = none) (ht : ∀ x ∈ c.exceptionTable.toList, False) (h : X5_cutOf_j18 N1 l1 l2 l3 v1 v2 = some Mf) : JM 0 0 p l e s m args below meth c D cA ad n A 4 (.inl none) Mf N1 18 [(0, .ref (ad 27)), (1, .int l1), (2, .int l2), (3, .int l3)] [.int v1, .int v2, .ref (ad 39)] := by
  unfold X5_cutOf_j18 at h
  obtain ⟨N2, eN2, hb, h⟩ := sto_inv h
  refine J.iastN hX 10 39 (hX.lt (k := 39) (by decide)) sh_39 hb eN2 rfl ?_
  refine J.aload_n hX 11 0 rfl rfl ?_
  refine J.getR hX 12 27 5 (hX.lt (k := 27) (by decide)) sh_27 rfl in_wsX50 16 (by decide) w_87 rfl rfl ?_
  refine J.aload_n hX 13 0 rfl rfl ?_
  refine J.getI hX 14 27 5 (hX.lt (k := 27) (by decide)) sh_27 rfl in_wsX50 14 (by decide) w_621 rfl rfl ?_
  refine J.iload_n hX 15 1 rfl rfl ?_
  refine J.iload_n hX 16 2 rfl rfl ?_
  refine J.icmp_le (tgt := 36) hX 17 rfl (by decide) (fun b2 => ?_) (fun b2 => ?_)
  · rw [if_pos b2] at h
    refine J.iload_n hX 20 1 rfl rfl ?_
    refine J.sub (L' := [(0, .ref (ad 27)), (3, .int l3)]) [0, 3] rfl ?_
    exact X5_cutOf_j37_ok hX  hr ht h
  · rw [if_neg b2] at h
    refine J.iload_n hX 18 2 rfl rfl ?_
    refine J.goto (tgt := 37) hX 19 rfl (by decide) ?_
    refine J.sub (L' := [(0, .ref (ad 27)), (3, .int l3)]) [0, 3] rfl ?_
    exact X5_cutOf_j37_ok hX  hr ht h
set_option maxHeartbeats 4000000 in
set_option maxRecDepth 100000 in
theorem mX5_cutOf {l : Launch} {D : va_G} {cA : Nat → ClassId} {ad : Nat → Nat} {n : Nat} {A : Nat → Prop} {sa : Nat → Nat} {M : Mem} {l1 : Int32} {l2 : Int32} {l3 : Int32} {Mf : Mem} (h : X5_cutOf M l1 l2 l3 = some Mf) : CT l D cA ad n A sa yX5_cutOf cX5_cutOf 4 none 0 0 [.ref (ad 27), .int l1, .int l2, .int l3] M (.inl none) Mf := by
  refine CT.of (kt := kX5_cutOf) (by decide) kX5_cutOf_ok (Nat.le_of_ble_eq_true rfl) ?_
  intro p e s m args below meth c hX hr ht
  unfold X5_cutOf at h
  refine J.sub (L' := [(0, .ref (ad 27)), (1, .int l1), (2, .int l2), (3, .int l3)]) [0, 1, 2, 3] rfl ?_
  refine J.aload_n hX 0 0 rfl rfl ?_
  refine J.getR hX 1 27 5 (hX.lt (k := 27) (by decide)) sh_27 rfl in_wsX50 15 (by decide) w_86 rfl rfl ?_
  refine J.aload_n hX 2 0 rfl rfl ?_
  refine J.getI hX 3 27 5 (hX.lt (k := 27) (by decide)) sh_27 rfl in_wsX50 14 (by decide) w_621 rfl rfl ?_
  refine J.iload_n hX 4 1 rfl rfl ?_
  refine J.iload_n hX 5 2 rfl rfl ?_
  refine J.icmp_le (tgt := 17) hX 6 rfl (by decide) (fun b1 => ?_) (fun b1 => ?_)
  · rw [if_pos b1] at h
    refine J.iload_n hX 9 2 rfl rfl ?_
    refine J.sub (L' := [(0, .ref (ad 27)), (1, .int l1), (2, .int l2), (3, .int l3)]) [0, 1, 2, 3] rfl ?_
    exact X5_cutOf_j18_ok hX  hr ht h
  · rw [if_neg b1] at h
    refine J.iload_n hX 7 1 rfl rfl ?_
    refine J.goto (tgt := 18) hX 8 rfl (by decide) ?_
    refine J.sub (L' := [(0, .ref (ad 27)), (1, .int l1), (2, .int l2), (3, .int l3)]) [0, 1, 2, 3] rfl ?_
    exact X5_cutOf_j18_ok hX  hr ht h
def X5_gap_j14 (M : Mem) (v1 : Int32) : Option (Int32) := some v1
def X5_gap (M : Mem) (l0 : Int32) (l1 : Int32) : Option (Int32) := if l0 ≤ l1 then (X5_gap_j14 M (l1 - l0)) else (X5_gap_j14 M (l0 - l1))
set_option maxHeartbeats 4000000 in
set_option maxRecDepth 100000 in
theorem X5_gap_j14_ok (hX : Cx p s m args meth c D cA ad n A sa cX5_gap 2 RX5 kX5_gap) {M : Mem} {v1 : Int32} {r : Int32}  (hr : meth.sig.returnType = (some .int)) (ht : ∀ x ∈ c.exceptionTable.toList, False) (h : X5_gap_j14 M v1 = some r) : JM 0 0 p l e s m args below meth c D cA ad n A 2 (.inl (some (.int r))) M M 14 [] [.int v1] := by
  unfold X5_gap_j14 at h
  cases h
  exact J.iret hX hr 10 rfl
set_option maxHeartbeats 4000000 in
set_option maxRecDepth 100000 in
theorem mX5_gap {l : Launch} {D : va_G} {cA : Nat → ClassId} {ad : Nat → Nat} {n : Nat} {A : Nat → Prop} {sa : Nat → Nat} {M : Mem} {l0 : Int32} {l1 : Int32} {r : Int32} (h : X5_gap M l0 l1 = some r) : CT l D cA ad n A sa yX5_gap cX5_gap 2 (some .int) 0 0 [.int l0, .int l1] M (.inl (some (.int r))) M := by
  refine CT.of (kt := kX5_gap) (by decide) kX5_gap_ok (Nat.le_of_ble_eq_true rfl) ?_
  intro p e s m args below meth c hX hr ht
  unfold X5_gap at h
  refine J.sub (L' := [(0, .int l0), (1, .int l1)]) [0, 1] rfl ?_
  refine J.iload_n hX 0 0 rfl rfl ?_
  refine J.iload_n hX 1 1 rfl rfl ?_
  refine J.icmp_le (tgt := 11) hX 2 rfl (by decide) (fun b1 => ?_) (fun b1 => ?_)
  · rw [if_pos b1] at h
    refine J.iload_n hX 7 1 rfl rfl ?_
    refine J.iload_n hX 8 0 rfl rfl ?_
    refine J.isub hX 9 rfl ?_
    refine J.sub (L' := []) [] rfl ?_
    exact X5_gap_j14_ok hX  hr ht h
  · rw [if_neg b1] at h
    refine J.iload_n hX 3 0 rfl rfl ?_
    refine J.iload_n hX 4 1 rfl rfl ?_
    refine J.isub hX 5 rfl ?_
    refine J.goto (tgt := 14) hX 6 rfl (by decide) ?_
    refine J.sub (L' := []) [] rfl ?_
    exact X5_gap_j14_ok hX  hr ht h
def X5_half_L19_j120 (M : Mem) (l1 : Int32) (v6 : Int32) (v7 : Int32) (v8 : Int32) : Option ((Int32 × Int32 × Int32) ⊕ (Int32 × Int32)) := bnd (v7 + 1) (fun t8 => some (.inl (v6, v8, t8)))
def X5_half_L19_j81 (M : Mem) (l1 : Int32) (v1 : Int32) (v2 : Int32) (v3 : Int32) (v4 : Int32) (v5 : Int32) : Option ((Int32 × Int32 × Int32) ⊕ (Int32 × Int32)) := ld M 30 2112 v3 (fun t6 => ld M 30 2112 v4 (fun t7 => if t6 = t7 then (ld M 31 2112 v3 (fun t9 => ld M 31 2112 v4 (fun t10 => bd1 (X5_gap M t9 t10) (fun t11 => X5_half_L19_j120 M l1 v5 v2 t11)))) else (X5_half_L19_j120 M l1 v5 v2 v1)))
def X5_half_L19 (M : Mem) (l1 : Int32) (q9 : Int32 × Int32 × Int32) : Option ((Int32 × Int32 × Int32) ⊕ (Int32 × Int32)) := un3 q9 (fun c1 c2 c3 => if 3 ≤ c3 then (some (.inr (c1, c2))) else (bnd (((8 * l1) + c3)) (fun t2 => bd1 (X5_next M l1 c3) (fun t3 => ld M 31 2112 t2 (fun t4 => ld M 31 2112 t3 (fun t5 => if t4 = t5 then (ld M 30 2112 t2 (fun t12 => ld M 30 2112 t3 (fun t13 => bd1 (X5_gap M t12 t13) (fun t14 => X5_half_L19_j81 M l1 c2 c3 t2 t3 t14)))) else (X5_half_L19_j81 M l1 c2 c3 t2 t3 c1)))))))
def X5_half_j137 (M : Mem) (v9 : Int32) : Option (Int32) := some v9
def X5_half (M : Mem) (l1 : Int32) : Option (Int32) := ld M 28 264 l1 (fun t1 => if t1 = 3 then (bd2 (loop (X5_half_L19 M l1) 3000 (0, 0, 0)) (fun x1 x2 => if x1 = x2 then (X5_half_j137 M x1) else (X5_half_j137 M 0))) else (some 0))
set_option maxHeartbeats 4000000 in
set_option maxRecDepth 100000 in
theorem X5_half_L19_j120_ok (hX : Cx p s m args meth c D cA ad n A sa cX5_half 7 RX5 kX5_half) {M : Mem} {l1 : Int32} {v6 : Int32} {v7 : Int32} {v8 : Int32}  {r : (Int32 × Int32 × Int32) ⊕ (Int32 × Int32)} (h : X5_half_L19_j120 M l1 v6 v7 v8 = some r) (hin : ∀ (q0 : Int32) (q1 : Int32) (q2 : Int32), r = .inl (q0, q1, q2) → JM 1 22 p l e s m args below meth c D cA ad n A 7 out M1 M 19 [(0, .ref (ad 27)), (1, .int l1), (2, .int q0), (3, .int q1), (4, .int q2)] []) (hex0 : ∀ (q0 : Int32) (q1 : Int32), r = .inr (q0, q1) → JM 1 22 p l e s m args below meth c D cA ad n A 7 out M1 M 127 [(2, .int q0), (3, .int q1)] []) : JM 1 22 p l e s m args below meth c D cA ad n A 7 out M1 M 120 [(0, .ref (ad 27)), (1, .int l1), (2, .int v6), (4, .int v7)] [.int v8] := by
  unfold X5_half_L19_j120 at h
  refine J.istore_n (L' := [(3, .int v8), (0, .ref (ad 27)), (1, .int l1), (2, .int v6), (4, .int v7)]) hX 69 rfl (by decide) rfl ?_
  obtain ⟨t8, et8, h⟩ := bnd_inv h
  refine J.iinc (q := 4) (L' := [(4, .int t8), (3, .int v8), (0, .ref (ad 27)), (1, .int l1), (2, .int v6)]) hX 70 rfl rfl et8 (by decide) rfl ?_
  refine J.goto (tgt := 19) hX 71 rfl (by decide) ?_
  refine J.sub (L' := [(0, .ref (ad 27)), (1, .int l1), (2, .int v6), (3, .int v8), (4, .int t8)]) [2, 3, 4, 1, 0] rfl ?_
  exact hin _ _ _ (Option.some.inj h).symm
set_option maxHeartbeats 4000000 in
set_option maxRecDepth 100000 in
theorem X5_half_L19_j81_ok (hX : Cx p s m args meth c D cA ad n A sa cX5_half 7 RX5 kX5_half) {M : Mem} {l1 : Int32} {v1 : Int32} {v2 : Int32} {v3 : Int32} {v4 : Int32} {v5 : Int32}  {r : (Int32 × Int32 × Int32) ⊕ (Int32 × Int32)} (h : X5_half_L19_j81 M l1 v1 v2 v3 v4 v5 = some r) (hin : ∀ (q0 : Int32) (q1 : Int32) (q2 : Int32), r = .inl (q0, q1, q2) → JM 1 22 p l e s m args below meth c D cA ad n A 7 out M1 M 19 [(0, .ref (ad 27)), (1, .int l1), (2, .int q0), (3, .int q1), (4, .int q2)] []) (hex0 : ∀ (q0 : Int32) (q1 : Int32), r = .inr (q0, q1) → JM 1 22 p l e s m args below meth c D cA ad n A 7 out M1 M 127 [(2, .int q0), (3, .int q1)] []) : JM 1 22 p l e s m args below meth c D cA ad n A 7 out M1 M 81 [(0, .ref (ad 27)), (1, .int l1), (3, .int v1), (4, .int v2), (5, .int v3), (6, .int v4)] [.int v5] := by
  unfold X5_half_L19_j81 at h
  refine J.istore_n (L' := [(2, .int v5), (0, .ref (ad 27)), (1, .int l1), (3, .int v1), (4, .int v2), (5, .int v3), (6, .int v4)]) hX 48 rfl (by decide) rfl ?_
  refine J.aload_n hX 49 1 rfl rfl ?_
  refine J.getR hX 50 27 5 (hX.lt (k := 27) (by decide)) sh_27 rfl in_wsX50 4 (by decide) w_77 rfl rfl ?_
  refine J.iload hX 51 5 rfl rfl ?_
  obtain ⟨t6, et6, hb, h⟩ := ld_inv h
  refine J.ialdN hX 52 30 (hX.lt (k := 30) (by decide)) sh_30 hb et6 rfl ?_
  refine J.aload_n hX 53 1 rfl rfl ?_
  refine J.getR hX 54 27 5 (hX.lt (k := 27) (by decide)) sh_27 rfl in_wsX50 4 (by decide) w_77 rfl rfl ?_
  refine J.iload hX 55 6 rfl rfl ?_
  obtain ⟨t7, et7, hb, h⟩ := ld_inv h
  refine J.ialdN hX 56 30 (hX.lt (k := 30) (by decide)) sh_30 hb et7 rfl ?_
  refine J.icmp_ne (tgt := 119) hX 57 rfl (by decide) (fun b4 => ?_) (fun b4 => ?_)
  · rw [if_neg b4] at h
    refine J.iload_n hX 68 3 rfl rfl ?_
    refine J.sub (L' := [(0, .ref (ad 27)), (1, .int l1), (2, .int v5), (4, .int v2)]) [1, 2, 0, 4] rfl ?_
    exact X5_half_L19_j120_ok hX  h hin hex0
  · rw [if_pos b4] at h
    refine J.aload_n hX 58 1 rfl rfl ?_
    refine J.getR hX 59 27 5 (hX.lt (k := 27) (by decide)) sh_27 rfl in_wsX50 5 (by decide) w_78 rfl rfl ?_
    refine J.iload hX 60 5 rfl rfl ?_
    obtain ⟨t9, et9, hb, h⟩ := ld_inv h
    refine J.ialdN hX 61 31 (hX.lt (k := 31) (by decide)) sh_31 hb et9 rfl ?_
    refine J.aload_n hX 62 1 rfl rfl ?_
    refine J.getR hX 63 27 5 (hX.lt (k := 27) (by decide)) sh_27 rfl in_wsX50 5 (by decide) w_78 rfl rfl ?_
    refine J.iload hX 64 6 rfl rfl ?_
    obtain ⟨t10, et10, hb, h⟩ := ld_inv h
    refine J.ialdN hX 65 31 (hX.lt (k := 31) (by decide)) sh_31 hb et10 rfl ?_
    obtain ⟨t11, hc, h⟩ := bd1_inv h
    refine J.callS1 (As := [.int t9, .int t10]) (rest := []) hX 66 rfl (mX5_gap  hc) okX5_gap w_640 rfl rfl (Nat.le_of_ble_eq_true rfl) ⟨Nat.le_of_ble_eq_true rfl, Nat.le_of_ble_eq_true rfl⟩ ⟨Nat.zero_le _, Nat.zero_le _⟩ ?_
    refine J.goto (tgt := 120) hX 67 rfl (by decide) ?_
    refine J.sub (L' := [(0, .ref (ad 27)), (1, .int l1), (2, .int v5), (4, .int v2)]) [1, 2, 0, 4] rfl ?_
    exact X5_half_L19_j120_ok hX  h hin hex0
set_option maxHeartbeats 4000000 in
set_option maxRecDepth 100000 in
theorem X5_half_L19_ok (hX : Cx p s m args meth c D cA ad n A sa cX5_half 7 RX5 kX5_half) {M : Mem} {l1 : Int32} {c1 : Int32} {c2 : Int32} {c3 : Int32}  {r : (Int32 × Int32 × Int32) ⊕ (Int32 × Int32)} (h : X5_half_L19 M l1 (c1, c2, c3) = some r) (hin : ∀ (q0 : Int32) (q1 : Int32) (q2 : Int32), r = .inl (q0, q1, q2) → JM 1 22 p l e s m args below meth c D cA ad n A 7 out M1 M 19 [(0, .ref (ad 27)), (1, .int l1), (2, .int q0), (3, .int q1), (4, .int q2)] []) (hex0 : ∀ (q0 : Int32) (q1 : Int32), r = .inr (q0, q1) → JM 1 22 p l e s m args below meth c D cA ad n A 7 out M1 M 127 [(2, .int q0), (3, .int q1)] []) : JM 1 22 p l e s m args below meth c D cA ad n A 7 out M1 M 19 [(0, .ref (ad 27)), (1, .int l1), (2, .int c1), (3, .int c2), (4, .int c3)] [] := by
  unfold X5_half_L19 at h
  have h := un3_inv h
  refine J.iload hX 14 4 rfl rfl ?_
  refine J.iconst (v := 3) hX 15 rfl (by decide) ?_
  refine J.icmp_ge (tgt := 127) hX 16 rfl (by decide) (fun b2 => ?_) (fun b2 => ?_)
  · rw [if_pos b2] at h
    refine J.sub (L' := [(2, .int c1), (3, .int c2)]) [2, 3] rfl ?_
    exact hex0 _ _ (Option.some.inj h).symm
  · rw [if_neg b2] at h
    refine J.bipush (v := 8) hX 17 rfl (by decide) ?_
    refine J.iload_n hX 18 1 rfl rfl ?_
    refine J.imul hX 19 rfl ?_
    refine J.iload hX 20 4 rfl rfl ?_
    refine J.iadd hX 21 rfl ?_
    obtain ⟨t2, et2, h⟩ := bnd_inv h
    refine J.nm et2 ?_
    refine J.istore (L' := [(5, .int t2), (0, .ref (ad 27)), (1, .int l1), (2, .int c1), (3, .int c2), (4, .int c3)]) hX 22 rfl (by decide) rfl ?_
    refine J.aload_n hX 23 1 rfl rfl ?_
    refine J.iload_n hX 24 2 rfl rfl ?_
    refine J.iload hX 25 5 rfl rfl ?_
    obtain ⟨t3, hc, h⟩ := bd1_inv h
    refine J.callV1 (As := [.int l1, .int c3]) (rest := []) (k := 27) hX 26 rfl (mX5_next  hc) okX5_next w_184 (hX.lt (k := 27) (by decide)) sh_27 rfl rfl rfl (Nat.le_of_ble_eq_true rfl) ⟨Nat.le_of_ble_eq_true rfl, Nat.le_of_ble_eq_true rfl⟩ ⟨Nat.zero_le _, Nat.zero_le _⟩ ?_
    refine J.istore (L' := [(6, .int t3), (5, .int t2), (0, .ref (ad 27)), (1, .int l1), (2, .int c1), (3, .int c2), (4, .int c3)]) hX 27 rfl (by decide) rfl ?_
    refine J.aload_n hX 28 2 rfl rfl ?_
    refine J.getR hX 29 27 5 (hX.lt (k := 27) (by decide)) sh_27 rfl in_wsX50 5 (by decide) w_78 rfl rfl ?_
    refine J.iload hX 30 1 rfl rfl ?_
    obtain ⟨t4, et4, hb, h⟩ := ld_inv h
    refine J.ialdN hX 31 31 (hX.lt (k := 31) (by decide)) sh_31 hb et4 rfl ?_
    refine J.aload_n hX 32 2 rfl rfl ?_
    refine J.getR hX 33 27 5 (hX.lt (k := 27) (by decide)) sh_27 rfl in_wsX50 5 (by decide) w_78 rfl rfl ?_
    refine J.iload hX 34 0 rfl rfl ?_
    obtain ⟨t5, et5, hb, h⟩ := ld_inv h
    refine J.ialdN hX 35 31 (hX.lt (k := 31) (by decide)) sh_31 hb et5 rfl ?_
    refine J.icmp_ne (tgt := 80) hX 36 rfl (by decide) (fun b3 => ?_) (fun b3 => ?_)
    · rw [if_neg b3] at h
      refine J.iload_n hX 47 4 rfl rfl ?_
      refine J.sub (L' := [(0, .ref (ad 27)), (1, .int l1), (3, .int c2), (4, .int c3), (5, .int t2), (6, .int t3)]) [2, 3, 5, 6, 1, 0] rfl ?_
      exact X5_half_L19_j81_ok hX  h hin hex0
    · rw [if_pos b3] at h
      refine J.aload_n hX 37 2 rfl rfl ?_
      refine J.getR hX 38 27 5 (hX.lt (k := 27) (by decide)) sh_27 rfl in_wsX50 4 (by decide) w_77 rfl rfl ?_
      refine J.iload hX 39 1 rfl rfl ?_
      obtain ⟨t12, et12, hb, h⟩ := ld_inv h
      refine J.ialdN hX 40 30 (hX.lt (k := 30) (by decide)) sh_30 hb et12 rfl ?_
      refine J.aload_n hX 41 2 rfl rfl ?_
      refine J.getR hX 42 27 5 (hX.lt (k := 27) (by decide)) sh_27 rfl in_wsX50 4 (by decide) w_77 rfl rfl ?_
      refine J.iload hX 43 0 rfl rfl ?_
      obtain ⟨t13, et13, hb, h⟩ := ld_inv h
      refine J.ialdN hX 44 30 (hX.lt (k := 30) (by decide)) sh_30 hb et13 rfl ?_
      obtain ⟨t14, hc, h⟩ := bd1_inv h
      refine J.callS1 (As := [.int t12, .int t13]) (rest := []) hX 45 rfl (mX5_gap  hc) okX5_gap w_640 rfl rfl (Nat.le_of_ble_eq_true rfl) ⟨Nat.le_of_ble_eq_true rfl, Nat.le_of_ble_eq_true rfl⟩ ⟨Nat.zero_le _, Nat.zero_le _⟩ ?_
      refine J.goto (tgt := 81) hX 46 rfl (by decide) ?_
      refine J.sub (L' := [(0, .ref (ad 27)), (1, .int l1), (3, .int c2), (4, .int c3), (5, .int t2), (6, .int t3)]) [2, 3, 5, 6, 1, 0] rfl ?_
      exact X5_half_L19_j81_ok hX  h hin hex0
set_option maxHeartbeats 4000000 in
set_option maxRecDepth 100000 in
theorem X5_half_j137_ok (hX : Cx p s m args meth c D cA ad n A sa cX5_half 7 RX5 kX5_half) {M : Mem} {v9 : Int32} {r : Int32}  (hr : meth.sig.returnType = (some .int)) (ht : ∀ x ∈ c.exceptionTable.toList, False) (h : X5_half_j137 M v9 = some r) : JM 1 22 p l e s m args below meth c D cA ad n A 7 (.inl (some (.int r))) M M 137 [] [.int v9] := by
  unfold X5_half_j137 at h
  cases h
  exact J.iret hX hr 78 rfl
set_option maxHeartbeats 4000000 in
set_option maxRecDepth 100000 in
theorem mX5_half {l : Launch} {D : va_G} {cA : Nat → ClassId} {ad : Nat → Nat} {n : Nat} {A : Nat → Prop} {sa : Nat → Nat} {M : Mem} {l1 : Int32} {r : Int32} (h : X5_half M l1 = some r) : CT l D cA ad n A sa yX5_half cX5_half 7 (some .int) 1 22 [.ref (ad 27), .int l1] M (.inl (some (.int r))) M := by
  refine CT.of (kt := kX5_half) (by decide) kX5_half_ok (Nat.le_of_ble_eq_true rfl) ?_
  intro p e s m args below meth c hX hr ht
  unfold X5_half at h
  refine J.sub (L' := [(0, .ref (ad 27)), (1, .int l1)]) [0, 1] rfl ?_
  refine J.aload_n hX 0 0 rfl rfl ?_
  refine J.getR hX 1 27 5 (hX.lt (k := 27) (by decide)) sh_27 rfl in_wsX50 2 (by decide) w_75 rfl rfl ?_
  refine J.iload_n hX 2 1 rfl rfl ?_
  obtain ⟨t1, et1, hb, h⟩ := ld_inv h
  refine J.ialdN hX 3 28 (hX.lt (k := 28) (by decide)) sh_28 hb et1 rfl ?_
  refine J.iconst (v := 3) hX 4 rfl (by decide) ?_
  refine J.icmp_eq (tgt := 12) hX 5 rfl (by decide) (fun b1 => ?_) (fun b1 => ?_)
  · rw [if_pos b1] at h
    refine J.iconst (v := 0) hX 8 rfl (by decide) ?_
    refine J.istore_n (L' := [(2, .int 0), (0, .ref (ad 27)), (1, .int l1)]) hX 9 rfl (by decide) rfl ?_
    refine J.iconst (v := 0) hX 10 rfl (by decide) ?_
    refine J.istore_n (L' := [(3, .int 0), (2, .int 0), (0, .ref (ad 27)), (1, .int l1)]) hX 11 rfl (by decide) rfl ?_
    refine J.iconst (v := 0) hX 12 rfl (by decide) ?_
    refine J.istore (L' := [(4, .int 0), (3, .int 0), (2, .int 0), (0, .ref (ad 27)), (1, .int l1)]) hX 13 rfl (by decide) rfl ?_
    refine J.sub (L' := [(0, .ref (ad 27)), (1, .int l1), (2, .int 0), (3, .int 0), (4, .int 0)]) [3, 4, 2, 1, 0] rfl ?_
    obtain ⟨x1, x2, hlp, h⟩ := bd2_inv h
    suffices hE : JM 1 22 p l e s m args below meth c D cA ad n A 7 (.inl (some (.int r))) M M 127 [(2, .int x1), (3, .int x2)] [] by
      exact loop_ok (fun q9 : Int32 × Int32 × Int32 => JM 1 22 p l e s m args below meth c D cA ad n A 7 (.inl (some (.int r))) M M 19 [(0, .ref (ad 27)), (1, .int l1), (2, .int q9.1), (3, .int q9.2.1), (4, .int q9.2.2)] []) (fun q9 r hB hst hex9 => X5_half_L19_ok hX  hB (fun _ _ _ hr => hst _ hr) (fun _ _ hr => by cases hex9 _ hr; exact hE)) 3000 _ hlp
    refine J.iload_n hX 72 0 rfl rfl ?_
    refine J.iload_n hX 73 1 rfl rfl ?_
    refine J.icmp_ne (tgt := 136) hX 74 rfl (by decide) (fun b5 => ?_) (fun b5 => ?_)
    · rw [if_neg b5] at h
      refine J.iconst (v := 0) hX 77 rfl (by decide) ?_
      refine J.sub (L' := []) [] rfl ?_
      exact X5_half_j137_ok hX  hr ht h
    · rw [if_pos b5] at h
      refine J.iload_n hX 75 0 rfl rfl ?_
      refine J.goto (tgt := 137) hX 76 rfl (by decide) ?_
      refine J.sub (L' := []) [] rfl ?_
      exact X5_half_j137_ok hX  hr ht h
  · rw [if_neg b1] at h
    refine J.iconst (v := 0) hX 6 rfl (by decide) ?_
    cases h
    exact J.iret hX hr 7 rfl
def X5_spread_L9_j75 (M : Mem) (l1 : Int32) (k2 : Nat) (z2 : Nat) (v4 : Int32) (v5 : Int32) (v6 : Int32) : Option ((Int32 × Int32 × Int32) ⊕ (Int32 × Int32)) := bnd (v5 + 1) (fun t4 => some (.inl (v4, v6, t4)))
def X5_spread_L9_j46 (M : Mem) (l1 : Int32) (k2 : Nat) (z2 : Nat) (v1 : Int32) (v2 : Int32) (v3 : Int32) : Option ((Int32 × Int32 × Int32) ⊕ (Int32 × Int32)) := ld M k2 z2 ((8 * l1) + v2) (fun t3 => if t3 ≤ v1 then (X5_spread_L9_j75 M l1 k2 z2 v3 v2 v1) else (ld M k2 z2 ((8 * l1) + v2) (fun t5 => X5_spread_L9_j75 M l1 k2 z2 v3 v2 t5)))
def X5_spread_L9 (M : Mem) (l1 : Int32) (k2 : Nat) (z2 : Nat) (q9 : Int32 × Int32 × Int32) : Option ((Int32 × Int32 × Int32) ⊕ (Int32 × Int32)) := un3 q9 (fun c1 c2 c3 => ld M 28 264 l1 (fun t1 => if t1 ≤ c3 then (some (.inr (c1, c2))) else (ld M k2 z2 ((8 * l1) + c3) (fun t2 => if c1 ≤ t2 then (X5_spread_L9_j46 M l1 k2 z2 c2 c3 c1) else (ld M k2 z2 ((8 * l1) + c3) (fun t6 => X5_spread_L9_j46 M l1 k2 z2 c2 c3 t6))))))
def X5_spread (M : Mem) (l1 : Int32) (k2 : Nat) (z2 : Nat) : Option (Int32) := bd2 (loop (X5_spread_L9 M l1 k2 z2) 3000 (96, 0, 0)) (fun x1 x2 => some (x2 - x1))
set_option maxHeartbeats 4000000 in
set_option maxRecDepth 100000 in
theorem X5_spread_L9_j75_ok (hX : Cx p s m args meth c D cA ad n A sa cX5_spread 6 RX5 kX5_spread) {M : Mem} {l1 : Int32} {k2 : Nat} {z2 : Nat} {v4 : Int32} {v5 : Int32} {v6 : Int32} (hk2 : k2 < n) (hs2 : sh0 k2 = .inl (0, z2)) {r : (Int32 × Int32 × Int32) ⊕ (Int32 × Int32)} (h : X5_spread_L9_j75 M l1 k2 z2 v4 v5 v6 = some r) (hin : ∀ (q0 : Int32) (q1 : Int32) (q2 : Int32), r = .inl (q0, q1, q2) → JM 0 0 p l e s m args below meth c D cA ad n A 6 out M1 M 9 [(0, .ref (ad 27)), (1, .int l1), (2, .ref (ad k2)), (3, .int q0), (4, .int q1), (5, .int q2)] []) (hex0 : ∀ (q0 : Int32) (q1 : Int32), r = .inr (q0, q1) → JM 0 0 p l e s m args below meth c D cA ad n A 6 out M1 M 83 [(3, .int q0), (4, .int q1)] []) : JM 0 0 p l e s m args below meth c D cA ad n A 6 out M1 M 75 [(0, .ref (ad 27)), (1, .int l1), (2, .ref (ad k2)), (3, .int v4), (5, .int v5)] [.int v6] := by
  unfold X5_spread_L9_j75 at h
  refine J.istore (L' := [(4, .int v6), (0, .ref (ad 27)), (1, .int l1), (2, .ref (ad k2)), (3, .int v4), (5, .int v5)]) hX 49 rfl (by decide) rfl ?_
  obtain ⟨t4, et4, h⟩ := bnd_inv h
  refine J.iinc (q := 5) (L' := [(5, .int t4), (4, .int v6), (0, .ref (ad 27)), (1, .int l1), (2, .ref (ad k2)), (3, .int v4)]) hX 50 rfl rfl et4 (by decide) rfl ?_
  refine J.goto (tgt := 9) hX 51 rfl (by decide) ?_
  refine J.sub (L' := [(0, .ref (ad 27)), (1, .int l1), (2, .ref (ad k2)), (3, .int v4), (4, .int v6), (5, .int t4)]) [2, 3, 4, 5, 1, 0] rfl ?_
  exact hin _ _ _ (Option.some.inj h).symm
set_option maxHeartbeats 4000000 in
set_option maxRecDepth 100000 in
theorem X5_spread_L9_j46_ok (hX : Cx p s m args meth c D cA ad n A sa cX5_spread 6 RX5 kX5_spread) {M : Mem} {l1 : Int32} {k2 : Nat} {z2 : Nat} {v1 : Int32} {v2 : Int32} {v3 : Int32} (hk2 : k2 < n) (hs2 : sh0 k2 = .inl (0, z2)) {r : (Int32 × Int32 × Int32) ⊕ (Int32 × Int32)} (h : X5_spread_L9_j46 M l1 k2 z2 v1 v2 v3 = some r) (hin : ∀ (q0 : Int32) (q1 : Int32) (q2 : Int32), r = .inl (q0, q1, q2) → JM 0 0 p l e s m args below meth c D cA ad n A 6 out M1 M 9 [(0, .ref (ad 27)), (1, .int l1), (2, .ref (ad k2)), (3, .int q0), (4, .int q1), (5, .int q2)] []) (hex0 : ∀ (q0 : Int32) (q1 : Int32), r = .inr (q0, q1) → JM 0 0 p l e s m args below meth c D cA ad n A 6 out M1 M 83 [(3, .int q0), (4, .int q1)] []) : JM 0 0 p l e s m args below meth c D cA ad n A 6 out M1 M 46 [(0, .ref (ad 27)), (1, .int l1), (2, .ref (ad k2)), (4, .int v1), (5, .int v2)] [.int v3] := by
  unfold X5_spread_L9_j46 at h
  refine J.istore_n (L' := [(3, .int v3), (0, .ref (ad 27)), (1, .int l1), (2, .ref (ad k2)), (4, .int v1), (5, .int v2)]) hX 30 rfl (by decide) rfl ?_
  refine J.aload_n hX 31 3 rfl rfl ?_
  refine J.bipush (v := 8) hX 32 rfl (by decide) ?_
  refine J.iload_n hX 33 2 rfl rfl ?_
  refine J.imul hX 34 rfl ?_
  refine J.iload hX 35 5 rfl rfl ?_
  refine J.iadd hX 36 rfl ?_
  obtain ⟨t3, et3, hb, h⟩ := ld_inv h
  refine J.ialdN hX 37 k2 hk2 hs2 hb et3 rfl ?_
  refine J.iload hX 38 4 rfl rfl ?_
  refine J.icmp_le (tgt := 73) hX 39 rfl (by decide) (fun b3 => ?_) (fun b3 => ?_)
  · rw [if_pos b3] at h
    refine J.iload hX 48 4 rfl rfl ?_
    refine J.sub (L' := [(0, .ref (ad 27)), (1, .int l1), (2, .ref (ad k2)), (3, .int v3), (5, .int v2)]) [1, 2, 3, 0, 5] rfl ?_
    exact X5_spread_L9_j75_ok hX hk2 hs2 h hin hex0
  · rw [if_neg b3] at h
    refine J.aload_n hX 40 3 rfl rfl ?_
    refine J.bipush (v := 8) hX 41 rfl (by decide) ?_
    refine J.iload_n hX 42 2 rfl rfl ?_
    refine J.imul hX 43 rfl ?_
    refine J.iload hX 44 5 rfl rfl ?_
    refine J.iadd hX 45 rfl ?_
    obtain ⟨t5, et5, hb, h⟩ := ld_inv h
    refine J.ialdN hX 46 k2 hk2 hs2 hb et5 rfl ?_
    refine J.goto (tgt := 75) hX 47 rfl (by decide) ?_
    refine J.sub (L' := [(0, .ref (ad 27)), (1, .int l1), (2, .ref (ad k2)), (3, .int v3), (5, .int v2)]) [1, 2, 3, 0, 5] rfl ?_
    exact X5_spread_L9_j75_ok hX hk2 hs2 h hin hex0
set_option maxHeartbeats 4000000 in
set_option maxRecDepth 100000 in
theorem X5_spread_L9_ok (hX : Cx p s m args meth c D cA ad n A sa cX5_spread 6 RX5 kX5_spread) {M : Mem} {l1 : Int32} {k2 : Nat} {z2 : Nat} {c1 : Int32} {c2 : Int32} {c3 : Int32} (hk2 : k2 < n) (hs2 : sh0 k2 = .inl (0, z2)) {r : (Int32 × Int32 × Int32) ⊕ (Int32 × Int32)} (h : X5_spread_L9 M l1 k2 z2 (c1, c2, c3) = some r) (hin : ∀ (q0 : Int32) (q1 : Int32) (q2 : Int32), r = .inl (q0, q1, q2) → JM 0 0 p l e s m args below meth c D cA ad n A 6 out M1 M 9 [(0, .ref (ad 27)), (1, .int l1), (2, .ref (ad k2)), (3, .int q0), (4, .int q1), (5, .int q2)] []) (hex0 : ∀ (q0 : Int32) (q1 : Int32), r = .inr (q0, q1) → JM 0 0 p l e s m args below meth c D cA ad n A 6 out M1 M 83 [(3, .int q0), (4, .int q1)] []) : JM 0 0 p l e s m args below meth c D cA ad n A 6 out M1 M 9 [(0, .ref (ad 27)), (1, .int l1), (2, .ref (ad k2)), (3, .int c1), (4, .int c2), (5, .int c3)] [] := by
  unfold X5_spread_L9 at h
  have h := un3_inv h
  refine J.iload hX 6 5 rfl rfl ?_
  refine J.aload_n hX 7 0 rfl rfl ?_
  refine J.getR hX 8 27 5 (hX.lt (k := 27) (by decide)) sh_27 rfl in_wsX50 2 (by decide) w_75 rfl rfl ?_
  refine J.iload_n hX 9 1 rfl rfl ?_
  obtain ⟨t1, et1, hb, h⟩ := ld_inv h
  refine J.ialdN hX 10 28 (hX.lt (k := 28) (by decide)) sh_28 hb et1 rfl ?_
  refine J.icmp_ge (tgt := 83) hX 11 rfl (by decide) (fun b1 => ?_) (fun b1 => ?_)
  · rw [if_pos b1] at h
    refine J.sub (L' := [(3, .int c1), (4, .int c2)]) [3, 4] rfl ?_
    exact hex0 _ _ (Option.some.inj h).symm
  · rw [if_neg b1] at h
    refine J.aload_n hX 12 2 rfl rfl ?_
    refine J.bipush (v := 8) hX 13 rfl (by decide) ?_
    refine J.iload_n hX 14 1 rfl rfl ?_
    refine J.imul hX 15 rfl ?_
    refine J.iload hX 16 5 rfl rfl ?_
    refine J.iadd hX 17 rfl ?_
    obtain ⟨t2, et2, hb, h⟩ := ld_inv h
    refine J.ialdN hX 18 k2 hk2 hs2 hb et2 rfl ?_
    refine J.iload_n hX 19 3 rfl rfl ?_
    refine J.icmp_ge (tgt := 45) hX 20 rfl (by decide) (fun b2 => ?_) (fun b2 => ?_)
    · rw [if_pos b2] at h
      refine J.iload_n hX 29 3 rfl rfl ?_
      refine J.sub (L' := [(0, .ref (ad 27)), (1, .int l1), (2, .ref (ad k2)), (4, .int c2), (5, .int c3)]) [0, 1, 2, 4, 5] rfl ?_
      exact X5_spread_L9_j46_ok hX hk2 hs2 h hin hex0
    · rw [if_neg b2] at h
      refine J.aload_n hX 21 2 rfl rfl ?_
      refine J.bipush (v := 8) hX 22 rfl (by decide) ?_
      refine J.iload_n hX 23 1 rfl rfl ?_
      refine J.imul hX 24 rfl ?_
      refine J.iload hX 25 5 rfl rfl ?_
      refine J.iadd hX 26 rfl ?_
      obtain ⟨t6, et6, hb, h⟩ := ld_inv h
      refine J.ialdN hX 27 k2 hk2 hs2 hb et6 rfl ?_
      refine J.goto (tgt := 46) hX 28 rfl (by decide) ?_
      refine J.sub (L' := [(0, .ref (ad 27)), (1, .int l1), (2, .ref (ad k2)), (4, .int c2), (5, .int c3)]) [0, 1, 2, 4, 5] rfl ?_
      exact X5_spread_L9_j46_ok hX hk2 hs2 h hin hex0
set_option maxHeartbeats 4000000 in
set_option maxRecDepth 100000 in
theorem mX5_spread {l : Launch} {D : va_G} {cA : Nat → ClassId} {ad : Nat → Nat} {n : Nat} {A : Nat → Prop} {sa : Nat → Nat} {M : Mem} {l1 : Int32} {k2 : Nat} {z2 : Nat} {r : Int32} (hk2 : k2 < n) (hs2 : sh0 k2 = .inl (0, z2)) (h : X5_spread M l1 k2 z2 = some r) : CT l D cA ad n A sa yX5_spread cX5_spread 6 (some .int) 0 0 [.ref (ad 27), .int l1, .ref (ad k2)] M (.inl (some (.int r))) M := by
  refine CT.of (kt := kX5_spread) (by decide) kX5_spread_ok (Nat.le_of_ble_eq_true rfl) ?_
  intro p e s m args below meth c hX hr ht
  unfold X5_spread at h
  refine J.sub (L' := [(0, .ref (ad 27)), (1, .int l1), (2, .ref (ad k2))]) [0, 1, 2] rfl ?_
  refine J.bipush (v := 96) hX 0 rfl (by decide) ?_
  refine J.istore_n (L' := [(3, .int 96), (0, .ref (ad 27)), (1, .int l1), (2, .ref (ad k2))]) hX 1 rfl (by decide) rfl ?_
  refine J.iconst (v := 0) hX 2 rfl (by decide) ?_
  refine J.istore (L' := [(4, .int 0), (3, .int 96), (0, .ref (ad 27)), (1, .int l1), (2, .ref (ad k2))]) hX 3 rfl (by decide) rfl ?_
  refine J.iconst (v := 0) hX 4 rfl (by decide) ?_
  refine J.istore (L' := [(5, .int 0), (4, .int 0), (3, .int 96), (0, .ref (ad 27)), (1, .int l1), (2, .ref (ad k2))]) hX 5 rfl (by decide) rfl ?_
  refine J.sub (L' := [(0, .ref (ad 27)), (1, .int l1), (2, .ref (ad k2)), (3, .int 96), (4, .int 0), (5, .int 0)]) [3, 4, 5, 2, 1, 0] rfl ?_
  obtain ⟨x1, x2, hlp, h⟩ := bd2_inv h
  suffices hE : JM 0 0 p l e s m args below meth c D cA ad n A 6 (.inl (some (.int r))) M M 83 [(3, .int x1), (4, .int x2)] [] by
    exact loop_ok (fun q9 : Int32 × Int32 × Int32 => JM 0 0 p l e s m args below meth c D cA ad n A 6 (.inl (some (.int r))) M M 9 [(0, .ref (ad 27)), (1, .int l1), (2, .ref (ad k2)), (3, .int q9.1), (4, .int q9.2.1), (5, .int q9.2.2)] []) (fun q9 r hB hst hex9 => X5_spread_L9_ok hX hk2 hs2 hB (fun _ _ _ hr => hst _ hr) (fun _ _ hr => by cases hex9 _ hr; exact hE)) 3000 _ hlp
  refine J.iload hX 52 1 rfl rfl ?_
  refine J.iload_n hX 53 0 rfl rfl ?_
  refine J.isub hX 54 rfl ?_
  cases h
  exact J.iret hX hr 55 rfl
def X5_cutPatch_j81 (N2 : Mem) (v2 : Int32) (v3 : Int32) : Option (Mem) := chk (isB v2) (sto N2 43 97 v3 v2 (fun N3 => some N3))
def X5_cutPatch_j62 (N1 : Mem) (v1 : Int32) : Option (Mem) := ld N1 43 97 v1 (fun t3 => if t3 = 0 then (X5_cutPatch_j81 N1 1 v1) else (X5_cutPatch_j81 N1 0 v1))
def X5_cutPatch (M : Mem) (l1 : Int32) : Option (Mem) := bd1 (X5_half M l1) (fun t1 => if t1 = 0 then (bd1 (X5_spread M l1 30 2112) (fun t4 => bd1 (X5_spread M l1 31 2112) (fun t5 => bd1 (X5_cutOf M (t4 + 12) (t5 + 12) 0) (fun N5 => some N5)))) else (ld M 43 97 t1 (fun t2 => if t2 = 0 then (bd1 (X5_cutOf M (t1 + 21) (t1 + 21) 1) (fun N4 => X5_cutPatch_j62 N4 t1)) else (X5_cutPatch_j62 M t1))))
set_option maxHeartbeats 4000000 in
set_option maxRecDepth 100000 in
theorem X5_cutPatch_j81_ok (hX : Cx p s m args meth c D cA ad n A sa cX5_cutPatch 3 RX5 kX5_cutPatch) {N2 : Mem} {v2 : Int32} {v3 : Int32} {Mf : Mem}  (hr : meth.sig.returnType = none) (ht : ∀ x ∈ c.exceptionTable.toList, False) (h : X5_cutPatch_j81 N2 v2 v3 = some Mf) : JM 2 48 p l e s m args below meth c D cA ad n A 3 (.inl none) Mf N2 81 [] [.int v2, .int v3, .ref (ad 43)] := by
  unfold X5_cutPatch_j81 at h
  obtain ⟨hz, h⟩ := chk_inv h
  obtain ⟨N3, eN3, hb, h⟩ := sto_inv h
  refine J.zastN hX 49 43 (hX.lt (k := 43) (by decide)) sh_43 hb eN3 (isB_vp hz) rfl ?_
  cases h
  exact J.vret hX hr 50 rfl
set_option maxHeartbeats 4000000 in
set_option maxRecDepth 100000 in
theorem X5_cutPatch_j62_ok (hX : Cx p s m args meth c D cA ad n A sa cX5_cutPatch 3 RX5 kX5_cutPatch) {N1 : Mem} {v1 : Int32} {Mf : Mem}  (hr : meth.sig.returnType = none) (ht : ∀ x ∈ c.exceptionTable.toList, False) (h : X5_cutPatch_j62 N1 v1 = some Mf) : JM 2 48 p l e s m args below meth c D cA ad n A 3 (.inl none) Mf N1 62 [(0, .ref (ad 27)), (2, .int v1)] [] := by
  unfold X5_cutPatch_j62 at h
  refine J.aload_n hX 38 0 rfl rfl ?_
  refine J.getR hX 39 27 5 (hX.lt (k := 27) (by decide)) sh_27 rfl in_wsX50 19 (by decide) w_91 rfl rfl ?_
  refine J.iload_n hX 40 1 rfl rfl ?_
  refine J.aload_n hX 41 0 rfl rfl ?_
  refine J.getR hX 42 27 5 (hX.lt (k := 27) (by decide)) sh_27 rfl in_wsX50 19 (by decide) w_91 rfl rfl ?_
  refine J.iload_n hX 43 1 rfl rfl ?_
  obtain ⟨t3, et3, hb, h⟩ := ld_inv h
  refine J.zaldN hX 44 43 (hX.lt (k := 43) (by decide)) sh_43 hb et3 rfl ?_
  refine J.if_ne (tgt := 80) hX 45 rfl (by decide) (fun b3 => ?_) (fun b3 => ?_)
  · rw [if_neg b3] at h
    refine J.iconst (v := 0) hX 48 rfl (by decide) ?_
    refine J.sub (L' := []) [] rfl ?_
    exact X5_cutPatch_j81_ok hX  hr ht h
  · rw [if_pos b3] at h
    refine J.iconst (v := 1) hX 46 rfl (by decide) ?_
    refine J.goto (tgt := 81) hX 47 rfl (by decide) ?_
    refine J.sub (L' := []) [] rfl ?_
    exact X5_cutPatch_j81_ok hX  hr ht h
set_option maxHeartbeats 4000000 in
set_option maxRecDepth 100000 in
theorem mX5_cutPatch {l : Launch} {D : va_G} {cA : Nat → ClassId} {ad : Nat → Nat} {n : Nat} {A : Nat → Prop} {sa : Nat → Nat} {M : Mem} {l1 : Int32} {Mf : Mem} (h : X5_cutPatch M l1 = some Mf) : CT l D cA ad n A sa yX5_cutPatch cX5_cutPatch 3 none 2 48 [.ref (ad 27), .int l1] M (.inl none) Mf := by
  refine CT.of (kt := kX5_cutPatch) (by decide) kX5_cutPatch_ok (Nat.le_of_ble_eq_true rfl) ?_
  intro p e s m args below meth c hX hr ht
  unfold X5_cutPatch at h
  refine J.sub (L' := [(0, .ref (ad 27)), (1, .int l1)]) [0, 1] rfl ?_
  refine J.aload_n hX 0 0 rfl rfl ?_
  refine J.iload_n hX 1 1 rfl rfl ?_
  obtain ⟨t1, hc, h⟩ := bd1_inv h
  refine J.callV1 (As := [.int l1]) (rest := []) (k := 27) hX 2 rfl (mX5_half  hc) okX5_half w_636 (hX.lt (k := 27) (by decide)) sh_27 rfl rfl rfl (Nat.le_of_ble_eq_true rfl) ⟨Nat.le_of_ble_eq_true rfl, Nat.le_of_ble_eq_true rfl⟩ ⟨Nat.zero_le _, Nat.zero_le _⟩ ?_
  refine J.istore_n (L' := [(2, .int t1), (0, .ref (ad 27)), (1, .int l1)]) hX 3 rfl (by decide) rfl ?_
  refine J.iload_n hX 4 0 rfl rfl ?_
  refine J.if_ne (tgt := 40) hX 5 rfl (by decide) (fun b1 => ?_) (fun b1 => ?_)
  · rw [if_neg b1] at h
    refine J.aload_n hX 24 1 rfl rfl ?_
    refine J.getR hX 25 27 5 (hX.lt (k := 27) (by decide)) sh_27 rfl in_wsX50 19 (by decide) w_91 rfl rfl ?_
    refine J.iload_n hX 26 0 rfl rfl ?_
    obtain ⟨t2, et2, hb, h⟩ := ld_inv h
    refine J.zaldN hX 27 43 (hX.lt (k := 43) (by decide)) sh_43 hb et2 rfl ?_
    refine J.if_ne (tgt := 62) hX 28 rfl (by decide) (fun b2 => ?_) (fun b2 => ?_)
    · rw [if_neg b2] at h
      refine J.sub (L' := [(0, .ref (ad 27)), (2, .int t1)]) [1, 0] rfl ?_
      exact X5_cutPatch_j62_ok hX  hr ht h
    · rw [if_pos b2] at h
      refine J.aload_n hX 29 1 rfl rfl ?_
      refine J.iload_n hX 30 0 rfl rfl ?_
      refine J.bipush (v := 21) hX 31 rfl (by decide) ?_
      refine J.iadd hX 32 rfl ?_
      refine J.iload_n hX 33 0 rfl rfl ?_
      refine J.bipush (v := 21) hX 34 rfl (by decide) ?_
      refine J.iadd hX 35 rfl ?_
      refine J.iconst (v := 1) hX 36 rfl (by decide) ?_
      obtain ⟨N4, hc, h⟩ := bd1_inv h
      refine J.callV0 (As := [.int (t1 + 21), .int (t1 + 21), .int 1]) (rest := []) (k := 27) hX 37 rfl (mX5_cutOf  hc) okX5_cutOf w_647 (hX.lt (k := 27) (by decide)) sh_27 rfl rfl rfl (Nat.le_of_ble_eq_true rfl) ⟨Nat.le_of_ble_eq_true rfl, Nat.le_of_ble_eq_true rfl⟩ ⟨Nat.zero_le _, Nat.zero_le _⟩ ?_
      refine J.sub (L' := [(0, .ref (ad 27)), (2, .int t1)]) [1, 0] rfl ?_
      exact X5_cutPatch_j62_ok hX  hr ht h
  · rw [if_pos b1] at h
    refine J.aload_n hX 6 1 rfl rfl ?_
    refine J.aload_n hX 7 1 rfl rfl ?_
    refine J.iload_n hX 8 2 rfl rfl ?_
    refine J.aload_n hX 9 1 rfl rfl ?_
    refine J.getR hX 10 27 5 (hX.lt (k := 27) (by decide)) sh_27 rfl in_wsX50 4 (by decide) w_77 rfl rfl ?_
    obtain ⟨t4, hc, h⟩ := bd1_inv h
    refine J.callV1 (As := [.int l1, .ref (ad 30)]) (rest := [.ref (ad 27)]) (k := 27) hX 11 rfl (mX5_spread (hX.lt (k := 30) (by decide)) sh_30 hc) okX5_spread w_643 (hX.lt (k := 27) (by decide)) sh_27 rfl rfl rfl (Nat.le_of_ble_eq_true rfl) ⟨Nat.le_of_ble_eq_true rfl, Nat.le_of_ble_eq_true rfl⟩ ⟨Nat.zero_le _, Nat.zero_le _⟩ ?_
    refine J.bipush (v := 12) hX 12 rfl (by decide) ?_
    refine J.iadd hX 13 rfl ?_
    refine J.aload_n hX 14 1 rfl rfl ?_
    refine J.iload_n hX 15 2 rfl rfl ?_
    refine J.aload_n hX 16 1 rfl rfl ?_
    refine J.getR hX 17 27 5 (hX.lt (k := 27) (by decide)) sh_27 rfl in_wsX50 5 (by decide) w_78 rfl rfl ?_
    obtain ⟨t5, hc, h⟩ := bd1_inv h
    refine J.callV1 (As := [.int l1, .ref (ad 31)]) (rest := [.int (t4 + 12), .ref (ad 27)]) (k := 27) hX 18 rfl (mX5_spread (hX.lt (k := 31) (by decide)) sh_31 hc) okX5_spread w_643 (hX.lt (k := 27) (by decide)) sh_27 rfl rfl rfl (Nat.le_of_ble_eq_true rfl) ⟨Nat.le_of_ble_eq_true rfl, Nat.le_of_ble_eq_true rfl⟩ ⟨Nat.zero_le _, Nat.zero_le _⟩ ?_
    refine J.bipush (v := 12) hX 19 rfl (by decide) ?_
    refine J.iadd hX 20 rfl ?_
    refine J.iconst (v := 0) hX 21 rfl (by decide) ?_
    obtain ⟨N5, hc, h⟩ := bd1_inv h
    refine J.callV0 (As := [.int (t4 + 12), .int (t5 + 12), .int 0]) (rest := []) (k := 27) hX 22 rfl (mX5_cutOf  hc) okX5_cutOf w_647 (hX.lt (k := 27) (by decide)) sh_27 rfl rfl rfl (Nat.le_of_ble_eq_true rfl) ⟨Nat.le_of_ble_eq_true rfl, Nat.le_of_ble_eq_true rfl⟩ ⟨Nat.zero_le _, Nat.zero_le _⟩ ?_
    cases h
    exact J.vret hX hr 23 rfl
def X5_list_L7 (l1 : Int32) (q9 : Int32 × Mem) : Option ((Int32 × Mem) ⊕ (Mem)) := un2 q9 (fun c1 N2 => if 97 ≤ c1 then (some (.inr N2)) else (chk (isB 0) (sto N2 43 97 c1 0 (fun N3 => bnd (c1 + 1) (fun t1 => some (.inl (t1, N3)))))))
def X5_list_L44_j94 (N7 : Mem) (l1 : Int32) (c2 : Int32) (v1 : Int32) : Option ((Int32 × Mem) ⊕ (Mem)) := bnd (v1 + 1) (fun t7 => some (.inl (t7, N7)))
def X5_list_L44 (l1 : Int32) (c2 : Int32) (q9 : Int32 × Mem) : Option ((Int32 × Mem) ⊕ (Mem)) := un2 q9 (fun c3 N6 => ld N6 35 36 c2 (fun t4 => if ((24 * t4) + 24) ≤ c3 then (some (.inr N6)) else (ld N6 35 36 c2 (fun t5 => if t5 = (-1) then (some (.inr N6)) else (ld N6 28 264 c3 (fun t6 => if t6 ≤ 0 then (X5_list_L44_j94 N6 l1 c2 c3) else (ld N6 29 264 c3 (fun t8 => if t8 = l1 then (bd1 (X5_cutPatch N6 c3) (fun N8 => X5_list_L44_j94 N8 l1 c2 c3)) else (X5_list_L44_j94 N6 l1 c2 c3)))))))))
def X5_list_L28_j100 (N10 : Mem) (l1 : Int32) (v2 : Int32) : Option ((Int32 × Mem) ⊕ (Mem)) := bnd (v2 + 1) (fun t9 => some (.inl (t9, N10)))
def X5_list_L28 (l1 : Int32) (q9 : Int32 × Mem) : Option ((Int32 × Mem) ⊕ (Mem)) := un2 q9 (fun c2 N5 => if 36 ≤ c2 then (some (.inr N5)) else (ld N5 35 36 c2 (fun t2 => bnd ((24 * t2)) (fun t3 => bd1 (loop (X5_list_L44 l1 c2) 3000 (t3, N5)) (fun N9 => X5_list_L28_j100 N9 l1 c2)))))
def X5_list_L145 (l1 : Int32) (v5 : Int32) (v6 : Int32) (v7 : Int32) (q9 : Int32 × Mem) : Option ((Int32 × Mem) ⊕ (Mem)) := un2 q9 (fun c4 N14 => if (v5 * (v6 - 1)) ≤ c4 then (some (.inr N14)) else (if v7 = 0 then (some (.inr N14)) else (ld N14 37 2 0 (fun t13 => bd1 (X5_cutOf N14 108 (t13 + 12) 2) (fun N15 => bnd (c4 + 1) (fun t14 => some (.inl (t14, N15))))))))
def X5_list_L185 (l1 : Int32) (v8 : Int32) (v9 : Int32) (v10 : Int32) (q9 : Int32 × Mem) : Option ((Int32 × Mem) ⊕ (Mem)) := un2 q9 (fun c5 N18 => if v8 ≤ c5 then (some (.inr N18)) else (if v10 = 0 then (some (.inr N18)) else (bd1 (X5_across N18 v9) (fun t15 => ld N18 37 2 0 (fun t16 => bd1 (X5_cutOf N18 (t15 + 12) (t16 + 12) 2) (fun N19 => bnd (c5 + 1) (fun t17 => some (.inl (t17, N19)))))))))
def X5_list_L257_j303 (N25 : Mem) (v15 : Int32) (v16 : Int32) (v17 : Int32) (v18 : Int32) (v19 : Int32) : Option ((Int32 × Mem) ⊕ (Mem)) := ld N25 37 2 1 (fun t21 => bd1 (X5_cutOf N25 v19 (t21 + 12) 3) (fun N26 => bnd (v18 + 1) (fun t22 => some (.inl (t22, N26)))))
def X5_list_L257 (v15 : Int32) (v16 : Int32) (v17 : Int32) (q9 : Int32 × Mem) : Option ((Int32 × Mem) ⊕ (Mem)) := un2 q9 (fun c6 N24 => if 4 ≤ c6 then (some (.inr N24)) else (if v17 = 0 then (some (.inr N24)) else (if 2 ≤ c6 then (bd1 (X5_across N24 v15) (fun t19 => ld N24 37 2 1 (fun t20 => X5_list_L257_j303 N24 v15 v16 v17 c6 ((t19 + (2 * t20)) + 12)))) else (bd1 (X5_across N24 v16) (fun t23 => X5_list_L257_j303 N24 v15 v16 v17 c6 (t23 + 12))))))
def X5_list_j252 (N23 : Mem) (v15 : Int32) (v16 : Int32) (v17 : Int32) : Option (Mem) := bd1 (loop (X5_list_L257 v15 v16 v17) 3000 (0, N23)) (fun N27 => some N27)
def X5_list_j251 (N22 : Mem) (v13 : Int32) (v14 : Int32) : Option (Mem) := X5_list_j252 N22 v13 v14 0
def X5_list_j224 (N21 : Mem) (l1 : Int32) (v11 : Int32) (v12 : Int32) : Option (Mem) := ld N21 37 2 1 (fun t18 => if t18 ≤ 0 then (X5_list_j251 N21 v11 v12) else (ld N21 38 2 1 (fun t24 => if t24 = l1 then (if v11 ≤ 0 then (X5_list_j251 N21 v11 v12) else (X5_list_j252 N21 v11 v12 1)) else (X5_list_j251 N21 v11 v12))))
def X5_list_j182 (N17 : Mem) (l1 : Int32) (v8 : Int32) (v9 : Int32) (v10 : Int32) : Option (Mem) := bd1 (loop (X5_list_L185 l1 v8 v9 v10) 3000 (1, N17)) (fun N20 => X5_list_j224 N20 l1 v8 v9)
def X5_list_j140 (N13 : Mem) (l1 : Int32) (v5 : Int32) (v6 : Int32) (v7 : Int32) : Option (Mem) := bd1 (loop (X5_list_L145 l1 v5 v6 v7) 3000 (0, N13)) (fun N16 => X5_list_j182 N16 l1 v5 v6 v7)
def X5_list_j139 (N12 : Mem) (l1 : Int32) (v3 : Int32) (v4 : Int32) : Option (Mem) := X5_list_j140 N12 l1 v3 v4 0
def X5_list (M : Mem) (l1 : Int32) : Option (Mem) := bnd (wr M 27 14 0) (fun N1 => bd1 (loop (X5_list_L7 l1) 3000 (0, N1)) (fun N4 => bd1 (loop (X5_list_L28 l1) 3000 (0, N4)) (fun N11 => bd1 (X5_rows N11) (fun t10 => bd1 (X5_columns N11) (fun t11 => ld N11 37 2 0 (fun t12 => if t12 ≤ 0 then (X5_list_j139 N11 l1 t10 t11) else (ld N11 38 2 0 (fun t25 => if t25 = l1 then (X5_list_j140 N11 l1 t10 t11 1) else (X5_list_j139 N11 l1 t10 t11)))))))))
set_option maxHeartbeats 4000000 in
set_option maxRecDepth 100000 in
theorem X5_list_L7_ok (hX : Cx p s m args meth c D cA ad n A sa cX5_list 7 RX5 kX5_list) {N2 : Mem} {l1 : Int32} {c1 : Int32}  {r : (Int32 × Mem) ⊕ (Mem)} (h : X5_list_L7 l1 (c1, N2) = some r) (hin : ∀ (q0 : Int32) (Mq : Mem), r = .inl (q0, Mq) → JM 3 70 p l e s m args below meth c D cA ad n A 7 out M1 Mq 7 [(0, .ref (ad 27)), (1, .int l1), (2, .int q0)] []) (hex0 : ∀  (Mq : Mem), r = .inr Mq → JM 3 70 p l e s m args below meth c D cA ad n A 7 out M1 Mq 26 [(0, .ref (ad 27)), (1, .int l1)] []) : JM 3 70 p l e s m args below meth c D cA ad n A 7 out M1 N2 7 [(0, .ref (ad 27)), (1, .int l1), (2, .int c1)] [] := by
  unfold X5_list_L7 at h
  have h := un2_inv h
  refine J.iload_n hX 5 2 rfl rfl ?_
  refine J.bipush (v := 97) hX 6 rfl (by decide) ?_
  refine J.icmp_ge (tgt := 26) hX 7 rfl (by decide) (fun b1 => ?_) (fun b1 => ?_)
  · rw [if_pos b1] at h
    refine J.sub (L' := [(0, .ref (ad 27)), (1, .int l1)]) [0, 1] rfl ?_
    exact hex0 _ (Option.some.inj h).symm
  · rw [if_neg b1] at h
    refine J.aload_n hX 8 0 rfl rfl ?_
    refine J.getR hX 9 27 5 (hX.lt (k := 27) (by decide)) sh_27 rfl in_wsX50 19 (by decide) w_91 rfl rfl ?_
    refine J.iload_n hX 10 2 rfl rfl ?_
    refine J.iconst (v := 0) hX 11 rfl (by decide) ?_
    obtain ⟨hz, h⟩ := chk_inv h
    obtain ⟨N3, eN3, hb, h⟩ := sto_inv h
    refine J.zastN hX 12 43 (hX.lt (k := 43) (by decide)) sh_43 hb eN3 (isB_vp hz) rfl ?_
    obtain ⟨t1, et1, h⟩ := bnd_inv h
    refine J.iinc (q := 2) (L' := [(2, .int t1), (0, .ref (ad 27)), (1, .int l1)]) hX 13 rfl rfl et1 (by decide) rfl ?_
    refine J.goto (tgt := 7) hX 14 rfl (by decide) ?_
    refine J.sub (L' := [(0, .ref (ad 27)), (1, .int l1), (2, .int t1)]) [1, 2, 0] rfl ?_
    exact hin _ _ (Option.some.inj h).symm
set_option maxHeartbeats 4000000 in
set_option maxRecDepth 100000 in
theorem X5_list_L44_j94_ok (hX : Cx p s m args meth c D cA ad n A sa cX5_list 7 RX5 kX5_list) {N7 : Mem} {l1 : Int32} {c2 : Int32} {v1 : Int32}  {r : (Int32 × Mem) ⊕ (Mem)} (h : X5_list_L44_j94 N7 l1 c2 v1 = some r) (hin : ∀ (q0 : Int32) (Mq : Mem), r = .inl (q0, Mq) → JM 3 70 p l e s m args below meth c D cA ad n A 7 out M1 Mq 44 [(0, .ref (ad 27)), (1, .int l1), (2, .int c2), (3, .int q0)] []) (hex0 : ∀  (Mq : Mem), r = .inr Mq → JM 3 70 p l e s m args below meth c D cA ad n A 7 out M1 Mq 100 [(0, .ref (ad 27)), (1, .int l1), (2, .int c2)] []) : JM 3 70 p l e s m args below meth c D cA ad n A 7 out M1 N7 94 [(0, .ref (ad 27)), (1, .int l1), (2, .int c2), (3, .int v1)] [] := by
  unfold X5_list_L44_j94 at h
  obtain ⟨t7, et7, h⟩ := bnd_inv h
  refine J.iinc (q := 3) (L' := [(3, .int t7), (0, .ref (ad 27)), (1, .int l1), (2, .int c2)]) hX 57 rfl rfl et7 (by decide) rfl ?_
  refine J.goto (tgt := 44) hX 58 rfl (by decide) ?_
  refine J.sub (L' := [(0, .ref (ad 27)), (1, .int l1), (2, .int c2), (3, .int t7)]) [1, 2, 3, 0] rfl ?_
  exact hin _ _ (Option.some.inj h).symm
set_option maxHeartbeats 4000000 in
set_option maxRecDepth 100000 in
theorem X5_list_L44_ok (hX : Cx p s m args meth c D cA ad n A sa cX5_list 7 RX5 kX5_list) {N6 : Mem} {l1 : Int32} {c2 : Int32} {c3 : Int32}  {r : (Int32 × Mem) ⊕ (Mem)} (h : X5_list_L44 l1 c2 (c3, N6) = some r) (hin : ∀ (q0 : Int32) (Mq : Mem), r = .inl (q0, Mq) → JM 3 70 p l e s m args below meth c D cA ad n A 7 out M1 Mq 44 [(0, .ref (ad 27)), (1, .int l1), (2, .int c2), (3, .int q0)] []) (hex0 : ∀  (Mq : Mem), r = .inr Mq → JM 3 70 p l e s m args below meth c D cA ad n A 7 out M1 Mq 100 [(0, .ref (ad 27)), (1, .int l1), (2, .int c2)] []) : JM 3 70 p l e s m args below meth c D cA ad n A 7 out M1 N6 44 [(0, .ref (ad 27)), (1, .int l1), (2, .int c2), (3, .int c3)] [] := by
  unfold X5_list_L44 at h
  have h := un2_inv h
  refine J.iload_n hX 27 3 rfl rfl ?_
  refine J.bipush (v := 24) hX 28 rfl (by decide) ?_
  refine J.aload_n hX 29 0 rfl rfl ?_
  refine J.getR hX 30 27 5 (hX.lt (k := 27) (by decide)) sh_27 rfl in_wsX50 10 (by decide) w_82 rfl rfl ?_
  refine J.iload_n hX 31 2 rfl rfl ?_
  obtain ⟨t4, et4, hb, h⟩ := ld_inv h
  refine J.ialdN hX 32 35 (hX.lt (k := 35) (by decide)) sh_35 hb et4 rfl ?_
  refine J.imul hX 33 rfl ?_
  refine J.bipush (v := 24) hX 34 rfl (by decide) ?_
  refine J.iadd hX 35 rfl ?_
  refine J.icmp_ge (tgt := 100) hX 36 rfl (by decide) (fun b3 => ?_) (fun b3 => ?_)
  · rw [if_pos b3] at h
    refine J.sub (L' := [(0, .ref (ad 27)), (1, .int l1), (2, .int c2)]) [0, 1, 2] rfl ?_
    exact hex0 _ (Option.some.inj h).symm
  · rw [if_neg b3] at h
    refine J.aload_n hX 37 0 rfl rfl ?_
    refine J.getR hX 38 27 5 (hX.lt (k := 27) (by decide)) sh_27 rfl in_wsX50 10 (by decide) w_82 rfl rfl ?_
    refine J.iload_n hX 39 2 rfl rfl ?_
    obtain ⟨t5, et5, hb, h⟩ := ld_inv h
    refine J.ialdN hX 40 35 (hX.lt (k := 35) (by decide)) sh_35 hb et5 rfl ?_
    refine J.iconst (v := (-1)) hX 41 rfl (by decide) ?_
    refine J.icmp_eq (tgt := 100) hX 42 rfl (by decide) (fun b4 => ?_) (fun b4 => ?_)
    · rw [if_pos b4] at h
      refine J.sub (L' := [(0, .ref (ad 27)), (1, .int l1), (2, .int c2)]) [0, 1, 2] rfl ?_
      exact hex0 _ (Option.some.inj h).symm
    · rw [if_neg b4] at h
      refine J.aload_n hX 43 0 rfl rfl ?_
      refine J.getR hX 44 27 5 (hX.lt (k := 27) (by decide)) sh_27 rfl in_wsX50 2 (by decide) w_75 rfl rfl ?_
      refine J.iload_n hX 45 3 rfl rfl ?_
      obtain ⟨t6, et6, hb, h⟩ := ld_inv h
      refine J.ialdN hX 46 28 (hX.lt (k := 28) (by decide)) sh_28 hb et6 rfl ?_
      refine J.if_le (tgt := 94) hX 47 rfl (by decide) (fun b5 => ?_) (fun b5 => ?_)
      · rw [if_pos b5] at h
        refine J.sub (L' := [(0, .ref (ad 27)), (1, .int l1), (2, .int c2), (3, .int c3)]) [0, 1, 2, 3] rfl ?_
        exact X5_list_L44_j94_ok hX  h hin hex0
      · rw [if_neg b5] at h
        refine J.aload_n hX 48 0 rfl rfl ?_
        refine J.getR hX 49 27 5 (hX.lt (k := 27) (by decide)) sh_27 rfl in_wsX50 3 (by decide) w_76 rfl rfl ?_
        refine J.iload_n hX 50 3 rfl rfl ?_
        obtain ⟨t8, et8, hb, h⟩ := ld_inv h
        refine J.ialdN hX 51 29 (hX.lt (k := 29) (by decide)) sh_29 hb et8 rfl ?_
        refine J.iload_n hX 52 1 rfl rfl ?_
        refine J.icmp_ne (tgt := 94) hX 53 rfl (by decide) (fun b6 => ?_) (fun b6 => ?_)
        · rw [if_neg b6] at h
          refine J.sub (L' := [(0, .ref (ad 27)), (1, .int l1), (2, .int c2), (3, .int c3)]) [0, 1, 2, 3] rfl ?_
          exact X5_list_L44_j94_ok hX  h hin hex0
        · rw [if_pos b6] at h
          refine J.aload_n hX 54 0 rfl rfl ?_
          refine J.iload_n hX 55 3 rfl rfl ?_
          obtain ⟨N8, hc, h⟩ := bd1_inv h
          refine J.callV0 (As := [.int c3]) (rest := []) (k := 27) hX 56 rfl (mX5_cutPatch  hc) okX5_cutPatch w_632 (hX.lt (k := 27) (by decide)) sh_27 rfl rfl rfl (Nat.le_of_ble_eq_true rfl) ⟨Nat.le_of_ble_eq_true rfl, Nat.le_of_ble_eq_true rfl⟩ ⟨Nat.zero_le _, Nat.zero_le _⟩ ?_
          refine J.sub (L' := [(0, .ref (ad 27)), (1, .int l1), (2, .int c2), (3, .int c3)]) [0, 1, 2, 3] rfl ?_
          exact X5_list_L44_j94_ok hX  h hin hex0
set_option maxHeartbeats 4000000 in
set_option maxRecDepth 100000 in
theorem X5_list_L28_j100_ok (hX : Cx p s m args meth c D cA ad n A sa cX5_list 7 RX5 kX5_list) {N10 : Mem} {l1 : Int32} {v2 : Int32}  {r : (Int32 × Mem) ⊕ (Mem)} (h : X5_list_L28_j100 N10 l1 v2 = some r) (hin : ∀ (q0 : Int32) (Mq : Mem), r = .inl (q0, Mq) → JM 3 70 p l e s m args below meth c D cA ad n A 7 out M1 Mq 28 [(0, .ref (ad 27)), (1, .int l1), (2, .int q0)] []) (hex0 : ∀  (Mq : Mem), r = .inr Mq → JM 3 70 p l e s m args below meth c D cA ad n A 7 out M1 Mq 106 [(0, .ref (ad 27)), (1, .int l1)] []) : JM 3 70 p l e s m args below meth c D cA ad n A 7 out M1 N10 100 [(0, .ref (ad 27)), (1, .int l1), (2, .int v2)] [] := by
  unfold X5_list_L28_j100 at h
  obtain ⟨t9, et9, h⟩ := bnd_inv h
  refine J.iinc (q := 2) (L' := [(2, .int t9), (0, .ref (ad 27)), (1, .int l1)]) hX 59 rfl rfl et9 (by decide) rfl ?_
  refine J.goto (tgt := 28) hX 60 rfl (by decide) ?_
  refine J.sub (L' := [(0, .ref (ad 27)), (1, .int l1), (2, .int t9)]) [1, 2, 0] rfl ?_
  exact hin _ _ (Option.some.inj h).symm
set_option maxHeartbeats 4000000 in
set_option maxRecDepth 100000 in
theorem X5_list_L28_ok (hX : Cx p s m args meth c D cA ad n A sa cX5_list 7 RX5 kX5_list) {N5 : Mem} {l1 : Int32} {c2 : Int32}  {r : (Int32 × Mem) ⊕ (Mem)} (h : X5_list_L28 l1 (c2, N5) = some r) (hin : ∀ (q0 : Int32) (Mq : Mem), r = .inl (q0, Mq) → JM 3 70 p l e s m args below meth c D cA ad n A 7 out M1 Mq 28 [(0, .ref (ad 27)), (1, .int l1), (2, .int q0)] []) (hex0 : ∀  (Mq : Mem), r = .inr Mq → JM 3 70 p l e s m args below meth c D cA ad n A 7 out M1 Mq 106 [(0, .ref (ad 27)), (1, .int l1)] []) : JM 3 70 p l e s m args below meth c D cA ad n A 7 out M1 N5 28 [(0, .ref (ad 27)), (1, .int l1), (2, .int c2)] [] := by
  unfold X5_list_L28 at h
  have h := un2_inv h
  refine J.iload_n hX 17 2 rfl rfl ?_
  refine J.bipush (v := 36) hX 18 rfl (by decide) ?_
  refine J.icmp_ge (tgt := 106) hX 19 rfl (by decide) (fun b2 => ?_) (fun b2 => ?_)
  · rw [if_pos b2] at h
    refine J.sub (L' := [(0, .ref (ad 27)), (1, .int l1)]) [0, 1] rfl ?_
    exact hex0 _ (Option.some.inj h).symm
  · rw [if_neg b2] at h
    refine J.bipush (v := 24) hX 20 rfl (by decide) ?_
    refine J.aload_n hX 21 0 rfl rfl ?_
    refine J.getR hX 22 27 5 (hX.lt (k := 27) (by decide)) sh_27 rfl in_wsX50 10 (by decide) w_82 rfl rfl ?_
    refine J.iload_n hX 23 2 rfl rfl ?_
    obtain ⟨t2, et2, hb, h⟩ := ld_inv h
    refine J.ialdN hX 24 35 (hX.lt (k := 35) (by decide)) sh_35 hb et2 rfl ?_
    refine J.imul hX 25 rfl ?_
    obtain ⟨t3, et3, h⟩ := bnd_inv h
    refine J.nm et3 ?_
    refine J.istore_n (L' := [(3, .int t3), (0, .ref (ad 27)), (1, .int l1), (2, .int c2)]) hX 26 rfl (by decide) rfl ?_
    refine J.sub (L' := [(0, .ref (ad 27)), (1, .int l1), (2, .int c2), (3, .int t3)]) [1, 2, 3, 0] rfl ?_
    obtain ⟨N9, hlp, h⟩ := bd1_inv h
    suffices hE : JM 3 70 p l e s m args below meth c D cA ad n A 7 out M1 N9 100 [(0, .ref (ad 27)), (1, .int l1), (2, .int c2)] [] by
      exact loop_ok (fun q9 : Int32 × Mem => JM 3 70 p l e s m args below meth c D cA ad n A 7 out M1 q9.2 44 [(0, .ref (ad 27)), (1, .int l1), (2, .int c2), (3, .int q9.1)] []) (fun q9 r hB hst hex9 => X5_list_L44_ok hX  hB (fun _ _ hr => hst _ hr) (fun _ hr => by cases hex9 _ hr; exact hE)) 3000 _ hlp
    refine J.sub (L' := [(0, .ref (ad 27)), (1, .int l1), (2, .int c2)]) [0, 1, 2] rfl ?_
    exact X5_list_L28_j100_ok hX  h hin hex0
set_option maxHeartbeats 4000000 in
set_option maxRecDepth 100000 in
theorem X5_list_L145_ok (hX : Cx p s m args meth c D cA ad n A sa cX5_list 7 RX5 kX5_list) {N14 : Mem} {l1 : Int32} {v5 : Int32} {v6 : Int32} {v7 : Int32} {c4 : Int32}  {r : (Int32 × Mem) ⊕ (Mem)} (h : X5_list_L145 l1 v5 v6 v7 (c4, N14) = some r) (hin : ∀ (q0 : Int32) (Mq : Mem), r = .inl (q0, Mq) → JM 3 70 p l e s m args below meth c D cA ad n A 7 out M1 Mq 145 [(0, .ref (ad 27)), (1, .int l1), (2, .int v5), (3, .int v6), (4, .int v7), (5, .int q0)] []) (hex0 : ∀  (Mq : Mem), r = .inr Mq → JM 3 70 p l e s m args below meth c D cA ad n A 7 out M1 Mq 182 [(0, .ref (ad 27)), (1, .int l1), (2, .int v5), (3, .int v6), (4, .int v7)] []) : JM 3 70 p l e s m args below meth c D cA ad n A 7 out M1 N14 145 [(0, .ref (ad 27)), (1, .int l1), (2, .int v5), (3, .int v6), (4, .int v7), (5, .int c4)] [] := by
  unfold X5_list_L145 at h
  have h := un2_inv h
  refine J.iload hX 84 5 rfl rfl ?_
  refine J.iload_n hX 85 2 rfl rfl ?_
  refine J.iload_n hX 86 3 rfl rfl ?_
  refine J.iconst (v := 1) hX 87 rfl (by decide) ?_
  refine J.isub hX 88 rfl ?_
  refine J.imul hX 89 rfl ?_
  refine J.icmp_ge (tgt := 182) hX 90 rfl (by decide) (fun b8 => ?_) (fun b8 => ?_)
  · rw [if_pos b8] at h
    refine J.sub (L' := [(0, .ref (ad 27)), (1, .int l1), (2, .int v5), (3, .int v6), (4, .int v7)]) [0, 1, 2, 3, 4] rfl ?_
    exact hex0 _ (Option.some.inj h).symm
  · rw [if_neg b8] at h
    refine J.iload hX 91 4 rfl rfl ?_
    refine J.if_eq (tgt := 182) hX 92 rfl (by decide) (fun b9 => ?_) (fun b9 => ?_)
    · rw [if_pos b9] at h
      refine J.sub (L' := [(0, .ref (ad 27)), (1, .int l1), (2, .int v5), (3, .int v6), (4, .int v7)]) [0, 1, 2, 3, 4] rfl ?_
      exact hex0 _ (Option.some.inj h).symm
    · rw [if_neg b9] at h
      refine J.aload_n hX 93 0 rfl rfl ?_
      refine J.bipush (v := 108) hX 94 rfl (by decide) ?_
      refine J.aload_n hX 95 0 rfl rfl ?_
      refine J.getR hX 96 27 5 (hX.lt (k := 27) (by decide)) sh_27 rfl in_wsX50 12 (by decide) w_84 rfl rfl ?_
      refine J.iconst (v := 0) hX 97 rfl (by decide) ?_
      obtain ⟨t13, et13, hb, h⟩ := ld_inv h
      refine J.ialdN hX 98 37 (hX.lt (k := 37) (by decide)) sh_37 hb et13 rfl ?_
      refine J.bipush (v := 12) hX 99 rfl (by decide) ?_
      refine J.iadd hX 100 rfl ?_
      refine J.iconst (v := 2) hX 101 rfl (by decide) ?_
      obtain ⟨N15, hc, h⟩ := bd1_inv h
      refine J.callV0 (As := [.int 108, .int (t13 + 12), .int 2]) (rest := []) (k := 27) hX 102 rfl (mX5_cutOf  hc) okX5_cutOf w_647 (hX.lt (k := 27) (by decide)) sh_27 rfl rfl rfl (Nat.le_of_ble_eq_true rfl) ⟨Nat.le_of_ble_eq_true rfl, Nat.le_of_ble_eq_true rfl⟩ ⟨Nat.zero_le _, Nat.zero_le _⟩ ?_
      obtain ⟨t14, et14, h⟩ := bnd_inv h
      refine J.iinc (q := 5) (L' := [(5, .int t14), (0, .ref (ad 27)), (1, .int l1), (2, .int v5), (3, .int v6), (4, .int v7)]) hX 103 rfl rfl et14 (by decide) rfl ?_
      refine J.goto (tgt := 145) hX 104 rfl (by decide) ?_
      refine J.sub (L' := [(0, .ref (ad 27)), (1, .int l1), (2, .int v5), (3, .int v6), (4, .int v7), (5, .int t14)]) [1, 2, 3, 4, 5, 0] rfl ?_
      exact hin _ _ (Option.some.inj h).symm
set_option maxHeartbeats 4000000 in
set_option maxRecDepth 100000 in
theorem X5_list_L185_ok (hX : Cx p s m args meth c D cA ad n A sa cX5_list 7 RX5 kX5_list) {N18 : Mem} {l1 : Int32} {v8 : Int32} {v9 : Int32} {v10 : Int32} {c5 : Int32}  {r : (Int32 × Mem) ⊕ (Mem)} (h : X5_list_L185 l1 v8 v9 v10 (c5, N18) = some r) (hin : ∀ (q0 : Int32) (Mq : Mem), r = .inl (q0, Mq) → JM 3 70 p l e s m args below meth c D cA ad n A 7 out M1 Mq 185 [(0, .ref (ad 27)), (1, .int l1), (2, .int v8), (3, .int v9), (4, .int v10), (5, .int q0)] []) (hex0 : ∀  (Mq : Mem), r = .inr Mq → JM 3 70 p l e s m args below meth c D cA ad n A 7 out M1 Mq 224 [(0, .ref (ad 27)), (1, .int l1), (2, .int v8), (3, .int v9)] []) : JM 3 70 p l e s m args below meth c D cA ad n A 7 out M1 N18 185 [(0, .ref (ad 27)), (1, .int l1), (2, .int v8), (3, .int v9), (4, .int v10), (5, .int c5)] [] := by
  unfold X5_list_L185 at h
  have h := un2_inv h
  refine J.iload hX 107 5 rfl rfl ?_
  refine J.iload_n hX 108 2 rfl rfl ?_
  refine J.icmp_ge (tgt := 224) hX 109 rfl (by decide) (fun b10 => ?_) (fun b10 => ?_)
  · rw [if_pos b10] at h
    refine J.sub (L' := [(0, .ref (ad 27)), (1, .int l1), (2, .int v8), (3, .int v9)]) [0, 1, 2, 3] rfl ?_
    exact hex0 _ (Option.some.inj h).symm
  · rw [if_neg b10] at h
    refine J.iload hX 110 4 rfl rfl ?_
    refine J.if_eq (tgt := 224) hX 111 rfl (by decide) (fun b11 => ?_) (fun b11 => ?_)
    · rw [if_pos b11] at h
      refine J.sub (L' := [(0, .ref (ad 27)), (1, .int l1), (2, .int v8), (3, .int v9)]) [0, 1, 2, 3] rfl ?_
      exact hex0 _ (Option.some.inj h).symm
    · rw [if_neg b11] at h
      refine J.aload_n hX 112 0 rfl rfl ?_
      refine J.aload_n hX 113 0 rfl rfl ?_
      refine J.iload_n hX 114 3 rfl rfl ?_
      obtain ⟨t15, hc, h⟩ := bd1_inv h
      refine J.callV1 (As := [.int v9]) (rest := [.ref (ad 27)]) (k := 27) hX 115 rfl (mX5_across  hc) okX5_across w_659 (hX.lt (k := 27) (by decide)) sh_27 rfl rfl rfl (Nat.le_of_ble_eq_true rfl) ⟨Nat.le_of_ble_eq_true rfl, Nat.le_of_ble_eq_true rfl⟩ ⟨Nat.zero_le _, Nat.zero_le _⟩ ?_
      refine J.bipush (v := 12) hX 116 rfl (by decide) ?_
      refine J.iadd hX 117 rfl ?_
      refine J.aload_n hX 118 0 rfl rfl ?_
      refine J.getR hX 119 27 5 (hX.lt (k := 27) (by decide)) sh_27 rfl in_wsX50 12 (by decide) w_84 rfl rfl ?_
      refine J.iconst (v := 0) hX 120 rfl (by decide) ?_
      obtain ⟨t16, et16, hb, h⟩ := ld_inv h
      refine J.ialdN hX 121 37 (hX.lt (k := 37) (by decide)) sh_37 hb et16 rfl ?_
      refine J.bipush (v := 12) hX 122 rfl (by decide) ?_
      refine J.iadd hX 123 rfl ?_
      refine J.iconst (v := 2) hX 124 rfl (by decide) ?_
      obtain ⟨N19, hc, h⟩ := bd1_inv h
      refine J.callV0 (As := [.int (t15 + 12), .int (t16 + 12), .int 2]) (rest := []) (k := 27) hX 125 rfl (mX5_cutOf  hc) okX5_cutOf w_647 (hX.lt (k := 27) (by decide)) sh_27 rfl rfl rfl (Nat.le_of_ble_eq_true rfl) ⟨Nat.le_of_ble_eq_true rfl, Nat.le_of_ble_eq_true rfl⟩ ⟨Nat.zero_le _, Nat.zero_le _⟩ ?_
      obtain ⟨t17, et17, h⟩ := bnd_inv h
      refine J.iinc (q := 5) (L' := [(5, .int t17), (0, .ref (ad 27)), (1, .int l1), (2, .int v8), (3, .int v9), (4, .int v10)]) hX 126 rfl rfl et17 (by decide) rfl ?_
      refine J.goto (tgt := 185) hX 127 rfl (by decide) ?_
      refine J.sub (L' := [(0, .ref (ad 27)), (1, .int l1), (2, .int v8), (3, .int v9), (4, .int v10), (5, .int t17)]) [1, 2, 3, 4, 5, 0] rfl ?_
      exact hin _ _ (Option.some.inj h).symm
set_option maxHeartbeats 4000000 in
set_option maxRecDepth 100000 in
theorem X5_list_L257_j303_ok (hX : Cx p s m args meth c D cA ad n A sa cX5_list 7 RX5 kX5_list) {N25 : Mem} {v15 : Int32} {v16 : Int32} {v17 : Int32} {v18 : Int32} {v19 : Int32}  {r : (Int32 × Mem) ⊕ (Mem)} (h : X5_list_L257_j303 N25 v15 v16 v17 v18 v19 = some r) (hin : ∀ (q0 : Int32) (Mq : Mem), r = .inl (q0, Mq) → JM 3 70 p l e s m args below meth c D cA ad n A 7 out M1 Mq 257 [(0, .ref (ad 27)), (2, .int v15), (3, .int v16), (5, .int v17), (6, .int q0)] []) (hex0 : ∀  (Mq : Mem), r = .inr Mq → JM 3 70 p l e s m args below meth c D cA ad n A 7 out M1 Mq 322 [] []) : JM 3 70 p l e s m args below meth c D cA ad n A 7 out M1 N25 303 [(0, .ref (ad 27)), (2, .int v15), (3, .int v16), (5, .int v17), (6, .int v18)] [.int v19, .ref (ad 27)] := by
  unfold X5_list_L257_j303 at h
  refine J.aload_n hX 174 0 rfl rfl ?_
  refine J.getR hX 175 27 5 (hX.lt (k := 27) (by decide)) sh_27 rfl in_wsX50 12 (by decide) w_84 rfl rfl ?_
  refine J.iconst (v := 1) hX 176 rfl (by decide) ?_
  obtain ⟨t21, et21, hb, h⟩ := ld_inv h
  refine J.ialdN hX 177 37 (hX.lt (k := 37) (by decide)) sh_37 hb et21 rfl ?_
  refine J.bipush (v := 12) hX 178 rfl (by decide) ?_
  refine J.iadd hX 179 rfl ?_
  refine J.iconst (v := 3) hX 180 rfl (by decide) ?_
  obtain ⟨N26, hc, h⟩ := bd1_inv h
  refine J.callV0 (As := [.int v19, .int (t21 + 12), .int 3]) (rest := []) (k := 27) hX 181 rfl (mX5_cutOf  hc) okX5_cutOf w_647 (hX.lt (k := 27) (by decide)) sh_27 rfl rfl rfl (Nat.le_of_ble_eq_true rfl) ⟨Nat.le_of_ble_eq_true rfl, Nat.le_of_ble_eq_true rfl⟩ ⟨Nat.zero_le _, Nat.zero_le _⟩ ?_
  obtain ⟨t22, et22, h⟩ := bnd_inv h
  refine J.iinc (q := 4) (L' := [(6, .int t22), (0, .ref (ad 27)), (2, .int v15), (3, .int v16), (5, .int v17)]) hX 182 rfl rfl et22 (by decide) rfl ?_
  refine J.goto (tgt := 257) hX 183 rfl (by decide) ?_
  refine J.sub (L' := [(0, .ref (ad 27)), (2, .int v15), (3, .int v16), (5, .int v17), (6, .int t22)]) [1, 2, 3, 4, 0] rfl ?_
  exact hin _ _ (Option.some.inj h).symm
set_option maxHeartbeats 4000000 in
set_option maxRecDepth 100000 in
theorem X5_list_L257_ok (hX : Cx p s m args meth c D cA ad n A sa cX5_list 7 RX5 kX5_list) {N24 : Mem} {v15 : Int32} {v16 : Int32} {v17 : Int32} {c6 : Int32}  {r : (Int32 × Mem) ⊕ (Mem)} (h : X5_list_L257 v15 v16 v17 (c6, N24) = some r) (hin : ∀ (q0 : Int32) (Mq : Mem), r = .inl (q0, Mq) → JM 3 70 p l e s m args below meth c D cA ad n A 7 out M1 Mq 257 [(0, .ref (ad 27)), (2, .int v15), (3, .int v16), (5, .int v17), (6, .int q0)] []) (hex0 : ∀  (Mq : Mem), r = .inr Mq → JM 3 70 p l e s m args below meth c D cA ad n A 7 out M1 Mq 322 [] []) : JM 3 70 p l e s m args below meth c D cA ad n A 7 out M1 N24 257 [(0, .ref (ad 27)), (2, .int v15), (3, .int v16), (5, .int v17), (6, .int c6)] [] := by
  unfold X5_list_L257 at h
  have h := un2_inv h
  refine J.iload hX 147 4 rfl rfl ?_
  refine J.iconst (v := 4) hX 148 rfl (by decide) ?_
  refine J.icmp_ge (tgt := 322) hX 149 rfl (by decide) (fun b13 => ?_) (fun b13 => ?_)
  · rw [if_pos b13] at h
    refine J.sub (L' := []) [] rfl ?_
    exact hex0 _ (Option.some.inj h).symm
  · rw [if_neg b13] at h
    refine J.iload hX 150 3 rfl rfl ?_
    refine J.if_eq (tgt := 322) hX 151 rfl (by decide) (fun b14 => ?_) (fun b14 => ?_)
    · rw [if_pos b14] at h
      refine J.sub (L' := []) [] rfl ?_
      exact hex0 _ (Option.some.inj h).symm
    · rw [if_neg b14] at h
      refine J.aload_n hX 152 0 rfl rfl ?_
      refine J.iload hX 153 4 rfl rfl ?_
      refine J.iconst (v := 2) hX 154 rfl (by decide) ?_
      refine J.icmp_ge (tgt := 286) hX 155 rfl (by decide) (fun b15 => ?_) (fun b15 => ?_)
      · rw [if_pos b15] at h
        refine J.aload_n hX 162 0 rfl rfl ?_
        refine J.iload_n hX 163 1 rfl rfl ?_
        obtain ⟨t19, hc, h⟩ := bd1_inv h
        refine J.callV1 (As := [.int v15]) (rest := [.ref (ad 27)]) (k := 27) hX 164 rfl (mX5_across  hc) okX5_across w_659 (hX.lt (k := 27) (by decide)) sh_27 rfl rfl rfl (Nat.le_of_ble_eq_true rfl) ⟨Nat.le_of_ble_eq_true rfl, Nat.le_of_ble_eq_true rfl⟩ ⟨Nat.zero_le _, Nat.zero_le _⟩ ?_
        refine J.iconst (v := 2) hX 165 rfl (by decide) ?_
        refine J.aload_n hX 166 0 rfl rfl ?_
        refine J.getR hX 167 27 5 (hX.lt (k := 27) (by decide)) sh_27 rfl in_wsX50 12 (by decide) w_84 rfl rfl ?_
        refine J.iconst (v := 1) hX 168 rfl (by decide) ?_
        obtain ⟨t20, et20, hb, h⟩ := ld_inv h
        refine J.ialdN hX 169 37 (hX.lt (k := 37) (by decide)) sh_37 hb et20 rfl ?_
        refine J.imul hX 170 rfl ?_
        refine J.iadd hX 171 rfl ?_
        refine J.bipush (v := 12) hX 172 rfl (by decide) ?_
        refine J.iadd hX 173 rfl ?_
        refine J.sub (L' := [(0, .ref (ad 27)), (2, .int v15), (3, .int v16), (5, .int v17), (6, .int c6)]) [0, 1, 2, 3, 4] rfl ?_
        exact X5_list_L257_j303_ok hX  h hin hex0
      · rw [if_neg b15] at h
        refine J.aload_n hX 156 0 rfl rfl ?_
        refine J.iload_n hX 157 2 rfl rfl ?_
        obtain ⟨t23, hc, h⟩ := bd1_inv h
        refine J.callV1 (As := [.int v16]) (rest := [.ref (ad 27)]) (k := 27) hX 158 rfl (mX5_across  hc) okX5_across w_659 (hX.lt (k := 27) (by decide)) sh_27 rfl rfl rfl (Nat.le_of_ble_eq_true rfl) ⟨Nat.le_of_ble_eq_true rfl, Nat.le_of_ble_eq_true rfl⟩ ⟨Nat.zero_le _, Nat.zero_le _⟩ ?_
        refine J.bipush (v := 12) hX 159 rfl (by decide) ?_
        refine J.iadd hX 160 rfl ?_
        refine J.goto (tgt := 303) hX 161 rfl (by decide) ?_
        refine J.sub (L' := [(0, .ref (ad 27)), (2, .int v15), (3, .int v16), (5, .int v17), (6, .int c6)]) [0, 1, 2, 3, 4] rfl ?_
        exact X5_list_L257_j303_ok hX  h hin hex0
set_option maxHeartbeats 4000000 in
set_option maxRecDepth 100000 in
theorem X5_list_j252_ok (hX : Cx p s m args meth c D cA ad n A sa cX5_list 7 RX5 kX5_list) {N23 : Mem} {v15 : Int32} {v16 : Int32} {v17 : Int32} {Mf : Mem}  (hr : meth.sig.returnType = none) (ht : ∀ x ∈ c.exceptionTable.toList, False) (h : X5_list_j252 N23 v15 v16 v17 = some Mf) : JM 3 70 p l e s m args below meth c D cA ad n A 7 (.inl none) Mf N23 252 [(0, .ref (ad 27)), (2, .int v15), (3, .int v16)] [.int v17] := by
  unfold X5_list_j252 at h
  refine J.istore (L' := [(5, .int v17), (0, .ref (ad 27)), (2, .int v15), (3, .int v16)]) hX 144 rfl (by decide) rfl ?_
  refine J.iconst (v := 0) hX 145 rfl (by decide) ?_
  refine J.istore (L' := [(6, .int 0), (5, .int v17), (0, .ref (ad 27)), (2, .int v15), (3, .int v16)]) hX 146 rfl (by decide) rfl ?_
  refine J.sub (L' := [(0, .ref (ad 27)), (2, .int v15), (3, .int v16), (5, .int v17), (6, .int 0)]) [2, 3, 4, 1, 0] rfl ?_
  obtain ⟨N27, hlp, h⟩ := bd1_inv h
  suffices hE : JM 3 70 p l e s m args below meth c D cA ad n A 7 (.inl none) Mf N27 322 [] [] by
    exact loop_ok (fun q9 : Int32 × Mem => JM 3 70 p l e s m args below meth c D cA ad n A 7 (.inl none) Mf q9.2 257 [(0, .ref (ad 27)), (2, .int v15), (3, .int v16), (5, .int v17), (6, .int q9.1)] []) (fun q9 r hB hst hex9 => X5_list_L257_ok hX  hB (fun _ _ hr => hst _ hr) (fun _ hr => by cases hex9 _ hr; exact hE)) 3000 _ hlp
  cases h
  exact J.vret hX hr 184 rfl
set_option maxHeartbeats 4000000 in
set_option maxRecDepth 100000 in
theorem X5_list_j251_ok (hX : Cx p s m args meth c D cA ad n A sa cX5_list 7 RX5 kX5_list) {N22 : Mem} {v13 : Int32} {v14 : Int32} {Mf : Mem}  (hr : meth.sig.returnType = none) (ht : ∀ x ∈ c.exceptionTable.toList, False) (h : X5_list_j251 N22 v13 v14 = some Mf) : JM 3 70 p l e s m args below meth c D cA ad n A 7 (.inl none) Mf N22 251 [(0, .ref (ad 27)), (2, .int v13), (3, .int v14)] [] := by
  unfold X5_list_j251 at h
  refine J.iconst (v := 0) hX 143 rfl (by decide) ?_
  refine J.sub (L' := [(0, .ref (ad 27)), (2, .int v13), (3, .int v14)]) [0, 1, 2] rfl ?_
  exact X5_list_j252_ok hX  hr ht h
set_option maxHeartbeats 4000000 in
set_option maxRecDepth 100000 in
theorem X5_list_j224_ok (hX : Cx p s m args meth c D cA ad n A sa cX5_list 7 RX5 kX5_list) {N21 : Mem} {l1 : Int32} {v11 : Int32} {v12 : Int32} {Mf : Mem}  (hr : meth.sig.returnType = none) (ht : ∀ x ∈ c.exceptionTable.toList, False) (h : X5_list_j224 N21 l1 v11 v12 = some Mf) : JM 3 70 p l e s m args below meth c D cA ad n A 7 (.inl none) Mf N21 224 [(0, .ref (ad 27)), (1, .int l1), (2, .int v11), (3, .int v12)] [] := by
  unfold X5_list_j224 at h
  refine J.aload_n hX 128 0 rfl rfl ?_
  refine J.getR hX 129 27 5 (hX.lt (k := 27) (by decide)) sh_27 rfl in_wsX50 12 (by decide) w_84 rfl rfl ?_
  refine J.iconst (v := 1) hX 130 rfl (by decide) ?_
  obtain ⟨t18, et18, hb, h⟩ := ld_inv h
  refine J.ialdN hX 131 37 (hX.lt (k := 37) (by decide)) sh_37 hb et18 rfl ?_
  refine J.if_le (tgt := 251) hX 132 rfl (by decide) (fun b12 => ?_) (fun b12 => ?_)
  · rw [if_pos b12] at h
    refine J.sub (L' := [(0, .ref (ad 27)), (2, .int v11), (3, .int v12)]) [0, 2, 3] rfl ?_
    exact X5_list_j251_ok hX  hr ht h
  · rw [if_neg b12] at h
    refine J.aload_n hX 133 0 rfl rfl ?_
    refine J.getR hX 134 27 5 (hX.lt (k := 27) (by decide)) sh_27 rfl in_wsX50 13 (by decide) w_85 rfl rfl ?_
    refine J.iconst (v := 1) hX 135 rfl (by decide) ?_
    obtain ⟨t24, et24, hb, h⟩ := ld_inv h
    refine J.ialdN hX 136 38 (hX.lt (k := 38) (by decide)) sh_38 hb et24 rfl ?_
    refine J.iload_n hX 137 1 rfl rfl ?_
    refine J.icmp_ne (tgt := 251) hX 138 rfl (by decide) (fun b16 => ?_) (fun b16 => ?_)
    · rw [if_neg b16] at h
      refine J.sub (L' := [(0, .ref (ad 27)), (2, .int v11), (3, .int v12)]) [0, 2, 3] rfl ?_
      exact X5_list_j251_ok hX  hr ht h
    · rw [if_pos b16] at h
      refine J.iload_n hX 139 2 rfl rfl ?_
      refine J.if_le (tgt := 251) hX 140 rfl (by decide) (fun b17 => ?_) (fun b17 => ?_)
      · rw [if_pos b17] at h
        refine J.sub (L' := [(0, .ref (ad 27)), (2, .int v11), (3, .int v12)]) [0, 2, 3] rfl ?_
        exact X5_list_j251_ok hX  hr ht h
      · rw [if_neg b17] at h
        refine J.iconst (v := 1) hX 141 rfl (by decide) ?_
        refine J.goto (tgt := 252) hX 142 rfl (by decide) ?_
        refine J.sub (L' := [(0, .ref (ad 27)), (2, .int v11), (3, .int v12)]) [0, 2, 3] rfl ?_
        exact X5_list_j252_ok hX  hr ht h
set_option maxHeartbeats 4000000 in
set_option maxRecDepth 100000 in
theorem X5_list_j182_ok (hX : Cx p s m args meth c D cA ad n A sa cX5_list 7 RX5 kX5_list) {N17 : Mem} {l1 : Int32} {v8 : Int32} {v9 : Int32} {v10 : Int32} {Mf : Mem}  (hr : meth.sig.returnType = none) (ht : ∀ x ∈ c.exceptionTable.toList, False) (h : X5_list_j182 N17 l1 v8 v9 v10 = some Mf) : JM 3 70 p l e s m args below meth c D cA ad n A 7 (.inl none) Mf N17 182 [(0, .ref (ad 27)), (1, .int l1), (2, .int v8), (3, .int v9), (4, .int v10)] [] := by
  unfold X5_list_j182 at h
  refine J.iconst (v := 1) hX 105 rfl (by decide) ?_
  refine J.istore (L' := [(5, .int 1), (0, .ref (ad 27)), (1, .int l1), (2, .int v8), (3, .int v9), (4, .int v10)]) hX 106 rfl (by decide) rfl ?_
  refine J.sub (L' := [(0, .ref (ad 27)), (1, .int l1), (2, .int v8), (3, .int v9), (4, .int v10), (5, .int 1)]) [1, 2, 3, 4, 5, 0] rfl ?_
  obtain ⟨N20, hlp, h⟩ := bd1_inv h
  suffices hE : JM 3 70 p l e s m args below meth c D cA ad n A 7 (.inl none) Mf N20 224 [(0, .ref (ad 27)), (1, .int l1), (2, .int v8), (3, .int v9)] [] by
    exact loop_ok (fun q9 : Int32 × Mem => JM 3 70 p l e s m args below meth c D cA ad n A 7 (.inl none) Mf q9.2 185 [(0, .ref (ad 27)), (1, .int l1), (2, .int v8), (3, .int v9), (4, .int v10), (5, .int q9.1)] []) (fun q9 r hB hst hex9 => X5_list_L185_ok hX  hB (fun _ _ hr => hst _ hr) (fun _ hr => by cases hex9 _ hr; exact hE)) 3000 _ hlp
  refine J.sub (L' := [(0, .ref (ad 27)), (1, .int l1), (2, .int v8), (3, .int v9)]) [0, 1, 2, 3] rfl ?_
  exact X5_list_j224_ok hX  hr ht h
set_option maxHeartbeats 4000000 in
set_option maxRecDepth 100000 in
theorem X5_list_j140_ok (hX : Cx p s m args meth c D cA ad n A sa cX5_list 7 RX5 kX5_list) {N13 : Mem} {l1 : Int32} {v5 : Int32} {v6 : Int32} {v7 : Int32} {Mf : Mem}  (hr : meth.sig.returnType = none) (ht : ∀ x ∈ c.exceptionTable.toList, False) (h : X5_list_j140 N13 l1 v5 v6 v7 = some Mf) : JM 3 70 p l e s m args below meth c D cA ad n A 7 (.inl none) Mf N13 140 [(0, .ref (ad 27)), (1, .int l1), (2, .int v5), (3, .int v6)] [.int v7] := by
  unfold X5_list_j140 at h
  refine J.istore (L' := [(4, .int v7), (0, .ref (ad 27)), (1, .int l1), (2, .int v5), (3, .int v6)]) hX 81 rfl (by decide) rfl ?_
  refine J.iconst (v := 0) hX 82 rfl (by decide) ?_
  refine J.istore (L' := [(5, .int 0), (4, .int v7), (0, .ref (ad 27)), (1, .int l1), (2, .int v5), (3, .int v6)]) hX 83 rfl (by decide) rfl ?_
  refine J.sub (L' := [(0, .ref (ad 27)), (1, .int l1), (2, .int v5), (3, .int v6), (4, .int v7), (5, .int 0)]) [2, 3, 4, 5, 1, 0] rfl ?_
  obtain ⟨N16, hlp, h⟩ := bd1_inv h
  suffices hE : JM 3 70 p l e s m args below meth c D cA ad n A 7 (.inl none) Mf N16 182 [(0, .ref (ad 27)), (1, .int l1), (2, .int v5), (3, .int v6), (4, .int v7)] [] by
    exact loop_ok (fun q9 : Int32 × Mem => JM 3 70 p l e s m args below meth c D cA ad n A 7 (.inl none) Mf q9.2 145 [(0, .ref (ad 27)), (1, .int l1), (2, .int v5), (3, .int v6), (4, .int v7), (5, .int q9.1)] []) (fun q9 r hB hst hex9 => X5_list_L145_ok hX  hB (fun _ _ hr => hst _ hr) (fun _ hr => by cases hex9 _ hr; exact hE)) 3000 _ hlp
  refine J.sub (L' := [(0, .ref (ad 27)), (1, .int l1), (2, .int v5), (3, .int v6), (4, .int v7)]) [0, 1, 2, 3, 4] rfl ?_
  exact X5_list_j182_ok hX  hr ht h
set_option maxHeartbeats 4000000 in
set_option maxRecDepth 100000 in
theorem X5_list_j139_ok (hX : Cx p s m args meth c D cA ad n A sa cX5_list 7 RX5 kX5_list) {N12 : Mem} {l1 : Int32} {v3 : Int32} {v4 : Int32} {Mf : Mem}  (hr : meth.sig.returnType = none) (ht : ∀ x ∈ c.exceptionTable.toList, False) (h : X5_list_j139 N12 l1 v3 v4 = some Mf) : JM 3 70 p l e s m args below meth c D cA ad n A 7 (.inl none) Mf N12 139 [(0, .ref (ad 27)), (1, .int l1), (2, .int v3), (3, .int v4)] [] := by
  unfold X5_list_j139 at h
  refine J.iconst (v := 0) hX 80 rfl (by decide) ?_
  refine J.sub (L' := [(0, .ref (ad 27)), (1, .int l1), (2, .int v3), (3, .int v4)]) [0, 1, 2, 3] rfl ?_
  exact X5_list_j140_ok hX  hr ht h
set_option maxHeartbeats 4000000 in
set_option maxRecDepth 100000 in
theorem mX5_list {l : Launch} {D : va_G} {cA : Nat → ClassId} {ad : Nat → Nat} {n : Nat} {A : Nat → Prop} {sa : Nat → Nat} {M : Mem} {l1 : Int32} {Mf : Mem} (h : X5_list M l1 = some Mf) : CT l D cA ad n A sa yX5_list cX5_list 7 none 3 70 [.ref (ad 27), .int l1] M (.inl none) Mf := by
  refine CT.of (kt := kX5_list) (by decide) kX5_list_ok (Nat.le_of_ble_eq_true rfl) ?_
  intro p e s m args below meth c hX hr ht
  unfold X5_list at h
  refine J.sub (L' := [(0, .ref (ad 27)), (1, .int l1)]) [0, 1] rfl ?_
  refine J.aload_n hX 0 0 rfl rfl ?_
  refine J.iconst (v := 0) hX 1 rfl (by decide) ?_
  obtain ⟨N1, eN1, h⟩ := bnd_inv h
  refine J.putIN hX 2 27 5 (hX.lt (k := 27) (by decide)) sh_27 rfl in_wsX50 14 (by decide) w_621 tyX5 tyX5_ok nmX5 eN1 rfl rfl (by decide +kernel) rfl ?_
  refine J.iconst (v := 0) hX 3 rfl (by decide) ?_
  refine J.istore_n (L' := [(2, .int 0), (0, .ref (ad 27)), (1, .int l1)]) hX 4 rfl (by decide) rfl ?_
  refine J.sub (L' := [(0, .ref (ad 27)), (1, .int l1), (2, .int 0)]) [1, 2, 0] rfl ?_
  obtain ⟨N4, hlp, h⟩ := bd1_inv h
  suffices hE : JM 3 70 p l e s m args below meth c D cA ad n A 7 (.inl none) Mf N4 26 [(0, .ref (ad 27)), (1, .int l1)] [] by
    exact loop_ok (fun q9 : Int32 × Mem => JM 3 70 p l e s m args below meth c D cA ad n A 7 (.inl none) Mf q9.2 7 [(0, .ref (ad 27)), (1, .int l1), (2, .int q9.1)] []) (fun q9 r hB hst hex9 => X5_list_L7_ok hX  hB (fun _ _ hr => hst _ hr) (fun _ hr => by cases hex9 _ hr; exact hE)) 3000 _ hlp
  refine J.iconst (v := 0) hX 15 rfl (by decide) ?_
  refine J.istore_n (L' := [(2, .int 0), (0, .ref (ad 27)), (1, .int l1)]) hX 16 rfl (by decide) rfl ?_
  refine J.sub (L' := [(0, .ref (ad 27)), (1, .int l1), (2, .int 0)]) [1, 2, 0] rfl ?_
  obtain ⟨N11, hlp, h⟩ := bd1_inv h
  suffices hE : JM 3 70 p l e s m args below meth c D cA ad n A 7 (.inl none) Mf N11 106 [(0, .ref (ad 27)), (1, .int l1)] [] by
    exact loop_ok (fun q9 : Int32 × Mem => JM 3 70 p l e s m args below meth c D cA ad n A 7 (.inl none) Mf q9.2 28 [(0, .ref (ad 27)), (1, .int l1), (2, .int q9.1)] []) (fun q9 r hB hst hex9 => X5_list_L28_ok hX  hB (fun _ _ hr => hst _ hr) (fun _ hr => by cases hex9 _ hr; exact hE)) 3000 _ hlp
  refine J.aload_n hX 61 0 rfl rfl ?_
  obtain ⟨t10, hc, h⟩ := bd1_inv h
  refine J.callV1 (As := []) (rest := []) (k := 27) hX 62 rfl (mX5_rows  hc) okX5_rows w_651 (hX.lt (k := 27) (by decide)) sh_27 rfl rfl rfl (Nat.le_of_ble_eq_true rfl) ⟨Nat.le_of_ble_eq_true rfl, Nat.le_of_ble_eq_true rfl⟩ ⟨Nat.zero_le _, Nat.zero_le _⟩ ?_
  refine J.istore_n (L' := [(2, .int t10), (0, .ref (ad 27)), (1, .int l1)]) hX 63 rfl (by decide) rfl ?_
  refine J.aload_n hX 64 1 rfl rfl ?_
  obtain ⟨t11, hc, h⟩ := bd1_inv h
  refine J.callV1 (As := []) (rest := []) (k := 27) hX 65 rfl (mX5_columns  hc) okX5_columns w_655 (hX.lt (k := 27) (by decide)) sh_27 rfl rfl rfl (Nat.le_of_ble_eq_true rfl) ⟨Nat.le_of_ble_eq_true rfl, Nat.le_of_ble_eq_true rfl⟩ ⟨Nat.zero_le _, Nat.zero_le _⟩ ?_
  refine J.istore_n (L' := [(3, .int t11), (2, .int t10), (0, .ref (ad 27)), (1, .int l1)]) hX 66 rfl (by decide) rfl ?_
  refine J.aload_n hX 67 2 rfl rfl ?_
  refine J.getR hX 68 27 5 (hX.lt (k := 27) (by decide)) sh_27 rfl in_wsX50 12 (by decide) w_84 rfl rfl ?_
  refine J.iconst (v := 0) hX 69 rfl (by decide) ?_
  obtain ⟨t12, et12, hb, h⟩ := ld_inv h
  refine J.ialdN hX 70 37 (hX.lt (k := 37) (by decide)) sh_37 hb et12 rfl ?_
  refine J.if_le (tgt := 139) hX 71 rfl (by decide) (fun b7 => ?_) (fun b7 => ?_)
  · rw [if_pos b7] at h
    refine J.sub (L' := [(0, .ref (ad 27)), (1, .int l1), (2, .int t10), (3, .int t11)]) [2, 3, 1, 0] rfl ?_
    exact X5_list_j139_ok hX  hr ht h
  · rw [if_neg b7] at h
    refine J.aload_n hX 72 2 rfl rfl ?_
    refine J.getR hX 73 27 5 (hX.lt (k := 27) (by decide)) sh_27 rfl in_wsX50 13 (by decide) w_85 rfl rfl ?_
    refine J.iconst (v := 0) hX 74 rfl (by decide) ?_
    obtain ⟨t25, et25, hb, h⟩ := ld_inv h
    refine J.ialdN hX 75 38 (hX.lt (k := 38) (by decide)) sh_38 hb et25 rfl ?_
    refine J.iload_n hX 76 3 rfl rfl ?_
    refine J.icmp_ne (tgt := 139) hX 77 rfl (by decide) (fun b18 => ?_) (fun b18 => ?_)
    · rw [if_neg b18] at h
      refine J.sub (L' := [(0, .ref (ad 27)), (1, .int l1), (2, .int t10), (3, .int t11)]) [2, 3, 1, 0] rfl ?_
      exact X5_list_j139_ok hX  hr ht h
    · rw [if_pos b18] at h
      refine J.iconst (v := 1) hX 78 rfl (by decide) ?_
      refine J.goto (tgt := 140) hX 79 rfl (by decide) ?_
      refine J.sub (L' := [(0, .ref (ad 27)), (1, .int l1), (2, .int t10), (3, .int t11)]) [2, 3, 1, 0] rfl ?_
      exact X5_list_j140_ok hX  hr ht h
def X5_nextCut_L4_j86 (M : Mem) (v6 : Int32) (v7 : Int32) : Option ((Int32 × Int32) ⊕ (Int32)) := bnd (v6 + 1) (fun t2 => some (.inl (v7, t2)))
def X5_nextCut_L4_j76 (M : Mem) (v3 : Int32) (v4 : Int32) (v5 : Int32) : Option ((Int32 × Int32) ⊕ (Int32)) := if v5 = 0 then (X5_nextCut_L4_j86 M v4 v3) else (X5_nextCut_L4_j86 M v4 v4)
def X5_nextCut_L4_j75 (M : Mem) (v1 : Int32) (v2 : Int32) : Option ((Int32 × Int32) ⊕ (Int32)) := X5_nextCut_L4_j76 M v1 v2 0
def X5_nextCut_L4_j71 (M : Mem) (v8 : Int32) (v9 : Int32) : Option ((Int32 × Int32) ⊕ (Int32)) := X5_nextCut_L4_j76 M v8 v9 1
def X5_nextCut_L4 (M : Mem) (q9 : Int32 × Int32) : Option ((Int32 × Int32) ⊕ (Int32)) := un2 q9 (fun c1 c2 => if (M 27 14) ≤ c2 then (some (.inr c1)) else (ld M 42 1000 c2 (fun t1 => if t1 = 0 then (if c1 = (-1) then (X5_nextCut_L4_j71 M c1 c2) else (ld M 40 1000 c2 (fun t3 => ld M 40 1000 c1 (fun t4 => if t4 < t3 then (X5_nextCut_L4_j71 M c1 c2) else (ld M 40 1000 c2 (fun t5 => ld M 40 1000 c1 (fun t6 => if t5 = t6 then (ld M 39 1000 c2 (fun t7 => ld M 39 1000 c1 (fun t8 => if t7 ≤ t8 then (X5_nextCut_L4_j75 M c1 c2) else (X5_nextCut_L4_j71 M c1 c2)))) else (X5_nextCut_L4_j75 M c1 c2)))))))) else (X5_nextCut_L4_j75 M c1 c2))))
def X5_nextCut (M : Mem) : Option (Int32) := bd1 (loop (X5_nextCut_L4 M) 3000 ((-1), 0)) (fun x1 => some x1)
set_option maxHeartbeats 4000000 in
set_option maxRecDepth 100000 in
theorem X5_nextCut_L4_j86_ok (hX : Cx p s m args meth c D cA ad n A sa cX5_nextCut 4 RX5 kX5_nextCut) {M : Mem} {v6 : Int32} {v7 : Int32}  {r : (Int32 × Int32) ⊕ (Int32)} (h : X5_nextCut_L4_j86 M v6 v7 = some r) (hin : ∀ (q0 : Int32) (q1 : Int32), r = .inl (q0, q1) → JM 0 0 p l e s m args below meth c D cA ad n A 4 out M1 M 4 [(0, .ref (ad 27)), (1, .int q0), (2, .int q1)] []) (hex0 : ∀ (q0 : Int32), r = .inr q0 → JM 0 0 p l e s m args below meth c D cA ad n A 4 out M1 M 93 [(1, .int q0)] []) : JM 0 0 p l e s m args below meth c D cA ad n A 4 out M1 M 86 [(0, .ref (ad 27)), (2, .int v6)] [.int v7] := by
  unfold X5_nextCut_L4_j86 at h
  refine J.istore_n (L' := [(1, .int v7), (0, .ref (ad 27)), (2, .int v6)]) hX 52 rfl (by decide) rfl ?_
  obtain ⟨t2, et2, h⟩ := bnd_inv h
  refine J.iinc (q := 2) (L' := [(2, .int t2), (1, .int v7), (0, .ref (ad 27))]) hX 53 rfl rfl et2 (by decide) rfl ?_
  refine J.goto (tgt := 4) hX 54 rfl (by decide) ?_
  refine J.sub (L' := [(0, .ref (ad 27)), (1, .int v7), (2, .int t2)]) [2, 1, 0] rfl ?_
  exact hin _ _ (Option.some.inj h).symm
set_option maxHeartbeats 4000000 in
set_option maxRecDepth 100000 in
theorem X5_nextCut_L4_j76_ok (hX : Cx p s m args meth c D cA ad n A sa cX5_nextCut 4 RX5 kX5_nextCut) {M : Mem} {v3 : Int32} {v4 : Int32} {v5 : Int32}  {r : (Int32 × Int32) ⊕ (Int32)} (h : X5_nextCut_L4_j76 M v3 v4 v5 = some r) (hin : ∀ (q0 : Int32) (q1 : Int32), r = .inl (q0, q1) → JM 0 0 p l e s m args below meth c D cA ad n A 4 out M1 M 4 [(0, .ref (ad 27)), (1, .int q0), (2, .int q1)] []) (hex0 : ∀ (q0 : Int32), r = .inr q0 → JM 0 0 p l e s m args below meth c D cA ad n A 4 out M1 M 93 [(1, .int q0)] []) : JM 0 0 p l e s m args below meth c D cA ad n A 4 out M1 M 76 [(0, .ref (ad 27)), (1, .int v3), (2, .int v4)] [.int v5] := by
  unfold X5_nextCut_L4_j76 at h
  refine J.istore_n (L' := [(3, .int v5), (0, .ref (ad 27)), (1, .int v3), (2, .int v4)]) hX 46 rfl (by decide) rfl ?_
  refine J.iload_n hX 47 0 rfl rfl ?_
  refine J.if_eq (tgt := 85) hX 48 rfl (by decide) (fun b3 => ?_) (fun b3 => ?_)
  · rw [if_pos b3] at h
    refine J.iload_n hX 51 2 rfl rfl ?_
    refine J.sub (L' := [(0, .ref (ad 27)), (2, .int v4)]) [1, 3] rfl ?_
    exact X5_nextCut_L4_j86_ok hX  h hin hex0
  · rw [if_neg b3] at h
    refine J.iload_n hX 49 3 rfl rfl ?_
    refine J.goto (tgt := 86) hX 50 rfl (by decide) ?_
    refine J.sub (L' := [(0, .ref (ad 27)), (2, .int v4)]) [1, 3] rfl ?_
    exact X5_nextCut_L4_j86_ok hX  h hin hex0
set_option maxHeartbeats 4000000 in
set_option maxRecDepth 100000 in
theorem X5_nextCut_L4_j75_ok (hX : Cx p s m args meth c D cA ad n A sa cX5_nextCut 4 RX5 kX5_nextCut) {M : Mem} {v1 : Int32} {v2 : Int32}  {r : (Int32 × Int32) ⊕ (Int32)} (h : X5_nextCut_L4_j75 M v1 v2 = some r) (hin : ∀ (q0 : Int32) (q1 : Int32), r = .inl (q0, q1) → JM 0 0 p l e s m args below meth c D cA ad n A 4 out M1 M 4 [(0, .ref (ad 27)), (1, .int q0), (2, .int q1)] []) (hex0 : ∀ (q0 : Int32), r = .inr q0 → JM 0 0 p l e s m args below meth c D cA ad n A 4 out M1 M 93 [(1, .int q0)] []) : JM 0 0 p l e s m args below meth c D cA ad n A 4 out M1 M 75 [(0, .ref (ad 27)), (1, .int v1), (2, .int v2)] [] := by
  unfold X5_nextCut_L4_j75 at h
  refine J.iconst (v := 0) hX 45 rfl (by decide) ?_
  refine J.sub (L' := [(0, .ref (ad 27)), (1, .int v1), (2, .int v2)]) [0, 1, 2] rfl ?_
  exact X5_nextCut_L4_j76_ok hX  h hin hex0
set_option maxHeartbeats 4000000 in
set_option maxRecDepth 100000 in
theorem X5_nextCut_L4_j71_ok (hX : Cx p s m args meth c D cA ad n A sa cX5_nextCut 4 RX5 kX5_nextCut) {M : Mem} {v8 : Int32} {v9 : Int32}  {r : (Int32 × Int32) ⊕ (Int32)} (h : X5_nextCut_L4_j71 M v8 v9 = some r) (hin : ∀ (q0 : Int32) (q1 : Int32), r = .inl (q0, q1) → JM 0 0 p l e s m args below meth c D cA ad n A 4 out M1 M 4 [(0, .ref (ad 27)), (1, .int q0), (2, .int q1)] []) (hex0 : ∀ (q0 : Int32), r = .inr q0 → JM 0 0 p l e s m args below meth c D cA ad n A 4 out M1 M 93 [(1, .int q0)] []) : JM 0 0 p l e s m args below meth c D cA ad n A 4 out M1 M 71 [(0, .ref (ad 27)), (1, .int v8), (2, .int v9)] [] := by
  unfold X5_nextCut_L4_j71 at h
  refine J.iconst (v := 1) hX 43 rfl (by decide) ?_
  refine J.goto (tgt := 76) hX 44 rfl (by decide) ?_
  refine J.sub (L' := [(0, .ref (ad 27)), (1, .int v8), (2, .int v9)]) [0, 1, 2] rfl ?_
  exact X5_nextCut_L4_j76_ok hX  h hin hex0
set_option maxHeartbeats 4000000 in
set_option maxRecDepth 100000 in
theorem X5_nextCut_L4_ok (hX : Cx p s m args meth c D cA ad n A sa cX5_nextCut 4 RX5 kX5_nextCut) {M : Mem}  {c1 : Int32} {c2 : Int32}  {r : (Int32 × Int32) ⊕ (Int32)} (h : X5_nextCut_L4 M (c1, c2) = some r) (hin : ∀ (q0 : Int32) (q1 : Int32), r = .inl (q0, q1) → JM 0 0 p l e s m args below meth c D cA ad n A 4 out M1 M 4 [(0, .ref (ad 27)), (1, .int q0), (2, .int q1)] []) (hex0 : ∀ (q0 : Int32), r = .inr q0 → JM 0 0 p l e s m args below meth c D cA ad n A 4 out M1 M 93 [(1, .int q0)] []) : JM 0 0 p l e s m args below meth c D cA ad n A 4 out M1 M 4 [(0, .ref (ad 27)), (1, .int c1), (2, .int c2)] [] := by
  unfold X5_nextCut_L4 at h
  have h := un2_inv h
  refine J.iload_n hX 4 2 rfl rfl ?_
  refine J.aload_n hX 5 0 rfl rfl ?_
  refine J.getI hX 6 27 5 (hX.lt (k := 27) (by decide)) sh_27 rfl in_wsX50 14 (by decide) w_621 rfl rfl ?_
  refine J.icmp_ge (tgt := 93) hX 7 rfl (by decide) (fun b1 => ?_) (fun b1 => ?_)
  · rw [if_pos b1] at h
    refine J.sub (L' := [(1, .int c1)]) [1] rfl ?_
    exact hex0 _ (Option.some.inj h).symm
  · rw [if_neg b1] at h
    refine J.aload_n hX 8 0 rfl rfl ?_
    refine J.getR hX 9 27 5 (hX.lt (k := 27) (by decide)) sh_27 rfl in_wsX50 18 (by decide) w_90 rfl rfl ?_
    refine J.iload_n hX 10 2 rfl rfl ?_
    obtain ⟨t1, et1, hb, h⟩ := ld_inv h
    refine J.zaldN hX 11 42 (hX.lt (k := 42) (by decide)) sh_42 hb et1 rfl ?_
    refine J.if_ne (tgt := 75) hX 12 rfl (by decide) (fun b2 => ?_) (fun b2 => ?_)
    · rw [if_neg b2] at h
      refine J.sub (L' := [(0, .ref (ad 27)), (1, .int c1), (2, .int c2)]) [0, 1, 2] rfl ?_
      exact X5_nextCut_L4_j75_ok hX  h hin hex0
    · rw [if_pos b2] at h
      refine J.iload_n hX 13 1 rfl rfl ?_
      refine J.iconst (v := (-1)) hX 14 rfl (by decide) ?_
      refine J.icmp_eq (tgt := 71) hX 15 rfl (by decide) (fun b4 => ?_) (fun b4 => ?_)
      · rw [if_pos b4] at h
        refine J.sub (L' := [(0, .ref (ad 27)), (1, .int c1), (2, .int c2)]) [0, 1, 2] rfl ?_
        exact X5_nextCut_L4_j71_ok hX  h hin hex0
      · rw [if_neg b4] at h
        refine J.aload_n hX 16 0 rfl rfl ?_
        refine J.getR hX 17 27 5 (hX.lt (k := 27) (by decide)) sh_27 rfl in_wsX50 16 (by decide) w_87 rfl rfl ?_
        refine J.iload_n hX 18 2 rfl rfl ?_
        obtain ⟨t3, et3, hb, h⟩ := ld_inv h
        refine J.ialdN hX 19 40 (hX.lt (k := 40) (by decide)) sh_40 hb et3 rfl ?_
        refine J.aload_n hX 20 0 rfl rfl ?_
        refine J.getR hX 21 27 5 (hX.lt (k := 27) (by decide)) sh_27 rfl in_wsX50 16 (by decide) w_87 rfl rfl ?_
        refine J.iload_n hX 22 1 rfl rfl ?_
        obtain ⟨t4, et4, hb, h⟩ := ld_inv h
        refine J.ialdN hX 23 40 (hX.lt (k := 40) (by decide)) sh_40 hb et4 rfl ?_
        refine J.icmp_gt (tgt := 71) hX 24 rfl (by decide) (fun b5 => ?_) (fun b5 => ?_)
        · rw [if_pos b5] at h
          refine J.sub (L' := [(0, .ref (ad 27)), (1, .int c1), (2, .int c2)]) [0, 1, 2] rfl ?_
          exact X5_nextCut_L4_j71_ok hX  h hin hex0
        · rw [if_neg b5] at h
          refine J.aload_n hX 25 0 rfl rfl ?_
          refine J.getR hX 26 27 5 (hX.lt (k := 27) (by decide)) sh_27 rfl in_wsX50 16 (by decide) w_87 rfl rfl ?_
          refine J.iload_n hX 27 2 rfl rfl ?_
          obtain ⟨t5, et5, hb, h⟩ := ld_inv h
          refine J.ialdN hX 28 40 (hX.lt (k := 40) (by decide)) sh_40 hb et5 rfl ?_
          refine J.aload_n hX 29 0 rfl rfl ?_
          refine J.getR hX 30 27 5 (hX.lt (k := 27) (by decide)) sh_27 rfl in_wsX50 16 (by decide) w_87 rfl rfl ?_
          refine J.iload_n hX 31 1 rfl rfl ?_
          obtain ⟨t6, et6, hb, h⟩ := ld_inv h
          refine J.ialdN hX 32 40 (hX.lt (k := 40) (by decide)) sh_40 hb et6 rfl ?_
          refine J.icmp_ne (tgt := 75) hX 33 rfl (by decide) (fun b6 => ?_) (fun b6 => ?_)
          · rw [if_neg b6] at h
            refine J.sub (L' := [(0, .ref (ad 27)), (1, .int c1), (2, .int c2)]) [0, 1, 2] rfl ?_
            exact X5_nextCut_L4_j75_ok hX  h hin hex0
          · rw [if_pos b6] at h
            refine J.aload_n hX 34 0 rfl rfl ?_
            refine J.getR hX 35 27 5 (hX.lt (k := 27) (by decide)) sh_27 rfl in_wsX50 15 (by decide) w_86 rfl rfl ?_
            refine J.iload_n hX 36 2 rfl rfl ?_
            obtain ⟨t7, et7, hb, h⟩ := ld_inv h
            refine J.ialdN hX 37 39 (hX.lt (k := 39) (by decide)) sh_39 hb et7 rfl ?_
            refine J.aload_n hX 38 0 rfl rfl ?_
            refine J.getR hX 39 27 5 (hX.lt (k := 27) (by decide)) sh_27 rfl in_wsX50 15 (by decide) w_86 rfl rfl ?_
            refine J.iload_n hX 40 1 rfl rfl ?_
            obtain ⟨t8, et8, hb, h⟩ := ld_inv h
            refine J.ialdN hX 41 39 (hX.lt (k := 39) (by decide)) sh_39 hb et8 rfl ?_
            refine J.icmp_le (tgt := 75) hX 42 rfl (by decide) (fun b7 => ?_) (fun b7 => ?_)
            · rw [if_pos b7] at h
              refine J.sub (L' := [(0, .ref (ad 27)), (1, .int c1), (2, .int c2)]) [0, 1, 2] rfl ?_
              exact X5_nextCut_L4_j75_ok hX  h hin hex0
            · rw [if_neg b7] at h
              refine J.sub (L' := [(0, .ref (ad 27)), (1, .int c1), (2, .int c2)]) [0, 1, 2] rfl ?_
              exact X5_nextCut_L4_j71_ok hX  h hin hex0
set_option maxHeartbeats 4000000 in
set_option maxRecDepth 100000 in
theorem mX5_nextCut {l : Launch} {D : va_G} {cA : Nat → ClassId} {ad : Nat → Nat} {n : Nat} {A : Nat → Prop} {sa : Nat → Nat} {M : Mem} {r : Int32} (h : X5_nextCut M = some r) : CT l D cA ad n A sa yX5_nextCut cX5_nextCut 4 (some .int) 0 0 [.ref (ad 27)] M (.inl (some (.int r))) M := by
  refine CT.of (kt := kX5_nextCut) (by decide) kX5_nextCut_ok (Nat.le_of_ble_eq_true rfl) ?_
  intro p e s m args below meth c hX hr ht
  unfold X5_nextCut at h
  refine J.sub (L' := [(0, .ref (ad 27))]) [0] rfl ?_
  refine J.iconst (v := (-1)) hX 0 rfl (by decide) ?_
  refine J.istore_n (L' := [(1, .int (-1)), (0, .ref (ad 27))]) hX 1 rfl (by decide) rfl ?_
  refine J.iconst (v := 0) hX 2 rfl (by decide) ?_
  refine J.istore_n (L' := [(2, .int 0), (1, .int (-1)), (0, .ref (ad 27))]) hX 3 rfl (by decide) rfl ?_
  refine J.sub (L' := [(0, .ref (ad 27)), (1, .int (-1)), (2, .int 0)]) [2, 1, 0] rfl ?_
  obtain ⟨x1, hlp, h⟩ := bd1_inv h
  suffices hE : JM 0 0 p l e s m args below meth c D cA ad n A 4 (.inl (some (.int r))) M M 93 [(1, .int x1)] [] by
    exact loop_ok (fun q9 : Int32 × Int32 => JM 0 0 p l e s m args below meth c D cA ad n A 4 (.inl (some (.int r))) M M 4 [(0, .ref (ad 27)), (1, .int q9.1), (2, .int q9.2)] []) (fun q9 r hB hst hex9 => X5_nextCut_L4_ok hX  hB (fun _ _ hr => hst _ hr) (fun _ hr => by cases hex9 _ hr; exact hE)) 3000 _ hlp
  refine J.iload_n hX 55 0 rfl rfl ?_
  cases h
  exact J.iret hX hr 56 rfl
def X5_lay_L17  (q9 : Int32 × Mem) : Option ((Int32 × Mem) ⊕ (Mem)) := un2 q9 (fun c1 N4 => if (N4 27 14) ≤ c1 then (some (.inr N4)) else (chk (isB 0) (sto N4 42 1000 c1 0 (fun N5 => bnd (c1 + 1) (fun t1 => some (.inl (t1, N5)))))))
def X5_lay_L63 (N9 : Mem) (c2 : Int32) (t2 : Int32) (q9 : Int32) : Option ((Int32) ⊕ (Int32)) := un1 q9 (fun c3 => if (N9 27 23) ≤ c3 then (some (.inr c3)) else (ld N9 47 1000 c3 (fun t3 => ld N9 39 1000 t2 (fun t4 => if (t3 + t4) ≤ 1008 then (some (.inr c3)) else (bnd (c3 + 1) (fun t5 => some (.inl t5)))))))
def X5_lay_L40_j140 (N11 : Mem) (v4 : Int32) (v5 : Int32) (v6 : Int32) : Option ((Int32 × Mem) ⊕ (Mem)) := sto N11 44 1000 v4 v5 (fun N12 => sto N12 45 1000 v4 v6 (fun N13 => ld N13 47 1000 v6 (fun t6 => sto N13 46 1000 v4 t6 (fun N14 => ld N14 47 1000 v6 (fun t7 => ld N14 39 1000 v5 (fun t8 => sto N14 47 1000 v6 (t7 + t8) (fun N15 => bnd (v4 + 1) (fun t9 => some (.inl (t9, N15))))))))))
def X5_lay_L40_j98 (N10 : Mem) (v1 : Int32) (v2 : Int32) (v3 : Int32) : Option ((Int32 × Mem) ⊕ (Mem)) := if v3 = (N10 27 23) then (sto N10 47 1000 v3 0 (fun N16 => bnd (wr N16 27 23 ((N16 27 23) + 1)) (fun N17 => ld N17 40 1000 v2 (fun t10 => bnd (wr N17 27 24 ((N17 27 24) + t10)) (fun N18 => X5_lay_L40_j140 N18 v1 v2 v3))))) else (X5_lay_L40_j140 N10 v1 v2 v3)
def X5_lay_L40  (q9 : Int32 × Mem) : Option ((Int32 × Mem) ⊕ (Mem)) := un2 q9 (fun c2 N7 => if (N7 27 14) ≤ c2 then (some (.inr N7)) else (bd1 (X5_nextCut N7) (fun t2 => chk (isB 1) (sto N7 42 1000 t2 1 (fun N8 => bd1 (loop (X5_lay_L63 N8 c2 t2) 3000 0) (fun x1 => X5_lay_L40_j98 N8 c2 t2 x1))))))
def X5_lay (M : Mem) (l1 : Int32) : Option (Mem) := bd1 (X5_list M l1) (fun N1 => bnd (wr N1 27 23 0) (fun N2 => bnd (wr N2 27 24 0) (fun N3 => bd1 (loop (X5_lay_L17) 3000 (0, N3)) (fun N6 => bd1 (loop (X5_lay_L40) 3000 (0, N6)) (fun N19 => some N19)))))
set_option maxHeartbeats 4000000 in
set_option maxRecDepth 100000 in
theorem X5_lay_L17_ok (hX : Cx p s m args meth c D cA ad n A sa cX5_lay 5 RX5 kX5_lay) {N4 : Mem}  {c1 : Int32}  {r : (Int32 × Mem) ⊕ (Mem)} (h : X5_lay_L17  (c1, N4) = some r) (hin : ∀ (q0 : Int32) (Mq : Mem), r = .inl (q0, Mq) → JM 4 96 p l e s m args below meth c D cA ad n A 5 out M1 Mq 17 [(0, .ref (ad 27)), (2, .int q0)] []) (hex0 : ∀  (Mq : Mem), r = .inr Mq → JM 4 96 p l e s m args below meth c D cA ad n A 5 out M1 Mq 38 [(0, .ref (ad 27))] []) : JM 4 96 p l e s m args below meth c D cA ad n A 5 out M1 N4 17 [(0, .ref (ad 27)), (2, .int c1)] [] := by
  unfold X5_lay_L17 at h
  have h := un2_inv h
  refine J.iload_n hX 11 1 rfl rfl ?_
  refine J.aload_n hX 12 0 rfl rfl ?_
  refine J.getI hX 13 27 5 (hX.lt (k := 27) (by decide)) sh_27 rfl in_wsX50 14 (by decide) w_621 rfl rfl ?_
  refine J.icmp_ge (tgt := 38) hX 14 rfl (by decide) (fun b1 => ?_) (fun b1 => ?_)
  · rw [if_pos b1] at h
    refine J.sub (L' := [(0, .ref (ad 27))]) [0] rfl ?_
    exact hex0 _ (Option.some.inj h).symm
  · rw [if_neg b1] at h
    refine J.aload_n hX 15 0 rfl rfl ?_
    refine J.getR hX 16 27 5 (hX.lt (k := 27) (by decide)) sh_27 rfl in_wsX50 18 (by decide) w_90 rfl rfl ?_
    refine J.iload_n hX 17 1 rfl rfl ?_
    refine J.iconst (v := 0) hX 18 rfl (by decide) ?_
    obtain ⟨hz, h⟩ := chk_inv h
    obtain ⟨N5, eN5, hb, h⟩ := sto_inv h
    refine J.zastN hX 19 42 (hX.lt (k := 42) (by decide)) sh_42 hb eN5 (isB_vp hz) rfl ?_
    obtain ⟨t1, et1, h⟩ := bnd_inv h
    refine J.iinc (q := 1) (L' := [(2, .int t1), (0, .ref (ad 27))]) hX 20 rfl rfl et1 (by decide) rfl ?_
    refine J.goto (tgt := 17) hX 21 rfl (by decide) ?_
    refine J.sub (L' := [(0, .ref (ad 27)), (2, .int t1)]) [1, 0] rfl ?_
    exact hin _ _ (Option.some.inj h).symm
set_option maxHeartbeats 4000000 in
set_option maxRecDepth 100000 in
theorem X5_lay_L63_ok (hX : Cx p s m args meth c D cA ad n A sa cX5_lay 5 RX5 kX5_lay) {N9 : Mem} {c2 : Int32} {t2 : Int32} {c3 : Int32}  {r : (Int32) ⊕ (Int32)} (h : X5_lay_L63 N9 c2 t2 c3 = some r) (hin : ∀ (q0 : Int32), r = .inl q0 → JM 4 96 p l e s m args below meth c D cA ad n A 5 out M1 N9 63 [(0, .ref (ad 27)), (2, .int c2), (3, .int t2), (4, .int q0)] []) (hex0 : ∀ (q0 : Int32), r = .inr q0 → JM 4 96 p l e s m args below meth c D cA ad n A 5 out M1 N9 98 [(0, .ref (ad 27)), (2, .int c2), (3, .int t2), (4, .int q0)] []) : JM 4 96 p l e s m args below meth c D cA ad n A 5 out M1 N9 63 [(0, .ref (ad 27)), (2, .int c2), (3, .int t2), (4, .int c3)] [] := by
  unfold X5_lay_L63 at h
  have h := un1_inv h
  refine J.iload hX 38 3 rfl rfl ?_
  refine J.aload_n hX 39 0 rfl rfl ?_
  refine J.getI hX 40 27 5 (hX.lt (k := 27) (by decide)) sh_27 rfl in_wsX50 23 (by decide) w_622 rfl rfl ?_
  refine J.icmp_ge (tgt := 98) hX 41 rfl (by decide) (fun b3 => ?_) (fun b3 => ?_)
  · rw [if_pos b3] at h
    refine J.sub (L' := [(0, .ref (ad 27)), (2, .int c2), (3, .int t2), (4, .int c3)]) [0, 1, 2, 3] rfl ?_
    exact hex0 _ (Option.some.inj h).symm
  · rw [if_neg b3] at h
    refine J.aload_n hX 42 0 rfl rfl ?_
    refine J.getR hX 43 27 5 (hX.lt (k := 27) (by decide)) sh_27 rfl in_wsX50 25 (by decide) w_95 rfl rfl ?_
    refine J.iload hX 44 3 rfl rfl ?_
    obtain ⟨t3, et3, hb, h⟩ := ld_inv h
    refine J.ialdN hX 45 47 (hX.lt (k := 47) (by decide)) sh_47 hb et3 rfl ?_
    refine J.aload_n hX 46 0 rfl rfl ?_
    refine J.getR hX 47 27 5 (hX.lt (k := 27) (by decide)) sh_27 rfl in_wsX50 15 (by decide) w_86 rfl rfl ?_
    refine J.iload_n hX 48 2 rfl rfl ?_
    obtain ⟨t4, et4, hb, h⟩ := ld_inv h
    refine J.ialdN hX 49 39 (hX.lt (k := 39) (by decide)) sh_39 hb et4 rfl ?_
    refine J.iadd hX 50 rfl ?_
    refine J.sipush (v := 1008) hX 51 rfl (by decide) ?_
    refine J.icmp_le (tgt := 98) hX 52 rfl (by decide) (fun b4 => ?_) (fun b4 => ?_)
    · rw [if_pos b4] at h
      refine J.sub (L' := [(0, .ref (ad 27)), (2, .int c2), (3, .int t2), (4, .int c3)]) [0, 1, 2, 3] rfl ?_
      exact hex0 _ (Option.some.inj h).symm
    · rw [if_neg b4] at h
      obtain ⟨t5, et5, h⟩ := bnd_inv h
      refine J.iinc (q := 3) (L' := [(4, .int t5), (0, .ref (ad 27)), (2, .int c2), (3, .int t2)]) hX 53 rfl rfl et5 (by decide) rfl ?_
      refine J.goto (tgt := 63) hX 54 rfl (by decide) ?_
      refine J.sub (L' := [(0, .ref (ad 27)), (2, .int c2), (3, .int t2), (4, .int t5)]) [1, 2, 3, 0] rfl ?_
      exact hin _ (Option.some.inj h).symm
set_option maxHeartbeats 4000000 in
set_option maxRecDepth 100000 in
theorem X5_lay_L40_j140_ok (hX : Cx p s m args meth c D cA ad n A sa cX5_lay 5 RX5 kX5_lay) {N11 : Mem} {v4 : Int32} {v5 : Int32} {v6 : Int32}  {r : (Int32 × Mem) ⊕ (Mem)} (h : X5_lay_L40_j140 N11 v4 v5 v6 = some r) (hin : ∀ (q0 : Int32) (Mq : Mem), r = .inl (q0, Mq) → JM 4 96 p l e s m args below meth c D cA ad n A 5 out M1 Mq 40 [(0, .ref (ad 27)), (2, .int q0)] []) (hex0 : ∀  (Mq : Mem), r = .inr Mq → JM 4 96 p l e s m args below meth c D cA ad n A 5 out M1 Mq 195 [] []) : JM 4 96 p l e s m args below meth c D cA ad n A 5 out M1 N11 140 [(0, .ref (ad 27)), (2, .int v4), (3, .int v5), (4, .int v6)] [] := by
  unfold X5_lay_L40_j140 at h
  refine J.aload_n hX 79 0 rfl rfl ?_
  refine J.getR hX 80 27 5 (hX.lt (k := 27) (by decide)) sh_27 rfl in_wsX50 20 (by decide) w_92 rfl rfl ?_
  refine J.iload_n hX 81 1 rfl rfl ?_
  refine J.iload_n hX 82 2 rfl rfl ?_
  obtain ⟨N12, eN12, hb, h⟩ := sto_inv h
  refine J.iastN hX 83 44 (hX.lt (k := 44) (by decide)) sh_44 hb eN12 rfl ?_
  refine J.aload_n hX 84 0 rfl rfl ?_
  refine J.getR hX 85 27 5 (hX.lt (k := 27) (by decide)) sh_27 rfl in_wsX50 21 (by decide) w_93 rfl rfl ?_
  refine J.iload_n hX 86 1 rfl rfl ?_
  refine J.iload hX 87 3 rfl rfl ?_
  obtain ⟨N13, eN13, hb, h⟩ := sto_inv h
  refine J.iastN hX 88 45 (hX.lt (k := 45) (by decide)) sh_45 hb eN13 rfl ?_
  refine J.aload_n hX 89 0 rfl rfl ?_
  refine J.getR hX 90 27 5 (hX.lt (k := 27) (by decide)) sh_27 rfl in_wsX50 22 (by decide) w_94 rfl rfl ?_
  refine J.iload_n hX 91 1 rfl rfl ?_
  refine J.aload_n hX 92 0 rfl rfl ?_
  refine J.getR hX 93 27 5 (hX.lt (k := 27) (by decide)) sh_27 rfl in_wsX50 25 (by decide) w_95 rfl rfl ?_
  refine J.iload hX 94 3 rfl rfl ?_
  obtain ⟨t6, et6, hb, h⟩ := ld_inv h
  refine J.ialdN hX 95 47 (hX.lt (k := 47) (by decide)) sh_47 hb et6 rfl ?_
  obtain ⟨N14, eN14, hb, h⟩ := sto_inv h
  refine J.iastN hX 96 46 (hX.lt (k := 46) (by decide)) sh_46 hb eN14 rfl ?_
  refine J.aload_n hX 97 0 rfl rfl ?_
  refine J.getR hX 98 27 5 (hX.lt (k := 27) (by decide)) sh_27 rfl in_wsX50 25 (by decide) w_95 rfl rfl ?_
  refine J.iload hX 99 3 rfl rfl ?_
  refine J.aload_n hX 100 0 rfl rfl ?_
  refine J.getR hX 101 27 5 (hX.lt (k := 27) (by decide)) sh_27 rfl in_wsX50 25 (by decide) w_95 rfl rfl ?_
  refine J.iload hX 102 3 rfl rfl ?_
  obtain ⟨t7, et7, hb, h⟩ := ld_inv h
  refine J.ialdN hX 103 47 (hX.lt (k := 47) (by decide)) sh_47 hb et7 rfl ?_
  refine J.aload_n hX 104 0 rfl rfl ?_
  refine J.getR hX 105 27 5 (hX.lt (k := 27) (by decide)) sh_27 rfl in_wsX50 15 (by decide) w_86 rfl rfl ?_
  refine J.iload_n hX 106 2 rfl rfl ?_
  obtain ⟨t8, et8, hb, h⟩ := ld_inv h
  refine J.ialdN hX 107 39 (hX.lt (k := 39) (by decide)) sh_39 hb et8 rfl ?_
  refine J.iadd hX 108 rfl ?_
  obtain ⟨N15, eN15, hb, h⟩ := sto_inv h
  refine J.iastN hX 109 47 (hX.lt (k := 47) (by decide)) sh_47 hb eN15 rfl ?_
  obtain ⟨t9, et9, h⟩ := bnd_inv h
  refine J.iinc (q := 1) (L' := [(2, .int t9), (0, .ref (ad 27)), (3, .int v5), (4, .int v6)]) hX 110 rfl rfl et9 (by decide) rfl ?_
  refine J.goto (tgt := 40) hX 111 rfl (by decide) ?_
  refine J.sub (L' := [(0, .ref (ad 27)), (2, .int t9)]) [1, 0] rfl ?_
  exact hin _ _ (Option.some.inj h).symm
set_option maxHeartbeats 4000000 in
set_option maxRecDepth 100000 in
theorem X5_lay_L40_j98_ok (hX : Cx p s m args meth c D cA ad n A sa cX5_lay 5 RX5 kX5_lay) {N10 : Mem} {v1 : Int32} {v2 : Int32} {v3 : Int32}  {r : (Int32 × Mem) ⊕ (Mem)} (h : X5_lay_L40_j98 N10 v1 v2 v3 = some r) (hin : ∀ (q0 : Int32) (Mq : Mem), r = .inl (q0, Mq) → JM 4 96 p l e s m args below meth c D cA ad n A 5 out M1 Mq 40 [(0, .ref (ad 27)), (2, .int q0)] []) (hex0 : ∀  (Mq : Mem), r = .inr Mq → JM 4 96 p l e s m args below meth c D cA ad n A 5 out M1 Mq 195 [] []) : JM 4 96 p l e s m args below meth c D cA ad n A 5 out M1 N10 98 [(0, .ref (ad 27)), (2, .int v1), (3, .int v2), (4, .int v3)] [] := by
  unfold X5_lay_L40_j98 at h
  refine J.iload hX 55 3 rfl rfl ?_
  refine J.aload_n hX 56 0 rfl rfl ?_
  refine J.getI hX 57 27 5 (hX.lt (k := 27) (by decide)) sh_27 rfl in_wsX50 23 (by decide) w_622 rfl rfl ?_
  refine J.icmp_ne (tgt := 140) hX 58 rfl (by decide) (fun b5 => ?_) (fun b5 => ?_)
  · rw [if_neg b5] at h
    refine J.sub (L' := [(0, .ref (ad 27)), (2, .int v1), (3, .int v2), (4, .int v3)]) [0, 1, 2, 3] rfl ?_
    exact X5_lay_L40_j140_ok hX  h hin hex0
  · rw [if_pos b5] at h
    refine J.aload_n hX 59 0 rfl rfl ?_
    refine J.getR hX 60 27 5 (hX.lt (k := 27) (by decide)) sh_27 rfl in_wsX50 25 (by decide) w_95 rfl rfl ?_
    refine J.iload hX 61 3 rfl rfl ?_
    refine J.iconst (v := 0) hX 62 rfl (by decide) ?_
    obtain ⟨N16, eN16, hb, h⟩ := sto_inv h
    refine J.iastN hX 63 47 (hX.lt (k := 47) (by decide)) sh_47 hb eN16 rfl ?_
    refine J.aload_n hX 64 0 rfl rfl ?_
    refine J.dup hX 65 rfl rfl ?_
    refine J.getI hX 66 27 5 (hX.lt (k := 27) (by decide)) sh_27 rfl in_wsX50 23 (by decide) w_622 rfl rfl ?_
    refine J.iconst (v := 1) hX 67 rfl (by decide) ?_
    refine J.iadd hX 68 rfl ?_
    obtain ⟨N17, eN17, h⟩ := bnd_inv h
    refine J.putIN hX 69 27 5 (hX.lt (k := 27) (by decide)) sh_27 rfl in_wsX50 23 (by decide) w_622 tyX5 tyX5_ok nmX5 eN17 rfl rfl (by decide +kernel) rfl ?_
    refine J.aload_n hX 70 0 rfl rfl ?_
    refine J.aload_n hX 71 0 rfl rfl ?_
    refine J.getI hX 72 27 5 (hX.lt (k := 27) (by decide)) sh_27 rfl in_wsX50 24 (by decide) w_623 rfl rfl ?_
    refine J.aload_n hX 73 0 rfl rfl ?_
    refine J.getR hX 74 27 5 (hX.lt (k := 27) (by decide)) sh_27 rfl in_wsX50 16 (by decide) w_87 rfl rfl ?_
    refine J.iload_n hX 75 2 rfl rfl ?_
    obtain ⟨t10, et10, hb, h⟩ := ld_inv h
    refine J.ialdN hX 76 40 (hX.lt (k := 40) (by decide)) sh_40 hb et10 rfl ?_
    refine J.iadd hX 77 rfl ?_
    obtain ⟨N18, eN18, h⟩ := bnd_inv h
    refine J.putIN hX 78 27 5 (hX.lt (k := 27) (by decide)) sh_27 rfl in_wsX50 24 (by decide) w_623 tyX5 tyX5_ok nmX5 eN18 rfl rfl (by decide +kernel) rfl ?_
    refine J.sub (L' := [(0, .ref (ad 27)), (2, .int v1), (3, .int v2), (4, .int v3)]) [0, 1, 2, 3] rfl ?_
    exact X5_lay_L40_j140_ok hX  h hin hex0
set_option maxHeartbeats 4000000 in
set_option maxRecDepth 100000 in
theorem X5_lay_L40_ok (hX : Cx p s m args meth c D cA ad n A sa cX5_lay 5 RX5 kX5_lay) {N7 : Mem}  {c2 : Int32}  {r : (Int32 × Mem) ⊕ (Mem)} (h : X5_lay_L40  (c2, N7) = some r) (hin : ∀ (q0 : Int32) (Mq : Mem), r = .inl (q0, Mq) → JM 4 96 p l e s m args below meth c D cA ad n A 5 out M1 Mq 40 [(0, .ref (ad 27)), (2, .int q0)] []) (hex0 : ∀  (Mq : Mem), r = .inr Mq → JM 4 96 p l e s m args below meth c D cA ad n A 5 out M1 Mq 195 [] []) : JM 4 96 p l e s m args below meth c D cA ad n A 5 out M1 N7 40 [(0, .ref (ad 27)), (2, .int c2)] [] := by
  unfold X5_lay_L40 at h
  have h := un2_inv h
  refine J.iload_n hX 24 1 rfl rfl ?_
  refine J.aload_n hX 25 0 rfl rfl ?_
  refine J.getI hX 26 27 5 (hX.lt (k := 27) (by decide)) sh_27 rfl in_wsX50 14 (by decide) w_621 rfl rfl ?_
  refine J.icmp_ge (tgt := 195) hX 27 rfl (by decide) (fun b2 => ?_) (fun b2 => ?_)
  · rw [if_pos b2] at h
    refine J.sub (L' := []) [] rfl ?_
    exact hex0 _ (Option.some.inj h).symm
  · rw [if_neg b2] at h
    refine J.aload_n hX 28 0 rfl rfl ?_
    obtain ⟨t2, hc, h⟩ := bd1_inv h
    refine J.callV1 (As := []) (rest := []) (k := 27) hX 29 rfl (mX5_nextCut  hc) okX5_nextCut w_663 (hX.lt (k := 27) (by decide)) sh_27 rfl rfl rfl (Nat.le_of_ble_eq_true rfl) ⟨Nat.le_of_ble_eq_true rfl, Nat.le_of_ble_eq_true rfl⟩ ⟨Nat.zero_le _, Nat.zero_le _⟩ ?_
    refine J.istore_n (L' := [(3, .int t2), (0, .ref (ad 27)), (2, .int c2)]) hX 30 rfl (by decide) rfl ?_
    refine J.aload_n hX 31 1 rfl rfl ?_
    refine J.getR hX 32 27 5 (hX.lt (k := 27) (by decide)) sh_27 rfl in_wsX50 18 (by decide) w_90 rfl rfl ?_
    refine J.iload_n hX 33 0 rfl rfl ?_
    refine J.iconst (v := 1) hX 34 rfl (by decide) ?_
    obtain ⟨hz, h⟩ := chk_inv h
    obtain ⟨N8, eN8, hb, h⟩ := sto_inv h
    refine J.zastN hX 35 42 (hX.lt (k := 42) (by decide)) sh_42 hb eN8 (isB_vp hz) rfl ?_
    refine J.iconst (v := 0) hX 36 rfl (by decide) ?_
    refine J.istore (L' := [(4, .int 0), (3, .int t2), (0, .ref (ad 27)), (2, .int c2)]) hX 37 rfl (by decide) rfl ?_
    refine J.sub (L' := [(0, .ref (ad 27)), (2, .int c2), (3, .int t2), (4, .int 0)]) [2, 3, 1, 0] rfl ?_
    obtain ⟨x1, hlp, h⟩ := bd1_inv h
    suffices hE : JM 4 96 p l e s m args below meth c D cA ad n A 5 out M1 N8 98 [(0, .ref (ad 27)), (2, .int c2), (3, .int t2), (4, .int x1)] [] by
      exact loop_ok (fun q9 : Int32 => JM 4 96 p l e s m args below meth c D cA ad n A 5 out M1 N8 63 [(0, .ref (ad 27)), (2, .int c2), (3, .int t2), (4, .int q9)] []) (fun q9 r hB hst hex9 => X5_lay_L63_ok hX  hB (fun _ hr => hst _ hr) (fun _ hr => by cases hex9 _ hr; exact hE)) 3000 _ hlp
    refine J.sub (L' := [(0, .ref (ad 27)), (2, .int c2), (3, .int t2), (4, .int x1)]) [0, 1, 2, 3] rfl ?_
    exact X5_lay_L40_j98_ok hX  h hin hex0
set_option maxHeartbeats 4000000 in
set_option maxRecDepth 100000 in
theorem mX5_lay {l : Launch} {D : va_G} {cA : Nat → ClassId} {ad : Nat → Nat} {n : Nat} {A : Nat → Prop} {sa : Nat → Nat} {M : Mem} {l1 : Int32} {Mf : Mem} (h : X5_lay M l1 = some Mf) : CT l D cA ad n A sa yX5_lay cX5_lay 5 none 4 96 [.ref (ad 27), .int l1] M (.inl none) Mf := by
  refine CT.of (kt := kX5_lay) (by decide) kX5_lay_ok (Nat.le_of_ble_eq_true rfl) ?_
  intro p e s m args below meth c hX hr ht
  unfold X5_lay at h
  refine J.sub (L' := [(0, .ref (ad 27)), (1, .int l1)]) [0, 1] rfl ?_
  refine J.aload_n hX 0 0 rfl rfl ?_
  refine J.iload_n hX 1 1 rfl rfl ?_
  obtain ⟨N1, hc, h⟩ := bd1_inv h
  refine J.callV0 (As := [.int l1]) (rest := []) (k := 27) hX 2 rfl (mX5_list  hc) okX5_list w_628 (hX.lt (k := 27) (by decide)) sh_27 rfl rfl rfl (Nat.le_of_ble_eq_true rfl) ⟨Nat.le_of_ble_eq_true rfl, Nat.le_of_ble_eq_true rfl⟩ ⟨Nat.zero_le _, Nat.zero_le _⟩ ?_
  refine J.aload_n hX 3 0 rfl rfl ?_
  refine J.iconst (v := 0) hX 4 rfl (by decide) ?_
  obtain ⟨N2, eN2, h⟩ := bnd_inv h
  refine J.putIN hX 5 27 5 (hX.lt (k := 27) (by decide)) sh_27 rfl in_wsX50 23 (by decide) w_622 tyX5 tyX5_ok nmX5 eN2 rfl rfl (by decide +kernel) rfl ?_
  refine J.aload_n hX 6 0 rfl rfl ?_
  refine J.iconst (v := 0) hX 7 rfl (by decide) ?_
  obtain ⟨N3, eN3, h⟩ := bnd_inv h
  refine J.putIN hX 8 27 5 (hX.lt (k := 27) (by decide)) sh_27 rfl in_wsX50 24 (by decide) w_623 tyX5 tyX5_ok nmX5 eN3 rfl rfl (by decide +kernel) rfl ?_
  refine J.iconst (v := 0) hX 9 rfl (by decide) ?_
  refine J.istore_n (L' := [(2, .int 0), (0, .ref (ad 27)), (1, .int l1)]) hX 10 rfl (by decide) rfl ?_
  refine J.sub (L' := [(0, .ref (ad 27)), (2, .int 0)]) [1, 0] rfl ?_
  obtain ⟨N6, hlp, h⟩ := bd1_inv h
  suffices hE : JM 4 96 p l e s m args below meth c D cA ad n A 5 (.inl none) Mf N6 38 [(0, .ref (ad 27))] [] by
    exact loop_ok (fun q9 : Int32 × Mem => JM 4 96 p l e s m args below meth c D cA ad n A 5 (.inl none) Mf q9.2 17 [(0, .ref (ad 27)), (2, .int q9.1)] []) (fun q9 r hB hst hex9 => X5_lay_L17_ok hX  hB (fun _ _ hr => hst _ hr) (fun _ hr => by cases hex9 _ hr; exact hE)) 3000 _ hlp
  refine J.iconst (v := 0) hX 22 rfl (by decide) ?_
  refine J.istore_n (L' := [(2, .int 0), (0, .ref (ad 27))]) hX 23 rfl (by decide) rfl ?_
  refine J.sub (L' := [(0, .ref (ad 27)), (2, .int 0)]) [1, 0] rfl ?_
  obtain ⟨N19, hlp, h⟩ := bd1_inv h
  suffices hE : JM 4 96 p l e s m args below meth c D cA ad n A 5 (.inl none) Mf N19 195 [] [] by
    exact loop_ok (fun q9 : Int32 × Mem => JM 4 96 p l e s m args below meth c D cA ad n A 5 (.inl none) Mf q9.2 40 [(0, .ref (ad 27)), (2, .int q9.1)] []) (fun q9 r hB hst hex9 => X5_lay_L40_ok hX  hB (fun _ _ hr => hst _ hr) (fun _ hr => by cases hex9 _ hr; exact hE)) 3000 _ hlp
  cases h
  exact J.vret hX hr 112 rfl
def X5_need_j51 (N3 : Mem) (v1 : Int32) : Option (Int32 × Mem) := some (v1, N3)
def X5_need (M : Mem) (l1 : Int32) (l2 : Int32) : Option (Int32 × Mem) := bd1 (X5_isCloth M l1) (fun t1 => bd1 (X5_within M l2 0 2) (fun t2 => bd2 (X5_goes M t1 t2) (fun t3 N1 => if t3 = 0 then (some (0, N1)) else (bd1 (X5_lay N1 l1) (fun N2 => if l2 = 0 then (X5_need_j51 N2 (N2 27 14)) else (if l2 = 1 then (X5_need_j51 N2 (N2 27 23)) else (X5_need_j51 N2 (N2 27 24))))))))
set_option maxHeartbeats 4000000 in
set_option maxRecDepth 100000 in
theorem X5_need_j51_ok (hX : Cx p s m args meth c D cA ad n A sa cX5_need 3 RX5 kX5_need) {N3 : Mem} {v1 : Int32} {r : Int32} {Mf : Mem}  (hr : meth.sig.returnType = (some .int)) (ht : ∀ x ∈ c.exceptionTable.toList, False) (h : X5_need_j51 N3 v1 = some (r, Mf)) : JM 5 120 p l e s m args below meth c D cA ad n A 3 (.inl (some (.int r))) Mf N3 51 [] [.int v1] := by
  unfold X5_need_j51 at h
  cases h
  exact J.iret hX hr 27 rfl
set_option maxHeartbeats 4000000 in
set_option maxRecDepth 100000 in
theorem mX5_need {l : Launch} {D : va_G} {cA : Nat → ClassId} {ad : Nat → Nat} {n : Nat} {A : Nat → Prop} {sa : Nat → Nat} {M : Mem} {l1 : Int32} {l2 : Int32} {r : Int32} {Mf : Mem} (h : X5_need M l1 l2 = some (r, Mf)) : CT l D cA ad n A sa yX5_need cX5_need 3 (some .int) 5 120 [.ref (ad 27), .int l1, .int l2] M (.inl (some (.int r))) Mf := by
  refine CT.of (kt := kX5_need) (by decide) kX5_need_ok (Nat.le_of_ble_eq_true rfl) ?_
  intro p e s m args below meth c hX hr ht
  unfold X5_need at h
  refine J.sub (L' := [(0, .ref (ad 27)), (1, .int l1), (2, .int l2)]) [0, 1, 2] rfl ?_
  refine J.aload_n hX 0 0 rfl rfl ?_
  refine J.iload_n hX 1 1 rfl rfl ?_
  obtain ⟨t1, hc, h⟩ := bd1_inv h
  refine J.callS1 (As := [.int l1]) (rest := [.ref (ad 27)]) hX 2 rfl (mX5_isCloth  hc) okX5_isCloth w_177 rfl rfl (Nat.le_of_ble_eq_true rfl) ⟨Nat.le_of_ble_eq_true rfl, Nat.le_of_ble_eq_true rfl⟩ ⟨Nat.zero_le _, Nat.zero_le _⟩ ?_
  refine J.iload_n hX 3 2 rfl rfl ?_
  refine J.iconst (v := 0) hX 4 rfl (by decide) ?_
  refine J.iconst (v := 2) hX 5 rfl (by decide) ?_
  obtain ⟨t2, hc, h⟩ := bd1_inv h
  refine J.callS1 (As := [.int l2, .int 0, .int 2]) (rest := [.int t1, .ref (ad 27)]) hX 6 rfl (mX5_within  hc) okX5_within w_134 rfl rfl (Nat.le_of_ble_eq_true rfl) ⟨Nat.le_of_ble_eq_true rfl, Nat.le_of_ble_eq_true rfl⟩ ⟨Nat.zero_le _, Nat.zero_le _⟩ ?_
  obtain ⟨t3, N1, hc, h⟩ := bd2_inv h
  refine J.callV1 (As := [.int t1, .int t2]) (rest := []) (k := 27) hX 7 rfl (mX5_goes  hc) okX5_goes w_137 (hX.lt (k := 27) (by decide)) sh_27 rfl rfl rfl (Nat.le_of_ble_eq_true rfl) ⟨Nat.le_of_ble_eq_true rfl, Nat.le_of_ble_eq_true rfl⟩ ⟨Nat.zero_le _, Nat.zero_le _⟩ ?_
  refine J.if_ne (tgt := 19) hX 8 rfl (by decide) (fun b1 => ?_) (fun b1 => ?_)
  · rw [if_neg b1] at h
    refine J.aload_n hX 11 0 rfl rfl ?_
    refine J.iload_n hX 12 1 rfl rfl ?_
    obtain ⟨N2, hc, h⟩ := bd1_inv h
    refine J.callV0 (As := [.int l1]) (rest := []) (k := 27) hX 13 rfl (mX5_lay  hc) okX5_lay w_624 (hX.lt (k := 27) (by decide)) sh_27 rfl rfl rfl (Nat.le_of_ble_eq_true rfl) ⟨Nat.le_of_ble_eq_true rfl, Nat.le_of_ble_eq_true rfl⟩ ⟨Nat.zero_le _, Nat.zero_le _⟩ ?_
    refine J.iload_n hX 14 2 rfl rfl ?_
    refine J.if_ne (tgt := 35) hX 15 rfl (by decide) (fun b2 => ?_) (fun b2 => ?_)
    · rw [if_neg b2] at h
      refine J.iload_n hX 19 2 rfl rfl ?_
      refine J.iconst (v := 1) hX 20 rfl (by decide) ?_
      refine J.icmp_ne (tgt := 47) hX 21 rfl (by decide) (fun b3 => ?_) (fun b3 => ?_)
      · rw [if_neg b3] at h
        refine J.aload_n hX 25 0 rfl rfl ?_
        refine J.getI hX 26 27 5 (hX.lt (k := 27) (by decide)) sh_27 rfl in_wsX50 24 (by decide) w_623 rfl rfl ?_
        refine J.sub (L' := []) [] rfl ?_
        exact X5_need_j51_ok hX  hr ht h
      · rw [if_pos b3] at h
        refine J.aload_n hX 22 0 rfl rfl ?_
        refine J.getI hX 23 27 5 (hX.lt (k := 27) (by decide)) sh_27 rfl in_wsX50 23 (by decide) w_622 rfl rfl ?_
        refine J.goto (tgt := 51) hX 24 rfl (by decide) ?_
        refine J.sub (L' := []) [] rfl ?_
        exact X5_need_j51_ok hX  hr ht h
    · rw [if_pos b2] at h
      refine J.aload_n hX 16 0 rfl rfl ?_
      refine J.getI hX 17 27 5 (hX.lt (k := 27) (by decide)) sh_27 rfl in_wsX50 14 (by decide) w_621 rfl rfl ?_
      refine J.goto (tgt := 51) hX 18 rfl (by decide) ?_
      refine J.sub (L' := []) [] rfl ?_
      exact X5_need_j51_ok hX  hr ht h
  · rw [if_pos b1] at h
    refine J.iconst (v := 0) hX 9 rfl (by decide) ?_
    cases h
    exact J.iret hX hr 10 rfl
def X5_cut_j47 (N5 : Mem) (l2 : Int32) (l3 : Int32) (v3 : Int32) : Option (Int32 × Mem) := bd1 (X5_within N5 l3 0 4) (fun t2 => bd2 (X5_goes N5 v3 t2) (fun t3 N6 => if t3 = 0 then (some (0, N6)) else (if l3 = 0 then (ld N6 45 1000 l2 (fun t4 => some (t4, N6))) else (if l3 = 1 then (ld N6 46 1000 l2 (fun t5 => some (t5, N6))) else (if l3 = 2 then (ld N6 44 1000 l2 (fun t6 => ld N6 39 1000 t6 (fun t7 => some (t7, N6)))) else (if l3 = 3 then (ld N6 44 1000 l2 (fun t8 => ld N6 40 1000 t8 (fun t9 => some (t9, N6)))) else (ld N6 44 1000 l2 (fun t10 => ld N6 41 1000 t10 (fun t11 => some (t11, N6))))))))))
def X5_cut_j46 (N4 : Mem) (l2 : Int32) (l3 : Int32) : Option (Int32 × Mem) := X5_cut_j47 N4 l2 l3 0
def X5_cut_j28 (N3 : Mem) (l2 : Int32) (l3 : Int32) (v2 : Int32) : Option (Int32 × Mem) := if v2 = 0 then (X5_cut_j46 N3 l2 l3) else (if (N3 27 14) ≤ l2 then (X5_cut_j46 N3 l2 l3) else (X5_cut_j47 N3 l2 l3 1))
def X5_cut_j16 (N2 : Mem) (l1 : Int32) (l2 : Int32) (l3 : Int32) (v1 : Int32) : Option (Int32 × Mem) := if v1 = 0 then (X5_cut_j28 N2 l2 l3 v1) else (bd1 (X5_lay N2 l1) (fun N7 => X5_cut_j28 N7 l2 l3 v1))
def X5_cut_j15 (N1 : Mem) (l1 : Int32) (l2 : Int32) (l3 : Int32) : Option (Int32 × Mem) := X5_cut_j16 N1 l1 l2 l3 0
def X5_cut (M : Mem) (l1 : Int32) (l2 : Int32) (l3 : Int32) : Option (Int32 × Mem) := bd1 (X5_isCloth M l1) (fun t1 => if t1 = 0 then (X5_cut_j15 M l1 l2 l3) else (if l2 < 0 then (X5_cut_j15 M l1 l2 l3) else (X5_cut_j16 M l1 l2 l3 1)))
set_option maxHeartbeats 4000000 in
set_option maxRecDepth 100000 in
theorem X5_cut_j47_ok (hX : Cx p s m args meth c D cA ad n A sa cX5_cut 5 RX5 kX5_cut) {N5 : Mem} {l2 : Int32} {l3 : Int32} {v3 : Int32} {r : Int32} {Mf : Mem}  (hr : meth.sig.returnType = (some .int)) (ht : ∀ x ∈ c.exceptionTable.toList, False) (h : X5_cut_j47 N5 l2 l3 v3 = some (r, Mf)) : JM 5 120 p l e s m args below meth c D cA ad n A 5 (.inl (some (.int r))) Mf N5 47 [(0, .ref (ad 27)), (2, .int l2), (3, .int l3)] [.int v3, .ref (ad 27)] := by
  unfold X5_cut_j47 at h
  refine J.iload_n hX 24 2 rfl rfl ?_
  refine J.iconst (v := 0) hX 25 rfl (by decide) ?_
  refine J.iconst (v := 4) hX 26 rfl (by decide) ?_
  obtain ⟨t2, hc, h⟩ := bd1_inv h
  refine J.callS1 (As := [.int l3, .int 0, .int 4]) (rest := [.int v3, .ref (ad 27)]) hX 27 rfl (mX5_within  hc) okX5_within w_134 rfl rfl (Nat.le_of_ble_eq_true rfl) ⟨Nat.le_of_ble_eq_true rfl, Nat.le_of_ble_eq_true rfl⟩ ⟨Nat.zero_le _, Nat.zero_le _⟩ ?_
  obtain ⟨t3, N6, hc, h⟩ := bd2_inv h
  refine J.callV1 (As := [.int v3, .int t2]) (rest := []) (k := 27) hX 28 rfl (mX5_goes  hc) okX5_goes w_137 (hX.lt (k := 27) (by decide)) sh_27 rfl rfl rfl (Nat.le_of_ble_eq_true rfl) ⟨Nat.le_of_ble_eq_true rfl, Nat.le_of_ble_eq_true rfl⟩ ⟨Nat.zero_le _, Nat.zero_le _⟩ ?_
  refine J.if_ne (tgt := 61) hX 29 rfl (by decide) (fun b4 => ?_) (fun b4 => ?_)
  · rw [if_neg b4] at h
    refine J.iload_n hX 32 2 rfl rfl ?_
    by_cases b5 : l3 = 0
    · rw [if_pos b5] at h
      refine J.tabIn hX 33 (30) 92 rfl (by rw [b5]; decide) (by rw [b5]; decide) (by rw [b5]; decide) (by decide) ?_
      refine J.aload_n hX 34 0 rfl rfl ?_
      refine J.getR hX 35 27 5 (hX.lt (k := 27) (by decide)) sh_27 rfl in_wsX50 21 (by decide) w_93 rfl rfl ?_
      refine J.iload_n hX 36 1 rfl rfl ?_
      obtain ⟨t4, et4, hb, h⟩ := ld_inv h
      refine J.ialdN hX 37 45 (hX.lt (k := 45) (by decide)) sh_45 hb et4 rfl ?_
      cases h
      exact J.iret hX hr 38 rfl
    · rw [if_neg b5] at h
      by_cases b6 : l3 = 1
      · rw [if_pos b6] at h
        refine J.tabIn hX 33 (37) 99 rfl (by rw [b6]; decide) (by rw [b6]; decide) (by rw [b6]; decide) (by decide) ?_
        refine J.aload_n hX 39 0 rfl rfl ?_
        refine J.getR hX 40 27 5 (hX.lt (k := 27) (by decide)) sh_27 rfl in_wsX50 22 (by decide) w_94 rfl rfl ?_
        refine J.iload_n hX 41 1 rfl rfl ?_
        obtain ⟨t5, et5, hb, h⟩ := ld_inv h
        refine J.ialdN hX 42 46 (hX.lt (k := 46) (by decide)) sh_46 hb et5 rfl ?_
        cases h
        exact J.iret hX hr 43 rfl
      · rw [if_neg b6] at h
        by_cases b7 : l3 = 2
        · rw [if_pos b7] at h
          refine J.tabIn hX 33 (44) 106 rfl (by rw [b7]; decide) (by rw [b7]; decide) (by rw [b7]; decide) (by decide) ?_
          refine J.aload_n hX 44 0 rfl rfl ?_
          refine J.getR hX 45 27 5 (hX.lt (k := 27) (by decide)) sh_27 rfl in_wsX50 15 (by decide) w_86 rfl rfl ?_
          refine J.aload_n hX 46 0 rfl rfl ?_
          refine J.getR hX 47 27 5 (hX.lt (k := 27) (by decide)) sh_27 rfl in_wsX50 20 (by decide) w_92 rfl rfl ?_
          refine J.iload_n hX 48 1 rfl rfl ?_
          obtain ⟨t6, et6, hb, h⟩ := ld_inv h
          refine J.ialdN hX 49 44 (hX.lt (k := 44) (by decide)) sh_44 hb et6 rfl ?_
          obtain ⟨t7, et7, hb, h⟩ := ld_inv h
          refine J.ialdN hX 50 39 (hX.lt (k := 39) (by decide)) sh_39 hb et7 rfl ?_
          cases h
          exact J.iret hX hr 51 rfl
        · rw [if_neg b7] at h
          by_cases b8 : l3 = 3
          · rw [if_pos b8] at h
            refine J.tabIn hX 33 (56) 118 rfl (by rw [b8]; decide) (by rw [b8]; decide) (by rw [b8]; decide) (by decide) ?_
            refine J.aload_n hX 52 0 rfl rfl ?_
            refine J.getR hX 53 27 5 (hX.lt (k := 27) (by decide)) sh_27 rfl in_wsX50 16 (by decide) w_87 rfl rfl ?_
            refine J.aload_n hX 54 0 rfl rfl ?_
            refine J.getR hX 55 27 5 (hX.lt (k := 27) (by decide)) sh_27 rfl in_wsX50 20 (by decide) w_92 rfl rfl ?_
            refine J.iload_n hX 56 1 rfl rfl ?_
            obtain ⟨t8, et8, hb, h⟩ := ld_inv h
            refine J.ialdN hX 57 44 (hX.lt (k := 44) (by decide)) sh_44 hb et8 rfl ?_
            obtain ⟨t9, et9, hb, h⟩ := ld_inv h
            refine J.ialdN hX 58 40 (hX.lt (k := 40) (by decide)) sh_40 hb et9 rfl ?_
            cases h
            exact J.iret hX hr 59 rfl
          · rw [if_neg b8] at h
            refine J.tabOut hX 33 130 rfl (by have z0 : l3.toInt ≠ 0 := sw_ne b5; have z1 : l3.toInt ≠ 1 := sw_ne b6; have z2 : l3.toInt ≠ 2 := sw_ne b7; have z3 : l3.toInt ≠ 3 := sw_ne b8; omega) (by decide) ?_
            refine J.aload_n hX 60 0 rfl rfl ?_
            refine J.getR hX 61 27 5 (hX.lt (k := 27) (by decide)) sh_27 rfl in_wsX50 17 (by decide) w_88 rfl rfl ?_
            refine J.aload_n hX 62 0 rfl rfl ?_
            refine J.getR hX 63 27 5 (hX.lt (k := 27) (by decide)) sh_27 rfl in_wsX50 20 (by decide) w_92 rfl rfl ?_
            refine J.iload_n hX 64 1 rfl rfl ?_
            obtain ⟨t10, et10, hb, h⟩ := ld_inv h
            refine J.ialdN hX 65 44 (hX.lt (k := 44) (by decide)) sh_44 hb et10 rfl ?_
            obtain ⟨t11, et11, hb, h⟩ := ld_inv h
            refine J.ialdN hX 66 41 (hX.lt (k := 41) (by decide)) sh_41 hb et11 rfl ?_
            cases h
            exact J.iret hX hr 67 rfl
  · rw [if_pos b4] at h
    refine J.iconst (v := 0) hX 30 rfl (by decide) ?_
    cases h
    exact J.iret hX hr 31 rfl
set_option maxHeartbeats 4000000 in
set_option maxRecDepth 100000 in
theorem X5_cut_j46_ok (hX : Cx p s m args meth c D cA ad n A sa cX5_cut 5 RX5 kX5_cut) {N4 : Mem} {l2 : Int32} {l3 : Int32} {r : Int32} {Mf : Mem}  (hr : meth.sig.returnType = (some .int)) (ht : ∀ x ∈ c.exceptionTable.toList, False) (h : X5_cut_j46 N4 l2 l3 = some (r, Mf)) : JM 5 120 p l e s m args below meth c D cA ad n A 5 (.inl (some (.int r))) Mf N4 46 [(0, .ref (ad 27)), (2, .int l2), (3, .int l3)] [.ref (ad 27)] := by
  unfold X5_cut_j46 at h
  refine J.iconst (v := 0) hX 23 rfl (by decide) ?_
  refine J.sub (L' := [(0, .ref (ad 27)), (2, .int l2), (3, .int l3)]) [0, 1, 2] rfl ?_
  exact X5_cut_j47_ok hX  hr ht h
set_option maxHeartbeats 4000000 in
set_option maxRecDepth 100000 in
theorem X5_cut_j28_ok (hX : Cx p s m args meth c D cA ad n A sa cX5_cut 5 RX5 kX5_cut) {N3 : Mem} {l2 : Int32} {l3 : Int32} {v2 : Int32} {r : Int32} {Mf : Mem}  (hr : meth.sig.returnType = (some .int)) (ht : ∀ x ∈ c.exceptionTable.toList, False) (h : X5_cut_j28 N3 l2 l3 v2 = some (r, Mf)) : JM 5 120 p l e s m args below meth c D cA ad n A 5 (.inl (some (.int r))) Mf N3 28 [(0, .ref (ad 27)), (2, .int l2), (3, .int l3), (4, .int v2)] [] := by
  unfold X5_cut_j28 at h
  refine J.aload_n hX 14 0 rfl rfl ?_
  refine J.iload hX 15 3 rfl rfl ?_
  refine J.if_eq (tgt := 46) hX 16 rfl (by decide) (fun b3 => ?_) (fun b3 => ?_)
  · rw [if_pos b3] at h
    refine J.sub (L' := [(0, .ref (ad 27)), (2, .int l2), (3, .int l3)]) [0, 1, 2] rfl ?_
    exact X5_cut_j46_ok hX  hr ht h
  · rw [if_neg b3] at h
    refine J.iload_n hX 17 1 rfl rfl ?_
    refine J.aload_n hX 18 0 rfl rfl ?_
    refine J.getI hX 19 27 5 (hX.lt (k := 27) (by decide)) sh_27 rfl in_wsX50 14 (by decide) w_621 rfl rfl ?_
    refine J.icmp_ge (tgt := 46) hX 20 rfl (by decide) (fun b9 => ?_) (fun b9 => ?_)
    · rw [if_pos b9] at h
      refine J.sub (L' := [(0, .ref (ad 27)), (2, .int l2), (3, .int l3)]) [0, 1, 2] rfl ?_
      exact X5_cut_j46_ok hX  hr ht h
    · rw [if_neg b9] at h
      refine J.iconst (v := 1) hX 21 rfl (by decide) ?_
      refine J.goto (tgt := 47) hX 22 rfl (by decide) ?_
      refine J.sub (L' := [(0, .ref (ad 27)), (2, .int l2), (3, .int l3)]) [0, 1, 2] rfl ?_
      exact X5_cut_j47_ok hX  hr ht h
set_option maxHeartbeats 4000000 in
set_option maxRecDepth 100000 in
theorem X5_cut_j16_ok (hX : Cx p s m args meth c D cA ad n A sa cX5_cut 5 RX5 kX5_cut) {N2 : Mem} {l1 : Int32} {l2 : Int32} {l3 : Int32} {v1 : Int32} {r : Int32} {Mf : Mem}  (hr : meth.sig.returnType = (some .int)) (ht : ∀ x ∈ c.exceptionTable.toList, False) (h : X5_cut_j16 N2 l1 l2 l3 v1 = some (r, Mf)) : JM 5 120 p l e s m args below meth c D cA ad n A 5 (.inl (some (.int r))) Mf N2 16 [(0, .ref (ad 27)), (1, .int l1), (2, .int l2), (3, .int l3)] [.int v1] := by
  unfold X5_cut_j16 at h
  refine J.istore (L' := [(4, .int v1), (0, .ref (ad 27)), (1, .int l1), (2, .int l2), (3, .int l3)]) hX 8 rfl (by decide) rfl ?_
  refine J.iload hX 9 0 rfl rfl ?_
  refine J.if_eq (tgt := 28) hX 10 rfl (by decide) (fun b2 => ?_) (fun b2 => ?_)
  · rw [if_pos b2] at h
    refine J.sub (L' := [(0, .ref (ad 27)), (2, .int l2), (3, .int l3), (4, .int v1)]) [1, 3, 4, 0] rfl ?_
    exact X5_cut_j28_ok hX  hr ht h
  · rw [if_neg b2] at h
    refine J.aload_n hX 11 1 rfl rfl ?_
    refine J.iload_n hX 12 2 rfl rfl ?_
    obtain ⟨N7, hc, h⟩ := bd1_inv h
    refine J.callV0 (As := [.int l1]) (rest := []) (k := 27) hX 13 rfl (mX5_lay  hc) okX5_lay w_624 (hX.lt (k := 27) (by decide)) sh_27 rfl rfl rfl (Nat.le_of_ble_eq_true rfl) ⟨Nat.le_of_ble_eq_true rfl, Nat.le_of_ble_eq_true rfl⟩ ⟨Nat.zero_le _, Nat.zero_le _⟩ ?_
    refine J.sub (L' := [(0, .ref (ad 27)), (2, .int l2), (3, .int l3), (4, .int v1)]) [1, 3, 4, 0] rfl ?_
    exact X5_cut_j28_ok hX  hr ht h
set_option maxHeartbeats 4000000 in
set_option maxRecDepth 100000 in
theorem X5_cut_j15_ok (hX : Cx p s m args meth c D cA ad n A sa cX5_cut 5 RX5 kX5_cut) {N1 : Mem} {l1 : Int32} {l2 : Int32} {l3 : Int32} {r : Int32} {Mf : Mem}  (hr : meth.sig.returnType = (some .int)) (ht : ∀ x ∈ c.exceptionTable.toList, False) (h : X5_cut_j15 N1 l1 l2 l3 = some (r, Mf)) : JM 5 120 p l e s m args below meth c D cA ad n A 5 (.inl (some (.int r))) Mf N1 15 [(0, .ref (ad 27)), (1, .int l1), (2, .int l2), (3, .int l3)] [] := by
  unfold X5_cut_j15 at h
  refine J.iconst (v := 0) hX 7 rfl (by decide) ?_
  refine J.sub (L' := [(0, .ref (ad 27)), (1, .int l1), (2, .int l2), (3, .int l3)]) [0, 1, 2, 3] rfl ?_
  exact X5_cut_j16_ok hX  hr ht h
set_option maxHeartbeats 4000000 in
set_option maxRecDepth 100000 in
theorem mX5_cut {l : Launch} {D : va_G} {cA : Nat → ClassId} {ad : Nat → Nat} {n : Nat} {A : Nat → Prop} {sa : Nat → Nat} {M : Mem} {l1 : Int32} {l2 : Int32} {l3 : Int32} {r : Int32} {Mf : Mem} (h : X5_cut M l1 l2 l3 = some (r, Mf)) : CT l D cA ad n A sa yX5_cut cX5_cut 5 (some .int) 5 120 [.ref (ad 27), .int l1, .int l2, .int l3] M (.inl (some (.int r))) Mf := by
  refine CT.of (kt := kX5_cut) (by decide) kX5_cut_ok (Nat.le_of_ble_eq_true rfl) ?_
  intro p e s m args below meth c hX hr ht
  unfold X5_cut at h
  refine J.sub (L' := [(0, .ref (ad 27)), (1, .int l1), (2, .int l2), (3, .int l3)]) [0, 1, 2, 3] rfl ?_
  refine J.iload_n hX 0 1 rfl rfl ?_
  obtain ⟨t1, hc, h⟩ := bd1_inv h
  refine J.callS1 (As := [.int l1]) (rest := []) hX 1 rfl (mX5_isCloth  hc) okX5_isCloth w_177 rfl rfl (Nat.le_of_ble_eq_true rfl) ⟨Nat.le_of_ble_eq_true rfl, Nat.le_of_ble_eq_true rfl⟩ ⟨Nat.zero_le _, Nat.zero_le _⟩ ?_
  refine J.if_eq (tgt := 15) hX 2 rfl (by decide) (fun b1 => ?_) (fun b1 => ?_)
  · rw [if_pos b1] at h
    refine J.sub (L' := [(0, .ref (ad 27)), (1, .int l1), (2, .int l2), (3, .int l3)]) [0, 1, 2, 3] rfl ?_
    exact X5_cut_j15_ok hX  hr ht h
  · rw [if_neg b1] at h
    refine J.iload_n hX 3 2 rfl rfl ?_
    refine J.if_lt (tgt := 15) hX 4 rfl (by decide) (fun b10 => ?_) (fun b10 => ?_)
    · rw [if_pos b10] at h
      refine J.sub (L' := [(0, .ref (ad 27)), (1, .int l1), (2, .int l2), (3, .int l3)]) [0, 1, 2, 3] rfl ?_
      exact X5_cut_j15_ok hX  hr ht h
    · rw [if_neg b10] at h
      refine J.iconst (v := 1) hX 5 rfl (by decide) ?_
      refine J.goto (tgt := 16) hX 6 rfl (by decide) ?_
      refine J.sub (L' := [(0, .ref (ad 27)), (1, .int l1), (2, .int l2), (3, .int l3)]) [0, 1, 2, 3] rfl ?_
      exact X5_cut_j16_ok hX  hr ht h
def X5_count_L21_j44 (N3 : Mem) (l1 : Int32) (v1 : Int32) (v2 : Int32) : Option ((Int32 × Int32) ⊕ (Int32)) := bnd (v1 + 1) (fun t4 => some (.inl (v2, t4)))
def X5_count_L21 (N2 : Mem) (l1 : Int32) (q9 : Int32 × Int32) : Option ((Int32 × Int32) ⊕ (Int32)) := un2 q9 (fun c1 c2 => if 36 ≤ c2 then (some (.inr c1)) else (ld N2 35 36 c2 (fun t3 => if t3 = (-1) then (X5_count_L21_j44 N2 l1 c2 c1) else (X5_count_L21_j44 N2 l1 c2 (c1 + 1)))))
def X5_count_j139 (N4 : Mem) (v3 : Int32) : Option (Int32 × Mem) := some (v3, N4)
def X5_count_j165 (N5 : Mem) (v4 : Int32) : Option (Int32 × Mem) := some (v4, N5)
def X5_count (M : Mem) (l1 : Int32) : Option (Int32 × Mem) := bd1 (X5_within M l1 0 6) (fun t1 => bd2 (X5_goes M t1 1) (fun t2 N1 => if t2 = 0 then (some (0, N1)) else (bd1 (loop (X5_count_L21 N1 l1) 3000 (0, 0)) (fun x1 => if l1 = 0 then (bd1 (X5_closed N1) (fun t5 => some (t5, N1))) else (if l1 = 1 then (some ((N1 27 1), N1)) else (if l1 = 2 then (some (x1, N1)) else (if l1 = 3 then (bd1 (X5_rows N1) (fun t6 => some (t6, N1))) else (if l1 = 4 then (bd1 (X5_columns N1) (fun t7 => some (t7, N1))) else (if l1 = 5 then (if x1 = 0 then (X5_count_j139 N1 0) else (bd1 (X5_columns N1) (fun t8 => bd1 (X5_across N1 t8) (fun t9 => ld N1 37 2 1 (fun t10 => X5_count_j139 N1 (t9 + (2 * t10))))))) else (if x1 = 0 then (X5_count_j165 N1 0) else (bd1 (X5_rows N1) (fun t11 => bd1 (X5_across N1 t11) (fun t12 => ld N1 37 2 1 (fun t13 => X5_count_j165 N1 (t12 + (2 * t13))))))))))))))))
set_option maxHeartbeats 4000000 in
set_option maxRecDepth 100000 in
theorem X5_count_L21_j44_ok (hX : Cx p s m args meth c D cA ad n A sa cX5_count 4 RX5 kX5_count) {N3 : Mem} {l1 : Int32} {v1 : Int32} {v2 : Int32}  {r : (Int32 × Int32) ⊕ (Int32)} (h : X5_count_L21_j44 N3 l1 v1 v2 = some r) (hin : ∀ (q0 : Int32) (q1 : Int32), r = .inl (q0, q1) → JM 1 22 p l e s m args below meth c D cA ad n A 4 out M1 N3 21 [(0, .ref (ad 27)), (1, .int l1), (2, .int q0), (3, .int q1)] []) (hex0 : ∀ (q0 : Int32), r = .inr q0 → JM 1 22 p l e s m args below meth c D cA ad n A 4 out M1 N3 51 [(0, .ref (ad 27)), (1, .int l1), (2, .int q0)] []) : JM 1 22 p l e s m args below meth c D cA ad n A 4 out M1 N3 44 [(0, .ref (ad 27)), (1, .int l1), (3, .int v1)] [.int v2] := by
  unfold X5_count_L21_j44 at h
  refine J.istore_n (L' := [(2, .int v2), (0, .ref (ad 27)), (1, .int l1), (3, .int v1)]) hX 28 rfl (by decide) rfl ?_
  obtain ⟨t4, et4, h⟩ := bnd_inv h
  refine J.iinc (q := 3) (L' := [(3, .int t4), (2, .int v2), (0, .ref (ad 27)), (1, .int l1)]) hX 29 rfl rfl et4 (by decide) rfl ?_
  refine J.goto (tgt := 21) hX 30 rfl (by decide) ?_
  refine J.sub (L' := [(0, .ref (ad 27)), (1, .int l1), (2, .int v2), (3, .int t4)]) [2, 3, 1, 0] rfl ?_
  exact hin _ _ (Option.some.inj h).symm
set_option maxHeartbeats 4000000 in
set_option maxRecDepth 100000 in
theorem X5_count_L21_ok (hX : Cx p s m args meth c D cA ad n A sa cX5_count 4 RX5 kX5_count) {N2 : Mem} {l1 : Int32} {c1 : Int32} {c2 : Int32}  {r : (Int32 × Int32) ⊕ (Int32)} (h : X5_count_L21 N2 l1 (c1, c2) = some r) (hin : ∀ (q0 : Int32) (q1 : Int32), r = .inl (q0, q1) → JM 1 22 p l e s m args below meth c D cA ad n A 4 out M1 N2 21 [(0, .ref (ad 27)), (1, .int l1), (2, .int q0), (3, .int q1)] []) (hex0 : ∀ (q0 : Int32), r = .inr q0 → JM 1 22 p l e s m args below meth c D cA ad n A 4 out M1 N2 51 [(0, .ref (ad 27)), (1, .int l1), (2, .int q0)] []) : JM 1 22 p l e s m args below meth c D cA ad n A 4 out M1 N2 21 [(0, .ref (ad 27)), (1, .int l1), (2, .int c1), (3, .int c2)] [] := by
  unfold X5_count_L21 at h
  have h := un2_inv h
  refine J.iload_n hX 14 3 rfl rfl ?_
  refine J.bipush (v := 36) hX 15 rfl (by decide) ?_
  refine J.icmp_ge (tgt := 51) hX 16 rfl (by decide) (fun b2 => ?_) (fun b2 => ?_)
  · rw [if_pos b2] at h
    refine J.sub (L' := [(0, .ref (ad 27)), (1, .int l1), (2, .int c1)]) [0, 1, 2] rfl ?_
    exact hex0 _ (Option.some.inj h).symm
  · rw [if_neg b2] at h
    refine J.aload_n hX 17 0 rfl rfl ?_
    refine J.getR hX 18 27 5 (hX.lt (k := 27) (by decide)) sh_27 rfl in_wsX50 10 (by decide) w_82 rfl rfl ?_
    refine J.iload_n hX 19 3 rfl rfl ?_
    obtain ⟨t3, et3, hb, h⟩ := ld_inv h
    refine J.ialdN hX 20 35 (hX.lt (k := 35) (by decide)) sh_35 hb et3 rfl ?_
    refine J.iconst (v := (-1)) hX 21 rfl (by decide) ?_
    refine J.icmp_eq (tgt := 43) hX 22 rfl (by decide) (fun b3 => ?_) (fun b3 => ?_)
    · rw [if_pos b3] at h
      refine J.iload_n hX 27 2 rfl rfl ?_
      refine J.sub (L' := [(0, .ref (ad 27)), (1, .int l1), (3, .int c2)]) [0, 1, 3] rfl ?_
      exact X5_count_L21_j44_ok hX  h hin hex0
    · rw [if_neg b3] at h
      refine J.iload_n hX 23 2 rfl rfl ?_
      refine J.iconst (v := 1) hX 24 rfl (by decide) ?_
      refine J.iadd hX 25 rfl ?_
      refine J.goto (tgt := 44) hX 26 rfl (by decide) ?_
      refine J.sub (L' := [(0, .ref (ad 27)), (1, .int l1), (3, .int c2)]) [0, 1, 3] rfl ?_
      exact X5_count_L21_j44_ok hX  h hin hex0
set_option maxHeartbeats 4000000 in
set_option maxRecDepth 100000 in
theorem X5_count_j139_ok (hX : Cx p s m args meth c D cA ad n A sa cX5_count 4 RX5 kX5_count) {N4 : Mem} {v3 : Int32} {r : Int32} {Mf : Mem}  (hr : meth.sig.returnType = (some .int)) (ht : ∀ x ∈ c.exceptionTable.toList, False) (h : X5_count_j139 N4 v3 = some (r, Mf)) : JM 1 22 p l e s m args below meth c D cA ad n A 4 (.inl (some (.int r))) Mf N4 139 [] [.int v3] := by
  unfold X5_count_j139 at h
  cases h
  exact J.iret hX hr 62 rfl
set_option maxHeartbeats 4000000 in
set_option maxRecDepth 100000 in
theorem X5_count_j165_ok (hX : Cx p s m args meth c D cA ad n A sa cX5_count 4 RX5 kX5_count) {N5 : Mem} {v4 : Int32} {r : Int32} {Mf : Mem}  (hr : meth.sig.returnType = (some .int)) (ht : ∀ x ∈ c.exceptionTable.toList, False) (h : X5_count_j165 N5 v4 = some (r, Mf)) : JM 1 22 p l e s m args below meth c D cA ad n A 4 (.inl (some (.int r))) Mf N5 165 [] [.int v4] := by
  unfold X5_count_j165 at h
  cases h
  exact J.iret hX hr 78 rfl
set_option maxHeartbeats 4000000 in
set_option maxRecDepth 100000 in
theorem mX5_count {l : Launch} {D : va_G} {cA : Nat → ClassId} {ad : Nat → Nat} {n : Nat} {A : Nat → Prop} {sa : Nat → Nat} {M : Mem} {l1 : Int32} {r : Int32} {Mf : Mem} (h : X5_count M l1 = some (r, Mf)) : CT l D cA ad n A sa yX5_count cX5_count 4 (some .int) 1 22 [.ref (ad 27), .int l1] M (.inl (some (.int r))) Mf := by
  refine CT.of (kt := kX5_count) (by decide) kX5_count_ok (Nat.le_of_ble_eq_true rfl) ?_
  intro p e s m args below meth c hX hr ht
  unfold X5_count at h
  refine J.sub (L' := [(0, .ref (ad 27)), (1, .int l1)]) [0, 1] rfl ?_
  refine J.aload_n hX 0 0 rfl rfl ?_
  refine J.iload_n hX 1 1 rfl rfl ?_
  refine J.iconst (v := 0) hX 2 rfl (by decide) ?_
  refine J.bipush (v := 6) hX 3 rfl (by decide) ?_
  obtain ⟨t1, hc, h⟩ := bd1_inv h
  refine J.callS1 (As := [.int l1, .int 0, .int 6]) (rest := [.ref (ad 27)]) hX 4 rfl (mX5_within  hc) okX5_within w_134 rfl rfl (Nat.le_of_ble_eq_true rfl) ⟨Nat.le_of_ble_eq_true rfl, Nat.le_of_ble_eq_true rfl⟩ ⟨Nat.zero_le _, Nat.zero_le _⟩ ?_
  refine J.iconst (v := 1) hX 5 rfl (by decide) ?_
  obtain ⟨t2, N1, hc, h⟩ := bd2_inv h
  refine J.callV1 (As := [.int t1, .int 1]) (rest := []) (k := 27) hX 6 rfl (mX5_goes  hc) okX5_goes w_137 (hX.lt (k := 27) (by decide)) sh_27 rfl rfl rfl (Nat.le_of_ble_eq_true rfl) ⟨Nat.le_of_ble_eq_true rfl, Nat.le_of_ble_eq_true rfl⟩ ⟨Nat.zero_le _, Nat.zero_le _⟩ ?_
  refine J.if_ne (tgt := 17) hX 7 rfl (by decide) (fun b1 => ?_) (fun b1 => ?_)
  · rw [if_neg b1] at h
    refine J.iconst (v := 0) hX 10 rfl (by decide) ?_
    refine J.istore_n (L' := [(2, .int 0), (0, .ref (ad 27)), (1, .int l1)]) hX 11 rfl (by decide) rfl ?_
    refine J.iconst (v := 0) hX 12 rfl (by decide) ?_
    refine J.istore_n (L' := [(3, .int 0), (2, .int 0), (0, .ref (ad 27)), (1, .int l1)]) hX 13 rfl (by decide) rfl ?_
    refine J.sub (L' := [(0, .ref (ad 27)), (1, .int l1), (2, .int 0), (3, .int 0)]) [2, 3, 1, 0] rfl ?_
    obtain ⟨x1, hlp, h⟩ := bd1_inv h
    suffices hE : JM 1 22 p l e s m args below meth c D cA ad n A 4 (.inl (some (.int r))) Mf N1 51 [(0, .ref (ad 27)), (1, .int l1), (2, .int x1)] [] by
      exact loop_ok (fun q9 : Int32 × Int32 => JM 1 22 p l e s m args below meth c D cA ad n A 4 (.inl (some (.int r))) Mf N1 21 [(0, .ref (ad 27)), (1, .int l1), (2, .int q9.1), (3, .int q9.2)] []) (fun q9 r hB hst hex9 => X5_count_L21_ok hX  hB (fun _ _ hr => hst _ hr) (fun _ hr => by cases hex9 _ hr; exact hE)) 3000 _ hlp
    refine J.iload_n hX 31 1 rfl rfl ?_
    by_cases b4 : l1 = 0
    · rw [if_pos b4] at h
      refine J.tabIn hX 32 (40) 92 rfl (by rw [b4]; decide) (by rw [b4]; decide) (by rw [b4]; decide) (by decide) ?_
      refine J.aload_n hX 33 0 rfl rfl ?_
      obtain ⟨t5, hc, h⟩ := bd1_inv h
      refine J.callV1 (As := []) (rest := []) (k := 27) hX 34 rfl (mX5_closed  hc) okX5_closed w_236 (hX.lt (k := 27) (by decide)) sh_27 rfl rfl rfl (Nat.le_of_ble_eq_true rfl) ⟨Nat.le_of_ble_eq_true rfl, Nat.le_of_ble_eq_true rfl⟩ ⟨Nat.zero_le _, Nat.zero_le _⟩ ?_
      cases h
      exact J.iret hX hr 35 rfl
    · rw [if_neg b4] at h
      by_cases b5 : l1 = 1
      · rw [if_pos b5] at h
        refine J.tabIn hX 32 (45) 97 rfl (by rw [b5]; decide) (by rw [b5]; decide) (by rw [b5]; decide) (by decide) ?_
        refine J.aload_n hX 36 0 rfl rfl ?_
        refine J.getI hX 37 27 5 (hX.lt (k := 27) (by decide)) sh_27 rfl in_wsX50 1 (by decide) w_381 rfl rfl ?_
        cases h
        exact J.iret hX hr 38 rfl
      · rw [if_neg b5] at h
        by_cases b6 : l1 = 2
        · rw [if_pos b6] at h
          refine J.tabIn hX 32 (50) 102 rfl (by rw [b6]; decide) (by rw [b6]; decide) (by rw [b6]; decide) (by decide) ?_
          refine J.iload_n hX 39 2 rfl rfl ?_
          cases h
          exact J.iret hX hr 40 rfl
        · rw [if_neg b6] at h
          by_cases b7 : l1 = 3
          · rw [if_pos b7] at h
            refine J.tabIn hX 32 (52) 104 rfl (by rw [b7]; decide) (by rw [b7]; decide) (by rw [b7]; decide) (by decide) ?_
            refine J.aload_n hX 41 0 rfl rfl ?_
            obtain ⟨t6, hc, h⟩ := bd1_inv h
            refine J.callV1 (As := []) (rest := []) (k := 27) hX 42 rfl (mX5_rows  hc) okX5_rows w_651 (hX.lt (k := 27) (by decide)) sh_27 rfl rfl rfl (Nat.le_of_ble_eq_true rfl) ⟨Nat.le_of_ble_eq_true rfl, Nat.le_of_ble_eq_true rfl⟩ ⟨Nat.zero_le _, Nat.zero_le _⟩ ?_
            cases h
            exact J.iret hX hr 43 rfl
          · rw [if_neg b7] at h
            by_cases b8 : l1 = 4
            · rw [if_pos b8] at h
              refine J.tabIn hX 32 (57) 109 rfl (by rw [b8]; decide) (by rw [b8]; decide) (by rw [b8]; decide) (by decide) ?_
              refine J.aload_n hX 44 0 rfl rfl ?_
              obtain ⟨t7, hc, h⟩ := bd1_inv h
              refine J.callV1 (As := []) (rest := []) (k := 27) hX 45 rfl (mX5_columns  hc) okX5_columns w_655 (hX.lt (k := 27) (by decide)) sh_27 rfl rfl rfl (Nat.le_of_ble_eq_true rfl) ⟨Nat.le_of_ble_eq_true rfl, Nat.le_of_ble_eq_true rfl⟩ ⟨Nat.zero_le _, Nat.zero_le _⟩ ?_
              cases h
              exact J.iret hX hr 46 rfl
            · rw [if_neg b8] at h
              by_cases b9 : l1 = 5
              · rw [if_pos b9] at h
                refine J.tabIn hX 32 (62) 114 rfl (by rw [b9]; decide) (by rw [b9]; decide) (by rw [b9]; decide) (by decide) ?_
                refine J.iload_n hX 47 2 rfl rfl ?_
                refine J.if_ne (tgt := 122) hX 48 rfl (by decide) (fun b10 => ?_) (fun b10 => ?_)
                · rw [if_neg b10] at h
                  refine J.aload_n hX 51 0 rfl rfl ?_
                  refine J.aload_n hX 52 0 rfl rfl ?_
                  obtain ⟨t8, hc, h⟩ := bd1_inv h
                  refine J.callV1 (As := []) (rest := [.ref (ad 27)]) (k := 27) hX 53 rfl (mX5_columns  hc) okX5_columns w_655 (hX.lt (k := 27) (by decide)) sh_27 rfl rfl rfl (Nat.le_of_ble_eq_true rfl) ⟨Nat.le_of_ble_eq_true rfl, Nat.le_of_ble_eq_true rfl⟩ ⟨Nat.zero_le _, Nat.zero_le _⟩ ?_
                  obtain ⟨t9, hc, h⟩ := bd1_inv h
                  refine J.callV1 (As := [.int t8]) (rest := []) (k := 27) hX 54 rfl (mX5_across  hc) okX5_across w_659 (hX.lt (k := 27) (by decide)) sh_27 rfl rfl rfl (Nat.le_of_ble_eq_true rfl) ⟨Nat.le_of_ble_eq_true rfl, Nat.le_of_ble_eq_true rfl⟩ ⟨Nat.zero_le _, Nat.zero_le _⟩ ?_
                  refine J.iconst (v := 2) hX 55 rfl (by decide) ?_
                  refine J.aload_n hX 56 0 rfl rfl ?_
                  refine J.getR hX 57 27 5 (hX.lt (k := 27) (by decide)) sh_27 rfl in_wsX50 12 (by decide) w_84 rfl rfl ?_
                  refine J.iconst (v := 1) hX 58 rfl (by decide) ?_
                  obtain ⟨t10, et10, hb, h⟩ := ld_inv h
                  refine J.ialdN hX 59 37 (hX.lt (k := 37) (by decide)) sh_37 hb et10 rfl ?_
                  refine J.imul hX 60 rfl ?_
                  refine J.iadd hX 61 rfl ?_
                  refine J.sub (L' := []) [] rfl ?_
                  exact X5_count_j139_ok hX  hr ht h
                · rw [if_pos b10] at h
                  refine J.iconst (v := 0) hX 49 rfl (by decide) ?_
                  refine J.goto (tgt := 139) hX 50 rfl (by decide) ?_
                  refine J.sub (L' := []) [] rfl ?_
                  exact X5_count_j139_ok hX  hr ht h
              · rw [if_neg b9] at h
                refine J.tabOut hX 32 140 rfl (by have z0 : l1.toInt ≠ 0 := sw_ne b4; have z1 : l1.toInt ≠ 1 := sw_ne b5; have z2 : l1.toInt ≠ 2 := sw_ne b6; have z3 : l1.toInt ≠ 3 := sw_ne b7; have z4 : l1.toInt ≠ 4 := sw_ne b8; have z5 : l1.toInt ≠ 5 := sw_ne b9; omega) (by decide) ?_
                refine J.iload_n hX 63 2 rfl rfl ?_
                refine J.if_ne (tgt := 148) hX 64 rfl (by decide) (fun b11 => ?_) (fun b11 => ?_)
                · rw [if_neg b11] at h
                  refine J.aload_n hX 67 0 rfl rfl ?_
                  refine J.aload_n hX 68 0 rfl rfl ?_
                  obtain ⟨t11, hc, h⟩ := bd1_inv h
                  refine J.callV1 (As := []) (rest := [.ref (ad 27)]) (k := 27) hX 69 rfl (mX5_rows  hc) okX5_rows w_651 (hX.lt (k := 27) (by decide)) sh_27 rfl rfl rfl (Nat.le_of_ble_eq_true rfl) ⟨Nat.le_of_ble_eq_true rfl, Nat.le_of_ble_eq_true rfl⟩ ⟨Nat.zero_le _, Nat.zero_le _⟩ ?_
                  obtain ⟨t12, hc, h⟩ := bd1_inv h
                  refine J.callV1 (As := [.int t11]) (rest := []) (k := 27) hX 70 rfl (mX5_across  hc) okX5_across w_659 (hX.lt (k := 27) (by decide)) sh_27 rfl rfl rfl (Nat.le_of_ble_eq_true rfl) ⟨Nat.le_of_ble_eq_true rfl, Nat.le_of_ble_eq_true rfl⟩ ⟨Nat.zero_le _, Nat.zero_le _⟩ ?_
                  refine J.iconst (v := 2) hX 71 rfl (by decide) ?_
                  refine J.aload_n hX 72 0 rfl rfl ?_
                  refine J.getR hX 73 27 5 (hX.lt (k := 27) (by decide)) sh_27 rfl in_wsX50 12 (by decide) w_84 rfl rfl ?_
                  refine J.iconst (v := 1) hX 74 rfl (by decide) ?_
                  obtain ⟨t13, et13, hb, h⟩ := ld_inv h
                  refine J.ialdN hX 75 37 (hX.lt (k := 37) (by decide)) sh_37 hb et13 rfl ?_
                  refine J.imul hX 76 rfl ?_
                  refine J.iadd hX 77 rfl ?_
                  refine J.sub (L' := []) [] rfl ?_
                  exact X5_count_j165_ok hX  hr ht h
                · rw [if_pos b11] at h
                  refine J.iconst (v := 0) hX 65 rfl (by decide) ?_
                  refine J.goto (tgt := 165) hX 66 rfl (by decide) ?_
                  refine J.sub (L' := []) [] rfl ?_
                  exact X5_count_j165_ok hX  hr ht h
  · rw [if_pos b1] at h
    refine J.iconst (v := 0) hX 8 rfl (by decide) ?_
    cases h
    exact J.iret hX hr 9 rfl
end G18
