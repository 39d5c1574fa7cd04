section G16
variable {p : Program} {l : Launch} {e : Env} {s : State} {m : MethodId} {args : Array Value} {below : List Frame} {meth : Method} {c : Code} {D : va_G} {cA : Nat → ClassId} {ad : Nat → Nat} {n : Nat} {A : Nat → Prop} {sa : Nat → Nat} {out : Option Value ⊕ String} {M1 : Mem}
def X0_forget (M : Mem) : Option (Mem) := bnd (wr M 17 0 (-1)) (fun N1 => some N1)
set_option maxHeartbeats 4000000 in
set_option maxRecDepth 100000 in
theorem mX0_forget {l : Launch} {D : va_G} {cA : Nat → ClassId} {ad : Nat → Nat} {n : Nat} {A : Nat → Prop} {sa : Nat → Nat} {M : Mem} {Mf : Mem} (h : X0_forget M = some Mf) : CT l D cA ad n A sa yX0_forget cX0_forget 1 none 0 0 [.ref (ad 17)] M (.inl none) Mf := by
  refine CT.of (kt := kX0_forget) (by decide) kX0_forget_ok (Nat.le_of_ble_eq_true rfl) ?_
  intro p e s m args below meth c hX hr ht
  unfold X0_forget at h
  refine J.sub (L' := [(0, .ref (ad 17))]) [0] rfl ?_
  refine J.aload_n hX 0 0 rfl rfl ?_
  refine J.iconst (v := (-1)) hX 1 rfl (by decide) ?_
  obtain ⟨N1, eN1, h⟩ := bnd_inv h
  refine J.putIN hX 2 17 0 (hX.lt (k := 17) (by decide)) sh_17 rfl in_wsX00 0 (by decide) w_61 tyX0 tyX0_ok nmX0 eN1 rfl rfl (by decide +kernel) rfl ?_
  cases h
  exact J.vret hX hr 3 rfl
def X0_fact (M : Mem) (l1 : Int32) (l2 : Int32) : Option (Int32) := if l2 = 0 then (ld M 24 903 l1 (fun t1 => some t1)) else (if l2 = 1 then (ld M 25 903 l1 (fun t2 => some t2)) else (if l2 = 2 then (ld M 22 903 l1 (fun t3 => ld M 18 903 t3 (fun t4 => some t4))) else (if l2 = 3 then (ld M 22 903 l1 (fun t5 => ld M 19 903 t5 (fun t6 => some t6))) else (ld M 22 903 l1 (fun t7 => ld M 20 903 t7 (fun t8 => some t8))))))
set_option maxHeartbeats 4000000 in
set_option maxRecDepth 100000 in
theorem mX0_fact {l : Launch} {D : va_G} {cA : Nat → ClassId} {ad : Nat → Nat} {n : Nat} {A : Nat → Prop} {sa : Nat → Nat} {M : Mem} {l1 : Int32} {l2 : Int32} {r : Int32} (h : X0_fact M l1 l2 = some r) : CT l D cA ad n A sa yX0_fact cX0_fact 3 (some .int) 0 0 [.ref (ad 17), .int l1, .int l2] M (.inl (some (.int r))) M := by
  refine CT.of (kt := kX0_fact) (by decide) kX0_fact_ok (Nat.le_of_ble_eq_true rfl) ?_
  intro p e s m args below meth c hX hr ht
  unfold X0_fact at h
  refine J.sub (L' := [(0, .ref (ad 17)), (1, .int l1), (2, .int l2)]) [0, 1, 2] rfl ?_
  refine J.iload_n hX 0 2 rfl rfl ?_
  by_cases b1 : l2 = 0
  · rw [if_pos b1] at h
    refine J.tabIn hX 1 (31) 32 rfl (by rw [b1]; decide) (by rw [b1]; decide) (by rw [b1]; decide) (by decide) ?_
    refine J.aload_n hX 2 0 rfl rfl ?_
    refine J.getR hX 3 17 0 (hX.lt (k := 17) (by decide)) sh_17 rfl in_wsX00 8 (by decide) w_68 rfl rfl ?_
    refine J.iload_n hX 4 1 rfl rfl ?_
    obtain ⟨t1, et1, hb, h⟩ := ld_inv h
    refine J.ialdN hX 5 24 (hX.lt (k := 24) (by decide)) sh_24 hb et1 rfl ?_
    cases h
    exact J.iret hX hr 6 rfl
  · rw [if_neg b1] at h
    by_cases b2 : l2 = 1
    · rw [if_pos b2] at h
      refine J.tabIn hX 1 (38) 39 rfl (by rw [b2]; decide) (by rw [b2]; decide) (by rw [b2]; decide) (by decide) ?_
      refine J.aload_n hX 7 0 rfl rfl ?_
      refine J.getR hX 8 17 0 (hX.lt (k := 17) (by decide)) sh_17 rfl in_wsX00 9 (by decide) w_69 rfl rfl ?_
      refine J.iload_n hX 9 1 rfl rfl ?_
      obtain ⟨t2, et2, hb, h⟩ := ld_inv h
      refine J.ialdN hX 10 25 (hX.lt (k := 25) (by decide)) sh_25 hb et2 rfl ?_
      cases h
      exact J.iret hX hr 11 rfl
    · rw [if_neg b2] at h
      by_cases b3 : l2 = 2
      · rw [if_pos b3] at h
        refine J.tabIn hX 1 (45) 46 rfl (by rw [b3]; decide) (by rw [b3]; decide) (by rw [b3]; decide) (by decide) ?_
        refine J.aload_n hX 12 0 rfl rfl ?_
        refine J.getR hX 13 17 0 (hX.lt (k := 17) (by decide)) sh_17 rfl in_wsX00 2 (by decide) w_62 rfl rfl ?_
        refine J.aload_n hX 14 0 rfl rfl ?_
        refine J.getR hX 15 17 0 (hX.lt (k := 17) (by decide)) sh_17 rfl in_wsX00 6 (by decide) w_66 rfl rfl ?_
        refine J.iload_n hX 16 1 rfl rfl ?_
        obtain ⟨t3, et3, hb, h⟩ := ld_inv h
        refine J.ialdN hX 17 22 (hX.lt (k := 22) (by decide)) sh_22 hb et3 rfl ?_
        obtain ⟨t4, et4, hb, h⟩ := ld_inv h
        refine J.ialdN hX 18 18 (hX.lt (k := 18) (by decide)) sh_18 hb et4 rfl ?_
        cases h
        exact J.iret hX hr 19 rfl
      · rw [if_neg b3] at h
        by_cases b4 : l2 = 3
        · rw [if_pos b4] at h
          refine J.tabIn hX 1 (57) 58 rfl (by rw [b4]; decide) (by rw [b4]; decide) (by rw [b4]; decide) (by decide) ?_
          refine J.aload_n hX 20 0 rfl rfl ?_
          refine J.getR hX 21 17 0 (hX.lt (k := 17) (by decide)) sh_17 rfl in_wsX00 3 (by decide) w_63 rfl rfl ?_
          refine J.aload_n hX 22 0 rfl rfl ?_
          refine J.getR hX 23 17 0 (hX.lt (k := 17) (by decide)) sh_17 rfl in_wsX00 6 (by decide) w_66 rfl rfl ?_
          refine J.iload_n hX 24 1 rfl rfl ?_
          obtain ⟨t5, et5, hb, h⟩ := ld_inv h
          refine J.ialdN hX 25 22 (hX.lt (k := 22) (by decide)) sh_22 hb et5 rfl ?_
          obtain ⟨t6, et6, hb, h⟩ := ld_inv h
          refine J.ialdN hX 26 19 (hX.lt (k := 19) (by decide)) sh_19 hb et6 rfl ?_
          cases h
          exact J.iret hX hr 27 rfl
        · rw [if_neg b4] at h
          refine J.tabOut hX 1 70 rfl (by have z0 : l2.toInt ≠ 0 := sw_ne b1; have z1 : l2.toInt ≠ 1 := sw_ne b2; have z2 : l2.toInt ≠ 2 := sw_ne b3; have z3 : l2.toInt ≠ 3 := sw_ne b4; omega) (by decide) ?_
          refine J.aload_n hX 28 0 rfl rfl ?_
          refine J.getR hX 29 17 0 (hX.lt (k := 17) (by decide)) sh_17 rfl in_wsX00 4 (by decide) w_64 rfl rfl ?_
          refine J.aload_n hX 30 0 rfl rfl ?_
          refine J.getR hX 31 17 0 (hX.lt (k := 17) (by decide)) sh_17 rfl in_wsX00 6 (by decide) w_66 rfl rfl ?_
          refine J.iload_n hX 32 1 rfl rfl ?_
          obtain ⟨t7, et7, hb, h⟩ := ld_inv h
          refine J.ialdN hX 33 22 (hX.lt (k := 22) (by decide)) sh_22 hb et7 rfl ?_
          obtain ⟨t8, et8, hb, h⟩ := ld_inv h
          refine J.ialdN hX 34 20 (hX.lt (k := 20) (by decide)) sh_20 hb et8 rfl ?_
          cases h
          exact J.iret hX hr 35 rfl
def X0_gatherCut (M : Mem) (l1 : Int32) (l2 : Int32) (l3 : Int32) : Option (Mem) := if 903 ≤ (M 17 1) then (some M) else (sto M 18 903 (M 17 1) l1 (fun N1 => sto N1 19 903 (N1 17 1) l2 (fun N2 => sto N2 20 903 (N2 17 1) l3 (fun N3 => bnd (wr N3 17 1 ((N3 17 1) + 1)) (fun N4 => some N4)))))
set_option maxHeartbeats 4000000 in
set_option maxRecDepth 100000 in
theorem mX0_gatherCut {l : Launch} {D : va_G} {cA : Nat → ClassId} {ad : Nat → Nat} {n : Nat} {A : Nat → Prop} {sa : Nat → Nat} {M : Mem} {l1 : Int32} {l2 : Int32} {l3 : Int32} {Mf : Mem} (h : X0_gatherCut M l1 l2 l3 = some Mf) : CT l D cA ad n A sa yX0_gatherCut cX0_gatherCut 4 none 0 0 [.ref (ad 17), .int l1, .int l2, .int l3] M (.inl none) Mf := by
  refine CT.of (kt := kX0_gatherCut) (by decide) kX0_gatherCut_ok (Nat.le_of_ble_eq_true rfl) ?_
  intro p e s m args below meth c hX hr ht
  unfold X0_gatherCut at h
  refine J.sub (L' := [(0, .ref (ad 17)), (1, .int l1), (2, .int l2), (3, .int l3)]) [0, 1, 2, 3] rfl ?_
  refine J.aload_n hX 0 0 rfl rfl ?_
  refine J.getI hX 1 17 0 (hX.lt (k := 17) (by decide)) sh_17 rfl in_wsX00 1 (by decide) w_518 rfl rfl ?_
  refine J.sipush (v := 903) hX 2 rfl (by decide) ?_
  refine J.icmp_ge (tgt := 50) hX 3 rfl (by decide) (fun b1 => ?_) (fun b1 => ?_)
  · rw [if_pos b1] at h
    cases h
    exact J.vret hX hr 28 rfl
  · rw [if_neg b1] at h
    refine J.aload_n hX 4 0 rfl rfl ?_
    refine J.getR hX 5 17 0 (hX.lt (k := 17) (by decide)) sh_17 rfl in_wsX00 2 (by decide) w_62 rfl rfl ?_
    refine J.aload_n hX 6 0 rfl rfl ?_
    refine J.getI hX 7 17 0 (hX.lt (k := 17) (by decide)) sh_17 rfl in_wsX00 1 (by decide) w_518 rfl rfl ?_
    refine J.iload_n hX 8 1 rfl rfl ?_
    obtain ⟨N1, eN1, hb, h⟩ := sto_inv h
    refine J.iastN hX 9 18 (hX.lt (k := 18) (by decide)) sh_18 hb eN1 rfl ?_
    refine J.aload_n hX 10 0 rfl rfl ?_
    refine J.getR hX 11 17 0 (hX.lt (k := 17) (by decide)) sh_17 rfl in_wsX00 3 (by decide) w_63 rfl rfl ?_
    refine J.aload_n hX 12 0 rfl rfl ?_
    refine J.getI hX 13 17 0 (hX.lt (k := 17) (by decide)) sh_17 rfl in_wsX00 1 (by decide) w_518 rfl rfl ?_
    refine J.iload_n hX 14 2 rfl rfl ?_
    obtain ⟨N2, eN2, hb, h⟩ := sto_inv h
    refine J.iastN hX 15 19 (hX.lt (k := 19) (by decide)) sh_19 hb eN2 rfl ?_
    refine J.aload_n hX 16 0 rfl rfl ?_
    refine J.getR hX 17 17 0 (hX.lt (k := 17) (by decide)) sh_17 rfl in_wsX00 4 (by decide) w_64 rfl rfl ?_
    refine J.aload_n hX 18 0 rfl rfl ?_
    refine J.getI hX 19 17 0 (hX.lt (k := 17) (by decide)) sh_17 rfl in_wsX00 1 (by decide) w_518 rfl rfl ?_
    refine J.iload_n hX 20 3 rfl rfl ?_
    obtain ⟨N3, eN3, hb, h⟩ := sto_inv h
    refine J.iastN hX 21 20 (hX.lt (k := 20) (by decide)) sh_20 hb eN3 rfl ?_
    refine J.aload_n hX 22 0 rfl rfl ?_
    refine J.dup hX 23 rfl rfl ?_
    refine J.getI hX 24 17 0 (hX.lt (k := 17) (by decide)) sh_17 rfl in_wsX00 1 (by decide) w_518 rfl rfl ?_
    refine J.iconst (v := 1) hX 25 rfl (by decide) ?_
    refine J.iadd hX 26 rfl ?_
    obtain ⟨N4, eN4, h⟩ := bnd_inv h
    refine J.putIN hX 27 17 0 (hX.lt (k := 17) (by decide)) sh_17 rfl in_wsX00 1 (by decide) w_518 tyX0 tyX0_ok nmX0 eN4 rfl rfl (by decide +kernel) rfl ?_
    cases h
    exact J.vret hX hr 28 rfl
def X0_gatherHalf_j22 (N1 : Mem) (l1 : Int32) : Option (Mem) := ld N1 21 97 l1 (fun t2 => sto N1 21 97 l1 (1 - t2) (fun N2 => some N2))
def X0_gatherHalf (M : Mem) (l1 : Int32) : Option (Mem) := ld M 21 97 l1 (fun t1 => if t1 = 0 then (bd1 (X0_gatherCut M (l1 + 21) (l1 + 21) 1) (fun N3 => X0_gatherHalf_j22 N3 l1)) else (X0_gatherHalf_j22 M l1))
set_option maxHeartbeats 4000000 in
set_option maxRecDepth 100000 in
theorem X0_gatherHalf_j22_ok (hX : Cx p s m args meth c D cA ad n A sa cX0_gatherHalf 2 RX0 kX0_gatherHalf) {N1 : Mem} {l1 : Int32} {Mf : Mem}  (hr : meth.sig.returnType = none) (ht : ∀ x ∈ c.exceptionTable.toList, False) (h : X0_gatherHalf_j22 N1 l1 = some Mf) : JM 1 23 p l e s m args below meth c D cA ad n A 2 (.inl none) Mf N1 22 [(0, .ref (ad 17)), (1, .int l1)] [] := by
  unfold X0_gatherHalf_j22 at h
  refine J.aload_n hX 14 0 rfl rfl ?_
  refine J.getR hX 15 17 0 (hX.lt (k := 17) (by decide)) sh_17 rfl in_wsX00 5 (by decide) w_65 rfl rfl ?_
  refine J.iload_n hX 16 1 rfl rfl ?_
  refine J.iconst (v := 1) hX 17 rfl (by decide) ?_
  refine J.aload_n hX 18 0 rfl rfl ?_
  refine J.getR hX 19 17 0 (hX.lt (k := 17) (by decide)) sh_17 rfl in_wsX00 5 (by decide) w_65 rfl rfl ?_
  refine J.iload_n hX 20 1 rfl rfl ?_
  obtain ⟨t2, et2, hb, h⟩ := ld_inv h
  refine J.ialdN hX 21 21 (hX.lt (k := 21) (by decide)) sh_21 hb et2 rfl ?_
  refine J.isub hX 22 rfl ?_
  obtain ⟨N2, eN2, hb, h⟩ := sto_inv h
  refine J.iastN hX 23 21 (hX.lt (k := 21) (by decide)) sh_21 hb eN2 rfl ?_
  cases h
  exact J.vret hX hr 24 rfl
set_option maxHeartbeats 4000000 in
set_option maxRecDepth 100000 in
theorem mX0_gatherHalf {l : Launch} {D : va_G} {cA : Nat → ClassId} {ad : Nat → Nat} {n : Nat} {A : Nat → Prop} {sa : Nat → Nat} {M : Mem} {l1 : Int32} {Mf : Mem} (h : X0_gatherHalf M l1 = some Mf) : CT l D cA ad n A sa yX0_gatherHalf cX0_gatherHalf 2 none 1 23 [.ref (ad 17), .int l1] M (.inl none) Mf := by
  refine CT.of (kt := kX0_gatherHalf) (by decide) kX0_gatherHalf_ok (Nat.le_of_ble_eq_true rfl) ?_
  intro p e s m args below meth c hX hr ht
  unfold X0_gatherHalf at h
  refine J.sub (L' := [(0, .ref (ad 17)), (1, .int l1)]) [0, 1] rfl ?_
  refine J.aload_n hX 0 0 rfl rfl ?_
  refine J.getR hX 1 17 0 (hX.lt (k := 17) (by decide)) sh_17 rfl in_wsX00 5 (by decide) w_65 rfl rfl ?_
  refine J.iload_n hX 2 1 rfl rfl ?_
  obtain ⟨t1, et1, hb, h⟩ := ld_inv h
  refine J.ialdN hX 3 21 (hX.lt (k := 21) (by decide)) sh_21 hb et1 rfl ?_
  refine J.if_ne (tgt := 22) hX 4 rfl (by decide) (fun b1 => ?_) (fun b1 => ?_)
  · rw [if_neg b1] at h
    refine J.sub (L' := [(0, .ref (ad 17)), (1, .int l1)]) [0, 1] rfl ?_
    exact X0_gatherHalf_j22_ok hX  hr ht h
  · rw [if_pos b1] at h
    refine J.aload_n hX 5 0 rfl rfl ?_
    refine J.iload_n hX 6 1 rfl rfl ?_
    refine J.bipush (v := 21) hX 7 rfl (by decide) ?_
    refine J.iadd hX 8 rfl ?_
    refine J.iload_n hX 9 1 rfl rfl ?_
    refine J.bipush (v := 21) hX 10 rfl (by decide) ?_
    refine J.iadd hX 11 rfl ?_
    refine J.iconst (v := 1) hX 12 rfl (by decide) ?_
    obtain ⟨N3, hc, h⟩ := bd1_inv h
    refine J.callV0 (As := [.int (l1 + 21), .int (l1 + 21), .int 1]) (rest := []) (k := 17) hX 13 rfl (mX0_gatherCut  hc) okX0_gatherCut w_539 (hX.lt (k := 17) (by decide)) sh_17 rfl rfl rfl (Nat.le_of_ble_eq_true rfl) ⟨Nat.le_of_ble_eq_true rfl, Nat.le_of_ble_eq_true rfl⟩ ⟨Nat.zero_le _, Nat.zero_le _⟩ ?_
    refine J.sub (L' := [(0, .ref (ad 17)), (1, .int l1)]) [0, 1] rfl ?_
    exact X0_gatherHalf_j22_ok hX  hr ht h
def X0_gatherPieces_L23 (l1 : Int32) (l4 : Int32) (t2 : Int32) (t4 : Int32) (q9 : Int32 × Mem) : Option ((Int32 × Mem) ⊕ (Mem)) := un2 q9 (fun c1 N1 => if l1 ≤ c1 then (some (.inr N1)) else (bd1 (X0_gatherCut N1 t2 t4 l4) (fun N2 => bnd (c1 + 1) (fun t5 => some (.inl (t5, N2))))))
def X0_gatherPieces (M : Mem) (l1 : Int32) (l2 : Int32) (l3 : Int32) (l4 : Int32) : Option (Mem) := bnd (if l2 < l3 then l3 else l2) (fun t1 => bnd ((t1 + 12)) (fun t2 => bnd (if l3 < l2 then l3 else l2) (fun t3 => bnd ((t3 + 12)) (fun t4 => bd1 (loop (X0_gatherPieces_L23 l1 l4 t2 t4) 3000 (0, M)) (fun N3 => some N3)))))
set_option maxHeartbeats 4000000 in
set_option maxRecDepth 100000 in
theorem X0_gatherPieces_L23_ok (hX : Cx p s m args meth c D cA ad n A sa cX0_gatherPieces 8 RX0 kX0_gatherPieces) {N1 : Mem} {l1 : Int32} {l4 : Int32} {t2 : Int32} {t4 : Int32} {c1 : Int32}  {r : (Int32 × Mem) ⊕ (Mem)} (h : X0_gatherPieces_L23 l1 l4 t2 t4 (c1, N1) = some r) (hin : ∀ (q0 : Int32) (Mq : Mem), r = .inl (q0, Mq) → JM 1 23 p l e s m args below meth c D cA ad n A 8 out M1 Mq 23 [(0, .ref (ad 17)), (1, .int l1), (4, .int l4), (5, .int t2), (6, .int t4), (7, .int q0)] []) (hex0 : ∀  (Mq : Mem), r = .inr Mq → JM 1 23 p l e s m args below meth c D cA ad n A 8 out M1 Mq 45 [] []) : JM 1 23 p l e s m args below meth c D cA ad n A 8 out M1 N1 23 [(0, .ref (ad 17)), (1, .int l1), (4, .int l4), (5, .int t2), (6, .int t4), (7, .int c1)] [] := by
  unfold X0_gatherPieces_L23 at h
  have h := un2_inv h
  refine J.iload hX 14 5 rfl rfl ?_
  refine J.iload_n hX 15 1 rfl rfl ?_
  refine J.icmp_ge (tgt := 45) hX 16 rfl (by decide) (fun b1 => ?_) (fun b1 => ?_)
  · rw [if_pos b1] at h
    refine J.sub (L' := []) [] rfl ?_
    exact hex0 _ (Option.some.inj h).symm
  · rw [if_neg b1] at h
    refine J.aload_n hX 17 0 rfl rfl ?_
    refine J.iload hX 18 3 rfl rfl ?_
    refine J.iload hX 19 4 rfl rfl ?_
    refine J.iload hX 20 2 rfl rfl ?_
    obtain ⟨N2, hc, h⟩ := bd1_inv h
    refine J.callV0 (As := [.int t2, .int t4, .int l4]) (rest := []) (k := 17) hX 21 rfl (mX0_gatherCut  hc) okX0_gatherCut w_539 (hX.lt (k := 17) (by decide)) sh_17 rfl rfl rfl (Nat.le_of_ble_eq_true rfl) ⟨Nat.le_of_ble_eq_true rfl, Nat.le_of_ble_eq_true rfl⟩ ⟨Nat.zero_le _, Nat.zero_le _⟩ ?_
    obtain ⟨t5, et5, h⟩ := bnd_inv h
    refine J.iinc (q := 5) (L' := [(7, .int t5), (0, .ref (ad 17)), (1, .int l1), (4, .int l4), (5, .int t2), (6, .int t4)]) hX 22 rfl rfl et5 (by decide) rfl ?_
    refine J.goto (tgt := 23) hX 23 rfl (by decide) ?_
    refine J.sub (L' := [(0, .ref (ad 17)), (1, .int l1), (4, .int l4), (5, .int t2), (6, .int t4), (7, .int t5)]) [1, 2, 3, 4, 5, 0] rfl ?_
    exact hin _ _ (Option.some.inj h).symm
set_option maxHeartbeats 4000000 in
set_option maxRecDepth 100000 in
theorem mX0_gatherPieces {l : Launch} {D : va_G} {cA : Nat → ClassId} {ad : Nat → Nat} {n : Nat} {A : Nat → Prop} {sa : Nat → Nat} {M : Mem} {l1 : Int32} {l2 : Int32} {l3 : Int32} {l4 : Int32} {Mf : Mem} (h : X0_gatherPieces M l1 l2 l3 l4 = some Mf) : CT l D cA ad n A sa yX0_gatherPieces cX0_gatherPieces 8 none 1 23 [.ref (ad 17), .int l1, .int l2, .int l3, .int l4] M (.inl none) Mf := by
  refine CT.of (kt := kX0_gatherPieces) (by decide) kX0_gatherPieces_ok (Nat.le_of_ble_eq_true rfl) ?_
  intro p e s m args below meth c hX hr ht
  unfold X0_gatherPieces at h
  refine J.sub (L' := [(0, .ref (ad 17)), (1, .int l1), (2, .int l2), (3, .int l3), (4, .int l4)]) [0, 1, 2, 3, 4] rfl ?_
  refine J.iload_n hX 0 2 rfl rfl ?_
  refine J.iload_n hX 1 3 rfl rfl ?_
  obtain ⟨t1, et1, h⟩ := bnd_inv h
  refine J.mmax hX 2 rfl w_565 w_555 w_533 w_556 (Nat.le_of_ble_eq_true rfl) (Nat.le_of_ble_eq_true rfl) (Nat.zero_le _) (Nat.zero_le _) ?_
  refine J.nm et1 ?_
  refine J.bipush (v := 12) hX 3 rfl (by decide) ?_
  refine J.iadd hX 4 rfl ?_
  obtain ⟨t2, et2, h⟩ := bnd_inv h
  refine J.nm et2 ?_
  refine J.istore (L' := [(5, .int t2), (0, .ref (ad 17)), (1, .int l1), (2, .int l2), (3, .int l3), (4, .int l4)]) hX 5 rfl (by decide) rfl ?_
  refine J.iload_n hX 6 3 rfl rfl ?_
  refine J.iload_n hX 7 4 rfl rfl ?_
  obtain ⟨t3, et3, h⟩ := bnd_inv h
  refine J.mmin hX 8 rfl w_566 w_552 w_533 w_553 (Nat.le_of_ble_eq_true rfl) (Nat.le_of_ble_eq_true rfl) (Nat.zero_le _) (Nat.zero_le _) ?_
  refine J.nm et3 ?_
  refine J.bipush (v := 12) hX 9 rfl (by decide) ?_
  refine J.iadd hX 10 rfl ?_
  obtain ⟨t4, et4, h⟩ := bnd_inv h
  refine J.nm et4 ?_
  refine J.istore (L' := [(6, .int t4), (5, .int t2), (0, .ref (ad 17)), (1, .int l1), (2, .int l2), (3, .int l3), (4, .int l4)]) hX 11 rfl (by decide) rfl ?_
  refine J.iconst (v := 0) hX 12 rfl (by decide) ?_
  refine J.istore (L' := [(7, .int 0), (6, .int t4), (5, .int t2), (0, .ref (ad 17)), (1, .int l1), (2, .int l2), (3, .int l3), (4, .int l4)]) hX 13 rfl (by decide) rfl ?_
  refine J.sub (L' := [(0, .ref (ad 17)), (1, .int l1), (4, .int l4), (5, .int t2), (6, .int t4), (7, .int 0)]) [3, 4, 7, 2, 1, 0] rfl ?_
  obtain ⟨N3, hlp, h⟩ := bd1_inv h
  suffices hE : JM 1 23 p l e s m args below meth c D cA ad n A 8 (.inl none) Mf N3 45 [] [] by
    exact loop_ok (fun q9 : Int32 × Mem => JM 1 23 p l e s m args below meth c D cA ad n A 8 (.inl none) Mf q9.2 23 [(0, .ref (ad 17)), (1, .int l1), (4, .int l4), (5, .int t2), (6, .int t4), (7, .int q9.1)] []) (fun q9 r hB hst hex9 => X0_gatherPieces_L23_ok hX  hB (fun _ _ hr => hst _ hr) (fun _ hr => by cases hex9 _ hr; exact hE)) 3000 _ hlp
  cases h
  exact J.vret hX hr 24 rfl
def X0_gatherPatches_L2_j57 (N3 : Mem) (d1 : Nat) (l2 : Int32) (v1 : Int32) : Option ((Int32 × Mem) ⊕ (Mem)) := bnd (v1 + 1) (fun t5 => some (.inl (t5, N3)))
def X0_gatherPatches_L2 (d1 : Nat) (l2 : Int32) (q9 : Int32 × Mem) : Option ((Int32 × Mem) ⊕ (Mem)) := un2 q9 (fun c1 N1 => if 24 ≤ c1 then (some (.inr N1)) else (bd1 (X1_isOfCloth N1 d1 c1 l2) (fun t1 => if t1 = 0 then (X0_gatherPatches_L2_j57 N1 d1 l2 c1) else (bd1 (X1_halfSquareEdge N1 d1 c1) (fun t2 => if t2 ≤ 0 then (bd1 (X1_patchWidth N1 d1 c1) (fun t3 => bd1 (X1_patchHeight N1 d1 c1) (fun t4 => bd1 (X0_gatherPieces N1 1 t3 t4 0) (fun N2 => X0_gatherPatches_L2_j57 N2 d1 l2 c1)))) else (bd1 (X0_gatherHalf N1 t2) (fun N4 => X0_gatherPatches_L2_j57 N4 d1 l2 c1)))))))
def X0_gatherPatches (M : Mem) (d1 : Nat) (l2 : Int32) : Option (Mem) := bd1 (loop (X0_gatherPatches_L2 d1 l2) 3000 (0, M)) (fun N5 => some N5)
set_option maxHeartbeats 4000000 in
set_option maxRecDepth 100000 in
theorem X0_gatherPatches_L2_j57_ok (hX : Cx p s m args meth c D cA ad n A sa cX0_gatherPatches 5 RX0 kX0_gatherPatches) {N3 : Mem} {d1 : Nat} {l2 : Int32} {v1 : Int32} (hd1 : DrOk n d1) {r : (Int32 × Mem) ⊕ (Mem)} (h : X0_gatherPatches_L2_j57 N3 d1 l2 v1 = some r) (hin : ∀ (q0 : Int32) (Mq : Mem), r = .inl (q0, Mq) → JM 3 68 p l e s m args below meth c D cA ad n A 5 out M1 Mq 2 [(0, .ref (ad 17)), (1, .ref (ad d1)), (2, .int l2), (3, .int q0)] []) (hex0 : ∀  (Mq : Mem), r = .inr Mq → JM 3 68 p l e s m args below meth c D cA ad n A 5 out M1 Mq 63 [] []) : JM 3 68 p l e s m args below meth c D cA ad n A 5 out M1 N3 57 [(0, .ref (ad 17)), (1, .ref (ad d1)), (2, .int l2), (3, .int v1)] [] := by
  unfold X0_gatherPatches_L2_j57 at h
  obtain ⟨t5, et5, h⟩ := bnd_inv h
  refine J.iinc (q := 3) (L' := [(3, .int t5), (0, .ref (ad 17)), (1, .ref (ad d1)), (2, .int l2)]) hX 31 rfl rfl et5 (by decide) rfl ?_
  refine J.goto (tgt := 2) hX 32 rfl (by decide) ?_
  refine J.sub (L' := [(0, .ref (ad 17)), (1, .ref (ad d1)), (2, .int l2), (3, .int t5)]) [1, 2, 3, 0] rfl ?_
  exact hin _ _ (Option.some.inj h).symm
set_option maxHeartbeats 4000000 in
set_option maxRecDepth 100000 in
theorem X0_gatherPatches_L2_ok (hX : Cx p s m args meth c D cA ad n A sa cX0_gatherPatches 5 RX0 kX0_gatherPatches) {N1 : Mem} {d1 : Nat} {l2 : Int32} {c1 : Int32} (hd1 : DrOk n d1) {r : (Int32 × Mem) ⊕ (Mem)} (h : X0_gatherPatches_L2 d1 l2 (c1, N1) = some r) (hin : ∀ (q0 : Int32) (Mq : Mem), r = .inl (q0, Mq) → JM 3 68 p l e s m args below meth c D cA ad n A 5 out M1 Mq 2 [(0, .ref (ad 17)), (1, .ref (ad d1)), (2, .int l2), (3, .int q0)] []) (hex0 : ∀  (Mq : Mem), r = .inr Mq → JM 3 68 p l e s m args below meth c D cA ad n A 5 out M1 Mq 63 [] []) : JM 3 68 p l e s m args below meth c D cA ad n A 5 out M1 N1 2 [(0, .ref (ad 17)), (1, .ref (ad d1)), (2, .int l2), (3, .int c1)] [] := by
  unfold X0_gatherPatches_L2 at h
  have h := un2_inv h
  refine J.iload_n hX 2 3 rfl rfl ?_
  refine J.bipush (v := 24) hX 3 rfl (by decide) ?_
  refine J.icmp_ge (tgt := 63) hX 4 rfl (by decide) (fun b1 => ?_) (fun b1 => ?_)
  · rw [if_pos b1] at h
    refine J.sub (L' := []) [] rfl ?_
    exact hex0 _ (Option.some.inj h).symm
  · rw [if_neg b1] at h
    refine J.aload_n hX 5 1 rfl rfl ?_
    refine J.iload_n hX 6 3 rfl rfl ?_
    refine J.iload_n hX 7 2 rfl rfl ?_
    obtain ⟨t1, hc, h⟩ := bd1_inv h
    refine J.callV1 (As := [.int c1, .int l2]) (rest := []) (k := d1) hX 8 rfl (mX1_isOfCloth hd1 hc) okX1_isOfCloth w_526 hd1.lt0 hd1.s0 rfl rfl rfl (Nat.le_of_ble_eq_true rfl) ⟨Nat.le_of_ble_eq_true rfl, Nat.le_of_ble_eq_true rfl⟩ ⟨Nat.zero_le _, Nat.zero_le _⟩ ?_
    refine J.if_ne (tgt := 20) hX 9 rfl (by decide) (fun b2 => ?_) (fun b2 => ?_)
    · rw [if_neg b2] at h
      refine J.aload_n hX 11 1 rfl rfl ?_
      refine J.iload_n hX 12 3 rfl rfl ?_
      obtain ⟨t2, hc, h⟩ := bd1_inv h
      refine J.callV1 (As := [.int c1]) (rest := []) (k := d1) hX 13 rfl (mX1_halfSquareEdge hd1 hc) okX1_halfSquareEdge w_527 hd1.lt0 hd1.s0 rfl rfl rfl (Nat.le_of_ble_eq_true rfl) ⟨Nat.le_of_ble_eq_true rfl, Nat.le_of_ble_eq_true rfl⟩ ⟨Nat.zero_le _, Nat.zero_le _⟩ ?_
      refine J.istore (L' := [(4, .int t2), (0, .ref (ad 17)), (1, .ref (ad d1)), (2, .int l2), (3, .int c1)]) hX 14 rfl (by decide) rfl ?_
      refine J.iload hX 15 0 rfl rfl ?_
      refine J.if_le (tgt := 41) hX 16 rfl (by decide) (fun b3 => ?_) (fun b3 => ?_)
      · rw [if_pos b3] at h
        refine J.aload_n hX 21 1 rfl rfl ?_
        refine J.iconst (v := 1) hX 22 rfl (by decide) ?_
        refine J.aload_n hX 23 2 rfl rfl ?_
        refine J.iload_n hX 24 4 rfl rfl ?_
        obtain ⟨t3, hc, h⟩ := bd1_inv h
        refine J.callV1 (As := [.int c1]) (rest := [.int 1, .ref (ad 17)]) (k := d1) hX 25 rfl (mX1_patchWidth hd1 hc) okX1_patchWidth w_543 hd1.lt0 hd1.s0 rfl rfl rfl (Nat.le_of_ble_eq_true rfl) ⟨Nat.le_of_ble_eq_true rfl, Nat.le_of_ble_eq_true rfl⟩ ⟨Nat.zero_le _, Nat.zero_le _⟩ ?_
        refine J.aload_n hX 26 2 rfl rfl ?_
        refine J.iload_n hX 27 4 rfl rfl ?_
        obtain ⟨t4, hc, h⟩ := bd1_inv h
        refine J.callV1 (As := [.int c1]) (rest := [.int t3, .int 1, .ref (ad 17)]) (k := d1) hX 28 rfl (mX1_patchHeight hd1 hc) okX1_patchHeight w_557 hd1.lt0 hd1.s0 rfl rfl rfl (Nat.le_of_ble_eq_true rfl) ⟨Nat.le_of_ble_eq_true rfl, Nat.le_of_ble_eq_true rfl⟩ ⟨Nat.zero_le _, Nat.zero_le _⟩ ?_
        refine J.iconst (v := 0) hX 29 rfl (by decide) ?_
        obtain ⟨N2, hc, h⟩ := bd1_inv h
        refine J.callV0 (As := [.int 1, .int t3, .int t4, .int 0]) (rest := []) (k := 17) hX 30 rfl (mX0_gatherPieces  hc) okX0_gatherPieces w_561 (hX.lt (k := 17) (by decide)) sh_17 rfl rfl rfl (Nat.le_of_ble_eq_true rfl) ⟨Nat.le_of_ble_eq_true rfl, Nat.le_of_ble_eq_true rfl⟩ ⟨Nat.zero_le _, Nat.zero_le _⟩ ?_
        refine J.sub (L' := [(0, .ref (ad 17)), (1, .ref (ad d1)), (2, .int l2), (3, .int c1)]) [1, 2, 3, 4] rfl ?_
        exact X0_gatherPatches_L2_j57_ok hX hd1 h hin hex0
      · rw [if_neg b3] at h
        refine J.aload_n hX 17 1 rfl rfl ?_
        refine J.iload hX 18 0 rfl rfl ?_
        obtain ⟨N4, hc, h⟩ := bd1_inv h
        refine J.callV0 (As := [.int t2]) (rest := []) (k := 17) hX 19 rfl (mX0_gatherHalf  hc) okX0_gatherHalf w_535 (hX.lt (k := 17) (by decide)) sh_17 rfl rfl rfl (Nat.le_of_ble_eq_true rfl) ⟨Nat.le_of_ble_eq_true rfl, Nat.le_of_ble_eq_true rfl⟩ ⟨Nat.zero_le _, Nat.zero_le _⟩ ?_
        refine J.goto (tgt := 57) hX 20 rfl (by decide) ?_
        refine J.sub (L' := [(0, .ref (ad 17)), (1, .ref (ad d1)), (2, .int l2), (3, .int c1)]) [1, 2, 3, 4] rfl ?_
        exact X0_gatherPatches_L2_j57_ok hX hd1 h hin hex0
    · rw [if_pos b2] at h
      refine J.goto (tgt := 57) hX 10 rfl (by decide) ?_
      refine J.sub (L' := [(0, .ref (ad 17)), (1, .ref (ad d1)), (2, .int l2), (3, .int c1)]) [0, 1, 2, 3] rfl ?_
      exact X0_gatherPatches_L2_j57_ok hX hd1 h hin hex0
set_option maxHeartbeats 4000000 in
set_option maxRecDepth 100000 in
theorem mX0_gatherPatches {l : Launch} {D : va_G} {cA : Nat → ClassId} {ad : Nat → Nat} {n : Nat} {A : Nat → Prop} {sa : Nat → Nat} {M : Mem} {d1 : Nat} {l2 : Int32} {Mf : Mem} (hd1 : DrOk n d1) (h : X0_gatherPatches M d1 l2 = some Mf) : CT l D cA ad n A sa yX0_gatherPatches cX0_gatherPatches 5 none 3 68 [.ref (ad 17), .ref (ad d1), .int l2] M (.inl none) Mf := by
  refine CT.of (kt := kX0_gatherPatches) (by decide) kX0_gatherPatches_ok (Nat.le_of_ble_eq_true rfl) ?_
  intro p e s m args below meth c hX hr ht
  unfold X0_gatherPatches at h
  refine J.sub (L' := [(0, .ref (ad 17)), (1, .ref (ad d1)), (2, .int l2)]) [0, 1, 2] rfl ?_
  refine J.iconst (v := 0) hX 0 rfl (by decide) ?_
  refine J.istore_n (L' := [(3, .int 0), (0, .ref (ad 17)), (1, .ref (ad d1)), (2, .int l2)]) hX 1 rfl (by decide) rfl ?_
  refine J.sub (L' := [(0, .ref (ad 17)), (1, .ref (ad d1)), (2, .int l2), (3, .int 0)]) [1, 2, 3, 0] rfl ?_
  obtain ⟨N5, hlp, h⟩ := bd1_inv h
  suffices hE : JM 3 68 p l e s m args below meth c D cA ad n A 5 (.inl none) Mf N5 63 [] [] by
    exact loop_ok (fun q9 : Int32 × Mem => JM 3 68 p l e s m args below meth c D cA ad n A 5 (.inl none) Mf q9.2 2 [(0, .ref (ad 17)), (1, .ref (ad d1)), (2, .int l2), (3, .int q9.1)] []) (fun q9 r hB hst hex9 => X0_gatherPatches_L2_ok hX hd1 hB (fun _ _ hr => hst _ hr) (fun _ hr => by cases hex9 _ hr; exact hE)) 3000 _ hlp
  cases h
  exact J.vret hX hr 33 rfl
def X0_gatherSashes (M : Mem) (l2 : Int32) (l3 : Int32) : Option (Mem) := ld M 14 2 0 (fun t1 => if t1 ≤ 0 then (some M) else (bd1 (X0_gatherPieces M (l2 * (l3 - 1)) 96 t1 2) (fun N1 => bd1 (X3_reach N1 l3) (fun t2 => bd1 (X0_gatherPieces N1 (l2 - 1) t2 t1 2) (fun N2 => some N2)))))
set_option maxHeartbeats 4000000 in
set_option maxRecDepth 100000 in
theorem mX0_gatherSashes {l : Launch} {D : va_G} {cA : Nat → ClassId} {ad : Nat → Nat} {n : Nat} {A : Nat → Prop} {sa : Nat → Nat} {M : Mem} {l2 : Int32} {l3 : Int32} {Mf : Mem} (h : X0_gatherSashes M l2 l3 = some Mf) : CT l D cA ad n A sa yX0_gatherSashes cX0_gatherSashes 5 none 2 50 [.ref (ad 17), .ref (ad 10), .int l2, .int l3] M (.inl none) Mf := by
  refine CT.of (kt := kX0_gatherSashes) (by decide) kX0_gatherSashes_ok (Nat.le_of_ble_eq_true rfl) ?_
  intro p e s m args below meth c hX hr ht
  unfold X0_gatherSashes at h
  refine J.sub (L' := [(0, .ref (ad 17)), (1, .ref (ad 10)), (2, .int l2), (3, .int l3)]) [0, 1, 2, 3] rfl ?_
  refine J.aload_n hX 0 1 rfl rfl ?_
  refine J.getR hX 1 10 3 (hX.lt (k := 10) (by decide)) sh_10 rfl in_wsX30 4 (by decide) w_580 rfl rfl ?_
  refine J.iconst (v := 0) hX 2 rfl (by decide) ?_
  obtain ⟨t1, et1, hb, h⟩ := ld_inv h
  refine J.ialdN hX 3 14 (hX.lt (k := 14) (by decide)) sh_14 hb et1 rfl ?_
  refine J.istore (L' := [(4, .int t1), (0, .ref (ad 17)), (1, .ref (ad 10)), (2, .int l2), (3, .int l3)]) hX 4 rfl (by decide) rfl ?_
  refine J.iload hX 5 0 rfl rfl ?_
  refine J.if_le (tgt := 42) hX 6 rfl (by decide) (fun b1 => ?_) (fun b1 => ?_)
  · rw [if_pos b1] at h
    cases h
    exact J.vret hX hr 27 rfl
  · rw [if_neg b1] at h
    refine J.aload_n hX 7 1 rfl rfl ?_
    refine J.iload_n hX 8 3 rfl rfl ?_
    refine J.iload_n hX 9 4 rfl rfl ?_
    refine J.iconst (v := 1) hX 10 rfl (by decide) ?_
    refine J.isub hX 11 rfl ?_
    refine J.imul hX 12 rfl ?_
    refine J.bipush (v := 96) hX 13 rfl (by decide) ?_
    refine J.iload hX 14 0 rfl rfl ?_
    refine J.iconst (v := 2) hX 15 rfl (by decide) ?_
    obtain ⟨N1, hc, h⟩ := bd1_inv h
    refine J.callV0 (As := [.int (l2 * (l3 - 1)), .int 96, .int t1, .int 2]) (rest := []) (k := 17) hX 16 rfl (mX0_gatherPieces  hc) okX0_gatherPieces w_561 (hX.lt (k := 17) (by decide)) sh_17 rfl rfl rfl (Nat.le_of_ble_eq_true rfl) ⟨Nat.le_of_ble_eq_true rfl, Nat.le_of_ble_eq_true rfl⟩ ⟨Nat.zero_le _, Nat.zero_le _⟩ ?_
    refine J.aload_n hX 17 1 rfl rfl ?_
    refine J.iload_n hX 18 3 rfl rfl ?_
    refine J.iconst (v := 1) hX 19 rfl (by decide) ?_
    refine J.isub hX 20 rfl ?_
    refine J.aload_n hX 21 2 rfl rfl ?_
    refine J.iload_n hX 22 4 rfl rfl ?_
    obtain ⟨t2, hc, h⟩ := bd1_inv h
    refine J.callV1 (As := [.int l3]) (rest := [.int (l2 - 1), .ref (ad 17)]) (k := 10) hX 23 rfl (mX3_reach  hc) okX3_reach w_581 (hX.lt (k := 10) (by decide)) sh_10 rfl rfl rfl (Nat.le_of_ble_eq_true rfl) ⟨Nat.le_of_ble_eq_true rfl, Nat.le_of_ble_eq_true rfl⟩ ⟨Nat.zero_le _, Nat.zero_le _⟩ ?_
    refine J.iload hX 24 0 rfl rfl ?_
    refine J.iconst (v := 2) hX 25 rfl (by decide) ?_
    obtain ⟨N2, hc, h⟩ := bd1_inv h
    refine J.callV0 (As := [.int (l2 - 1), .int t2, .int t1, .int 2]) (rest := []) (k := 17) hX 26 rfl (mX0_gatherPieces  hc) okX0_gatherPieces w_561 (hX.lt (k := 17) (by decide)) sh_17 rfl rfl rfl (Nat.le_of_ble_eq_true rfl) ⟨Nat.le_of_ble_eq_true rfl, Nat.le_of_ble_eq_true rfl⟩ ⟨Nat.zero_le _, Nat.zero_le _⟩ ?_
    cases h
    exact J.vret hX hr 27 rfl
def X0_gatherBorder (M : Mem) (l2 : Int32) (l3 : Int32) : Option (Mem) := ld M 14 2 1 (fun t1 => if t1 ≤ 0 then (some M) else (bd1 (X3_reach M l3) (fun t2 => bd1 (X0_gatherPieces M 2 t2 t1 3) (fun N1 => bd1 (X3_withBorder N1 l2) (fun t3 => bd1 (X0_gatherPieces N1 2 t3 t1 3) (fun N2 => some N2))))))
set_option maxHeartbeats 4000000 in
set_option maxRecDepth 100000 in
theorem mX0_gatherBorder {l : Launch} {D : va_G} {cA : Nat → ClassId} {ad : Nat → Nat} {n : Nat} {A : Nat → Prop} {sa : Nat → Nat} {M : Mem} {l2 : Int32} {l3 : Int32} {Mf : Mem} (h : X0_gatherBorder M l2 l3 = some Mf) : CT l D cA ad n A sa yX0_gatherBorder cX0_gatherBorder 5 none 2 50 [.ref (ad 17), .ref (ad 10), .int l2, .int l3] M (.inl none) Mf := by
  refine CT.of (kt := kX0_gatherBorder) (by decide) kX0_gatherBorder_ok (Nat.le_of_ble_eq_true rfl) ?_
  intro p e s m args below meth c hX hr ht
  unfold X0_gatherBorder at h
  refine J.sub (L' := [(0, .ref (ad 17)), (1, .ref (ad 10)), (2, .int l2), (3, .int l3)]) [0, 1, 2, 3] rfl ?_
  refine J.aload_n hX 0 1 rfl rfl ?_
  refine J.getR hX 1 10 3 (hX.lt (k := 10) (by decide)) sh_10 rfl in_wsX30 4 (by decide) w_580 rfl rfl ?_
  refine J.iconst (v := 1) hX 2 rfl (by decide) ?_
  obtain ⟨t1, et1, hb, h⟩ := ld_inv h
  refine J.ialdN hX 3 14 (hX.lt (k := 14) (by decide)) sh_14 hb et1 rfl ?_
  refine J.istore (L' := [(4, .int t1), (0, .ref (ad 17)), (1, .ref (ad 10)), (2, .int l2), (3, .int l3)]) hX 4 rfl (by decide) rfl ?_
  refine J.iload hX 5 0 rfl rfl ?_
  refine J.if_le (tgt := 39) hX 6 rfl (by decide) (fun b1 => ?_) (fun b1 => ?_)
  · rw [if_pos b1] at h
    cases h
    exact J.vret hX hr 23 rfl
  · rw [if_neg b1] at h
    refine J.aload_n hX 7 1 rfl rfl ?_
    refine J.iconst (v := 2) hX 8 rfl (by decide) ?_
    refine J.aload_n hX 9 2 rfl rfl ?_
    refine J.iload_n hX 10 4 rfl rfl ?_
    obtain ⟨t2, hc, h⟩ := bd1_inv h
    refine J.callV1 (As := [.int l3]) (rest := [.int 2, .ref (ad 17)]) (k := 10) hX 11 rfl (mX3_reach  hc) okX3_reach w_581 (hX.lt (k := 10) (by decide)) sh_10 rfl rfl rfl (Nat.le_of_ble_eq_true rfl) ⟨Nat.le_of_ble_eq_true rfl, Nat.le_of_ble_eq_true rfl⟩ ⟨Nat.zero_le _, Nat.zero_le _⟩ ?_
    refine J.iload hX 12 0 rfl rfl ?_
    refine J.iconst (v := 3) hX 13 rfl (by decide) ?_
    obtain ⟨N1, hc, h⟩ := bd1_inv h
    refine J.callV0 (As := [.int 2, .int t2, .int t1, .int 3]) (rest := []) (k := 17) hX 14 rfl (mX0_gatherPieces  hc) okX0_gatherPieces w_561 (hX.lt (k := 17) (by decide)) sh_17 rfl rfl rfl (Nat.le_of_ble_eq_true rfl) ⟨Nat.le_of_ble_eq_true rfl, Nat.le_of_ble_eq_true rfl⟩ ⟨Nat.zero_le _, Nat.zero_le _⟩ ?_
    refine J.aload_n hX 15 1 rfl rfl ?_
    refine J.iconst (v := 2) hX 16 rfl (by decide) ?_
    refine J.aload_n hX 17 2 rfl rfl ?_
    refine J.iload_n hX 18 3 rfl rfl ?_
    obtain ⟨t3, hc, h⟩ := bd1_inv h
    refine J.callV1 (As := [.int l2]) (rest := [.int 2, .ref (ad 17)]) (k := 10) hX 19 rfl (mX3_withBorder  hc) okX3_withBorder w_589 (hX.lt (k := 10) (by decide)) sh_10 rfl rfl rfl (Nat.le_of_ble_eq_true rfl) ⟨Nat.le_of_ble_eq_true rfl, Nat.le_of_ble_eq_true rfl⟩ ⟨Nat.zero_le _, Nat.zero_le _⟩ ?_
    refine J.iload hX 20 0 rfl rfl ?_
    refine J.iconst (v := 3) hX 21 rfl (by decide) ?_
    obtain ⟨N2, hc, h⟩ := bd1_inv h
    refine J.callV0 (As := [.int 2, .int t3, .int t1, .int 3]) (rest := []) (k := 17) hX 22 rfl (mX0_gatherPieces  hc) okX0_gatherPieces w_561 (hX.lt (k := 17) (by decide)) sh_17 rfl rfl rfl (Nat.le_of_ble_eq_true rfl) ⟨Nat.le_of_ble_eq_true rfl, Nat.le_of_ble_eq_true rfl⟩ ⟨Nat.zero_le _, Nat.zero_le _⟩ ?_
    cases h
    exact J.vret hX hr 23 rfl
def X0_gather_L15_j40 (n : Nat) (N4 : Mem) (l2 : Int32) (v1 : Int32) : Option ((Int32 × Mem) ⊕ (Mem)) := bnd (v1 + 1) (fun t2 => some (.inl (t2, N4)))
def X0_gather_L15 (n : Nat) (l2 : Int32) (q9 : Int32 × Mem) : Option ((Int32 × Mem) ⊕ (Mem)) := un2 q9 (fun c1 N3 => if 36 ≤ c1 then (some (.inr N3)) else (bd1 (X3_blockAt n N3 c1) (fun t1 => if t1 = 0 then (X0_gather_L15_j40 n N3 l2 c1) else (chk (drok n t1) (bd1 (X0_gatherPatches N3 (t1.toNatClampNeg) l2) (fun N5 => X0_gather_L15_j40 n N5 l2 c1))))))
def X0_gather_j79 (n : Nat) (N7 : Mem) (l2 : Int32) (v2 : Int32) (v3 : Int32) : Option (Mem) := if v2 ≤ 0 then (some N7) else (ld N7 15 2 1 (fun t5 => if t5 = l2 then (bd1 (X0_gatherBorder N7 v2 v3) (fun N8 => some N8)) else (some N7)))
def X0_gather (n : Nat) (M : Mem) (l2 : Int32) : Option (Mem) := bnd (wr M 17 1 0) (fun N1 => bd1 (J7_fill_53178 N1 21 97 0) (fun N2 => bd1 (loop (X0_gather_L15 n l2) 3000 (0, N2)) (fun N6 => bd1 (X3_usedRows N6) (fun t3 => bd1 (X3_usedColumns N6) (fun t4 => if t3 ≤ 0 then (X0_gather_j79 n N6 l2 t3 t4) else (ld N6 15 2 0 (fun t6 => if t6 = l2 then (bd1 (X0_gatherSashes N6 t3 t4) (fun N9 => X0_gather_j79 n N9 l2 t3 t4)) else (X0_gather_j79 n N6 l2 t3 t4))))))))
set_option maxHeartbeats 4000000 in
set_option maxRecDepth 100000 in
theorem X0_gather_L15_j40_ok (hX : Cx p s m args meth c D cA ad n A sa cX0_gather 5 RX0 kX0_gather) {N4 : Mem} {l2 : Int32} {v1 : Int32}  {r : (Int32 × Mem) ⊕ (Mem)} (h : X0_gather_L15_j40 n N4 l2 v1 = some r) (hin : ∀ (q0 : Int32) (Mq : Mem), r = .inl (q0, Mq) → JM 4 92 p l e s m args below meth c D cA ad n A 5 out M1 Mq 15 [(0, .ref (ad 17)), (1, .ref (ad 10)), (2, .int l2), (3, .int q0)] []) (hex0 : ∀  (Mq : Mem), r = .inr Mq → JM 4 92 p l e s m args below meth c D cA ad n A 5 out M1 Mq 46 [(0, .ref (ad 17)), (1, .ref (ad 10)), (2, .int l2)] []) : JM 4 92 p l e s m args below meth c D cA ad n A 5 out M1 N4 40 [(0, .ref (ad 17)), (1, .ref (ad 10)), (2, .int l2), (3, .int v1)] [] := by
  unfold X0_gather_L15_j40 at h
  obtain ⟨t2, et2, h⟩ := bnd_inv h
  refine J.iinc (q := 3) (L' := [(3, .int t2), (0, .ref (ad 17)), (1, .ref (ad 10)), (2, .int l2)]) hX 22 rfl rfl et2 (by decide) rfl ?_
  refine J.goto (tgt := 15) hX 23 rfl (by decide) ?_
  refine J.sub (L' := [(0, .ref (ad 17)), (1, .ref (ad 10)), (2, .int l2), (3, .int t2)]) [1, 2, 3, 0] rfl ?_
  exact hin _ _ (Option.some.inj h).symm
set_option maxHeartbeats 4000000 in
set_option maxRecDepth 100000 in
theorem X0_gather_L15_ok (hX : Cx p s m args meth c D cA ad n A sa cX0_gather 5 RX0 kX0_gather) {N3 : Mem} {l2 : Int32} {c1 : Int32}  {r : (Int32 × Mem) ⊕ (Mem)} (h : X0_gather_L15 n l2 (c1, N3) = some r) (hin : ∀ (q0 : Int32) (Mq : Mem), r = .inl (q0, Mq) → JM 4 92 p l e s m args below meth c D cA ad n A 5 out M1 Mq 15 [(0, .ref (ad 17)), (1, .ref (ad 10)), (2, .int l2), (3, .int q0)] []) (hex0 : ∀  (Mq : Mem), r = .inr Mq → JM 4 92 p l e s m args below meth c D cA ad n A 5 out M1 Mq 46 [(0, .ref (ad 17)), (1, .ref (ad 10)), (2, .int l2)] []) : JM 4 92 p l e s m args below meth c D cA ad n A 5 out M1 N3 15 [(0, .ref (ad 17)), (1, .ref (ad 10)), (2, .int l2), (3, .int c1)] [] := by
  unfold X0_gather_L15 at h
  have h := un2_inv h
  refine J.iload_n hX 9 3 rfl rfl ?_
  refine J.bipush (v := 36) hX 10 rfl (by decide) ?_
  refine J.icmp_ge (tgt := 46) hX 11 rfl (by decide) (fun b1 => ?_) (fun b1 => ?_)
  · rw [if_pos b1] at h
    refine J.sub (L' := [(0, .ref (ad 17)), (1, .ref (ad 10)), (2, .int l2)]) [0, 1, 2] rfl ?_
    exact hex0 _ (Option.some.inj h).symm
  · rw [if_neg b1] at h
    refine J.aload_n hX 12 1 rfl rfl ?_
    refine J.iload_n hX 13 3 rfl rfl ?_
    obtain ⟨t1, hc, h⟩ := bd1_inv h
    refine J.callV1 (As := [.int c1]) (rest := []) (k := 10) hX 14 rfl (mX3_blockAt  hc) okX3_blockAt w_521 (hX.lt (k := 10) (by decide)) sh_10 rfl rfl rfl (Nat.le_of_ble_eq_true rfl) ⟨Nat.le_of_ble_eq_true rfl, Nat.le_of_ble_eq_true rfl⟩ ⟨Nat.zero_le _, Nat.zero_le _⟩ ?_
    refine J.astoreQ (L' := [(4, va_rf (dec ad t1)), (0, .ref (ad 17)), (1, .ref (ad 10)), (2, .int l2), (3, .int c1)]) hX 15 rfl (by decide) rfl ?_
    refine J.aloadQ hX 16 0 rfl rfl ?_
    refine J.ifnull (tgt := 40) hX 17 rfl (by decide) (fun b2 => ?_) (fun b2 => ?_)
    · rw [if_pos b2] at h
      refine J.sub (L' := [(0, .ref (ad 17)), (1, .ref (ad 10)), (2, .int l2), (3, .int c1)]) [1, 2, 3, 4] rfl ?_
      exact X0_gather_L15_j40_ok hX  h hin hex0
    · rw [if_neg b2] at h
      refine J.aload_n hX 18 1 rfl rfl ?_
      obtain ⟨hdt1, h⟩ := chk_inv h
      have hdt1 := drok_ok hdt1
      refine J.aloadQ hX 19 0 rfl rfl ?_
      refine J.isref b2 ?_
      refine J.iload_n hX 20 3 rfl rfl ?_
      obtain ⟨N5, hc, h⟩ := bd1_inv h
      refine J.callV0 (As := [.ref (ad t1.toNatClampNeg), .int l2]) (rest := []) (k := 17) hX 21 rfl (mX0_gatherPatches hdt1 hc) okX0_gatherPatches w_522 (hX.lt (k := 17) (by decide)) sh_17 rfl rfl rfl (Nat.le_of_ble_eq_true rfl) ⟨Nat.le_of_ble_eq_true rfl, Nat.le_of_ble_eq_true rfl⟩ ⟨Nat.zero_le _, Nat.zero_le _⟩ ?_
      refine J.sub (L' := [(0, .ref (ad 17)), (1, .ref (ad 10)), (2, .int l2), (3, .int c1)]) [1, 2, 3, 4] rfl ?_
      exact X0_gather_L15_j40_ok hX  h hin hex0
set_option maxHeartbeats 4000000 in
set_option maxRecDepth 100000 in
theorem X0_gather_j79_ok (hX : Cx p s m args meth c D cA ad n A sa cX0_gather 5 RX0 kX0_gather) {N7 : Mem} {l2 : Int32} {v2 : Int32} {v3 : Int32} {Mf : Mem}  (hr : meth.sig.returnType = none) (ht : ∀ x ∈ c.exceptionTable.toList, False) (h : X0_gather_j79 n N7 l2 v2 v3 = some Mf) : JM 4 92 p l e s m args below meth c D cA ad n A 5 (.inl none) Mf N7 79 [(0, .ref (ad 17)), (1, .ref (ad 10)), (2, .int l2), (3, .int v2), (4, .int v3)] [] := by
  unfold X0_gather_j79 at h
  refine J.iload_n hX 43 3 rfl rfl ?_
  refine J.if_le (tgt := 101) hX 44 rfl (by decide) (fun b4 => ?_) (fun b4 => ?_)
  · rw [if_pos b4] at h
    cases h
    exact J.vret hX hr 56 rfl
  · rw [if_neg b4] at h
    refine J.aload_n hX 45 1 rfl rfl ?_
    refine J.getR hX 46 10 3 (hX.lt (k := 10) (by decide)) sh_10 rfl in_wsX30 5 (by decide) w_519 rfl rfl ?_
    refine J.iconst (v := 1) hX 47 rfl (by decide) ?_
    obtain ⟨t5, et5, hb, h⟩ := ld_inv h
    refine J.ialdN hX 48 15 (hX.lt (k := 15) (by decide)) sh_15 hb et5 rfl ?_
    refine J.iload_n hX 49 2 rfl rfl ?_
    refine J.icmp_ne (tgt := 101) hX 50 rfl (by decide) (fun b5 => ?_) (fun b5 => ?_)
    · rw [if_neg b5] at h
      cases h
      exact J.vret hX hr 56 rfl
    · rw [if_pos b5] at h
      refine J.aload_n hX 51 0 rfl rfl ?_
      refine J.aload_n hX 52 1 rfl rfl ?_
      refine J.iload_n hX 53 3 rfl rfl ?_
      refine J.iload hX 54 4 rfl rfl ?_
      obtain ⟨N8, hc, h⟩ := bd1_inv h
      refine J.callV0 (As := [.ref (ad 10), .int v2, .int v3]) (rest := []) (k := 17) hX 55 rfl (mX0_gatherBorder  hc) okX0_gatherBorder w_585 (hX.lt (k := 17) (by decide)) sh_17 rfl rfl rfl (Nat.le_of_ble_eq_true rfl) ⟨Nat.le_of_ble_eq_true rfl, Nat.le_of_ble_eq_true rfl⟩ ⟨Nat.zero_le _, Nat.zero_le _⟩ ?_
      cases h
      exact J.vret hX hr 56 rfl
set_option maxHeartbeats 4000000 in
set_option maxRecDepth 100000 in
theorem mX0_gather {l : Launch} {D : va_G} {cA : Nat → ClassId} {ad : Nat → Nat} {n : Nat} {A : Nat → Prop} {sa : Nat → Nat} {M : Mem} {l2 : Int32} {Mf : Mem} (h : X0_gather n M l2 = some Mf) : CT l D cA ad n A sa yX0_gather cX0_gather 5 none 4 92 [.ref (ad 17), .ref (ad 10), .int l2] M (.inl none) Mf := by
  refine CT.of (kt := kX0_gather) (by decide) kX0_gather_ok (Nat.le_of_ble_eq_true rfl) ?_
  intro p e s m args below meth c hX hr ht
  unfold X0_gather at h
  refine J.sub (L' := [(0, .ref (ad 17)), (1, .ref (ad 10)), (2, .int l2)]) [0, 1, 2] rfl ?_
  refine J.aload_n hX 0 0 rfl rfl ?_
  refine J.iconst (v := 0) hX 1 rfl (by decide) ?_
  obtain ⟨N1, eN1, h⟩ := bnd_inv h
  refine J.putIN hX 2 17 0 (hX.lt (k := 17) (by decide)) sh_17 rfl in_wsX00 1 (by decide) w_518 tyX0 tyX0_ok nmX0 eN1 rfl rfl (by decide +kernel) rfl ?_
  refine J.aload_n hX 3 0 rfl rfl ?_
  refine J.getR hX 4 17 0 (hX.lt (k := 17) (by decide)) sh_17 rfl in_wsX00 5 (by decide) w_65 rfl rfl ?_
  refine J.iconst (v := 0) hX 5 rfl (by decide) ?_
  obtain ⟨N2, hc, h⟩ := bd1_inv h
  refine J.callS0 (As := [.ref (ad 21), .int 0]) (rest := []) hX 6 rfl (mJ7_fill_53178 (hX.lt (k := 21) (by decide)) sh_21 hc) okJ7_fill_53178 w_520 rfl rfl (Nat.le_of_ble_eq_true rfl) ⟨Nat.le_of_ble_eq_true rfl, Nat.le_of_ble_eq_true rfl⟩ ⟨Nat.zero_le _, Nat.zero_le _⟩ ?_
  refine J.iconst (v := 0) hX 7 rfl (by decide) ?_
  refine J.istore_n (L' := [(3, .int 0), (0, .ref (ad 17)), (1, .ref (ad 10)), (2, .int l2)]) hX 8 rfl (by decide) rfl ?_
  refine J.sub (L' := [(0, .ref (ad 17)), (1, .ref (ad 10)), (2, .int l2), (3, .int 0)]) [1, 2, 3, 0] rfl ?_
  obtain ⟨N6, hlp, h⟩ := bd1_inv h
  suffices hE : JM 4 92 p l e s m args below meth c D cA ad n A 5 (.inl none) Mf N6 46 [(0, .ref (ad 17)), (1, .ref (ad 10)), (2, .int l2)] [] by
    exact loop_ok (fun q9 : Int32 × Mem => JM 4 92 p l e s m args below meth c D cA ad n A 5 (.inl none) Mf q9.2 15 [(0, .ref (ad 17)), (1, .ref (ad 10)), (2, .int l2), (3, .int q9.1)] []) (fun q9 r hB hst hex9 => X0_gather_L15_ok hX  hB (fun _ _ hr => hst _ hr) (fun _ hr => by cases hex9 _ hr; exact hE)) 3000 _ hlp
  refine J.aload_n hX 24 1 rfl rfl ?_
  obtain ⟨t3, hc, h⟩ := bd1_inv h
  refine J.callV1 (As := []) (rest := []) (k := 10) hX 25 rfl (mX3_usedRows  hc) okX3_usedRows w_567 (hX.lt (k := 10) (by decide)) sh_10 rfl rfl rfl (Nat.le_of_ble_eq_true rfl) ⟨Nat.le_of_ble_eq_true rfl, Nat.le_of_ble_eq_true rfl⟩ ⟨Nat.zero_le _, Nat.zero_le _⟩ ?_
  refine J.istore_n (L' := [(3, .int t3), (0, .ref (ad 17)), (1, .ref (ad 10)), (2, .int l2)]) hX 26 rfl (by decide) rfl ?_
  refine J.aload_n hX 27 2 rfl rfl ?_
  obtain ⟨t4, hc, h⟩ := bd1_inv h
  refine J.callV1 (As := []) (rest := []) (k := 10) hX 28 rfl (mX3_usedColumns  hc) okX3_usedColumns w_571 (hX.lt (k := 10) (by decide)) sh_10 rfl rfl rfl (Nat.le_of_ble_eq_true rfl) ⟨Nat.le_of_ble_eq_true rfl, Nat.le_of_ble_eq_true rfl⟩ ⟨Nat.zero_le _, Nat.zero_le _⟩ ?_
  refine J.istore (L' := [(4, .int t4), (3, .int t3), (0, .ref (ad 17)), (1, .ref (ad 10)), (2, .int l2)]) hX 29 rfl (by decide) rfl ?_
  refine J.iload_n hX 30 1 rfl rfl ?_
  refine J.if_le (tgt := 79) hX 31 rfl (by decide) (fun b3 => ?_) (fun b3 => ?_)
  · rw [if_pos b3] at h
    refine J.sub (L' := [(0, .ref (ad 17)), (1, .ref (ad 10)), (2, .int l2), (3, .int t3), (4, .int t4)]) [2, 3, 4, 1, 0] rfl ?_
    exact X0_gather_j79_ok hX  hr ht h
  · rw [if_neg b3] at h
    refine J.aload_n hX 32 3 rfl rfl ?_
    refine J.getR hX 33 10 3 (hX.lt (k := 10) (by decide)) sh_10 rfl in_wsX30 5 (by decide) w_519 rfl rfl ?_
    refine J.iconst (v := 0) hX 34 rfl (by decide) ?_
    obtain ⟨t6, et6, hb, h⟩ := ld_inv h
    refine J.ialdN hX 35 15 (hX.lt (k := 15) (by decide)) sh_15 hb et6 rfl ?_
    refine J.iload_n hX 36 4 rfl rfl ?_
    refine J.icmp_ne (tgt := 79) hX 37 rfl (by decide) (fun b6 => ?_) (fun b6 => ?_)
    · rw [if_neg b6] at h
      refine J.sub (L' := [(0, .ref (ad 17)), (1, .ref (ad 10)), (2, .int l2), (3, .int t3), (4, .int t4)]) [2, 3, 4, 1, 0] rfl ?_
      exact X0_gather_j79_ok hX  hr ht h
    · rw [if_pos b6] at h
      refine J.aload_n hX 38 2 rfl rfl ?_
      refine J.aload_n hX 39 3 rfl rfl ?_
      refine J.iload_n hX 40 1 rfl rfl ?_
      refine J.iload hX 41 0 rfl rfl ?_
      obtain ⟨N9, hc, h⟩ := bd1_inv h
      refine J.callV0 (As := [.ref (ad 10), .int t3, .int t4]) (rest := []) (k := 17) hX 42 rfl (mX0_gatherSashes  hc) okX0_gatherSashes w_576 (hX.lt (k := 17) (by decide)) sh_17 rfl rfl rfl (Nat.le_of_ble_eq_true rfl) ⟨Nat.le_of_ble_eq_true rfl, Nat.le_of_ble_eq_true rfl⟩ ⟨Nat.zero_le _, Nat.zero_le _⟩ ?_
      refine J.sub (L' := [(0, .ref (ad 17)), (1, .ref (ad 10)), (2, .int l2), (3, .int t3), (4, .int t4)]) [2, 3, 4, 1, 0] rfl ?_
      exact X0_gather_j79_ok hX  hr ht h
def X0_goesBefore_j56 (M : Mem) (v1 : Int32) : Option (Int32) := chk (isB v1) (some v1)
def X0_goesBefore_j35 (M : Mem) (v2 : Int32) : Option (Int32) := chk (isB v2) (some v2)
def X0_goesBefore (M : Mem) (l1 : Int32) (l2 : Int32) : Option (Int32) := ld M 19 903 l1 (fun t1 => ld M 19 903 l2 (fun t2 => if t1 = t2 then (ld M 18 903 l1 (fun t3 => ld M 18 903 l2 (fun t4 => if t3 ≤ t4 then (X0_goesBefore_j56 M 0) else (X0_goesBefore_j56 M 1)))) else (ld M 19 903 l1 (fun t5 => ld M 19 903 l2 (fun t6 => if t5 ≤ t6 then (X0_goesBefore_j35 M 0) else (X0_goesBefore_j35 M 1))))))
set_option maxHeartbeats 4000000 in
set_option maxRecDepth 100000 in
theorem X0_goesBefore_j56_ok (hX : Cx p s m args meth c D cA ad n A sa cX0_goesBefore 3 RX0 kX0_goesBefore) {M : Mem} {v1 : Int32} {r : Int32}  (hr : meth.sig.returnType = (some .boolean)) (ht : ∀ x ∈ c.exceptionTable.toList, False) (h : X0_goesBefore_j56 M v1 = some r) : JM 0 0 p l e s m args below meth c D cA ad n A 3 (.inl (some (.int r))) M M 56 [] [.int v1] := by
  unfold X0_goesBefore_j56 at h
  obtain ⟨hz, h⟩ := chk_inv h
  cases h
  exact J.zret hX hr 34 (isB_nar hz) rfl
set_option maxHeartbeats 4000000 in
set_option maxRecDepth 100000 in
theorem X0_goesBefore_j35_ok (hX : Cx p s m args meth c D cA ad n A sa cX0_goesBefore 3 RX0 kX0_goesBefore) {M : Mem} {v2 : Int32} {r : Int32}  (hr : meth.sig.returnType = (some .boolean)) (ht : ∀ x ∈ c.exceptionTable.toList, False) (h : X0_goesBefore_j35 M v2 = some r) : JM 0 0 p l e s m args below meth c D cA ad n A 3 (.inl (some (.int r))) M M 35 [] [.int v2] := by
  unfold X0_goesBefore_j35 at h
  obtain ⟨hz, h⟩ := chk_inv h
  cases h
  exact J.zret hX hr 21 (isB_nar hz) rfl
set_option maxHeartbeats 4000000 in
set_option maxRecDepth 100000 in
theorem mX0_goesBefore {l : Launch} {D : va_G} {cA : Nat → ClassId} {ad : Nat → Nat} {n : Nat} {A : Nat → Prop} {sa : Nat → Nat} {M : Mem} {l1 : Int32} {l2 : Int32} {r : Int32} (h : X0_goesBefore M l1 l2 = some r) : CT l D cA ad n A sa yX0_goesBefore cX0_goesBefore 3 (some .boolean) 0 0 [.ref (ad 17), .int l1, .int l2] M (.inl (some (.int r))) M := by
  refine CT.of (kt := kX0_goesBefore) (by decide) kX0_goesBefore_ok (Nat.le_of_ble_eq_true rfl) ?_
  intro p e s m args below meth c hX hr ht
  unfold X0_goesBefore at h
  refine J.sub (L' := [(0, .ref (ad 17)), (1, .int l1), (2, .int l2)]) [0, 1, 2] rfl ?_
  refine J.aload_n hX 0 0 rfl rfl ?_
  refine J.getR hX 1 17 0 (hX.lt (k := 17) (by decide)) sh_17 rfl in_wsX00 3 (by decide) w_63 rfl rfl ?_
  refine J.iload_n hX 2 1 rfl rfl ?_
  obtain ⟨t1, et1, hb, h⟩ := ld_inv h
  refine J.ialdN hX 3 19 (hX.lt (k := 19) (by decide)) sh_19 hb et1 rfl ?_
  refine J.aload_n hX 4 0 rfl rfl ?_
  refine J.getR hX 5 17 0 (hX.lt (k := 17) (by decide)) sh_17 rfl in_wsX00 3 (by decide) w_63 rfl rfl ?_
  refine J.iload_n hX 6 2 rfl rfl ?_
  obtain ⟨t2, et2, hb, h⟩ := ld_inv h
  refine J.ialdN hX 7 19 (hX.lt (k := 19) (by decide)) sh_19 hb et2 rfl ?_
  refine J.icmp_eq (tgt := 36) hX 8 rfl (by decide) (fun b1 => ?_) (fun b1 => ?_)
  · rw [if_pos b1] at h
    refine J.aload_n hX 22 0 rfl rfl ?_
    refine J.getR hX 23 17 0 (hX.lt (k := 17) (by decide)) sh_17 rfl in_wsX00 2 (by decide) w_62 rfl rfl ?_
    refine J.iload_n hX 24 1 rfl rfl ?_
    obtain ⟨t3, et3, hb, h⟩ := ld_inv h
    refine J.ialdN hX 25 18 (hX.lt (k := 18) (by decide)) sh_18 hb et3 rfl ?_
    refine J.aload_n hX 26 0 rfl rfl ?_
    refine J.getR hX 27 17 0 (hX.lt (k := 17) (by decide)) sh_17 rfl in_wsX00 2 (by decide) w_62 rfl rfl ?_
    refine J.iload_n hX 28 2 rfl rfl ?_
    obtain ⟨t4, et4, hb, h⟩ := ld_inv h
    refine J.ialdN hX 29 18 (hX.lt (k := 18) (by decide)) sh_18 hb et4 rfl ?_
    refine J.icmp_le (tgt := 55) hX 30 rfl (by decide) (fun b2 => ?_) (fun b2 => ?_)
    · rw [if_pos b2] at h
      refine J.iconst (v := 0) hX 33 rfl (by decide) ?_
      refine J.sub (L' := []) [] rfl ?_
      exact X0_goesBefore_j56_ok hX  hr ht h
    · rw [if_neg b2] at h
      refine J.iconst (v := 1) hX 31 rfl (by decide) ?_
      refine J.goto (tgt := 56) hX 32 rfl (by decide) ?_
      refine J.sub (L' := []) [] rfl ?_
      exact X0_goesBefore_j56_ok hX  hr ht h
  · rw [if_neg b1] at h
    refine J.aload_n hX 9 0 rfl rfl ?_
    refine J.getR hX 10 17 0 (hX.lt (k := 17) (by decide)) sh_17 rfl in_wsX00 3 (by decide) w_63 rfl rfl ?_
    refine J.iload_n hX 11 1 rfl rfl ?_
    obtain ⟨t5, et5, hb, h⟩ := ld_inv h
    refine J.ialdN hX 12 19 (hX.lt (k := 19) (by decide)) sh_19 hb et5 rfl ?_
    refine J.aload_n hX 13 0 rfl rfl ?_
    refine J.getR hX 14 17 0 (hX.lt (k := 17) (by decide)) sh_17 rfl in_wsX00 3 (by decide) w_63 rfl rfl ?_
    refine J.iload_n hX 15 2 rfl rfl ?_
    obtain ⟨t6, et6, hb, h⟩ := ld_inv h
    refine J.ialdN hX 16 19 (hX.lt (k := 19) (by decide)) sh_19 hb et6 rfl ?_
    refine J.icmp_le (tgt := 34) hX 17 rfl (by decide) (fun b3 => ?_) (fun b3 => ?_)
    · rw [if_pos b3] at h
      refine J.iconst (v := 0) hX 20 rfl (by decide) ?_
      refine J.sub (L' := []) [] rfl ?_
      exact X0_goesBefore_j35_ok hX  hr ht h
    · rw [if_neg b3] at h
      refine J.iconst (v := 1) hX 18 rfl (by decide) ?_
      refine J.goto (tgt := 35) hX 19 rfl (by decide) ?_
      refine J.sub (L' := []) [] rfl ?_
      exact X0_goesBefore_j35_ok hX  hr ht h
def X0_merge_L9_j109 (N6 : Mem) (l2 : Int32) (l3 : Int32) (v13 : Int32) (v14 : Int32) (v15 : Int32) : Option ((Int32 × Int32 × Int32 × Mem) ⊕ (Mem)) := bnd (v15 + 1) (fun t3 => some (.inl (v13, v14, t3, N6)))
def X0_merge_L9_j92 (N4 : Mem) (l2 : Int32) (l3 : Int32) (v10 : Int32) (v11 : Int32) (v12 : Int32) : Option ((Int32 × Int32 × Int32 × Mem) ⊕ (Mem)) := ld N4 22 903 v10 (fun t1 => sto N4 23 903 v12 t1 (fun N5 => bnd (v10 + 1) (fun t2 => X0_merge_L9_j109 N5 l2 l3 t2 v11 v12)))
def X0_merge_L9_j72 (N7 : Mem) (l2 : Int32) (l3 : Int32) (v16 : Int32) (v17 : Int32) (v18 : Int32) : Option ((Int32 × Int32 × Int32 × Mem) ⊕ (Mem)) := ld N7 22 903 v17 (fun t4 => sto N7 23 903 v18 t4 (fun N8 => bnd (v17 + 1) (fun t5 => X0_merge_L9_j109 N8 l2 l3 v16 t5 v18)))
def X0_merge_L9_j39 (N3 : Mem) (l2 : Int32) (l3 : Int32) (v5 : Int32) (v6 : Int32) (v7 : Int32) (v8 : Int32) (v9 : Int32) : Option ((Int32 × Int32 × Int32 × Mem) ⊕ (Mem)) := if v9 = 0 then (X0_merge_L9_j92 N3 l2 l3 v5 v6 v7) else (if v8 = 0 then (X0_merge_L9_j72 N3 l2 l3 v5 v6 v7) else (ld N3 22 903 v6 (fun t6 => ld N3 22 903 v5 (fun t7 => bd1 (X0_goesBefore N3 t6 t7) (fun t8 => if t8 = 0 then (X0_merge_L9_j92 N3 l2 l3 v5 v6 v7) else (X0_merge_L9_j72 N3 l2 l3 v5 v6 v7))))))
def X0_merge_L9_j26 (N2 : Mem) (l2 : Int32) (l3 : Int32) (v1 : Int32) (v2 : Int32) (v3 : Int32) (v4 : Int32) : Option ((Int32 × Int32 × Int32 × Mem) ⊕ (Mem)) := if l3 ≤ v2 then (X0_merge_L9_j39 N2 l2 l3 v1 v2 v3 v4 0) else (X0_merge_L9_j39 N2 l2 l3 v1 v2 v3 v4 1)
def X0_merge_L9 (l2 : Int32) (l3 : Int32) (q9 : Int32 × Int32 × Int32 × Mem) : Option ((Int32 × Int32 × Int32 × Mem) ⊕ (Mem)) := un4 q9 (fun c1 c2 c3 N1 => if l3 ≤ c3 then (some (.inr N1)) else (if l2 ≤ c1 then (X0_merge_L9_j26 N1 l2 l3 c1 c2 c3 0) else (X0_merge_L9_j26 N1 l2 l3 c1 c2 c3 1)))
def X0_merge (M : Mem) (l1 : Int32) (l2 : Int32) (l3 : Int32) : Option (Mem) := bd1 (loop (X0_merge_L9 l2 l3) 3000 (l1, l2, l1, M)) (fun N9 => some N9)
set_option maxHeartbeats 4000000 in
set_option maxRecDepth 100000 in
theorem X0_merge_L9_j109_ok (hX : Cx p s m args meth c D cA ad n A sa cX0_merge 9 RX0 kX0_merge) {N6 : Mem} {l2 : Int32} {l3 : Int32} {v13 : Int32} {v14 : Int32} {v15 : Int32}  {r : (Int32 × Int32 × Int32 × Mem) ⊕ (Mem)} (h : X0_merge_L9_j109 N6 l2 l3 v13 v14 v15 = some r) (hin : ∀ (q0 : Int32) (q1 : Int32) (q2 : Int32) (Mq : Mem), r = .inl (q0, q1, q2, Mq) → JM 1 22 p l e s m args below meth c D cA ad n A 9 out M1 Mq 9 [(0, .ref (ad 17)), (2, .int l2), (3, .int l3), (4, .int q0), (5, .int q1), (6, .int q2)] []) (hex0 : ∀  (Mq : Mem), r = .inr Mq → JM 1 22 p l e s m args below meth c D cA ad n A 9 out M1 Mq 115 [] []) : JM 1 22 p l e s m args below meth c D cA ad n A 9 out M1 N6 109 [(0, .ref (ad 17)), (2, .int l2), (3, .int l3), (4, .int v13), (5, .int v14), (6, .int v15)] [] := by
  unfold X0_merge_L9_j109 at h
  obtain ⟨t3, et3, h⟩ := bnd_inv h
  refine J.iinc (q := 5) (L' := [(6, .int t3), (0, .ref (ad 17)), (2, .int l2), (3, .int l3), (4, .int v13), (5, .int v14)]) hX 57 rfl rfl et3 (by decide) rfl ?_
  refine J.goto (tgt := 9) hX 58 rfl (by decide) ?_
  refine J.sub (L' := [(0, .ref (ad 17)), (2, .int l2), (3, .int l3), (4, .int v13), (5, .int v14), (6, .int t3)]) [1, 2, 3, 4, 5, 0] rfl ?_
  exact hin _ _ _ _ (Option.some.inj h).symm
set_option maxHeartbeats 4000000 in
set_option maxRecDepth 100000 in
theorem X0_merge_L9_j92_ok (hX : Cx p s m args meth c D cA ad n A sa cX0_merge 9 RX0 kX0_merge) {N4 : Mem} {l2 : Int32} {l3 : Int32} {v10 : Int32} {v11 : Int32} {v12 : Int32}  {r : (Int32 × Int32 × Int32 × Mem) ⊕ (Mem)} (h : X0_merge_L9_j92 N4 l2 l3 v10 v11 v12 = some r) (hin : ∀ (q0 : Int32) (q1 : Int32) (q2 : Int32) (Mq : Mem), r = .inl (q0, q1, q2, Mq) → JM 1 22 p l e s m args below meth c D cA ad n A 9 out M1 Mq 9 [(0, .ref (ad 17)), (2, .int l2), (3, .int l3), (4, .int q0), (5, .int q1), (6, .int q2)] []) (hex0 : ∀  (Mq : Mem), r = .inr Mq → JM 1 22 p l e s m args below meth c D cA ad n A 9 out M1 Mq 115 [] []) : JM 1 22 p l e s m args below meth c D cA ad n A 9 out M1 N4 92 [(0, .ref (ad 17)), (2, .int l2), (3, .int l3), (4, .int v10), (5, .int v11), (6, .int v12)] [] := by
  unfold X0_merge_L9_j92 at h
  refine J.aload_n hX 48 0 rfl rfl ?_
  refine J.getR hX 49 17 0 (hX.lt (k := 17) (by decide)) sh_17 rfl in_wsX00 7 (by decide) w_67 rfl rfl ?_
  refine J.iload hX 50 5 rfl rfl ?_
  refine J.aload_n hX 51 0 rfl rfl ?_
  refine J.getR hX 52 17 0 (hX.lt (k := 17) (by decide)) sh_17 rfl in_wsX00 6 (by decide) w_66 rfl rfl ?_
  refine J.iload hX 53 3 rfl rfl ?_
  obtain ⟨t1, et1, hb, h⟩ := ld_inv h
  refine J.ialdN hX 54 22 (hX.lt (k := 22) (by decide)) sh_22 hb et1 rfl ?_
  obtain ⟨N5, eN5, hb, h⟩ := sto_inv h
  refine J.iastN hX 55 23 (hX.lt (k := 23) (by decide)) sh_23 hb eN5 rfl ?_
  obtain ⟨t2, et2, h⟩ := bnd_inv h
  refine J.iinc (q := 3) (L' := [(4, .int t2), (0, .ref (ad 17)), (2, .int l2), (3, .int l3), (5, .int v11), (6, .int v12)]) hX 56 rfl rfl et2 (by decide) rfl ?_
  refine J.sub (L' := [(0, .ref (ad 17)), (2, .int l2), (3, .int l3), (4, .int t2), (5, .int v11), (6, .int v12)]) [1, 2, 3, 0, 4, 5] rfl ?_
  exact X0_merge_L9_j109_ok hX  h hin hex0
set_option maxHeartbeats 4000000 in
set_option maxRecDepth 100000 in
theorem X0_merge_L9_j72_ok (hX : Cx p s m args meth c D cA ad n A sa cX0_merge 9 RX0 kX0_merge) {N7 : Mem} {l2 : Int32} {l3 : Int32} {v16 : Int32} {v17 : Int32} {v18 : Int32}  {r : (Int32 × Int32 × Int32 × Mem) ⊕ (Mem)} (h : X0_merge_L9_j72 N7 l2 l3 v16 v17 v18 = some r) (hin : ∀ (q0 : Int32) (q1 : Int32) (q2 : Int32) (Mq : Mem), r = .inl (q0, q1, q2, Mq) → JM 1 22 p l e s m args below meth c D cA ad n A 9 out M1 Mq 9 [(0, .ref (ad 17)), (2, .int l2), (3, .int l3), (4, .int q0), (5, .int q1), (6, .int q2)] []) (hex0 : ∀  (Mq : Mem), r = .inr Mq → JM 1 22 p l e s m args below meth c D cA ad n A 9 out M1 Mq 115 [] []) : JM 1 22 p l e s m args below meth c D cA ad n A 9 out M1 N7 72 [(0, .ref (ad 17)), (2, .int l2), (3, .int l3), (4, .int v16), (5, .int v17), (6, .int v18)] [] := by
  unfold X0_merge_L9_j72 at h
  refine J.aload_n hX 38 0 rfl rfl ?_
  refine J.getR hX 39 17 0 (hX.lt (k := 17) (by decide)) sh_17 rfl in_wsX00 7 (by decide) w_67 rfl rfl ?_
  refine J.iload hX 40 5 rfl rfl ?_
  refine J.aload_n hX 41 0 rfl rfl ?_
  refine J.getR hX 42 17 0 (hX.lt (k := 17) (by decide)) sh_17 rfl in_wsX00 6 (by decide) w_66 rfl rfl ?_
  refine J.iload hX 43 4 rfl rfl ?_
  obtain ⟨t4, et4, hb, h⟩ := ld_inv h
  refine J.ialdN hX 44 22 (hX.lt (k := 22) (by decide)) sh_22 hb et4 rfl ?_
  obtain ⟨N8, eN8, hb, h⟩ := sto_inv h
  refine J.iastN hX 45 23 (hX.lt (k := 23) (by decide)) sh_23 hb eN8 rfl ?_
  obtain ⟨t5, et5, h⟩ := bnd_inv h
  refine J.iinc (q := 4) (L' := [(5, .int t5), (0, .ref (ad 17)), (2, .int l2), (3, .int l3), (4, .int v16), (6, .int v18)]) hX 46 rfl rfl et5 (by decide) rfl ?_
  refine J.goto (tgt := 109) hX 47 rfl (by decide) ?_
  refine J.sub (L' := [(0, .ref (ad 17)), (2, .int l2), (3, .int l3), (4, .int v16), (5, .int t5), (6, .int v18)]) [1, 2, 3, 4, 0, 5] rfl ?_
  exact X0_merge_L9_j109_ok hX  h hin hex0
set_option maxHeartbeats 4000000 in
set_option maxRecDepth 100000 in
theorem X0_merge_L9_j39_ok (hX : Cx p s m args meth c D cA ad n A sa cX0_merge 9 RX0 kX0_merge) {N3 : Mem} {l2 : Int32} {l3 : Int32} {v5 : Int32} {v6 : Int32} {v7 : Int32} {v8 : Int32} {v9 : Int32}  {r : (Int32 × Int32 × Int32 × Mem) ⊕ (Mem)} (h : X0_merge_L9_j39 N3 l2 l3 v5 v6 v7 v8 v9 = some r) (hin : ∀ (q0 : Int32) (q1 : Int32) (q2 : Int32) (Mq : Mem), r = .inl (q0, q1, q2, Mq) → JM 1 22 p l e s m args below meth c D cA ad n A 9 out M1 Mq 9 [(0, .ref (ad 17)), (2, .int l2), (3, .int l3), (4, .int q0), (5, .int q1), (6, .int q2)] []) (hex0 : ∀  (Mq : Mem), r = .inr Mq → JM 1 22 p l e s m args below meth c D cA ad n A 9 out M1 Mq 115 [] []) : JM 1 22 p l e s m args below meth c D cA ad n A 9 out M1 N3 39 [(0, .ref (ad 17)), (2, .int l2), (3, .int l3), (4, .int v5), (5, .int v6), (6, .int v7), (7, .int v8)] [.int v9] := by
  unfold X0_merge_L9_j39 at h
  refine J.istore (L' := [(8, .int v9), (0, .ref (ad 17)), (2, .int l2), (3, .int l3), (4, .int v5), (5, .int v6), (6, .int v7), (7, .int v8)]) hX 22 rfl (by decide) rfl ?_
  refine J.iload hX 23 0 rfl rfl ?_
  refine J.if_eq (tgt := 92) hX 24 rfl (by decide) (fun b4 => ?_) (fun b4 => ?_)
  · rw [if_pos b4] at h
    refine J.sub (L' := [(0, .ref (ad 17)), (2, .int l2), (3, .int l3), (4, .int v5), (5, .int v6), (6, .int v7)]) [1, 2, 3, 4, 5, 6] rfl ?_
    exact X0_merge_L9_j92_ok hX  h hin hex0
  · rw [if_neg b4] at h
    refine J.iload hX 25 7 rfl rfl ?_
    refine J.if_eq (tgt := 72) hX 26 rfl (by decide) (fun b5 => ?_) (fun b5 => ?_)
    · rw [if_pos b5] at h
      refine J.sub (L' := [(0, .ref (ad 17)), (2, .int l2), (3, .int l3), (4, .int v5), (5, .int v6), (6, .int v7)]) [1, 2, 3, 4, 5, 6] rfl ?_
      exact X0_merge_L9_j72_ok hX  h hin hex0
    · rw [if_neg b5] at h
      refine J.aload_n hX 27 1 rfl rfl ?_
      refine J.aload_n hX 28 1 rfl rfl ?_
      refine J.getR hX 29 17 0 (hX.lt (k := 17) (by decide)) sh_17 rfl in_wsX00 6 (by decide) w_66 rfl rfl ?_
      refine J.iload hX 30 5 rfl rfl ?_
      obtain ⟨t6, et6, hb, h⟩ := ld_inv h
      refine J.ialdN hX 31 22 (hX.lt (k := 22) (by decide)) sh_22 hb et6 rfl ?_
      refine J.aload_n hX 32 1 rfl rfl ?_
      refine J.getR hX 33 17 0 (hX.lt (k := 17) (by decide)) sh_17 rfl in_wsX00 6 (by decide) w_66 rfl rfl ?_
      refine J.iload hX 34 4 rfl rfl ?_
      obtain ⟨t7, et7, hb, h⟩ := ld_inv h
      refine J.ialdN hX 35 22 (hX.lt (k := 22) (by decide)) sh_22 hb et7 rfl ?_
      obtain ⟨t8, hc, h⟩ := bd1_inv h
      refine J.callV1 (As := [.int t6, .int t7]) (rest := []) (k := 17) hX 36 rfl (mX0_goesBefore  hc) okX0_goesBefore w_603 (hX.lt (k := 17) (by decide)) sh_17 rfl rfl rfl (Nat.le_of_ble_eq_true rfl) ⟨Nat.le_of_ble_eq_true rfl, Nat.le_of_ble_eq_true rfl⟩ ⟨Nat.zero_le _, Nat.zero_le _⟩ ?_
      refine J.if_eq (tgt := 92) hX 37 rfl (by decide) (fun b6 => ?_) (fun b6 => ?_)
      · rw [if_pos b6] at h
        refine J.sub (L' := [(0, .ref (ad 17)), (2, .int l2), (3, .int l3), (4, .int v5), (5, .int v6), (6, .int v7)]) [1, 2, 3, 4, 5, 6] rfl ?_
        exact X0_merge_L9_j92_ok hX  h hin hex0
      · rw [if_neg b6] at h
        refine J.sub (L' := [(0, .ref (ad 17)), (2, .int l2), (3, .int l3), (4, .int v5), (5, .int v6), (6, .int v7)]) [1, 2, 3, 4, 5, 6] rfl ?_
        exact X0_merge_L9_j72_ok hX  h hin hex0
set_option maxHeartbeats 4000000 in
set_option maxRecDepth 100000 in
theorem X0_merge_L9_j26_ok (hX : Cx p s m args meth c D cA ad n A sa cX0_merge 9 RX0 kX0_merge) {N2 : Mem} {l2 : Int32} {l3 : Int32} {v1 : Int32} {v2 : Int32} {v3 : Int32} {v4 : Int32}  {r : (Int32 × Int32 × Int32 × Mem) ⊕ (Mem)} (h : X0_merge_L9_j26 N2 l2 l3 v1 v2 v3 v4 = some r) (hin : ∀ (q0 : Int32) (q1 : Int32) (q2 : Int32) (Mq : Mem), r = .inl (q0, q1, q2, Mq) → JM 1 22 p l e s m args below meth c D cA ad n A 9 out M1 Mq 9 [(0, .ref (ad 17)), (2, .int l2), (3, .int l3), (4, .int q0), (5, .int q1), (6, .int q2)] []) (hex0 : ∀  (Mq : Mem), r = .inr Mq → JM 1 22 p l e s m args below meth c D cA ad n A 9 out M1 Mq 115 [] []) : JM 1 22 p l e s m args below meth c D cA ad n A 9 out M1 N2 26 [(0, .ref (ad 17)), (2, .int l2), (3, .int l3), (4, .int v1), (5, .int v2), (6, .int v3)] [.int v4] := by
  unfold X0_merge_L9_j26 at h
  refine J.istore (L' := [(7, .int v4), (0, .ref (ad 17)), (2, .int l2), (3, .int l3), (4, .int v1), (5, .int v2), (6, .int v3)]) hX 15 rfl (by decide) rfl ?_
  refine J.iload hX 16 5 rfl rfl ?_
  refine J.iload_n hX 17 3 rfl rfl ?_
  refine J.icmp_ge (tgt := 38) hX 18 rfl (by decide) (fun b3 => ?_) (fun b3 => ?_)
  · rw [if_pos b3] at h
    refine J.iconst (v := 0) hX 21 rfl (by decide) ?_
    refine J.sub (L' := [(0, .ref (ad 17)), (2, .int l2), (3, .int l3), (4, .int v1), (5, .int v2), (6, .int v3), (7, .int v4)]) [1, 2, 3, 4, 5, 6, 0] rfl ?_
    exact X0_merge_L9_j39_ok hX  h hin hex0
  · rw [if_neg b3] at h
    refine J.iconst (v := 1) hX 19 rfl (by decide) ?_
    refine J.goto (tgt := 39) hX 20 rfl (by decide) ?_
    refine J.sub (L' := [(0, .ref (ad 17)), (2, .int l2), (3, .int l3), (4, .int v1), (5, .int v2), (6, .int v3), (7, .int v4)]) [1, 2, 3, 4, 5, 6, 0] rfl ?_
    exact X0_merge_L9_j39_ok hX  h hin hex0
set_option maxHeartbeats 4000000 in
set_option maxRecDepth 100000 in
theorem X0_merge_L9_ok (hX : Cx p s m args meth c D cA ad n A sa cX0_merge 9 RX0 kX0_merge) {N1 : Mem} {l2 : Int32} {l3 : Int32} {c1 : Int32} {c2 : Int32} {c3 : Int32}  {r : (Int32 × Int32 × Int32 × Mem) ⊕ (Mem)} (h : X0_merge_L9 l2 l3 (c1, c2, c3, N1) = some r) (hin : ∀ (q0 : Int32) (q1 : Int32) (q2 : Int32) (Mq : Mem), r = .inl (q0, q1, q2, Mq) → JM 1 22 p l e s m args below meth c D cA ad n A 9 out M1 Mq 9 [(0, .ref (ad 17)), (2, .int l2), (3, .int l3), (4, .int q0), (5, .int q1), (6, .int q2)] []) (hex0 : ∀  (Mq : Mem), r = .inr Mq → JM 1 22 p l e s m args below meth c D cA ad n A 9 out M1 Mq 115 [] []) : JM 1 22 p l e s m args below meth c D cA ad n A 9 out M1 N1 9 [(0, .ref (ad 17)), (2, .int l2), (3, .int l3), (4, .int c1), (5, .int c2), (6, .int c3)] [] := by
  unfold X0_merge_L9 at h
  have h := un4_inv h
  refine J.iload hX 6 5 rfl rfl ?_
  refine J.iload_n hX 7 2 rfl rfl ?_
  refine J.icmp_ge (tgt := 115) hX 8 rfl (by decide) (fun b1 => ?_) (fun b1 => ?_)
  · rw [if_pos b1] at h
    refine J.sub (L' := []) [] rfl ?_
    exact hex0 _ (Option.some.inj h).symm
  · rw [if_neg b1] at h
    refine J.iload hX 9 3 rfl rfl ?_
    refine J.iload_n hX 10 1 rfl rfl ?_
    refine J.icmp_ge (tgt := 25) hX 11 rfl (by decide) (fun b2 => ?_) (fun b2 => ?_)
    · rw [if_pos b2] at h
      refine J.iconst (v := 0) hX 14 rfl (by decide) ?_
      refine J.sub (L' := [(0, .ref (ad 17)), (2, .int l2), (3, .int l3), (4, .int c1), (5, .int c2), (6, .int c3)]) [0, 1, 2, 3, 4, 5] rfl ?_
      exact X0_merge_L9_j26_ok hX  h hin hex0
    · rw [if_neg b2] at h
      refine J.iconst (v := 1) hX 12 rfl (by decide) ?_
      refine J.goto (tgt := 26) hX 13 rfl (by decide) ?_
      refine J.sub (L' := [(0, .ref (ad 17)), (2, .int l2), (3, .int l3), (4, .int c1), (5, .int c2), (6, .int c3)]) [0, 1, 2, 3, 4, 5] rfl ?_
      exact X0_merge_L9_j26_ok hX  h hin hex0
set_option maxHeartbeats 4000000 in
set_option maxRecDepth 100000 in
theorem mX0_merge {l : Launch} {D : va_G} {cA : Nat → ClassId} {ad : Nat → Nat} {n : Nat} {A : Nat → Prop} {sa : Nat → Nat} {M : Mem} {l1 : Int32} {l2 : Int32} {l3 : Int32} {Mf : Mem} (h : X0_merge M l1 l2 l3 = some Mf) : CT l D cA ad n A sa yX0_merge cX0_merge 9 none 1 22 [.ref (ad 17), .int l1, .int l2, .int l3] M (.inl none) Mf := by
  refine CT.of (kt := kX0_merge) (by decide) kX0_merge_ok (Nat.le_of_ble_eq_true rfl) ?_
  intro p e s m args below meth c hX hr ht
  unfold X0_merge at h
  refine J.sub (L' := [(0, .ref (ad 17)), (1, .int l1), (2, .int l2), (3, .int l3)]) [0, 1, 2, 3] rfl ?_
  refine J.iload_n hX 0 1 rfl rfl ?_
  refine J.istore (L' := [(4, .int l1), (0, .ref (ad 17)), (1, .int l1), (2, .int l2), (3, .int l3)]) hX 1 rfl (by decide) rfl ?_
  refine J.iload_n hX 2 3 rfl rfl ?_
  refine J.istore (L' := [(5, .int l2), (4, .int l1), (0, .ref (ad 17)), (1, .int l1), (2, .int l2), (3, .int l3)]) hX 3 rfl (by decide) rfl ?_
  refine J.iload_n hX 4 3 rfl rfl ?_
  refine J.istore (L' := [(6, .int l1), (5, .int l2), (4, .int l1), (0, .ref (ad 17)), (1, .int l1), (2, .int l2), (3, .int l3)]) hX 5 rfl (by decide) rfl ?_
  refine J.sub (L' := [(0, .ref (ad 17)), (2, .int l2), (3, .int l3), (4, .int l1), (5, .int l2), (6, .int l1)]) [3, 5, 6, 2, 1, 0] rfl ?_
  obtain ⟨N9, hlp, h⟩ := bd1_inv h
  suffices hE : JM 1 22 p l e s m args below meth c D cA ad n A 9 (.inl none) Mf N9 115 [] [] by
    exact loop_ok (fun q9 : Int32 × Int32 × Int32 × Mem => JM 1 22 p l e s m args below meth c D cA ad n A 9 (.inl none) Mf q9.2.2.2 9 [(0, .ref (ad 17)), (2, .int l2), (3, .int l3), (4, .int q9.1), (5, .int q9.2.1), (6, .int q9.2.2.1)] []) (fun q9 r hB hst hex9 => X0_merge_L9_ok hX  hB (fun _ _ _ _ hr => hst _ hr) (fun _ hr => by cases hex9 _ hr; exact hE)) 3000 _ hlp
  cases h
  exact J.vret hX hr 59 rfl
def X0_sort_L2  (q9 : Int32 × Mem) : Option ((Int32 × Mem) ⊕ (Mem)) := un2 q9 (fun c1 N1 => if (N1 17 1) ≤ c1 then (some (.inr N1)) else (sto N1 22 903 c1 c1 (fun N2 => bnd (c1 + 1) (fun t1 => some (.inl (t1, N2))))))
def X0_sort_L35 (c2 : Int32) (q9 : Int32 × Mem) : Option ((Int32 × Mem) ⊕ (Mem)) := un2 q9 (fun c3 N5 => if (N5 17 1) ≤ c3 then (some (.inr N5)) else (bnd (if (N5 17 1) < (c3 + c2) then (N5 17 1) else (c3 + c2)) (fun t2 => bnd (if (N5 17 1) < (c3 + (2 * c2)) then (N5 17 1) else (c3 + (2 * c2))) (fun t3 => bd1 (X0_merge N5 c3 t2 t3) (fun N6 => bnd ((c3 + (2 * c2))) (fun t4 => some (.inl (t4, N6))))))))
def X0_sort_L25  (q9 : Int32 × Mem) : Option ((Int32 × Mem) ⊕ (Mem)) := un2 q9 (fun c2 N4 => if (N4 17 1) ≤ c2 then (some (.inr N4)) else (bd1 (loop (X0_sort_L35 c2) 3000 (0, N4)) (fun N7 => cpy N7 23 903 22 903 (N7 17 1) 0 (fun N8 => bnd ((c2 * 2)) (fun t5 => some (.inl (t5, N8)))))))
def X0_sort (M : Mem) : Option (Mem) := bd1 (loop (X0_sort_L2) 3000 (0, M)) (fun N3 => bd1 (loop (X0_sort_L25) 3000 (1, N3)) (fun N9 => some N9))
set_option maxHeartbeats 4000000 in
set_option maxRecDepth 100000 in
theorem X0_sort_L2_ok (hX : Cx p s m args meth c D cA ad n A sa cX0_sort 3 RX0 kX0_sort) {N1 : Mem}  {c1 : Int32}  {r : (Int32 × Mem) ⊕ (Mem)} (h : X0_sort_L2  (c1, N1) = some r) (hin : ∀ (q0 : Int32) (Mq : Mem), r = .inl (q0, Mq) → JM 2 50 p l e s m args below meth c D cA ad n A 3 out M1 Mq 2 [(0, .ref (ad 17)), (1, .int q0)] []) (hex0 : ∀  (Mq : Mem), r = .inr Mq → JM 2 50 p l e s m args below meth c D cA ad n A 3 out M1 Mq 23 [(0, .ref (ad 17))] []) : JM 2 50 p l e s m args below meth c D cA ad n A 3 out M1 N1 2 [(0, .ref (ad 17)), (1, .int c1)] [] := by
  unfold X0_sort_L2 at h
  have h := un2_inv h
  refine J.iload_n hX 2 1 rfl rfl ?_
  refine J.aload_n hX 3 0 rfl rfl ?_
  refine J.getI hX 4 17 0 (hX.lt (k := 17) (by decide)) sh_17 rfl in_wsX00 1 (by decide) w_518 rfl rfl ?_
  refine J.icmp_ge (tgt := 23) hX 5 rfl (by decide) (fun b1 => ?_) (fun b1 => ?_)
  · rw [if_pos b1] at h
    refine J.sub (L' := [(0, .ref (ad 17))]) [0] rfl ?_
    exact hex0 _ (Option.some.inj h).symm
  · rw [if_neg b1] at h
    refine J.aload_n hX 6 0 rfl rfl ?_
    refine J.getR hX 7 17 0 (hX.lt (k := 17) (by decide)) sh_17 rfl in_wsX00 6 (by decide) w_66 rfl rfl ?_
    refine J.iload_n hX 8 1 rfl rfl ?_
    refine J.iload_n hX 9 1 rfl rfl ?_
    obtain ⟨N2, eN2, hb, h⟩ := sto_inv h
    refine J.iastN hX 10 22 (hX.lt (k := 22) (by decide)) sh_22 hb eN2 rfl ?_
    obtain ⟨t1, et1, h⟩ := bnd_inv h
    refine J.iinc (q := 1) (L' := [(1, .int t1), (0, .ref (ad 17))]) hX 11 rfl rfl et1 (by decide) rfl ?_
    refine J.goto (tgt := 2) hX 12 rfl (by decide) ?_
    refine J.sub (L' := [(0, .ref (ad 17)), (1, .int t1)]) [1, 0] rfl ?_
    exact hin _ _ (Option.some.inj h).symm
set_option maxHeartbeats 4000000 in
set_option maxRecDepth 100000 in
theorem X0_sort_L35_ok (hX : Cx p s m args meth c D cA ad n A sa cX0_sort 3 RX0 kX0_sort) {N5 : Mem} {c2 : Int32} {c3 : Int32}  {r : (Int32 × Mem) ⊕ (Mem)} (h : X0_sort_L35 c2 (c3, N5) = some r) (hin : ∀ (q0 : Int32) (Mq : Mem), r = .inl (q0, Mq) → JM 2 50 p l e s m args below meth c D cA ad n A 3 out M1 Mq 35 [(0, .ref (ad 17)), (1, .int c2), (2, .int q0)] []) (hex0 : ∀  (Mq : Mem), r = .inr Mq → JM 2 50 p l e s m args below meth c D cA ad n A 3 out M1 Mq 79 [(0, .ref (ad 17)), (1, .int c2)] []) : JM 2 50 p l e s m args below meth c D cA ad n A 3 out M1 N5 35 [(0, .ref (ad 17)), (1, .int c2), (2, .int c3)] [] := by
  unfold X0_sort_L35 at h
  have h := un2_inv h
  refine J.iload_n hX 21 2 rfl rfl ?_
  refine J.aload_n hX 22 0 rfl rfl ?_
  refine J.getI hX 23 17 0 (hX.lt (k := 17) (by decide)) sh_17 rfl in_wsX00 1 (by decide) w_518 rfl rfl ?_
  refine J.icmp_ge (tgt := 79) hX 24 rfl (by decide) (fun b3 => ?_) (fun b3 => ?_)
  · rw [if_pos b3] at h
    refine J.sub (L' := [(0, .ref (ad 17)), (1, .int c2)]) [0, 1] rfl ?_
    exact hex0 _ (Option.some.inj h).symm
  · rw [if_neg b3] at h
    refine J.aload_n hX 25 0 rfl rfl ?_
    refine J.iload_n hX 26 2 rfl rfl ?_
    refine J.iload_n hX 27 2 rfl rfl ?_
    refine J.iload_n hX 28 1 rfl rfl ?_
    refine J.iadd hX 29 rfl ?_
    refine J.aload_n hX 30 0 rfl rfl ?_
    refine J.getI hX 31 17 0 (hX.lt (k := 17) (by decide)) sh_17 rfl in_wsX00 1 (by decide) w_518 rfl rfl ?_
    obtain ⟨t2, et2, h⟩ := bnd_inv h
    refine J.mmin hX 32 rfl w_566 w_552 w_533 w_553 (Nat.le_of_ble_eq_true rfl) (Nat.le_of_ble_eq_true rfl) (Nat.zero_le _) (Nat.zero_le _) ?_
    refine J.nm et2 ?_
    refine J.iload_n hX 33 2 rfl rfl ?_
    refine J.iconst (v := 2) hX 34 rfl (by decide) ?_
    refine J.iload_n hX 35 1 rfl rfl ?_
    refine J.imul hX 36 rfl ?_
    refine J.iadd hX 37 rfl ?_
    refine J.aload_n hX 38 0 rfl rfl ?_
    refine J.getI hX 39 17 0 (hX.lt (k := 17) (by decide)) sh_17 rfl in_wsX00 1 (by decide) w_518 rfl rfl ?_
    obtain ⟨t3, et3, h⟩ := bnd_inv h
    refine J.mmin hX 40 rfl w_566 w_552 w_533 w_553 (Nat.le_of_ble_eq_true rfl) (Nat.le_of_ble_eq_true rfl) (Nat.zero_le _) (Nat.zero_le _) ?_
    refine J.nm et3 ?_
    obtain ⟨N6, hc, h⟩ := bd1_inv h
    refine J.callV0 (As := [.int c3, .int t2, .int t3]) (rest := []) (k := 17) hX 41 rfl (mX0_merge  hc) okX0_merge w_599 (hX.lt (k := 17) (by decide)) sh_17 rfl rfl rfl (Nat.le_of_ble_eq_true rfl) ⟨Nat.le_of_ble_eq_true rfl, Nat.le_of_ble_eq_true rfl⟩ ⟨Nat.zero_le _, Nat.zero_le _⟩ ?_
    refine J.iload_n hX 42 2 rfl rfl ?_
    refine J.iconst (v := 2) hX 43 rfl (by decide) ?_
    refine J.iload_n hX 44 1 rfl rfl ?_
    refine J.imul hX 45 rfl ?_
    refine J.iadd hX 46 rfl ?_
    obtain ⟨t4, et4, h⟩ := bnd_inv h
    refine J.nm et4 ?_
    refine J.istore_n (L' := [(2, .int t4), (0, .ref (ad 17)), (1, .int c2)]) hX 47 rfl (by decide) rfl ?_
    refine J.goto (tgt := 35) hX 48 rfl (by decide) ?_
    refine J.sub (L' := [(0, .ref (ad 17)), (1, .int c2), (2, .int t4)]) [1, 2, 0] rfl ?_
    exact hin _ _ (Option.some.inj h).symm
set_option maxHeartbeats 4000000 in
set_option maxRecDepth 100000 in
theorem X0_sort_L25_ok (hX : Cx p s m args meth c D cA ad n A sa cX0_sort 3 RX0 kX0_sort) {N4 : Mem}  {c2 : Int32}  {r : (Int32 × Mem) ⊕ (Mem)} (h : X0_sort_L25  (c2, N4) = some r) (hin : ∀ (q0 : Int32) (Mq : Mem), r = .inl (q0, Mq) → JM 2 50 p l e s m args below meth c D cA ad n A 3 out M1 Mq 25 [(0, .ref (ad 17)), (1, .int q0)] []) (hex0 : ∀  (Mq : Mem), r = .inr Mq → JM 2 50 p l e s m args below meth c D cA ad n A 3 out M1 Mq 103 [] []) : JM 2 50 p l e s m args below meth c D cA ad n A 3 out M1 N4 25 [(0, .ref (ad 17)), (1, .int c2)] [] := by
  unfold X0_sort_L25 at h
  have h := un2_inv h
  refine J.iload_n hX 15 1 rfl rfl ?_
  refine J.aload_n hX 16 0 rfl rfl ?_
  refine J.getI hX 17 17 0 (hX.lt (k := 17) (by decide)) sh_17 rfl in_wsX00 1 (by decide) w_518 rfl rfl ?_
  refine J.icmp_ge (tgt := 103) hX 18 rfl (by decide) (fun b2 => ?_) (fun b2 => ?_)
  · rw [if_pos b2] at h
    refine J.sub (L' := []) [] rfl ?_
    exact hex0 _ (Option.some.inj h).symm
  · rw [if_neg b2] at h
    refine J.iconst (v := 0) hX 19 rfl (by decide) ?_
    refine J.istore_n (L' := [(2, .int 0), (0, .ref (ad 17)), (1, .int c2)]) hX 20 rfl (by decide) rfl ?_
    refine J.sub (L' := [(0, .ref (ad 17)), (1, .int c2), (2, .int 0)]) [1, 2, 0] rfl ?_
    obtain ⟨N7, hlp, h⟩ := bd1_inv h
    suffices hE : JM 2 50 p l e s m args below meth c D cA ad n A 3 out M1 N7 79 [(0, .ref (ad 17)), (1, .int c2)] [] by
      exact loop_ok (fun q9 : Int32 × Mem => JM 2 50 p l e s m args below meth c D cA ad n A 3 out M1 q9.2 35 [(0, .ref (ad 17)), (1, .int c2), (2, .int q9.1)] []) (fun q9 r hB hst hex9 => X0_sort_L35_ok hX  hB (fun _ _ hr => hst _ hr) (fun _ hr => by cases hex9 _ hr; exact hE)) 3000 _ hlp
    refine J.aload_n hX 49 0 rfl rfl ?_
    refine J.getR hX 50 17 0 (hX.lt (k := 17) (by decide)) sh_17 rfl in_wsX00 7 (by decide) w_67 rfl rfl ?_
    refine J.iconst (v := 0) hX 51 rfl (by decide) ?_
    refine J.aload_n hX 52 0 rfl rfl ?_
    refine J.getR hX 53 17 0 (hX.lt (k := 17) (by decide)) sh_17 rfl in_wsX00 6 (by decide) w_66 rfl rfl ?_
    refine J.iconst (v := 0) hX 54 rfl (by decide) ?_
    refine J.aload_n hX 55 0 rfl rfl ?_
    refine J.getI hX 56 17 0 (hX.lt (k := 17) (by decide)) sh_17 rfl in_wsX00 1 (by decide) w_518 rfl rfl ?_
    obtain ⟨N8, eN8, hb, h⟩ := cpy_inv h
    refine J.copy hX 57 23 22 (hX.lt (k := 23) (by decide)) sh_23 (hX.lt (k := 22) (by decide)) sh_22 hb eN8 rfl w_598 w_305 w_306 w_307 (Nat.le_of_ble_eq_true rfl) (by show _ ≤ 50; decide +kernel) ?_
    refine J.iload_n hX 58 1 rfl rfl ?_
    refine J.iconst (v := 2) hX 59 rfl (by decide) ?_
    refine J.imul hX 60 rfl ?_
    obtain ⟨t5, et5, h⟩ := bnd_inv h
    refine J.nm et5 ?_
    refine J.istore_n (L' := [(1, .int t5), (0, .ref (ad 17))]) hX 61 rfl (by decide) rfl ?_
    refine J.goto (tgt := 25) hX 62 rfl (by decide) ?_
    refine J.sub (L' := [(0, .ref (ad 17)), (1, .int t5)]) [1, 0] rfl ?_
    exact hin _ _ (Option.some.inj h).symm
set_option maxHeartbeats 4000000 in
set_option maxRecDepth 100000 in
theorem mX0_sort {l : Launch} {D : va_G} {cA : Nat → ClassId} {ad : Nat → Nat} {n : Nat} {A : Nat → Prop} {sa : Nat → Nat} {M : Mem} {Mf : Mem} (h : X0_sort M = some Mf) : CT l D cA ad n A sa yX0_sort cX0_sort 3 none 2 50 [.ref (ad 17)] M (.inl none) Mf := by
  refine CT.of (kt := kX0_sort) (by decide) kX0_sort_ok (Nat.le_of_ble_eq_true rfl) ?_
  intro p e s m args below meth c hX hr ht
  unfold X0_sort at h
  refine J.sub (L' := [(0, .ref (ad 17))]) [0] rfl ?_
  refine J.iconst (v := 0) hX 0 rfl (by decide) ?_
  refine J.istore_n (L' := [(1, .int 0), (0, .ref (ad 17))]) hX 1 rfl (by decide) rfl ?_
  refine J.sub (L' := [(0, .ref (ad 17)), (1, .int 0)]) [1, 0] rfl ?_
  obtain ⟨N3, hlp, h⟩ := bd1_inv h
  suffices hE : JM 2 50 p l e s m args below meth c D cA ad n A 3 (.inl none) Mf N3 23 [(0, .ref (ad 17))] [] by
    exact loop_ok (fun q9 : Int32 × Mem => JM 2 50 p l e s m args below meth c D cA ad n A 3 (.inl none) Mf q9.2 2 [(0, .ref (ad 17)), (1, .int q9.1)] []) (fun q9 r hB hst hex9 => X0_sort_L2_ok hX  hB (fun _ _ hr => hst _ hr) (fun _ hr => by cases hex9 _ hr; exact hE)) 3000 _ hlp
  refine J.iconst (v := 1) hX 13 rfl (by decide) ?_
  refine J.istore_n (L' := [(1, .int 1), (0, .ref (ad 17))]) hX 14 rfl (by decide) rfl ?_
  refine J.sub (L' := [(0, .ref (ad 17)), (1, .int 1)]) [1, 0] rfl ?_
  obtain ⟨N9, hlp, h⟩ := bd1_inv h
  suffices hE : JM 2 50 p l e s m args below meth c D cA ad n A 3 (.inl none) Mf N9 103 [] [] by
    exact loop_ok (fun q9 : Int32 × Mem => JM 2 50 p l e s m args below meth c D cA ad n A 3 (.inl none) Mf q9.2 25 [(0, .ref (ad 17)), (1, .int q9.1)] []) (fun q9 r hB hst hex9 => X0_sort_L25_ok hX  hB (fun _ _ hr => hst _ hr) (fun _ hr => by cases hex9 _ hr; exact hE)) 3000 _ hlp
  cases h
  exact J.vret hX hr 63 rfl
def X0_stripFor_L2 (M : Mem) (l1 : Int32) (q9 : Int32) : Option ((Int32) ⊕ ((Unit) ⊕ (Int32))) := un1 q9 (fun c1 => if (M 17 11) ≤ c1 then (some (.inr (.inl ()))) else (ld M 26 903 c1 (fun t1 => if (1008 - t1) < l1 then (bnd (c1 + 1) (fun t2 => some (.inl t2))) else (some (.inr (.inr c1))))))
def X0_stripFor (M : Mem) (l1 : Int32) : Option (Int32) := bdS (loop (X0_stripFor_L2 M l1) 3000 0) (fun a9 => un0 a9 (some (M 17 11))) (fun a9 => un1 a9 (fun x1 => some x1))
set_option maxHeartbeats 4000000 in
set_option maxRecDepth 100000 in
theorem X0_stripFor_L2_ok (hX : Cx p s m args meth c D cA ad n A sa cX0_stripFor 3 RX0 kX0_stripFor) {M : Mem} {l1 : Int32} {c1 : Int32}  {r : (Int32) ⊕ ((Unit) ⊕ (Int32))} (h : X0_stripFor_L2 M l1 c1 = some r) (hin : ∀ (q0 : Int32), r = .inl q0 → JM 0 0 p l e s m args below meth c D cA ad n A 3 out M1 M 2 [(0, .ref (ad 17)), (1, .int l1), (2, .int q0)] []) (hex0 : r = .inr (.inl ()) → JM 0 0 p l e s m args below meth c D cA ad n A 3 out M1 M 32 [(0, .ref (ad 17))] []) (hex1 : ∀ (q0 : Int32), r = .inr (.inr q0) → JM 0 0 p l e s m args below meth c D cA ad n A 3 out M1 M 24 [(2, .int q0)] []) : JM 0 0 p l e s m args below meth c D cA ad n A 3 out M1 M 2 [(0, .ref (ad 17)), (1, .int l1), (2, .int c1)] [] := by
  unfold X0_stripFor_L2 at h
  have h := un1_inv h
  refine J.iload_n hX 2 2 rfl rfl ?_
  refine J.aload_n hX 3 0 rfl rfl ?_
  refine J.getI hX 4 17 0 (hX.lt (k := 17) (by decide)) sh_17 rfl in_wsX00 11 (by decide) w_611 rfl rfl ?_
  refine J.icmp_ge (tgt := 32) hX 5 rfl (by decide) (fun b1 => ?_) (fun b1 => ?_)
  · rw [if_pos b1] at h
    refine J.sub (L' := [(0, .ref (ad 17))]) [0] rfl ?_
    exact hex0  (Option.some.inj h).symm
  · rw [if_neg b1] at h
    refine J.sipush (v := 1008) hX 6 rfl (by decide) ?_
    refine J.aload_n hX 7 0 rfl rfl ?_
    refine J.getR hX 8 17 0 (hX.lt (k := 17) (by decide)) sh_17 rfl in_wsX00 10 (by decide) w_70 rfl rfl ?_
    refine J.iload_n hX 9 2 rfl rfl ?_
    obtain ⟨t1, et1, hb, h⟩ := ld_inv h
    refine J.ialdN hX 10 26 (hX.lt (k := 26) (by decide)) sh_26 hb et1 rfl ?_
    refine J.isub hX 11 rfl ?_
    refine J.iload_n hX 12 1 rfl rfl ?_
    refine J.icmp_lt (tgt := 26) hX 13 rfl (by decide) (fun b2 => ?_) (fun b2 => ?_)
    · rw [if_pos b2] at h
      obtain ⟨t2, et2, h⟩ := bnd_inv h
      refine J.iinc (q := 2) (L' := [(2, .int t2), (0, .ref (ad 17)), (1, .int l1)]) hX 16 rfl rfl et2 (by decide) rfl ?_
      refine J.goto (tgt := 2) hX 17 rfl (by decide) ?_
      refine J.sub (L' := [(0, .ref (ad 17)), (1, .int l1), (2, .int t2)]) [1, 2, 0] rfl ?_
      exact hin _ (Option.some.inj h).symm
    · rw [if_neg b2] at h
      refine J.sub (L' := [(2, .int c1)]) [2] rfl ?_
      exact hex1 _ (Option.some.inj h).symm
set_option maxHeartbeats 4000000 in
set_option maxRecDepth 100000 in
theorem mX0_stripFor {l : Launch} {D : va_G} {cA : Nat → ClassId} {ad : Nat → Nat} {n : Nat} {A : Nat → Prop} {sa : Nat → Nat} {M : Mem} {l1 : Int32} {r : Int32} (h : X0_stripFor M l1 = some r) : CT l D cA ad n A sa yX0_stripFor cX0_stripFor 3 (some .int) 0 0 [.ref (ad 17), .int l1] M (.inl (some (.int r))) M := by
  refine CT.of (kt := kX0_stripFor) (by decide) kX0_stripFor_ok (Nat.le_of_ble_eq_true rfl) ?_
  intro p e s m args below meth c hX hr ht
  unfold X0_stripFor at h
  refine J.sub (L' := [(0, .ref (ad 17)), (1, .int l1)]) [0, 1] rfl ?_
  refine J.iconst (v := 0) hX 0 rfl (by decide) ?_
  refine J.istore_n (L' := [(2, .int 0), (0, .ref (ad 17)), (1, .int l1)]) hX 1 rfl (by decide) rfl ?_
  refine J.sub (L' := [(0, .ref (ad 17)), (1, .int l1), (2, .int 0)]) [1, 2, 0] rfl ?_
  rcases bdS_inv h with ⟨a9, hlp, h⟩ | ⟨a9, hlp, h⟩
  · have h := un0_inv h
    suffices hE : JM 0 0 p l e s m args below meth c D cA ad n A 3 (.inl (some (.int r))) M M 32 [(0, .ref (ad 17))] [] by
      exact loop_ok (fun q9 : Int32 => JM 0 0 p l e s m args below meth c D cA ad n A 3 (.inl (some (.int r))) M M 2 [(0, .ref (ad 17)), (1, .int l1), (2, .int q9)] []) (fun q9 r hB hst hex9 => X0_stripFor_L2_ok hX  hB (fun _ hr => hst _ hr) (fun hr => by cases hex9 _ hr; exact hE) (fun _ hr => by cases hex9 _ hr)) 3000 _ hlp
    refine J.aload_n hX 18 0 rfl rfl ?_
    refine J.getI hX 19 17 0 (hX.lt (k := 17) (by decide)) sh_17 rfl in_wsX00 11 (by decide) w_611 rfl rfl ?_
    cases h
    exact J.iret hX hr 20 rfl
  · obtain ⟨x1, rfl⟩ : ∃ z, z = a9 := ⟨_, rfl⟩
    have h := un1_inv h
    suffices hE : JM 0 0 p l e s m args below meth c D cA ad n A 3 (.inl (some (.int r))) M M 24 [(2, .int x1)] [] by
      exact loop_ok (fun q9 : Int32 => JM 0 0 p l e s m args below meth c D cA ad n A 3 (.inl (some (.int r))) M M 2 [(0, .ref (ad 17)), (1, .int l1), (2, .int q9)] []) (fun q9 r hB hst hex9 => X0_stripFor_L2_ok hX  hB (fun _ hr => hst _ hr) (fun hr => by cases hex9 _ hr) (fun _ hr => by cases hex9 _ hr; exact hE)) 3000 _ hlp
    refine J.iload_n hX 14 0 rfl rfl ?_
    cases h
    exact J.iret hX hr 15 rfl
def X0_layInOrder_L12_j78 (N4 : Mem) (v1 : Int32) (v2 : Int32) (v3 : Int32) : Option ((Int32 × Mem) ⊕ (Mem)) := sto N4 24 903 v1 v3 (fun N5 => ld N5 26 903 v3 (fun t4 => sto N5 25 903 v1 t4 (fun N6 => ld N6 26 903 v3 (fun t5 => ld N6 18 903 v2 (fun t6 => sto N6 26 903 v3 (t5 + t6) (fun N7 => bnd (v1 + 1) (fun t7 => some (.inl (t7, N7)))))))))
def X0_layInOrder_L12  (q9 : Int32 × Mem) : Option ((Int32 × Mem) ⊕ (Mem)) := un2 q9 (fun c1 N3 => if (N3 17 1) ≤ c1 then (some (.inr N3)) else (ld N3 22 903 c1 (fun t1 => ld N3 18 903 t1 (fun t2 => bd1 (X0_stripFor N3 t2) (fun t3 => if t3 = (N3 17 11) then (sto N3 26 903 t3 0 (fun N8 => bnd (wr N8 17 11 ((N8 17 11) + 1)) (fun N9 => ld N9 19 903 t1 (fun t8 => bnd (wr N9 17 12 ((N9 17 12) + t8)) (fun N10 => X0_layInOrder_L12_j78 N10 c1 t1 t3))))) else (X0_layInOrder_L12_j78 N3 c1 t1 t3))))))
def X0_layInOrder (M : Mem) : Option (Mem) := bnd (wr M 17 11 0) (fun N1 => bnd (wr N1 17 12 0) (fun N2 => bd1 (loop (X0_layInOrder_L12) 3000 (0, N2)) (fun N11 => some N11)))
set_option maxHeartbeats 4000000 in
set_option maxRecDepth 100000 in
theorem X0_layInOrder_L12_j78_ok (hX : Cx p s m args meth c D cA ad n A sa cX0_layInOrder 4 RX0 kX0_layInOrder) {N4 : Mem} {v1 : Int32} {v2 : Int32} {v3 : Int32}  {r : (Int32 × Mem) ⊕ (Mem)} (h : X0_layInOrder_L12_j78 N4 v1 v2 v3 = some r) (hin : ∀ (q0 : Int32) (Mq : Mem), r = .inl (q0, Mq) → JM 1 22 p l e s m args below meth c D cA ad n A 4 out M1 Mq 12 [(0, .ref (ad 17)), (1, .int q0)] []) (hex0 : ∀  (Mq : Mem), r = .inr Mq → JM 1 22 p l e s m args below meth c D cA ad n A 4 out M1 Mq 118 [] []) : JM 1 22 p l e s m args below meth c D cA ad n A 4 out M1 N4 78 [(0, .ref (ad 17)), (1, .int v1), (2, .int v2), (3, .int v3)] [] := by
  unfold X0_layInOrder_L12_j78 at h
  refine J.aload_n hX 48 0 rfl rfl ?_
  refine J.getR hX 49 17 0 (hX.lt (k := 17) (by decide)) sh_17 rfl in_wsX00 8 (by decide) w_68 rfl rfl ?_
  refine J.iload_n hX 50 1 rfl rfl ?_
  refine J.iload_n hX 51 3 rfl rfl ?_
  obtain ⟨N5, eN5, hb, h⟩ := sto_inv h
  refine J.iastN hX 52 24 (hX.lt (k := 24) (by decide)) sh_24 hb eN5 rfl ?_
  refine J.aload_n hX 53 0 rfl rfl ?_
  refine J.getR hX 54 17 0 (hX.lt (k := 17) (by decide)) sh_17 rfl in_wsX00 9 (by decide) w_69 rfl rfl ?_
  refine J.iload_n hX 55 1 rfl rfl ?_
  refine J.aload_n hX 56 0 rfl rfl ?_
  refine J.getR hX 57 17 0 (hX.lt (k := 17) (by decide)) sh_17 rfl in_wsX00 10 (by decide) w_70 rfl rfl ?_
  refine J.iload_n hX 58 3 rfl rfl ?_
  obtain ⟨t4, et4, hb, h⟩ := ld_inv h
  refine J.ialdN hX 59 26 (hX.lt (k := 26) (by decide)) sh_26 hb et4 rfl ?_
  obtain ⟨N6, eN6, hb, h⟩ := sto_inv h
  refine J.iastN hX 60 25 (hX.lt (k := 25) (by decide)) sh_25 hb eN6 rfl ?_
  refine J.aload_n hX 61 0 rfl rfl ?_
  refine J.getR hX 62 17 0 (hX.lt (k := 17) (by decide)) sh_17 rfl in_wsX00 10 (by decide) w_70 rfl rfl ?_
  refine J.iload_n hX 63 3 rfl rfl ?_
  refine J.dup2 hX 64 rfl rfl rfl ?_
  obtain ⟨t5, et5, hb, h⟩ := ld_inv h
  refine J.ialdN hX 65 26 (hX.lt (k := 26) (by decide)) sh_26 hb et5 rfl ?_
  refine J.aload_n hX 66 0 rfl rfl ?_
  refine J.getR hX 67 17 0 (hX.lt (k := 17) (by decide)) sh_17 rfl in_wsX00 2 (by decide) w_62 rfl rfl ?_
  refine J.iload_n hX 68 2 rfl rfl ?_
  obtain ⟨t6, et6, hb, h⟩ := ld_inv h
  refine J.ialdN hX 69 18 (hX.lt (k := 18) (by decide)) sh_18 hb et6 rfl ?_
  refine J.iadd hX 70 rfl ?_
  obtain ⟨N7, eN7, hb, h⟩ := sto_inv h
  refine J.iastN hX 71 26 (hX.lt (k := 26) (by decide)) sh_26 hb eN7 rfl ?_
  obtain ⟨t7, et7, h⟩ := bnd_inv h
  refine J.iinc (q := 1) (L' := [(1, .int t7), (0, .ref (ad 17)), (2, .int v2), (3, .int v3)]) hX 72 rfl rfl et7 (by decide) rfl ?_
  refine J.goto (tgt := 12) hX 73 rfl (by decide) ?_
  refine J.sub (L' := [(0, .ref (ad 17)), (1, .int t7)]) [1, 0] rfl ?_
  exact hin _ _ (Option.some.inj h).symm
set_option maxHeartbeats 4000000 in
set_option maxRecDepth 100000 in
theorem X0_layInOrder_L12_ok (hX : Cx p s m args meth c D cA ad n A sa cX0_layInOrder 4 RX0 kX0_layInOrder) {N3 : Mem}  {c1 : Int32}  {r : (Int32 × Mem) ⊕ (Mem)} (h : X0_layInOrder_L12  (c1, N3) = some r) (hin : ∀ (q0 : Int32) (Mq : Mem), r = .inl (q0, Mq) → JM 1 22 p l e s m args below meth c D cA ad n A 4 out M1 Mq 12 [(0, .ref (ad 17)), (1, .int q0)] []) (hex0 : ∀  (Mq : Mem), r = .inr Mq → JM 1 22 p l e s m args below meth c D cA ad n A 4 out M1 Mq 118 [] []) : JM 1 22 p l e s m args below meth c D cA ad n A 4 out M1 N3 12 [(0, .ref (ad 17)), (1, .int c1)] [] := by
  unfold X0_layInOrder_L12 at h
  have h := un2_inv h
  refine J.iload_n hX 8 1 rfl rfl ?_
  refine J.aload_n hX 9 0 rfl rfl ?_
  refine J.getI hX 10 17 0 (hX.lt (k := 17) (by decide)) sh_17 rfl in_wsX00 1 (by decide) w_518 rfl rfl ?_
  refine J.icmp_ge (tgt := 118) hX 11 rfl (by decide) (fun b1 => ?_) (fun b1 => ?_)
  · rw [if_pos b1] at h
    refine J.sub (L' := []) [] rfl ?_
    exact hex0 _ (Option.some.inj h).symm
  · rw [if_neg b1] at h
    refine J.aload_n hX 12 0 rfl rfl ?_
    refine J.getR hX 13 17 0 (hX.lt (k := 17) (by decide)) sh_17 rfl in_wsX00 6 (by decide) w_66 rfl rfl ?_
    refine J.iload_n hX 14 1 rfl rfl ?_
    obtain ⟨t1, et1, hb, h⟩ := ld_inv h
    refine J.ialdN hX 15 22 (hX.lt (k := 22) (by decide)) sh_22 hb et1 rfl ?_
    refine J.istore_n (L' := [(2, .int t1), (0, .ref (ad 17)), (1, .int c1)]) hX 16 rfl (by decide) rfl ?_
    refine J.aload_n hX 17 1 rfl rfl ?_
    refine J.aload_n hX 18 1 rfl rfl ?_
    refine J.getR hX 19 17 0 (hX.lt (k := 17) (by decide)) sh_17 rfl in_wsX00 2 (by decide) w_62 rfl rfl ?_
    refine J.iload_n hX 20 0 rfl rfl ?_
    obtain ⟨t2, et2, hb, h⟩ := ld_inv h
    refine J.ialdN hX 21 18 (hX.lt (k := 18) (by decide)) sh_18 hb et2 rfl ?_
    obtain ⟨t3, hc, h⟩ := bd1_inv h
    refine J.callV1 (As := [.int t2]) (rest := []) (k := 17) hX 22 rfl (mX0_stripFor  hc) okX0_stripFor w_613 (hX.lt (k := 17) (by decide)) sh_17 rfl rfl rfl (Nat.le_of_ble_eq_true rfl) ⟨Nat.le_of_ble_eq_true rfl, Nat.le_of_ble_eq_true rfl⟩ ⟨Nat.zero_le _, Nat.zero_le _⟩ ?_
    refine J.istore_n (L' := [(3, .int t3), (2, .int t1), (0, .ref (ad 17)), (1, .int c1)]) hX 23 rfl (by decide) rfl ?_
    refine J.iload_n hX 24 0 rfl rfl ?_
    refine J.aload_n hX 25 2 rfl rfl ?_
    refine J.getI hX 26 17 0 (hX.lt (k := 17) (by decide)) sh_17 rfl in_wsX00 11 (by decide) w_611 rfl rfl ?_
    refine J.icmp_ne (tgt := 78) hX 27 rfl (by decide) (fun b2 => ?_) (fun b2 => ?_)
    · rw [if_neg b2] at h
      refine J.sub (L' := [(0, .ref (ad 17)), (1, .int c1), (2, .int t1), (3, .int t3)]) [2, 3, 1, 0] rfl ?_
      exact X0_layInOrder_L12_j78_ok hX  h hin hex0
    · rw [if_pos b2] at h
      refine J.aload_n hX 28 2 rfl rfl ?_
      refine J.getR hX 29 17 0 (hX.lt (k := 17) (by decide)) sh_17 rfl in_wsX00 10 (by decide) w_70 rfl rfl ?_
      refine J.iload_n hX 30 0 rfl rfl ?_
      refine J.iconst (v := 0) hX 31 rfl (by decide) ?_
      obtain ⟨N8, eN8, hb, h⟩ := sto_inv h
      refine J.iastN hX 32 26 (hX.lt (k := 26) (by decide)) sh_26 hb eN8 rfl ?_
      refine J.aload_n hX 33 2 rfl rfl ?_
      refine J.dup hX 34 rfl rfl ?_
      refine J.getI hX 35 17 0 (hX.lt (k := 17) (by decide)) sh_17 rfl in_wsX00 11 (by decide) w_611 rfl rfl ?_
      refine J.iconst (v := 1) hX 36 rfl (by decide) ?_
      refine J.iadd hX 37 rfl ?_
      obtain ⟨N9, eN9, h⟩ := bnd_inv h
      refine J.putIN hX 38 17 0 (hX.lt (k := 17) (by decide)) sh_17 rfl in_wsX00 11 (by decide) w_611 tyX0 tyX0_ok nmX0 eN9 rfl rfl (by decide +kernel) rfl ?_
      refine J.aload_n hX 39 2 rfl rfl ?_
      refine J.dup hX 40 rfl rfl ?_
      refine J.getI hX 41 17 0 (hX.lt (k := 17) (by decide)) sh_17 rfl in_wsX00 12 (by decide) w_612 rfl rfl ?_
      refine J.aload_n hX 42 2 rfl rfl ?_
      refine J.getR hX 43 17 0 (hX.lt (k := 17) (by decide)) sh_17 rfl in_wsX00 3 (by decide) w_63 rfl rfl ?_
      refine J.iload_n hX 44 1 rfl rfl ?_
      obtain ⟨t8, et8, hb, h⟩ := ld_inv h
      refine J.ialdN hX 45 19 (hX.lt (k := 19) (by decide)) sh_19 hb et8 rfl ?_
      refine J.iadd hX 46 rfl ?_
      obtain ⟨N10, eN10, h⟩ := bnd_inv h
      refine J.putIN hX 47 17 0 (hX.lt (k := 17) (by decide)) sh_17 rfl in_wsX00 12 (by decide) w_612 tyX0 tyX0_ok nmX0 eN10 rfl rfl (by decide +kernel) rfl ?_
      refine J.sub (L' := [(0, .ref (ad 17)), (1, .int c1), (2, .int t1), (3, .int t3)]) [2, 3, 1, 0] rfl ?_
      exact X0_layInOrder_L12_j78_ok hX  h hin hex0
set_option maxHeartbeats 4000000 in
set_option maxRecDepth 100000 in
theorem mX0_layInOrder {l : Launch} {D : va_G} {cA : Nat → ClassId} {ad : Nat → Nat} {n : Nat} {A : Nat → Prop} {sa : Nat → Nat} {M : Mem} {Mf : Mem} (h : X0_layInOrder M = some Mf) : CT l D cA ad n A sa yX0_layInOrder cX0_layInOrder 4 none 1 22 [.ref (ad 17)] M (.inl none) Mf := by
  refine CT.of (kt := kX0_layInOrder) (by decide) kX0_layInOrder_ok (Nat.le_of_ble_eq_true rfl) ?_
  intro p e s m args below meth c hX hr ht
  unfold X0_layInOrder at h
  refine J.sub (L' := [(0, .ref (ad 17))]) [0] rfl ?_
  refine J.aload_n hX 0 0 rfl rfl ?_
  refine J.iconst (v := 0) hX 1 rfl (by decide) ?_
  obtain ⟨N1, eN1, h⟩ := bnd_inv h
  refine J.putIN hX 2 17 0 (hX.lt (k := 17) (by decide)) sh_17 rfl in_wsX00 11 (by decide) w_611 tyX0 tyX0_ok nmX0 eN1 rfl rfl (by decide +kernel) rfl ?_
  refine J.aload_n hX 3 0 rfl rfl ?_
  refine J.iconst (v := 0) hX 4 rfl (by decide) ?_
  obtain ⟨N2, eN2, h⟩ := bnd_inv h
  refine J.putIN hX 5 17 0 (hX.lt (k := 17) (by decide)) sh_17 rfl in_wsX00 12 (by decide) w_612 tyX0 tyX0_ok nmX0 eN2 rfl rfl (by decide +kernel) rfl ?_
  refine J.iconst (v := 0) hX 6 rfl (by decide) ?_
  refine J.istore_n (L' := [(1, .int 0), (0, .ref (ad 17))]) hX 7 rfl (by decide) rfl ?_
  refine J.sub (L' := [(0, .ref (ad 17)), (1, .int 0)]) [1, 0] rfl ?_
  obtain ⟨N11, hlp, h⟩ := bd1_inv h
  suffices hE : JM 1 22 p l e s m args below meth c D cA ad n A 4 (.inl none) Mf N11 118 [] [] by
    exact loop_ok (fun q9 : Int32 × Mem => JM 1 22 p l e s m args below meth c D cA ad n A 4 (.inl none) Mf q9.2 12 [(0, .ref (ad 17)), (1, .int q9.1)] []) (fun q9 r hB hst hex9 => X0_layInOrder_L12_ok hX  hB (fun _ _ hr => hst _ hr) (fun _ hr => by cases hex9 _ hr; exact hE)) 3000 _ hlp
  cases h
  exact J.vret hX hr 74 rfl
def X0_layAll (n : Nat) (M : Mem) (l2 : Int32) : Option (Mem) := if (M 17 0) = l2 then (some M) else (bd1 (X0_gather n M l2) (fun N1 => bd1 (X0_sort N1) (fun N2 => bd1 (X0_layInOrder N2) (fun N3 => bnd (wr N3 17 0 l2) (fun N4 => some N4)))))
set_option maxHeartbeats 4000000 in
set_option maxRecDepth 100000 in
theorem mX0_layAll {l : Launch} {D : va_G} {cA : Nat → ClassId} {ad : Nat → Nat} {n : Nat} {A : Nat → Prop} {sa : Nat → Nat} {M : Mem} {l2 : Int32} {Mf : Mem} (h : X0_layAll n M l2 = some Mf) : CT l D cA ad n A sa yX0_layAll cX0_layAll 3 none 5 116 [.ref (ad 17), .ref (ad 10), .int l2] M (.inl none) Mf := by
  refine CT.of (kt := kX0_layAll) (by decide) kX0_layAll_ok (Nat.le_of_ble_eq_true rfl) ?_
  intro p e s m args below meth c hX hr ht
  unfold X0_layAll at h
  refine J.sub (L' := [(0, .ref (ad 17)), (1, .ref (ad 10)), (2, .int l2)]) [0, 1, 2] rfl ?_
  refine J.aload_n hX 0 0 rfl rfl ?_
  refine J.getI hX 1 17 0 (hX.lt (k := 17) (by decide)) sh_17 rfl in_wsX00 0 (by decide) w_61 rfl rfl ?_
  refine J.iload_n hX 2 2 rfl rfl ?_
  refine J.icmp_ne (tgt := 9) hX 3 rfl (by decide) (fun b1 => ?_) (fun b1 => ?_)
  · rw [if_neg b1] at h
    refine J.aload_n hX 5 0 rfl rfl ?_
    refine J.aload_n hX 6 1 rfl rfl ?_
    refine J.iload_n hX 7 2 rfl rfl ?_
    obtain ⟨N1, hc, h⟩ := bd1_inv h
    refine J.callV0 (As := [.ref (ad 10), .int l2]) (rest := []) (k := 17) hX 8 rfl (mX0_gather  hc) okX0_gather w_514 (hX.lt (k := 17) (by decide)) sh_17 rfl rfl rfl (Nat.le_of_ble_eq_true rfl) ⟨Nat.le_of_ble_eq_true rfl, Nat.le_of_ble_eq_true rfl⟩ ⟨Nat.zero_le _, Nat.zero_le _⟩ ?_
    refine J.aload_n hX 9 0 rfl rfl ?_
    obtain ⟨N2, hc, h⟩ := bd1_inv h
    refine J.callV0 (As := []) (rest := []) (k := 17) hX 10 rfl (mX0_sort  hc) okX0_sort w_594 (hX.lt (k := 17) (by decide)) sh_17 rfl rfl rfl (Nat.le_of_ble_eq_true rfl) ⟨Nat.le_of_ble_eq_true rfl, Nat.le_of_ble_eq_true rfl⟩ ⟨Nat.zero_le _, Nat.zero_le _⟩ ?_
    refine J.aload_n hX 11 0 rfl rfl ?_
    obtain ⟨N3, hc, h⟩ := bd1_inv h
    refine J.callV0 (As := []) (rest := []) (k := 17) hX 12 rfl (mX0_layInOrder  hc) okX0_layInOrder w_607 (hX.lt (k := 17) (by decide)) sh_17 rfl rfl rfl (Nat.le_of_ble_eq_true rfl) ⟨Nat.le_of_ble_eq_true rfl, Nat.le_of_ble_eq_true rfl⟩ ⟨Nat.zero_le _, Nat.zero_le _⟩ ?_
    refine J.aload_n hX 13 0 rfl rfl ?_
    refine J.iload_n hX 14 2 rfl rfl ?_
    obtain ⟨N4, eN4, h⟩ := bnd_inv h
    refine J.putIN hX 15 17 0 (hX.lt (k := 17) (by decide)) sh_17 rfl in_wsX00 0 (by decide) w_61 tyX0 tyX0_ok nmX0 eN4 rfl rfl (by decide +kernel) rfl ?_
    cases h
    exact J.vret hX hr 16 rfl
  · rw [if_pos b1] at h
    cases h
    exact J.vret hX hr 4 rfl
end G16
