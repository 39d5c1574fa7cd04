section G19
variable {p : Program} {l : Launch} {e : Env} {s : State} {m : MethodId} {args : Array Value} {below : List Frame} {meth : Method} {c : Code} {D : va_G} {cA : Nat → ClassId} {ad : Nat → Nat} {n : Nat} {A : Nat → Prop} {sa : Nat → Nat} {out : Option Value ⊕ String} {M1 : Mem}
def X4_within_j14 (M : Mem) (v1 : Int32) : Option (Int32) := chk (isB v1) (some v1)
def X4_within (M : Mem) (l0 : Int32) (l1 : Int32) : Option (Int32) := if l0 < 0 then (X4_within_j14 M 0) else (if l1 ≤ l0 then (X4_within_j14 M 0) else (X4_within_j14 M 1))
set_option maxHeartbeats 4000000 in
set_option maxRecDepth 100000 in
theorem X4_within_j14_ok (hX : Cx p s m args meth c D cA ad n A sa cX4_within 2 RX4 kX4_within) {M : Mem} {v1 : Int32} {r : Int32}  (hr : meth.sig.returnType = (some .boolean)) (ht : ∀ x ∈ c.exceptionTable.toList, False) (h : X4_within_j14 M v1 = some r) : JM 0 0 p l e s m args below meth c D cA ad n A 2 (.inl (some (.int r))) M M 14 [] [.int v1] := by
  unfold X4_within_j14 at h
  obtain ⟨hz, h⟩ := chk_inv h
  cases h
  exact J.zret hX hr 8 (isB_nar hz) rfl
set_option maxHeartbeats 4000000 in
set_option maxRecDepth 100000 in
theorem mX4_within {l : Launch} {D : va_G} {cA : Nat → ClassId} {ad : Nat → Nat} {n : Nat} {A : Nat → Prop} {sa : Nat → Nat} {M : Mem} {l0 : Int32} {l1 : Int32} {r : Int32} (h : X4_within M l0 l1 = some r) : CT l D cA ad n A sa yX4_within cX4_within 2 (some .boolean) 0 0 [.int l0, .int l1] M (.inl (some (.int r))) M := by
  refine CT.of (kt := kX4_within) (by decide) kX4_within_ok (Nat.le_of_ble_eq_true rfl) ?_
  intro p e s m args below meth c hX hr ht
  unfold X4_within at h
  refine J.sub (L' := [(0, .int l0), (1, .int l1)]) [0, 1] rfl ?_
  refine J.iload_n hX 0 0 rfl rfl ?_
  refine J.if_lt (tgt := 13) hX 1 rfl (by decide) (fun b1 => ?_) (fun b1 => ?_)
  · rw [if_pos b1] at h
    refine J.iconst (v := 0) hX 7 rfl (by decide) ?_
    refine J.sub (L' := []) [] rfl ?_
    exact X4_within_j14_ok hX  hr ht h
  · rw [if_neg b1] at h
    refine J.iload_n hX 2 0 rfl rfl ?_
    refine J.iload_n hX 3 1 rfl rfl ?_
    refine J.icmp_ge (tgt := 13) hX 4 rfl (by decide) (fun b2 => ?_) (fun b2 => ?_)
    · rw [if_pos b2] at h
      refine J.iconst (v := 0) hX 7 rfl (by decide) ?_
      refine J.sub (L' := []) [] rfl ?_
      exact X4_within_j14_ok hX  hr ht h
    · rw [if_neg b2] at h
      refine J.iconst (v := 1) hX 5 rfl (by decide) ?_
      refine J.goto (tgt := 14) hX 6 rfl (by decide) ?_
      refine J.sub (L' := []) [] rfl ?_
      exact X4_within_j14_ok hX  hr ht h
def X4_corner_j50 (N4 : Mem) (l1 : Int32) (l2 : Int32) (l3 : Int32) (l4 : Int32) (v2 : Int32) : Option ((Int32 ⊕ String) × Mem) := if v2 = 0 then (some (.inr "java/lang/IllegalArgumentException", N4)) else (bd1 (X1_putCorner N4 1 l1 l2 l3 l4) (fun N5 => some (.inl 0, N5)))
def X4_corner_j49 (N3 : Mem) (l1 : Int32) (l2 : Int32) (l3 : Int32) (l4 : Int32) : Option ((Int32 ⊕ String) × Mem) := X4_corner_j50 N3 l1 l2 l3 l4 0
def X4_corner_j23 (N2 : Mem) (l1 : Int32) (l2 : Int32) (l3 : Int32) (l4 : Int32) (v1 : Int32) : Option ((Int32 ⊕ String) × Mem) := if v1 = 0 then (some (.inr "java/util/NoSuchElementException", N2)) else (bd1 (X4_within N2 l3 97) (fun t2 => if t2 = 0 then (X4_corner_j49 N2 l1 l2 l3 l4) else (bd1 (X4_within N2 l4 97) (fun t3 => if t3 = 0 then (X4_corner_j49 N2 l1 l2 l3 l4) else (X4_corner_j50 N2 l1 l2 l3 l4 1)))))
def X4_corner_j22 (N1 : Mem) (l1 : Int32) (l2 : Int32) (l3 : Int32) (l4 : Int32) : Option ((Int32 ⊕ String) × Mem) := X4_corner_j23 N1 l1 l2 l3 l4 0
def X4_corner (M : Mem) (l1 : Int32) (l2 : Int32) (l3 : Int32) (l4 : Int32) : Option ((Int32 ⊕ String) × Mem) := bd1 (X4_within M l1 24) (fun t1 => if t1 = 0 then (X4_corner_j22 M l1 l2 l3 l4) else (bd1 (X4_within M l2 8) (fun t4 => if t4 = 0 then (X4_corner_j22 M l1 l2 l3 l4) else (X4_corner_j23 M l1 l2 l3 l4 1))))
set_option maxHeartbeats 4000000 in
set_option maxRecDepth 100000 in
theorem X4_corner_j50_ok (hX : Cx p s m args meth c D cA ad n A sa cX4_corner 5 RX4 kX4_corner) {N4 : Mem} {l1 : Int32} {l2 : Int32} {l3 : Int32} {l4 : Int32} {v2 : Int32} {res : Int32 ⊕ String} {Mf : Mem}  (hr : meth.sig.returnType = none) (ht : ∀ x ∈ c.exceptionTable.toList, False) (hl : l.stackTraces = false) (h : X4_corner_j50 N4 l1 l2 l3 l4 v2 = some (res, Mf)) : JM 7 102 p l e s m args below meth c D cA ad n A 5 (outV res) Mf N4 50 [(0, .ref (ad 0)), (1, .int l1), (2, .int l2), (3, .int l3), (4, .int l4)] [.int v2] := by
  unfold X4_corner_j50 at h
  by_cases b4 : v2 = 0
  · rw [if_pos b4] at h
    cases h
    exact J.passS (As := [.int v2]) (rest := []) hX ht 23 rfl (mX4_mustFit_t hl b4) okX4_mustFit w_114 rfl rfl (Nat.le_of_ble_eq_true rfl) ⟨Nat.le_of_ble_eq_true rfl, Nat.le_of_ble_eq_true rfl⟩ ⟨Nat.le_refl _, Nat.le_refl _⟩
  · rw [if_neg b4] at h
    refine J.callS0 (As := [.int v2]) (rest := []) hX 23 rfl (mX4_mustFit_r b4) okX4_mustFit w_114 rfl rfl (Nat.le_of_ble_eq_true rfl) ⟨Nat.le_of_ble_eq_true rfl, Nat.le_of_ble_eq_true rfl⟩ ⟨Nat.zero_le _, Nat.zero_le _⟩ ?_
    refine J.aload_n hX 24 0 rfl rfl ?_
    refine J.getR hX 25 0 4 (hX.lt (k := 0) (by decide)) sh_0 rfl in_wsX40 0 (by decide) w_16 rfl rfl ?_
    refine J.iload_n hX 26 1 rfl rfl ?_
    refine J.iload_n hX 27 2 rfl rfl ?_
    refine J.iload_n hX 28 3 rfl rfl ?_
    refine J.iload hX 29 4 rfl rfl ?_
    obtain ⟨N5, hc, h⟩ := bd1_inv h
    refine J.callV0 (As := [.int l1, .int l2, .int l3, .int l4]) (rest := []) (k := 1) hX 30 rfl (mX1_putCorner (DrOk.main hX.n49) hc) okX1_putCorner w_119 (hX.lt (k := 1) (by decide)) sh_1 rfl rfl rfl (Nat.le_of_ble_eq_true rfl) ⟨Nat.le_of_ble_eq_true rfl, Nat.le_of_ble_eq_true rfl⟩ ⟨Nat.zero_le _, Nat.zero_le _⟩ ?_
    cases h
    exact J.vret hX hr 31 rfl
set_option maxHeartbeats 4000000 in
set_option maxRecDepth 100000 in
theorem X4_corner_j49_ok (hX : Cx p s m args meth c D cA ad n A sa cX4_corner 5 RX4 kX4_corner) {N3 : Mem} {l1 : Int32} {l2 : Int32} {l3 : Int32} {l4 : Int32} {res : Int32 ⊕ String} {Mf : Mem}  (hr : meth.sig.returnType = none) (ht : ∀ x ∈ c.exceptionTable.toList, False) (hl : l.stackTraces = false) (h : X4_corner_j49 N3 l1 l2 l3 l4 = some (res, Mf)) : JM 7 102 p l e s m args below meth c D cA ad n A 5 (outV res) Mf N3 49 [(0, .ref (ad 0)), (1, .int l1), (2, .int l2), (3, .int l3), (4, .int l4)] [] := by
  unfold X4_corner_j49 at h
  refine J.iconst (v := 0) hX 22 rfl (by decide) ?_
  refine J.sub (L' := [(0, .ref (ad 0)), (1, .int l1), (2, .int l2), (3, .int l3), (4, .int l4)]) [0, 1, 2, 3, 4] rfl ?_
  exact X4_corner_j50_ok hX  hr ht hl h
set_option maxHeartbeats 4000000 in
set_option maxRecDepth 100000 in
theorem X4_corner_j23_ok (hX : Cx p s m args meth c D cA ad n A sa cX4_corner 5 RX4 kX4_corner) {N2 : Mem} {l1 : Int32} {l2 : Int32} {l3 : Int32} {l4 : Int32} {v1 : Int32} {res : Int32 ⊕ String} {Mf : Mem}  (hr : meth.sig.returnType = none) (ht : ∀ x ∈ c.exceptionTable.toList, False) (hl : l.stackTraces = false) (h : X4_corner_j23 N2 l1 l2 l3 l4 v1 = some (res, Mf)) : JM 7 102 p l e s m args below meth c D cA ad n A 5 (outV res) Mf N2 23 [(0, .ref (ad 0)), (1, .int l1), (2, .int l2), (3, .int l3), (4, .int l4)] [.int v1] := by
  unfold X4_corner_j23 at h
  by_cases b2 : v1 = 0
  · rw [if_pos b2] at h
    cases h
    exact J.passS (As := [.int v1]) (rest := []) hX ht 11 rfl (mX4_mustExist_t hl b2) okX4_mustExist w_109 rfl rfl (Nat.le_of_ble_eq_true rfl) ⟨Nat.le_of_ble_eq_true rfl, Nat.le_of_ble_eq_true rfl⟩ ⟨Nat.le_refl _, Nat.le_refl _⟩
  · rw [if_neg b2] at h
    refine J.callS0 (As := [.int v1]) (rest := []) hX 11 rfl (mX4_mustExist_r b2) okX4_mustExist w_109 rfl rfl (Nat.le_of_ble_eq_true rfl) ⟨Nat.le_of_ble_eq_true rfl, Nat.le_of_ble_eq_true rfl⟩ ⟨Nat.zero_le _, Nat.zero_le _⟩ ?_
    refine J.iload_n hX 12 3 rfl rfl ?_
    refine J.bipush (v := 97) hX 13 rfl (by decide) ?_
    obtain ⟨t2, hc, h⟩ := bd1_inv h
    refine J.callS1 (As := [.int l3, .int 97]) (rest := []) hX 14 rfl (mX4_within  hc) okX4_within w_106 rfl rfl (Nat.le_of_ble_eq_true rfl) ⟨Nat.le_of_ble_eq_true rfl, Nat.le_of_ble_eq_true rfl⟩ ⟨Nat.zero_le _, Nat.zero_le _⟩ ?_
    refine J.if_eq (tgt := 49) hX 15 rfl (by decide) (fun b3 => ?_) (fun b3 => ?_)
    · rw [if_pos b3] at h
      refine J.sub (L' := [(0, .ref (ad 0)), (1, .int l1), (2, .int l2), (3, .int l3), (4, .int l4)]) [0, 1, 2, 3, 4] rfl ?_
      exact X4_corner_j49_ok hX  hr ht hl h
    · rw [if_neg b3] at h
      refine J.iload hX 16 4 rfl rfl ?_
      refine J.bipush (v := 97) hX 17 rfl (by decide) ?_
      obtain ⟨t3, hc, h⟩ := bd1_inv h
      refine J.callS1 (As := [.int l4, .int 97]) (rest := []) hX 18 rfl (mX4_within  hc) okX4_within w_106 rfl rfl (Nat.le_of_ble_eq_true rfl) ⟨Nat.le_of_ble_eq_true rfl, Nat.le_of_ble_eq_true rfl⟩ ⟨Nat.zero_le _, Nat.zero_le _⟩ ?_
      refine J.if_eq (tgt := 49) hX 19 rfl (by decide) (fun b5 => ?_) (fun b5 => ?_)
      · rw [if_pos b5] at h
        refine J.sub (L' := [(0, .ref (ad 0)), (1, .int l1), (2, .int l2), (3, .int l3), (4, .int l4)]) [0, 1, 2, 3, 4] rfl ?_
        exact X4_corner_j49_ok hX  hr ht hl h
      · rw [if_neg b5] at h
        refine J.iconst (v := 1) hX 20 rfl (by decide) ?_
        refine J.goto (tgt := 50) hX 21 rfl (by decide) ?_
        refine J.sub (L' := [(0, .ref (ad 0)), (1, .int l1), (2, .int l2), (3, .int l3), (4, .int l4)]) [0, 1, 2, 3, 4] rfl ?_
        exact X4_corner_j50_ok hX  hr ht hl h
set_option maxHeartbeats 4000000 in
set_option maxRecDepth 100000 in
theorem X4_corner_j22_ok (hX : Cx p s m args meth c D cA ad n A sa cX4_corner 5 RX4 kX4_corner) {N1 : Mem} {l1 : Int32} {l2 : Int32} {l3 : Int32} {l4 : Int32} {res : Int32 ⊕ String} {Mf : Mem}  (hr : meth.sig.returnType = none) (ht : ∀ x ∈ c.exceptionTable.toList, False) (hl : l.stackTraces = false) (h : X4_corner_j22 N1 l1 l2 l3 l4 = some (res, Mf)) : JM 7 102 p l e s m args below meth c D cA ad n A 5 (outV res) Mf N1 22 [(0, .ref (ad 0)), (1, .int l1), (2, .int l2), (3, .int l3), (4, .int l4)] [] := by
  unfold X4_corner_j22 at h
  refine J.iconst (v := 0) hX 10 rfl (by decide) ?_
  refine J.sub (L' := [(0, .ref (ad 0)), (1, .int l1), (2, .int l2), (3, .int l3), (4, .int l4)]) [0, 1, 2, 3, 4] rfl ?_
  exact X4_corner_j23_ok hX  hr ht hl h
set_option maxHeartbeats 4000000 in
set_option maxRecDepth 100000 in
theorem mX4_corner {l : Launch} {D : va_G} {cA : Nat → ClassId} {ad : Nat → Nat} {n : Nat} {A : Nat → Prop} {sa : Nat → Nat} {M : Mem} {l1 : Int32} {l2 : Int32} {l3 : Int32} {l4 : Int32} {res : Int32 ⊕ String} {Mf : Mem} (hl : l.stackTraces = false) (h : X4_corner M l1 l2 l3 l4 = some (res, Mf)) : CT l D cA ad n A sa yX4_corner cX4_corner 5 none 7 102 [.ref (ad 0), .int l1, .int l2, .int l3, .int l4] M (outV res) Mf := by
  refine CT.of (kt := kX4_corner) (by decide) kX4_corner_ok (Nat.le_of_ble_eq_true rfl) ?_
  intro p e s m args below meth c hX hr ht
  unfold X4_corner at h
  refine J.sub (L' := [(0, .ref (ad 0)), (1, .int l1), (2, .int l2), (3, .int l3), (4, .int l4)]) [0, 1, 2, 3, 4] rfl ?_
  refine J.iload_n hX 0 1 rfl rfl ?_
  refine J.bipush (v := 24) hX 1 rfl (by decide) ?_
  obtain ⟨t1, hc, h⟩ := bd1_inv h
  refine J.callS1 (As := [.int l1, .int 24]) (rest := []) hX 2 rfl (mX4_within  hc) okX4_within w_106 rfl rfl (Nat.le_of_ble_eq_true rfl) ⟨Nat.le_of_ble_eq_true rfl, Nat.le_of_ble_eq_true rfl⟩ ⟨Nat.zero_le _, Nat.zero_le _⟩ ?_
  refine J.if_eq (tgt := 22) hX 3 rfl (by decide) (fun b1 => ?_) (fun b1 => ?_)
  · rw [if_pos b1] at h
    refine J.sub (L' := [(0, .ref (ad 0)), (1, .int l1), (2, .int l2), (3, .int l3), (4, .int l4)]) [0, 1, 2, 3, 4] rfl ?_
    exact X4_corner_j22_ok hX  hr ht hl h
  · rw [if_neg b1] at h
    refine J.iload_n hX 4 2 rfl rfl ?_
    refine J.bipush (v := 8) hX 5 rfl (by decide) ?_
    obtain ⟨t4, hc, h⟩ := bd1_inv h
    refine J.callS1 (As := [.int l2, .int 8]) (rest := []) hX 6 rfl (mX4_within  hc) okX4_within w_106 rfl rfl (Nat.le_of_ble_eq_true rfl) ⟨Nat.le_of_ble_eq_true rfl, Nat.le_of_ble_eq_true rfl⟩ ⟨Nat.zero_le _, Nat.zero_le _⟩ ?_
    refine J.if_eq (tgt := 22) hX 7 rfl (by decide) (fun b6 => ?_) (fun b6 => ?_)
    · rw [if_pos b6] at h
      refine J.sub (L' := [(0, .ref (ad 0)), (1, .int l1), (2, .int l2), (3, .int l3), (4, .int l4)]) [0, 1, 2, 3, 4] rfl ?_
      exact X4_corner_j22_ok hX  hr ht hl h
    · rw [if_neg b6] at h
      refine J.iconst (v := 1) hX 8 rfl (by decide) ?_
      refine J.goto (tgt := 23) hX 9 rfl (by decide) ?_
      refine J.sub (L' := [(0, .ref (ad 0)), (1, .int l1), (2, .int l2), (3, .int l3), (4, .int l4)]) [0, 1, 2, 3, 4] rfl ?_
      exact X4_corner_j23_ok hX  hr ht hl h
def X4_close_j42 (N4 : Mem) (l1 : Int32) (l2 : Int32) (l3 : Int32) (v2 : Int32) : Option ((Int32 ⊕ String) × Mem) := if v2 = 0 then (some (.inr "java/lang/IllegalArgumentException", N4)) else (bd2 (X1_closePatch N4 1 l1 l2 l3) (fun t2 N5 => some (.inl t2, N5)))
def X4_close_j41 (N3 : Mem) (l1 : Int32) (l2 : Int32) (l3 : Int32) : Option ((Int32 ⊕ String) × Mem) := X4_close_j42 N3 l1 l2 l3 0
def X4_close_j23 (N2 : Mem) (l1 : Int32) (l2 : Int32) (l3 : Int32) (v1 : Int32) : Option ((Int32 ⊕ String) × Mem) := if v1 = 0 then (some (.inr "java/util/NoSuchElementException", N2)) else (if l2 < 3 then (X4_close_j41 N2 l1 l2 l3) else (if 8 < l2 then (X4_close_j41 N2 l1 l2 l3) else (X4_close_j42 N2 l1 l2 l3 1)))
def X4_close_j22 (N1 : Mem) (l1 : Int32) (l2 : Int32) (l3 : Int32) : Option ((Int32 ⊕ String) × Mem) := X4_close_j23 N1 l1 l2 l3 0
def X4_close (M : Mem) (l1 : Int32) (l2 : Int32) (l3 : Int32) : Option ((Int32 ⊕ String) × Mem) := bd1 (X4_within M l1 24) (fun t1 => if t1 = 0 then (X4_close_j22 M l1 l2 l3) else (bd1 (X4_within M l3 12) (fun t3 => if t3 = 0 then (X4_close_j22 M l1 l2 l3) else (X4_close_j23 M l1 l2 l3 1))))
set_option maxHeartbeats 4000000 in
set_option maxRecDepth 100000 in
theorem X4_close_j42_ok (hX : Cx p s m args meth c D cA ad n A sa cX4_close 4 RX4 kX4_close) {N4 : Mem} {l1 : Int32} {l2 : Int32} {l3 : Int32} {v2 : Int32} {res : Int32 ⊕ String} {Mf : Mem}  (hr : meth.sig.returnType = (some .int)) (ht : ∀ x ∈ c.exceptionTable.toList, False) (hl : l.stackTraces = false) (h : X4_close_j42 N4 l1 l2 l3 v2 = some (res, Mf)) : JM 7 102 p l e s m args below meth c D cA ad n A 4 (outI res) Mf N4 42 [(0, .ref (ad 0)), (1, .int l1), (2, .int l2), (3, .int l3)] [.int v2] := by
  unfold X4_close_j42 at h
  by_cases b4 : v2 = 0
  · rw [if_pos b4] at h
    cases h
    exact J.passS (As := [.int v2]) (rest := []) hX ht 21 rfl (mX4_mustFit_t hl b4) okX4_mustFit w_114 rfl rfl (Nat.le_of_ble_eq_true rfl) ⟨Nat.le_of_ble_eq_true rfl, Nat.le_of_ble_eq_true rfl⟩ ⟨Nat.le_refl _, Nat.le_refl _⟩
  · rw [if_neg b4] at h
    refine J.callS0 (As := [.int v2]) (rest := []) hX 21 rfl (mX4_mustFit_r b4) okX4_mustFit w_114 rfl rfl (Nat.le_of_ble_eq_true rfl) ⟨Nat.le_of_ble_eq_true rfl, Nat.le_of_ble_eq_true rfl⟩ ⟨Nat.zero_le _, Nat.zero_le _⟩ ?_
    refine J.aload_n hX 22 0 rfl rfl ?_
    refine J.getR hX 23 0 4 (hX.lt (k := 0) (by decide)) sh_0 rfl in_wsX40 0 (by decide) w_16 rfl rfl ?_
    refine J.iload_n hX 24 1 rfl rfl ?_
    refine J.iload_n hX 25 2 rfl rfl ?_
    refine J.iload_n hX 26 3 rfl rfl ?_
    obtain ⟨t2, N5, hc, h⟩ := bd2_inv h
    refine J.callV1 (As := [.int l1, .int l2, .int l3]) (rest := []) (k := 1) hX 27 rfl (mX1_closePatch (DrOk.main hX.n49) hc) okX1_closePatch w_153 (hX.lt (k := 1) (by decide)) sh_1 rfl rfl rfl (Nat.le_of_ble_eq_true rfl) ⟨Nat.le_of_ble_eq_true rfl, Nat.le_of_ble_eq_true rfl⟩ ⟨Nat.zero_le _, Nat.zero_le _⟩ ?_
    cases h
    exact J.iret hX hr 28 rfl
set_option maxHeartbeats 4000000 in
set_option maxRecDepth 100000 in
theorem X4_close_j41_ok (hX : Cx p s m args meth c D cA ad n A sa cX4_close 4 RX4 kX4_close) {N3 : Mem} {l1 : Int32} {l2 : Int32} {l3 : Int32} {res : Int32 ⊕ String} {Mf : Mem}  (hr : meth.sig.returnType = (some .int)) (ht : ∀ x ∈ c.exceptionTable.toList, False) (hl : l.stackTraces = false) (h : X4_close_j41 N3 l1 l2 l3 = some (res, Mf)) : JM 7 102 p l e s m args below meth c D cA ad n A 4 (outI res) Mf N3 41 [(0, .ref (ad 0)), (1, .int l1), (2, .int l2), (3, .int l3)] [] := by
  unfold X4_close_j41 at h
  refine J.iconst (v := 0) hX 20 rfl (by decide) ?_
  refine J.sub (L' := [(0, .ref (ad 0)), (1, .int l1), (2, .int l2), (3, .int l3)]) [0, 1, 2, 3] rfl ?_
  exact X4_close_j42_ok hX  hr ht hl h
set_option maxHeartbeats 4000000 in
set_option maxRecDepth 100000 in
theorem X4_close_j23_ok (hX : Cx p s m args meth c D cA ad n A sa cX4_close 4 RX4 kX4_close) {N2 : Mem} {l1 : Int32} {l2 : Int32} {l3 : Int32} {v1 : Int32} {res : Int32 ⊕ String} {Mf : Mem}  (hr : meth.sig.returnType = (some .int)) (ht : ∀ x ∈ c.exceptionTable.toList, False) (hl : l.stackTraces = false) (h : X4_close_j23 N2 l1 l2 l3 v1 = some (res, Mf)) : JM 7 102 p l e s m args below meth c D cA ad n A 4 (outI res) Mf N2 23 [(0, .ref (ad 0)), (1, .int l1), (2, .int l2), (3, .int l3)] [.int v1] := by
  unfold X4_close_j23 at h
  by_cases b2 : v1 = 0
  · rw [if_pos b2] at h
    cases h
    exact J.passS (As := [.int v1]) (rest := []) hX ht 11 rfl (mX4_mustExist_t hl b2) okX4_mustExist w_109 rfl rfl (Nat.le_of_ble_eq_true rfl) ⟨Nat.le_of_ble_eq_true rfl, Nat.le_of_ble_eq_true rfl⟩ ⟨Nat.le_refl _, Nat.le_refl _⟩
  · rw [if_neg b2] at h
    refine J.callS0 (As := [.int v1]) (rest := []) hX 11 rfl (mX4_mustExist_r b2) okX4_mustExist w_109 rfl rfl (Nat.le_of_ble_eq_true rfl) ⟨Nat.le_of_ble_eq_true rfl, Nat.le_of_ble_eq_true rfl⟩ ⟨Nat.zero_le _, Nat.zero_le _⟩ ?_
    refine J.iload_n hX 12 2 rfl rfl ?_
    refine J.iconst (v := 3) hX 13 rfl (by decide) ?_
    refine J.icmp_lt (tgt := 41) hX 14 rfl (by decide) (fun b3 => ?_) (fun b3 => ?_)
    · rw [if_pos b3] at h
      refine J.sub (L' := [(0, .ref (ad 0)), (1, .int l1), (2, .int l2), (3, .int l3)]) [0, 1, 2, 3] rfl ?_
      exact X4_close_j41_ok hX  hr ht hl h
    · rw [if_neg b3] at h
      refine J.iload_n hX 15 2 rfl rfl ?_
      refine J.bipush (v := 8) hX 16 rfl (by decide) ?_
      refine J.icmp_gt (tgt := 41) hX 17 rfl (by decide) (fun b5 => ?_) (fun b5 => ?_)
      · rw [if_pos b5] at h
        refine J.sub (L' := [(0, .ref (ad 0)), (1, .int l1), (2, .int l2), (3, .int l3)]) [0, 1, 2, 3] rfl ?_
        exact X4_close_j41_ok hX  hr ht hl h
      · rw [if_neg b5] at h
        refine J.iconst (v := 1) hX 18 rfl (by decide) ?_
        refine J.goto (tgt := 42) hX 19 rfl (by decide) ?_
        refine J.sub (L' := [(0, .ref (ad 0)), (1, .int l1), (2, .int l2), (3, .int l3)]) [0, 1, 2, 3] rfl ?_
        exact X4_close_j42_ok hX  hr ht hl h
set_option maxHeartbeats 4000000 in
set_option maxRecDepth 100000 in
theorem X4_close_j22_ok (hX : Cx p s m args meth c D cA ad n A sa cX4_close 4 RX4 kX4_close) {N1 : Mem} {l1 : Int32} {l2 : Int32} {l3 : Int32} {res : Int32 ⊕ String} {Mf : Mem}  (hr : meth.sig.returnType = (some .int)) (ht : ∀ x ∈ c.exceptionTable.toList, False) (hl : l.stackTraces = false) (h : X4_close_j22 N1 l1 l2 l3 = some (res, Mf)) : JM 7 102 p l e s m args below meth c D cA ad n A 4 (outI res) Mf N1 22 [(0, .ref (ad 0)), (1, .int l1), (2, .int l2), (3, .int l3)] [] := by
  unfold X4_close_j22 at h
  refine J.iconst (v := 0) hX 10 rfl (by decide) ?_
  refine J.sub (L' := [(0, .ref (ad 0)), (1, .int l1), (2, .int l2), (3, .int l3)]) [0, 1, 2, 3] rfl ?_
  exact X4_close_j23_ok hX  hr ht hl h
set_option maxHeartbeats 4000000 in
set_option maxRecDepth 100000 in
theorem mX4_close {l : Launch} {D : va_G} {cA : Nat → ClassId} {ad : Nat → Nat} {n : Nat} {A : Nat → Prop} {sa : Nat → Nat} {M : Mem} {l1 : Int32} {l2 : Int32} {l3 : Int32} {res : Int32 ⊕ String} {Mf : Mem} (hl : l.stackTraces = false) (h : X4_close M l1 l2 l3 = some (res, Mf)) : CT l D cA ad n A sa yX4_close cX4_close 4 (some .int) 7 102 [.ref (ad 0), .int l1, .int l2, .int l3] M (outI res) Mf := by
  refine CT.of (kt := kX4_close) (by decide) kX4_close_ok (Nat.le_of_ble_eq_true rfl) ?_
  intro p e s m args below meth c hX hr ht
  unfold X4_close at h
  refine J.sub (L' := [(0, .ref (ad 0)), (1, .int l1), (2, .int l2), (3, .int l3)]) [0, 1, 2, 3] rfl ?_
  refine J.iload_n hX 0 1 rfl rfl ?_
  refine J.bipush (v := 24) hX 1 rfl (by decide) ?_
  obtain ⟨t1, hc, h⟩ := bd1_inv h
  refine J.callS1 (As := [.int l1, .int 24]) (rest := []) hX 2 rfl (mX4_within  hc) okX4_within w_106 rfl rfl (Nat.le_of_ble_eq_true rfl) ⟨Nat.le_of_ble_eq_true rfl, Nat.le_of_ble_eq_true rfl⟩ ⟨Nat.zero_le _, Nat.zero_le _⟩ ?_
  refine J.if_eq (tgt := 22) hX 3 rfl (by decide) (fun b1 => ?_) (fun b1 => ?_)
  · rw [if_pos b1] at h
    refine J.sub (L' := [(0, .ref (ad 0)), (1, .int l1), (2, .int l2), (3, .int l3)]) [0, 1, 2, 3] rfl ?_
    exact X4_close_j22_ok hX  hr ht hl h
  · rw [if_neg b1] at h
    refine J.iload_n hX 4 3 rfl rfl ?_
    refine J.bipush (v := 12) hX 5 rfl (by decide) ?_
    obtain ⟨t3, hc, h⟩ := bd1_inv h
    refine J.callS1 (As := [.int l3, .int 12]) (rest := []) hX 6 rfl (mX4_within  hc) okX4_within w_106 rfl rfl (Nat.le_of_ble_eq_true rfl) ⟨Nat.le_of_ble_eq_true rfl, Nat.le_of_ble_eq_true rfl⟩ ⟨Nat.zero_le _, Nat.zero_le _⟩ ?_
    refine J.if_eq (tgt := 22) hX 7 rfl (by decide) (fun b6 => ?_) (fun b6 => ?_)
    · rw [if_pos b6] at h
      refine J.sub (L' := [(0, .ref (ad 0)), (1, .int l1), (2, .int l2), (3, .int l3)]) [0, 1, 2, 3] rfl ?_
      exact X4_close_j22_ok hX  hr ht hl h
    · rw [if_neg b6] at h
      refine J.iconst (v := 1) hX 8 rfl (by decide) ?_
      refine J.goto (tgt := 23) hX 9 rfl (by decide) ?_
      refine J.sub (L' := [(0, .ref (ad 0)), (1, .int l1), (2, .int l2), (3, .int l3)]) [0, 1, 2, 3] rfl ?_
      exact X4_close_j23_ok hX  hr ht hl h
def X4_open (M : Mem) (l1 : Int32) : Option ((Int32 ⊕ String) × Mem) := bd1 (X4_within M l1 24) (fun t1 => if t1 = 0 then (some (.inr "java/util/NoSuchElementException", M)) else (bd1 (X1_isClosed M 1 l1) (fun t2 => bd1 (X1_openPatch M 1 l1) (fun N1 => chk (isB t2) (some (.inl t2, N1))))))
set_option maxHeartbeats 4000000 in
set_option maxRecDepth 100000 in
theorem mX4_open {l : Launch} {D : va_G} {cA : Nat → ClassId} {ad : Nat → Nat} {n : Nat} {A : Nat → Prop} {sa : Nat → Nat} {M : Mem} {l1 : Int32} {res : Int32 ⊕ String} {Mf : Mem} (hl : l.stackTraces = false) (h : X4_open M l1 = some (res, Mf)) : CT l D cA ad n A sa yX4_open cX4_open 3 (some .boolean) 7 102 [.ref (ad 0), .int l1] M (outI res) Mf := by
  refine CT.of (kt := kX4_open) (by decide) kX4_open_ok (Nat.le_of_ble_eq_true rfl) ?_
  intro p e s m args below meth c hX hr ht
  unfold X4_open at h
  refine J.sub (L' := [(0, .ref (ad 0)), (1, .int l1)]) [0, 1] rfl ?_
  refine J.iload_n hX 0 1 rfl rfl ?_
  refine J.bipush (v := 24) hX 1 rfl (by decide) ?_
  obtain ⟨t1, hc, h⟩ := bd1_inv h
  refine J.callS1 (As := [.int l1, .int 24]) (rest := []) hX 2 rfl (mX4_within  hc) okX4_within w_106 rfl rfl (Nat.le_of_ble_eq_true rfl) ⟨Nat.le_of_ble_eq_true rfl, Nat.le_of_ble_eq_true rfl⟩ ⟨Nat.zero_le _, Nat.zero_le _⟩ ?_
  by_cases b1 : t1 = 0
  · rw [if_pos b1] at h
    cases h
    exact J.passS (As := [.int t1]) (rest := []) hX ht 3 rfl (mX4_mustExist_t hl b1) okX4_mustExist w_109 rfl rfl (Nat.le_of_ble_eq_true rfl) ⟨Nat.le_of_ble_eq_true rfl, Nat.le_of_ble_eq_true rfl⟩ ⟨Nat.le_refl _, Nat.le_refl _⟩
  · rw [if_neg b1] at h
    refine J.callS0 (As := [.int t1]) (rest := []) hX 3 rfl (mX4_mustExist_r b1) okX4_mustExist w_109 rfl rfl (Nat.le_of_ble_eq_true rfl) ⟨Nat.le_of_ble_eq_true rfl, Nat.le_of_ble_eq_true rfl⟩ ⟨Nat.zero_le _, Nat.zero_le _⟩ ?_
    refine J.aload_n hX 4 0 rfl rfl ?_
    refine J.getR hX 5 0 4 (hX.lt (k := 0) (by decide)) sh_0 rfl in_wsX40 0 (by decide) w_16 rfl rfl ?_
    refine J.iload_n hX 6 1 rfl rfl ?_
    obtain ⟨t2, hc, h⟩ := bd1_inv h
    refine J.callV1 (As := [.int l1]) (rest := []) (k := 1) hX 7 rfl (mX1_isClosed (DrOk.main hX.n49) hc) okX1_isClosed w_203 (hX.lt (k := 1) (by decide)) sh_1 rfl rfl rfl (Nat.le_of_ble_eq_true rfl) ⟨Nat.le_of_ble_eq_true rfl, Nat.le_of_ble_eq_true rfl⟩ ⟨Nat.zero_le _, Nat.zero_le _⟩ ?_
    refine J.istore_n (L' := [(2, .int t2), (0, .ref (ad 0)), (1, .int l1)]) hX 8 rfl (by decide) rfl ?_
    refine J.aload_n hX 9 1 rfl rfl ?_
    refine J.getR hX 10 0 4 (hX.lt (k := 0) (by decide)) sh_0 rfl in_wsX40 0 (by decide) w_16 rfl rfl ?_
    refine J.iload_n hX 11 2 rfl rfl ?_
    obtain ⟨N1, hc, h⟩ := bd1_inv h
    refine J.callV0 (As := [.int l1]) (rest := []) (k := 1) hX 12 rfl (mX1_openPatch (DrOk.main hX.n49) hc) okX1_openPatch w_207 (hX.lt (k := 1) (by decide)) sh_1 rfl rfl rfl (Nat.le_of_ble_eq_true rfl) ⟨Nat.le_of_ble_eq_true rfl, Nat.le_of_ble_eq_true rfl⟩ ⟨Nat.zero_le _, Nat.zero_le _⟩ ?_
    refine J.iload_n hX 13 0 rfl rfl ?_
    obtain ⟨hz, h⟩ := chk_inv h
    cases h
    exact J.zret hX hr 14 (isB_nar hz) rfl
def X4_clear_L10 (t1 : Int32) (q9 : Int32 × Mem) : Option ((Int32 × Mem) ⊕ (Mem)) := un2 q9 (fun c1 N1 => if 24 ≤ c1 then (some (.inr N1)) else (bd1 (X1_openPatch N1 1 c1) (fun N2 => bnd (c1 + 1) (fun t2 => some (.inl (t2, N2))))))
def X4_clear (M : Mem) : Option (Int32 × Mem) := bd1 (X1_closedPatches M 1) (fun t1 => bd1 (loop (X4_clear_L10 t1) 3000 (0, M)) (fun N3 => some (t1, N3)))
set_option maxHeartbeats 4000000 in
set_option maxRecDepth 100000 in
theorem X4_clear_L10_ok (hX : Cx p s m args meth c D cA ad n A sa cX4_clear 3 RX4 kX4_clear) {N1 : Mem} {t1 : Int32} {c1 : Int32}  {r : (Int32 × Mem) ⊕ (Mem)} (h : X4_clear_L10 t1 (c1, N1) = some r) (hin : ∀ (q0 : Int32) (Mq : Mem), r = .inl (q0, Mq) → JM 3 63 p l e s m args below meth c D cA ad n A 3 out M1 Mq 10 [(0, .ref (ad 0)), (1, .int t1), (2, .int q0)] []) (hex0 : ∀  (Mq : Mem), r = .inr Mq → JM 3 63 p l e s m args below meth c D cA ad n A 3 out M1 Mq 30 [(1, .int t1)] []) : JM 3 63 p l e s m args below meth c D cA ad n A 3 out M1 N1 10 [(0, .ref (ad 0)), (1, .int t1), (2, .int c1)] [] := by
  unfold X4_clear_L10 at h
  have h := un2_inv h
  refine J.iload_n hX 6 2 rfl rfl ?_
  refine J.bipush (v := 24) hX 7 rfl (by decide) ?_
  refine J.icmp_ge (tgt := 30) hX 8 rfl (by decide) (fun b1 => ?_) (fun b1 => ?_)
  · rw [if_pos b1] at h
    refine J.sub (L' := [(1, .int t1)]) [1] rfl ?_
    exact hex0 _ (Option.some.inj h).symm
  · rw [if_neg b1] at h
    refine J.aload_n hX 9 0 rfl rfl ?_
    refine J.getR hX 10 0 4 (hX.lt (k := 0) (by decide)) sh_0 rfl in_wsX40 0 (by decide) w_16 rfl rfl ?_
    refine J.iload_n hX 11 2 rfl rfl ?_
    obtain ⟨N2, hc, h⟩ := bd1_inv h
    refine J.callV0 (As := [.int c1]) (rest := []) (k := 1) hX 12 rfl (mX1_openPatch (DrOk.main hX.n49) hc) okX1_openPatch w_207 (hX.lt (k := 1) (by decide)) sh_1 rfl rfl rfl (Nat.le_of_ble_eq_true rfl) ⟨Nat.le_of_ble_eq_true rfl, Nat.le_of_ble_eq_true rfl⟩ ⟨Nat.zero_le _, Nat.zero_le _⟩ ?_
    obtain ⟨t2, et2, h⟩ := bnd_inv h
    refine J.iinc (q := 2) (L' := [(2, .int t2), (0, .ref (ad 0)), (1, .int t1)]) hX 13 rfl rfl et2 (by decide) rfl ?_
    refine J.goto (tgt := 10) hX 14 rfl (by decide) ?_
    refine J.sub (L' := [(0, .ref (ad 0)), (1, .int t1), (2, .int t2)]) [1, 2, 0] rfl ?_
    exact hin _ _ (Option.some.inj h).symm
set_option maxHeartbeats 4000000 in
set_option maxRecDepth 100000 in
theorem mX4_clear {l : Launch} {D : va_G} {cA : Nat → ClassId} {ad : Nat → Nat} {n : Nat} {A : Nat → Prop} {sa : Nat → Nat} {M : Mem} {r : Int32} {Mf : Mem} (h : X4_clear M = some (r, Mf)) : CT l D cA ad n A sa yX4_clear cX4_clear 3 (some .int) 3 63 [.ref (ad 0)] M (.inl (some (.int r))) Mf := by
  refine CT.of (kt := kX4_clear) (by decide) kX4_clear_ok (Nat.le_of_ble_eq_true rfl) ?_
  intro p e s m args below meth c hX hr ht
  unfold X4_clear at h
  refine J.sub (L' := [(0, .ref (ad 0))]) [0] rfl ?_
  refine J.aload_n hX 0 0 rfl rfl ?_
  refine J.getR hX 1 0 4 (hX.lt (k := 0) (by decide)) sh_0 rfl in_wsX40 0 (by decide) w_16 rfl rfl ?_
  obtain ⟨t1, hc, h⟩ := bd1_inv h
  refine J.callV1 (As := []) (rest := []) (k := 1) hX 2 rfl (mX1_closedPatches (DrOk.main hX.n49) hc) okX1_closedPatches w_216 (hX.lt (k := 1) (by decide)) sh_1 rfl rfl rfl (Nat.le_of_ble_eq_true rfl) ⟨Nat.le_of_ble_eq_true rfl, Nat.le_of_ble_eq_true rfl⟩ ⟨Nat.zero_le _, Nat.zero_le _⟩ ?_
  refine J.istore_n (L' := [(1, .int t1), (0, .ref (ad 0))]) hX 3 rfl (by decide) rfl ?_
  refine J.iconst (v := 0) hX 4 rfl (by decide) ?_
  refine J.istore_n (L' := [(2, .int 0), (1, .int t1), (0, .ref (ad 0))]) hX 5 rfl (by decide) rfl ?_
  refine J.sub (L' := [(0, .ref (ad 0)), (1, .int t1), (2, .int 0)]) [2, 1, 0] rfl ?_
  obtain ⟨N3, hlp, h⟩ := bd1_inv h
  suffices hE : JM 3 63 p l e s m args below meth c D cA ad n A 3 (.inl (some (.int r))) Mf N3 30 [(1, .int t1)] [] by
    exact loop_ok (fun q9 : Int32 × Mem => JM 3 63 p l e s m args below meth c D cA ad n A 3 (.inl (some (.int r))) Mf q9.2 10 [(0, .ref (ad 0)), (1, .int t1), (2, .int q9.1)] []) (fun q9 r hB hst hex9 => X4_clear_L10_ok hX  hB (fun _ _ hr => hst _ hr) (fun _ hr => by cases hex9 _ hr; exact hE)) 3000 _ hlp
  refine J.iload_n hX 15 0 rfl rfl ?_
  cases h
  exact J.iret hX hr 16 rfl
def X4_check (M : Mem) : Option (Int32) := bd1 (X1_state M 1) (fun t1 => some t1)
set_option maxHeartbeats 4000000 in
set_option maxRecDepth 100000 in
theorem mX4_check {l : Launch} {D : va_G} {cA : Nat → ClassId} {ad : Nat → Nat} {n : Nat} {A : Nat → Prop} {sa : Nat → Nat} {M : Mem} {r : Int32} (h : X4_check M = some r) : CT l D cA ad n A sa yX4_check cX4_check 1 (some .int) 6 141 [.ref (ad 0)] M (.inl (some (.int r))) M := by
  refine CT.of (kt := kX4_check) (by decide) kX4_check_ok (Nat.le_of_ble_eq_true rfl) ?_
  intro p e s m args below meth c hX hr ht
  unfold X4_check at h
  refine J.sub (L' := [(0, .ref (ad 0))]) [0] rfl ?_
  refine J.aload_n hX 0 0 rfl rfl ?_
  refine J.getR hX 1 0 4 (hX.lt (k := 0) (by decide)) sh_0 rfl in_wsX40 0 (by decide) w_16 rfl rfl ?_
  obtain ⟨t1, hc, h⟩ := bd1_inv h
  refine J.callV1 (As := []) (rest := []) (k := 1) hX 2 rfl (mX1_state (DrOk.main hX.n49) hc) okX1_state w_244 (hX.lt (k := 1) (by decide)) sh_1 rfl rfl rfl (Nat.le_of_ble_eq_true rfl) ⟨Nat.le_of_ble_eq_true rfl, Nat.le_of_ble_eq_true rfl⟩ ⟨Nat.zero_le _, Nat.zero_le _⟩ ?_
  cases h
  exact J.iret hX hr 3 rfl
def X4_clash_j47 (M : Mem) (v2 : Int32) : Option ((Int32 ⊕ String) × Mem) := some (.inl v2, M)
def X4_clash_j14 (M : Mem) (l1 : Int32) (v1 : Int32) : Option ((Int32 ⊕ String) × Mem) := if v1 = 0 then (some (.inr "java/util/NoSuchElementException", M)) else (bd1 (X1_firstOverlap M 1) (fun t1 => if t1 = (-1) then (some (.inl (-1), M)) else (if l1 = 0 then (X4_clash_j47 M (t1 / 24)) else (X4_clash_j47 M (t1 - t1 / 24 * 24)))))
def X4_clash_j9 (M : Mem) (l1 : Int32) : Option ((Int32 ⊕ String) × Mem) := X4_clash_j14 M l1 1
def X4_clash (M : Mem) (l1 : Int32) : Option ((Int32 ⊕ String) × Mem) := if l1 = 0 then (X4_clash_j9 M l1) else (if l1 = 1 then (X4_clash_j9 M l1) else (X4_clash_j14 M l1 0))
set_option maxHeartbeats 4000000 in
set_option maxRecDepth 100000 in
theorem X4_clash_j47_ok (hX : Cx p s m args meth c D cA ad n A sa cX4_clash 3 RX4 kX4_clash) {M : Mem} {v2 : Int32} {res : Int32 ⊕ String} {Mf : Mem}  (hr : meth.sig.returnType = (some .int)) (ht : ∀ x ∈ c.exceptionTable.toList, False) (hl : l.stackTraces = false) (h : X4_clash_j47 M v2 = some (res, Mf)) : JM 7 119 p l e s m args below meth c D cA ad n A 3 (outI res) Mf M 47 [] [.int v2] := by
  unfold X4_clash_j47 at h
  cases h
  exact J.iret hX hr 27 rfl
set_option maxHeartbeats 4000000 in
set_option maxRecDepth 100000 in
theorem X4_clash_j14_ok (hX : Cx p s m args meth c D cA ad n A sa cX4_clash 3 RX4 kX4_clash) {M : Mem} {l1 : Int32} {v1 : Int32} {res : Int32 ⊕ String} {Mf : Mem}  (hr : meth.sig.returnType = (some .int)) (ht : ∀ x ∈ c.exceptionTable.toList, False) (hl : l.stackTraces = false) (h : X4_clash_j14 M l1 v1 = some (res, Mf)) : JM 7 119 p l e s m args below meth c D cA ad n A 3 (outI res) Mf M 14 [(0, .ref (ad 0)), (1, .int l1)] [.int v1] := by
  unfold X4_clash_j14 at h
  by_cases b2 : v1 = 0
  · rw [if_pos b2] at h
    cases h
    exact J.passS (As := [.int v1]) (rest := []) hX ht 8 rfl (mX4_mustExist_t hl b2) okX4_mustExist w_109 rfl rfl (Nat.le_of_ble_eq_true rfl) ⟨Nat.le_of_ble_eq_true rfl, Nat.le_of_ble_eq_true rfl⟩ ⟨Nat.le_refl _, Nat.le_refl _⟩
  · rw [if_neg b2] at h
    refine J.callS0 (As := [.int v1]) (rest := []) hX 8 rfl (mX4_mustExist_r b2) okX4_mustExist w_109 rfl rfl (Nat.le_of_ble_eq_true rfl) ⟨Nat.le_of_ble_eq_true rfl, Nat.le_of_ble_eq_true rfl⟩ ⟨Nat.zero_le _, Nat.zero_le _⟩ ?_
    refine J.aload_n hX 9 0 rfl rfl ?_
    refine J.getR hX 10 0 4 (hX.lt (k := 0) (by decide)) sh_0 rfl in_wsX40 0 (by decide) w_16 rfl rfl ?_
    obtain ⟨t1, hc, h⟩ := bd1_inv h
    refine J.callV1 (As := []) (rest := []) (k := 1) hX 11 rfl (mX1_firstOverlap (DrOk.main hX.n49) hc) okX1_firstOverlap w_291 (hX.lt (k := 1) (by decide)) sh_1 rfl rfl rfl (Nat.le_of_ble_eq_true rfl) ⟨Nat.le_of_ble_eq_true rfl, Nat.le_of_ble_eq_true rfl⟩ ⟨Nat.zero_le _, Nat.zero_le _⟩ ?_
    refine J.istore_n (L' := [(2, .int t1), (0, .ref (ad 0)), (1, .int l1)]) hX 12 rfl (by decide) rfl ?_
    refine J.iload_n hX 13 0 rfl rfl ?_
    refine J.iconst (v := (-1)) hX 14 rfl (by decide) ?_
    refine J.icmp_ne (tgt := 32) hX 15 rfl (by decide) (fun b3 => ?_) (fun b3 => ?_)
    · rw [if_neg b3] at h
      refine J.iload_n hX 18 2 rfl rfl ?_
      refine J.if_ne (tgt := 43) hX 19 rfl (by decide) (fun b4 => ?_) (fun b4 => ?_)
      · rw [if_neg b4] at h
        refine J.iload_n hX 24 0 rfl rfl ?_
        refine J.bipush (v := 24) hX 25 rfl (by decide) ?_
        refine J.irem hX 26 rfl (by decide) ?_
        refine J.sub (L' := []) [] rfl ?_
        exact X4_clash_j47_ok hX  hr ht hl h
      · rw [if_pos b4] at h
        refine J.iload_n hX 20 0 rfl rfl ?_
        refine J.bipush (v := 24) hX 21 rfl (by decide) ?_
        refine J.idiv hX 22 rfl (by decide) ?_
        refine J.goto (tgt := 47) hX 23 rfl (by decide) ?_
        refine J.sub (L' := []) [] rfl ?_
        exact X4_clash_j47_ok hX  hr ht hl h
    · rw [if_pos b3] at h
      refine J.iconst (v := (-1)) hX 16 rfl (by decide) ?_
      cases h
      exact J.iret hX hr 17 rfl
set_option maxHeartbeats 4000000 in
set_option maxRecDepth 100000 in
theorem X4_clash_j9_ok (hX : Cx p s m args meth c D cA ad n A sa cX4_clash 3 RX4 kX4_clash) {M : Mem} {l1 : Int32} {res : Int32 ⊕ String} {Mf : Mem}  (hr : meth.sig.returnType = (some .int)) (ht : ∀ x ∈ c.exceptionTable.toList, False) (hl : l.stackTraces = false) (h : X4_clash_j9 M l1 = some (res, Mf)) : JM 7 119 p l e s m args below meth c D cA ad n A 3 (outI res) Mf M 9 [(0, .ref (ad 0)), (1, .int l1)] [] := by
  unfold X4_clash_j9 at h
  refine J.iconst (v := 1) hX 5 rfl (by decide) ?_
  refine J.goto (tgt := 14) hX 6 rfl (by decide) ?_
  refine J.sub (L' := [(0, .ref (ad 0)), (1, .int l1)]) [0, 1] rfl ?_
  exact X4_clash_j14_ok hX  hr ht hl h
set_option maxHeartbeats 4000000 in
set_option maxRecDepth 100000 in
theorem mX4_clash {l : Launch} {D : va_G} {cA : Nat → ClassId} {ad : Nat → Nat} {n : Nat} {A : Nat → Prop} {sa : Nat → Nat} {M : Mem} {l1 : Int32} {res : Int32 ⊕ String} {Mf : Mem} (hl : l.stackTraces = false) (h : X4_clash M l1 = some (res, Mf)) : CT l D cA ad n A sa yX4_clash cX4_clash 3 (some .int) 7 119 [.ref (ad 0), .int l1] M (outI res) Mf := by
  refine CT.of (kt := kX4_clash) (by decide) kX4_clash_ok (Nat.le_of_ble_eq_true rfl) ?_
  intro p e s m args below meth c hX hr ht
  unfold X4_clash at h
  refine J.sub (L' := [(0, .ref (ad 0)), (1, .int l1)]) [0, 1] rfl ?_
  refine J.iload_n hX 0 1 rfl rfl ?_
  refine J.if_eq (tgt := 9) hX 1 rfl (by decide) (fun b1 => ?_) (fun b1 => ?_)
  · rw [if_pos b1] at h
    refine J.sub (L' := [(0, .ref (ad 0)), (1, .int l1)]) [0, 1] rfl ?_
    exact X4_clash_j9_ok hX  hr ht hl h
  · rw [if_neg b1] at h
    refine J.iload_n hX 2 1 rfl rfl ?_
    refine J.iconst (v := 1) hX 3 rfl (by decide) ?_
    refine J.icmp_ne (tgt := 13) hX 4 rfl (by decide) (fun b5 => ?_) (fun b5 => ?_)
    · rw [if_neg b5] at h
      refine J.iconst (v := 0) hX 7 rfl (by decide) ?_
      refine J.sub (L' := [(0, .ref (ad 0)), (1, .int l1)]) [0, 1] rfl ?_
      exact X4_clash_j14_ok hX  hr ht hl h
    · rw [if_pos b5] at h
      refine J.sub (L' := [(0, .ref (ad 0)), (1, .int l1)]) [0, 1] rfl ?_
      exact X4_clash_j9_ok hX  hr ht hl h
def X4_piece (M : Mem) : Option (Int32 × Mem) := bd2 (X2_findOrder M 1) (fun t1 N1 => some (t1, N1))
set_option maxHeartbeats 4000000 in
set_option maxRecDepth 100000 in
theorem mX4_piece {l : Launch} {D : va_G} {cA : Nat → ClassId} {ad : Nat → Nat} {n : Nat} {A : Nat → Prop} {sa : Nat → Nat} {M : Mem} {r : Int32} {Mf : Mem} (h : X4_piece M = some (r, Mf)) : CT l D cA ad n A sa yX4_piece cX4_piece 1 (some .int) 5 131 [.ref (ad 0)] M (.inl (some (.int r))) Mf := by
  refine CT.of (kt := kX4_piece) (by decide) kX4_piece_ok (Nat.le_of_ble_eq_true rfl) ?_
  intro p e s m args below meth c hX hr ht
  unfold X4_piece at h
  refine J.sub (L' := [(0, .ref (ad 0))]) [0] rfl ?_
  refine J.aload_n hX 0 0 rfl rfl ?_
  refine J.getR hX 1 0 4 (hX.lt (k := 0) (by decide)) sh_0 rfl in_wsX40 1 (by decide) w_20 rfl rfl ?_
  refine J.aload_n hX 2 0 rfl rfl ?_
  refine J.getR hX 3 0 4 (hX.lt (k := 0) (by decide)) sh_0 rfl in_wsX40 0 (by decide) w_16 rfl rfl ?_
  obtain ⟨t1, N1, hc, h⟩ := bd2_inv h
  refine J.callV1 (As := [.ref (ad 1)]) (rest := []) (k := 6) hX 4 rfl (mX2_findOrder (DrOk.main hX.n49) hc) okX2_findOrder w_300 (hX.lt (k := 6) (by decide)) sh_6 rfl rfl rfl (Nat.le_of_ble_eq_true rfl) ⟨Nat.le_of_ble_eq_true rfl, Nat.le_of_ble_eq_true rfl⟩ ⟨Nat.zero_le _, Nat.zero_le _⟩ ?_
  cases h
  exact J.iret hX hr 5 rfl
def X4_seam (M : Mem) (l1 : Int32) (l2 : Int32) : Option ((Int32 ⊕ String) × Mem) := bd1 (X4_within M l1 (M 6 3)) (fun t1 => if t1 = 0 then (some (.inr "java/util/NoSuchElementException", M)) else (bd1 (X4_within M l2 4) (fun t2 => if t2 = 0 then (some (.inr "java/lang/IllegalArgumentException", M)) else (ld M 9 92 ((l1 * 4) + l2) (fun t3 => some (.inl t3, M))))))
set_option maxHeartbeats 4000000 in
set_option maxRecDepth 100000 in
theorem mX4_seam {l : Launch} {D : va_G} {cA : Nat → ClassId} {ad : Nat → Nat} {n : Nat} {A : Nat → Prop} {sa : Nat → Nat} {M : Mem} {l1 : Int32} {l2 : Int32} {res : Int32 ⊕ String} {Mf : Mem} (hl : l.stackTraces = false) (h : X4_seam M l1 l2 = some (res, Mf)) : CT l D cA ad n A sa yX4_seam cX4_seam 3 (some .int) 7 102 [.ref (ad 0), .int l1, .int l2] M (outI res) Mf := by
  refine CT.of (kt := kX4_seam) (by decide) kX4_seam_ok (Nat.le_of_ble_eq_true rfl) ?_
  intro p e s m args below meth c hX hr ht
  unfold X4_seam at h
  refine J.sub (L' := [(0, .ref (ad 0)), (1, .int l1), (2, .int l2)]) [0, 1, 2] rfl ?_
  refine J.iload_n hX 0 1 rfl rfl ?_
  refine J.aload_n hX 1 0 rfl rfl ?_
  refine J.getR hX 2 0 4 (hX.lt (k := 0) (by decide)) sh_0 rfl in_wsX40 1 (by decide) w_20 rfl rfl ?_
  refine J.getI hX 3 6 2 (hX.lt (k := 6) (by decide)) sh_6 rfl in_wsX20 3 (by decide) w_348 rfl rfl ?_
  obtain ⟨t1, hc, h⟩ := bd1_inv h
  refine J.callS1 (As := [.int l1, .int (M 6 3)]) (rest := []) hX 4 rfl (mX4_within  hc) okX4_within w_106 rfl rfl (Nat.le_of_ble_eq_true rfl) ⟨Nat.le_of_ble_eq_true rfl, Nat.le_of_ble_eq_true rfl⟩ ⟨Nat.zero_le _, Nat.zero_le _⟩ ?_
  by_cases b1 : t1 = 0
  · rw [if_pos b1] at h
    cases h
    exact J.passS (As := [.int t1]) (rest := []) hX ht 5 rfl (mX4_mustExist_t hl b1) okX4_mustExist w_109 rfl rfl (Nat.le_of_ble_eq_true rfl) ⟨Nat.le_of_ble_eq_true rfl, Nat.le_of_ble_eq_true rfl⟩ ⟨Nat.le_refl _, Nat.le_refl _⟩
  · rw [if_neg b1] at h
    refine J.callS0 (As := [.int t1]) (rest := []) hX 5 rfl (mX4_mustExist_r b1) okX4_mustExist w_109 rfl rfl (Nat.le_of_ble_eq_true rfl) ⟨Nat.le_of_ble_eq_true rfl, Nat.le_of_ble_eq_true rfl⟩ ⟨Nat.zero_le _, Nat.zero_le _⟩ ?_
    refine J.iload_n hX 6 2 rfl rfl ?_
    refine J.iconst (v := 4) hX 7 rfl (by decide) ?_
    obtain ⟨t2, hc, h⟩ := bd1_inv h
    refine J.callS1 (As := [.int l2, .int 4]) (rest := []) hX 8 rfl (mX4_within  hc) okX4_within w_106 rfl rfl (Nat.le_of_ble_eq_true rfl) ⟨Nat.le_of_ble_eq_true rfl, Nat.le_of_ble_eq_true rfl⟩ ⟨Nat.zero_le _, Nat.zero_le _⟩ ?_
    by_cases b2 : t2 = 0
    · rw [if_pos b2] at h
      cases h
      exact J.passS (As := [.int t2]) (rest := []) hX ht 9 rfl (mX4_mustFit_t hl b2) okX4_mustFit w_114 rfl rfl (Nat.le_of_ble_eq_true rfl) ⟨Nat.le_of_ble_eq_true rfl, Nat.le_of_ble_eq_true rfl⟩ ⟨Nat.le_refl _, Nat.le_refl _⟩
    · rw [if_neg b2] at h
      refine J.callS0 (As := [.int t2]) (rest := []) hX 9 rfl (mX4_mustFit_r b2) okX4_mustFit w_114 rfl rfl (Nat.le_of_ble_eq_true rfl) ⟨Nat.le_of_ble_eq_true rfl, Nat.le_of_ble_eq_true rfl⟩ ⟨Nat.zero_le _, Nat.zero_le _⟩ ?_
      refine J.aload_n hX 10 0 rfl rfl ?_
      refine J.getR hX 11 0 4 (hX.lt (k := 0) (by decide)) sh_0 rfl in_wsX40 1 (by decide) w_20 rfl rfl ?_
      refine J.getR hX 12 6 2 (hX.lt (k := 6) (by decide)) sh_6 rfl in_wsX20 2 (by decide) w_349 rfl rfl ?_
      refine J.iload_n hX 13 1 rfl rfl ?_
      refine J.iconst (v := 4) hX 14 rfl (by decide) ?_
      refine J.imul hX 15 rfl ?_
      refine J.iload_n hX 16 2 rfl rfl ?_
      refine J.iadd hX 17 rfl ?_
      obtain ⟨t3, et3, hb, h⟩ := ld_inv h
      refine J.ialdN hX 18 9 (hX.lt (k := 9) (by decide)) sh_9 hb et3 rfl ?_
      cases h
      exact J.iret hX hr 19 rfl
def X4_place_j50 (N4 : Mem) (l1 : Int32) (l2 : Int32) (l3 : Int32) (l4 : Int32) (v2 : Int32) : Option ((Int32 ⊕ String) × Mem) := if v2 = 0 then (some (.inr "java/util/NoSuchElementException", N4)) else (bd1 (X4_within N4 l4 8) (fun t2 => if t2 = 0 then (some (.inr "java/lang/IllegalArgumentException", N4)) else (bnd (((l1 * 6) + l2)) (fun t3 => ld N4 12 36 t3 (fun t4 => sto N4 12 36 t3 l3 (fun N5 => sto N5 13 36 t3 l4 (fun N6 => bd1 (X0_forget N6) (fun N7 => some (.inl t4, N7)))))))))
def X4_place_j45 (N3 : Mem) (l1 : Int32) (l2 : Int32) (l3 : Int32) (l4 : Int32) : Option ((Int32 ⊕ String) × Mem) := X4_place_j50 N3 l1 l2 l3 l4 1
def X4_place_j23 (N2 : Mem) (l1 : Int32) (l2 : Int32) (l3 : Int32) (l4 : Int32) (v1 : Int32) : Option ((Int32 ⊕ String) × Mem) := if v1 = 0 then (some (.inr "java/util/NoSuchElementException", N2)) else (if l3 = (-1) then (X4_place_j45 N2 l1 l2 l3 l4) else (bd1 (X4_within N2 l3 (N2 10 1)) (fun t5 => if t5 = 0 then (X4_place_j50 N2 l1 l2 l3 l4 0) else (X4_place_j45 N2 l1 l2 l3 l4))))
def X4_place_j22 (N1 : Mem) (l1 : Int32) (l2 : Int32) (l3 : Int32) (l4 : Int32) : Option ((Int32 ⊕ String) × Mem) := X4_place_j23 N1 l1 l2 l3 l4 0
def X4_place (M : Mem) (l1 : Int32) (l2 : Int32) (l3 : Int32) (l4 : Int32) : Option ((Int32 ⊕ String) × Mem) := bd1 (X4_within M l1 6) (fun t1 => if t1 = 0 then (X4_place_j22 M l1 l2 l3 l4) else (bd1 (X4_within M l2 6) (fun t6 => if t6 = 0 then (X4_place_j22 M l1 l2 l3 l4) else (X4_place_j23 M l1 l2 l3 l4 1))))
set_option maxHeartbeats 4000000 in
set_option maxRecDepth 100000 in
theorem X4_place_j50_ok (hX : Cx p s m args meth c D cA ad n A sa cX4_place 7 RX4 kX4_place) {N4 : Mem} {l1 : Int32} {l2 : Int32} {l3 : Int32} {l4 : Int32} {v2 : Int32} {res : Int32 ⊕ String} {Mf : Mem}  (hr : meth.sig.returnType = (some .int)) (ht : ∀ x ∈ c.exceptionTable.toList, False) (hl : l.stackTraces = false) (h : X4_place_j50 N4 l1 l2 l3 l4 v2 = some (res, Mf)) : JM 7 102 p l e s m args below meth c D cA ad n A 7 (outI res) Mf N4 50 [(0, .ref (ad 0)), (1, .int l1), (2, .int l2), (3, .int l3), (4, .int l4)] [.int v2] := by
  unfold X4_place_j50 at h
  by_cases b4 : v2 = 0
  · rw [if_pos b4] at h
    cases h
    exact J.passS (As := [.int v2]) (rest := []) hX ht 24 rfl (mX4_mustExist_t hl b4) okX4_mustExist w_109 rfl rfl (Nat.le_of_ble_eq_true rfl) ⟨Nat.le_of_ble_eq_true rfl, Nat.le_of_ble_eq_true rfl⟩ ⟨Nat.le_refl _, Nat.le_refl _⟩
  · rw [if_neg b4] at h
    refine J.callS0 (As := [.int v2]) (rest := []) hX 24 rfl (mX4_mustExist_r b4) okX4_mustExist w_109 rfl rfl (Nat.le_of_ble_eq_true rfl) ⟨Nat.le_of_ble_eq_true rfl, Nat.le_of_ble_eq_true rfl⟩ ⟨Nat.zero_le _, Nat.zero_le _⟩ ?_
    refine J.iload hX 25 4 rfl rfl ?_
    refine J.bipush (v := 8) hX 26 rfl (by decide) ?_
    obtain ⟨t2, hc, h⟩ := bd1_inv h
    refine J.callS1 (As := [.int l4, .int 8]) (rest := []) hX 27 rfl (mX4_within  hc) okX4_within w_106 rfl rfl (Nat.le_of_ble_eq_true rfl) ⟨Nat.le_of_ble_eq_true rfl, Nat.le_of_ble_eq_true rfl⟩ ⟨Nat.zero_le _, Nat.zero_le _⟩ ?_
    by_cases b5 : t2 = 0
    · rw [if_pos b5] at h
      cases h
      exact J.passS (As := [.int t2]) (rest := []) hX ht 28 rfl (mX4_mustFit_t hl b5) okX4_mustFit w_114 rfl rfl (Nat.le_of_ble_eq_true rfl) ⟨Nat.le_of_ble_eq_true rfl, Nat.le_of_ble_eq_true rfl⟩ ⟨Nat.le_refl _, Nat.le_refl _⟩
    · rw [if_neg b5] at h
      refine J.callS0 (As := [.int t2]) (rest := []) hX 28 rfl (mX4_mustFit_r b5) okX4_mustFit w_114 rfl rfl (Nat.le_of_ble_eq_true rfl) ⟨Nat.le_of_ble_eq_true rfl, Nat.le_of_ble_eq_true rfl⟩ ⟨Nat.zero_le _, Nat.zero_le _⟩ ?_
      refine J.iload_n hX 29 1 rfl rfl ?_
      refine J.bipush (v := 6) hX 30 rfl (by decide) ?_
      refine J.imul hX 31 rfl ?_
      refine J.iload_n hX 32 2 rfl rfl ?_
      refine J.iadd hX 33 rfl ?_
      obtain ⟨t3, et3, h⟩ := bnd_inv h
      refine J.nm et3 ?_
      refine J.istore (L' := [(5, .int t3), (0, .ref (ad 0)), (1, .int l1), (2, .int l2), (3, .int l3), (4, .int l4)]) hX 34 rfl (by decide) rfl ?_
      refine J.aload_n hX 35 1 rfl rfl ?_
      refine J.getR hX 36 0 4 (hX.lt (k := 0) (by decide)) sh_0 rfl in_wsX40 2 (by decide) w_24 rfl rfl ?_
      refine J.getR hX 37 10 3 (hX.lt (k := 10) (by decide)) sh_10 rfl in_wsX30 2 (by decide) w_389 rfl rfl ?_
      refine J.iload hX 38 0 rfl rfl ?_
      obtain ⟨t4, et4, hb, h⟩ := ld_inv h
      refine J.ialdN hX 39 12 (hX.lt (k := 12) (by decide)) sh_12 hb et4 rfl ?_
      refine J.istore (L' := [(6, .int t4), (5, .int t3), (0, .ref (ad 0)), (1, .int l1), (2, .int l2), (3, .int l3), (4, .int l4)]) hX 40 rfl (by decide) rfl ?_
      refine J.aload_n hX 41 2 rfl rfl ?_
      refine J.getR hX 42 0 4 (hX.lt (k := 0) (by decide)) sh_0 rfl in_wsX40 2 (by decide) w_24 rfl rfl ?_
      refine J.getR hX 43 10 3 (hX.lt (k := 10) (by decide)) sh_10 rfl in_wsX30 2 (by decide) w_389 rfl rfl ?_
      refine J.iload hX 44 1 rfl rfl ?_
      refine J.iload_n hX 45 5 rfl rfl ?_
      obtain ⟨N5, eN5, hb, h⟩ := sto_inv h
      refine J.iastN hX 46 12 (hX.lt (k := 12) (by decide)) sh_12 hb eN5 rfl ?_
      refine J.aload_n hX 47 2 rfl rfl ?_
      refine J.getR hX 48 0 4 (hX.lt (k := 0) (by decide)) sh_0 rfl in_wsX40 2 (by decide) w_24 rfl rfl ?_
      refine J.getR hX 49 10 3 (hX.lt (k := 10) (by decide)) sh_10 rfl in_wsX30 3 (by decide) w_390 rfl rfl ?_
      refine J.iload hX 50 1 rfl rfl ?_
      refine J.iload hX 51 6 rfl rfl ?_
      obtain ⟨N6, eN6, hb, h⟩ := sto_inv h
      refine J.iastN hX 52 13 (hX.lt (k := 13) (by decide)) sh_13 hb eN6 rfl ?_
      refine J.aload_n hX 53 2 rfl rfl ?_
      refine J.getR hX 54 0 4 (hX.lt (k := 0) (by decide)) sh_0 rfl in_wsX40 3 (by decide) w_28 rfl rfl ?_
      obtain ⟨N7, hc, h⟩ := bd1_inv h
      refine J.callV0 (As := []) (rest := []) (k := 17) hX 55 rfl (mX0_forget  hc) okX0_forget w_391 (hX.lt (k := 17) (by decide)) sh_17 rfl rfl rfl (Nat.le_of_ble_eq_true rfl) ⟨Nat.le_of_ble_eq_true rfl, Nat.le_of_ble_eq_true rfl⟩ ⟨Nat.zero_le _, Nat.zero_le _⟩ ?_
      refine J.iload hX 56 0 rfl rfl ?_
      cases h
      exact J.iret hX hr 57 rfl
set_option maxHeartbeats 4000000 in
set_option maxRecDepth 100000 in
theorem X4_place_j45_ok (hX : Cx p s m args meth c D cA ad n A sa cX4_place 7 RX4 kX4_place) {N3 : Mem} {l1 : Int32} {l2 : Int32} {l3 : Int32} {l4 : Int32} {res : Int32 ⊕ String} {Mf : Mem}  (hr : meth.sig.returnType = (some .int)) (ht : ∀ x ∈ c.exceptionTable.toList, False) (hl : l.stackTraces = false) (h : X4_place_j45 N3 l1 l2 l3 l4 = some (res, Mf)) : JM 7 102 p l e s m args below meth c D cA ad n A 7 (outI res) Mf N3 45 [(0, .ref (ad 0)), (1, .int l1), (2, .int l2), (3, .int l3), (4, .int l4)] [] := by
  unfold X4_place_j45 at h
  refine J.iconst (v := 1) hX 21 rfl (by decide) ?_
  refine J.goto (tgt := 50) hX 22 rfl (by decide) ?_
  refine J.sub (L' := [(0, .ref (ad 0)), (1, .int l1), (2, .int l2), (3, .int l3), (4, .int l4)]) [0, 1, 2, 3, 4] rfl ?_
  exact X4_place_j50_ok hX  hr ht hl h
set_option maxHeartbeats 4000000 in
set_option maxRecDepth 100000 in
theorem X4_place_j23_ok (hX : Cx p s m args meth c D cA ad n A sa cX4_place 7 RX4 kX4_place) {N2 : Mem} {l1 : Int32} {l2 : Int32} {l3 : Int32} {l4 : Int32} {v1 : Int32} {res : Int32 ⊕ String} {Mf : Mem}  (hr : meth.sig.returnType = (some .int)) (ht : ∀ x ∈ c.exceptionTable.toList, False) (hl : l.stackTraces = false) (h : X4_place_j23 N2 l1 l2 l3 l4 v1 = some (res, Mf)) : JM 7 102 p l e s m args below meth c D cA ad n A 7 (outI res) Mf N2 23 [(0, .ref (ad 0)), (1, .int l1), (2, .int l2), (3, .int l3), (4, .int l4)] [.int v1] := by
  unfold X4_place_j23 at h
  by_cases b2 : v1 = 0
  · rw [if_pos b2] at h
    cases h
    exact J.passS (As := [.int v1]) (rest := []) hX ht 11 rfl (mX4_mustExist_t hl b2) okX4_mustExist w_109 rfl rfl (Nat.le_of_ble_eq_true rfl) ⟨Nat.le_of_ble_eq_true rfl, Nat.le_of_ble_eq_true rfl⟩ ⟨Nat.le_refl _, Nat.le_refl _⟩
  · rw [if_neg b2] at h
    refine J.callS0 (As := [.int v1]) (rest := []) hX 11 rfl (mX4_mustExist_r b2) okX4_mustExist w_109 rfl rfl (Nat.le_of_ble_eq_true rfl) ⟨Nat.le_of_ble_eq_true rfl, Nat.le_of_ble_eq_true rfl⟩ ⟨Nat.zero_le _, Nat.zero_le _⟩ ?_
    refine J.iload_n hX 12 3 rfl rfl ?_
    refine J.iconst (v := (-1)) hX 13 rfl (by decide) ?_
    refine J.icmp_eq (tgt := 45) hX 14 rfl (by decide) (fun b3 => ?_) (fun b3 => ?_)
    · rw [if_pos b3] at h
      refine J.sub (L' := [(0, .ref (ad 0)), (1, .int l1), (2, .int l2), (3, .int l3), (4, .int l4)]) [0, 1, 2, 3, 4] rfl ?_
      exact X4_place_j45_ok hX  hr ht hl h
    · rw [if_neg b3] at h
      refine J.iload_n hX 15 3 rfl rfl ?_
      refine J.aload_n hX 16 0 rfl rfl ?_
      refine J.getR hX 17 0 4 (hX.lt (k := 0) (by decide)) sh_0 rfl in_wsX40 2 (by decide) w_24 rfl rfl ?_
      refine J.getI hX 18 10 3 (hX.lt (k := 10) (by decide)) sh_10 rfl in_wsX30 1 (by decide) w_364 rfl rfl ?_
      obtain ⟨t5, hc, h⟩ := bd1_inv h
      refine J.callS1 (As := [.int l3, .int (N2 10 1)]) (rest := []) hX 19 rfl (mX4_within  hc) okX4_within w_106 rfl rfl (Nat.le_of_ble_eq_true rfl) ⟨Nat.le_of_ble_eq_true rfl, Nat.le_of_ble_eq_true rfl⟩ ⟨Nat.zero_le _, Nat.zero_le _⟩ ?_
      refine J.if_eq (tgt := 49) hX 20 rfl (by decide) (fun b6 => ?_) (fun b6 => ?_)
      · rw [if_pos b6] at h
        refine J.iconst (v := 0) hX 23 rfl (by decide) ?_
        refine J.sub (L' := [(0, .ref (ad 0)), (1, .int l1), (2, .int l2), (3, .int l3), (4, .int l4)]) [0, 1, 2, 3, 4] rfl ?_
        exact X4_place_j50_ok hX  hr ht hl h
      · rw [if_neg b6] at h
        refine J.sub (L' := [(0, .ref (ad 0)), (1, .int l1), (2, .int l2), (3, .int l3), (4, .int l4)]) [0, 1, 2, 3, 4] rfl ?_
        exact X4_place_j45_ok hX  hr ht hl h
set_option maxHeartbeats 4000000 in
set_option maxRecDepth 100000 in
theorem X4_place_j22_ok (hX : Cx p s m args meth c D cA ad n A sa cX4_place 7 RX4 kX4_place) {N1 : Mem} {l1 : Int32} {l2 : Int32} {l3 : Int32} {l4 : Int32} {res : Int32 ⊕ String} {Mf : Mem}  (hr : meth.sig.returnType = (some .int)) (ht : ∀ x ∈ c.exceptionTable.toList, False) (hl : l.stackTraces = false) (h : X4_place_j22 N1 l1 l2 l3 l4 = some (res, Mf)) : JM 7 102 p l e s m args below meth c D cA ad n A 7 (outI res) Mf N1 22 [(0, .ref (ad 0)), (1, .int l1), (2, .int l2), (3, .int l3), (4, .int l4)] [] := by
  unfold X4_place_j22 at h
  refine J.iconst (v := 0) hX 10 rfl (by decide) ?_
  refine J.sub (L' := [(0, .ref (ad 0)), (1, .int l1), (2, .int l2), (3, .int l3), (4, .int l4)]) [0, 1, 2, 3, 4] rfl ?_
  exact X4_place_j23_ok hX  hr ht hl h
set_option maxHeartbeats 4000000 in
set_option maxRecDepth 100000 in
theorem mX4_place {l : Launch} {D : va_G} {cA : Nat → ClassId} {ad : Nat → Nat} {n : Nat} {A : Nat → Prop} {sa : Nat → Nat} {M : Mem} {l1 : Int32} {l2 : Int32} {l3 : Int32} {l4 : Int32} {res : Int32 ⊕ String} {Mf : Mem} (hl : l.stackTraces = false) (h : X4_place M l1 l2 l3 l4 = some (res, Mf)) : CT l D cA ad n A sa yX4_place cX4_place 7 (some .int) 7 102 [.ref (ad 0), .int l1, .int l2, .int l3, .int l4] M (outI res) Mf := by
  refine CT.of (kt := kX4_place) (by decide) kX4_place_ok (Nat.le_of_ble_eq_true rfl) ?_
  intro p e s m args below meth c hX hr ht
  unfold X4_place at h
  refine J.sub (L' := [(0, .ref (ad 0)), (1, .int l1), (2, .int l2), (3, .int l3), (4, .int l4)]) [0, 1, 2, 3, 4] rfl ?_
  refine J.iload_n hX 0 1 rfl rfl ?_
  refine J.bipush (v := 6) hX 1 rfl (by decide) ?_
  obtain ⟨t1, hc, h⟩ := bd1_inv h
  refine J.callS1 (As := [.int l1, .int 6]) (rest := []) hX 2 rfl (mX4_within  hc) okX4_within w_106 rfl rfl (Nat.le_of_ble_eq_true rfl) ⟨Nat.le_of_ble_eq_true rfl, Nat.le_of_ble_eq_true rfl⟩ ⟨Nat.zero_le _, Nat.zero_le _⟩ ?_
  refine J.if_eq (tgt := 22) hX 3 rfl (by decide) (fun b1 => ?_) (fun b1 => ?_)
  · rw [if_pos b1] at h
    refine J.sub (L' := [(0, .ref (ad 0)), (1, .int l1), (2, .int l2), (3, .int l3), (4, .int l4)]) [0, 1, 2, 3, 4] rfl ?_
    exact X4_place_j22_ok hX  hr ht hl h
  · rw [if_neg b1] at h
    refine J.iload_n hX 4 2 rfl rfl ?_
    refine J.bipush (v := 6) hX 5 rfl (by decide) ?_
    obtain ⟨t6, hc, h⟩ := bd1_inv h
    refine J.callS1 (As := [.int l2, .int 6]) (rest := []) hX 6 rfl (mX4_within  hc) okX4_within w_106 rfl rfl (Nat.le_of_ble_eq_true rfl) ⟨Nat.le_of_ble_eq_true rfl, Nat.le_of_ble_eq_true rfl⟩ ⟨Nat.zero_le _, Nat.zero_le _⟩ ?_
    refine J.if_eq (tgt := 22) hX 7 rfl (by decide) (fun b7 => ?_) (fun b7 => ?_)
    · rw [if_pos b7] at h
      refine J.sub (L' := [(0, .ref (ad 0)), (1, .int l1), (2, .int l2), (3, .int l3), (4, .int l4)]) [0, 1, 2, 3, 4] rfl ?_
      exact X4_place_j22_ok hX  hr ht hl h
    · rw [if_neg b7] at h
      refine J.iconst (v := 1) hX 8 rfl (by decide) ?_
      refine J.goto (tgt := 23) hX 9 rfl (by decide) ?_
      refine J.sub (L' := [(0, .ref (ad 0)), (1, .int l1), (2, .int l2), (3, .int l3), (4, .int l4)]) [0, 1, 2, 3, 4] rfl ?_
      exact X4_place_j23_ok hX  hr ht hl h
def X4_frame_j22 (N2 : Mem) (l1 : Int32) (l2 : Int32) (l3 : Int32) (v1 : Int32) : Option ((Int32 ⊕ String) × Mem) := if v1 = 0 then (some (.inr "java/util/NoSuchElementException", N2)) else (bd1 (X4_within N2 l2 61) (fun t2 => if t2 = 0 then (some (.inr "java/lang/IllegalArgumentException", N2)) else (ld N2 14 2 l1 (fun t3 => sto N2 14 2 l1 l2 (fun N3 => sto N3 15 2 l1 l3 (fun N4 => bd1 (X0_forget N4) (fun N5 => some (.inl t3, N5))))))))
def X4_frame_j21 (N1 : Mem) (l1 : Int32) (l2 : Int32) (l3 : Int32) : Option ((Int32 ⊕ String) × Mem) := X4_frame_j22 N1 l1 l2 l3 0
def X4_frame (M : Mem) (l1 : Int32) (l2 : Int32) (l3 : Int32) : Option ((Int32 ⊕ String) × Mem) := bd1 (X4_within M l1 2) (fun t1 => if t1 = 0 then (X4_frame_j21 M l1 l2 l3) else (bd1 (X4_within M l3 12) (fun t4 => if t4 = 0 then (X4_frame_j21 M l1 l2 l3) else (X4_frame_j22 M l1 l2 l3 1))))
set_option maxHeartbeats 4000000 in
set_option maxRecDepth 100000 in
theorem X4_frame_j22_ok (hX : Cx p s m args meth c D cA ad n A sa cX4_frame 5 RX4 kX4_frame) {N2 : Mem} {l1 : Int32} {l2 : Int32} {l3 : Int32} {v1 : Int32} {res : Int32 ⊕ String} {Mf : Mem}  (hr : meth.sig.returnType = (some .int)) (ht : ∀ x ∈ c.exceptionTable.toList, False) (hl : l.stackTraces = false) (h : X4_frame_j22 N2 l1 l2 l3 v1 = some (res, Mf)) : JM 7 102 p l e s m args below meth c D cA ad n A 5 (outI res) Mf N2 22 [(0, .ref (ad 0)), (1, .int l1), (2, .int l2), (3, .int l3)] [.int v1] := by
  unfold X4_frame_j22 at h
  by_cases b2 : v1 = 0
  · rw [if_pos b2] at h
    cases h
    exact J.passS (As := [.int v1]) (rest := []) hX ht 11 rfl (mX4_mustExist_t hl b2) okX4_mustExist w_109 rfl rfl (Nat.le_of_ble_eq_true rfl) ⟨Nat.le_of_ble_eq_true rfl, Nat.le_of_ble_eq_true rfl⟩ ⟨Nat.le_refl _, Nat.le_refl _⟩
  · rw [if_neg b2] at h
    refine J.callS0 (As := [.int v1]) (rest := []) hX 11 rfl (mX4_mustExist_r b2) okX4_mustExist w_109 rfl rfl (Nat.le_of_ble_eq_true rfl) ⟨Nat.le_of_ble_eq_true rfl, Nat.le_of_ble_eq_true rfl⟩ ⟨Nat.zero_le _, Nat.zero_le _⟩ ?_
    refine J.iload_n hX 12 2 rfl rfl ?_
    refine J.bipush (v := 61) hX 13 rfl (by decide) ?_
    obtain ⟨t2, hc, h⟩ := bd1_inv h
    refine J.callS1 (As := [.int l2, .int 61]) (rest := []) hX 14 rfl (mX4_within  hc) okX4_within w_106 rfl rfl (Nat.le_of_ble_eq_true rfl) ⟨Nat.le_of_ble_eq_true rfl, Nat.le_of_ble_eq_true rfl⟩ ⟨Nat.zero_le _, Nat.zero_le _⟩ ?_
    by_cases b3 : t2 = 0
    · rw [if_pos b3] at h
      cases h
      exact J.passS (As := [.int t2]) (rest := []) hX ht 15 rfl (mX4_mustFit_t hl b3) okX4_mustFit w_114 rfl rfl (Nat.le_of_ble_eq_true rfl) ⟨Nat.le_of_ble_eq_true rfl, Nat.le_of_ble_eq_true rfl⟩ ⟨Nat.le_refl _, Nat.le_refl _⟩
    · rw [if_neg b3] at h
      refine J.callS0 (As := [.int t2]) (rest := []) hX 15 rfl (mX4_mustFit_r b3) okX4_mustFit w_114 rfl rfl (Nat.le_of_ble_eq_true rfl) ⟨Nat.le_of_ble_eq_true rfl, Nat.le_of_ble_eq_true rfl⟩ ⟨Nat.zero_le _, Nat.zero_le _⟩ ?_
      refine J.aload_n hX 16 0 rfl rfl ?_
      refine J.getR hX 17 0 4 (hX.lt (k := 0) (by decide)) sh_0 rfl in_wsX40 2 (by decide) w_24 rfl rfl ?_
      refine J.getR hX 18 10 3 (hX.lt (k := 10) (by decide)) sh_10 rfl in_wsX30 4 (by decide) w_406 rfl rfl ?_
      refine J.iload_n hX 19 1 rfl rfl ?_
      obtain ⟨t3, et3, hb, h⟩ := ld_inv h
      refine J.ialdN hX 20 14 (hX.lt (k := 14) (by decide)) sh_14 hb et3 rfl ?_
      refine J.istore (L' := [(4, .int t3), (0, .ref (ad 0)), (1, .int l1), (2, .int l2), (3, .int l3)]) hX 21 rfl (by decide) rfl ?_
      refine J.aload_n hX 22 1 rfl rfl ?_
      refine J.getR hX 23 0 4 (hX.lt (k := 0) (by decide)) sh_0 rfl in_wsX40 2 (by decide) w_24 rfl rfl ?_
      refine J.getR hX 24 10 3 (hX.lt (k := 10) (by decide)) sh_10 rfl in_wsX30 4 (by decide) w_406 rfl rfl ?_
      refine J.iload_n hX 25 2 rfl rfl ?_
      refine J.iload_n hX 26 3 rfl rfl ?_
      obtain ⟨N3, eN3, hb, h⟩ := sto_inv h
      refine J.iastN hX 27 14 (hX.lt (k := 14) (by decide)) sh_14 hb eN3 rfl ?_
      refine J.aload_n hX 28 1 rfl rfl ?_
      refine J.getR hX 29 0 4 (hX.lt (k := 0) (by decide)) sh_0 rfl in_wsX40 2 (by decide) w_24 rfl rfl ?_
      refine J.getR hX 30 10 3 (hX.lt (k := 10) (by decide)) sh_10 rfl in_wsX30 5 (by decide) w_407 rfl rfl ?_
      refine J.iload_n hX 31 2 rfl rfl ?_
      refine J.iload_n hX 32 4 rfl rfl ?_
      obtain ⟨N4, eN4, hb, h⟩ := sto_inv h
      refine J.iastN hX 33 15 (hX.lt (k := 15) (by decide)) sh_15 hb eN4 rfl ?_
      refine J.aload_n hX 34 1 rfl rfl ?_
      refine J.getR hX 35 0 4 (hX.lt (k := 0) (by decide)) sh_0 rfl in_wsX40 3 (by decide) w_28 rfl rfl ?_
      obtain ⟨N5, hc, h⟩ := bd1_inv h
      refine J.callV0 (As := []) (rest := []) (k := 17) hX 36 rfl (mX0_forget  hc) okX0_forget w_391 (hX.lt (k := 17) (by decide)) sh_17 rfl rfl rfl (Nat.le_of_ble_eq_true rfl) ⟨Nat.le_of_ble_eq_true rfl, Nat.le_of_ble_eq_true rfl⟩ ⟨Nat.zero_le _, Nat.zero_le _⟩ ?_
      refine J.iload hX 37 0 rfl rfl ?_
      cases h
      exact J.iret hX hr 38 rfl
set_option maxHeartbeats 4000000 in
set_option maxRecDepth 100000 in
theorem X4_frame_j21_ok (hX : Cx p s m args meth c D cA ad n A sa cX4_frame 5 RX4 kX4_frame) {N1 : Mem} {l1 : Int32} {l2 : Int32} {l3 : Int32} {res : Int32 ⊕ String} {Mf : Mem}  (hr : meth.sig.returnType = (some .int)) (ht : ∀ x ∈ c.exceptionTable.toList, False) (hl : l.stackTraces = false) (h : X4_frame_j21 N1 l1 l2 l3 = some (res, Mf)) : JM 7 102 p l e s m args below meth c D cA ad n A 5 (outI res) Mf N1 21 [(0, .ref (ad 0)), (1, .int l1), (2, .int l2), (3, .int l3)] [] := by
  unfold X4_frame_j21 at h
  refine J.iconst (v := 0) hX 10 rfl (by decide) ?_
  refine J.sub (L' := [(0, .ref (ad 0)), (1, .int l1), (2, .int l2), (3, .int l3)]) [0, 1, 2, 3] rfl ?_
  exact X4_frame_j22_ok hX  hr ht hl h
set_option maxHeartbeats 4000000 in
set_option maxRecDepth 100000 in
theorem mX4_frame {l : Launch} {D : va_G} {cA : Nat → ClassId} {ad : Nat → Nat} {n : Nat} {A : Nat → Prop} {sa : Nat → Nat} {M : Mem} {l1 : Int32} {l2 : Int32} {l3 : Int32} {res : Int32 ⊕ String} {Mf : Mem} (hl : l.stackTraces = false) (h : X4_frame M l1 l2 l3 = some (res, Mf)) : CT l D cA ad n A sa yX4_frame cX4_frame 5 (some .int) 7 102 [.ref (ad 0), .int l1, .int l2, .int l3] M (outI res) Mf := by
  refine CT.of (kt := kX4_frame) (by decide) kX4_frame_ok (Nat.le_of_ble_eq_true rfl) ?_
  intro p e s m args below meth c hX hr ht
  unfold X4_frame at h
  refine J.sub (L' := [(0, .ref (ad 0)), (1, .int l1), (2, .int l2), (3, .int l3)]) [0, 1, 2, 3] rfl ?_
  refine J.iload_n hX 0 1 rfl rfl ?_
  refine J.iconst (v := 2) hX 1 rfl (by decide) ?_
  obtain ⟨t1, hc, h⟩ := bd1_inv h
  refine J.callS1 (As := [.int l1, .int 2]) (rest := []) hX 2 rfl (mX4_within  hc) okX4_within w_106 rfl rfl (Nat.le_of_ble_eq_true rfl) ⟨Nat.le_of_ble_eq_true rfl, Nat.le_of_ble_eq_true rfl⟩ ⟨Nat.zero_le _, Nat.zero_le _⟩ ?_
  refine J.if_eq (tgt := 21) hX 3 rfl (by decide) (fun b1 => ?_) (fun b1 => ?_)
  · rw [if_pos b1] at h
    refine J.sub (L' := [(0, .ref (ad 0)), (1, .int l1), (2, .int l2), (3, .int l3)]) [0, 1, 2, 3] rfl ?_
    exact X4_frame_j21_ok hX  hr ht hl h
  · rw [if_neg b1] at h
    refine J.iload_n hX 4 3 rfl rfl ?_
    refine J.bipush (v := 12) hX 5 rfl (by decide) ?_
    obtain ⟨t4, hc, h⟩ := bd1_inv h
    refine J.callS1 (As := [.int l3, .int 12]) (rest := []) hX 6 rfl (mX4_within  hc) okX4_within w_106 rfl rfl (Nat.le_of_ble_eq_true rfl) ⟨Nat.le_of_ble_eq_true rfl, Nat.le_of_ble_eq_true rfl⟩ ⟨Nat.zero_le _, Nat.zero_le _⟩ ?_
    refine J.if_eq (tgt := 21) hX 7 rfl (by decide) (fun b4 => ?_) (fun b4 => ?_)
    · rw [if_pos b4] at h
      refine J.sub (L' := [(0, .ref (ad 0)), (1, .int l1), (2, .int l2), (3, .int l3)]) [0, 1, 2, 3] rfl ?_
      exact X4_frame_j21_ok hX  hr ht hl h
    · rw [if_neg b4] at h
      refine J.iconst (v := 1) hX 8 rfl (by decide) ?_
      refine J.goto (tgt := 22) hX 9 rfl (by decide) ?_
      refine J.sub (L' := [(0, .ref (ad 0)), (1, .int l1), (2, .int l2), (3, .int l3)]) [0, 1, 2, 3] rfl ?_
      exact X4_frame_j22_ok hX  hr ht hl h
def X4_mismatch_j22 (n : Nat) (N2 : Mem) (l1 : Int32) (l2 : Int32) (v1 : Int32) : Option ((Int32 ⊕ String) × Mem) := if v1 = 0 then (some (.inr "java/util/NoSuchElementException", N2)) else (bd2 (X3_unmatchedCorners n N2 ((l1 * 6) + l2)) (fun t2 N3 => some (.inl t2, N3)))
def X4_mismatch_j21 (n : Nat) (N1 : Mem) (l1 : Int32) (l2 : Int32) : Option ((Int32 ⊕ String) × Mem) := X4_mismatch_j22 n N1 l1 l2 0
def X4_mismatch (n : Nat) (M : Mem) (l1 : Int32) (l2 : Int32) : Option ((Int32 ⊕ String) × Mem) := bd1 (X4_within M l1 6) (fun t1 => if t1 = 0 then (X4_mismatch_j21 n M l1 l2) else (bd1 (X4_within M l2 5) (fun t3 => if t3 = 0 then (X4_mismatch_j21 n M l1 l2) else (X4_mismatch_j22 n M l1 l2 1))))
set_option maxHeartbeats 4000000 in
set_option maxRecDepth 100000 in
theorem X4_mismatch_j22_ok (hX : Cx p s m args meth c D cA ad n A sa cX4_mismatch 3 RX4 kX4_mismatch) {N2 : Mem} {l1 : Int32} {l2 : Int32} {v1 : Int32} {res : Int32 ⊕ String} {Mf : Mem}  (hr : meth.sig.returnType = (some .int)) (ht : ∀ x ∈ c.exceptionTable.toList, False) (hl : l.stackTraces = false) (h : X4_mismatch_j22 n N2 l1 l2 v1 = some (res, Mf)) : JM 7 102 p l e s m args below meth c D cA ad n A 3 (outI res) Mf N2 22 [(0, .ref (ad 0)), (1, .int l1), (2, .int l2)] [.int v1] := by
  unfold X4_mismatch_j22 at h
  by_cases b2 : v1 = 0
  · rw [if_pos b2] at h
    cases h
    exact J.passS (As := [.int v1]) (rest := []) hX ht 11 rfl (mX4_mustExist_t hl b2) okX4_mustExist w_109 rfl rfl (Nat.le_of_ble_eq_true rfl) ⟨Nat.le_of_ble_eq_true rfl, Nat.le_of_ble_eq_true rfl⟩ ⟨Nat.le_refl _, Nat.le_refl _⟩
  · rw [if_neg b2] at h
    refine J.callS0 (As := [.int v1]) (rest := []) hX 11 rfl (mX4_mustExist_r b2) okX4_mustExist w_109 rfl rfl (Nat.le_of_ble_eq_true rfl) ⟨Nat.le_of_ble_eq_true rfl, Nat.le_of_ble_eq_true rfl⟩ ⟨Nat.zero_le _, Nat.zero_le _⟩ ?_
    refine J.aload_n hX 12 0 rfl rfl ?_
    refine J.getR hX 13 0 4 (hX.lt (k := 0) (by decide)) sh_0 rfl in_wsX40 2 (by decide) w_24 rfl rfl ?_
    refine J.iload_n hX 14 1 rfl rfl ?_
    refine J.bipush (v := 6) hX 15 rfl (by decide) ?_
    refine J.imul hX 16 rfl ?_
    refine J.iload_n hX 17 2 rfl rfl ?_
    refine J.iadd hX 18 rfl ?_
    obtain ⟨t2, N3, hc, h⟩ := bd2_inv h
    refine J.callV1 (As := [.int ((l1 * 6) + l2)]) (rest := []) (k := 10) hX 19 rfl (mX3_unmatchedCorners  hc) okX3_unmatchedCorners w_419 (hX.lt (k := 10) (by decide)) sh_10 rfl rfl rfl (Nat.le_of_ble_eq_true rfl) ⟨Nat.le_of_ble_eq_true rfl, Nat.le_of_ble_eq_true rfl⟩ ⟨Nat.zero_le _, Nat.zero_le _⟩ ?_
    cases h
    exact J.iret hX hr 20 rfl
set_option maxHeartbeats 4000000 in
set_option maxRecDepth 100000 in
theorem X4_mismatch_j21_ok (hX : Cx p s m args meth c D cA ad n A sa cX4_mismatch 3 RX4 kX4_mismatch) {N1 : Mem} {l1 : Int32} {l2 : Int32} {res : Int32 ⊕ String} {Mf : Mem}  (hr : meth.sig.returnType = (some .int)) (ht : ∀ x ∈ c.exceptionTable.toList, False) (hl : l.stackTraces = false) (h : X4_mismatch_j21 n N1 l1 l2 = some (res, Mf)) : JM 7 102 p l e s m args below meth c D cA ad n A 3 (outI res) Mf N1 21 [(0, .ref (ad 0)), (1, .int l1), (2, .int l2)] [] := by
  unfold X4_mismatch_j21 at h
  refine J.iconst (v := 0) hX 10 rfl (by decide) ?_
  refine J.sub (L' := [(0, .ref (ad 0)), (1, .int l1), (2, .int l2)]) [0, 1, 2] rfl ?_
  exact X4_mismatch_j22_ok hX  hr ht hl h
set_option maxHeartbeats 4000000 in
set_option maxRecDepth 100000 in
theorem mX4_mismatch {l : Launch} {D : va_G} {cA : Nat → ClassId} {ad : Nat → Nat} {n : Nat} {A : Nat → Prop} {sa : Nat → Nat} {M : Mem} {l1 : Int32} {l2 : Int32} {res : Int32 ⊕ String} {Mf : Mem} (hl : l.stackTraces = false) (h : X4_mismatch n M l1 l2 = some (res, Mf)) : CT l D cA ad n A sa yX4_mismatch cX4_mismatch 3 (some .int) 7 102 [.ref (ad 0), .int l1, .int l2] M (outI res) Mf := by
  refine CT.of (kt := kX4_mismatch) (by decide) kX4_mismatch_ok (Nat.le_of_ble_eq_true rfl) ?_
  intro p e s m args below meth c hX hr ht
  unfold X4_mismatch at h
  refine J.sub (L' := [(0, .ref (ad 0)), (1, .int l1), (2, .int l2)]) [0, 1, 2] rfl ?_
  refine J.iload_n hX 0 1 rfl rfl ?_
  refine J.bipush (v := 6) hX 1 rfl (by decide) ?_
  obtain ⟨t1, hc, h⟩ := bd1_inv h
  refine J.callS1 (As := [.int l1, .int 6]) (rest := []) hX 2 rfl (mX4_within  hc) okX4_within w_106 rfl rfl (Nat.le_of_ble_eq_true rfl) ⟨Nat.le_of_ble_eq_true rfl, Nat.le_of_ble_eq_true rfl⟩ ⟨Nat.zero_le _, Nat.zero_le _⟩ ?_
  refine J.if_eq (tgt := 21) hX 3 rfl (by decide) (fun b1 => ?_) (fun b1 => ?_)
  · rw [if_pos b1] at h
    refine J.sub (L' := [(0, .ref (ad 0)), (1, .int l1), (2, .int l2)]) [0, 1, 2] rfl ?_
    exact X4_mismatch_j21_ok hX  hr ht hl h
  · rw [if_neg b1] at h
    refine J.iload_n hX 4 2 rfl rfl ?_
    refine J.iconst (v := 5) hX 5 rfl (by decide) ?_
    obtain ⟨t3, hc, h⟩ := bd1_inv h
    refine J.callS1 (As := [.int l2, .int 5]) (rest := []) hX 6 rfl (mX4_within  hc) okX4_within w_106 rfl rfl (Nat.le_of_ble_eq_true rfl) ⟨Nat.le_of_ble_eq_true rfl, Nat.le_of_ble_eq_true rfl⟩ ⟨Nat.zero_le _, Nat.zero_le _⟩ ?_
    refine J.if_eq (tgt := 21) hX 7 rfl (by decide) (fun b3 => ?_) (fun b3 => ?_)
    · rw [if_pos b3] at h
      refine J.sub (L' := [(0, .ref (ad 0)), (1, .int l1), (2, .int l2)]) [0, 1, 2] rfl ?_
      exact X4_mismatch_j21_ok hX  hr ht hl h
    · rw [if_neg b3] at h
      refine J.iconst (v := 1) hX 8 rfl (by decide) ?_
      refine J.goto (tgt := 22) hX 9 rfl (by decide) ?_
      refine J.sub (L' := [(0, .ref (ad 0)), (1, .int l1), (2, .int l2)]) [0, 1, 2] rfl ?_
      exact X4_mismatch_j22_ok hX  hr ht hl h
def X4_swap_j23 (n : Nat) (N2 : Mem) (l1 : Int32) (l2 : Int32) (v1 : Int32) : Option ((Int32 ⊕ String) × Mem) := if v1 = 0 then (some (.inr "java/util/NoSuchElementException", N2)) else (bd1 (X0_forget N2) (fun N3 => bd2 (X1_swapCloths N3 1 l1 l2) (fun t2 N4 => bd2 (X3_swapCloths n N4 l1 l2) (fun t3 N5 => some (.inl (t2 + t3), N5)))))
def X4_swap_j22 (n : Nat) (N1 : Mem) (l1 : Int32) (l2 : Int32) : Option ((Int32 ⊕ String) × Mem) := X4_swap_j23 n N1 l1 l2 0
def X4_swap (n : Nat) (M : Mem) (l1 : Int32) (l2 : Int32) : Option ((Int32 ⊕ String) × Mem) := bd1 (X4_within M l1 12) (fun t1 => if t1 = 0 then (X4_swap_j22 n M l1 l2) else (bd1 (X4_within M l2 12) (fun t4 => if t4 = 0 then (X4_swap_j22 n M l1 l2) else (X4_swap_j23 n M l1 l2 1))))
set_option maxHeartbeats 4000000 in
set_option maxRecDepth 100000 in
theorem X4_swap_j23_ok (hX : Cx p s m args meth c D cA ad n A sa cX4_swap 3 RX4 kX4_swap) {N2 : Mem} {l1 : Int32} {l2 : Int32} {v1 : Int32} {res : Int32 ⊕ String} {Mf : Mem}  (hr : meth.sig.returnType = (some .int)) (ht : ∀ x ∈ c.exceptionTable.toList, False) (hl : l.stackTraces = false) (h : X4_swap_j23 n N2 l1 l2 v1 = some (res, Mf)) : JM 7 102 p l e s m args below meth c D cA ad n A 3 (outI res) Mf N2 23 [(0, .ref (ad 0)), (1, .int l1), (2, .int l2)] [.int v1] := by
  unfold X4_swap_j23 at h
  by_cases b2 : v1 = 0
  · rw [if_pos b2] at h
    cases h
    exact J.passS (As := [.int v1]) (rest := []) hX ht 11 rfl (mX4_mustExist_t hl b2) okX4_mustExist w_109 rfl rfl (Nat.le_of_ble_eq_true rfl) ⟨Nat.le_of_ble_eq_true rfl, Nat.le_of_ble_eq_true rfl⟩ ⟨Nat.le_refl _, Nat.le_refl _⟩
  · rw [if_neg b2] at h
    refine J.callS0 (As := [.int v1]) (rest := []) hX 11 rfl (mX4_mustExist_r b2) okX4_mustExist w_109 rfl rfl (Nat.le_of_ble_eq_true rfl) ⟨Nat.le_of_ble_eq_true rfl, Nat.le_of_ble_eq_true rfl⟩ ⟨Nat.zero_le _, Nat.zero_le _⟩ ?_
    refine J.aload_n hX 12 0 rfl rfl ?_
    refine J.getR hX 13 0 4 (hX.lt (k := 0) (by decide)) sh_0 rfl in_wsX40 3 (by decide) w_28 rfl rfl ?_
    obtain ⟨N3, hc, h⟩ := bd1_inv h
    refine J.callV0 (As := []) (rest := []) (k := 17) hX 14 rfl (mX0_forget  hc) okX0_forget w_391 (hX.lt (k := 17) (by decide)) sh_17 rfl rfl rfl (Nat.le_of_ble_eq_true rfl) ⟨Nat.le_of_ble_eq_true rfl, Nat.le_of_ble_eq_true rfl⟩ ⟨Nat.zero_le _, Nat.zero_le _⟩ ?_
    refine J.aload_n hX 15 0 rfl rfl ?_
    refine J.getR hX 16 0 4 (hX.lt (k := 0) (by decide)) sh_0 rfl in_wsX40 0 (by decide) w_16 rfl rfl ?_
    refine J.iload_n hX 17 1 rfl rfl ?_
    refine J.iload_n hX 18 2 rfl rfl ?_
    obtain ⟨t2, N4, hc, h⟩ := bd2_inv h
    refine J.callV1 (As := [.int l1, .int l2]) (rest := []) (k := 1) hX 19 rfl (mX1_swapCloths (DrOk.main hX.n49) hc) okX1_swapCloths w_461 (hX.lt (k := 1) (by decide)) sh_1 rfl rfl rfl (Nat.le_of_ble_eq_true rfl) ⟨Nat.le_of_ble_eq_true rfl, Nat.le_of_ble_eq_true rfl⟩ ⟨Nat.zero_le _, Nat.zero_le _⟩ ?_
    refine J.aload_n hX 20 0 rfl rfl ?_
    refine J.getR hX 21 0 4 (hX.lt (k := 0) (by decide)) sh_0 rfl in_wsX40 2 (by decide) w_24 rfl rfl ?_
    refine J.iload_n hX 22 1 rfl rfl ?_
    refine J.iload_n hX 23 2 rfl rfl ?_
    obtain ⟨t3, N5, hc, h⟩ := bd2_inv h
    refine J.callV1 (As := [.int l1, .int l2]) (rest := [.int t2]) (k := 10) hX 24 rfl (mX3_swapCloths  hc) okX3_swapCloths w_469 (hX.lt (k := 10) (by decide)) sh_10 rfl rfl rfl (Nat.le_of_ble_eq_true rfl) ⟨Nat.le_of_ble_eq_true rfl, Nat.le_of_ble_eq_true rfl⟩ ⟨Nat.zero_le _, Nat.zero_le _⟩ ?_
    refine J.iadd hX 25 rfl ?_
    cases h
    exact J.iret hX hr 26 rfl
set_option maxHeartbeats 4000000 in
set_option maxRecDepth 100000 in
theorem X4_swap_j22_ok (hX : Cx p s m args meth c D cA ad n A sa cX4_swap 3 RX4 kX4_swap) {N1 : Mem} {l1 : Int32} {l2 : Int32} {res : Int32 ⊕ String} {Mf : Mem}  (hr : meth.sig.returnType = (some .int)) (ht : ∀ x ∈ c.exceptionTable.toList, False) (hl : l.stackTraces = false) (h : X4_swap_j22 n N1 l1 l2 = some (res, Mf)) : JM 7 102 p l e s m args below meth c D cA ad n A 3 (outI res) Mf N1 22 [(0, .ref (ad 0)), (1, .int l1), (2, .int l2)] [] := by
  unfold X4_swap_j22 at h
  refine J.iconst (v := 0) hX 10 rfl (by decide) ?_
  refine J.sub (L' := [(0, .ref (ad 0)), (1, .int l1), (2, .int l2)]) [0, 1, 2] rfl ?_
  exact X4_swap_j23_ok hX  hr ht hl h
set_option maxHeartbeats 4000000 in
set_option maxRecDepth 100000 in
theorem mX4_swap {l : Launch} {D : va_G} {cA : Nat → ClassId} {ad : Nat → Nat} {n : Nat} {A : Nat → Prop} {sa : Nat → Nat} {M : Mem} {l1 : Int32} {l2 : Int32} {res : Int32 ⊕ String} {Mf : Mem} (hl : l.stackTraces = false) (h : X4_swap n M l1 l2 = some (res, Mf)) : CT l D cA ad n A sa yX4_swap cX4_swap 3 (some .int) 7 102 [.ref (ad 0), .int l1, .int l2] M (outI res) Mf := by
  refine CT.of (kt := kX4_swap) (by decide) kX4_swap_ok (Nat.le_of_ble_eq_true rfl) ?_
  intro p e s m args below meth c hX hr ht
  unfold X4_swap at h
  refine J.sub (L' := [(0, .ref (ad 0)), (1, .int l1), (2, .int l2)]) [0, 1, 2] rfl ?_
  refine J.iload_n hX 0 1 rfl rfl ?_
  refine J.bipush (v := 12) hX 1 rfl (by decide) ?_
  obtain ⟨t1, hc, h⟩ := bd1_inv h
  refine J.callS1 (As := [.int l1, .int 12]) (rest := []) hX 2 rfl (mX4_within  hc) okX4_within w_106 rfl rfl (Nat.le_of_ble_eq_true rfl) ⟨Nat.le_of_ble_eq_true rfl, Nat.le_of_ble_eq_true rfl⟩ ⟨Nat.zero_le _, Nat.zero_le _⟩ ?_
  refine J.if_eq (tgt := 22) hX 3 rfl (by decide) (fun b1 => ?_) (fun b1 => ?_)
  · rw [if_pos b1] at h
    refine J.sub (L' := [(0, .ref (ad 0)), (1, .int l1), (2, .int l2)]) [0, 1, 2] rfl ?_
    exact X4_swap_j22_ok hX  hr ht hl h
  · rw [if_neg b1] at h
    refine J.iload_n hX 4 2 rfl rfl ?_
    refine J.bipush (v := 12) hX 5 rfl (by decide) ?_
    obtain ⟨t4, hc, h⟩ := bd1_inv h
    refine J.callS1 (As := [.int l2, .int 12]) (rest := []) hX 6 rfl (mX4_within  hc) okX4_within w_106 rfl rfl (Nat.le_of_ble_eq_true rfl) ⟨Nat.le_of_ble_eq_true rfl, Nat.le_of_ble_eq_true rfl⟩ ⟨Nat.zero_le _, Nat.zero_le _⟩ ?_
    refine J.if_eq (tgt := 22) hX 7 rfl (by decide) (fun b3 => ?_) (fun b3 => ?_)
    · rw [if_pos b3] at h
      refine J.sub (L' := [(0, .ref (ad 0)), (1, .int l1), (2, .int l2)]) [0, 1, 2] rfl ?_
      exact X4_swap_j22_ok hX  hr ht hl h
    · rw [if_neg b3] at h
      refine J.iconst (v := 1) hX 8 rfl (by decide) ?_
      refine J.goto (tgt := 23) hX 9 rfl (by decide) ?_
      refine J.sub (L' := [(0, .ref (ad 0)), (1, .int l1), (2, .int l2)]) [0, 1, 2] rfl ?_
      exact X4_swap_j23_ok hX  hr ht hl h
def X4_area (n : Nat) (M : Mem) (l1 : Int32) : Option ((Int32 ⊕ String) × Mem) := bd1 (X4_within M l1 12) (fun t1 => if t1 = 0 then (some (.inr "java/util/NoSuchElementException", M)) else (bd1 (X3_clothArea n M l1) (fun t2 => some (.inl t2, M))))
set_option maxHeartbeats 4000000 in
set_option maxRecDepth 100000 in
theorem mX4_area {l : Launch} {D : va_G} {cA : Nat → ClassId} {ad : Nat → Nat} {n : Nat} {A : Nat → Prop} {sa : Nat → Nat} {M : Mem} {l1 : Int32} {res : Int32 ⊕ String} {Mf : Mem} (hl : l.stackTraces = false) (h : X4_area n M l1 = some (res, Mf)) : CT l D cA ad n A sa yX4_area cX4_area 2 (some .int) 7 102 [.ref (ad 0), .int l1] M (outI res) Mf := by
  refine CT.of (kt := kX4_area) (by decide) kX4_area_ok (Nat.le_of_ble_eq_true rfl) ?_
  intro p e s m args below meth c hX hr ht
  unfold X4_area at h
  refine J.sub (L' := [(0, .ref (ad 0)), (1, .int l1)]) [0, 1] rfl ?_
  refine J.iload_n hX 0 1 rfl rfl ?_
  refine J.bipush (v := 12) hX 1 rfl (by decide) ?_
  obtain ⟨t1, hc, h⟩ := bd1_inv h
  refine J.callS1 (As := [.int l1, .int 12]) (rest := []) hX 2 rfl (mX4_within  hc) okX4_within w_106 rfl rfl (Nat.le_of_ble_eq_true rfl) ⟨Nat.le_of_ble_eq_true rfl, Nat.le_of_ble_eq_true rfl⟩ ⟨Nat.zero_le _, Nat.zero_le _⟩ ?_
  by_cases b1 : t1 = 0
  · rw [if_pos b1] at h
    cases h
    exact J.passS (As := [.int t1]) (rest := []) hX ht 3 rfl (mX4_mustExist_t hl b1) okX4_mustExist w_109 rfl rfl (Nat.le_of_ble_eq_true rfl) ⟨Nat.le_of_ble_eq_true rfl, Nat.le_of_ble_eq_true rfl⟩ ⟨Nat.le_refl _, Nat.le_refl _⟩
  · rw [if_neg b1] at h
    refine J.callS0 (As := [.int t1]) (rest := []) hX 3 rfl (mX4_mustExist_r b1) okX4_mustExist w_109 rfl rfl (Nat.le_of_ble_eq_true rfl) ⟨Nat.le_of_ble_eq_true rfl, Nat.le_of_ble_eq_true rfl⟩ ⟨Nat.zero_le _, Nat.zero_le _⟩ ?_
    refine J.aload_n hX 4 0 rfl rfl ?_
    refine J.getR hX 5 0 4 (hX.lt (k := 0) (by decide)) sh_0 rfl in_wsX40 2 (by decide) w_24 rfl rfl ?_
    refine J.iload_n hX 6 1 rfl rfl ?_
    obtain ⟨t2, hc, h⟩ := bd1_inv h
    refine J.callV1 (As := [.int l1]) (rest := []) (k := 10) hX 7 rfl (mX3_clothArea  hc) okX3_clothArea w_488 (hX.lt (k := 10) (by decide)) sh_10 rfl rfl rfl (Nat.le_of_ble_eq_true rfl) ⟨Nat.le_of_ble_eq_true rfl, Nat.le_of_ble_eq_true rfl⟩ ⟨Nat.zero_le _, Nat.zero_le _⟩ ?_
    cases h
    exact J.iret hX hr 8 rfl
def X4_need (n : Nat) (M : Mem) (l1 : Int32) (l2 : Int32) : Option ((Int32 ⊕ String) × Mem) := bd1 (X4_within M l1 12) (fun t1 => if t1 = 0 then (some (.inr "java/util/NoSuchElementException", M)) else (bd1 (X4_within M l2 3) (fun t2 => if t2 = 0 then (some (.inr "java/lang/IllegalArgumentException", M)) else (bd1 (X0_layAll n M l1) (fun N1 => if l2 = 0 then (some (.inl (N1 17 1), N1)) else (if l2 = 1 then (some (.inl (N1 17 11), N1)) else (some (.inl (N1 17 12), N1))))))))
set_option maxHeartbeats 4000000 in
set_option maxRecDepth 100000 in
theorem mX4_need {l : Launch} {D : va_G} {cA : Nat → ClassId} {ad : Nat → Nat} {n : Nat} {A : Nat → Prop} {sa : Nat → Nat} {M : Mem} {l1 : Int32} {l2 : Int32} {res : Int32 ⊕ String} {Mf : Mem} (hl : l.stackTraces = false) (h : X4_need n M l1 l2 = some (res, Mf)) : CT l D cA ad n A sa yX4_need cX4_need 3 (some .int) 7 138 [.ref (ad 0), .int l1, .int l2] M (outI res) Mf := by
  refine CT.of (kt := kX4_need) (by decide) kX4_need_ok (Nat.le_of_ble_eq_true rfl) ?_
  intro p e s m args below meth c hX hr ht
  unfold X4_need at h
  refine J.sub (L' := [(0, .ref (ad 0)), (1, .int l1), (2, .int l2)]) [0, 1, 2] rfl ?_
  refine J.iload_n hX 0 1 rfl rfl ?_
  refine J.bipush (v := 12) hX 1 rfl (by decide) ?_
  obtain ⟨t1, hc, h⟩ := bd1_inv h
  refine J.callS1 (As := [.int l1, .int 12]) (rest := []) hX 2 rfl (mX4_within  hc) okX4_within w_106 rfl rfl (Nat.le_of_ble_eq_true rfl) ⟨Nat.le_of_ble_eq_true rfl, Nat.le_of_ble_eq_true rfl⟩ ⟨Nat.zero_le _, Nat.zero_le _⟩ ?_
  by_cases b1 : t1 = 0
  · rw [if_pos b1] at h
    cases h
    exact J.passS (As := [.int t1]) (rest := []) hX ht 3 rfl (mX4_mustExist_t hl b1) okX4_mustExist w_109 rfl rfl (Nat.le_of_ble_eq_true rfl) ⟨Nat.le_of_ble_eq_true rfl, Nat.le_of_ble_eq_true rfl⟩ ⟨Nat.le_refl _, Nat.le_refl _⟩
  · rw [if_neg b1] at h
    refine J.callS0 (As := [.int t1]) (rest := []) hX 3 rfl (mX4_mustExist_r b1) okX4_mustExist w_109 rfl rfl (Nat.le_of_ble_eq_true rfl) ⟨Nat.le_of_ble_eq_true rfl, Nat.le_of_ble_eq_true rfl⟩ ⟨Nat.zero_le _, Nat.zero_le _⟩ ?_
    refine J.iload_n hX 4 2 rfl rfl ?_
    refine J.iconst (v := 3) hX 5 rfl (by decide) ?_
    obtain ⟨t2, hc, h⟩ := bd1_inv h
    refine J.callS1 (As := [.int l2, .int 3]) (rest := []) hX 6 rfl (mX4_within  hc) okX4_within w_106 rfl rfl (Nat.le_of_ble_eq_true rfl) ⟨Nat.le_of_ble_eq_true rfl, Nat.le_of_ble_eq_true rfl⟩ ⟨Nat.zero_le _, Nat.zero_le _⟩ ?_
    by_cases b2 : t2 = 0
    · rw [if_pos b2] at h
      cases h
      exact J.passS (As := [.int t2]) (rest := []) hX ht 7 rfl (mX4_mustFit_t hl b2) okX4_mustFit w_114 rfl rfl (Nat.le_of_ble_eq_true rfl) ⟨Nat.le_of_ble_eq_true rfl, Nat.le_of_ble_eq_true rfl⟩ ⟨Nat.le_refl _, Nat.le_refl _⟩
    · rw [if_neg b2] at h
      refine J.callS0 (As := [.int t2]) (rest := []) hX 7 rfl (mX4_mustFit_r b2) okX4_mustFit w_114 rfl rfl (Nat.le_of_ble_eq_true rfl) ⟨Nat.le_of_ble_eq_true rfl, Nat.le_of_ble_eq_true rfl⟩ ⟨Nat.zero_le _, Nat.zero_le _⟩ ?_
      refine J.aload_n hX 8 0 rfl rfl ?_
      refine J.getR hX 9 0 4 (hX.lt (k := 0) (by decide)) sh_0 rfl in_wsX40 3 (by decide) w_28 rfl rfl ?_
      refine J.aload_n hX 10 0 rfl rfl ?_
      refine J.getR hX 11 0 4 (hX.lt (k := 0) (by decide)) sh_0 rfl in_wsX40 2 (by decide) w_24 rfl rfl ?_
      refine J.iload_n hX 12 1 rfl rfl ?_
      obtain ⟨N1, hc, h⟩ := bd1_inv h
      refine J.callV0 (As := [.ref (ad 10), .int l1]) (rest := []) (k := 17) hX 13 rfl (mX0_layAll  hc) okX0_layAll w_510 (hX.lt (k := 17) (by decide)) sh_17 rfl rfl rfl (Nat.le_of_ble_eq_true rfl) ⟨Nat.le_of_ble_eq_true rfl, Nat.le_of_ble_eq_true rfl⟩ ⟨Nat.zero_le _, Nat.zero_le _⟩ ?_
      refine J.iload_n hX 14 2 rfl rfl ?_
      by_cases b3 : l2 = 0
      · rw [if_pos b3] at h
        refine J.look hX 15 (26) 56 rfl (by decide) (by rw [b3]; decide) (by decide) ?_
        refine J.aload_n hX 16 0 rfl rfl ?_
        refine J.getR hX 17 0 4 (hX.lt (k := 0) (by decide)) sh_0 rfl in_wsX40 3 (by decide) w_28 rfl rfl ?_
        refine J.getI hX 18 17 0 (hX.lt (k := 17) (by decide)) sh_17 rfl in_wsX00 1 (by decide) w_507 rfl rfl ?_
        cases h
        exact J.iret hX hr 19 rfl
      · rw [if_neg b3] at h
        by_cases b4 : l2 = 1
        · rw [if_pos b4] at h
          refine J.look hX 15 (34) 64 rfl (by decide) (by rw [b4]; decide) (by decide) ?_
          refine J.aload_n hX 20 0 rfl rfl ?_
          refine J.getR hX 21 0 4 (hX.lt (k := 0) (by decide)) sh_0 rfl in_wsX40 3 (by decide) w_28 rfl rfl ?_
          refine J.getI hX 22 17 0 (hX.lt (k := 17) (by decide)) sh_17 rfl in_wsX00 11 (by decide) w_508 rfl rfl ?_
          cases h
          exact J.iret hX hr 23 rfl
        · rw [if_neg b4] at h
          refine J.look hX 15 (42) 72 rfl (by decide) (look2 b3 b4) (by decide) ?_
          refine J.aload_n hX 24 0 rfl rfl ?_
          refine J.getR hX 25 0 4 (hX.lt (k := 0) (by decide)) sh_0 rfl in_wsX40 3 (by decide) w_28 rfl rfl ?_
          refine J.getI hX 26 17 0 (hX.lt (k := 17) (by decide)) sh_17 rfl in_wsX00 12 (by decide) w_509 rfl rfl ?_
          cases h
          exact J.iret hX hr 27 rfl
def X4_cut (n : Nat) (M : Mem) (l1 : Int32) (l2 : Int32) (l3 : Int32) : Option ((Int32 ⊕ String) × Mem) := bd1 (X4_within M l1 12) (fun t1 => if t1 = 0 then (some (.inr "java/util/NoSuchElementException", M)) else (bd1 (X0_layAll n M l1) (fun N1 => bd1 (X4_within N1 l2 (N1 17 1)) (fun t2 => if t2 = 0 then (some (.inr "java/util/NoSuchElementException", N1)) else (bd1 (X4_within N1 l3 5) (fun t3 => if t3 = 0 then (some (.inr "java/lang/IllegalArgumentException", N1)) else (bd1 (X0_fact N1 l2 l3) (fun t4 => some (.inl t4, N1)))))))))
set_option maxHeartbeats 4000000 in
set_option maxRecDepth 100000 in
theorem mX4_cut {l : Launch} {D : va_G} {cA : Nat → ClassId} {ad : Nat → Nat} {n : Nat} {A : Nat → Prop} {sa : Nat → Nat} {M : Mem} {l1 : Int32} {l2 : Int32} {l3 : Int32} {res : Int32 ⊕ String} {Mf : Mem} (hl : l.stackTraces = false) (h : X4_cut n M l1 l2 l3 = some (res, Mf)) : CT l D cA ad n A sa yX4_cut cX4_cut 4 (some .int) 7 138 [.ref (ad 0), .int l1, .int l2, .int l3] M (outI res) Mf := by
  refine CT.of (kt := kX4_cut) (by decide) kX4_cut_ok (Nat.le_of_ble_eq_true rfl) ?_
  intro p e s m args below meth c hX hr ht
  unfold X4_cut at h
  refine J.sub (L' := [(0, .ref (ad 0)), (1, .int l1), (2, .int l2), (3, .int l3)]) [0, 1, 2, 3] rfl ?_
  refine J.iload_n hX 0 1 rfl rfl ?_
  refine J.bipush (v := 12) hX 1 rfl (by decide) ?_
  obtain ⟨t1, hc, h⟩ := bd1_inv h
  refine J.callS1 (As := [.int l1, .int 12]) (rest := []) hX 2 rfl (mX4_within  hc) okX4_within w_106 rfl rfl (Nat.le_of_ble_eq_true rfl) ⟨Nat.le_of_ble_eq_true rfl, Nat.le_of_ble_eq_true rfl⟩ ⟨Nat.zero_le _, Nat.zero_le _⟩ ?_
  by_cases b1 : t1 = 0
  · rw [if_pos b1] at h
    cases h
    exact J.passS (As := [.int t1]) (rest := []) hX ht 3 rfl (mX4_mustExist_t hl b1) okX4_mustExist w_109 rfl rfl (Nat.le_of_ble_eq_true rfl) ⟨Nat.le_of_ble_eq_true rfl, Nat.le_of_ble_eq_true rfl⟩ ⟨Nat.le_refl _, Nat.le_refl _⟩
  · rw [if_neg b1] at h
    refine J.callS0 (As := [.int t1]) (rest := []) hX 3 rfl (mX4_mustExist_r b1) okX4_mustExist w_109 rfl rfl (Nat.le_of_ble_eq_true rfl) ⟨Nat.le_of_ble_eq_true rfl, Nat.le_of_ble_eq_true rfl⟩ ⟨Nat.zero_le _, Nat.zero_le _⟩ ?_
    refine J.aload_n hX 4 0 rfl rfl ?_
    refine J.getR hX 5 0 4 (hX.lt (k := 0) (by decide)) sh_0 rfl in_wsX40 3 (by decide) w_28 rfl rfl ?_
    refine J.aload_n hX 6 0 rfl rfl ?_
    refine J.getR hX 7 0 4 (hX.lt (k := 0) (by decide)) sh_0 rfl in_wsX40 2 (by decide) w_24 rfl rfl ?_
    refine J.iload_n hX 8 1 rfl rfl ?_
    obtain ⟨N1, hc, h⟩ := bd1_inv h
    refine J.callV0 (As := [.ref (ad 10), .int l1]) (rest := []) (k := 17) hX 9 rfl (mX0_layAll  hc) okX0_layAll w_510 (hX.lt (k := 17) (by decide)) sh_17 rfl rfl rfl (Nat.le_of_ble_eq_true rfl) ⟨Nat.le_of_ble_eq_true rfl, Nat.le_of_ble_eq_true rfl⟩ ⟨Nat.zero_le _, Nat.zero_le _⟩ ?_
    refine J.iload_n hX 10 2 rfl rfl ?_
    refine J.aload_n hX 11 0 rfl rfl ?_
    refine J.getR hX 12 0 4 (hX.lt (k := 0) (by decide)) sh_0 rfl in_wsX40 3 (by decide) w_28 rfl rfl ?_
    refine J.getI hX 13 17 0 (hX.lt (k := 17) (by decide)) sh_17 rfl in_wsX00 1 (by decide) w_507 rfl rfl ?_
    obtain ⟨t2, hc, h⟩ := bd1_inv h
    refine J.callS1 (As := [.int l2, .int (N1 17 1)]) (rest := []) hX 14 rfl (mX4_within  hc) okX4_within w_106 rfl rfl (Nat.le_of_ble_eq_true rfl) ⟨Nat.le_of_ble_eq_true rfl, Nat.le_of_ble_eq_true rfl⟩ ⟨Nat.zero_le _, Nat.zero_le _⟩ ?_
    by_cases b2 : t2 = 0
    · rw [if_pos b2] at h
      cases h
      exact J.passS (As := [.int t2]) (rest := []) hX ht 15 rfl (mX4_mustExist_t hl b2) okX4_mustExist w_109 rfl rfl (Nat.le_of_ble_eq_true rfl) ⟨Nat.le_of_ble_eq_true rfl, Nat.le_of_ble_eq_true rfl⟩ ⟨Nat.le_refl _, Nat.le_refl _⟩
    · rw [if_neg b2] at h
      refine J.callS0 (As := [.int t2]) (rest := []) hX 15 rfl (mX4_mustExist_r b2) okX4_mustExist w_109 rfl rfl (Nat.le_of_ble_eq_true rfl) ⟨Nat.le_of_ble_eq_true rfl, Nat.le_of_ble_eq_true rfl⟩ ⟨Nat.zero_le _, Nat.zero_le _⟩ ?_
      refine J.iload_n hX 16 3 rfl rfl ?_
      refine J.iconst (v := 5) hX 17 rfl (by decide) ?_
      obtain ⟨t3, hc, h⟩ := bd1_inv h
      refine J.callS1 (As := [.int l3, .int 5]) (rest := []) hX 18 rfl (mX4_within  hc) okX4_within w_106 rfl rfl (Nat.le_of_ble_eq_true rfl) ⟨Nat.le_of_ble_eq_true rfl, Nat.le_of_ble_eq_true rfl⟩ ⟨Nat.zero_le _, Nat.zero_le _⟩ ?_
      by_cases b3 : t3 = 0
      · rw [if_pos b3] at h
        cases h
        exact J.passS (As := [.int t3]) (rest := []) hX ht 19 rfl (mX4_mustFit_t hl b3) okX4_mustFit w_114 rfl rfl (Nat.le_of_ble_eq_true rfl) ⟨Nat.le_of_ble_eq_true rfl, Nat.le_of_ble_eq_true rfl⟩ ⟨Nat.le_refl _, Nat.le_refl _⟩
      · rw [if_neg b3] at h
        refine J.callS0 (As := [.int t3]) (rest := []) hX 19 rfl (mX4_mustFit_r b3) okX4_mustFit w_114 rfl rfl (Nat.le_of_ble_eq_true rfl) ⟨Nat.le_of_ble_eq_true rfl, Nat.le_of_ble_eq_true rfl⟩ ⟨Nat.zero_le _, Nat.zero_le _⟩ ?_
        refine J.aload_n hX 20 0 rfl rfl ?_
        refine J.getR hX 21 0 4 (hX.lt (k := 0) (by decide)) sh_0 rfl in_wsX40 3 (by decide) w_28 rfl rfl ?_
        refine J.iload_n hX 22 2 rfl rfl ?_
        refine J.iload_n hX 23 3 rfl rfl ?_
        obtain ⟨t4, hc, h⟩ := bd1_inv h
        refine J.callV1 (As := [.int l2, .int l3]) (rest := []) (k := 17) hX 24 rfl (mX0_fact  hc) okX0_fact w_674 (hX.lt (k := 17) (by decide)) sh_17 rfl rfl rfl (Nat.le_of_ble_eq_true rfl) ⟨Nat.le_of_ble_eq_true rfl, Nat.le_of_ble_eq_true rfl⟩ ⟨Nat.zero_le _, Nat.zero_le _⟩ ?_
        cases h
        exact J.iret hX hr 25 rfl
def X4_count (M : Mem) (l1 : Int32) : Option ((Int32 ⊕ String) × Mem) := bd1 (X4_within M l1 7) (fun t1 => if t1 = 0 then (some (.inr "java/lang/IllegalArgumentException", M)) else (if l1 = 0 then (bd1 (X1_closedPatches M 1) (fun t2 => some (.inl t2, M))) else (if l1 = 1 then (some (.inl (M 10 1), M)) else (if l1 = 2 then (bd1 (X3_placedBlocks M) (fun t3 => some (.inl t3, M))) else (if l1 = 3 then (bd1 (X3_usedRows M) (fun t4 => some (.inl t4, M))) else (if l1 = 4 then (bd1 (X3_usedColumns M) (fun t5 => some (.inl t5, M))) else (if l1 = 5 then (bd1 (X3_usedColumns M) (fun t6 => bd1 (X3_withBorder M t6) (fun t7 => some (.inl t7, M)))) else (bd1 (X3_usedRows M) (fun t8 => bd1 (X3_withBorder M t8) (fun t9 => some (.inl t9, M)))))))))))
set_option maxHeartbeats 4000000 in
set_option maxRecDepth 100000 in
theorem mX4_count {l : Launch} {D : va_G} {cA : Nat → ClassId} {ad : Nat → Nat} {n : Nat} {A : Nat → Prop} {sa : Nat → Nat} {M : Mem} {l1 : Int32} {res : Int32 ⊕ String} {Mf : Mem} (hl : l.stackTraces = false) (h : X4_count M l1 = some (res, Mf)) : CT l D cA ad n A sa yX4_count cX4_count 2 (some .int) 7 102 [.ref (ad 0), .int l1] M (outI res) Mf := by
  refine CT.of (kt := kX4_count) (by decide) kX4_count_ok (Nat.le_of_ble_eq_true rfl) ?_
  intro p e s m args below meth c hX hr ht
  unfold X4_count at h
  refine J.sub (L' := [(0, .ref (ad 0)), (1, .int l1)]) [0, 1] rfl ?_
  refine J.iload_n hX 0 1 rfl rfl ?_
  refine J.bipush (v := 7) hX 1 rfl (by decide) ?_
  obtain ⟨t1, hc, h⟩ := bd1_inv h
  refine J.callS1 (As := [.int l1, .int 7]) (rest := []) hX 2 rfl (mX4_within  hc) okX4_within w_106 rfl rfl (Nat.le_of_ble_eq_true rfl) ⟨Nat.le_of_ble_eq_true rfl, Nat.le_of_ble_eq_true rfl⟩ ⟨Nat.zero_le _, Nat.zero_le _⟩ ?_
  by_cases b1 : t1 = 0
  · rw [if_pos b1] at h
    cases h
    exact J.passS (As := [.int t1]) (rest := []) hX ht 3 rfl (mX4_mustFit_t hl b1) okX4_mustFit w_114 rfl rfl (Nat.le_of_ble_eq_true rfl) ⟨Nat.le_of_ble_eq_true rfl, Nat.le_of_ble_eq_true rfl⟩ ⟨Nat.le_refl _, Nat.le_refl _⟩
  · rw [if_neg b1] at h
    refine J.callS0 (As := [.int t1]) (rest := []) hX 3 rfl (mX4_mustFit_r b1) okX4_mustFit w_114 rfl rfl (Nat.le_of_ble_eq_true rfl) ⟨Nat.le_of_ble_eq_true rfl, Nat.le_of_ble_eq_true rfl⟩ ⟨Nat.zero_le _, Nat.zero_le _⟩ ?_
    refine J.iload_n hX 4 1 rfl rfl ?_
    by_cases b2 : l1 = 0
    · rw [if_pos b2] at h
      refine J.tabIn hX 5 (38) 48 rfl (by rw [b2]; decide) (by rw [b2]; decide) (by rw [b2]; decide) (by decide) ?_
      refine J.aload_n hX 6 0 rfl rfl ?_
      refine J.getR hX 7 0 4 (hX.lt (k := 0) (by decide)) sh_0 rfl in_wsX40 0 (by decide) w_16 rfl rfl ?_
      obtain ⟨t2, hc, h⟩ := bd1_inv h
      refine J.callV1 (As := []) (rest := []) (k := 1) hX 8 rfl (mX1_closedPatches (DrOk.main hX.n49) hc) okX1_closedPatches w_216 (hX.lt (k := 1) (by decide)) sh_1 rfl rfl rfl (Nat.le_of_ble_eq_true rfl) ⟨Nat.le_of_ble_eq_true rfl, Nat.le_of_ble_eq_true rfl⟩ ⟨Nat.zero_le _, Nat.zero_le _⟩ ?_
      cases h
      exact J.iret hX hr 9 rfl
    · rw [if_neg b2] at h
      by_cases b3 : l1 = 1
      · rw [if_pos b3] at h
        refine J.tabIn hX 5 (46) 56 rfl (by rw [b3]; decide) (by rw [b3]; decide) (by rw [b3]; decide) (by decide) ?_
        refine J.aload_n hX 10 0 rfl rfl ?_
        refine J.getR hX 11 0 4 (hX.lt (k := 0) (by decide)) sh_0 rfl in_wsX40 2 (by decide) w_24 rfl rfl ?_
        refine J.getI hX 12 10 3 (hX.lt (k := 10) (by decide)) sh_10 rfl in_wsX30 1 (by decide) w_364 rfl rfl ?_
        cases h
        exact J.iret hX hr 13 rfl
      · rw [if_neg b3] at h
        by_cases b4 : l1 = 2
        · rw [if_pos b4] at h
          refine J.tabIn hX 5 (54) 64 rfl (by rw [b4]; decide) (by rw [b4]; decide) (by rw [b4]; decide) (by decide) ?_
          refine J.aload_n hX 14 0 rfl rfl ?_
          refine J.getR hX 15 0 4 (hX.lt (k := 0) (by decide)) sh_0 rfl in_wsX40 2 (by decide) w_24 rfl rfl ?_
          obtain ⟨t3, hc, h⟩ := bd1_inv h
          refine J.callV1 (As := []) (rest := []) (k := 10) hX 16 rfl (mX3_placedBlocks  hc) okX3_placedBlocks w_689 (hX.lt (k := 10) (by decide)) sh_10 rfl rfl rfl (Nat.le_of_ble_eq_true rfl) ⟨Nat.le_of_ble_eq_true rfl, Nat.le_of_ble_eq_true rfl⟩ ⟨Nat.zero_le _, Nat.zero_le _⟩ ?_
          cases h
          exact J.iret hX hr 17 rfl
        · rw [if_neg b4] at h
          by_cases b5 : l1 = 3
          · rw [if_pos b5] at h
            refine J.tabIn hX 5 (62) 72 rfl (by rw [b5]; decide) (by rw [b5]; decide) (by rw [b5]; decide) (by decide) ?_
            refine J.aload_n hX 18 0 rfl rfl ?_
            refine J.getR hX 19 0 4 (hX.lt (k := 0) (by decide)) sh_0 rfl in_wsX40 2 (by decide) w_24 rfl rfl ?_
            obtain ⟨t4, hc, h⟩ := bd1_inv h
            refine J.callV1 (As := []) (rest := []) (k := 10) hX 20 rfl (mX3_usedRows  hc) okX3_usedRows w_693 (hX.lt (k := 10) (by decide)) sh_10 rfl rfl rfl (Nat.le_of_ble_eq_true rfl) ⟨Nat.le_of_ble_eq_true rfl, Nat.le_of_ble_eq_true rfl⟩ ⟨Nat.zero_le _, Nat.zero_le _⟩ ?_
            cases h
            exact J.iret hX hr 21 rfl
          · rw [if_neg b5] at h
            by_cases b6 : l1 = 4
            · rw [if_pos b6] at h
              refine J.tabIn hX 5 (70) 80 rfl (by rw [b6]; decide) (by rw [b6]; decide) (by rw [b6]; decide) (by decide) ?_
              refine J.aload_n hX 22 0 rfl rfl ?_
              refine J.getR hX 23 0 4 (hX.lt (k := 0) (by decide)) sh_0 rfl in_wsX40 2 (by decide) w_24 rfl rfl ?_
              obtain ⟨t5, hc, h⟩ := bd1_inv h
              refine J.callV1 (As := []) (rest := []) (k := 10) hX 24 rfl (mX3_usedColumns  hc) okX3_usedColumns w_694 (hX.lt (k := 10) (by decide)) sh_10 rfl rfl rfl (Nat.le_of_ble_eq_true rfl) ⟨Nat.le_of_ble_eq_true rfl, Nat.le_of_ble_eq_true rfl⟩ ⟨Nat.zero_le _, Nat.zero_le _⟩ ?_
              cases h
              exact J.iret hX hr 25 rfl
            · rw [if_neg b6] at h
              by_cases b7 : l1 = 5
              · rw [if_pos b7] at h
                refine J.tabIn hX 5 (78) 88 rfl (by rw [b7]; decide) (by rw [b7]; decide) (by rw [b7]; decide) (by decide) ?_
                refine J.aload_n hX 26 0 rfl rfl ?_
                refine J.getR hX 27 0 4 (hX.lt (k := 0) (by decide)) sh_0 rfl in_wsX40 2 (by decide) w_24 rfl rfl ?_
                refine J.aload_n hX 28 0 rfl rfl ?_
                refine J.getR hX 29 0 4 (hX.lt (k := 0) (by decide)) sh_0 rfl in_wsX40 2 (by decide) w_24 rfl rfl ?_
                obtain ⟨t6, hc, h⟩ := bd1_inv h
                refine J.callV1 (As := []) (rest := [.ref (ad 10)]) (k := 10) hX 30 rfl (mX3_usedColumns  hc) okX3_usedColumns w_694 (hX.lt (k := 10) (by decide)) sh_10 rfl rfl rfl (Nat.le_of_ble_eq_true rfl) ⟨Nat.le_of_ble_eq_true rfl, Nat.le_of_ble_eq_true rfl⟩ ⟨Nat.zero_le _, Nat.zero_le _⟩ ?_
                obtain ⟨t7, hc, h⟩ := bd1_inv h
                refine J.callV1 (As := [.int t6]) (rest := []) (k := 10) hX 31 rfl (mX3_withBorder  hc) okX3_withBorder w_695 (hX.lt (k := 10) (by decide)) sh_10 rfl rfl rfl (Nat.le_of_ble_eq_true rfl) ⟨Nat.le_of_ble_eq_true rfl, Nat.le_of_ble_eq_true rfl⟩ ⟨Nat.zero_le _, Nat.zero_le _⟩ ?_
                cases h
                exact J.iret hX hr 32 rfl
              · rw [if_neg b7] at h
                refine J.tabOut hX 5 103 rfl (by have z0 : l1.toInt ≠ 0 := sw_ne b2; have z1 : l1.toInt ≠ 1 := sw_ne b3; have z2 : l1.toInt ≠ 2 := sw_ne b4; have z3 : l1.toInt ≠ 3 := sw_ne b5; have z4 : l1.toInt ≠ 4 := sw_ne b6; have z5 : l1.toInt ≠ 5 := sw_ne b7; omega) (by decide) ?_
                refine J.aload_n hX 33 0 rfl rfl ?_
                refine J.getR hX 34 0 4 (hX.lt (k := 0) (by decide)) sh_0 rfl in_wsX40 2 (by decide) w_24 rfl rfl ?_
                refine J.aload_n hX 35 0 rfl rfl ?_
                refine J.getR hX 36 0 4 (hX.lt (k := 0) (by decide)) sh_0 rfl in_wsX40 2 (by decide) w_24 rfl rfl ?_
                obtain ⟨t8, hc, h⟩ := bd1_inv h
                refine J.callV1 (As := []) (rest := [.ref (ad 10)]) (k := 10) hX 37 rfl (mX3_usedRows  hc) okX3_usedRows w_693 (hX.lt (k := 10) (by decide)) sh_10 rfl rfl rfl (Nat.le_of_ble_eq_true rfl) ⟨Nat.le_of_ble_eq_true rfl, Nat.le_of_ble_eq_true rfl⟩ ⟨Nat.zero_le _, Nat.zero_le _⟩ ?_
                obtain ⟨t9, hc, h⟩ := bd1_inv h
                refine J.callV1 (As := [.int t8]) (rest := []) (k := 10) hX 38 rfl (mX3_withBorder  hc) okX3_withBorder w_695 (hX.lt (k := 10) (by decide)) sh_10 rfl rfl rfl (Nat.le_of_ble_eq_true rfl) ⟨Nat.le_of_ble_eq_true rfl, Nat.le_of_ble_eq_true rfl⟩ ⟨Nat.zero_le _, Nat.zero_le _⟩ ?_
                cases h
                exact J.iret hX hr 39 rfl
end G19
