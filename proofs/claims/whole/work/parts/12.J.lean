section G12
variable {p : Program} {l : Launch} {e : Env} {s : State} {m : MethodId} {args : Array Value} {below : List Frame} {meth : Method} {c : Code} {D : va_G} {cA : Nat → ClassId} {ad : Nat → Nat} {n : Nat} {A : Nat → Prop} {sa : Nat → Nat} {out : Option Value ⊕ String} {M1 : Mem}
def J6_bitCount_0f7a4 (M : Mem) (l0 : Int32) : Option (Int32) := bnd ((l0 - (((l0 : Int32).toUInt32 >>> ((1 : Int32).toUInt32 &&& Int32.toUInt32 31)).toInt32 &&& 1431655765))) (fun t1 => bnd (((t1 &&& 858993459) + (((t1 : Int32).toUInt32 >>> ((2 : Int32).toUInt32 &&& Int32.toUInt32 31)).toInt32 &&& 858993459))) (fun t2 => bnd (((t2 + ((t2 : Int32).toUInt32 >>> ((4 : Int32).toUInt32 &&& Int32.toUInt32 31)).toInt32) &&& 252645135)) (fun t3 => bnd ((t3 + ((t3 : Int32).toUInt32 >>> ((8 : Int32).toUInt32 &&& Int32.toUInt32 31)).toInt32)) (fun t4 => bnd ((t4 + ((t4 : Int32).toUInt32 >>> ((16 : Int32).toUInt32 &&& Int32.toUInt32 31)).toInt32)) (fun t5 => some (t5 &&& 63))))))
set_option maxHeartbeats 4000000 in
set_option maxRecDepth 100000 in
theorem mJ6_bitCount_0f7a4 {l : Launch} {D : va_G} {cA : Nat → ClassId} {ad : Nat → Nat} {n : Nat} {A : Nat → Prop} {sa : Nat → Nat} {M : Mem} {l0 : Int32} {r : Int32} (h : J6_bitCount_0f7a4 M l0 = some r) : CT l D cA ad n A sa yJ6_bitCount_0f7a4 cJ6_bitCount_0f7a4 1 (some .int) 0 0 [.int l0] M (.inl (some (.int r))) M := by
  refine CT.of (kt := kJ6_bitCount_0f7a4) (by decide) kJ6_bitCount_0f7a4_ok (Nat.le_of_ble_eq_true rfl) ?_
  intro p e s m args below meth c hX hr ht
  unfold J6_bitCount_0f7a4 at h
  refine J.sub (L' := [(0, .int l0)]) [0] rfl ?_
  refine J.iload_n hX 0 0 rfl rfl ?_
  refine J.iload_n hX 1 0 rfl rfl ?_
  refine J.iconst (v := 1) hX 2 rfl (by decide) ?_
  refine J.iushr hX 3 rfl ?_
  refine J.ldcw (v := 1431655765) hX 4 rfl w_229 ?_
  refine J.iand hX 5 rfl ?_
  refine J.isub hX 6 rfl ?_
  obtain ⟨t1, et1, h⟩ := bnd_inv h
  refine J.nm et1 ?_
  refine J.istore_n (L' := [(0, .int t1)]) hX 7 rfl (by decide) rfl ?_
  refine J.iload_n hX 8 0 rfl rfl ?_
  refine J.ldcw (v := 858993459) hX 9 rfl w_230 ?_
  refine J.iand hX 10 rfl ?_
  refine J.iload_n hX 11 0 rfl rfl ?_
  refine J.iconst (v := 2) hX 12 rfl (by decide) ?_
  refine J.iushr hX 13 rfl ?_
  refine J.ldcw (v := 858993459) hX 14 rfl w_230 ?_
  refine J.iand hX 15 rfl ?_
  refine J.iadd hX 16 rfl ?_
  obtain ⟨t2, et2, h⟩ := bnd_inv h
  refine J.nm et2 ?_
  refine J.istore_n (L' := [(0, .int t2)]) hX 17 rfl (by decide) rfl ?_
  refine J.iload_n hX 18 0 rfl rfl ?_
  refine J.iload_n hX 19 0 rfl rfl ?_
  refine J.iconst (v := 4) hX 20 rfl (by decide) ?_
  refine J.iushr hX 21 rfl ?_
  refine J.iadd hX 22 rfl ?_
  refine J.ldcw (v := 252645135) hX 23 rfl w_231 ?_
  refine J.iand hX 24 rfl ?_
  obtain ⟨t3, et3, h⟩ := bnd_inv h
  refine J.nm et3 ?_
  refine J.istore_n (L' := [(0, .int t3)]) hX 25 rfl (by decide) rfl ?_
  refine J.iload_n hX 26 0 rfl rfl ?_
  refine J.iload_n hX 27 0 rfl rfl ?_
  refine J.bipush (v := 8) hX 28 rfl (by decide) ?_
  refine J.iushr hX 29 rfl ?_
  refine J.iadd hX 30 rfl ?_
  obtain ⟨t4, et4, h⟩ := bnd_inv h
  refine J.nm et4 ?_
  refine J.istore_n (L' := [(0, .int t4)]) hX 31 rfl (by decide) rfl ?_
  refine J.iload_n hX 32 0 rfl rfl ?_
  refine J.iload_n hX 33 0 rfl rfl ?_
  refine J.bipush (v := 16) hX 34 rfl (by decide) ?_
  refine J.iushr hX 35 rfl ?_
  refine J.iadd hX 36 rfl ?_
  obtain ⟨t5, et5, h⟩ := bnd_inv h
  refine J.nm et5 ?_
  refine J.istore_n (L' := [(0, .int t5)]) hX 37 rfl (by decide) rfl ?_
  refine J.iload_n hX 38 0 rfl rfl ?_
  refine J.bipush (v := 63) hX 39 rfl (by decide) ?_
  refine J.iand hX 40 rfl ?_
  cases h
  exact J.iret hX hr 41 rfl
def J7_fill_53178_L5 (k0 : Nat) (z0 : Nat) (l1 : Int32) (t2 : Int32) (q9 : Int32 × Mem) : Option ((Int32 × Mem) ⊕ (Mem)) := un2 q9 (fun c1 N1 => if t2 ≤ c1 then (some (.inr N1)) else (sto N1 k0 z0 c1 l1 (fun N2 => bnd (c1 + 1) (fun t3 => some (.inl (t3, N2))))))
def J7_fill_53178 (M : Mem) (k0 : Nat) (z0 : Nat) (l1 : Int32) : Option (Mem) := bnd ((Int32.ofNat z0)) (fun t2 => bd1 (loop (J7_fill_53178_L5 k0 z0 l1 t2) 3000 (0, M)) (fun N3 => some N3))
set_option maxHeartbeats 4000000 in
set_option maxRecDepth 100000 in
theorem J7_fill_53178_L5_ok (hX : Cx p s m args meth c D cA ad n A sa cJ7_fill_53178 4 RJ7 kJ7_fill_53178) {N1 : Mem} {k0 : Nat} {z0 : Nat} {l1 : Int32} {t2 : Int32} {c1 : Int32} (hk0 : k0 < n) (hs0 : sh0 k0 = .inl (0, z0)) {r : (Int32 × Mem) ⊕ (Mem)} (h : J7_fill_53178_L5 k0 z0 l1 t2 (c1, N1) = some r) (hin : ∀ (q0 : Int32) (Mq : Mem), r = .inl (q0, Mq) → JM 0 0 p l e s m args below meth c D cA ad n A 4 out M1 Mq 5 [(0, .ref (ad k0)), (1, .int l1), (2, .int q0), (3, .int t2)] []) (hex0 : ∀  (Mq : Mem), r = .inr Mq → JM 0 0 p l e s m args below meth c D cA ad n A 4 out M1 Mq 20 [] []) : JM 0 0 p l e s m args below meth c D cA ad n A 4 out M1 N1 5 [(0, .ref (ad k0)), (1, .int l1), (2, .int c1), (3, .int t2)] [] := by
  unfold J7_fill_53178_L5 at h
  have h := un2_inv h
  refine J.iload_n hX 5 2 rfl rfl ?_
  refine J.iload_n hX 6 3 rfl rfl ?_
  refine J.icmp_ge (tgt := 20) hX 7 rfl (by decide) (fun b1 => ?_) (fun b1 => ?_)
  · rw [if_pos b1] at h
    refine J.sub (L' := []) [] rfl ?_
    exact hex0 _ (Option.some.inj h).symm
  · rw [if_neg b1] at h
    refine J.aload_n hX 8 0 rfl rfl ?_
    refine J.iload_n hX 9 2 rfl rfl ?_
    refine J.iload_n hX 10 1 rfl rfl ?_
    obtain ⟨N2, eN2, hb, h⟩ := sto_inv h
    refine J.iastN hX 11 k0 hk0 hs0 hb eN2 rfl ?_
    obtain ⟨t3, et3, h⟩ := bnd_inv h
    refine J.iinc (q := 2) (L' := [(2, .int t3), (0, .ref (ad k0)), (1, .int l1), (3, .int t2)]) hX 12 rfl rfl et3 (by decide) rfl ?_
    refine J.goto (tgt := 5) hX 13 rfl (by decide) ?_
    refine J.sub (L' := [(0, .ref (ad k0)), (1, .int l1), (2, .int t3), (3, .int t2)]) [1, 2, 0, 3] rfl ?_
    exact hin _ _ (Option.some.inj h).symm
set_option maxHeartbeats 4000000 in
set_option maxRecDepth 100000 in
theorem mJ7_fill_53178 {l : Launch} {D : va_G} {cA : Nat → ClassId} {ad : Nat → Nat} {n : Nat} {A : Nat → Prop} {sa : Nat → Nat} {M : Mem} {k0 : Nat} {z0 : Nat} {l1 : Int32} {Mf : Mem} (hk0 : k0 < n) (hs0 : sh0 k0 = .inl (0, z0)) (h : J7_fill_53178 M k0 z0 l1 = some Mf) : CT l D cA ad n A sa yJ7_fill_53178 cJ7_fill_53178 4 none 0 0 [.ref (ad k0), .int l1] M (.inl none) Mf := by
  refine CT.of (kt := kJ7_fill_53178) (by decide) kJ7_fill_53178_ok (Nat.le_of_ble_eq_true rfl) ?_
  intro p e s m args below meth c hX hr ht
  unfold J7_fill_53178 at h
  refine J.sub (L' := [(0, .ref (ad k0)), (1, .int l1)]) [0, 1] rfl ?_
  refine J.iconst (v := 0) hX 0 rfl (by decide) ?_
  refine J.istore_n (L' := [(2, .int 0), (0, .ref (ad k0)), (1, .int l1)]) hX 1 rfl (by decide) rfl ?_
  refine J.aload_n hX 2 1 rfl rfl ?_
  refine J.alen (v := Int32.ofNat z0) hX 3 k0 hk0 hs0 rfl rfl ?_
  obtain ⟨t2, et2, h⟩ := bnd_inv h
  refine J.nm et2 ?_
  refine J.istore_n (L' := [(3, .int t2), (2, .int 0), (0, .ref (ad k0)), (1, .int l1)]) hX 4 rfl (by decide) rfl ?_
  refine J.sub (L' := [(0, .ref (ad k0)), (1, .int l1), (2, .int 0), (3, .int t2)]) [2, 3, 1, 0] rfl ?_
  obtain ⟨N3, hlp, h⟩ := bd1_inv h
  suffices hE : JM 0 0 p l e s m args below meth c D cA ad n A 4 (.inl none) Mf N3 20 [] [] by
    exact loop_ok (fun q9 : Int32 × Mem => JM 0 0 p l e s m args below meth c D cA ad n A 4 (.inl none) Mf q9.2 5 [(0, .ref (ad k0)), (1, .int l1), (2, .int q9.1), (3, .int t2)] []) (fun q9 r hB hst hex9 => J7_fill_53178_L5_ok hX hk0 hs0 hB (fun _ _ hr => hst _ hr) (fun _ hr => by cases hex9 _ hr; exact hE)) 3000 _ hlp
  cases h
  exact J.vret hX hr 14 rfl
end G12
