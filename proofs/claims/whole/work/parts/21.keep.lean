def kX1_copied : List (Nat × Instr × Nat) := [(0, .new 10, 3), (3, .dup, 1), (4, .invokespecial 69, 3), (7, .astore_n 1, 1), (8, .aload_n 0, 1), (9, .getfield 9, 3), (12, .iconst 0, 1), (13, .aload_n 1, 1), (14, .getfield 9, 3), (17, .iconst 0, 1), (18, .aload_n 0, 1), (19, .getfield 9, 3), (22, .arraylength, 1), (23, .invokestatic 70, 3), (26, .aload_n 0, 1), (27, .getfield 15, 3), (30, .iconst 0, 1), (31, .aload_n 1, 1), (32, .getfield 15, 3), (35, .iconst 0, 1), (36, .aload_n 0, 1), (37, .getfield 15, 3), (40, .arraylength, 1), (41, .invokestatic 70, 3), (44, .aload_n 0, 1), (45, .getfield 18, 3), (48, .iconst 0, 1), (49, .aload_n 1, 1), (50, .getfield 18, 3), (53, .iconst 0, 1), (54, .aload_n 0, 1), (55, .getfield 18, 3), (58, .arraylength, 1), (59, .invokestatic 70, 3), (62, .aload_n 0, 1), (63, .getfield 21, 3), (66, .iconst 0, 1), (67, .aload_n 1, 1), (68, .getfield 21, 3), (71, .iconst 0, 1), (72, .aload_n 0, 1), (73, .getfield 21, 3), (76, .arraylength, 1), (77, .invokestatic 70, 3), (80, .aload_n 1, 1), (81, .areturn, 1)]
set_option maxRecDepth 100000 in
theorem kX1_copied_ok : ∀ (i : Nat) (q : Nat × Instr × Nat), kX1_copied[i]? = some q → decode cX1_copied q.1 = .ok q.2 := tbl_ok (by decide +kernel)
def X1_copied_tail (M : Mem) (o k9 : Nat) : Option Mem := cpy M (o + 1) 192 (k9 + 1) 192 (Int32.ofNat 192) 0 (fun N1 => cpy N1 (o + 2) 192 (k9 + 2) 192 (Int32.ofNat 192) 0 (fun N2 => cpy N2 (o + 3) 24 (k9 + 3) 24 (Int32.ofNat 24) 0 (fun N3 => cpy N3 (o + 4) 24 (k9 + 4) 24 (Int32.ofNat 24) 0 (fun N4 => some N4))))
section CP
variable {p : Program} {l : Launch} {e : Env} {R : Room} {s : State} {m : MethodId} {args : Array Value} {below : List Frame} {meth : Method} {c : Code} {D : va_G} {cA : Nat → ClassId} {ad : Nat → Nat} {n : Nat} {A : Nat → Prop} {sa : Nat → Nat} {cells slots : Nat} {Q : State → Prop}
set_option maxHeartbeats 4000000 in
set_option maxRecDepth 100000 in
theorem copied_tail (hX : Cx p s m args meth c D cA ad n A sa cX1_copied 2 RX1 kX1_copied) {M Mf : Mem} {o k9 : Nat} (ho : DrOk n o) (h9 : DrOk n k9) (h : X1_copied_tail M o k9 = some Mf) (hfr : 1 ≤ R.frames) (hlo : 40 ≤ R.locals) (hfin : J p l e R s m args below meth c D cA ad n A 2 cells slots Q Mf 81 [(1, .ref (ad k9)), (0, .ref (ad o))] [.ref (ad k9)]) : J p l e R s m args below meth c D cA ad n A 2 cells slots Q M 8 [(1, .ref (ad k9)), (0, .ref (ad o))] [] := by
  unfold X1_copied_tail at h
  refine J.aload_n hX 4 1 rfl rfl ?_
  refine J.getR hX 5 o 1 ho.lt0 ho.s0 rfl in_wsX10 0 (by decide) w_33 rfl rfl ?_
  refine J.iconst (v := 0) hX 6 rfl (by decide) ?_
  refine J.aload_n hX 7 0 rfl rfl ?_
  refine J.getR hX 8 k9 1 h9.lt0 h9.s0 rfl in_wsX10 0 (by decide) w_33 rfl rfl ?_
  refine J.iconst (v := 0) hX 9 rfl (by decide) ?_
  refine J.aload_n hX 10 1 rfl rfl ?_
  refine J.getR hX 11 o 1 ho.lt0 ho.s0 rfl in_wsX10 0 (by decide) w_33 rfl rfl ?_
  refine J.alen (v := Int32.ofNat 192) hX 12 (o + 1) ho.lt1 ho.s1 rfl rfl ?_
  obtain ⟨N1, eN1, hb, h⟩ := cpy_inv h
  refine J.copy hX 13 (o + 1) (k9 + 1) ho.lt1 ho.s1 h9.lt1 h9.s1 hb eN1 rfl w_370 w_305 w_306 w_307 hfr (Nat.le_trans (by decide +kernel) hlo) ?_
  refine J.aload_n hX 14 1 rfl rfl ?_
  refine J.getR hX 15 o 1 ho.lt0 ho.s0 rfl in_wsX10 1 (by decide) w_34 rfl rfl ?_
  refine J.iconst (v := 0) hX 16 rfl (by decide) ?_
  refine J.aload_n hX 17 0 rfl rfl ?_
  refine J.getR hX 18 k9 1 h9.lt0 h9.s0 rfl in_wsX10 1 (by decide) w_34 rfl rfl ?_
  refine J.iconst (v := 0) hX 19 rfl (by decide) ?_
  refine J.aload_n hX 20 1 rfl rfl ?_
  refine J.getR hX 21 o 1 ho.lt0 ho.s0 rfl in_wsX10 1 (by decide) w_34 rfl rfl ?_
  refine J.alen (v := Int32.ofNat 192) hX 22 (o + 2) ho.lt2 ho.s2 rfl rfl ?_
  obtain ⟨N2, eN2, hb, h⟩ := cpy_inv h
  refine J.copy hX 23 (o + 2) (k9 + 2) ho.lt2 ho.s2 h9.lt2 h9.s2 hb eN2 rfl w_370 w_305 w_306 w_307 hfr (Nat.le_trans (by decide +kernel) hlo) ?_
  refine J.aload_n hX 24 1 rfl rfl ?_
  refine J.getR hX 25 o 1 ho.lt0 ho.s0 rfl in_wsX10 2 (by decide) w_35 rfl rfl ?_
  refine J.iconst (v := 0) hX 26 rfl (by decide) ?_
  refine J.aload_n hX 27 0 rfl rfl ?_
  refine J.getR hX 28 k9 1 h9.lt0 h9.s0 rfl in_wsX10 2 (by decide) w_35 rfl rfl ?_
  refine J.iconst (v := 0) hX 29 rfl (by decide) ?_
  refine J.aload_n hX 30 1 rfl rfl ?_
  refine J.getR hX 31 o 1 ho.lt0 ho.s0 rfl in_wsX10 2 (by decide) w_35 rfl rfl ?_
  refine J.alen (v := Int32.ofNat 24) hX 32 (o + 3) ho.lt3 ho.s3 rfl rfl ?_
  obtain ⟨N3, eN3, hb, h⟩ := cpy_inv h
  refine J.copy hX 33 (o + 3) (k9 + 3) ho.lt3 ho.s3 h9.lt3 h9.s3 hb eN3 rfl w_370 w_305 w_306 w_307 hfr (Nat.le_trans (by decide +kernel) hlo) ?_
  refine J.aload_n hX 34 1 rfl rfl ?_
  refine J.getR hX 35 o 1 ho.lt0 ho.s0 rfl in_wsX10 3 (by decide) w_36 rfl rfl ?_
  refine J.iconst (v := 0) hX 36 rfl (by decide) ?_
  refine J.aload_n hX 37 0 rfl rfl ?_
  refine J.getR hX 38 k9 1 h9.lt0 h9.s0 rfl in_wsX10 3 (by decide) w_36 rfl rfl ?_
  refine J.iconst (v := 0) hX 39 rfl (by decide) ?_
  refine J.aload_n hX 40 1 rfl rfl ?_
  refine J.getR hX 41 o 1 ho.lt0 ho.s0 rfl in_wsX10 3 (by decide) w_36 rfl rfl ?_
  refine J.alen (v := Int32.ofNat 24) hX 42 (o + 4) ho.lt4 ho.s4 rfl rfl ?_
  obtain ⟨N4, eN4, hb, h⟩ := cpy_inv h
  refine J.copy hX 43 (o + 4) (k9 + 4) ho.lt4 ho.s4 h9.lt4 h9.s4 hb eN4 rfl w_370 w_305 w_306 w_307 hfr (Nat.le_trans (by decide +kernel) hlo) ?_
  refine J.aload_n hX 44 0 rfl rfl ?_
  cases h
  exact hfin
end CP
/-- the world with five cells more: a drawing of zeros -/
def M0 (n : Nat) (M : Mem) : Mem := fun k => if k < n then M k else fun _ => 0
def ad5 (ad : Nat → Nat) (n q : Nat) (u : Nat → Nat) : Nat → Nat := fun k => if k < n then ad k else [q, u 1, u 2, u 3, u 4].getD (k - n) 0
theorem Wd_ext {cA : Nat → ClassId} {ad ad' : Nat → Nat} {n : Nat} {M M' : Mem} (ha : ∀ k, k < n → ad' k = ad k) (hM : ∀ k, k < n → M' k = M k) (hf : ∀ k, k < n → ∀ ci fs, sh0 k = .inr (ci, fs) → ∀ j, some j ∈ fs → j < n) (hq : ∀ k, k < n → ∀ t len, 3 ≤ t → sh0 k = .inl (t, len) → ∀ i, dec ad' (M k i) = dec ad (M k i)) : Wd cA ad n M = Wd cA ad' n M' := by
  unfold Wd
  apply List.map_congr_left
  intro k hk
  have hk : k < n := List.mem_range.mp hk
  rw [ha k hk, hM k hk]
  congr 1
  cases hs : sh0 k with
  | inl a =>
    obtain ⟨t, len⟩ := a
    match t, hs with
    | 0, _ => rfl
    | 1, _ => rfl
    | 2, _ => rfl
    | 3, hs =>
      show Sum.inl (cA 3, len, _) = Sum.inl (cA 3, len, _)
      rw [show (fun i => dec ad' (M k i)) = (fun i => dec ad (M k i)) from funext fun i => hq k hk 3 len (by omega) hs i]
    | t + 4, hs =>
      show Sum.inl (cA 3, len, _) = Sum.inl (cA 3, len, _)
      rw [show (fun i => dec ad' (M k i)) = (fun i => dec ad (M k i)) from funext fun i => hq k hk (t + 4) len (by omega) hs i]
  | inr a =>
    obtain ⟨ci, fs⟩ := a
    show Sum.inr (ci, _) = Sum.inr (ci, _)
    have hj := hf k hk ci fs hs
    have key : ∀ (l : List (Option Nat)) (i : Nat), (∀ j, some j ∈ l → j < n) → fl ad (M k) i l = fl ad' (M k) i l := by
      intro l
      induction l with
      | nil => intro i _; rfl
      | cons x t ih =>
        intro i hx
        cases x with
        | none => simp only [fl]; rw [ih (i + 1) (fun j hj => hx j (List.mem_cons_of_mem _ hj))]
        | some j => simp only [fl]; rw [ih (i + 1) (fun j hj => hx j (List.mem_cons_of_mem _ hj)), ha j (hx j List.mem_cons_self)]
    rw [key fs 0 hj]
