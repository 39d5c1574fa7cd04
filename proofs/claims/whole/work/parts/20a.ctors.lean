/-! THE CONSTRUCTORS: each makes its rows; the world's list has the cells in the order of their numbers. -/
theorem tdec {k : List (Nat × Instr × Nat)} {cc : ByteArray} (h : ∀ (i : Nat) (q : Nat × Instr × Nat), k[i]? = some q → decode cc q.1 = .ok q.2) {i pc len : Nat} {ins : Instr} (hk : k[i]? = some (pc, ins, len)) : decode cc pc = .ok (ins, len) := by
  have h1 := h i (pc, ins, len) hk
  dsimp only at h1
  exact h1
theorem upd_fill (v : Int32) (f : Nat → Int32) (i : Nat) : upd (fun j => if j < i then v else f j) i v = (fun j => if j < i + 1 then v else f j) := by
  funext j
  unfold upd
  by_cases h1 : j = i
  · rw [if_pos h1]
    exact (if_pos (show j < i + 1 by omega)).symm
  · rw [if_neg h1]
    by_cases h2 : j < i
    · exact (if_pos h2).trans (if_pos (show j < i + 1 by omega)).symm
    · exact (if_neg h2).trans (if_neg (show ¬ j < i + 1 by omega)).symm
theorem cA_same {s : State} {D : va_G} {cA : Nat → ClassId} {c9 : ClassId} {ty : FieldType} (h0 : va_K D cls6 (ty4 cA) s) (h : va_K D cls6 (ty4 cA ++ [(c9, ty)]) s) (k : Nat) (hk : (ty4 cA)[k]? = some (cA k, ty)) (hr : ∀ c, va_RA s c ty → s.vm.findClass ("[" ++ ty.toString) = some c) : c9 = cA k := by
  have h1 := hr _ (h0.2 k _ hk).2
  have h2 := hr _ (h.2 4 (c9, ty) rfl).2
  rw [h1] at h2
  exact (Option.some.inj h2).symm
theorem fill0 {N : Nat} (cA : ClassId) : vp_cell cA (N, .inl (fun _ => 0)) = arrV cA N (fun _ => defaultValue .int) := rfl
theorem fill0z {N : Nat} (cA : ClassId) : vp_cell cA (N, .inl (fun _ => 0)) = arrV cA N (fun _ => defaultValue .boolean) := rfl
theorem fill0l {N : Nat} (cA : ClassId) : vp_cell cA (N, .inr (.inl (fun _ => 0))) = arrV cA N (fun _ => defaultValue .long) := rfl
section CN
variable {p : Program} {l : Launch} {e : Env} {R : Room} {s : State} {m : MethodId} {args : Array Value} {below : List Frame} {meth : Method} {c : Code} {H : Heap} {locs : List Loc} {cells slots : Nat} {Q : State → Prop} {cc : ByteArray} {pc : Nat} {ls : Array Slot} {rest : List Value} {D : va_G} {A : Nat → Prop} {cA : Nat → ClassId} {ws : va_W} {H0 : Heap}
theorem new_i (hexec : p.tables.exec = Jvm.exec) (hb : c.code = cc) (harr : (Cond.arrayClass .int).before args s = true) (hK : va_K D cls6 (ty4 cA) s) (hP : va_P D cls6 ws H) (hD : va_D A ws) (hS : va_S A H0 H locs) (hA : ∀ q, H0.size ≤ q → A q) {n : Int32} {N' : Nat} (hn : ¬ n < 0) (hN : n.toNatClampNeg = N') (hbytes : N' * componentBytes .int ≤ 536870912) (hcells : cells + 1 ≤ R.cells) (hslots : slots + N' ≤ R.slots) (hdg : decode cc pc = .ok (.newarray .int, 2))
    (kk : ∀ (q : Nat) (H1 : Heap), va_P D cls6 (ws ++ [(q, .inl (cA 0, N', .inl (fun _ => 0)))]) H1 → va_D A (ws ++ [(q, .inl (cA 0, N', .inl (fun _ => 0)))]) → va_S A H0 H1 locs → W p l e R s m args below meth c H1 locs (cells + 1) (slots + N') Q (F0 m (pc + 2) ls (.ref q :: rest))) : W p l e R s m args below meth c H locs cells slots Q (F0 m pc ls (.int n :: rest)) := by
  refine va_newa (atype := .int) hexec hb harr rfl hK hP hD hS hA (a0 := (N', .inl (fun _ => 0))) (fun c9 => fill0 c9) hn hN hbytes hcells hslots hdg (fun q c9 H1 hK1 hP1 hD1 hS1 => ?_)
  obtain rfl := cA_same hK hK1 0 rfl (fun _ h => h)
  exact kk q H1 hP1 hD1 hS1
theorem new_z (hexec : p.tables.exec = Jvm.exec) (hb : c.code = cc) (harr : (Cond.arrayClass .boolean).before args s = true) (hK : va_K D cls6 (ty4 cA) s) (hP : va_P D cls6 ws H) (hD : va_D A ws) (hS : va_S A H0 H locs) (hA : ∀ q, H0.size ≤ q → A q) {n : Int32} {N' : Nat} (hn : ¬ n < 0) (hN : n.toNatClampNeg = N') (hbytes : N' * componentBytes .boolean ≤ 536870912) (hcells : cells + 1 ≤ R.cells) (hslots : slots + N' ≤ R.slots) (hdg : decode cc pc = .ok (.newarray .boolean, 2))
    (kk : ∀ (q : Nat) (H1 : Heap), va_P D cls6 (ws ++ [(q, .inl (cA 1, N', .inl (fun _ => 0)))]) H1 → va_D A (ws ++ [(q, .inl (cA 1, N', .inl (fun _ => 0)))]) → va_S A H0 H1 locs → W p l e R s m args below meth c H1 locs (cells + 1) (slots + N') Q (F0 m (pc + 2) ls (.ref q :: rest))) : W p l e R s m args below meth c H locs cells slots Q (F0 m pc ls (.int n :: rest)) := by
  refine va_newa (atype := .boolean) hexec hb harr rfl hK hP hD hS hA (a0 := (N', .inl (fun _ => 0))) (fun c9 => fill0z c9) hn hN hbytes hcells hslots hdg (fun q c9 H1 hK1 hP1 hD1 hS1 => ?_)
  obtain rfl := cA_same hK hK1 1 rfl (fun _ h => h)
  exact kk q H1 hP1 hD1 hS1
theorem new_l (hexec : p.tables.exec = Jvm.exec) (hb : c.code = cc) (harr : (Cond.arrayClass .long).before args s = true) (hK : va_K D cls6 (ty4 cA) s) (hP : va_P D cls6 ws H) (hD : va_D A ws) (hS : va_S A H0 H locs) (hA : ∀ q, H0.size ≤ q → A q) {n : Int32} {N' : Nat} (hn : ¬ n < 0) (hN : n.toNatClampNeg = N') (hbytes : N' * componentBytes .long ≤ 536870912) (hcells : cells + 1 ≤ R.cells) (hslots : slots + N' ≤ R.slots) (hdg : decode cc pc = .ok (.newarray .long, 2))
    (kk : ∀ (q : Nat) (H1 : Heap), va_P D cls6 (ws ++ [(q, .inl (cA 2, N', .inr (.inl (fun _ => 0))))]) H1 → va_D A (ws ++ [(q, .inl (cA 2, N', .inr (.inl (fun _ => 0))))]) → va_S A H0 H1 locs → W p l e R s m args below meth c H1 locs (cells + 1) (slots + N') Q (F0 m (pc + 2) ls (.ref q :: rest))) : W p l e R s m args below meth c H locs cells slots Q (F0 m pc ls (.int n :: rest)) := by
  refine va_newa (atype := .long) hexec hb harr rfl hK hP hD hS hA (a0 := (N', .inr (.inl (fun _ => 0)))) (fun c9 => fill0l c9) hn hN hbytes hcells hslots hdg (fun q c9 H1 hK1 hP1 hD1 hS1 => ?_)
  obtain rfl := cA_same hK hK1 2 rfl (fun _ h => h)
  exact kk q H1 hP1 hD1 hS1
theorem new_q (hexec : p.tables.exec = Jvm.exec) (hb : c.code = cc) {own : String} {index : Nat} (hown : s.vm.findClass own = some m.cls) (hclink : (Cond.classLink own index RX1).before args s = true) (hover : va_AO RX1 s) (hK : va_K D cls6 (ty4 cA) s) (hP : va_P D cls6 ws H) (hD : va_D A ws) (hS : va_S A H0 H locs) (hA : ∀ q, H0.size ≤ q → A q) {n : Int32} {N' : Nat} (hn : ¬ n < 0) (hN : n.toNatClampNeg = N') (hbytes : N' * 4 ≤ 536870912) (hcells : cells + 1 ≤ R.cells) (hslots : slots + N' ≤ R.slots) (hdg : decode cc pc = .ok (.anewarray index, 3))
    (kk : ∀ (q : Nat) (H1 : Heap), va_P D cls6 (ws ++ [(q, .inl (cA 3, N', .inr (.inr (.inr (.inr (fun _ => none))))))]) H1 → va_D A (ws ++ [(q, .inl (cA 3, N', .inr (.inr (.inr (.inr (fun _ => none))))))]) → va_S A H0 H1 locs → W p l e R s m args below meth c H1 locs (cells + 1) (slots + N') Q (F0 m (pc + 3) ls (.ref q :: rest))) : W p l e R s m args below meth c H locs cells slots Q (F0 m pc ls (.int n :: rest)) := by
  refine va_newq hexec hb hown hclink hover hK hP hD hS hA hn hN hbytes hcells hslots hdg (fun q c9 H1 hK1 hP1 hD1 hS1 => ?_)
  obtain rfl := cA_same hK hK1 3 rfl (fun c h => by obtain ⟨_, _, _, _, _, h4⟩ := h; exact h4)
  exact kk q H1 hP1 hD1 hS1
end CN
theorem c_blind {av : List Value} {D : va_G} {cA : Nat → ClassId} {sz : Nat} {w : va_W} : FrameBlind (va_Pc av (fun U => U.heap.size = sz ∧ va_P D cls6 w U.heap ∧ va_K D cls6 (ty4 cA) U ∧ va_D (fun _ => True) w)) := fun a U g mk q => by
  obtain ⟨q0, q1, qP, qK, qD⟩ := q
  exact ⟨q0, q1, qP, va_K.moved (u := U) (U := U.calling g mk a) (Vm.Alike.refl U.vm) qK, qD⟩
theorem c_blindA {av : List Value} {D : va_G} {cA : Nat → ClassId} {sz : Nat} {w : va_W} : FrameBlind (va_Pc av (fun U => U.heap.size = sz ∧ va_P D cls6 w U.heap ∧ va_K D cls6 (ty4 cA) U ∧ va_D (fun _ => True) w ∧ va_AO RX1 U)) := fun a U g mk q => by
  obtain ⟨q0, q1, qP, qK, qD, qA⟩ := q
  exact ⟨q0, q1, qP, va_K.moved (u := U) (U := U.calling g mk a) (Vm.Alike.refl U.vm) qK, qD, va_AO.moved (u := U) (U := U.calling g mk a) (Vm.Alike.refl U.vm) qA⟩
section FL
variable {p : Program} {l : Launch} {e : Env} {R : Room} {s : State} {m : MethodId} {args : Array Value} {below : List Frame} {meth : Method} {c : Code} {D : va_G} {A : Nat → Prop} {cA : Nat → ClassId}
theorem c_fill_loop {h0 N : Nat} {v : Int32} {f : Nat → Int32} {Q : State → Prop} (hx : p.tables.exec = Jvm.exec) (hb : c.code = cJ7_fill_53178) (hN : N < 2 ^ 31) (hK : va_K D cls6 (ty4 cA) s)
    (hE : ∀ (H : Heap) (locs : List Loc) (ls : Array Slot), va_P D cls6 [(h0, .inl (cA 0, N, .inl (fun j => if j < N then v else f j)))] H → va_S A s.heap H locs → W p l e R s m args below meth c H locs 0 0 Q (F0 m 20 ls [])) :
    ∀ (k i : Nat), i + k = N → ∀ (H : Heap) (locs : List Loc) (ls : Array Slot), va_P D cls6 [(h0, .inl (cA 0, N, .inl (fun j => if j < i then v else f j)))] H → va_D A [(h0, .inl (cA 0, N, .inl (fun j => if j < i then v else f j)))] → va_S A s.heap H locs → lv_has ls 4 [(3, .int (nI N)), (2, .int (nI i)), (0, .ref h0), (1, .int v)] → W p l e R s m args below meth c H locs 0 0 Q (F0 m 5 ls []) := by
  intro k
  induction k with
  | zero =>
    intro i hi H locs ls hP hD hS hl
    obtain rfl : i = N := by omega
    refine lv_iload_n hx hb (tdec kJ7_fill_53178_ok (i := 5) rfl) rfl (lv_at hl 1 rfl) ?_
    refine lv_iload_n hx hb (tdec kJ7_fill_53178_ok (i := 6) rfl) rfl (lv_at hl 0 rfl) ?_
    refine lv_icmp_ge (tgt := 20) hx hb (tdec kJ7_fill_53178_ok (i := 7) rfl) (by decide) (fun _ => hE H locs ls hP hS) (fun h => absurd (nI_le (Nat.le_refl _) hN) h)
  | succ k ih =>
    intro i hi H locs ls hP hD hS hl
    have hiN : i < N := by omega
    refine lv_iload_n hx hb (tdec kJ7_fill_53178_ok (i := 5) rfl) rfl (lv_at hl 1 rfl) ?_
    refine lv_iload_n hx hb (tdec kJ7_fill_53178_ok (i := 6) rfl) rfl (lv_at hl 0 rfl) ?_
    refine lv_icmp_ge (tgt := 20) hx hb (tdec kJ7_fill_53178_ok (i := 7) rfl) (by decide) (fun h => absurd h (nI_ge hiN hN)) (fun _ => ?_)
    refine lv_aload_n hx hb (tdec kJ7_fill_53178_ok (i := 8) rfl) rfl (lv_at hl 2 rfl) ?_
    refine lv_iload_n hx hb (tdec kJ7_fill_53178_ok (i := 9) rfl) rfl (lv_at hl 1 rfl) ?_
    refine lv_iload_n hx hb (tdec kJ7_fill_53178_ok (i := 10) rfl) rfl (lv_at hl 3 rfl) ?_
    refine va_iast hx hb hK hP hD hS 0 0 rfl rfl (vp_in_nI hiN hN) (tdec kJ7_fill_53178_ok (i := 11) rfl) (fun H locs hP hD hS => ?_)
    rw [nI_clamp (by omega), upd_fill] at hP hD
    refine lv_iinc (v := nI (i + 1)) (lv' := [(2, .int (nI (i + 1))), (3, .int (nI N)), (0, .ref h0), (1, .int v)]) hx hb (tdec kJ7_fill_53178_ok (i := 12) rfl) hl (k := 1) rfl (by rw [nI_succ]; rfl) (by decide) rfl (fun ls hl => ?_)
    refine lv_goto (tgt := 5) hx hb (tdec kJ7_fill_53178_ok (i := 13) rfl) (by decide) ?_
    exact ih (i + 1) (by omega) H locs ls hP hD hS (lv_sub hl [1, 0, 2, 3] rfl)
end FL
set_option maxHeartbeats 4000000 in
set_option maxRecDepth 100000 in
theorem c_fill (l : Launch) (D : va_G) (cA : Nat → ClassId) (h0 sz N : Nat) (hN : N < 2 ^ 31) (v : Int32) (f : Nat → Int32) : Met l yJ7_fill_53178 (Cond.code yJ7_fill_53178 cJ7_fill_53178 4 none :: wsL_law) { frames := 0, cells := 0, slots := 0, locals := 0 } (va_Pc [.ref h0, .int v] (fun U => U.heap.size = sz ∧ va_P D cls6 [(h0, .inl (cA 0, N, .inl f))] U.heap ∧ va_K D cls6 (ty4 cA) U ∧ va_D (fun _ => True) [(h0, .inl (cA 0, N, .inl f))])) (va_Qv (fun _ : Unit => True) (fun _ t => va_P D cls6 [(h0, .inl (cA 0, N, .inl (fun j => if j < N then v else f j)))] t.heap ∧ va_D (va_A [(h0, .inl (cA 0, N, .inl f))] sz) [(h0, .inl (cA 0, N, .inl (fun j => if j < N then v else f j)))]) (va_A [(h0, .inl (cA 0, N, .inl f))] sz)) 0 0 (va_A [(h0, .inl (cA 0, N, .inl f))] sz) := by
  refine Met.ofW (cc := cJ7_fill_53178) (maxL := 4) (ret := none) (by decide) rfl ?_
  intro p e s m args below meth c s₁ B hml hv
  obtain ⟨rfl, hsz, hP, hK, hD0⟩ := hv
  have hx := B.exec
  have hb := B.bytes
  have hr := B.returns
  have hlocks := B.notSynchronized
  subst hsz
  have hD := hD0.self (sz := s.heap.size)
  generalize hAe : va_A [(h0, .inl (cA 0, N, .inl f))] s.heap.size = A at hD ⊢
  have hS : va_S A s.heap s.heap [] := va_S.rf
  have hl := lv_entry ([.ref h0, .int v]) (n := 4) (Nat.le_of_ble_eq_true rfl)
  rw [lg_entry_eq]
  generalize (lg_sl ([.ref h0, .int v]) ++ List.replicate (4 - (lg_sl ([.ref h0, .int v])).length) Slot.unset).toArray = ls at hl ⊢
  have hl : lv_has ls 4 [(0, .ref h0), (1, .int v)] := hl
  have hDN : ∀ g : Nat → Int32, va_D A [(h0, .inl (cA 0, N, .inl g))] := fun g => hD.set (p := 0) (a := h0) (e0 := .inl (cA 0, N, .inl f)) (e := .inl (cA 0, N, .inl g)) rfl
  refine lv_iconst (v := 0) hx hb (tdec kJ7_fill_53178_ok (i := 0) rfl) (by decide) ?_
  refine lv_istore_n (lv' := [(2, .int 0), (0, .ref h0), (1, .int v)]) hx hb (tdec kJ7_fill_53178_ok (i := 1) rfl) rfl hl (by decide) rfl (fun ls hl => ?_)
  refine lv_aload_n hx hb (tdec kJ7_fill_53178_ok (i := 2) rfl) rfl (lv_at hl 1 rfl) ?_
  refine va_alen (v := nI N) hx hb hK hP 0 0 (x := (N, .inl f)) rfl rfl rfl (tdec kJ7_fill_53178_ok (i := 3) rfl) ?_
  refine lv_istore_n (lv' := [(3, .int (nI N)), (2, .int 0), (0, .ref h0), (1, .int v)]) hx hb (tdec kJ7_fill_53178_ok (i := 4) rfl) rfl hl (by decide) rfl (fun ls hl => ?_)
  refine c_fill_loop (A := A) (f := f) (v := v) hx hb hN hK (fun H locs ls hP hS => ?_) N 0 (by omega) s.heap [] ls (by simpa using hP) (hDN _) hS hl
  exact W.vret hx hb hr (fun t ht hW => ⟨⟨(), rfl, trivial, by rw [ht]; exact hP, hDN _⟩, hS.F ht⟩) hS.2.2 (tdec kJ7_fill_53178_ok (i := 14) rfl)
