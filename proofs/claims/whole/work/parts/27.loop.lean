def R_law : String := "QuiltDeskLaw"
def lw_P (b : Addr) (xs : List Int32) (args : Array Value) (s : State) : Prop := args = #[.ref b] ∧ s.IntsAt b xs ∧ xs.length ≤ 2560 ∧ (Jvm.Cond.and given_1 narrow_1).before args s = true
def lw_Q (_ : Array Value) (s : State) (o : Outcome) (t : State) : Prop := o = .returned (some (.int 1)) ∧ Framed s o t [] 601024 7293034
def lw_Z (below : List Frame) (a : Array Value) (s : State) : State → Prop := fun t => ∃ o, t.status = .running ∧ Ended t below o ∧ lw_Q a s o t
/-- the law's own end, with 1 on the stack, nothing written that was there before, its room as the claim has it -/
theorem lw_ret {p : Program} {l : Launch} {e : Env} {s : State} {m : MethodId} {below : List Frame} {meth : Method} {c : Code} {b : Nat} (hx : p.tables.exec = Jvm.exec) (hb : c.code = code) (hr : meth.sig.returnType = ret) (hlocks : meth.locks = false) {pc : Nat} {H : Heap} {ls : Array Slot} (hdg : decode code pc = .ok (.ireturn, 1)) : W p l e room_1 s m #[Value.ref b] below meth c H [] 601024 7293034 (lw_Z below #[Value.ref b] s) (F0 m pc ls [.int 1]) := by
  intro T hT X
  obtain ⟨fs, hret, hrun, hended, hW, hframe⟩ := X.leave (v := some (.int 1)) (hlocks := hlocks) (fun h => by rw [hr] at h; cases h)
  have hmeth' : T.vm.method? m = some meth := X.method'
  refine ⟨T.setFrames fs, ?_, .returned (some (.int 1)), hrun, hended, rfl, ⟨_, rfl⟩, hW, hframe⟩
  jvm_step X.here [X.here.top, hx, hb, hdg, hmeth', hr, ret, narrow_b1]
  (try refine ⟨rfl, ?_⟩); (try refine ⟨rfl, ?_⟩)
  first | (intro acts; rw [hret _ acts rfl rfl rfl]) | rw [hret _ _ rfl rfl rfl]
  exact Steps.refl _
/-- what holds at the law's entry: the machine, the code, the tables' words (any of lw_tbl by 'hts w (by decide +kernel)'), the script of L ints xs at the cell b, what the Statement gives of the start (any of its parts by flat_of_before) -/
def lw_At (p : Program) (s : State) (m : MethodId) (meth : Method) (c : Code) (b L : Nat) (xs : Nat → Int32) : Prop :=
  p.tables.exec = Jvm.exec ∧ c.code = code ∧ meth.sig.returnType = ret ∧ c.maxLocals = 7 ∧ s.vm.findClass R_law = some m.cls ∧ (∀ w ∈ lw_tbl, w.before #[Value.ref b] s = true) ∧ va_X b L xs s s.heap ∧ b < s.heap.size ∧ meth.locks = false ∧ (Jvm.Cond.and given_1 narrow_1).before #[Value.ref b] s = true
def kc_head : List (Nat × Instr × Nat) := [(23, .iload 4, 2), (25, .aload_n 0, 1), (26, .arraylength, 1), (27, .iconst 5, 1), (28, .isub, 1), (29, .if_icmp .gt 1087, 3), (32, .aload_n 0, 1), (33, .iload 4, 2), (35, .iaload, 1), (36, .bipush 31, 2), (38, .iand, 1), (39, .tableswitch 1071 0 16 #[81, 153, 233, 296, 309, 322, 378, 391, 459, 503, 595, 675, 743, 811, 867, 935, 1015], 81), (1110, .iinc 4 5, 3), (1113, .goto (-1090), 3), (1116, .iconst 1, 1), (1117, .ireturn, 1)]
set_option maxRecDepth 100000 in
theorem kc_head_ok : ∀ (i : Nat) (q : Nat × Instr × Nat), kc_head[i]? = some q → decode code q.1 = .ok q.2 := tbl_ok (by decide +kernel)
theorem and31 (x : Int32) : ∃ c : Nat, c < 32 ∧ x &&& 31 = nI c := by
  refine ⟨(x.toBitVec &&& 31#32).toNat, ?_, ?_⟩
  · rw [BitVec.toNat_and]
    exact Nat.lt_of_le_of_lt Nat.and_le_right (by decide)
  · apply Int32.toBitVec_inj.mp
    rw [Int32.toBitVec_and]
    show x.toBitVec &&& 31#32 = BitVec.ofNat 32 _
    rw [BitVec.ofNat_toNat, BitVec.setWidth_eq]
theorem St_dflt {c n : Nat} {M M2 : Mem} {a1 a2 a3 a4 : Int32} {g : Nat} (h : 17 ≤ c) (hs : St c n M a1 a2 a3 a4 g M2) : g = 0 ∧ M2 = M := by
  obtain ⟨k, rfl⟩ : ∃ k, c = k + 17 := ⟨c - 17, by omega⟩
  exact hs
theorem subI {x y : Int32} (h1 : -2147483648 ≤ x.toInt - y.toInt) (h2 : x.toInt - y.toInt < 2147483648) : (x - y).toInt = x.toInt - y.toInt := by
  rw [Int32.toInt_sub]
  exact Int.bmod_eq_of_le (by omega) (by omega)
set_option maxHeartbeats 4000000 in
set_option maxRecDepth 100000 in
/-- THE LAW's LOOP: where the calls' steps hold, it comes to its end with true -/
theorem law_loop {p : Program} {l : Launch} {e : Env} {s : State} {m : MethodId} {below : List Frame} {meth : Method} {c : Code} {D : va_G} {cA : Nat → ClassId} {A : Nat → Prop} {sa : Nat → Nat} {b Ls : Nat} {xs : Nat → Int32} {INV : Nat → Mem → Prop} (hl : l.stackTraces = false) (hr : meth.sig.returnType = ret) (hsc : Sc A s b Ls xs) (hL : Ls ≤ 2560) (hAs : ∀ q, A q → s.heap.size ≤ q)
    (hstep : ∀ (n : Nat) (M : Mem) (c : Nat) (a1 a2 a3 a4 : Int32), c < 32 → INV n M → ∃ (g : Nat) (M2 : Mem), St c n M a1 a2 a3 a4 g M2 ∧ INV (n + g) M2) :
    ∀ (f i n : Nat) (M : Mem) (ad : Nat → Nat) (cells slots : Nat), i ≤ Ls → Ls + 1 ≤ i + 5 * f → INV n M → Cx p s m #[Value.ref b] meth c D cA ad n A sa code 7 RL kc_head → cells + 5 * f ≤ 601024 → slots + 436 * f ≤ 7293034 →
      J p l e room_1 s m #[Value.ref b] below meth c D cA ad n A 7 cells slots (lw_Z below #[Value.ref b] s) M 23 [(0, .ref b), (1, .ref (ad 0)), (2, .ref (ad 27)), (3, .ref (ad 48)), (4, .int (nI i))] [] := by
  intro f
  induction f with
  | zero => intro i n M ad cells slots h1 h2; exact absurd h2 (by omega)
  | succ f ih =>
    intro i n M ad cells slots hi hf hinv hX hcl hsl
    refine J.iload hX 0 4 rfl rfl ?_
    refine J.aload_n hX 1 0 rfl rfl ?_
    refine J.slen hX hsc 2 rfl ?_
    refine J.iconst (v := 5) hX 3 rfl (by decide) ?_
    refine J.isub hX 4 rfl ?_
    have hsub : (nI Ls - 5).toInt = (Ls : Int) - 5 := by
      have h5 : (5 : Int32).toInt = 5 := by decide
      rw [subI (by rw [nI_toInt (by omega), h5]; omega) (by rw [nI_toInt (by omega), h5]; omega), nI_toInt (by omega), h5]
    refine J.icmp_gt (tgt := 1116) hX 5 rfl (by decide) (fun b1 => ?_) (fun b1 => ?_)
    · refine J.iconst (v := 1) hX 14 rfl (by decide) ?_
      intro H locs ls hP hS hL
      refine va_forget (fun q hq => hAs _ (hS.2.2 q hq)) ?_
      refine W.widen (k := 601024) (n := 7293034) (by omega) (by omega) ?_
      exact lw_ret hX.ex hX.by hr hX.lk (hX.dec (i := 15) rfl)
    · have hi5 : i + 5 ≤ Ls := by
        rw [Int32.lt_iff_toInt_lt, hsub, nI_toInt (by omega)] at b1
        omega
      refine J.aload_n hX 6 0 rfl rfl ?_
      refine J.iload hX 7 4 rfl rfl ?_
      refine J.sld hX hsc 8 (vp_in_nI (by omega) (by omega)) rfl ?_
      refine J.bipush (v := 31) hX 9 rfl (by decide) ?_
      refine J.iand hX 10 rfl ?_
      have h1 : vp_in (nI i + 1) Ls := by rw [nI_1]; exact vp_in_nI (by omega) (by omega)
      have h2 : vp_in (nI i + 2) Ls := by rw [show nI i + 2 = nI (i + 2) from nI_add i 2]; exact vp_in_nI (by omega) (by omega)
      have h3 : vp_in (nI i + 3) Ls := by rw [show nI i + 3 = nI (i + 3) from nI_add i 3]; exact vp_in_nI (by omega) (by omega)
      have h4 : vp_in (nI i + 4) Ls := by rw [show nI i + 4 = nI (i + 4) from nI_add i 4]; exact vp_in_nI (by omega) (by omega)
      obtain ⟨k, hk, ek⟩ := and31 (xs (nI i).toNatClampNeg)
      rw [ek]
      obtain ⟨g, M2, hst, hinv2⟩ := hstep n M k (xs (nI i + 1).toNatClampNeg) (xs (nI i + 2).toNatClampNeg) (xs (nI i + 3).toNatClampNeg) (xs (nI i + 4).toNatClampNeg) hk hinv
      have hff : cells + 5 ≤ 601024 ∧ slots + 436 ≤ 7293034 := ⟨by omega, by omega⟩
      have next : ∀ ad' : Nat → Nat, Dd A ad' (n + g) → J p l e room_1 s m #[Value.ref b] below meth c D cA ad' (n + g) A 7 (cells + 5) (slots + 436) (lw_Z below #[Value.ref b] s) M2 1110 [(0, .ref b), (1, .ref (ad' 0)), (2, .ref (ad' 27)), (3, .ref (ad' 48)), (4, .int (nI i))] [] := fun ad' hd => by
        have hX' : Cx p s m #[Value.ref b] meth c D cA ad' (n + g) A sa code 7 RL kc_head := ⟨hX.ex, hX.by, hX.ml, hX.ow, hX.ws, hX.kn, hd, hX.hA, by have := hX.n49; omega, hX.ks, hX.lk, kc_head_ok⟩
        refine J.iinc (q := 4) (v := nI (i + 5)) hX' 12 rfl rfl (nI_add i 5) (by decide) rfl ?_
        refine J.goto (tgt := 23) hX' 13 rfl (by decide) ?_
        exact J.sub [1, 2, 3, 4, 0] rfl (ih (i + 5) (n + g) M2 ad' (cells + 5) (slots + 436) hi5 (by omega) hinv2 hX' (by omega) (by omega))
      have hno : k = 0 ∨ k = 1 ∨ k = 2 ∨ k = 3 ∨ k = 4 ∨ k = 5 ∨ k = 6 ∨ k = 7 ∨ k = 8 ∨ k = 9 ∨ k = 10 ∨ k = 11 ∨ k = 12 ∨ k = 13 ∨ k = 14 ∨ k = 15 ∨ k = 16 ∨ 17 ≤ k := by omega
      rcases hno with rfl | rfl | rfl | rfl | rfl | rfl | rfl | rfl | rfl | rfl | rfl | rfl | rfl | rfl | rfl | rfl | rfl | h17
      · refine J.tabIn hX 11 (81) 120 rfl (by decide +kernel) (by decide +kernel) (by decide +kernel) (by decide) ?_
        obtain ⟨k0, M1, q1, q2, q3⟩ := hst
        exact law_corner (hX.tab kc_corner_ok) hsc h1 h2 h3 h4 hff (LR_corner.lc hl q1) q2 (by unfold X5_thrown; rw [q3]) (fun ad' _ hd => next ad' hd)
      · refine J.tabIn hX 11 (153) 192 rfl (by decide +kernel) (by decide +kernel) (by decide +kernel) (by decide) ?_
        obtain ⟨k0, M1, b2, q1, q2, q3, q4⟩ := hst
        exact law_close (hX.tab kc_close_ok) hsc h1 h2 h3 hff (LR_close.lc hl q1) q2 (by unfold X5_thrown; rw [q3]) q4 (fun ad' _ hd => next ad' hd)
      · refine J.tabIn hX 11 (233) 272 rfl (by decide +kernel) (by decide +kernel) (by decide +kernel) (by decide) ?_
        obtain ⟨k0, M1, b2, q1, q2, q3, q4⟩ := hst
        exact law_open (hX.tab kc_open_ok) hsc h1 hff (LR_open.lc hl q1) q2 (by unfold X5_thrown; rw [q3]) q4 (fun ad' _ hd => next ad' hd)
      · refine J.tabIn hX 11 (296) 335 rfl (by decide +kernel) (by decide +kernel) (by decide +kernel) (by decide) ?_
        obtain ⟨b2, M1, q1, q2, rfl⟩ := hst
        exact law_clear (hX.tab kc_clear_ok) hsc  hff q1 q2 (fun ad' _ hd => next ad' hd)
      · refine J.tabIn hX 11 (309) 348 rfl (by decide +kernel) (by decide +kernel) (by decide +kernel) (by decide) ?_
        obtain ⟨b2, q1, q2, rfl⟩ := hst
        exact law_check (M1 := M) (hX.tab kc_check_ok) hsc  hff q1 q2 (fun ad' _ hd => next ad' hd)
      · refine J.tabIn hX 11 (322) 361 rfl (by decide +kernel) (by decide +kernel) (by decide +kernel) (by decide) ?_
        obtain ⟨k0, M1, b2, q1, q2, q3, q4⟩ := hst
        exact law_clash (hX.tab kc_clash_ok) hsc h1 hff (LR_clash.lc hl q1) q2 (by unfold X5_thrown; rw [q3]) q4 (fun ad' _ hd => next ad' hd)
      · refine J.tabIn hX 11 (378) 417 rfl (by decide +kernel) (by decide +kernel) (by decide +kernel) (by decide) ?_
        obtain ⟨b2, M1, q1, q2, rfl⟩ := hst
        exact law_piece (hX.tab kc_piece_ok) hsc  hff q1 q2 (fun ad' _ hd => next ad' hd)
      · refine J.tabIn hX 11 (391) 430 rfl (by decide +kernel) (by decide +kernel) (by decide +kernel) (by decide) ?_
        obtain ⟨k0, M1, b2, q1, q2, q3, q4⟩ := hst
        exact law_seam (hX.tab kc_seam_ok) hsc h1 h2 hff (LR_seam.lc hl q1) q2 (by unfold X5_thrown; rw [q3]) q4 (fun ad' _ hd => next ad' hd)
      · refine J.tabIn hX 11 (459) 498 rfl (by decide +kernel) (by decide +kernel) (by decide +kernel) (by decide) ?_
        obtain ⟨k0, M1, b2, q1, q2, q3, q4⟩ := hst
        exact law_keep (hX.tab kc_keep_ok) hsc  hff (LR_keep.lc hl q1) q2 (by unfold X5_thrown; rw [q3]) q4 (fun ad' _ hd => next ad' hd)
      · refine J.tabIn hX 11 (503) 542 rfl (by decide +kernel) (by decide +kernel) (by decide +kernel) (by decide) ?_
        obtain ⟨k0, M1, b2, q1, q2, q3, q4⟩ := hst
        exact law_place (hX.tab kc_place_ok) hsc h1 h2 h3 h4 hff (LR_place.lc hl q1) q2 (by unfold X5_thrown; rw [q3]) q4 (fun ad' _ hd => next ad' hd)
      · refine J.tabIn hX 11 (595) 634 rfl (by decide +kernel) (by decide +kernel) (by decide +kernel) (by decide) ?_
        obtain ⟨k0, M1, b2, q1, q2, q3, q4⟩ := hst
        exact law_frame (hX.tab kc_frame_ok) hsc h1 h2 h3 hff (LR_frame.lc hl q1) q2 (by unfold X5_thrown; rw [q3]) q4 (fun ad' _ hd => next ad' hd)
      · refine J.tabIn hX 11 (675) 714 rfl (by decide +kernel) (by decide +kernel) (by decide +kernel) (by decide) ?_
        obtain ⟨k0, M1, b2, q1, q2, q3, q4⟩ := hst
        exact law_mismatch (hX.tab kc_mismatch_ok) hsc h1 h2 hff (LR_mismatch.lc hl q1) q2 (by unfold X5_thrown; rw [q3]) q4 (fun ad' _ hd => next ad' hd)
      · refine J.tabIn hX 11 (743) 782 rfl (by decide +kernel) (by decide +kernel) (by decide +kernel) (by decide) ?_
        obtain ⟨k0, M1, b2, q1, q2, q3, q4⟩ := hst
        exact law_swap (hX.tab kc_swap_ok) hsc h1 h2 hff (LR_swap.lc hl q1) q2 (by unfold X5_thrown; rw [q3]) q4 (fun ad' _ hd => next ad' hd)
      · refine J.tabIn hX 11 (811) 850 rfl (by decide +kernel) (by decide +kernel) (by decide +kernel) (by decide) ?_
        obtain ⟨k0, M1, b2, q1, q2, q3, q4⟩ := hst
        exact law_area (hX.tab kc_area_ok) hsc h1 hff (LR_area.lc hl q1) q2 (by unfold X5_thrown; rw [q3]) q4 (fun ad' _ hd => next ad' hd)
      · refine J.tabIn hX 11 (867) 906 rfl (by decide +kernel) (by decide +kernel) (by decide +kernel) (by decide) ?_
        obtain ⟨k0, M1, b2, q1, q2, q3, q4⟩ := hst
        exact law_need (hX.tab kc_need_ok) hsc h1 h2 hff (LR_need.lc hl q1) q2 (by unfold X5_thrown; rw [q3]) q4 (fun ad' _ hd => next ad' hd)
      · refine J.tabIn hX 11 (935) 974 rfl (by decide +kernel) (by decide +kernel) (by decide +kernel) (by decide) ?_
        obtain ⟨k0, M1, b2, q1, q2, q3, q4⟩ := hst
        exact law_cut (hX.tab kc_cut_ok) hsc h1 h2 h3 hff (LR_cut.lc hl q1) q2 (by unfold X5_thrown; rw [q3]) q4 (fun ad' _ hd => next ad' hd)
      · refine J.tabIn hX 11 (1015) 1054 rfl (by decide +kernel) (by decide +kernel) (by decide +kernel) (by decide) ?_
        obtain ⟨k0, M1, b2, q1, q2, q3, q4⟩ := hst
        exact law_count (hX.tab kc_count_ok) hsc h1 hff (LR_count.lc hl q1) q2 (by unfold X5_thrown; rw [q3]) q4 (fun ad' _ hd => next ad' hd)
      · obtain ⟨rfl, rfl⟩ := St_dflt h17 hst
        refine J.tabOut hX 11 1110 rfl (Or.inr (by rw [nI_toInt (by omega)]; omega)) (by decide) ?_
        exact J.widen (Nat.le_add_right _ _) (Nat.le_add_right _ _) (next ad hX.dd)
