/-! piece, whole -/
theorem wr_wr {N : Mem} {k i : Nat} {u v : Int32} : wr (wr N k i u) k i v = wr N k i v := by
  funext a b
  rw [wr_at, wr_at, wr_at]
  split <;> rfl
theorem cs_sub {V : Vw} {q : Nat} (h : (cs V 24).testBit q = true) : 0 < V.C q := by
  rw [← bitn, cs_bit] at h
  split at h
  · next c => exact c.2
  · exact absurd h (by omega)
/-- the model's first set -/
theorem p18 {N : Mem} (hc : COkM N 10) : loop X5_piece_L18 3000 ((0 : Int32), wr N 32 0 0) = some (wr N 32 0 (nI (cs (vm N 10) 24))) := by
  refine loop_for (fun i => (nI i, wr N 32 0 (nI (cs (vm N 10) i)))) 24 (by omega) (fun i hi => ?_) (by simp only [X5_piece_L18, un2_s]; rfl)
  have hC := Cm_le (p := i) hc
  have e28 : ∀ v, (wr N 32 0 v) 28 (240 + i) = nI ((vm N 10).C i) := by
    intro v
    obtain ⟨c, h1, h2⟩ := hc i hi
    rw [wr_ne (by omega), vmC hi, h2, nI_clamp (by omega)]
  have e32 : ∀ v, (wr N 32 0 v) 32 0 = v := fun v => by rw [wr_at, if_pos ⟨rfl, rfl⟩]
  simp only [X5_piece_L18, X5_piece_L18_j61, un2_s, if_neg (s24 hi), a240, ldN (show 240 + i < 264 by omega) (show 264 < 2147483648 by decide), e28, show (0 : Int32) = nI 0 from rfl, ldN (show 0 < 32 by decide) (show 32 < 2147483648 by decide), stoN (show 0 < 32 by decide) (show 32 < 2147483648 by decide), e32, nI_shl i hi, nI_or, cs_or, wr_wr, bnd_s, nI_1, nI_le_iff (show (vm N 10).C i < 2147483648 by omega) (show 0 < 2147483648 by decide), cs]
  by_cases c : (vm N 10).C i ≤ 0
  · rw [if_pos c, if_neg (by omega)]
    rfl
  · rw [if_neg c, if_pos (by omega)]
/-- the model's copying of the seams -/
def cpS (N : Mem) (x : Nat) : Mem := fun k q => if k = 34 ∧ q < x then N 33 q else N k q
theorem p314 {N : Mem} {x : Nat} (hx : x ≤ 23) : loop (X5_piece_L314 (nI x)) 3000 ((0 : Int32), N) = some (cpS N (4 * x)) := by
  have z : cpS N 0 = N := by
    funext k q
    unfold cpS
    rw [if_neg (by omega)]
  have i4 : (4 : Int32) * nI x = nI (4 * x) := by rw [show (4 : Int32) = nI 4 from rfl, nI_mul]
  have : loop (X5_piece_L314 (nI x)) 3000 (nI 0, cpS N 0) = some (cpS N (4 * x)) := by
    refine loop_for (fun i => (nI i, cpS N i)) (4 * x) (by omega) (fun i hi => ?_) ?_
    · have e : cpS N i 33 i = N 33 i := by unfold cpS; rw [if_neg (by omega)]
      have st : wr (cpS N i) 34 i (N 33 i) = cpS N (i + 1) := by
        funext k q
        rw [wr_at]
        unfold cpS
        by_cases c : k = 34 ∧ q = i
        · rw [if_pos c, if_pos (by omega), c.2]
        · rw [if_neg c]
          by_cases d : k = 34 ∧ q < i
          · rw [if_pos d, if_pos (by omega)]
          · rw [if_neg d, if_neg (by omega)]
      simp only [X5_piece_L314, un2_s, i4, if_neg (show ¬ nI (4 * x) ≤ nI i from nI_ge hi (by omega)), ldN (show i < 96 by omega) (show 96 < 2147483648 by decide), stoN (show i < 96 by omega) (show 96 < 2147483648 by decide), e, st, bnd_s, nI_1]
    · simp only [X5_piece_L314, un2_s, i4, if_pos (show nI (4 * x) ≤ nI (4 * x) from nI_le (Nat.le_refl _) (by omega))]
  rw [z] at this
  exact this
theorem st_piece {n : Nat} {M : Mem} {a1 a2 a3 a4 : Int32} (h : INV n M) : ∃ g M2, St 6 n M a1 a2 a3 a4 g M2 ∧ INV (n + g) M2 := by
  have hI := h
  obtain ⟨K, k1, k2, hD, hS, hKe, hT, hC⟩ := h
  obtain ⟨c1, c2, c3⟩ := hI.co
  have hV : VOk (vm M 10) := hD.2.2.2
  have hlt : cs (vm M 10) 24 < 16777216 := cs_lt (vm M 10) 24
  have hsub : ∀ q, (cs (vm M 10) 24).testBit q = true → 0 < (vm M 10).C q := fun q hq => cs_sub hq
  have csE : X1_closedSet M 1 = some (nI (cs (vm M 10) 24)) := by rw [X1_closedSet_eq c1, c3]
  generalize hSe : cs (vm M 10) 24 = S at hlt hsub csE
  have hcb := cb_le S 24
  obtain ⟨w1, w2, w3⟩ := pw_ok (N := M) (L := []) (s := S) trivial
  have pwE : X2_putWaiting M 0 (nI S) = some (nI (pw M 0 S).1, (pw M 0 S).2) := X2_putWaiting_eq (d := 0) (by decide) hlt
  have w2' : (pw M 0 S).1 = (flt S []).length := w2
  have w1' : Rep ((pw M 0 S).2 7) (flt S []) := w1
  have w3' : ∀ k i, k ≠ 7 → (pw M 0 S).2 k i = M k i := w3
  rw [w2'] at pwE
  generalize (pw M 0 S).2 = A at pwE w1' w3'
  have fA : FrC M A := fun k i h7 h8 => w3' k i h7
  have run : ∀ N' : Mem, COkM N' 10 → vm N' 10 = vm M 10 → N' 32 0 = nI S → _ := fun N' u1 u2 u3 =>
    piece_run hV 47 [S] 0 A N' 3000 3000 (by simp only [mu]; split <;> omega) (by omega) (by omega) (fun s' h' => by
      rw [List.mem_singleton] at h'
      rw [h']
      exact ⟨hlt, fun q _ hq => hsub q hq⟩) (by rw [pot_cons]; simp only [pot]; omega) (by simp) (fA.vw.2 c1) (fA.vw.1.trans c3) u1 u2 (by rw [fil_cons]; exact w1') ⟨u3, trivial⟩ (fun i hi => absurd hi (by omega))
  have f0 : fil [S] = flt S [] := by rw [fil_cons]; rfl
  rw [f0] at run
  have hvm : ∀ N' : Mem, (∀ i, N' 28 i = M 28 i ∧ N' 29 i = M 29 i ∧ N' 30 i = M 30 i ∧ N' 31 i = M 31 i) → COkM N' 10 ∧ vm N' 10 = vm M 10 := by
    intro N' hN'
    refine ⟨fun q hq => ?_, vm_same (fun i hi => ⟨?_, ?_⟩) (fun q hq => ⟨?_, ?_⟩)⟩
    · rw [(hN' _).1]; exact c2 q hq
    · exact (hN' _).2.2.1
    · exact (hN' _).2.2.2
    · exact (hN' _).1
    · exact (hN' _).2.1
  have d0 := hvm (wr M 32 0 (nI S)) (fun i => ⟨by rw [wr_ne (by omega)], by rw [wr_ne (by omega)], by rw [wr_ne (by omega)], by rw [wr_ne (by omega)]⟩)
  -- the model, from any memory that the class leaves
  have mstart : ∀ M1 : Mem, (∀ i, M1 28 i = M 28 i ∧ M1 29 i = M 29 i ∧ M1 30 i = M 30 i ∧ M1 31 i = M 31 i) → COkM (wr (wr M1 27 0 0) 32 0 (nI S)) 10 ∧ vm (wr (wr M1 27 0 0) 32 0 (nI S)) 10 = vm M 10 := by
    intro M1 hM1
    refine hvm _ (fun i => ?_)
    obtain ⟨x1, x2, x3, x4⟩ := hM1 i
    exact ⟨by rw [wr_ne (by omega), wr_ne (by omega), x1], by rw [wr_ne (by omega), wr_ne (by omega), x2], by rw [wr_ne (by omega), wr_ne (by omega), x3], by rw [wr_ne (by omega), wr_ne (by omega), x4]⟩
  have e18 : ∀ M1 : Mem, (∀ i, M1 28 i = M 28 i ∧ M1 29 i = M 29 i ∧ M1 30 i = M 30 i ∧ M1 31 i = M 31 i) → loop X5_piece_L18 3000 ((0 : Int32), wr (wr M1 27 0 0) 32 0 0) = some (wr (wr M1 27 0 0) 32 0 (nI S)) := by
    intro M1 hM1
    have hq := hvm (wr M1 27 0 0) (fun i => by
      obtain ⟨x1, x2, x3, x4⟩ := hM1 i
      exact ⟨by rw [wr_ne (by omega), x1], by rw [wr_ne (by omega), x2], by rw [wr_ne (by omega), x3], by rw [wr_ne (by omega), x4]⟩)
    have := p18 hq.1
    rw [hq.2, hSe] at this
    exact this
  rcases run (wr M 32 0 (nI S)) d0.1 d0.2 (by rw [wr_at, if_pos ⟨rfl, rfl⟩]) with ⟨x, Nf, _, j1, _, j3, j4, _, _⟩ | ⟨Nf, _, j1, _, j4, _⟩
  · -- an order is found
    have fN : ∀ k i, k ≠ 7 → k ≠ 8 → Nf k i = M k i := fun k i h7 h8 => (j4 k i h7 h8).trans (fA k i h7 h8)
    have M1at : ∀ k i, k ≠ 7 → k ≠ 8 → k ≠ 9 → ¬ (k = 6 ∧ i = 3) → (wr (wrR Nf 9 (va_cpy (Nf 8) (Nf 9) 0 0 (4 * x))) 6 3 (nI x)) k i = M k i := by
      intro k i h7 h8 h9 h6
      rw [wr_ne h6]
      unfold wrR
      rw [if_neg h9, fN k i h7 h8]
    have M19 : ∀ i, i < 4 * x → (wr (wrR Nf 9 (va_cpy (Nf 8) (Nf 9) 0 0 (4 * x))) 6 3 (nI x)) 9 i = Nf 8 i := by
      intro i hi
      rw [wr_ne (by omega)]
      unfold wrR va_cpy
      rw [if_pos rfl, if_pos (by omega), show 0 + (i - 0) = i by omega]
    have M163 : (wr (wrR Nf 9 (va_cpy (Nf 8) (Nf 9) 0 0 (4 * x))) 6 3 (nI x)) 6 3 = nI x := by rw [wr_at, if_pos ⟨rfl, rfl⟩]
    have xle : X4_piece M = some (nI x, wr (wrR Nf 9 (va_cpy (Nf 8) (Nf 9) 0 0 (4 * x))) 6 3 (nI x)) := by
      have i4 : nI x * 4 = nI (4 * x) := by rw [show (4 : Int32) = nI 4 from rfl, nI_mul, Nat.mul_comm]
      unfold X4_piece X2_findOrder
      rw [csE, bd1_s, pwE, bd2_s]
      rw [show (0 : Int32) = nI 0 from rfl, j1, bdS_l, un2_s]
      unfold X2_findOrder_j103 cpy chk
      rw [i4, nI_toInt (by omega), nI_clamp (by omega), if_pos (by simp; omega)]
      simp only [bnd_s, bd2_s]
    generalize wr (wrR Nf 9 (va_cpy (Nf 8) (Nf 9) 0 0 (4 * x))) 6 3 (nI x) = M1 at M1at M19 M163 xle
    have hM1 : ∀ i, M1 28 i = M 28 i ∧ M1 29 i = M 29 i ∧ M1 30 i = M 30 i ∧ M1 31 i = M 31 i := fun i => ⟨M1at _ _ (by omega) (by omega) (by omega) (by omega), M1at _ _ (by omega) (by omega) (by omega) (by omega), M1at _ _ (by omega) (by omega) (by omega) (by omega), M1at _ _ (by omega) (by omega) (by omega) (by omega)⟩
    obtain ⟨s1, s2⟩ := mstart M1 hM1
    rcases run _ s1 s2 (by rw [wr_at, if_pos ⟨rfl, rfl⟩]) with ⟨x', Nf2, N', r1, r2, r3, _, r5, r6⟩ | ⟨Nf2, N', r1, _⟩
    · have e := j1.symm.trans r1
      have e' : (nI x, Nf) = (nI x', Nf2) := Sum.inl.inj (Option.some.inj e)
      have e1 : nI x = nI x' := congrArg Prod.fst e'
      have e2 : Nf = Nf2 := congrArg Prod.snd e'
      rw [nI_eq_iff (by omega) (by omega)] at e1
      subst e2
      subst e1
      have r2' : loop X5_piece_L68 3000 ((0 : Int32), (1 : Int32), wr (wr M1 27 0 0) 32 0 (nI S)) = some (.inl (nI x, N')) := r2
      have x5 : X5_piece M1 = some (nI x, cpS (wr N' 27 8 (nI x)) (4 * x)) := by
        unfold X5_piece
        rw [bnd_s]
        rw [show sto (wr M1 27 0 0) 32 32 0 0 = sto (wr M1 27 0 0) 32 32 (nI 0) 0 from rfl, stoN (by decide) (by decide), e18 M1 hM1, bd1_s, r2', bdS_l, un2_s, bnd_s, p314 j3, bd1_s]
      have G : ∀ k i, k ≠ 34 → ¬ (k = 27 ∧ i = 8) → k ≠ 32 → k ≠ 33 → ¬ (k = 27 ∧ i = 0) → cpS (wr N' 27 8 (nI x)) (4 * x) k i = M1 k i := by
        intro k i b1 b2 b3 b4 b5
        unfold cpS
        rw [if_neg (fun e => b1 e.1), wr_ne b2, r5 k i b3 b4, wr_ne (fun e => b3 e.1), wr_ne b5]
      have G8 : cpS (wr N' 27 8 (nI x)) (4 * x) 27 8 = nI x := by
        unfold cpS
        rw [if_neg (by omega), wr_at, if_pos ⟨rfl, rfl⟩]
      have G34 : ∀ i, i < 4 * x → cpS (wr N' 27 8 (nI x)) (4 * x) 34 i = N' 33 i := by
        intro i hi
        unfold cpS
        rw [if_pos ⟨rfl, hi⟩, wr_ne (by omega)]
      refine ⟨0, _, ⟨nI x, M1, xle, x5, rfl⟩, ?_⟩
      have hc : Ch (fun r => r = 0 ∨ r = 2) M (cpS (wr N' 27 8 (nI x)) (4 * x)) := by
        intro k i hz
        rw [G k i (fun e => hz (by rw [e]; right; rfl)) (fun e => hz (by rw [e.1, e.2]; right; rfl)) (fun e => hz (by rw [e]; left; rfl)) (fun e => hz (by rw [e]; left; rfl)) (fun e => hz (by rw [e.1, e.2]; left; rfl))]
        exact M1at k i (fun e => hz (by rw [e]; left; rfl)) (fun e => hz (by rw [e]; left; rfl)) (fun e => hz (by rw [e]; right; rfl)) (fun e => hz (by rw [e.1, e.2]; right; rfl))
      refine ⟨K, k1, k2, hD.keep hc (by decide), ⟨x, j3, ?_, G8, fun i hi => ?_⟩, hKe.keep hc (by decide) k1, hT.keep hc (by decide), hC.keep hc (by decide) (by decide) (by decide) k1 hT⟩
      · rw [G 6 3 (by omega) (by omega) (by omega) (by omega) (by omega)]; exact M163
      · rw [G34 i hi, G 9 i (by omega) (by omega) (by omega) (by omega) (by omega), M19 i hi]
        exact r6 i hi
    · have e := j1.symm.trans r1
      exact absurd (Option.some.inj e) (by intro h; cases h)
  · -- none is found
    have x4 : X4_piece M = some (-1, Nf) := by
      unfold X4_piece X2_findOrder
      rw [csE, bd1_s, pwE, bd2_s]
      rw [show (0 : Int32) = nI 0 from rfl, j1, bdS_r, un1_s, bd2_s]
    have fN : ∀ k i, k ≠ 7 → k ≠ 8 → Nf k i = M k i := fun k i h7 h8 => (j4 k i h7 h8).trans (fA k i h7 h8)
    have hM1 : ∀ i, Nf 28 i = M 28 i ∧ Nf 29 i = M 29 i ∧ Nf 30 i = M 30 i ∧ Nf 31 i = M 31 i := fun i => ⟨fN _ _ (by omega) (by omega), fN _ _ (by omega) (by omega), fN _ _ (by omega) (by omega), fN _ _ (by omega) (by omega)⟩
    obtain ⟨s1, s2⟩ := mstart Nf hM1
    rcases run _ s1 s2 (by rw [wr_at, if_pos ⟨rfl, rfl⟩]) with ⟨x', Nf2, N', r1, _⟩ | ⟨Nf2, N', r1, r2, r4, r5⟩
    · have e := j1.symm.trans r1
      exact absurd (Option.some.inj e) (by intro h; cases h)
    · have r2' : loop X5_piece_L68 3000 ((0 : Int32), (1 : Int32), wr (wr Nf 27 0 0) 32 0 (nI S)) = some (.inr N') := r2
      refine ⟨0, N', ⟨-1, Nf, x4, ?_, rfl⟩, hI.keep0 (fun k i hz => ?_)⟩
      · unfold X5_piece
        rw [bnd_s]
        rw [show sto (wr Nf 27 0 0) 32 32 0 0 = sto (wr Nf 27 0 0) 32 32 (nI 0) 0 from rfl, stoN (by decide) (by decide), e18 Nf hM1, bd1_s, r2', bdS_r, un1_s]
      · rw [r5 k i (fun e => hz (by rw [e]; rfl)) (fun e => hz (by rw [e]; rfl)), wr_ne (fun e => hz (by rw [e.1, e.2]; rfl)), wr_ne (fun e => hz (by rw [e.1, e.2]; rfl)), fN k i (fun e => hz (by rw [e]; rfl)) (fun e => hz (by rw [e]; rfl))]
