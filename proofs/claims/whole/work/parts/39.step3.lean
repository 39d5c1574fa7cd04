/-! close, clear, seam, place, frame -/
theorem dA_congr {V W : Vw} {p : Nat} (hC : W.C p = V.C p) (h8 : V.C p ≤ 8) (hX : ∀ c, c < 8 → W.X (8 * p + c) = V.X (8 * p + c)) (hY : ∀ c, c < 8 → W.Y (8 * p + c) = V.Y (8 * p + c)) : ∀ k, k ≤ V.C p → dA W p k = dA V p k
  | 0, _ => rfl
  | k + 1, hk => by
    have en : nx W p k = nx V p k := by unfold nx; rw [hC]
    have hn := nx_ltC (V := V) (p := p) (k := k) (by omega)
    unfold dA
    rw [dA_congr hC h8 hX hY k (by omega), en, hX k (by omega), hY k (by omega), hX _ (show nx V p k < 8 by omega), hY _ (show nx V p k < 8 by omega)]
section Close
variable {n : Nat} {M : Mem} {p k l : Nat}
theorem st_close_in (h : INV n M) (hp : p < 24) (hk3 : 3 ≤ k) (hk8 : k ≤ 8) (hl : l < 12) (a4 : Int32) : ∃ g M2, St 1 n M (nI p) (nI k) (nI l) a4 g M2 ∧ INV (n + g) M2 := by
  have hpi := h.pi hp
  have hco := h.co
  -- the class, after its two stores
  have cA : COk (wr (wr M 4 p (nI k)) 5 p (nI l)) 1 := by
    intro q hq
    show ∃ c, c ≤ 8 ∧ (wr (wr M 4 p (nI k)) 5 p (nI l)) 4 q = nI c
    rw [wr_ne (by omega), wr_at]
    by_cases e : q = p
    · exact ⟨k, hk8, by rw [if_pos ⟨rfl, e⟩]⟩
    · rw [if_neg (fun h => e h.2)]; exact hco.1 q hq
  have CA : (vw (wr (wr M 4 p (nI k)) 5 p (nI l)) 1).C p = k := by
    rw [vwC hp]
    show ((wr (wr M 4 p (nI k)) 5 p (nI l)) 4 p).toNatClampNeg = k
    rw [wr_ne (by omega), wr_at, if_pos ⟨rfl, rfl⟩, nI_clamp (by omega)]
  have g4 : ¬ (nI k < 3) := by
    have := nI_ge (a := 2) (b := k) (by omega) (by omega)
    intro h
    rw [Int32.lt_iff_toInt_lt, nI_toInt (by omega)] at h
    have e : (3 : Int32).toInt = 3 := rfl
    omega
  have g5 : ¬ (8 < nI k) := by
    intro h
    rw [Int32.lt_iff_toInt_lt, nI_toInt (by omega)] at h
    have e : (8 : Int32).toInt = 8 := rfl
    omega
  -- the model, at any memory that the class leaves
  have mB : ∀ (N : Mem), (∀ i, N 30 i = M 30 i) → (∀ i, N 31 i = M 31 i) → (∀ i, N 28 i = M 28 i) →
      COkM (wr (wr (wr N 27 0 0) 28 (240 + p) (nI k)) 29 (240 + p) (nI l)) 10 ∧ (vm (wr (wr (wr N 27 0 0) 28 (240 + p) (nI k)) 29 (240 + p) (nI l)) 10).C p = k ∧
      (∀ c, c < 8 → (vm (wr (wr (wr N 27 0 0) 28 (240 + p) (nI k)) 29 (240 + p) (nI l)) 10).X (8 * p + c) = (vw (wr (wr M 4 p (nI k)) 5 p (nI l)) 1).X (8 * p + c)) ∧
      (∀ c, c < 8 → (vm (wr (wr (wr N 27 0 0) 28 (240 + p) (nI k)) 29 (240 + p) (nI l)) 10).Y (8 * p + c) = (vw (wr (wr M 4 p (nI k)) 5 p (nI l)) 1).Y (8 * p + c)) := by
    intro N h30 h31 h28
    refine ⟨fun q hq => ?_, ?_, fun c hc => ?_, fun c hc => ?_⟩
    · rw [wr_ne (by omega), wr_at]
      by_cases e : q = p
      · exact ⟨k, hk8, by rw [if_pos ⟨rfl, by omega⟩]⟩
      · rw [if_neg (by omega), wr_ne (by omega), h28]; exact hco.2.1 q hq
    · rw [vmC hp, wr_ne (by omega), wr_at, if_pos ⟨rfl, by omega⟩, nI_clamp (by omega)]
    · rw [vmX (by omega), vwX (by omega), wr_ne (by omega), wr_ne (by omega), wr_ne (by omega), wr_ne (by omega), wr_ne (by omega), h30]
      obtain ⟨⟨x, hx, e1, e2⟩, _⟩ := hpi.1 c hc
      rw [e2]; exact e1.symm
    · rw [vmY (by omega), vwY (by omega), wr_ne (by omega), wr_ne (by omega), wr_ne (by omega), wr_ne (by omega), wr_ne (by omega), h31]
      obtain ⟨_, x, hx, e1, e2⟩ := hpi.1 c hc
      rw [e2]; exact e1.symm
  have x4 : ∀ r, X1_closePatch M 1 (nI p) (nI k) (nI l) = some r → X4_close M (nI p) (nI k) (nI l) = some (.inl r.1, r.2) := by
    intro r hr
    simp only [X4_close, X4_close_j23, X4_close_j42, w4_1 (b := 24) 24 rfl (by decide) ⟨p, hp, rfl⟩, w4_1 (b := 12) 12 rfl (by decide) ⟨l, hl, rfl⟩, bd1_s, i10, if_false, if_neg g4, if_neg g5, hr]
    rfl
  have x5w : ∀ N, X5_within N (nI k) 3 8 = some 1 := by
    intro N
    simp only [X5_within, X5_within_j15, if_neg g4, if_neg g5]
    rfl
  by_cases hv : Cvx (vw (wr (wr M 4 p (nI k)) 5 p (nI l)) 1) p
  · have q1 : X1_closePatch M 1 (nI p) (nI k) (nI l) = some (dA (vw (wr (wr M 4 p (nI k)) 5 p (nI l)) 1) p k, wr (wr M 4 p (nI k)) 5 p (nI l)) := by
      unfold X1_closePatch
      rw [stoN hp (by decide), stoN hp (by decide)]
      simp only [(X1_isConvex_eq cA hp).1 hv, bd1_s, i10, if_false, X1_doubleArea_eq cA hp, CA]
    obtain ⟨b1, b2, b3, b4⟩ := mB (wr (wr (wr M 4 p (nI k)) 5 p (nI l)) 48 0 (dA (vw (wr (wr M 4 p (nI k)) 5 p (nI l)) 1) p k)) (fun i => by rw [wr_ne (by omega), wr_ne (by omega), wr_ne (by omega)]) (fun i => by rw [wr_ne (by omega), wr_ne (by omega), wr_ne (by omega)]) (fun i => by rw [wr_ne (by omega), wr_ne (by omega), wr_ne (by omega)])
    have hvm := Cvx_congr (b2.trans CA.symm) (by omega) b3 b4 hv
    refine ⟨0, wr (wr (wr (wr (wr (wr M 4 p (nI k)) 5 p (nI l)) 48 0 (dA (vw (wr (wr M 4 p (nI k)) 5 p (nI l)) 1) p k)) 27 0 0) 28 (240 + p) (nI k)) 29 (240 + p) (nI l), ⟨0, _, dA (vw (wr (wr M 4 p (nI k)) 5 p (nI l)) 1) p k, Or.inl ⟨_, _, x4 _ q1, rfl, rfl, rfl⟩, ?_, ?_, fun _ => ?_⟩, ?_⟩
    · have e240 : nI (240 + p) = nI (24 * 10 + p) := rfl
      simp only [X5_close, X5_close_j20, pa_1 ⟨p, hp, rfl⟩, cl_1 ⟨l, hl, rfl⟩, x5w, bd1_s, bd2_s, goes_0, i10, if_false, bnd_s, a240, stoN (show 240 + p < 264 by omega) (by decide)]
      rw [e240, (X5_isConvex_eq (j := 10) (by decide) b1 hp).1 hvm]
      simp only [bd1_s, i10, if_false, X5_areaOf_eq (j := 10) (by decide) b1 hp]
      rw [b2, dA_congr (b2.trans CA.symm) (by omega) b3 b4 k (by omega)]
    · rw [wr_ne (by omega), wr_ne (by omega), th_at]
    · rw [wr_ne (by omega), wr_ne (by omega), wr_ne (by omega), ou_at]
    · refine h.draw ?_ (PI.one (p := p) (fun q hq => h.pi hq) ?_ ?_)
      · refine Ch.wr (Ch.wr (Ch.wr (Ch.wr (Ch.wr (Ch.wr Ch.rfl' ?_) ?_) ?_) ?_) ?_) ?_
        all_goals (unfold reg; simp)
      · refine ⟨fun d hd => ?_, Or.inr ⟨k, l, hk3, hk8, hl, ?_, ?_, ?_, ?_, hvm⟩⟩
        · obtain ⟨⟨x, hx, e1, e2⟩, y, hy, e3, e4⟩ := hpi.1 d hd
          refine ⟨⟨x, hx, ?_, ?_⟩, y, hy, ?_, ?_⟩
          all_goals (repeat rw [wr_ne (by omega)])
          all_goals assumption
        all_goals (repeat rw [wr_ne (by omega)])
        all_goals (rw [wr_at, if_pos (by omega)])
      · intro q hq hne
        refine ⟨fun d hd => ⟨?_, ?_, ?_, ?_⟩, ⟨?_, ?_⟩, ?_, ?_⟩
        all_goals (repeat rw [wr_ne (by omega)])
  · have q1 : X1_closePatch M 1 (nI p) (nI k) (nI l) = some (0, wr (wr (wr M 4 p (nI k)) 5 p (nI l)) 4 p 0) := by
      unfold X1_closePatch
      rw [stoN hp (by decide), stoN hp (by decide)]
      simp only [(X1_isConvex_eq cA hp).2 hv, bd1_s, if_true, X1_openPatch, stoN hp (by decide)]
    obtain ⟨b1, b2, b3, b4⟩ := mB (wr (wr (wr (wr M 4 p (nI k)) 5 p (nI l)) 4 p 0) 48 0 0) (fun i => by rw [wr_ne (by omega), wr_ne (by omega), wr_ne (by omega), wr_ne (by omega)]) (fun i => by rw [wr_ne (by omega), wr_ne (by omega), wr_ne (by omega), wr_ne (by omega)]) (fun i => by rw [wr_ne (by omega), wr_ne (by omega), wr_ne (by omega), wr_ne (by omega)])
    have hvm := mt (Cvx_congr (CA.trans b2.symm) (by omega) (fun c hc => (b3 c hc).symm) (fun c hc => (b4 c hc).symm)) hv
    refine ⟨0, wr (wr (wr (wr (wr (wr (wr (wr M 4 p (nI k)) 5 p (nI l)) 4 p 0) 48 0 0) 27 0 0) 28 (240 + p) (nI k)) 29 (240 + p) (nI l)) 28 (240 + p) 0, ⟨0, _, 0, Or.inl ⟨_, _, x4 _ q1, rfl, rfl, rfl⟩, ?_, ?_, fun _ => ?_⟩, ?_⟩
    · have e240 : nI (240 + p) = nI (24 * 10 + p) := rfl
      simp only [X5_close, X5_close_j20, pa_1 ⟨p, hp, rfl⟩, cl_1 ⟨l, hl, rfl⟩, x5w, bd1_s, bd2_s, goes_0, i10, if_false, bnd_s, a240, stoN (show 240 + p < 264 by omega) (by decide)]
      rw [e240, (X5_isConvex_eq (j := 10) (by decide) b1 hp).2 hvm]
      simp only [bd1_s, if_true]
    · rw [wr_ne (by omega), wr_ne (by omega), wr_ne (by omega), th_at]
    · rw [wr_ne (by omega), wr_ne (by omega), wr_ne (by omega), wr_ne (by omega), ou_at]
    · refine h.draw ?_ (PI.one (p := p) (fun q hq => h.pi hq) ?_ ?_)
      · refine Ch.wr (Ch.wr (Ch.wr (Ch.wr (Ch.wr (Ch.wr (Ch.wr (Ch.wr Ch.rfl' ?_) ?_) ?_) ?_) ?_) ?_) ?_) ?_
        all_goals (unfold reg; simp)
      · refine ⟨fun d hd => ?_, Or.inl ⟨?_, ?_⟩⟩
        · obtain ⟨⟨x, hx, e1, e2⟩, y, hy, e3, e4⟩ := hpi.1 d hd
          refine ⟨⟨x, hx, ?_, ?_⟩, y, hy, ?_, ?_⟩
          all_goals (repeat rw [wr_ne (by omega)])
          all_goals assumption
        all_goals (repeat rw [wr_ne (by omega)])
        all_goals (rw [wr_at, if_pos (by omega)])
      · intro q hq hne
        refine ⟨fun d hd => ⟨?_, ?_, ?_, ?_⟩, ⟨?_, ?_⟩, ?_, ?_⟩
        all_goals (repeat rw [wr_ne (by omega)])
theorem st_close {n : Nat} {M : Mem} {a1 a2 a3 a4 : Int32} (h : INV n M) : ∃ g M2, St 1 n M a1 a2 a3 a4 g M2 ∧ INV (n + g) M2 := by
  by_cases h1 : Wn a1 24 ∧ Wn a3 12
  · have ex4 : ∀ N, X4_close N a1 a2 a3 = X4_close_j23 N a1 a2 a3 1 := fun N => by simp only [X4_close, w4_1 (b := 24) 24 rfl (by decide) h1.1, w4_1 (b := 12) 12 rfl (by decide) h1.2, bd1_s, i10, if_false]
    have ex5 : ∀ N, X5_close N a1 a2 a3 = X5_close_j20 N a1 a2 a3 1 := fun N => by simp only [X5_close, pa_1 h1.1, cl_1 h1.2, bd1_s, i10, if_false]
    have bad : (a2 < 3 ∨ 8 < a2) → ∃ g M2, St 1 n M a1 a2 a3 a4 g M2 ∧ INV (n + g) M2 := by
      intro hb
      refine ⟨0, wr M 27 0 2, ⟨2, M, 0, Or.inr (Or.inr ⟨M, ?_, rfl, rfl, rfl⟩), ?_, th_at, fun e => absurd e (by decide)⟩, h.th⟩
      · rw [ex4]
        by_cases c1 : a2 < 3
        · simp only [X4_close_j23, X4_close_j41, X4_close_j42, i10, if_false, if_pos c1, if_true]
        · simp only [X4_close_j23, X4_close_j41, X4_close_j42, i10, if_false, if_neg c1, if_pos (hb.resolve_left c1), if_true]
      · have : ∀ N, X5_within N a2 3 8 = some 0 := by
          intro N
          by_cases c1 : a2 < 3
          · simp only [X5_within, X5_within_j15, if_pos c1, chk0]
          · simp only [X5_within, X5_within_j15, if_neg c1, if_pos (hb.resolve_left c1), chk0]
        rw [ex5]
        simp only [X5_close_j20, this, bd1_s, bd2_s, goes_2, if_true]
    by_cases c1 : a2 < 3
    · exact bad (Or.inl c1)
    · by_cases c2 : 8 < a2
      · exact bad (Or.inr c2)
      · obtain ⟨⟨p, hp, rfl⟩, l, hl, rfl⟩ := h1
        rw [Int32.lt_iff_toInt_lt] at c1 c2
        have e3 : (3 : Int32).toInt = 3 := rfl
        have e8 : (8 : Int32).toInt = 8 := rfl
        obtain ⟨k, hk, rfl⟩ := (Wn_iff (a := a2) (L := 9) (by decide)).mpr (by omega)
        rw [nI_toInt (by omega)] at c1
        exact st_close_in h hp (by omega) (by omega) hl a4
  · refine ⟨0, wr M 27 0 1, ⟨1, M, 0, Or.inr (Or.inl ⟨M, ?_, rfl, rfl, rfl⟩), ?_, th_at, fun e => absurd e (by decide)⟩, h.th⟩
    · by_cases h3 : Wn a1 24
      · simp only [X4_close, X4_close_j22, X4_close_j23, w4_1 (b := 24) 24 rfl (by decide) h3, w4_0 (b := 12) 12 rfl (by decide) (fun h4 => h1 ⟨h3, h4⟩), bd1_s, i10, if_false, if_true]
      · simp only [X4_close, X4_close_j22, X4_close_j23, w4_0 (b := 24) 24 rfl (by decide) h3, bd1_s, if_true]
    · have e2 : X5_close_j19 M a1 a2 a3 = some (0, wr M 27 0 1) := by
        simp only [X5_close_j19, X5_close_j20]
        have : ∃ v, X5_within M a2 3 8 = some v := by
          simp only [X5_within, X5_within_j15]
          split
          · exact ⟨0, rfl⟩
          · split
            · exact ⟨0, rfl⟩
            · exact ⟨1, rfl⟩
        obtain ⟨v, hv⟩ := this
        simp only [hv, bd1_s, bd2_s, goes_1, if_true]
      by_cases h3 : Wn a1 24
      · simp only [X5_close, pa_1 h3, cl_0 (fun h4 => h1 ⟨h3, h4⟩), bd1_s, i10, if_false, if_true, e2]
      · simp only [X5_close, pa_0 h3, bd1_s, if_true, e2]
end Close
/-! clear -/
def clrN (M : Mem) (k b : Nat) : Nat → Mem
  | 0 => M
  | i + 1 => wr (clrN M k b i) k (b + i) 0
theorem clrN_at (M : Mem) (k b : Nat) : ∀ i a j, clrN M k b i a j = if a = k ∧ b ≤ j ∧ j < b + i then 0 else M a j
  | 0, a, j => by rw [if_neg (by omega)]; rfl
  | i + 1, a, j => by
    unfold clrN
    rw [wr_at, clrN_at M k b i]
    by_cases h1 : a = k ∧ j = b + i
    · rw [if_pos h1, if_pos (by omega)]
    · rw [if_neg h1]
      by_cases h2 : a = k ∧ b ≤ j ∧ j < b + i
      · rw [if_pos h2, if_pos (by omega)]
      · rw [if_neg h2, if_neg (by omega)]
theorem st_clear {n : Nat} {M : Mem} {a1 a2 a3 a4 : Int32} (h : INV n M) : ∃ g M2, St 3 n M a1 a2 a3 a4 g M2 ∧ INV (n + g) M2 := by
  obtain ⟨h1, h2, h3⟩ := h.co
  have q1 : X4_clear M = some (nI (nC (vm M 10) 24), clrN M 4 0 24) := by
    have : ∀ t, loop (X4_clear_L10 t) 3000 ((0 : Int32), M) = some (clrN M 4 0 24) := by
      intro t
      refine loop_for (fun i => (nI i, clrN M 4 0 i)) 24 (by omega) (fun i hi => ?_) (by simp only [X4_clear_L10, un2_s]; rfl)
      simp only [X4_clear_L10, un2_s, if_neg (show ¬ (24 : Int32) ≤ nI i from nI_ge (b := 24) (by omega) (by decide)), X1_openPatch, stoN hi (by decide), bd1_s, bnd_s, nI_1, clrN, Nat.zero_add]
    simp only [X4_clear, X1_closedPatches_eq h1, bd1_s, this, h3]
  have q2 : X5_clear (clrN M 4 0 24) = some (nI (nC (vm M 10) 24), clrN (wr (clrN M 4 0 24) 27 0 0) 28 240 24) := by
    have : ∀ t N, loop (X5_clear_L14 t) 3000 ((240 : Int32), N) = some (clrN N 28 240 24) := by
      intro t N
      refine loop_for (fun i => (nI (240 + i), clrN N 28 240 i)) 24 (by omega) (fun i hi => ?_) (by simp only [X5_clear_L14, un2_s]; rfl)
      simp only [X5_clear_L14, un2_s, if_neg (show ¬ (264 : Int32) ≤ nI (240 + i) from nI_ge (b := 264) (by omega) (by decide)), stoN (show 240 + i < 264 by omega) (by decide), bnd_s, nI_1, clrN, Nat.add_assoc]
    have e : COkM (wr (clrN M 4 0 24) 27 0 0) 10 := by
      intro q hq
      rw [wr_ne (by omega), clrN_at, if_neg (by omega)]
      exact h2 q hq
    have e2 : vm (wr (clrN M 4 0 24) 27 0 0) 10 = vm M 10 := by
      refine vm_same (fun i hi => ⟨?_, ?_⟩) (fun q hq => ⟨?_, ?_⟩)
      all_goals rw [wr_ne (by omega), clrN_at, if_neg (by omega)]
    simp only [X5_clear, bnd_s, X5_closed_eq e, bd1_s, this, e2]
  refine ⟨0, _, ⟨_, _, q1, q2, rfl⟩, h.draw (fun k i hr => ?_) (fun p hp => ⟨fun c hc => ?_, Or.inl ⟨?_, ?_⟩⟩)⟩
  · rw [clrN_at, if_neg, wr_ne, clrN_at, if_neg]
    · intro e
      apply hr
      rw [e.1]
      right; rfl
    · intro e
      apply hr
      rw [e.1, e.2]
      left; rfl
    · intro e
      apply hr
      rw [e.1]
      right
      unfold reg
      simp
      omega
  · have := (h.pi hp).1 c hc
    rw [clrN_at, if_neg (by omega), wr_ne (by omega), clrN_at, if_neg (by omega), clrN_at, if_neg (by omega), wr_ne (by omega), clrN_at, if_neg (by omega), clrN_at, if_neg (by omega), wr_ne (by omega), clrN_at, if_neg (by omega), clrN_at, if_neg (by omega), wr_ne (by omega), clrN_at, if_neg (by omega)]
    exact this
  · rw [clrN_at, if_neg (by omega), wr_ne (by omega), clrN_at, if_pos (by omega)]
  · rw [clrN_at, if_pos (by omega)]
