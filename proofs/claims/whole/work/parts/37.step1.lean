/-! THE STEPS: ranges of arguments, the one drawing patch by patch, and the calls that draw. -/
def Wn (a : Int32) (L : Nat) : Prop := ∃ i, i < L ∧ a = nI i
theorem Wn_iff {a : Int32} {L : Nat} (hL : L < 2147483648) : Wn a L ↔ 0 ≤ a.toInt ∧ a.toInt < L := by
  constructor
  · rintro ⟨i, h, rfl⟩
    rw [nI_toInt (by omega)]
    omega
  · rintro ⟨h1, h2⟩
    refine ⟨a.toInt.toNat, by omega, Int32.toInt_inj.mp ?_⟩
    rw [nI_toInt (by omega)]
    omega
section Wth
variable {M : Mem} {a b : Int32} {L : Nat}
theorem w4_1 (L : Nat) (hb : b = nI L) (hL : L < 2147483648) (h : Wn a L) : X4_within M a b = some 1 := by
  rw [Wn_iff hL] at h
  subst hb
  have e0 : (0 : Int32).toInt = 0 := rfl
  simp only [X4_within, X4_within_j14]
  rw [if_neg (by rw [Int32.lt_iff_toInt_lt, e0]; omega), if_neg (by rw [Int32.le_iff_toInt_le, nI_toInt hL]; omega)]
  rfl
theorem w4_0 (L : Nat) (hb : b = nI L) (hL : L < 2147483648) (h : ¬ Wn a L) : X4_within M a b = some 0 := by
  rw [Wn_iff hL] at h
  subst hb
  have e0 : (0 : Int32).toInt = 0 := rfl
  simp only [X4_within, X4_within_j14]
  by_cases c : a < 0
  · rw [if_pos c]; rfl
  · rw [if_neg c]
    rw [Int32.lt_iff_toInt_lt, e0] at c
    rw [if_pos (by rw [Int32.le_iff_toInt_le, nI_toInt hL]; omega)]
    rfl
theorem w5_1 (L : Nat) (hb : b = nI L) (hL : L < 2147483647) (h : Wn a (L + 1)) : X5_within M a 0 b = some 1 := by
  rw [Wn_iff (by omega)] at h
  subst hb
  have e0 : (0 : Int32).toInt = 0 := rfl
  simp only [X5_within, X5_within_j15]
  rw [if_neg (by rw [Int32.lt_iff_toInt_lt, e0]; omega), if_neg (by rw [Int32.lt_iff_toInt_lt, nI_toInt (by omega)]; omega)]
  rfl
theorem w5_0 (L : Nat) (hb : b = nI L) (hL : L < 2147483647) (h : ¬ Wn a (L + 1)) : X5_within M a 0 b = some 0 := by
  rw [Wn_iff (by omega)] at h
  subst hb
  have e0 : (0 : Int32).toInt = 0 := rfl
  simp only [X5_within, X5_within_j15]
  by_cases c : a < 0
  · rw [if_pos c]; rfl
  · rw [if_neg c]
    rw [Int32.lt_iff_toInt_lt, e0] at c
    rw [if_pos (by rw [Int32.lt_iff_toInt_lt, nI_toInt (by omega)]; omega)]
    rfl
theorem pa_1 (h : Wn a 24) : X5_isPatch M a = some 1 := (w4_1 (M := M) (b := 24) 24 rfl (by decide) h)
theorem pa_0 (h : ¬ Wn a 24) : X5_isPatch M a = some 0 := (w4_0 (M := M) (b := 24) 24 rfl (by decide) h)
theorem cl_1 (h : Wn a 12) : X5_isCloth M a = some 1 := (w4_1 (M := M) (b := 12) 12 rfl (by decide) h)
theorem cl_0 (h : ¬ Wn a 12) : X5_isCloth M a = some 0 := (w4_0 (M := M) (b := 12) 12 rfl (by decide) h)
theorem goes_1 : X5_goes M 0 a = some (0, wr M 27 0 1) := rfl
theorem goes_2 : X5_goes M 1 0 = some (0, wr M 27 0 2) := rfl
theorem goes_0 : X5_goes M 1 1 = some (1, wr M 27 0 0) := rfl
end Wth
theorem i10 : ((1 : Int32) = 0) = False := eq_false (by decide)
theorem INV.keep0 {n : Nat} {M N : Mem} (h : INV n M) (hc : Ch (fun r => r = 0) M N) : INV n N := by
  obtain ⟨K, k1, k2, h1, h2, h3, h4, h5⟩ := h
  exact ⟨K, k1, k2, h1.keep hc (by decide), h2.keep hc (by decide), h3.keep hc (by decide) k1, h4.keep hc (by decide), h5.keep hc (by decide) (by decide) (by decide) k1 h4⟩
theorem INV.th {n : Nat} {M : Mem} {v : Int32} (h : INV n M) : INV n (wr M 27 0 v) := h.keep0 (Ch.rfl'.wr rfl)
theorem INV.ou {n : Nat} {M : Mem} {v : Int32} (h : INV n M) : INV n (wr M 48 0 v) := h.keep0 (Ch.rfl'.wr rfl)
theorem th_at {M : Mem} {v : Int32} : wr M 27 0 v 27 0 = v := by rw [wr_at, if_pos ⟨rfl, rfl⟩]
theorem ou_at {M : Mem} {v : Int32} : wr M 48 0 v 48 0 = v := by rw [wr_at, if_pos ⟨rfl, rfl⟩]
theorem wr_ne {M : Mem} {k i a b : Nat} {v : Int32} (h : ¬ (a = k ∧ b = i)) : wr M k i v a b = M a b := by rw [wr_at, if_neg h]
/-! patch by patch -/
theorem Cvx_congr {V W : Vw} {p : Nat} (hC : W.C p = V.C p) (h8 : V.C p ≤ 8) (hX : ∀ c, c < 8 → W.X (8 * p + c) = V.X (8 * p + c)) (hY : ∀ c, c < 8 → W.Y (8 * p + c) = V.Y (8 * p + c)) (h : Cvx V p) : Cvx W p := by
  intro k hk c hc h1 h2
  rw [hC] at hk hc
  have en : nx W p k = nx V p k := by unfold nx; rw [hC]
  rw [en] at h2
  have := h k hk c hc h1 h2
  have hn := nx_ltC (V := V) (p := p) hk
  unfold be bd at this ⊢
  rw [en, hX k (by omega), hX c (by omega), hX _ (show nx V p k < 8 by omega), hY k (by omega), hY c (by omega), hY _ (show nx V p k < 8 by omega)]
  exact this
/-- the patch p of the drawing at o is that of the model's block j -/
def PI (M : Mem) (o j p : Nat) : Prop :=
  (∀ c, c < 8 → (∃ x, x ≤ 96 ∧ M (o + 1) (8 * p + c) = nI x ∧ M 30 (192 * j + (8 * p + c)) = nI x) ∧ ∃ y, y ≤ 96 ∧ M (o + 2) (8 * p + c) = nI y ∧ M 31 (192 * j + (8 * p + c)) = nI y) ∧
  ((M (o + 3) p = 0 ∧ M 28 (24 * j + p) = 0) ∨ ∃ k l, 3 ≤ k ∧ k ≤ 8 ∧ l < 12 ∧ M (o + 3) p = nI k ∧ M 28 (24 * j + p) = nI k ∧ M (o + 4) p = nI l ∧ M 29 (24 * j + p) = nI l ∧ Cvx (vm M j) p)
theorem vmX {M : Mem} {j i : Nat} (h : i < 192) : (vm M j).X i = M 30 (192 * j + i) := by simp [vm, Vw.X, h]
theorem vmY {M : Mem} {j i : Nat} (h : i < 192) : (vm M j).Y i = M 31 (192 * j + i) := by simp [vm, Vw.Y, h]
theorem vmC {M : Mem} {j i : Nat} (h : i < 24) : (vm M j).C i = (M 28 (24 * j + i)).toNatClampNeg := by simp [vm, Vw.C, h]
theorem vwX {M : Mem} {o i : Nat} (h : i < 192) : (vw M o).X i = M (o + 1) i := by simp [vw, Vw.X, h]
theorem vwY {M : Mem} {o i : Nat} (h : i < 192) : (vw M o).Y i = M (o + 2) i := by simp [vw, Vw.Y, h]
theorem vwC {M : Mem} {o i : Nat} (h : i < 24) : (vw M o).C i = (M (o + 3) i).toNatClampNeg := by simp [vw, Vw.C, h]
theorem vmL {M : Mem} {j i : Nat} (h : i < 24) (hc : 0 < (vm M j).C i) : (vm M j).L i = M 29 (24 * j + i) := by
  rw [vmC h] at hc
  simp only [vm, Vw.L]
  rw [if_pos ⟨h, hc⟩]
theorem vwL {M : Mem} {o i : Nat} (h : i < 24) (hc : 0 < (vw M o).C i) : (vw M o).L i = M (o + 4) i := by
  rw [vwC h] at hc
  simp only [vw, Vw.L]
  rw [if_pos ⟨h, hc⟩]
theorem DrI.pi {M : Mem} {o j p : Nat} (h : DrI M o j) (hp : p < 24) : PI M o j p := by
  obtain ⟨h1, h2, h3, h4, h5⟩ := h
  refine ⟨fun c hc => ?_, ?_⟩
  · obtain ⟨⟨x, hx, ex⟩, y, hy, ey⟩ := h5 (8 * p + c) (by omega)
    refine ⟨⟨x, hx, ?_, ?_⟩, y, hy, ?_, ?_⟩
    · rw [← ex, ← h1, vwX (by omega)]
    · rw [← ex, vmX (by omega)]
    · rw [← ey, ← h1, vwY (by omega)]
    · rw [← ey, vmY (by omega)]
  · obtain ⟨k, hk, ek⟩ := h2 p hp
    obtain ⟨k', hk', ek'⟩ := h3 p hp
    have e1 : (vw M o).C p = k := by rw [vwC hp, ek, nI_clamp (by omega)]
    have e2 : (vm M j).C p = k' := by rw [vmC hp, ek', nI_clamp (by omega)]
    have : k = k' := by rw [← e1, ← e2, h1]
    subst this
    rcases h4 p hp with h | ⟨h6, h7, l, hl, el⟩
    · left
      rw [ek, ek', ← e2, h]
      exact ⟨rfl, rfl⟩
    · right
      refine ⟨k, l, by omega, hk, hl, ek, ek', ?_, ?_, h7⟩
      · rw [← el, ← h1, vwL hp (by omega)]
      · rw [← el, vmL hp (by omega)]
theorem DrI.of {M : Mem} {o j : Nat} (h : ∀ p, p < 24 → PI M o j p) : DrI M o j := by
  have hC : ∀ p, p < 24 → ∃ k, k ≤ 8 ∧ M (o + 3) p = nI k ∧ M 28 (24 * j + p) = nI k := by
    intro p hp
    rcases (h p hp).2 with ⟨h1, h2⟩ | ⟨k, l, _, h1, _, h2, h3, _⟩
    · exact ⟨0, by omega, h1, h2⟩
    · exact ⟨k, h1, h2, h3⟩
  have hX : ∀ i, i < 192 → (∃ x, x ≤ 96 ∧ M (o + 1) i = nI x ∧ M 30 (192 * j + i) = nI x) ∧ ∃ y, y ≤ 96 ∧ M (o + 2) i = nI y ∧ M 31 (192 * j + i) = nI y := by
    intro i hi
    have := (h (i / 8) (by omega)).1 (i % 8) (by omega)
    rw [show 8 * (i / 8) + i % 8 = i by omega] at this
    exact this
  refine ⟨?_, ?_, ?_, ?_, ?_⟩
  · unfold vw vm
    refine Prod.ext ?_ (Prod.ext ?_ (Prod.ext ?_ ?_))
    · funext i
      by_cases hi : i < 192
      · obtain ⟨⟨x, _, e1, e2⟩, _⟩ := hX i hi
        simp only [if_pos hi, e1, e2]
      · simp only [if_neg hi]
    · funext i
      by_cases hi : i < 192
      · obtain ⟨_, x, _, e1, e2⟩ := hX i hi
        simp only [if_pos hi, e1, e2]
      · simp only [if_neg hi]
    · funext p
      by_cases hp : p < 24
      · obtain ⟨k, _, e1, e2⟩ := hC p hp
        simp only [if_pos hp, e1, e2]
      · simp only [if_neg hp]
    · funext p
      by_cases hp : p < 24
      · rcases (h p hp).2 with ⟨h1, h2⟩ | ⟨k, l, _, h1, _, h2, h3, h4, h5, _⟩
        · simp only [h1, h2]
          rw [if_neg (by simp), if_neg (by simp)]
        · simp only [h2, h3, h4, h5]
      · simp only [hp, false_and, if_false]
  · intro p hp
    obtain ⟨k, h1, e1, e2⟩ := hC p hp
    exact ⟨k, h1, e1⟩
  · intro p hp
    obtain ⟨k, h1, e1, e2⟩ := hC p hp
    exact ⟨k, h1, e2⟩
  · intro p hp
    rcases (h p hp).2 with ⟨h1, h2⟩ | ⟨k, l, h0, h1, hl, h2, h3, h4, h5, h6⟩
    · left
      rw [vmC hp, h2]
      rfl
    · right
      have e : (vm M j).C p = k := by rw [vmC hp, h3, nI_clamp (by omega)]
      exact ⟨by omega, h6, l, hl, by rw [vmL hp (by omega), h5]⟩
  · intro i hi
    obtain ⟨⟨x, hx, _, e1⟩, y, hy, _, e2⟩ := hX i hi
    exact ⟨⟨x, hx, by rw [vmX hi, e1]⟩, y, hy, by rw [vmY hi, e2]⟩
/-- the cells of the patch p in N (at o', j') are those in M (at o, j) -/
theorem PI.congr {M N : Mem} {o j o' j' p : Nat} (hp : p < 24) (h : PI M o j p)
    (hX : ∀ c, c < 8 → N (o' + 1) (8 * p + c) = M (o + 1) (8 * p + c) ∧ N (o' + 2) (8 * p + c) = M (o + 2) (8 * p + c) ∧ N 30 (192 * j' + (8 * p + c)) = M 30 (192 * j + (8 * p + c)) ∧ N 31 (192 * j' + (8 * p + c)) = M 31 (192 * j + (8 * p + c)))
    (hC : N (o' + 3) p = M (o + 3) p ∧ N 28 (24 * j' + p) = M 28 (24 * j + p))
    (hL : N (o' + 4) p = M (o + 4) p ∧ N 29 (24 * j' + p) = M 29 (24 * j + p)) : PI N o' j' p := by
  obtain ⟨h1, h2⟩ := h
  refine ⟨fun c hc => ?_, ?_⟩
  · obtain ⟨a1, a2, a3, a4⟩ := hX c hc
    rw [a1, a2, a3, a4]
    exact h1 c hc
  · rw [hC.1, hC.2, hL.1, hL.2]
    rcases h2 with h2 | ⟨k, l, k1, k2, k3, k4, k5, k6, k7, k8⟩
    · exact Or.inl h2
    · refine Or.inr ⟨k, l, k1, k2, k3, k4, k5, k6, k7, ?_⟩
      have eC : (vm M j).C p = k := by rw [vmC hp, k5, nI_clamp (by omega)]
      refine Cvx_congr ?_ (by omega) (fun c hc => ?_) (fun c hc => ?_) k8
      · rw [vmC hp, vmC hp, hC.2]
      · rw [vmX (by omega), vmX (by omega), (hX c hc).2.2.1]
      · rw [vmY (by omega), vmY (by omega), (hX c hc).2.2.2]
