/-! what lies left of an edge; the first seam of a set -/
theorem bt {s p : Nat} (hs : s < 16777216) (hp : p < 24) : (nI s >>> (nI p &&& 31)) &&& 1 = nI (s / 2 ^ p % 2) := by
  rw [nI_shr (by omega) hp, one_eq, nI_and, Nat.and_one_is_mod]
theorem bt0 {s p : Nat} (hs : s < 16777216) (hp : p < 24) : ((nI s >>> (nI p &&& 31)) &&& 1 = 0) = (s.testBit p = false) := by
  rw [bt hs hp, show (0 : Int32) = nI 0 from rfl, nI_eq_iff (by omega) (by omega)]
  have hb := bitn s p
  refine propext ⟨fun e => ?_, fun e => ?_⟩
  · cases h : s.testBit p with
    | false => rfl
    | true =>
      rw [h] at hb
      have := hb.mpr rfl
      omega
  · rw [e] at hb
    have : ¬ s / 2 ^ p % 2 = 1 := fun z => absurd (hb.mp z) (by decide)
    omega
theorem bt1 {s p : Nat} (hs : s < 16777216) (hp : p < 24) : ((nI s >>> (nI p &&& 31)) &&& 1 = 1) = (s.testBit p = true) := by
  rw [bt hs hp, one_eq, nI_eq_iff (by omega) (by omega), bitn]
def acB (V : Vw) (s p e : Nat) : Nat → Bool
  | 0 => false
  | i + 1 => acB V s p e i || (s.testBit i && decide (sd V p e i = 0))
def lfP (V : Vw) (s p e i : Nat) : Bool := s.testBit i && decide (sd V p e i = 1)
def Lpt (V : Vw) (s p e : Nat) : Nat := gB (lfP V s p e) 24
theorem Lpt_lt (V : Vw) (s p e : Nat) : Lpt V s p e < 16777216 := gB_lt _ 24
theorem gB_or {P : Nat → Bool} {i : Nat} (h : P i = true) : gB P i ||| 2 ^ i = gB P (i + 1) := by
  have h2 := Nat.two_pow_add_eq_or_of_lt (gB_lt P i) 1
  rw [Nat.mul_one] at h2
  rw [Nat.or_comm, ← h2, Nat.add_comm]
  conv => rhs; unfold gB
  rw [if_pos h]
theorem gB_no {P : Nat → Bool} {i : Nat} (h : P i = false) : gB P (i + 1) = gB P i := by
  conv => lhs; unfold gB
  rw [h]
  simp
theorem acB_f {V : Vw} {s p e : Nat} : ∀ n, (∀ i, i < n → ¬ (s.testBit i = true ∧ sd V p e i = 0)) → acB V s p e n = false
  | 0, _ => rfl
  | n + 1, h => by
    have h1 := acB_f n (fun i hi => h i (by omega))
    have h2 := h n (by omega)
    unfold acB
    rw [h1]
    simp
    intro h3 h4
    exact h2 ⟨h3, h4⟩
theorem acB_t {V : Vw} {s p e : Nat} {i : Nat} (h : s.testBit i = true ∧ sd V p e i = 0) : ∀ n, i < n → acB V s p e n = true
  | 0, hi => absurd hi (by omega)
  | n + 1, hi => by
    unfold acB
    by_cases c : i = n
    · subst c
      rw [h.1, h.2]
      simp
    · rw [acB_t h n (by omega)]
      rfl
theorem div8 {p e : Nat} (hp : p < 24) (he : e < 8) : nI (8 * p + e) / 8 = nI p ∧ nI (8 * p + e) - nI p * 8 = nI e := by
  have h1 := nI_div (a := 8 * p + e) (b := 8) (by omega) (by decide) (by decide)
  have h2 := nI_rem (a := 8 * p + e) (b := 8) (by omega) (by decide) (by decide)
  rw [show (8 * p + e) / 8 = p by omega] at h1
  rw [h1, show (8 * p + e) % 8 = e by omega] at h2
  exact ⟨h1, h2⟩
section Lft
variable {M : Mem} {s p e : Nat}
theorem X2_leftPart_eq (hc : COk M 1) (hs : s < 16777216) (hp : p < 24) (he : e < 8) : X2_leftPart M 1 (nI s) (nI (8 * p + e)) = some (if acB (vw M 1) s p e 24 = true then 0 else nI (Lpt (vw M 1) s p e)) := by
  obtain ⟨d1, d2⟩ := div8 hp he
  have key := loop_search (B := X2_leftPart_L6 M 1 (nI s) (nI (8 * p + e))) (fun i => (nI (gB (lfP (vw M 1) s p e) i), nI i)) (fun i => ¬ (s.testBit i = true ∧ sd (vw M 1) p e i = 0)) 0 24 (fuel := 3000) (exA := .inl (nI (Lpt (vw M 1) s p e))) (exB := fun _ => .inr ()) (by omega) (by omega)
    (fun i _ hi hP => by
      simp only [X2_leftPart_L6, X2_leftPart_L6_j63, un2_s, bnd_s, if_neg (s24 hi), bt0 hs hi, d1, d2, X1_sideOf_eq hc hp hi he, bd1_s, nI_shl i hi, nI_or, nI_1]
      by_cases c : s.testBit i = true
      · have z : ¬ sd (vw M 1) p e i = 0 := fun h => hP ⟨c, h⟩
        rw [if_neg (by rw [c]; decide), if_neg z]
        by_cases w : sd (vw M 1) p e i = 1
        · rw [if_pos w, gB_or (by unfold lfP; rw [c, w]; rfl)]
        · rw [if_neg w, gB_no (by unfold lfP; rw [c]; simpa using w)]
      · rw [if_pos (by simpa using c), gB_no (by unfold lfP; simp at c; rw [c]; rfl)])
    (fun i _ hi hP => by
      have hP' := Classical.not_not.mp hP
      simp only [X2_leftPart_L6, un2_s, if_neg (s24 hi), bt0 hs hi, d1, d2, X1_sideOf_eq hc hp hi he, bd1_s]
      rw [if_neg (by rw [hP'.1]; decide), if_pos hP'.2])
    (by simp only [X2_leftPart_L6, un2_s]; rfl)
  have z0 : ((0 : Int32), (0 : Int32)) = (nI (gB (lfP (vw M 1) s p e) 0), nI 0) := rfl
  unfold X2_leftPart
  rw [z0]
  rcases key with ⟨h1, h2⟩ | ⟨i, _, hi, h1, h2, h3⟩
  · rw [h2, acB_f 24 (fun i hi => h1 i (by omega) hi)]
    rfl
  · rw [h3, acB_t (Classical.not_not.mp h1) 24 hi]
    rfl
theorem sd_vals (V : Vw) (p e q : Nat) : sd V p e q = 0 ∨ sd V p e q = 1 ∨ sd V p e q = -1 := by
  rcases sd_cases V p e q with ⟨_, _, h1, _⟩ | ⟨_, _, h1, _⟩ | ⟨_, _, h1, _⟩ | ⟨_, _, h1, _⟩
  · exact Or.inl h1
  · exact Or.inr (Or.inl h1)
  · exact Or.inr (Or.inr h1)
  · exact Or.inl h1
theorem X5_leftOf_eq (hV : VOk (vm M 10)) (hc : COkM M 10) (hs : s < 16777216) (hsub : ∀ q, q < 24 → s.testBit q = true → 0 < (vm M 10).C q) (hp : p < 24) (he : e < (vm M 10).C p) : X5_leftOf M (nI s) (nI (240 + p)) (nI e) = some (if acB (vm M 10) s p e 24 = true ∨ Lpt (vm M 10) s p e = 0 ∨ Lpt (vm M 10) s p e = s then -1 else nI (Lpt (vm M 10) s p e)) := by
  have h8 : ∀ q, (vm M 10).C q ≤ 8 := fun q => Cm_le hc
  have key := loop_search (B := X5_leftOf_L6 M (nI s) (nI (240 + p)) (nI e)) (fun i => (nI (gB (lfP (vm M 10) s p e) i), nI i)) (fun i => ¬ (s.testBit i = true ∧ sd (vm M 10) p e i = 0)) 0 24 (fuel := 3000) (exA := .inl (nI (Lpt (vm M 10) s p e))) (exB := fun _ => .inr ()) (by omega) (by omega)
    (fun i _ hi hP => by
      simp only [X5_leftOf_L6, X5_leftOf_L6_j39, X5_leftOf_L6_j73, X5_leftOf_L6_j75, un2_s, bnd_s, if_neg (s24 hi), bt1 hs hi, a240, nI_shl i hi, nI_or, nI_1]
      by_cases c : s.testBit i = true
      · have z : ¬ sd (vm M 10) p e i = 0 := fun h => hP ⟨c, h⟩
        rw [if_pos c, i240, i240, X5_lies_eq (j := 10) (by decide) hc hp hi he, ← sd_ls hV h8 hp hi he (hsub i hi c)]
        simp only [bd1_s, if_neg z, if_pos c]
        rcases sd_vals (vm M 10) p e i with h | h | h
        · exact absurd h z
        · rw [h, if_neg (by decide), gB_or (by unfold lfP; rw [c, h]; rfl)]
        · rw [h, if_pos (by decide), gB_no (by unfold lfP; rw [c, h]; rfl)]
      · rw [if_neg c]
        simp only [i10, if_false, if_neg c]
        rw [gB_no (by unfold lfP; simp at c; rw [c]; rfl)])
    (fun i _ hi hP => by
      have hP' := Classical.not_not.mp hP
      simp only [X5_leftOf_L6, X5_leftOf_L6_j39, un2_s, if_neg (s24 hi), bt1 hs hi, a240]
      rw [if_pos hP'.1, i240, i240, X5_lies_eq (j := 10) (by decide) hc hp hi he, ← sd_ls hV h8 hp hi he (hsub i hi hP'.1)]
      simp only [bd1_s]
      rw [if_pos hP'.2])
    (by simp only [X5_leftOf_L6, un2_s]; rfl)
  have z0 : ((0 : Int32), (0 : Int32)) = (nI (gB (lfP (vm M 10) s p e) 0), nI 0) := rfl
  have hL := Lpt_lt (vm M 10) s p e
  unfold X5_leftOf
  rw [z0]
  rcases key with ⟨h1, h2⟩ | ⟨i, _, hi, h1, h2, h3⟩
  · rw [h2, acB_f 24 (fun i hi => h1 i (by omega) hi)]
    simp only [bdS_l, un1_s, X5_leftOf_j94, X5_leftOf_j100]
    rw [show (0 : Int32) = nI 0 from rfl]
    simp only [nI_eq_iff (show Lpt (vm M 10) s p e < 2147483648 by omega) (show 0 < 2147483648 by omega), nI_eq_iff (show Lpt (vm M 10) s p e < 2147483648 by omega) (show s < 2147483648 by omega)]
    by_cases c1 : Lpt (vm M 10) s p e = 0
    · rw [if_pos c1, if_pos (Or.inr (Or.inl c1))]
    · rw [if_neg c1]
      by_cases c2 : Lpt (vm M 10) s p e = s
      · rw [if_pos c2, if_pos (Or.inr (Or.inr c2))]
      · rw [if_neg c2, if_neg (by simp [c1, c2])]
  · rw [h3, acB_t (Classical.not_not.mp h1) 24 hi]
    simp only [bdS_r, un0_s]
    rw [if_pos (Or.inl trivial)]
end Lft
/-- the k-th edge parts the set -/
def GEd (V : Vw) (s k : Nat) : Prop := s.testBit (k / 8) = true ∧ k % 8 < V.C (k / 8) ∧ acB V s (k / 8) (k % 8) 24 = false ∧ Lpt V s (k / 8) (k % 8) ≠ 0 ∧ Lpt V s (k / 8) (k % 8) ≠ s
def FS (V : Vw) (s : Nat) (r : Int32) : Prop := (∃ k, k < 192 ∧ GEd V s k ∧ (∀ j, j < k → ¬ GEd V s j) ∧ r = nI k) ∨ ((∀ k, k < 192 → ¬ GEd V s k) ∧ r = -1)
section FSs
variable {M : Mem} {s p e : Nat}
theorem fs_step (hc : COk M 1) (hs : s < 16777216) (hb : s.testBit p = true) (hp : p < 24) (he : e < (vw M 1).C p) : (GEd (vw M 1) s (8 * p + e) → X2_firstSeam_L22 M 1 (nI s) (nI p) (nI e) = some (.inr (.inr (nI (8 * p + e))))) ∧ (¬ GEd (vw M 1) s (8 * p + e) → X2_firstSeam_L22 M 1 (nI s) (nI p) (nI e) = some (.inl (nI (e + 1)))) := by
  have h8 := C_le (p := p) hc
  have hL := Lpt_lt (vw M 1) s p e
  have q1 : (8 * p + e) / 8 = p := by omega
  have q2 : (8 * p + e) % 8 = e := by omega
  unfold GEd
  rw [q1, q2]
  have base : X2_firstSeam_L22 M 1 (nI s) (nI p) (nI e) = (if (if acB (vw M 1) s p e 24 = true then 0 else nI (Lpt (vw M 1) s p e)) = 0 then some (.inl (nI (e + 1))) else if (if acB (vw M 1) s p e 24 = true then 0 else nI (Lpt (vw M 1) s p e)) = nI s then some (.inl (nI (e + 1))) else some (.inr (.inr (nI (8 * p + e))))) := by
    simp only [X2_firstSeam_L22, X2_firstSeam_L22_j66, un1_s, bnd_s, ldC (o := 1) hc hp, if_neg (show ¬ nI ((vw M 1).C p) ≤ nI e from nI_ge he (by omega)), ix8, X2_leftPart_eq hc hs hp (show e < 8 by omega), bd1_s, nI_1]
  rw [base]
  by_cases c1 : acB (vw M 1) s p e 24 = true
  · rw [if_pos c1, if_pos rfl]
    exact ⟨fun h => absurd h.2.2.1 (by rw [c1]; decide), fun _ => rfl⟩
  · have c1' : acB (vw M 1) s p e 24 = false := by simpa using c1
    rw [if_neg c1, show (0 : Int32) = nI 0 from rfl]
    simp only [nI_eq_iff (show Lpt (vw M 1) s p e < 2147483648 by omega) (show 0 < 2147483648 by omega), nI_eq_iff (show Lpt (vw M 1) s p e < 2147483648 by omega) (show s < 2147483648 by omega)]
    by_cases c2 : Lpt (vw M 1) s p e = 0
    · rw [if_pos c2]
      exact ⟨fun h => absurd c2 h.2.2.2.1, fun _ => rfl⟩
    · rw [if_neg c2]
      by_cases c3 : Lpt (vw M 1) s p e = s
      · rw [if_pos c3]
        exact ⟨fun h => absurd c3 h.2.2.2.2, fun _ => rfl⟩
      · rw [if_neg c3]
        exact ⟨fun _ => rfl, fun h => absurd ⟨hb, he, c1', c2, c3⟩ h⟩
theorem fs_row (hc : COk M 1) (hs : s < 16777216) (hp : p < 24) (h : ∀ e, e < 8 → ¬ GEd (vw M 1) s (8 * p + e)) : X2_firstSeam_L2 M 1 (nI s) (nI p) = some (.inl (nI (p + 1))) := by
  have h8 := C_le (p := p) hc
  simp only [X2_firstSeam_L2, X2_firstSeam_L2_j72, un1_s, bnd_s, if_neg (s24 hp), bt0 hs hp, nI_1]
  by_cases hb : s.testBit p = true
  · have hl : loop (X2_firstSeam_L22 M 1 (nI s) (nI p)) 3000 (nI 0) = some (.inl ()) := loop_at nI ((vw M 1).C p) (by simp only [X2_firstSeam_L22, un1_s, ldC (o := 1) hc hp, if_pos (show nI ((vw M 1).C p) ≤ nI ((vw M 1).C p) from nI_le (Nat.le_refl _) (by omega))]) ((vw M 1).C p) 0 3000 (by omega) (by omega) (fun i _ h2 => (fs_step hc hs hb hp h2).2 (h i (by omega)))
    rw [if_neg (by rw [hb]; decide), show (0 : Int32) = nI 0 from rfl, hl]
    rfl
  · rw [if_pos (by simpa using hb)]
theorem X2_firstSeam_eq (hc : COk M 1) (hs : s < 16777216) {r : Int32} (hr : FS (vw M 1) s r) : X2_firstSeam M 1 (nI s) = some r := by
  rcases hr with ⟨k, hk, h1, h2, rfl⟩ | ⟨h, rfl⟩
  · have hp : k / 8 < 24 := by omega
    have e8 : 8 * (k / 8) + k % 8 = k := by omega
    have hin : loop (X2_firstSeam_L22 M 1 (nI s) (nI (k / 8))) 3000 (nI 0) = some (.inr (nI k)) := by
      refine loop_at nI (k % 8) ?_ (k % 8) 0 3000 (by omega) (by omega) (fun i _ h4 => (fs_step hc hs h1.1 hp (by have := h1.2.1; omega)).2 (h2 _ (by omega)))
      have := (fs_step hc hs h1.1 hp h1.2.1).1 (by rw [e8]; exact h1)
      rw [e8] at this
      exact this
    have hout : loop (X2_firstSeam_L2 M 1 (nI s)) 3000 (nI 0) = some (.inr (nI k)) := by
      refine loop_at nI (k / 8) ?_ (k / 8) 0 3000 (by omega) (by omega) (fun i _ h4 => fs_row hc hs (by omega) (fun e he => h2 _ (by omega)))
      simp only [X2_firstSeam_L2, un1_s, if_neg (s24 hp), bt0 hs hp]
      rw [if_neg (by rw [h1.1]; decide), show (0 : Int32) = nI 0 from rfl, hin]
      rfl
    unfold X2_firstSeam
    rw [show (0 : Int32) = nI 0 from rfl, hout]
    rfl
  · have hout : loop (X2_firstSeam_L2 M 1 (nI s)) 3000 (nI 0) = some (.inl ()) := loop_at nI 24 (by simp only [X2_firstSeam_L2, un1_s]; rfl) 24 0 3000 (by omega) (by omega) (fun i _ h4 => fs_row hc hs h4 (fun e he => h _ (by omega)))
    unfold X2_firstSeam
    rw [show (0 : Int32) = nI 0 from rfl, hout]
    rfl
end FSs
/-! the two parts of a set -/
def Rpt (V : Vw) (s k : Nat) : Nat := gB (fun i => s.testBit i && !lfP V s (k / 8) (k % 8) i) 24
theorem parts {V : Vw} {s k : Nat} (hs : s < 16777216) (h : GEd V s k) : Rpt V s k < 16777216 ∧ nI s &&& (nI (Lpt V s (k / 8) (k % 8)) ^^^ -1) = nI (Rpt V s k) ∧ cb (Lpt V s (k / 8) (k % 8)) 24 + cb (Rpt V s k) 24 = cb s 24 ∧ 0 < cb (Lpt V s (k / 8) (k % 8)) 24 ∧ 0 < cb (Rpt V s k) 24 ∧ (∀ q, (Lpt V s (k / 8) (k % 8)).testBit q = true → s.testBit q = true) ∧ (∀ q, (Rpt V s k).testBit q = true → s.testBit q = true) := by
  have hl := Lpt_lt V s (k / 8) (k % 8)
  have hr : Rpt V s k < 16777216 := gB_lt _ 24
  have bl : ∀ i, (Lpt V s (k / 8) (k % 8)).testBit i = (decide (i < 24) && lfP V s (k / 8) (k % 8) i) := gB_bit _ 24
  have br : ∀ i, (Rpt V s k).testBit i = (decide (i < 24) && (s.testBit i && !lfP V s (k / 8) (k % 8) i)) := gB_bit _ 24
  have bs : ∀ i, 24 ≤ i → s.testBit i = false := fun i hi => Nat.testBit_lt_two_pow (Nat.lt_of_lt_of_le hs (show 2 ^ 24 ≤ 2 ^ i from Nat.pow_le_pow_right (by omega) hi))
  have fs : ∀ i, lfP V s (k / 8) (k % 8) i = true → s.testBit i = true := by
    intro i hi
    unfold lfP at hi
    simp at hi
    exact hi.1
  refine ⟨hr, nI_andnot (fun i hi => ?_), cb_sum 24 (fun i hi => ?_), cb_pos hl h.2.2.2.1, cb_pos hr (fun e => h.2.2.2.2 ?_), fun q hq => ?_, fun q hq => ?_⟩
  · rw [bl, br]
    by_cases c : i < 24
    · simp only [c, decide_true, Bool.true_and]
    · rw [bs i (by omega)]
      simp
  · have e1 := bl i
    have e2 := br i
    have m1 := bitn (Lpt V s (k / 8) (k % 8)) i
    have m2 := bitn (Rpt V s k) i
    have m3 := bitn s i
    simp only [hi, decide_true, Bool.true_and] at e1 e2
    cases hf : lfP V s (k / 8) (k % 8) i with
    | true =>
      rw [hf] at e1 e2
      have hsi := fs i hf
      rw [e1] at m1
      rw [e2, hsi] at m2
      rw [hsi] at m3
      simp at m1 m2 m3
      omega
    | false =>
      rw [hf] at e1 e2
      rw [e1] at m1
      rw [e2] at m2
      simp at m1 m2
      cases hsi : s.testBit i with
      | true =>
        rw [hsi] at m2 m3
        simp at m2 m3
        omega
      | false =>
        rw [hsi] at m2 m3
        simp at m2 m3
        omega
  · apply Nat.eq_of_testBit_eq
    intro i
    by_cases c : i < 24
    · have e1 := bl i
      have e2 := br i
      rw [e, Nat.zero_testBit] at e2
      simp only [c, decide_true, Bool.true_and] at e1 e2
      rw [e1]
      cases hf : lfP V s (k / 8) (k % 8) i with
      | true => rw [fs i hf]
      | false =>
        rw [hf] at e2
        simpa using e2
    · rw [bs i (by omega), bl]
      simp [c]
  · rw [bl] at hq
    simp at hq
    exact fs q hq.2
  · rw [br] at hq
    simp at hq
    exact hq.2.1
