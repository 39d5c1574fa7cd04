/-! the sizes of a patch -/
theorem gp_eq {M : Mem} {a b : Int32} : X5_gap M a b = some (gp a b) := by
  simp only [X5_gap, X5_gap_j14, gp]
  by_cases h : a ≤ b
  · rw [if_pos h, if_neg (Int32.not_lt.mpr h)]
  · rw [if_neg h, if_pos (Int32.not_le.mp h)]
theorem ab_gp {x y : Nat} (hx : x ≤ 96) (hy : y ≤ 96) : (if 0 ≤ (nI y - nI x) then nI y - nI x else 0 - (nI y - nI x)) = gp (nI x) (nI y) := by
  unfold gp
  simp only [nI_lt_iff (show y < 2147483648 by omega) (show x < 2147483648 by omega)]
  by_cases h : y < x
  · rw [if_pos h, if_neg, Int32.sub_eq_add_neg 0, Int32.neg_sub, Int32.zero_add]
    rw [Int32.le_iff_toInt_le, tI_sub (nI_toInt (by omega)) (nI_toInt (by omega)) (by omega) (by omega), show (0 : Int32).toInt = 0 from rfl]
    omega
  · rw [if_neg h, if_pos]
    rw [Int32.le_iff_toInt_le, tI_sub (nI_toInt (by omega)) (nI_toInt (by omega)) (by omega) (by omega), show (0 : Int32).toInt = 0 from rfl]
    omega
theorem gp_rng {x y : Nat} (hx : x ≤ 96) (hy : y ≤ 96) : ∃ z, z ≤ 96 ∧ gp (nI x) (nI y) = nI z := by
  unfold gp
  simp only [nI_lt_iff (show y < 2147483648 by omega) (show x < 2147483648 by omega)]
  split
  · exact ⟨x - y, by omega, nI_sub (by omega)⟩
  · exact ⟨y - x, by omega, nI_sub (by omega)⟩
/-- coordinates are from 0 to 96 -/
def Rg (V : Vw) : Prop := ∀ i, i < 192 → (∃ x, x ≤ 96 ∧ V.X i = nI x) ∧ ∃ y, y ≤ 96 ∧ V.Y i = nI y
section Sz
variable {M : Mem} {o j p : Nat}
theorem X1_half_eq (hc : COk M o) (hp : p < 24) (hr : Rg (vw M o)) : X1_halfSquareEdge M o (nI p) = some (hs (vw M o) p) := by
  have h8 := C_le (p := p) hc
  unfold X1_halfSquareEdge hs
  rw [ldC (o := o) hc hp]
  simp only [show (3 : Int32) = nI 3 from rfl, nI_eq_iff (show (vw M o).C p < 2147483648 by omega) (show 3 < 2147483648 by decide)]
  by_cases h3 : (vw M o).C p = 3
  · rw [if_pos h3, if_pos h3]
    have e : loop (X1_halfSquareEdge_L19 M o (nI p)) 3000 ((0 : Int32), (0 : Int32), (0 : Int32)) = some (lvN (vw M o) p 3, upN (vw M o) p 3) := by
      refine loop_for (fun k => (lvN (vw M o) p k, upN (vw M o) p k, nI k)) 3 (by omega) (fun k hk => ?_) (by simp only [X1_halfSquareEdge_L19, un3_s]; rfl)
      have hn := nx_ltC (V := vw M o) (p := p) (k := k) (by omega)
      obtain ⟨⟨xa, l1, e1⟩, ya, l2, e2⟩ := hr (8 * p + k) (by omega)
      obtain ⟨⟨xb, l3, e3⟩, yb, l4, e4⟩ := hr (8 * p + nx (vw M o) p k) (by omega)
      simp only [X1_halfSquareEdge_L19, X1_halfSquareEdge_L19_j84, X1_halfSquareEdge_L19_j120, un3_s, bnd_s, if_neg (show ¬ (3 : Int32) ≤ nI k from nI_ge (b := 3) hk (by decide)), ix8, X1_next_eq hc hp (show k < 1000 by omega), bd1_s, ldX (o := o) (show 8 * p + k < 192 by omega), ldY (o := o) (show 8 * p + k < 192 by omega), ldX (o := o) (show 8 * p + nx (vw M o) p k < 192 by omega), ldY (o := o) (show 8 * p + nx (vw M o) p k < 192 by omega), e1, e2, e3, e4, ab_gp l1 l3, ab_gp l2 l4, nI_1, lvN, upN]
      by_cases c1 : nI ya = nI yb
      · rw [if_pos c1, if_pos c1]
        by_cases c2 : nI xa = nI xb
        · rw [if_pos c2, if_pos c2]
        · rw [if_neg c2, if_neg c2]
      · rw [if_neg c1, if_neg c1]
        by_cases c2 : nI xa = nI xb
        · rw [if_pos c2, if_pos c2]
        · rw [if_neg c2, if_neg c2]
    rw [e]
    simp only [bd2_s, X1_halfSquareEdge_j136]
    split <;> rfl
  · rw [if_neg h3, if_neg h3]
theorem X5_half_eq (hj : j < 11) (hc : COkM M j) (hp : p < 24) : X5_half M (nI (24 * j + p)) = some (hs (vm M j) p) := by
  have h8 := Cm_le (p := p) hc
  unfold X5_half hs
  rw [ldmC hj hc hp]
  simp only [show (3 : Int32) = nI 3 from rfl, nI_eq_iff (show (vm M j).C p < 2147483648 by omega) (show 3 < 2147483648 by decide)]
  by_cases h3 : (vm M j).C p = 3
  · rw [if_pos h3, if_pos h3]
    have e : loop (X5_half_L19 M (nI (24 * j + p))) 3000 ((0 : Int32), (0 : Int32), (0 : Int32)) = some (lvN (vm M j) p 3, upN (vm M j) p 3) := by
      refine loop_for (fun k => (lvN (vm M j) p k, upN (vm M j) p k, nI k)) 3 (by omega) (fun k hk => ?_) (by simp only [X5_half_L19, un3_s]; rfl)
      have hn := nx_ltC (V := vm M j) (p := p) (k := k) (by omega)
      simp only [X5_half_L19, X5_half_L19_j81, X5_half_L19_j120, un3_s, bnd_s, if_neg (show ¬ (3 : Int32) ≤ nI k from nI_ge (b := 3) hk (by decide)), ixm, X5_next_eq hj hc hp (show k < (vm M j).C p by omega), bd1_s, ldmX hj (show 8 * p + k < 192 by omega), ldmY hj (show 8 * p + k < 192 by omega), ldmX hj (show 8 * p + nx (vm M j) p k < 192 by omega), ldmY hj (show 8 * p + nx (vm M j) p k < 192 by omega), gp_eq, nI_1, lvN, upN]
      by_cases c1 : (vm M j).Y (8 * p + k) = (vm M j).Y (8 * p + nx (vm M j) p k)
      · rw [if_pos c1, if_pos c1]
        by_cases c2 : (vm M j).X (8 * p + k) = (vm M j).X (8 * p + nx (vm M j) p k)
        · rw [if_pos c2, if_pos c2]
        · rw [if_neg c2, if_neg c2]
      · rw [if_neg c1, if_neg c1]
        by_cases c2 : (vm M j).X (8 * p + k) = (vm M j).X (8 * p + nx (vm M j) p k)
        · rw [if_pos c2, if_pos c2]
        · rw [if_neg c2, if_neg c2]
    rw [e]
    simp only [bd2_s, X5_half_j137]
    split <;> rfl
  · rw [if_neg h3, if_neg h3]
theorem X1_width_eq (hc : COk M o) (hp : p < 24) : X1_patchWidth M o (nI p) = some (exW (vw M o) p) := by
  have h8 := C_le (p := p) hc
  have e : loop (X1_extent_L9 M o (nI p) (o + 1) 192) 3000 ((96 : Int32), (0 : Int32), (0 : Int32)) = some (loN (vw M o).X (8 * p) ((vw M o).C p), hiN (vw M o).X (8 * p) ((vw M o).C p)) := by
    refine loop_for (fun c => (loN (vw M o).X (8 * p) c, hiN (vw M o).X (8 * p) c, nI c)) ((vw M o).C p) (by omega) (fun c hcc => ?_) ?_
    · simp only [X1_extent_L9, un3_s, bnd_s, ldC (o := o) hc hp, if_neg (show ¬ nI ((vw M o).C p) ≤ nI c from nI_ge hcc (by omega)), ix8, ldX (o := o) (show 8 * p + c < 192 by omega), nI_1, loN, hiN]
    · simp only [X1_extent_L9, un3_s, ldC (o := o) hc hp, if_pos (show nI ((vw M o).C p) ≤ nI ((vw M o).C p) from nI_le (Nat.le_refl _) (by omega))]
  unfold X1_patchWidth X1_extent
  rw [e]
  rfl
theorem X1_height_eq (hc : COk M o) (hp : p < 24) : X1_patchHeight M o (nI p) = some (exH (vw M o) p) := by
  have h8 := C_le (p := p) hc
  have e : loop (X1_extent_L9 M o (nI p) (o + 2) 192) 3000 ((96 : Int32), (0 : Int32), (0 : Int32)) = some (loN (vw M o).Y (8 * p) ((vw M o).C p), hiN (vw M o).Y (8 * p) ((vw M o).C p)) := by
    refine loop_for (fun c => (loN (vw M o).Y (8 * p) c, hiN (vw M o).Y (8 * p) c, nI c)) ((vw M o).C p) (by omega) (fun c hcc => ?_) ?_
    · simp only [X1_extent_L9, un3_s, bnd_s, ldC (o := o) hc hp, if_neg (show ¬ nI ((vw M o).C p) ≤ nI c from nI_ge hcc (by omega)), ix8, ldY (o := o) (show 8 * p + c < 192 by omega), nI_1, loN, hiN]
    · simp only [X1_extent_L9, un3_s, ldC (o := o) hc hp, if_pos (show nI ((vw M o).C p) ≤ nI ((vw M o).C p) from nI_le (Nat.le_refl _) (by omega))]
  unfold X1_patchHeight X1_extent
  rw [e]
  rfl
theorem X5_spreadX_eq (hj : j < 11) (hc : COkM M j) (hp : p < 24) : X5_spread M (nI (24 * j + p)) 30 2112 = some (exW (vm M j) p) := by
  have h8 := Cm_le (p := p) hc
  have e : loop (X5_spread_L9 M (nI (24 * j + p)) 30 2112) 3000 ((96 : Int32), (0 : Int32), (0 : Int32)) = some (loN (vm M j).X (8 * p) ((vm M j).C p), hiN (vm M j).X (8 * p) ((vm M j).C p)) := by
    refine loop_for (fun c => (loN (vm M j).X (8 * p) c, hiN (vm M j).X (8 * p) c, nI c)) ((vm M j).C p) (by omega) (fun c hcc => ?_) ?_
    · simp only [X5_spread_L9, X5_spread_L9_j46, X5_spread_L9_j75, un3_s, bnd_s, ldmC hj hc hp, if_neg (show ¬ nI ((vm M j).C p) ≤ nI c from nI_ge hcc (by omega)), ixm, ldmX hj (show 8 * p + c < 192 by omega), nI_1, loN, hiN]
      by_cases c1 : loN (vm M j).X (8 * p) c ≤ (vm M j).X (8 * p + c)
      · rw [if_pos c1, if_neg (Int32.not_lt.mpr c1)]
        by_cases c2 : (vm M j).X (8 * p + c) ≤ hiN (vm M j).X (8 * p) c
        · rw [if_pos c2, if_neg (Int32.not_lt.mpr c2)]
        · rw [if_neg c2, if_pos (Int32.not_le.mp c2)]
      · rw [if_neg c1, if_pos (Int32.not_le.mp c1)]
        by_cases c2 : (vm M j).X (8 * p + c) ≤ hiN (vm M j).X (8 * p) c
        · rw [if_pos c2, if_neg (Int32.not_lt.mpr c2)]
        · rw [if_neg c2, if_pos (Int32.not_le.mp c2)]
    · simp only [X5_spread_L9, un3_s, ldmC hj hc hp, if_pos (show nI ((vm M j).C p) ≤ nI ((vm M j).C p) from nI_le (Nat.le_refl _) (by omega))]
  unfold X5_spread
  rw [e]
  rfl
theorem X5_spreadY_eq (hj : j < 11) (hc : COkM M j) (hp : p < 24) : X5_spread M (nI (24 * j + p)) 31 2112 = some (exH (vm M j) p) := by
  have h8 := Cm_le (p := p) hc
  have e : loop (X5_spread_L9 M (nI (24 * j + p)) 31 2112) 3000 ((96 : Int32), (0 : Int32), (0 : Int32)) = some (loN (vm M j).Y (8 * p) ((vm M j).C p), hiN (vm M j).Y (8 * p) ((vm M j).C p)) := by
    refine loop_for (fun c => (loN (vm M j).Y (8 * p) c, hiN (vm M j).Y (8 * p) c, nI c)) ((vm M j).C p) (by omega) (fun c hcc => ?_) ?_
    · simp only [X5_spread_L9, X5_spread_L9_j46, X5_spread_L9_j75, un3_s, bnd_s, ldmC hj hc hp, if_neg (show ¬ nI ((vm M j).C p) ≤ nI c from nI_ge hcc (by omega)), ixm, ldmY hj (show 8 * p + c < 192 by omega), nI_1, loN, hiN]
      by_cases c1 : loN (vm M j).Y (8 * p) c ≤ (vm M j).Y (8 * p + c)
      · rw [if_pos c1, if_neg (Int32.not_lt.mpr c1)]
        by_cases c2 : (vm M j).Y (8 * p + c) ≤ hiN (vm M j).Y (8 * p) c
        · rw [if_pos c2, if_neg (Int32.not_lt.mpr c2)]
        · rw [if_neg c2, if_pos (Int32.not_le.mp c2)]
      · rw [if_neg c1, if_pos (Int32.not_le.mp c1)]
        by_cases c2 : (vm M j).Y (8 * p + c) ≤ hiN (vm M j).Y (8 * p) c
        · rw [if_pos c2, if_neg (Int32.not_lt.mpr c2)]
        · rw [if_neg c2, if_pos (Int32.not_le.mp c2)]
    · simp only [X5_spread_L9, un3_s, ldmC hj hc hp, if_pos (show nI ((vm M j).C p) ≤ nI ((vm M j).C p) from nI_le (Nat.le_refl _) (by omega))]
  unfold X5_spread
  rw [e]
  rfl
end Sz
theorem lvup_rng {V : Vw} (hr : Rg V) {p : Nat} (hp : p < 24) (h3 : V.C p = 3) : ∀ k, k ≤ 3 → (∃ z, z ≤ 96 ∧ lvN V p k = nI z) ∧ ∃ z, z ≤ 96 ∧ upN V p k = nI z
  | 0, _ => ⟨⟨0, by omega, rfl⟩, 0, by omega, rfl⟩
  | k + 1, hk => by
    obtain ⟨i1, i2⟩ := lvup_rng hr hp h3 k (by omega)
    have hn := nx_ltC (V := V) (p := p) (k := k) (by omega)
    obtain ⟨⟨xa, l1, e1⟩, ya, l2, e2⟩ := hr (8 * p + k) (by omega)
    obtain ⟨⟨xb, l3, e3⟩, yb, l4, e4⟩ := hr (8 * p + nx V p k) (by omega)
    unfold lvN upN
    rw [e1, e2, e3, e4]
    constructor
    · split
      · exact gp_rng l1 l3
      · exact i1
    · split
      · exact gp_rng l2 l4
      · exact i2
theorem hs_rng {V : Vw} (hr : Rg V) {p : Nat} (hp : p < 24) : ∃ e, e ≤ 96 ∧ hs V p = nI e := by
  unfold hs
  split
  · next h3 =>
    split
    · exact (lvup_rng hr hp h3 3 (by omega)).1
    · exact ⟨0, by omega, rfl⟩
  · exact ⟨0, by omega, rfl⟩
theorem lohi_rng {f : Nat → Int32} {b : Nat} : ∀ c, (∀ i, i < c → ∃ x, x ≤ 96 ∧ f (b + i) = nI x) → ∃ lo hi, lo ≤ 96 ∧ hi ≤ 96 ∧ loN f b c = nI lo ∧ hiN f b c = nI hi ∧ (0 < c → lo ≤ hi)
  | 0, _ => ⟨96, 0, by omega, by omega, rfl, rfl, by omega⟩
  | c + 1, h => by
    obtain ⟨lo, hi, l1, l2, e1, e2, l3⟩ := lohi_rng c (fun i hi => h i (by omega))
    obtain ⟨x, hx, ex⟩ := h c (by omega)
    unfold loN hiN
    rw [ex, e1, e2]
    simp only [nI_lt_iff (show x < 2147483648 by omega) (show lo < 2147483648 by omega), nI_lt_iff (show hi < 2147483648 by omega) (show x < 2147483648 by omega)]
    refine ⟨if x < lo then x else lo, if hi < x then x else hi, ?_, ?_, ?_, ?_, ?_⟩
    · split <;> omega
    · split <;> omega
    · split <;> rfl
    · split <;> rfl
    · intro _
      by_cases c0 : 0 < c
      · have := l3 c0
        split <;> split <;> omega
      · have hc0 : c = 0 := by omega
        subst hc0
        have a1 : loN f b 0 = nI 96 := rfl
        have a2 : hiN f b 0 = nI 0 := rfl
        rw [a1, nI_eq_iff (by omega) (by omega)] at e1
        rw [a2, nI_eq_iff (by omega) (by omega)] at e2
        split <;> split <;> omega
theorem ex_rng {V : Vw} (hr : Rg V) (h8 : ∀ p, V.C p ≤ 8) {p : Nat} (hp : p < 24) (hc : 0 < V.C p) : (∃ w, w ≤ 96 ∧ exW V p = nI w) ∧ ∃ h, h ≤ 96 ∧ exH V p = nI h := by
  have h8p := h8 p
  obtain ⟨lo, hi, l1, l2, e1, e2, l3⟩ := lohi_rng (f := V.X) (b := 8 * p) (V.C p) (fun i hi => (hr (8 * p + i) (by omega)).1)
  obtain ⟨lo', hi', m1, m2, f1, f2, m3⟩ := lohi_rng (f := V.Y) (b := 8 * p) (V.C p) (fun i hi => (hr (8 * p + i) (by omega)).2)
  have := l3 hc
  have := m3 hc
  refine ⟨⟨hi - lo, by omega, ?_⟩, hi' - lo', by omega, ?_⟩
  · unfold exW
    rw [e1, e2, nI_sub (by omega)]
  · unfold exH
    rw [f1, f2, nI_sub (by omega)]
