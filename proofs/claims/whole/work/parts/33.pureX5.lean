theorem nI_sub {a b : Nat} (h : b ≤ a) : nI a - nI b = nI (a - b) := by
  have e : nI a = nI (a - b) + nI b := by rw [nI_add, show a - b + b = a by omega]
  rw [e, Int32.add_sub_cancel]
theorem nI_div {a b : Nat} (ha : a < 2147483648) (hb : b < 2147483648) (h0 : 0 < b) : nI a / nI b = nI (a / b) := by
  apply Int32.toInt_inj.mp
  have hd : a / b ≤ a := Nat.div_le_self a b
  have ht : ((a : Int).tdiv (b : Int)) = ((a / b : Nat) : Int) := rfl
  rw [Int32.toInt_div, nI_toInt ha, nI_toInt hb, ht, nI_toInt (show a / b < 2 ^ 31 by omega)]
  generalize a / b = d at hd
  exact Int.bmod_eq_of_le (by omega) (by omega)
theorem nI_rem {a b : Nat} (ha : a < 2147483648) (hb : b < 2147483648) (h0 : 0 < b) : nI a - nI a / nI b * nI b = nI (a % b) := by
  rw [nI_div ha hb h0, nI_mul, nI_sub (Nat.div_mul_le_self a b)]
  congr 1
  have := Nat.div_add_mod a b
  rw [Nat.mul_comm] at this
  omega
theorem sub3 (x y z : Int32) : x + y - z = x + (y - z) := by
  rw [Int32.sub_eq_add_neg, Int32.sub_eq_add_neg, Int32.add_assoc]
def okB (V : Vw) (p k c : Nat) : Bool := c == k || (c == nx V p k || decide (0 < be V p k p c))
def inN (V : Vw) (p k : Nat) (x : Int32) : Nat → Int32
  | 0 => x
  | c + 1 => if inN V p k x c = 0 then 0 else if okB V p k c = true then 1 else 0
def ouN (V : Vw) (p : Nat) : Nat → Int32
  | 0 => 1
  | k + 1 => inN V p k (ouN V p k) (V.C p)
theorem inN_01 (V : Vw) (p k : Nat) (x : Int32) (hx : x = 0 ∨ x = 1) : ∀ c, (inN V p k x c = 1 ∧ x = 1 ∧ ∀ i, i < c → okB V p k i = true) ∨ (inN V p k x c = 0 ∧ (x = 0 ∨ ∃ i, i < c ∧ ¬ okB V p k i = true))
  | 0 => by
    rcases hx with rfl | rfl
    · exact Or.inr ⟨rfl, Or.inl rfl⟩
    · exact Or.inl ⟨rfl, rfl, fun i h => absurd h (by omega)⟩
  | c + 1 => by
    unfold inN
    rcases inN_01 V p k x hx c with ⟨h1, h2, h3⟩ | ⟨h1, h2⟩
    · rw [h1, if_neg (by decide)]
      by_cases h : okB V p k c = true
      · rw [if_pos h]
        refine Or.inl ⟨rfl, h2, fun i hi => ?_⟩
        by_cases e : i = c
        · rw [e]; exact h
        · exact h3 i (by omega)
      · rw [if_neg h]
        exact Or.inr ⟨rfl, Or.inr ⟨c, by omega, h⟩⟩
    · rw [h1, if_pos rfl]
      refine Or.inr ⟨rfl, h2.imp id (fun ⟨i, h3, h4⟩ => ⟨i, by omega, h4⟩)⟩
theorem okB_iff {V : Vw} {p k c : Nat} : okB V p k c = true ↔ (c ≠ k → c ≠ nx V p k → 0 < be V p k p c) := by
  unfold okB
  rw [Bool.or_eq_true, Bool.or_eq_true, beq_iff_eq, beq_iff_eq, decide_eq_true_eq]
  constructor
  · intro h h1 h2
    rcases h with h | h | h
    · exact absurd h h1
    · exact absurd h h2
    · exact h
  · intro h
    by_cases h1 : c = k
    · exact Or.inl h1
    · by_cases h2 : c = nx V p k
      · exact Or.inr (Or.inl h2)
      · exact Or.inr (Or.inr (h h1 h2))
theorem ouN_01 (V : Vw) (p : Nat) : ∀ k, (ouN V p k = 1 ∧ ∀ i, i < k → ∀ c, c < V.C p → okB V p i c = true) ∨ (ouN V p k = 0 ∧ ∃ i, i < k ∧ ∃ c, c < V.C p ∧ ¬ okB V p i c = true)
  | 0 => Or.inl ⟨rfl, fun i h => absurd h (by omega)⟩
  | k + 1 => by
    unfold ouN
    rcases ouN_01 V p k with ⟨h1, h2⟩ | ⟨h1, i, h2, c, h3, h4⟩
    · rcases inN_01 V p k (ouN V p k) (Or.inr h1) (V.C p) with ⟨g1, g2, g3⟩ | ⟨g1, g2⟩
      · refine Or.inl ⟨g1, fun i hi c hc => ?_⟩
        by_cases e : i = k
        · rw [e]; exact g3 c hc
        · exact h2 i (by omega) c hc
      · rcases g2 with g2 | ⟨c, g3, g4⟩
        · rw [h1] at g2; exact absurd g2 (by decide)
        · exact Or.inr ⟨g1, k, by omega, c, g3, g4⟩
    · rcases inN_01 V p k (ouN V p k) (Or.inl h1) (V.C p) with ⟨g1, g2, g3⟩ | ⟨g1, g2⟩
      · rw [h1] at g2; exact absurd g2 (by decide)
      · exact Or.inr ⟨g1, i, by omega, c, h3, h4⟩
theorem ouN_cvx {V : Vw} {p : Nat} : (Cvx V p → ouN V p (V.C p) = 1) ∧ (¬ Cvx V p → ouN V p (V.C p) = 0) := by
  rcases ouN_01 V p (V.C p) with ⟨h1, h2⟩ | ⟨h1, i, h2, c, h3, h4⟩
  · exact ⟨fun _ => h1, fun h => absurd (fun k hk c hc e1 e2 => okB_iff.mp (h2 k hk c hc) e1 e2) h⟩
  · exact ⟨fun h => absurd (okB_iff.mpr (h i h2 c h3)) h4, fun _ => h1⟩
def apN (V : Vw) (p q : Nat) (x : Int32) : Nat → Int32
  | 0 => x
  | k + 1 => if ls V p k q = -1 then 1 else apN V p q x k
theorem apN_01 (V : Vw) (p q : Nat) (x : Int32) (hx : x = 0 ∨ x = 1) : ∀ c, (apN V p q x c = 1 ∧ (x = 1 ∨ ∃ e, e < c ∧ ls V p e q = -1)) ∨ (apN V p q x c = 0 ∧ x = 0 ∧ ∀ e, e < c → ¬ ls V p e q = -1)
  | 0 => by
    rcases hx with rfl | rfl
    · exact Or.inr ⟨rfl, rfl, fun i h => absurd h (by omega)⟩
    · exact Or.inl ⟨rfl, Or.inl rfl⟩
  | c + 1 => by
    unfold apN
    by_cases h : ls V p c q = -1
    · rw [if_pos h]; exact Or.inl ⟨rfl, Or.inr ⟨c, by omega, h⟩⟩
    · rw [if_neg h]
      rcases apN_01 V p q x hx c with ⟨h1, h2⟩ | ⟨h1, h2, h3⟩
      · exact Or.inl ⟨h1, h2.imp id (fun ⟨e, h3, h4⟩ => ⟨e, by omega, h4⟩)⟩
      · refine Or.inr ⟨h1, h2, fun e he => ?_⟩
        by_cases e1 : e = c
        · rw [e1]; exact h
        · exact h3 e (by omega)
section PX5
variable {M : Mem} {j p q k e : Nat}
theorem X5_next_eq (hj : j < 11) (hc : COkM M j) (hp : p < 24) (hk : k < (vm M j).C p) : X5_next M (nI (24 * j + p)) (nI k) = some (nI (192 * j + (8 * p + nx (vm M j) p k))) := by
  have hC := Cm_le (p := p) hc
  have e0 : 8 * nI (24 * j + p) + 0 = nI (192 * j + (8 * p + 0)) := ixm j p 0
  simp only [X5_next, X5_next_j23, ldmC hj hc hp, nI_1, nx, ixm, e0]
  by_cases h : (vm M j).C p ≤ k + 1
  · rw [if_pos (by rw [show k + 1 = (vm M j).C p by omega]), if_pos h]
  · rw [if_neg (fun e => h (by have := (nI_eq (by omega) (by omega)).mp e; omega)), if_neg h]
theorem X5_side_eq (hj : j < 11) (hc : COkM M j) (hp : p < 24) (hk : k < (vm M j).C p) {x y : Int32} : X5_side M (nI (24 * j + p)) (nI k) x y = some (((vm M j).X (8 * p + nx (vm M j) p k) - (vm M j).X (8 * p + k)) * (y - (vm M j).Y (8 * p + k)) - ((vm M j).Y (8 * p + nx (vm M j) p k) - (vm M j).Y (8 * p + k)) * (x - (vm M j).X (8 * p + k))) := by
  have hC := Cm_le (p := p) hc
  have hn := nx_lt (p := p) (k := k) hC
  simp only [X5_side, bnd_s, bd1_s, ixm, X5_next_eq hj hc hp hk, ldmX hj (show 8 * p + k < 192 by omega), ldmY hj (show 8 * p + k < 192 by omega), ldmX hj (show 8 * p + nx (vm M j) p k < 192 by omega), ldmY hj (show 8 * p + nx (vm M j) p k < 192 by omega)]
theorem X5_side_be (hj : j < 11) (hc : COkM M j) (hp : p < 24) (hk : k < (vm M j).C p) {c : Nat} : X5_side M (nI (24 * j + p)) (nI k) ((vm M j).X (8 * q + c)) ((vm M j).Y (8 * q + c)) = some (be (vm M j) p k q c) := X5_side_eq hj hc hp hk
theorem X5_areaOf_eq (hj : j < 11) (hc : COkM M j) (hp : p < 24) : X5_areaOf M (nI (24 * j + p)) = some (dA (vm M j) p ((vm M j).C p)) := by
  have hC := Cm_le (p := p) hc
  have h : loop (X5_areaOf_L4 M (nI (24 * j + p))) 3000 ((0 : Int32), (0 : Int32)) = some (dA (vm M j) p ((vm M j).C p)) := by
    refine loop_for (fun i => (dA (vm M j) p i, nI i)) ((vm M j).C p) (by omega) (fun i hi => ?_) ?_
    · have hn := nx_lt (p := p) (k := i) hC
      simp only [X5_areaOf_L4, un2_s, bnd_s, bd1_s, ldmC hj hc hp, if_neg (nI_ge hi (show (vm M j).C p < 2 ^ 31 by omega)), ixm, X5_next_eq hj hc hp hi, ldmX hj (show 8 * p + i < 192 by omega), ldmY hj (show 8 * p + i < 192 by omega), ldmX hj (show 8 * p + nx (vm M j) p i < 192 by omega), ldmY hj (show 8 * p + nx (vm M j) p i < 192 by omega), nI_1, dA, sub3]
    · simp only [X5_areaOf_L4, un2_s, ldmC hj hc hp, if_pos (nI_le (Nat.le_refl ((vm M j).C p)) (show (vm M j).C p < 2 ^ 31 by omega))]
  simp only [X5_areaOf, bd1_s, h]
theorem mcvx_in (hj : j < 11) (hc : COkM M j) (hp : p < 24) (hk : k < (vm M j).C p) (x : Int32) : loop (X5_isConvex_L17 M (nI (24 * j + p)) (nI k)) 3000 (x, (0 : Int32)) = some (inN (vm M j) p k x ((vm M j).C p)) := by
  have hC := Cm_le (p := p) hc
  have hn := nx_lt (p := p) (k := k) hC
  refine loop_for (fun c => (inN (vm M j) p k x c, nI c)) ((vm M j).C p) (by omega) (fun c h1 => ?_) ?_
  · simp only [X5_isConvex_L17, X5_isConvex_L17_j81, X5_isConvex_L17_j85, X5_isConvex_L17_j86, un2_s, bnd_s, bd1_s, ldmC hj hc hp, if_neg (nI_ge h1 (show (vm M j).C p < 2 ^ 31 by omega)), ixm, X5_next_eq hj hc hp hk, ldmX hj (show 8 * p + c < 192 by omega), ldmY hj (show 8 * p + c < 192 by omega), X5_side_be hj hc hp hk, nI_1, inN]
    have t1 : ∀ x : Int32, x ≤ 0 ↔ ¬ 0 < x := fun x => by rw [Int32.le_iff_toInt_le, Int32.lt_iff_toInt_lt]; omega
    have t2 : (nI c = nI k) = (c = k) := propext (nI_eq (by omega) (by omega))
    have t3 : (nI (192 * j + (8 * p + c)) = nI (192 * j + (8 * p + nx (vm M j) p k))) = (c = nx (vm M j) p k) := propext ((nI_eq (by omega) (by omega)).trans ⟨fun h => by omega, fun h => by omega⟩)
    by_cases h0 : inN (vm M j) p k x c = 0
    · rw [if_pos h0, if_pos h0]
    · rw [if_neg h0, if_neg h0]
      by_cases h2 : c = k
      · rw [if_pos (by rw [h2]), if_pos (by simp [okB, h2])]
      · rw [if_neg (by rw [t2]; exact h2)]
        by_cases h3 : c = nx (vm M j) p k
        · rw [if_pos (by rw [t3]; exact h3), if_pos (by unfold okB; rw [h3]; simp)]
        · rw [if_neg (by rw [t3]; exact h3)]
          by_cases h4 : 0 < be (vm M j) p k p c
          · rw [if_neg (by rw [t1]; simpa using h4), if_pos (by simp [okB, h4])]
          · rw [if_pos (by rw [t1]; exact h4), if_neg (by simp [okB, h2, h3, h4])]
  · simp only [X5_isConvex_L17, un2_s, ldmC hj hc hp, if_pos (nI_le (Nat.le_refl ((vm M j).C p)) (show (vm M j).C p < 2 ^ 31 by omega))]
theorem X5_isConvex_eq (hj : j < 11) (hc : COkM M j) (hp : p < 24) : (Cvx (vm M j) p → X5_isConvex M (nI (24 * j + p)) = some 1) ∧ (¬ Cvx (vm M j) p → X5_isConvex M (nI (24 * j + p)) = some 0) := by
  have hC := Cm_le (p := p) hc
  have h : loop (X5_isConvex_L4 M (nI (24 * j + p))) 3000 ((1 : Int32), (0 : Int32)) = some (ouN (vm M j) p ((vm M j).C p)) := by
    refine loop_for (fun k => (ouN (vm M j) p k, nI k)) ((vm M j).C p) (by omega) (fun k hk => ?_) ?_
    · simp only [X5_isConvex_L4, un2_s, bnd_s, bd1_s, ldmC hj hc hp, if_neg (nI_ge hk (show (vm M j).C p < 2 ^ 31 by omega)), mcvx_in hj hc hp hk, nI_1, ouN]
    · simp only [X5_isConvex_L4, un2_s, ldmC hj hc hp, if_pos (nI_le (Nat.le_refl ((vm M j).C p)) (show (vm M j).C p < 2 ^ 31 by omega))]
  refine ⟨fun h1 => ?_, fun h1 => ?_⟩
  · simp only [X5_isConvex, h, bd1_s, ouN_cvx.1 h1, chk1]
  · simp only [X5_isConvex, h, bd1_s, ouN_cvx.2 h1, chk0]
theorem X5_lies_eq (hj : j < 11) (hc : COkM M j) (hp : p < 24) (hq : q < 24) (he : e < (vm M j).C p) : X5_lies M (nI (24 * j + q)) (nI (24 * j + p)) (nI e) = some (ls (vm M j) p e q) := by
  have hC := Cm_le (p := q) hc
  have h : loop (X5_lies_L9 M (nI (24 * j + q)) (nI (24 * j + p)) (nI e)) 3000 ((1 : Int32), (1 : Int32), (0 : Int32)) = some (1 - rtN (vm M j) p e q ((vm M j).C q), 1 - lfN (vm M j) p e q ((vm M j).C q)) := by
    have e0 : ((1 : Int32), (1 : Int32), (0 : Int32)) = (fun i => (1 - rtN (vm M j) p e q i, 1 - lfN (vm M j) p e q i, nI i)) 0 := by
      show ((1 : Int32), (1 : Int32), (0 : Int32)) = (1 - 0, 1 - 0, nI 0)
      decide
    rw [e0]
    refine loop_for (fun i => (1 - rtN (vm M j) p e q i, 1 - lfN (vm M j) p e q i, nI i)) ((vm M j).C q) (by omega) (fun i hi => ?_) ?_
    · simp only [X5_lies_L9, X5_lies_L9_j66, X5_lies_L9_j67, X5_lies_L9_j83, X5_lies_L9_j84, un3_s, bnd_s, bd1_s, ldmC hj hc hq, if_neg (nI_ge hi (show (vm M j).C q < 2 ^ 31 by omega)), ixm, ldmX hj (show 8 * q + i < 192 by omega), ldmY hj (show 8 * q + i < 192 by omega), X5_side_be hj hc hp he, nI_1, lfN, rtN]
      generalize be (vm M j) p e q i = x
      have z1 : (1 : Int32) - 1 = 0 := by decide
      have z2 : (1 : Int32) - 0 = 1 := by decide
      rcases lfN_01 (vm M j) p e q i with ⟨h1, -⟩ | ⟨h1, -⟩ <;> rcases rtN_01 (vm M j) p e q i with ⟨g1, -⟩ | ⟨g1, -⟩ <;> rw [h1, g1] <;> by_cases hx : 0 < x <;> by_cases hy : x < 0 <;> simp [hx, hy, z1, z2]
    · simp only [X5_lies_L9, un3_s, ldmC hj hc hq, if_pos (nI_le (Nat.le_refl ((vm M j).C q)) (show (vm M j).C q < 2 ^ 31 by omega))]
  simp only [X5_lies, X5_lies_j111, h, bd2_s, ls]
  rcases lfN_01 (vm M j) p e q ((vm M j).C q) with ⟨h1, -⟩ | ⟨h1, -⟩ <;> rcases rtN_01 (vm M j) p e q ((vm M j).C q) with ⟨g1, -⟩ | ⟨g1, -⟩ <;> rw [h1, g1] <;> decide
theorem X5_apart_eq (hj : j < 11) (hc : COkM M j) (hp : p < 24) (hq : q < 24) : (Pt1 (vm M j) p q ∨ Pt1 (vm M j) q p → X5_apart M (nI (24 * j + p)) (nI (24 * j + q)) = some 1) ∧ (¬ (Pt1 (vm M j) p q ∨ Pt1 (vm M j) q p) → X5_apart M (nI (24 * j + p)) (nI (24 * j + q)) = some 0) := by
  have hC := Cm_le (p := p) hc
  have hD := Cm_le (p := q) hc
  have hm : ¬ (-1 : Int32) = 0 := by decide
  have l1 : loop (X5_apart_L5 M (nI (24 * j + p)) (nI (24 * j + q))) 3000 ((0 : Int32), (0 : Int32)) = some (apN (vm M j) p q 0 ((vm M j).C p)) := by
    refine loop_for (fun i => (apN (vm M j) p q 0 i, nI i)) ((vm M j).C p) (by omega) (fun i hi => ?_) ?_
    · simp only [X5_apart_L5, X5_apart_L5_j32, X5_apart_L5_j37, un2_s, bnd_s, bd1_s, ldmC hj hc hp, if_neg (nI_ge hi (show (vm M j).C p < 2 ^ 31 by omega)), X5_lies_eq hj hc hp hq hi, nI_1, apN]
      rcases apN_01 (vm M j) p q 0 (Or.inl rfl) i with ⟨h1, -⟩ | ⟨h1, -⟩ <;> rw [h1] <;> by_cases hx : ls (vm M j) p i q = -1 <;> simp [hx]
    · simp only [X5_apart_L5, un2_s, ldmC hj hc hp, if_pos (nI_le (Nat.le_refl ((vm M j).C p)) (show (vm M j).C p < 2 ^ 31 by omega))]
  have a1 := apN_01 (vm M j) p q 0 (Or.inl rfl) ((vm M j).C p)
  have hx : apN (vm M j) p q 0 ((vm M j).C p) = 0 ∨ apN (vm M j) p q 0 ((vm M j).C p) = 1 := a1.elim (fun h => Or.inr h.1) (fun h => Or.inl h.1)
  have l2 : loop (X5_apart_L47 M (nI (24 * j + p)) (nI (24 * j + q))) 3000 (apN (vm M j) p q 0 ((vm M j).C p), (0 : Int32)) = some (apN (vm M j) q p (apN (vm M j) p q 0 ((vm M j).C p)) ((vm M j).C q)) := by
    refine loop_for (fun i => (apN (vm M j) q p (apN (vm M j) p q 0 ((vm M j).C p)) i, nI i)) ((vm M j).C q) (by omega) (fun i hi => ?_) ?_
    · simp only [X5_apart_L47, X5_apart_L47_j74, X5_apart_L47_j79, un2_s, bnd_s, bd1_s, ldmC hj hc hq, if_neg (nI_ge hi (show (vm M j).C q < 2 ^ 31 by omega)), X5_lies_eq hj hc hq hp hi, nI_1]
      rw [show apN (vm M j) q p (apN (vm M j) p q 0 ((vm M j).C p)) (i + 1) = if ls (vm M j) q i p = -1 then 1 else apN (vm M j) q p (apN (vm M j) p q 0 ((vm M j).C p)) i from rfl]
      rcases apN_01 (vm M j) q p _ hx i with ⟨h1, -⟩ | ⟨h1, -⟩ <;> rw [h1] <;> by_cases hx : ls (vm M j) q i p = -1 <;> simp [hx]
    · simp only [X5_apart_L47, un2_s, ldmC hj hc hq, if_pos (nI_le (Nat.le_refl ((vm M j).C q)) (show (vm M j).C q < 2 ^ 31 by omega))]
  have a2 := apN_01 (vm M j) q p _ hx ((vm M j).C q)
  refine ⟨fun h => ?_, fun h => ?_⟩
  · rcases a2 with ⟨b1, -⟩ | ⟨b1, b2, b3⟩
    · simp only [X5_apart, l1, l2, bd1_s, b1, chk1]
    · exfalso
      rcases a1 with ⟨c1, -⟩ | ⟨-, -, c3⟩
      · rw [c1] at b2; exact absurd b2 (by decide)
      · rcases h with ⟨e, he, h4⟩ | ⟨e, he, h4⟩
        · exact c3 e he (ls_m1.mpr h4)
        · exact b3 e he (ls_m1.mpr h4)
  · rcases a2 with ⟨b1, b2⟩ | ⟨b1, -⟩
    · exfalso
      rcases b2 with b2 | ⟨e, he, b3⟩
      · rcases a1 with ⟨-, c2⟩ | ⟨c1, -⟩
        · rcases c2 with c2 | ⟨e, he, c3⟩
          · exact absurd c2 (by decide)
          · exact h (Or.inl ⟨e, he, ls_m1.mp c3⟩)
        · rw [c1] at b2; exact absurd b2 (by decide)
      · exact h (Or.inr ⟨e, he, ls_m1.mp b3⟩)
    · simp only [X5_apart, l1, l2, bd1_s, b1, chk0]
end PX5
