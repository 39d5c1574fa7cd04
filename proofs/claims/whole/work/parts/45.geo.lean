/-! of two closed patches, not all corners of the one lie on the line of an edge of the other -/
theorem tI_sub {a b : Int32} {x y : Int} (ha : a.toInt = x) (hb : b.toInt = y) (h1 : -2000000000 ≤ x - y) (h2 : x - y ≤ 2000000000) : (a - b).toInt = x - y := by
  rw [Int32.toInt_sub, ha, hb]
  exact Int.bmod_eq_of_le (by omega) (by omega)
theorem mul_bd {x y : Int} (h1 : -96 ≤ x) (h2 : x ≤ 96) (h3 : -96 ≤ y) (h4 : y ≤ 96) : -9216 ≤ x * y ∧ x * y ≤ 9216 := by
  have e : (x * y).natAbs ≤ 96 * 96 := by
    rw [Int.natAbs_mul]
    exact Nat.mul_le_mul (by omega) (by omega)
  omega
theorem tI_mul {a b : Int32} {x y : Int} (ha : a.toInt = x) (hb : b.toInt = y) (h1 : -96 ≤ x) (h2 : x ≤ 96) (h3 : -96 ≤ y) (h4 : y ≤ 96) : (a * b).toInt = x * y := by
  have := mul_bd h1 h2 h3 h4
  rw [Int32.toInt_mul, ha, hb]
  exact Int.bmod_eq_of_le (by omega) (by omega)
theorem bd_toInt {V : Vw} {a b c xa ya xb yb xc yc : Nat} (l1 : xa ≤ 96) (l2 : ya ≤ 96) (l3 : xb ≤ 96) (l4 : yb ≤ 96) (l5 : xc ≤ 96) (l6 : yc ≤ 96) (e1 : V.X a = nI xa) (e2 : V.Y a = nI ya) (e3 : V.X b = nI xb) (e4 : V.Y b = nI yb) (e5 : V.X c = nI xc) (e6 : V.Y c = nI yc) : (bd V a b c).toInt = ((xb : Int) - xa) * ((yc : Int) - ya) - ((yb : Int) - ya) * ((xc : Int) - xa) := by
  have t : ∀ {z : Nat}, z ≤ 96 → (nI z).toInt = (z : Int) := fun h => nI_toInt (by omega)
  unfold bd
  rw [e1, e2, e3, e4, e5, e6]
  have s1 := tI_sub (t l3) (t l1) (by omega) (by omega)
  have s2 := tI_sub (t l6) (t l2) (by omega) (by omega)
  have s3 := tI_sub (t l4) (t l2) (by omega) (by omega)
  have s4 := tI_sub (t l5) (t l1) (by omega) (by omega)
  have m1 := tI_mul s1 s2 (by omega) (by omega) (by omega) (by omega)
  have m2 := tI_mul s3 s4 (by omega) (by omega) (by omega) (by omega)
  have b1 := mul_bd (x := (xb : Int) - xa) (y := (yc : Int) - ya) (by omega) (by omega) (by omega) (by omega)
  have b2 := mul_bd (x := (yb : Int) - ya) (y := (xc : Int) - xa) (by omega) (by omega) (by omega) (by omega)
  exact tI_sub m1 m2 (by omega) (by omega)
theorem lines {xa ya xb yb x0 y0 x1 y1 x2 y2 : Int} (h0 : (xb - xa) * (y0 - ya) - (yb - ya) * (x0 - xa) = 0) (h1 : (xb - xa) * (y1 - ya) - (yb - ya) * (x1 - xa) = 0) (h2 : (xb - xa) * (y2 - ya) - (yb - ya) * (x2 - xa) = 0) (hd : ¬ (xb - xa = 0 ∧ yb - ya = 0)) : (x1 - x0) * (y2 - y0) - (y1 - y0) * (x2 - x0) = 0 := by
  have k1 : (xb - xa) * ((x1 - x0) * (y2 - y0) - (y1 - y0) * (x2 - x0)) = 0 := by grind
  have k2 : (yb - ya) * ((x1 - x0) * (y2 - y0) - (y1 - y0) * (x2 - x0)) = 0 := by grind
  rcases Int.mul_eq_zero.mp k1 with h | h
  · rcases Int.mul_eq_zero.mp k2 with h' | h'
    · exact absurd ⟨h, h'⟩ hd
    · exact h'
  · exact h
theorem sd_ls {V : Vw} (hV : VOk V) (h8 : ∀ p, V.C p ≤ 8) {p e q : Nat} (hp : p < 24) (hq : q < 24) (he : e < V.C p) (hcq : 0 < V.C q) : sd V p e q = ls V p e q := by
  rcases sd_cases V p e q with ⟨_, _, h1, h2⟩ | ⟨_, _, h1, h2⟩ | ⟨_, _, h1, h2⟩ | ⟨n1, n2, _, _⟩
  · rw [h1, h2]
  · rw [h1, h2]
  · rw [h1, h2]
  · exfalso
    have z : ∀ c, c < V.C q → (be V p e q c).toInt = 0 := by
      intro c hc
      have a1 : ¬ 0 < be V p e q c := fun h => n1 ⟨c, hc, h⟩
      have a2 : ¬ be V p e q c < 0 := fun h => n2 ⟨c, hc, h⟩
      rw [Int32.lt_iff_toInt_lt, show (0 : Int32).toInt = 0 from rfl] at a1 a2
      omega
    have h8p := h8 p
    have h8q := h8 q
    obtain ⟨p3, pv, _⟩ := (hV.1 p hp).resolve_left (by omega)
    obtain ⟨q3, qv, _⟩ := (hV.1 q hq).resolve_left (by omega)
    have hn := nx_ltC (V := V) (p := p) he
    obtain ⟨⟨xa, l1, e1⟩, ya, l2, e2⟩ := hV.2 (8 * p + e) (by omega)
    obtain ⟨⟨xb, l3, e3⟩, yb, l4, e4⟩ := hV.2 (8 * p + nx V p e) (by omega)
    obtain ⟨⟨x0, l5, e5⟩, y0, l6, e6⟩ := hV.2 (8 * q + 0) (by omega)
    obtain ⟨⟨x1, l7, e7⟩, y1, l8, e8⟩ := hV.2 (8 * q + 1) (by omega)
    obtain ⟨⟨x2, l9, e9⟩, y2, l10, e10⟩ := hV.2 (8 * q + 2) (by omega)
    have z0 := z 0 (by omega)
    have z1 := z 1 (by omega)
    have z2 := z 2 (by omega)
    unfold be at z0 z1 z2
    rw [bd_toInt l1 l2 l3 l4 l5 l6 e1 e2 e3 e4 e5 e6] at z0
    rw [bd_toInt l1 l2 l3 l4 l7 l8 e1 e2 e3 e4 e7 e8] at z1
    rw [bd_toInt l1 l2 l3 l4 l9 l10 e1 e2 e3 e4 e9 e10] at z2
    have hd : ¬ ((xb : Int) - xa = 0 ∧ (yb : Int) - ya = 0) := by
      rintro ⟨d1, d2⟩
      obtain ⟨c, hc, c1, c2⟩ : ∃ c, c < V.C p ∧ c ≠ e ∧ c ≠ nx V p e := by
        by_cases u0 : 0 ≠ e ∧ 0 ≠ nx V p e
        · exact ⟨0, by omega, u0.1, u0.2⟩
        · by_cases u1 : 1 ≠ e ∧ 1 ≠ nx V p e
          · exact ⟨1, by omega, u1.1, u1.2⟩
          · exact ⟨2, by omega, by omega, by omega⟩
      have := pv e he c hc c1 c2
      obtain ⟨⟨xc, m1, f1⟩, yc, m2, f2⟩ := hV.2 (8 * p + c) (by omega)
      rw [Int32.lt_iff_toInt_lt, show (0 : Int32).toInt = 0 from rfl] at this
      unfold be at this
      rw [bd_toInt l1 l2 l3 l4 m1 m2 e1 e2 e3 e4 f1 f2, d1, d2] at this
      simp at this
    have w := lines z0 z1 z2 hd
    have hx : nx V q 0 = 1 := by unfold nx; rw [if_neg (by omega)]
    have := qv 0 (by omega) 2 (by omega) (by omega) (by rw [hx]; omega)
    rw [Int32.lt_iff_toInt_lt, show (0 : Int32).toInt = 0 from rfl] at this
    unfold be at this
    rw [hx, bd_toInt l5 l6 l7 l8 l9 l10 e5 e6 e7 e8 e9 e10] at this
    omega
/-! sets as bits -/
def gB (P : Nat → Bool) : Nat → Nat
  | 0 => 0
  | i + 1 => gB P i + (if P i = true then 2 ^ i else 0)
theorem gB_lt (P : Nat → Bool) : ∀ i, gB P i < 2 ^ i
  | 0 => by simp [gB]
  | i + 1 => by
    have := gB_lt P i
    unfold gB
    rw [Nat.pow_succ]
    split <;> omega
theorem gB_bit (P : Nat → Bool) : ∀ n i, (gB P n).testBit i = (decide (i < n) && P i)
  | 0, i => by simp [gB]
  | n + 1, i => by
    have ih := gB_bit P n i
    have hl := gB_lt P n
    unfold gB
    by_cases hP : P n = true
    · rw [if_pos hP, Nat.add_comm]
      by_cases e : i = n
      · subst e
        rw [Nat.testBit_two_pow_add_eq, ih, hP]
        simp
      · by_cases l : i < n
        · rw [Nat.testBit_two_pow_add_gt l, ih]
          have : i < n + 1 := by omega
          simp [l, this]
        · have h2 : (2 ^ n + gB P n).testBit i = false := by
            apply Nat.testBit_lt_two_pow
            have : 2 ^ (n + 1) ≤ 2 ^ i := Nat.pow_le_pow_right (by omega) (by omega)
            rw [Nat.pow_succ] at this
            omega
          rw [h2]
          have : ¬ i < n + 1 := by omega
          simp [this]
    · rw [if_neg hP, Nat.add_zero, ih]
      by_cases e : i = n
      · subst e
        simp [hP]
      · by_cases l : i < n
        · have : i < n + 1 := by omega
          simp [l, this]
        · have : ¬ i < n + 1 := by omega
          simp [l, this]
theorem bitn (s q : Nat) : (s / 2 ^ q % 2 = 1) = (s.testBit q = true) := by
  rw [Nat.testBit_eq_decide_div_mod_eq, decide_eq_true_eq]
theorem cb_sum {l r s : Nat} : ∀ k, (∀ i, i < k → l / 2 ^ i % 2 + r / 2 ^ i % 2 = s / 2 ^ i % 2) → cb l k + cb r k = cb s k
  | 0, _ => rfl
  | k + 1, h => by
    have h1 := cb_sum k (fun i hi => h i (by omega))
    have h2 := h k (by omega)
    unfold cb
    omega
theorem cb_pos {s : Nat} (hs : s < 2 ^ 24) (h : s ≠ 0) : 0 < cb s 24 := by
  have key : ∀ k, (∃ i, i < k ∧ s.testBit i = true) → 0 < cb s k := by
    intro k
    induction k with
    | zero => rintro ⟨i, hi, _⟩; omega
    | succ k ih =>
      rintro ⟨i, hi, e⟩
      unfold cb
      by_cases c : i = k
      · subst c
        rw [← bitn] at e
        omega
      · have := ih ⟨i, by omega, e⟩
        omega
  obtain ⟨i, hi⟩ := Nat.exists_testBit_of_ne_zero h
  refine key 24 ⟨i, ?_, hi⟩
  exact Classical.byContradiction (fun c => by
    have : s.testBit i = false := Nat.testBit_lt_two_pow (Nat.lt_of_lt_of_le hs (Nat.pow_le_pow_right (by omega) (by omega)))
    rw [this] at hi
    exact absurd hi (by decide))
theorem nI_toBV (a : Nat) : (nI a).toBitVec = BitVec.ofNat 32 a := rfl
theorem nI_andnot {s l r : Nat} (h : ∀ i, i < 32 → r.testBit i = (s.testBit i && !l.testBit i)) : nI s &&& (nI l ^^^ -1) = nI r := by
  apply Int32.toBitVec_inj.mp
  rw [Int32.toBitVec_and, Int32.toBitVec_xor, nI_toBV, nI_toBV, nI_toBV, show (-1 : Int32).toBitVec = BitVec.allOnes 32 from rfl]
  apply BitVec.eq_of_getLsbD_eq
  intro i hi
  rw [BitVec.getLsbD_and, BitVec.getLsbD_xor, BitVec.getLsbD_ofNat, BitVec.getLsbD_ofNat, BitVec.getLsbD_ofNat, BitVec.getLsbD_allOnes, h i hi]
  simp [hi]
