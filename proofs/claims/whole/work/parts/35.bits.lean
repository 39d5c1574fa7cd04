/-! BITS: sets of patches as numbers below 2 ^ 24. -/
theorem nI_and (a b : Nat) : nI a &&& nI b = nI (a &&& b) := by
  apply Int32.toBitVec_inj.mp
  rw [Int32.toBitVec_and]
  exact BitVec.ofNat_and.symm
theorem nI_or (a b : Nat) : nI a ||| nI b = nI (a ||| b) := by
  apply Int32.toBitVec_inj.mp
  rw [Int32.toBitVec_or]
  exact BitVec.ofNat_or.symm
theorem nI_shr {s p : Nat} (hs : s < 2147483648) (hp : p < 24) : nI s >>> (nI p &&& 31) = nI (s / 2 ^ p) := by
  have h1 : ∀ p, p < 24 → ((nI p &&& 31).toBitVec.smod 32).toNat = p := by decide
  apply Int32.toInt_inj.mp
  have h2 : (nI s >>> (nI p &&& 31)).toBitVec = (nI s).toBitVec.sshiftRight p := by
    rw [Int32.toBitVec_shiftRight, BitVec.sshiftRight', h1 p hp]
  have h3 : (nI s >>> (nI p &&& 31)).toInt = (nI s).toInt >>> p := by
    show (nI s >>> (nI p &&& 31)).toBitVec.toInt = (nI s).toBitVec.toInt >>> p
    rw [h2, BitVec.toInt_sshiftRight]
  have h4 : s / 2 ^ p ≤ s := Nat.div_le_self _ _
  rw [h3, nI_toInt hs, nI_toInt (by omega), ← Nat.shiftRight_eq_div_pow]
  rfl
theorem nI_shl : ∀ p, p < 24 → (1 : Int32) <<< (nI p &&& 31) = nI (2 ^ p) := by decide
theorem nI_ushr {s : Nat} (hs : s < 4294967296) : ((nI s).toUInt32 >>> ((1 : Int32).toUInt32 &&& Int32.toUInt32 31)).toInt32 = nI (s / 2) ∧ ((nI s).toUInt32 >>> ((2 : Int32).toUInt32 &&& Int32.toUInt32 31)).toInt32 = nI (s / 4) ∧ ((nI s).toUInt32 >>> ((4 : Int32).toUInt32 &&& Int32.toUInt32 31)).toInt32 = nI (s / 16) ∧ ((nI s).toUInt32 >>> ((8 : Int32).toUInt32 &&& Int32.toUInt32 31)).toInt32 = nI (s / 256) ∧ ((nI s).toUInt32 >>> ((16 : Int32).toUInt32 &&& Int32.toUInt32 31)).toInt32 = nI (s / 65536) := by
  have key : ∀ (u : UInt32) (k d : Nat), (u.toBitVec % 32).toNat = k → 2 ^ k = d → ((nI s).toUInt32 >>> u).toInt32 = nI (s / d) := by
    intro u k d hu hd
    apply Int32.toBitVec_inj.mp
    show ((nI s).toUInt32 >>> u).toBitVec = BitVec.ofNat 32 (s / d)
    rw [UInt32.toBitVec_shiftRight]
    apply BitVec.eq_of_toNat_eq
    rw [BitVec.toNat_ofNat, BitVec.ushiftRight_eq', BitVec.toNat_ushiftRight, hu]
    show (BitVec.ofNat 32 s).toNat >>> k = _
    rw [BitVec.toNat_ofNat, Nat.shiftRight_eq_div_pow, hd, Nat.mod_eq_of_lt hs, Nat.mod_eq_of_lt (Nat.lt_of_le_of_lt (Nat.div_le_self _ _) hs)]
  exact ⟨key _ 1 2 (by decide) (by decide), key _ 2 4 (by decide) (by decide), key _ 4 16 (by decide) (by decide), key _ 8 256 (by decide) (by decide), key _ 16 65536 (by decide) (by decide)⟩
/-- how many of the first k bits are set -/
def cb (s : Nat) : Nat → Nat
  | 0 => 0
  | k + 1 => cb s k + s / 2 ^ k % 2
theorem cb_le (s : Nat) : ∀ k, cb s k ≤ k
  | 0 => Nat.le_refl _
  | k + 1 => by
    have := cb_le s k
    unfold cb
    omega
theorem and_split {a b c d : Nat} (ha : a < 256) (hc : c < 256) : (a + 256 * b) &&& (c + 256 * d) = (a &&& c) + 256 * (b &&& d) := by
  have hac : a &&& c < 2 ^ 8 := Nat.lt_of_le_of_lt Nat.and_le_left ha
  rw [show a + 256 * b = 2 ^ 8 * b + a by omega, show c + 256 * d = 2 ^ 8 * d + c by omega, show (a &&& c) + 256 * (b &&& d) = 2 ^ 8 * (b &&& d) + (a &&& c) by omega]
  apply Nat.eq_of_testBit_eq
  intro i
  rw [Nat.testBit_and, Nat.testBit_two_pow_mul_add _ (by omega), Nat.testBit_two_pow_mul_add _ (by omega), Nat.testBit_two_pow_mul_add _ hac]
  by_cases h : i < 8
  · simp only [if_pos h, Nat.testBit_and]
  · simp only [if_neg h, Nat.testBit_and]
def S1 (m x : Nat) : Nat := x - (x / 2 &&& m)
def S2 (m x : Nat) : Nat := (x &&& m) + (x / 4 &&& m)
def S3 (m x : Nat) : Nat := (x + x / 16) &&& m
theorem S1_split {a y m : Nat} (ha : a < 256) : S1 (85 + 256 * m) (a + 256 * y) = S1 85 a + 256 * S1 m y := by
  have k : ∀ u, u < 128 → ∀ v, v < 2 → (u + 128 * v) &&& 85 = u &&& 85 := by decide +kernel
  have e : (a + 256 * y) / 2 = (a / 2 + 128 * (y % 2)) + 256 * (y / 2) := by omega
  have h1 : a / 2 &&& 85 ≤ a / 2 := Nat.and_le_left
  have h2 : y / 2 &&& m ≤ y / 2 := Nat.and_le_left
  unfold S1
  rw [e, and_split (by omega) (by decide), k (a / 2) (by omega) (y % 2) (by omega)]
  omega
theorem S2_split {a y m : Nat} (ha : a < 256) : S2 (51 + 256 * m) (a + 256 * y) = S2 51 a + 256 * S2 m y := by
  have k : ∀ u, u < 64 → ∀ v, v < 4 → (u + 64 * v) &&& 51 = u &&& 51 := by decide +kernel
  have e : (a + 256 * y) / 4 = (a / 4 + 64 * (y % 4)) + 256 * (y / 4) := by omega
  unfold S2
  rw [e, and_split ha (by decide), and_split (by omega) (by decide), k (a / 4) (by omega) (y % 4) (by omega)]
  omega
theorem S3_split {a y m : Nat} (ha : a ≤ 68) (hy : y % 16 ≤ 4) : S3 (15 + 256 * m) (a + 256 * y) = S3 15 a + 256 * S3 m y := by
  have k : ∀ u, u ≤ 68 → ∀ v, v ≤ 4 → (u + u / 16 + 16 * v) &&& 15 = (u + u / 16) &&& 15 := by decide +kernel
  have e : a + 256 * y + (a + 256 * y) / 16 = (a + a / 16 + 16 * (y % 16)) + 256 * (y + y / 16) := by omega
  unfold S3
  rw [e, and_split (by omega) (by decide), k a ha (y % 16) hy]
theorem byte_ok : ∀ a, a < 256 → S1 85 a < 256 ∧ S2 51 (S1 85 a) ≤ 68 ∧ S2 51 (S1 85 a) % 16 ≤ 4 ∧ S3 15 (S2 51 (S1 85 a)) = cb a 8 := by decide +kernel
theorem cb_mod (x : Nat) : cb x 8 = cb (x % 256) 8 := by
  have h : ∀ k, k < 8 → x / 2 ^ k % 2 = x % 256 / 2 ^ k % 2 := by
    intro k hk
    rcases (show k = 0 ∨ k = 1 ∨ k = 2 ∨ k = 3 ∨ k = 4 ∨ k = 5 ∨ k = 6 ∨ k = 7 by omega) with rfl | rfl | rfl | rfl | rfl | rfl | rfl | rfl <;> omega
  simp only [cb, h 0 (by decide), h 1 (by decide), h 2 (by decide), h 3 (by decide), h 4 (by decide), h 5 (by decide), h 6 (by decide), h 7 (by decide)]
theorem cb_up (s : Nat) : ∀ i, cb s (8 + i) = cb s 8 + cb (s / 256) i
  | 0 => rfl
  | i + 1 => by
    rw [show 8 + (i + 1) = (8 + i) + 1 by omega]
    show cb s (8 + i) + s / 2 ^ (8 + i) % 2 = cb s 8 + (cb (s / 256) i + s / 256 / 2 ^ i % 2)
    rw [cb_up s i, Nat.div_div_eq_div_mul, Nat.pow_add, Nat.add_assoc]
theorem cb_split (s : Nat) : cb s 24 = cb (s % 256) 8 + cb (s / 256 % 256) 8 + cb (s / 65536) 8 := by
  have h1 : cb s 24 = cb s 8 + cb (s / 256) 16 := cb_up s 16
  have h2 : cb (s / 256) 16 = cb (s / 256) 8 + cb (s / 256 / 256) 8 := cb_up (s / 256) 8
  rw [h1, h2, cb_mod s, cb_mod (s / 256), Nat.div_div_eq_div_mul, Nat.add_assoc]
theorem swar {s : Nat} (hs : s < 16777216) : S3 252645135 (S2 858993459 (S1 1431655765 s)) = cb (s % 256) 8 + 256 * (cb (s / 256 % 256) 8 + 256 * (cb (s / 65536) 8)) := by
  have e : s = s % 256 + 256 * (s / 256 % 256 + 256 * (s / 65536 + 256 * 0)) := by omega
  have ha : s % 256 < 256 := by omega
  have hb : s / 256 % 256 < 256 := by omega
  have hc : s / 65536 < 256 := by omega
  obtain ⟨a1, a2, a3, a4⟩ := byte_ok (s % 256) ha
  obtain ⟨b1, b2, b3, b4⟩ := byte_ok (s / 256 % 256) hb
  obtain ⟨c1, c2, c3, c4⟩ := byte_ok (s / 65536) hc
  have z1 : S1 85 0 = 0 := by decide
  have z2 : S2 51 0 = 0 := by decide
  have z3 : S3 15 0 = 0 := by decide
  rw [show 1431655765 = 85 + 256 * (85 + 256 * (85 + 256 * 85)) from rfl, show 858993459 = 51 + 256 * (51 + 256 * (51 + 256 * 51)) from rfl, show 252645135 = 15 + 256 * (15 + 256 * (15 + 256 * 15)) from rfl]
  generalize s % 256 = a at *
  generalize s / 256 % 256 = b at *
  generalize s / 65536 = c at *
  subst e
  rw [S1_split ha, S1_split hb, S1_split hc, z1, S2_split a1, S2_split b1, S2_split c1, z2, S3_split a2 (by omega), S3_split b2 (by omega), S3_split c2 (by decide), z3, a4, b4, c4, Nat.mul_zero, Nat.add_zero]
theorem bitCount_eq {M : Mem} {s : Nat} (hs : s < 16777216) : J6_bitCount_0f7a4 M (nI s) = some (nI (cb s 24)) := by
  have l1 : s / 2 &&& 1431655765 ≤ s / 2 := Nat.and_le_left
  have e1 : nI s - (nI (s / 2) &&& 1431655765) = nI (S1 1431655765 s) := by
    rw [show (1431655765 : Int32) = nI 1431655765 from rfl, nI_and, nI_sub (by omega)]; rfl
  have b1 : S1 1431655765 s ≤ s := Nat.sub_le _ _
  have e2 : (nI (S1 1431655765 s) &&& 858993459) + (nI (S1 1431655765 s / 4) &&& 858993459) = nI (S2 858993459 (S1 1431655765 s)) := by
    rw [show (858993459 : Int32) = nI 858993459 from rfl, nI_and, nI_and, nI_add]; rfl
  have b2 : S2 858993459 (S1 1431655765 s) ≤ 2 * s := by
    have h1 : S1 1431655765 s &&& 858993459 ≤ S1 1431655765 s := Nat.and_le_left
    have h2 : S1 1431655765 s / 4 &&& 858993459 ≤ S1 1431655765 s / 4 := Nat.and_le_left
    unfold S2
    omega
  have e3 : (nI (S2 858993459 (S1 1431655765 s)) + nI (S2 858993459 (S1 1431655765 s) / 16)) &&& 252645135 = nI (S3 252645135 (S2 858993459 (S1 1431655765 s))) := by
    rw [show (252645135 : Int32) = nI 252645135 from rfl, nI_add, nI_and]; rfl
  have k1 := cb_le (s % 256) 8
  have k2 := cb_le (s / 256 % 256) 8
  have k3 := cb_le (s / 65536) 8
  have key : ∀ x, x = cb (s % 256) 8 + 256 * (cb (s / 256 % 256) 8 + 256 * (cb (s / 65536) 8)) → (x + x / 256 + (x + x / 256) / 65536) % 64 = cb s 24 := by
    intro x hx
    rw [cb_split]
    generalize cb (s % 256) 8 = u at *
    generalize cb (s / 256 % 256) 8 = v at *
    generalize cb (s / 65536) 8 = w at *
    have h1 : x / 256 = v + 256 * w := by omega
    have h2 : (x + x / 256) / 65536 = w := by rw [h1]; omega
    rw [h2, h1]
    omega
  have hx := swar hs
  have bx : S3 252645135 (S2 858993459 (S1 1431655765 s)) < 1000000 := by omega
  simp only [J6_bitCount_0f7a4, bnd_s, (nI_ushr (s := s) (by omega)).1, e1, (nI_ushr (s := S1 1431655765 s) (by omega)).2.1, e2, (nI_ushr (s := S2 858993459 (S1 1431655765 s)) (by omega)).2.2.1, e3]
  rw [← key _ hx]
  generalize S3 252645135 (S2 858993459 (S1 1431655765 s)) = x at *
  rw [(nI_ushr (s := x) (by omega)).2.2.2.1, nI_add, (nI_ushr (s := x + x / 256) (by omega)).2.2.2.2, nI_add, show (63 : Int32) = nI 63 from rfl, nI_and]
  congr 2
  exact Nat.and_two_pow_sub_one_eq_mod _ 6
theorem X5_bits_eq {M : Mem} {s : Nat} (hs : s < 16777216) : X5_bits M (nI s) = some (nI (cb s 24)) := by
  have h : loop (X5_bits_L4 M (nI s)) 3000 ((0 : Int32), (0 : Int32)) = some (nI (cb s 24)) := by
    refine loop_for (fun i => (nI (cb s i), nI i)) 24 (by omega) (fun i hi => ?_) (by simp only [X5_bits_L4, un2_s]; rfl)
    have e1 : (nI (s / 2 ^ i) &&& 1) = nI (s / 2 ^ i % 2) := by
      rw [show (1 : Int32) = nI 1 from rfl, nI_and, show s / 2 ^ i &&& 1 = s / 2 ^ i % 2 from Nat.and_one_is_mod _]
    simp only [X5_bits_L4, un2_s, bnd_s, if_neg (show ¬ (24 : Int32) ≤ nI i from nI_ge (b := 24) hi (by decide)), nI_shr (show s < 2147483648 by omega) hi, e1, nI_add, nI_1, cb]
  simp only [X5_bits, h, bd1_s]
/-- the closed ones of the first p patches, as bits -/
def cs (V : Vw) : Nat → Nat
  | 0 => 0
  | p + 1 => cs V p + (if 0 < V.C p then 2 ^ p else 0)
theorem cs_lt (V : Vw) : ∀ p, cs V p < 2 ^ p
  | 0 => by simp [cs]
  | p + 1 => by
    have h := cs_lt V p
    unfold cs
    rw [Nat.pow_succ]
    split <;> omega
theorem cs_or {V : Vw} {p : Nat} : cs V p ||| 2 ^ p = cs V p + 2 ^ p := by
  have h := Nat.two_pow_add_eq_or_of_lt (cs_lt V p) 1
  rw [Nat.mul_one] at h
  rw [Nat.or_comm, ← h, Nat.add_comm]
theorem X1_closedSet_eq {M : Mem} {o : Nat} (hc : COk M o) : X1_closedSet M o = some (nI (cs (vw M o) 24)) := by
  have h : loop (X1_closedSet_L4 M o) 3000 ((0 : Int32), (0 : Int32)) = some (nI (cs (vw M o) 24)) := by
    refine loop_for (fun i => (nI (cs (vw M o) i), nI i)) 24 (by omega) (fun i hi => ?_) (by simp only [X1_closedSet_L4, un2_s]; rfl)
    have z : ¬ (1 : Int32) = 0 := by decide
    simp only [X1_closedSet_L4, X1_closedSet_L4_j24, un2_s, bnd_s, if_neg (show ¬ (24 : Int32) ≤ nI i from nI_ge (b := 24) hi (by decide)), X1_isClosed_eq hc hi, bd1_s, nI_shl i hi, nI_or, cs_or, nI_1, cs]
    by_cases c1 : 0 < (vw M o).C i
    · rw [if_pos c1, if_pos c1, if_neg z]
    · rw [if_neg c1, if_neg c1, if_pos rfl]; rfl
  simp only [X1_closedSet, h, bd1_s]
/-- bit i of the closed ones -/
theorem cs_bit (V : Vw) : ∀ p i, cs V p / 2 ^ i % 2 = if i < p ∧ 0 < V.C i then 1 else 0
  | 0, i => by simp [cs]
  | p + 1, i => by
    have ih := cs_bit V p i
    have hl := cs_lt V p
    unfold cs
    by_cases h : 0 < V.C p
    · rw [if_pos h]
      rcases Nat.lt_trichotomy i p with hi | hi | hi
      · obtain ⟨d, rfl⟩ : ∃ d, p = i + (d + 1) := ⟨p - i - 1, by omega⟩
        rw [Nat.pow_add 2 i (d + 1), Nat.add_mul_div_left _ _ (Nat.two_pow_pos i), Nat.pow_succ, Nat.add_mod, ih, Nat.mul_mod_left]
        by_cases h2 : 0 < V.C i
        · simp [h2]; omega
        · simp [h2]
      · subst hi
        rw [Nat.add_div_right _ (Nat.two_pow_pos i), Nat.div_eq_of_lt hl]
        simp [h]
      · have : cs V p + 2 ^ p < 2 ^ i := by
          have := Nat.pow_le_pow_right (n := 2) (by decide) (show p + 1 ≤ i by omega)
          rw [Nat.pow_succ] at this
          omega
        rw [Nat.div_eq_of_lt this]
        simp
        omega
    · rw [if_neg h, Nat.add_zero, ih]
      by_cases e : i = p
      · subst e; simp [h]
      · simp only [show i < p ↔ i < p + 1 by omega]
theorem cs_cb (V : Vw) : ∀ k, k ≤ 24 → cb (cs V 24) k = nC V k
  | 0, _ => rfl
  | k + 1, h => by
    unfold cb nC
    rw [cs_cb V k (by omega), cs_bit]
    by_cases c : 0 < V.C k
    · rw [if_pos ⟨by omega, c⟩, if_pos c]
    · rw [if_neg (fun e => c e.2), if_neg c]
theorem X1_closedPatches_eq {M : Mem} {o : Nat} (hc : COk M o) : X1_closedPatches M o = some (nI (nC (vw M o) 24)) := by
  have h := cs_lt (vw M o) 24
  simp only [X1_closedPatches, X1_closedSet_eq hc, bd1_s, bitCount_eq (M := M) (show cs (vw M o) 24 < 16777216 from h), cs_cb (vw M o) 24 (Nat.le_refl _)]
