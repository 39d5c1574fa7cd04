/-! the first memory; keep -/
theorem INV_init : INV 49 Mi := by
  refine ⟨0, by omega, rfl, DrI.of (fun p hp => ⟨fun c hc => ⟨⟨0, by omega, rfl, rfl⟩, 0, by omega, rfl, rfl⟩, Or.inl ⟨rfl, rfl⟩⟩), ⟨0, by omega, rfl, rfl, fun i hi => absurd hi (by omega)⟩, ⟨rfl, rfl, fun i => ?_, fun j hj => absurd hj (by omega)⟩, ⟨fun i hi => ⟨rfl, Or.inl ?_, rfl, 0, by omega, rfl⟩, fun i hi => ⟨rfl, ⟨0, by omega, rfl⟩, rfl, 0, by omega, rfl⟩⟩, Or.inl rfl⟩
  · rw [if_neg (by omega)]; rfl
  · show (if i < 36 then (-1 : Int32) else 0) = -1
    rw [if_pos hi]
/-- the copy of the drawing at the cells n .. n + 4 -/
def cpM (n : Nat) (M : Mem) : Mem := fun k i =>
  if k = n + 1 then (if i < 192 then M 2 i else 0) else if k = n + 2 then (if i < 192 then M 3 i else 0) else if k = n + 3 then (if i < 24 then M 4 i else 0) else if k = n + 4 then (if i < 24 then M 5 i else 0) else if k < n then M k i else 0
theorem cpy_s {β : Type} {M : Mem} {k len k2 z : Nat} {f : Mem → Option β} (hl : len < 2147483648) : cpy M k len k2 len (Int32.ofNat len) z f = f (wrR M k2 (va_cpy (M k) (M k2) 0 0 len)) := by
  have e1 : (Int32.ofNat len).toInt = len := nI_toInt hl
  have e2 : (Int32.ofNat len).toNatClampNeg = len := nI_clamp hl
  unfold cpy chk
  rw [e1, e2, if_pos]
  simp
theorem X1_copied_tail_eq {n : Nat} {M : Mem} (hn : 49 ≤ n) : X1_copied_tail (M0 n M) 1 n = some (cpM n M) := by
  unfold X1_copied_tail
  rw [cpy_s (by decide), cpy_s (by decide), cpy_s (by decide), cpy_s (by decide)]
  congr 1
  funext k i
  unfold cpM
  simp only [wrR, va_cpy, M0]
  by_cases e1 : k = n + 1
  · subst e1
    simp
    rw [if_pos (by omega), if_neg (by omega)]
    simp [va_cpy]
  · by_cases e2 : k = n + 2
    · subst e2
      simp
      rw [if_neg (by omega), if_pos (by omega), if_neg (by omega)]
      simp [va_cpy]
    · by_cases e3 : k = n + 3
      · subst e3
        simp
        rw [if_neg (by omega), if_neg (by omega), if_pos (by omega), if_neg (by omega)]
        simp [va_cpy]
      · by_cases e4 : k = n + 4
        · subst e4
          simp
          rw [if_neg (by omega), if_neg (by omega), if_neg (by omega), if_pos (by omega), if_neg (by omega)]
          simp [va_cpy]
        · simp [e1, e2, e3, e4]
          split <;> rfl
/-- the model's copying: rows 28, 29 as far as a, rows 30, 31 as far as b -/
def kpG (N : Mem) (K a b : Nat) : Mem := fun k q =>
  if (k = 28 ∨ k = 29) ∧ 24 * K ≤ q ∧ q < 24 * K + a then N k (240 + (q - 24 * K)) else if (k = 30 ∨ k = 31) ∧ 192 * K ≤ q ∧ q < 192 * K + b then N k (1920 + (q - 192 * K)) else N k q
section Kp
variable {N : Mem} {K : Nat}
theorem kpG_0 : kpG N K 0 0 = N := by
  funext k q
  unfold kpG
  rw [if_neg (by omega), if_neg (by omega)]
theorem kpG_27 {a b q : Nat} : kpG N K a b 27 q = N 27 q := by
  unfold kpG
  rw [if_neg (by omega), if_neg (by omega)]
theorem kp_a {a b : Nat} (hK : K < 10) (ha : a < 24) : wr (wr (kpG N K a b) 28 (24 * K + a) (N 28 (240 + a))) 29 (24 * K + a) (N 29 (240 + a)) = kpG N K (a + 1) b := by
  funext k q
  rw [wr_at, wr_at]
  unfold kpG
  by_cases h1 : k = 29 ∧ q = 24 * K + a
  · obtain ⟨rfl, rfl⟩ := h1
    rw [if_pos ⟨rfl, rfl⟩, if_pos (by omega), show 240 + (24 * K + a - 24 * K) = 240 + a by omega]
  · rw [if_neg h1]
    by_cases h2 : k = 28 ∧ q = 24 * K + a
    · obtain ⟨rfl, rfl⟩ := h2
      rw [if_pos ⟨rfl, rfl⟩, if_pos (by omega), show 240 + (24 * K + a - 24 * K) = 240 + a by omega]
    · rw [if_neg h2]
      by_cases h3 : (k = 28 ∨ k = 29) ∧ 24 * K ≤ q ∧ q < 24 * K + a
      · rw [if_pos h3, if_pos (by omega)]
      · rw [if_neg h3, if_neg (show ¬ ((k = 28 ∨ k = 29) ∧ 24 * K ≤ q ∧ q < 24 * K + (a + 1)) by omega)]
theorem kp_b {a b : Nat} (hK : K < 10) (hb : b < 192) : wr (wr (kpG N K a b) 30 (192 * K + b) (N 30 (1920 + b))) 31 (192 * K + b) (N 31 (1920 + b)) = kpG N K a (b + 1) := by
  funext k q
  rw [wr_at, wr_at]
  unfold kpG
  by_cases h1 : k = 31 ∧ q = 192 * K + b
  · obtain ⟨rfl, rfl⟩ := h1
    rw [if_pos ⟨rfl, rfl⟩, if_neg (by omega), if_pos (by omega), show 1920 + (192 * K + b - 192 * K) = 1920 + b by omega]
  · rw [if_neg h1]
    by_cases h2 : k = 30 ∧ q = 192 * K + b
    · obtain ⟨rfl, rfl⟩ := h2
      rw [if_pos ⟨rfl, rfl⟩, if_neg (by omega), if_pos (by omega), show 1920 + (192 * K + b - 192 * K) = 1920 + b by omega]
    · rw [if_neg h2]
      by_cases h3 : (k = 28 ∨ k = 29) ∧ 24 * K ≤ q ∧ q < 24 * K + a
      · rw [if_pos h3, if_pos h3]
      · rw [if_neg h3, if_neg h3]
        by_cases h4 : (k = 30 ∨ k = 31) ∧ 192 * K ≤ q ∧ q < 192 * K + b
        · rw [if_pos h4, if_pos (by omega)]
        · rw [if_neg h4, if_neg (show ¬ ((k = 30 ∨ k = 31) ∧ 192 * K ≤ q ∧ q < 192 * K + (b + 1)) by omega)]
theorem kpG_lo {a b k q : Nat} (h : (k = 28 ∨ k = 29) → q < 24 * K ∨ 24 * K + a ≤ q) (h2 : (k = 30 ∨ k = 31) → q < 192 * K ∨ 192 * K + b ≤ q) : kpG N K a b k q = N k q := by
  unfold kpG
  rw [if_neg (by omega), if_neg (by omega)]
theorem kpG_1 {a b k p : Nat} (h : k = 28 ∨ k = 29) (hp : p < a) : kpG N K a b k (24 * K + p) = N k (240 + p) := by
  unfold kpG
  rw [if_pos (by omega), show 240 + (24 * K + p - 24 * K) = 240 + p by omega]
theorem kpG_2 {a b k i : Nat} (h : k = 30 ∨ k = 31) (hi : i < b) : kpG N K a b k (192 * K + i) = N k (1920 + i) := by
  unfold kpG
  rw [if_neg (by omega), if_pos (by omega), show 1920 + (192 * K + i - 192 * K) = 1920 + i by omega]
theorem keep_in (hK : K < 10) {p : Nat} (hp : p < 24) : loop (X5_keep_L83 (nI p) (nI (24 * K + p))) 3000 ((0 : Int32), kpG N K (p + 1) (8 * p)) = some (kpG N K (p + 1) (8 * (p + 1))) := by
  refine loop_for (fun c => (nI c, kpG N K (p + 1) (8 * p + c))) 8 (by omega) (fun c hc => ?_) (by simp only [X5_keep_L83, un2_s]; rfl)
  have i1 : (1920 : Int32) + 8 * nI p + nI c = nI (1920 + (8 * p + c)) := by
    rw [show (1920 : Int32) = nI 1920 from rfl, show (8 : Int32) = nI 8 from rfl, nI_mul, nI_add, nI_add, Nat.add_assoc]
  have i2 : 8 * nI (24 * K + p) + nI c = nI (192 * K + (8 * p + c)) := ixm K p c
  simp only [X5_keep_L83, un2_s, bnd_s, if_neg (show ¬ (8 : Int32) ≤ nI c from nI_ge (b := 8) hc (by decide)), i1, i2, ldN (show 1920 + (8 * p + c) < 2112 by omega) (by decide), stoN (show 192 * K + (8 * p + c) < 2112 by omega) (by decide), nI_1]
  rw [wr_ne (a := 31) (by omega), kpG_lo (k := 30) (by omega) (by omega), kpG_lo (k := 31) (by omega) (by omega), kp_b hK (by omega), Nat.add_assoc]
theorem keep_out (hK : K < 10) (hN : N 27 1 = nI K) : loop X5_keep_L33 3000 ((0 : Int32), N) = some (kpG N K 24 192) := by
  have : loop X5_keep_L33 3000 ((0 : Int32), kpG N K 0 (8 * 0)) = some (kpG N K 24 (8 * 24)) := by
    refine loop_for (fun p => (nI p, kpG N K p (8 * p))) 24 (by omega) (fun p hp => ?_) (by simp only [X5_keep_L33, un2_s]; rfl)
    have i1 : (24 : Int32) * nI K + nI p = nI (24 * K + p) := by
      rw [show (24 : Int32) = nI 24 from rfl, nI_mul, nI_add]
    simp only [X5_keep_L33, un2_s, bnd_s, if_neg (s24 hp), kpG_27, hN, i1, a240, ldN (show 240 + p < 264 by omega) (by decide), stoN (show 24 * K + p < 264 by omega) (by decide)]
    rw [wr_ne (a := 29) (by omega), kpG_lo (k := 28) (by omega) (by omega), kpG_lo (k := 29) (by omega) (by omega), kp_a hK hp, keep_in hK hp]
    simp only [bd1_s, nI_1]
  rw [kpG_0] at this
  exact this
end Kp
theorem st_keep {n : Nat} {M : Mem} {a1 a2 a3 a4 : Int32} (h : INV n M) : ∃ g M2, St 8 n M a1 a2 a3 a4 g M2 ∧ INV (n + g) M2 := by
  have hI := h
  obtain ⟨K, k1, k2, hD, hS, hKe, hT, hC⟩ := h
  obtain ⟨c1, c2, c3⟩ := hI.co
  obtain ⟨r, hr⟩ := StOf.ex (vm M 10)
  have s1 : X1_state M 1 = some r := X1_state_eq c1 (c3 ▸ hr)
  have s2 : X5_state M = some r := X5_state_eq c2 hr
  by_cases hk : K = 10
  · have g1 : (10 : Int32) ≤ M 10 1 := by rw [hKe.1, hk]; decide
    have g2 : (10 : Int32) ≤ M 27 1 := by rw [hKe.2.1, hk]; decide
    refine ⟨0, wr M 27 0 1, ⟨1, M, 0, Or.inr ⟨0, Or.inl g1, rfl, rfl, rfl⟩, ?_, th_at, fun e => absurd e (by decide)⟩, hI.th⟩
    simp only [X5_keep, if_pos g2, X5_keep_j21, X5_keep_j22, goes_1, bd2_s, if_true]
  · have g1 : ¬ (10 : Int32) ≤ M 10 1 := by rw [hKe.1]; exact nI_ge (b := 10) (by omega) (by decide)
    have g2 : ¬ (10 : Int32) ≤ M 27 1 := by rw [hKe.2.1]; exact nI_ge (b := 10) (by omega) (by decide)
    by_cases hz : r = 0
    · subst hz
      have hn : 49 ≤ n := by omega
      have hb : n < 2147483648 := by omega
      have cl : ∀ k q, k < n → cpM n M k q = M k q := by
        intro k q hk
        unfold cpM
        rw [if_neg (by omega), if_neg (by omega), if_neg (by omega), if_neg (by omega), if_pos hk]
      have q1 : X3_addBlock (cpM n M) n = some (nI K, wr (wr (cpM n M) 11 K (nI n)) 10 1 (nI (K + 1))) := by
        unfold X3_addBlock
        rw [show decide (n < 2147483648) = true from decide_eq_true hb, cl 10 1 (by omega), hKe.1, stoN (show K < 10 by omega) (by decide)]
        show some ((wr (wr (cpM n M) 11 K (nI n)) 10 1 (wr (cpM n M) 11 K (nI n) 10 1 + 1)) 10 1 - 1, wr (wr (cpM n M) 11 K (nI n)) 10 1 (wr (cpM n M) 11 K (nI n) 10 1 + 1)) = _
        rw [wr_ne (a := 10) (b := 1) (k := 11) (by omega), cl 10 1 (by omega), hKe.1, nI_1, wr_at, if_pos ⟨rfl, rfl⟩, one_eq, nI_sub (by omega), Nat.add_sub_cancel]
      -- the memory that the class leaves
      have m1 : ∀ k q, k < n → ¬ (k = 11 ∧ q = K) → ¬ (k = 10 ∧ q = 1) → ¬ (k = 48 ∧ q = 0) → (wr (wr (wr (cpM n M) 11 K (nI n)) 10 1 (nI (K + 1))) 48 0 (nI K)) k q = M k q := by
        intro k q b1 b2 b3 b4
        rw [wr_ne b4, wr_ne b3, wr_ne b2, cl k q b1]
      have x5 : X5_keep (wr (wr (wr (cpM n M) 11 K (nI n)) 10 1 (nI (K + 1))) 48 0 (nI K)) = some (nI K, wr (kpG (wr (wr (wr (wr (cpM n M) 11 K (nI n)) 10 1 (nI (K + 1))) 48 0 (nI K)) 27 0 0) K 24 192) 27 1 (nI (K + 1))) := by
        have e27 : (wr (wr (wr (cpM n M) 11 K (nI n)) 10 1 (nI (K + 1))) 48 0 (nI K)) 27 1 = nI K := by rw [m1 27 1 (by omega) (by omega) (by omega) (by omega)]; exact hKe.2.1
        have hm : COkM (wr (wr (wr (cpM n M) 11 K (nI n)) 10 1 (nI (K + 1))) 48 0 (nI K)) 10 := by
          intro p hp
          rw [m1 28 _ (by omega) (by omega) (by omega) (by omega)]
          exact c2 p hp
        have hv : vm (wr (wr (wr (cpM n M) 11 K (nI n)) 10 1 (nI (K + 1))) 48 0 (nI K)) 10 = vm M 10 := by
          refine vm_same (fun i hi => ⟨?_, ?_⟩) (fun p hp => ⟨?_, ?_⟩)
          all_goals rw [m1 _ _ (by omega) (by omega) (by omega) (by omega)]
        have st := X5_state_eq hm (hv.symm ▸ hr)
        have lo := keep_out (N := wr (wr (wr (wr (cpM n M) 11 K (nI n)) 10 1 (nI (K + 1))) 48 0 (nI K)) 27 0 0) (K := K) (by omega) (by rw [wr_ne (by omega)]; exact e27)
        unfold X5_keep
        rw [e27, if_neg (show ¬ (10 : Int32) ≤ nI K from nI_ge (b := 10) (by omega) (by decide)), st]
        simp only [bd1_s, if_true, X5_keep_j22, goes_0, bd2_s, i10, if_false, lo, bnd_s, kpG_27]
        rw [wr_ne (a := 27) (b := 1) (k := 27) (i := 0) (by omega), e27, nI_1, wr_at, if_pos ⟨rfl, rfl⟩, one_eq, nI_sub (by omega), Nat.add_sub_cancel]
      have nok : NOk n := ⟨hn, by omega, by omega⟩
      have k11 : K11 n M := by
        intro i
        rw [hKe.2.2.1]
        split
        · rw [nI_clamp (by omega)]; omega
        · show (0 : Int32).toNatClampNeg < n
          have : (0 : Int32).toNatClampNeg = 0 := rfl
          omega
      refine ⟨5, _, ⟨0, _, nI K, Or.inl ⟨nI K, cpM n M, _, nok, k11, g1, s1, X1_copied_tail_eq hn, q1, rfl, rfl, rfl⟩, x5, ?_, fun _ => ?_⟩, ?_⟩
      · rw [wr_ne (by omega), kpG_27, th_at]
      · rw [wr_ne (by omega), kpG_lo (by omega) (by omega), wr_ne (by omega), ou_at]
      · -- every cell of the last memory
        generalize hN : wr (kpG (wr (wr (wr (wr (cpM n M) 11 K (nI n)) 10 1 (nI (K + 1))) 48 0 (nI K)) 27 0 0) K 24 192) 27 1 (nI (K + 1)) = N
        have w1 : ∀ k q, k < n → ¬ (k = 11 ∧ q = K) → ¬ (k = 10 ∧ q = 1) → ¬ (k = 48 ∧ q = 0) → ¬ (k = 27 ∧ q ≤ 1) → ((k = 28 ∨ k = 29) → q < 24 * K ∨ 24 * K + 24 ≤ q) → ((k = 30 ∨ k = 31) → q < 192 * K ∨ 192 * K + 192 ≤ q) → N k q = M k q := by
          intro k q b1 b2 b3 b4 b5 b6 b7
          rw [← hN, wr_ne (by omega), kpG_lo b6 b7, wr_ne (by omega), m1 k q b1 b2 b3 b4]
        have w2 : ∀ k p, k = 28 ∨ k = 29 → p < 24 → N k (24 * K + p) = M k (240 + p) := by
          intro k p b1 b2
          rw [← hN, wr_ne (by omega), kpG_1 b1 b2, wr_ne (by omega), m1 _ _ (by omega) (by omega) (by omega) (by omega)]
        have w3 : ∀ k i, k = 30 ∨ k = 31 → i < 192 → N k (192 * K + i) = M k (1920 + i) := by
          intro k i b1 b2
          rw [← hN, wr_ne (by omega), kpG_2 b1 b2, wr_ne (by omega), m1 _ _ (by omega) (by omega) (by omega) (by omega)]
        have w4 : ∀ k i, n ≤ k → N k i = cpM n M k i := by
          intro k i b1
          rw [← hN, wr_ne (by omega), kpG_lo (by omega) (by omega), wr_ne (by omega), wr_ne (by omega), wr_ne (by omega), wr_ne (by omega)]
        have w10 : N 10 1 = nI (K + 1) := by
          rw [← hN, wr_ne (by omega), kpG_lo (by omega) (by omega), wr_ne (by omega), wr_ne (by omega), wr_at, if_pos ⟨rfl, rfl⟩]
        have w27 : N 27 1 = nI (K + 1) := by
          rw [← hN, wr_at, if_pos ⟨rfl, rfl⟩]
        have w11 : N 11 K = nI n := by
          rw [← hN, wr_ne (by omega), kpG_lo (by omega) (by omega), wr_ne (by omega), wr_ne (by omega), wr_ne (by omega), wr_at, if_pos ⟨rfl, rfl⟩]
        have vmj : ∀ j, j < K → vm N j = vm M j := by
          intro j hj
          refine vm_same (fun i hi => ⟨?_, ?_⟩) (fun p hp => ⟨?_, ?_⟩)
          all_goals rw [w1 _ _ (by omega) (by omega) (by omega) (by omega) (by omega) (by omega) (by omega)]
        have etp : tp N = tp M := by
          have hr : ∀ k i, (k = 35 ∨ k = 37 ∨ k = 38) → N k i = M k i := fun k i hk => w1 _ _ (by omega) (by omega) (by omega) (by omega) (by omega) (by omega) (by omega)
          unfold tp
          rw [hr 37 0 (by omega), hr 37 1 (by omega), hr 38 0 (by omega), hr 38 1 (by omega)]
          refine Prod.ext ?_ rfl
          funext i
          by_cases hi : i < 36
          · simp only [if_pos hi, hr 35 i (by omega)]
            rcases (hT.1 i hi).2.1 with e | ⟨j, hj, e⟩
            · rw [if_pos e, if_pos e]
            · rw [e, nI_clamp (by omega), vmj j hj]
          · simp only [if_neg hi]
        refine ⟨K + 1, by omega, by omega, DrI.of (fun p hp => ?_), ?_, ⟨w10, w27, fun i => ?_, fun j hj => ?_⟩, ?_, ?_⟩
        · refine (hD.pi hp).congr hp (fun c hc => ⟨?_, ?_, ?_, ?_⟩) ⟨?_, ?_⟩ ⟨?_, ?_⟩
          all_goals rw [w1 _ _ (by omega) (by omega) (by omega) (by omega) (by omega) (by omega) (by omega)]
        · obtain ⟨S, z1, z2, z3, z4⟩ := hS
          refine ⟨S, z1, ?_, ?_, fun i hi => ?_⟩
          · rw [w1 6 3 (by omega) (by omega) (by omega) (by omega) (by omega) (by omega) (by omega)]; exact z2
          · rw [w1 27 8 (by omega) (by omega) (by omega) (by omega) (by omega) (by omega) (by omega)]; exact z3
          · rw [w1 9 i (by omega) (by omega) (by omega) (by omega) (by omega) (by omega) (by omega), w1 34 i (by omega) (by omega) (by omega) (by omega) (by omega) (by omega) (by omega)]; exact z4 i hi
        · by_cases e : i = K
          · rw [e, w11, if_pos (by omega), k2]
          · rw [w1 11 i (by omega) (by omega) (by omega) (by omega) (by omega) (by omega) (by omega), hKe.2.2.1]
            by_cases e2 : i < K
            · rw [if_pos e2, if_pos (by omega)]
            · rw [if_neg e2, if_neg (by omega)]
        · by_cases e : j < K
          · refine DrI.of (fun p hp => ((hKe.2.2.2 j e).pi hp).congr hp (fun c hc => ⟨?_, ?_, ?_, ?_⟩) ⟨?_, ?_⟩ ⟨?_, ?_⟩)
            all_goals rw [w1 _ _ (by omega) (by omega) (by omega) (by omega) (by omega) (by omega) (by omega)]
          · have ej : j = K := by omega
            subst ej
            refine DrI.of (fun p hp => (hD.pi hp).congr hp (fun c hc => ⟨?_, ?_, ?_, ?_⟩) ⟨?_, ?_⟩ ⟨?_, ?_⟩)
            · rw [w4 _ _ (by omega), ← k2]; unfold cpM; rw [if_pos rfl, if_pos (by omega)]
            · rw [w4 _ _ (by omega), ← k2]; unfold cpM; rw [if_neg (by omega), if_pos rfl, if_pos (by omega)]
            · rw [w3 _ _ (by omega) (by omega)]
            · rw [w3 _ _ (by omega) (by omega)]
            · rw [w4 _ _ (by omega), ← k2]; unfold cpM; rw [if_neg (by omega), if_neg (by omega), if_pos rfl, if_pos (by omega)]
            · rw [w2 _ _ (by omega) (by omega)]
            · rw [w4 _ _ (by omega), ← k2]; unfold cpM; rw [if_neg (by omega), if_neg (by omega), if_neg (by omega), if_pos rfl, if_pos (by omega)]
            · rw [w2 _ _ (by omega) (by omega)]
        · refine ⟨fun i hi => ?_, fun i hi => ?_⟩
          · rw [w1 12 i (by omega) (by omega) (by omega) (by omega) (by omega) (by omega) (by omega), w1 35 i (by omega) (by omega) (by omega) (by omega) (by omega) (by omega) (by omega), w1 13 i (by omega) (by omega) (by omega) (by omega) (by omega) (by omega) (by omega), w1 36 i (by omega) (by omega) (by omega) (by omega) (by omega) (by omega) (by omega)]
            obtain ⟨t1, t2, t3⟩ := hT.1 i hi
            refine ⟨t1, ?_, t3⟩
            rcases t2 with e | ⟨j, hj, e⟩
            · exact Or.inl e
            · exact Or.inr ⟨j, by omega, e⟩
          · rw [w1 14 i (by omega) (by omega) (by omega) (by omega) (by omega) (by omega) (by omega), w1 37 i (by omega) (by omega) (by omega) (by omega) (by omega) (by omega) (by omega), w1 15 i (by omega) (by omega) (by omega) (by omega) (by omega) (by omega) (by omega), w1 38 i (by omega) (by omega) (by omega) (by omega) (by omega) (by omega) (by omega)]
            exact hT.2 i hi
        · have er : ∀ k, 17 ≤ k → k ≤ 25 → N k = M k := fun k b1 b2 => funext (fun i => w1 k i (by omega) (by omega) (by omega) (by omega) (by omega) (by omega) (by omega))
          unfold CuI
          rw [etp, er 17 (by omega) (by omega), er 18 (by omega) (by omega), er 19 (by omega) (by omega), er 20 (by omega) (by omega), er 22 (by omega) (by omega), er 24 (by omega) (by omega), er 25 (by omega) (by omega)]
          exact hC
    · refine ⟨0, wr M 27 0 1, ⟨1, M, 0, Or.inr ⟨r, Or.inr ⟨g1, s1, hz⟩, rfl, rfl, rfl⟩, ?_, th_at, fun e => absurd e (by decide)⟩, hI.th⟩
      simp only [X5_keep, if_neg g2, s2, bd1_s, if_neg hz, X5_keep_j21, X5_keep_j22, goes_1, bd2_s, if_true]
