/-! swap -/
def sw (a b x : Int32) : Int32 := if x = a then b else if x = b then a else x
theorem sw_12 {a b : Int32} {l : Nat} (ha : Wn a 12) (hb : Wn b 12) (hl : l < 12) : ∃ m, m < 12 ∧ sw a b (nI l) = nI m := by
  unfold sw
  split
  · exact hb
  · split
    · exact ha
    · exact ⟨l, hl, rfl⟩
/-- the cells of P swapped -/
def swG (P : Nat → Nat → Prop) [∀ k q, Decidable (P k q)] (N : Mem) (a b : Int32) : Mem := fun k q => if P k q then sw a b (N k q) else N k q
/-- swapping one cell more -/
theorem swG_step {P Q : Nat → Nat → Prop} [∀ k q, Decidable (P k q)] [∀ k q, Decidable (Q k q)] {N : Mem} {a b : Int32} (k0 i0 : Nat) (h0 : ¬ P k0 i0) (h : ∀ k q, Q k q ↔ P k q ∨ (k = k0 ∧ q = i0)) : wr (swG P N a b) k0 i0 (sw a b (N k0 i0)) = swG Q N a b := by
  funext k q
  rw [wr_at]
  unfold swG
  by_cases e : k = k0 ∧ q = i0
  · rw [if_pos e, if_pos ((h k q).mpr (Or.inr e)), e.1, e.2]
  · rw [if_neg e]
    by_cases p : P k q
    · rw [if_pos p, if_pos ((h k q).mpr (Or.inl p))]
    · rw [if_neg p, if_neg (fun z => ((h k q).mp z).elim p e)]
theorem swG_same {P Q : Nat → Nat → Prop} [∀ k q, Decidable (P k q)] [∀ k q, Decidable (Q k q)] {N : Mem} {a b : Int32} (h : ∀ k q, Q k q ↔ P k q) : swG P N a b = swG Q N a b := by
  funext k q
  unfold swG
  by_cases p : P k q
  · rw [if_pos p, if_pos ((h k q).mpr p)]
  · rw [if_neg p, if_neg (fun z => p ((h k q).mp z))]
theorem wr_self {N : Mem} {k i : Nat} {v : Int32} (h : N k i = v) : wr N k i v = N := by
  funext x y
  rw [wr_at]
  split
  · next e => rw [e.1, e.2, h]
  · rfl
/-- the closed patches of a drawing before the i-th -/
abbrev clP (N : Mem) (o i k q : Nat) : Prop := k = o + 4 ∧ q < i ∧ 0 < (N (o + 3) q).toNatClampNeg
/-- how many of the first patches are of the one cloth or the other -/
def cnN (V : Vw) (a b : Int32) : Nat → Nat
  | 0 => 0
  | p + 1 => if 0 < V.C p ∧ (V.L p = a ∨ V.L p = b) then cnN V a b p + 1 else cnN V a b p
theorem cnN_le (V : Vw) (a b : Int32) : ∀ p, cnN V a b p ≤ p
  | 0 => Nat.le_refl _
  | p + 1 => by
    have := cnN_le V a b p
    unfold cnN
    split <;> omega
theorem X1_swapCloths_eq {N : Mem} {o : Nat} {a b : Int32} (hc : COk N o) : X1_swapCloths N o a b = some (nI (cnN (vw N o) a b 24), swG (clP N o 24) N a b) := by
  have e : loop (X1_swapCloths_L5 o a b) 3000 ((0 : Int32), (0 : Int32), N) = some (nI (cnN (vw N o) a b 24), swG (clP N o 24) N a b) := by
    have z : swG (clP N o 0) N a b = N := by
      funext k q
      unfold swG
      rw [if_neg (fun h => absurd h.2.1 (by omega))]
    have : loop (X1_swapCloths_L5 o a b) 3000 (nI (cnN (vw N o) a b 0), nI 0, swG (clP N o 0) N a b) = some (nI (cnN (vw N o) a b 24), swG (clP N o 24) N a b) := by
      refine loop_for (fun i => (nI (cnN (vw N o) a b i), nI i, swG (clP N o i) N a b)) 24 (by omega) (fun i hi => ?_) (by simp only [X1_swapCloths_L5, un3_s]; rfl)
      have r3 : ∀ q, swG (clP N o i) N a b (o + 3) q = N (o + 3) q := by
        intro q
        unfold swG
        rw [if_neg (fun h => absurd h.1 (by omega))]
      have r4 : swG (clP N o i) N a b (o + 4) i = N (o + 4) i := by
        unfold swG
        rw [if_neg (fun h => absurd h.2.1 (by omega))]
      have hc' : COk (swG (clP N o i) N a b) o := by
        intro q hq
        rw [r3]
        exact hc q hq
      have eC : (vw (swG (clP N o i) N a b) o).C i = (vw N o).C i := by rw [vwC hi, vwC hi, r3]
      simp only [X1_swapCloths_L5, X1_swapCloths_L5_j57, un3_s, bnd_s, if_neg (s24 hi), X1_isOfCloth_eq hc' hi, bd1_s, eC, nI_1, stoN hi (by decide), cnN]
      by_cases h0 : 0 < (vw N o).C i
      · have eL : (vw (swG (clP N o i) N a b) o).L i = (vw N o).L i := by rw [vwL hi (by rw [eC]; exact h0), vwL hi h0, r4]
        have eL' : (vw N o).L i = N (o + 4) i := vwL hi h0
        have st : wr (swG (clP N o i) N a b) (o + 4) i (sw a b (N (o + 4) i)) = swG (clP N o (i + 1)) N a b := by
          refine swG_step (o + 4) i (fun h => absurd h.2.1 (by omega)) (fun k q => ?_)
          unfold clP
          constructor
          · rintro ⟨u1, u2, u3⟩
            by_cases e : q = i
            · exact Or.inr ⟨u1, e⟩
            · exact Or.inl ⟨u1, by omega, u3⟩
          · rintro (⟨u1, u2, u3⟩ | ⟨u1, u2⟩)
            · exact ⟨u1, by omega, u3⟩
            · refine ⟨u1, by omega, ?_⟩
              rw [u2, ← vwC hi]; exact h0
        simp only [h0, true_and, eL]
        rw [eL']
        by_cases z1 : N (o + 4) i = a
        · simp only [z1, if_true, i10, if_false, true_or]
          rw [← st]
          unfold sw
          rw [if_pos z1]
        · simp only [z1, if_false, if_true, false_or]
          by_cases z2 : N (o + 4) i = b
          · simp only [z2, i10, if_false, if_true]
            rw [← st]
            unfold sw
            rw [if_neg z1, if_pos z2]
          · simp only [z2, if_false, if_true]
            rw [← st, wr_self]
            unfold sw
            rw [if_neg z1, if_neg z2, r4]
      · have st : swG (clP N o i) N a b = swG (clP N o (i + 1)) N a b := by
          refine swG_same (fun k q => ?_)
          unfold clP
          constructor
          · rintro ⟨u1, u2, u3⟩
            by_cases e : q = i
            · rw [e, ← vwC hi] at u3; exact absurd u3 h0
            · exact ⟨u1, by omega, u3⟩
          · rintro ⟨u1, u2, u3⟩
            exact ⟨u1, by omega, u3⟩
        simp only [h0, false_and, if_false, if_true]
        rw [st]
    rw [z] at this
    exact this
  simp only [X1_swapCloths, e, bd2_s]
/-- the frames of the class -/
abbrev frP (i k q : Nat) : Prop := k = 15 ∧ q < i
theorem swL2 {n : Nat} {N : Mem} {a b : Int32} : loop (X3_swapCloths_L2 n a b) 3000 ((0 : Int32), N) = some (swG (frP 2) N a b) := by
  have z : swG (frP 0) N a b = N := by
    funext k q
    unfold swG
    rw [if_neg (fun h => absurd h.2 (by omega))]
  have : loop (X3_swapCloths_L2 n a b) 3000 (nI 0, swG (frP 0) N a b) = some (swG (frP 2) N a b) := by
    refine loop_for (fun i => (nI i, swG (frP i) N a b)) 2 (by omega) (fun i hi => ?_) (by simp only [X3_swapCloths_L2, un2_s]; rfl)
    have r4 : swG (frP i) N a b 15 i = N 15 i := by
      unfold swG
      rw [if_neg (fun h => absurd h.2 (by omega))]
    have st : wr (swG (frP i) N a b) 15 i (sw a b (N 15 i)) = swG (frP (i + 1)) N a b := by
      refine swG_step 15 i (fun h => absurd h.2 (by omega)) (fun k q => ?_)
      unfold frP
      omega
    simp only [X3_swapCloths_L2, X3_swapCloths_L2_j44, un2_s, bnd_s, if_neg (show ¬ (2 : Int32) ≤ nI i from nI_ge (b := 2) hi (by decide)), ldN hi (by decide), stoN hi (by decide), r4, nI_1]
    by_cases z1 : N 15 i = a
    · rw [if_pos z1, ← st]
      unfold sw
      rw [if_pos z1]
    · rw [if_neg z1]
      by_cases z2 : N 15 i = b
      · rw [if_pos z2, ← st]
        unfold sw
        rw [if_neg z1, if_pos z2]
      · rw [if_neg z2, ← st, wr_self]
        unfold sw
        rw [if_neg z1, if_neg z2, r4]
  rw [z] at this
  exact this
/-- the kept blocks before the i-th -/
abbrev keP (N : Mem) (i k q : Nat) : Prop := 53 ≤ k ∧ (k - 53) % 5 = 0 ∧ (k - 53) / 5 < i ∧ q < 24 ∧ 0 < (N (k - 1) q).toNatClampNeg
def skN (f : Nat → Nat) : Nat → Nat
  | 0 => 0
  | i + 1 => skN f i + f i
theorem skN_le {f : Nat → Nat} {b : Nat} (h : ∀ j, f j ≤ b) : ∀ i, skN f i ≤ b * i
  | 0 => by unfold skN; omega
  | i + 1 => by
    have h1 := skN_le h i
    have h2 := h i
    unfold skN
    rw [Nat.mul_succ]
    omega
theorem skN_congr {f g : Nat → Nat} : ∀ i, (∀ j, j < i → f j = g j) → skN f i = skN g i
  | 0, _ => rfl
  | i + 1, h => by
    rw [skN, skN, skN_congr i (fun j hj => h j (by omega)), h i (by omega)]
theorem swL55 {n K : Nat} {N : Mem} {a b : Int32} (hK : K ≤ 10) (hn : n = 49 + 5 * K) (h10 : N 10 1 = nI K) (h11 : ∀ i, i < K → N 11 i = nI (49 + 5 * i)) (hco : ∀ j, j < K → COk N (49 + 5 * j)) : loop (X3_swapCloths_L55 n a b) 3000 ((0 : Int32), (0 : Int32), N) = some (nI (skN (fun j => cnN (vw N (49 + 5 * j)) a b 24) K), swG (keP N K) N a b) := by
  have z : swG (keP N 0) N a b = N := by
    funext k q
    unfold swG
    rw [if_neg (fun h => absurd h.2.2.1 (by omega))]
  have lo : ∀ i k q, k < 49 → swG (keP N i) N a b k q = N k q := by
    intro i k q hk
    unfold swG
    rw [if_neg (fun h => absurd h.1 (by omega))]
  have : loop (X3_swapCloths_L55 n a b) 3000 (nI (skN (fun j => cnN (vw N (49 + 5 * j)) a b 24) 0), nI 0, swG (keP N 0) N a b) = some (nI (skN (fun j => cnN (vw N (49 + 5 * j)) a b 24) K), swG (keP N K) N a b) := by
    refine loop_for (fun i => (nI (skN (fun j => cnN (vw N (49 + 5 * j)) a b 24) i), nI i, swG (keP N i) N a b)) K (by omega) (fun i hi => ?_) ?_
    · have ru : ∀ k q, (k = 49 + 5 * i + 1 ∨ k = 49 + 5 * i + 2 ∨ k = 49 + 5 * i + 3 ∨ k = 49 + 5 * i + 4) → swG (keP N i) N a b k q = N k q := by
        intro k q hk
        unfold swG
        rw [if_neg (fun h => by obtain ⟨h1, h2, h3, _⟩ := h; omega)]
      have hc' : COk (swG (keP N i) N a b) (49 + 5 * i) := by
        intro q hq
        rw [ru _ _ (by omega)]
        exact hco i hi q hq
      have ev : vw (swG (keP N i) N a b) (49 + 5 * i) = vw N (49 + 5 * i) := by
        refine vw_same (fun q hq => ⟨?_, ?_⟩) (fun q hq => ⟨?_, ?_⟩)
        all_goals rw [ru _ _ (by omega)]
      have em : swG (clP (swG (keP N i) N a b) (49 + 5 * i) 24) (swG (keP N i) N a b) a b = swG (keP N (i + 1)) N a b := by
        funext k q
        by_cases e : k = 49 + 5 * i + 4
        · subst e
          unfold swG
          have e3 : (if keP N i (49 + 5 * i + 3) q then sw a b (N (49 + 5 * i + 3) q) else N (49 + 5 * i + 3) q) = N (49 + 5 * i + 3) q := if_neg (fun h => by obtain ⟨h1, h2, h3, _⟩ := h; omega)
          have e4 : (if keP N i (49 + 5 * i + 4) q then sw a b (N (49 + 5 * i + 4) q) else N (49 + 5 * i + 4) q) = N (49 + 5 * i + 4) q := if_neg (fun h => by obtain ⟨h1, h2, h3, _⟩ := h; omega)
          rw [e4]
          by_cases c : q < 24 ∧ 0 < (N (49 + 5 * i + 3) q).toNatClampNeg
          · rw [if_pos (show clP _ (49 + 5 * i) 24 (49 + 5 * i + 4) q from ⟨rfl, c.1, by simp only [e3]; exact c.2⟩), if_pos (show keP N (i + 1) (49 + 5 * i + 4) q from ⟨by omega, by omega, by omega, c.1, c.2⟩)]
          · rw [if_neg (fun h => c ⟨h.2.1, by have := h.2.2; simp only [e3] at this; exact this⟩), if_neg (fun h => c ⟨h.2.2.2.1, h.2.2.2.2⟩)]
        · show (if clP _ (49 + 5 * i) 24 k q then _ else swG (keP N i) N a b k q) = _
          rw [if_neg (fun h => e h.1)]
          unfold swG
          by_cases c : keP N i k q
          · rw [if_pos c, if_pos (show keP N (i + 1) k q from by obtain ⟨u1, u2, u3, u4⟩ := c; exact ⟨u1, u2, by omega, u4⟩)]
          · rw [if_neg c, if_neg (fun h => c (by obtain ⟨u1, u2, u3, u4⟩ := h; exact ⟨u1, u2, by omega, u4⟩))]
      simp only [X3_swapCloths_L55, X3_swapCloths_L55_j88, un3_s, bnd_s, lo i 10 1 (by omega), h10, if_neg (show ¬ nI K ≤ nI i from nI_ge hi (by omega)), ldN (show i < 10 by omega) (show 10 < 2147483648 by decide), lo i 11 i (by omega), h11 i hi, nI_ne0' (show 0 < 49 + 5 * i by omega) (show 49 + 5 * i < 2147483648 by omega), if_false, drok_K hK hn hi, chk, if_true, nI_clamp (show 49 + 5 * i < 2147483648 by omega), X1_swapCloths_eq hc', bd2_s, ev, em, nI_1, nI_add, skN]
    · simp only [X3_swapCloths_L55, un3_s, lo K 10 1 (by omega), h10]
      rw [if_pos (nI_le (Nat.le_refl _) (by omega))]
  rw [z] at this
  exact this
/-! the model's -/
abbrev moP (i k q : Nat) : Prop := k = 29 ∧ q < i
def mcN (M : Mem) (K : Nat) (a b : Int32) : Nat → Nat
  | 0 => 0
  | p + 1 => if 0 < (M 28 p).toNatClampNeg ∧ (240 ≤ p ∨ p < 24 * K) ∧ (M 29 p = a ∨ M 29 p = b) then mcN M K a b p + 1 else mcN M K a b p
theorem mcN_blk {M : Mem} {K j : Nat} {a b : Int32} (hj : j < K ∨ j = 10) : ∀ p, p ≤ 24 → mcN M K a b (24 * j + p) = mcN M K a b (24 * j) + cnN (vm M j) a b p
  | 0, _ => rfl
  | p + 1, hp => by
    have ih := mcN_blk (M := M) (a := a) (b := b) hj p (by omega)
    rw [show 24 * j + (p + 1) = (24 * j + p) + 1 from rfl, mcN]
    unfold cnN
    have eC := vmC (M := M) (j := j) (i := p) (by omega)
    by_cases c : 0 < (vm M j).C p
    · have eL := vmL (M := M) (j := j) (i := p) (by omega) c
      rw [eL, ← eC, ih]
      by_cases d : M 29 (24 * j + p) = a ∨ M 29 (24 * j + p) = b
      · rw [if_pos ⟨c, by omega, d⟩, if_pos ⟨c, d⟩]; omega
      · rw [if_neg (fun h => d h.2.2), if_neg (fun h => d h.2)]
    · rw [if_neg (fun h => c (by rw [eC]; exact h.1)), if_neg (fun h => c h.1), ih]
theorem mcN_gap {M : Mem} {K : Nat} {a b : Int32} (hK : K ≤ 10) : ∀ p, 24 * K + p ≤ 240 → mcN M K a b (24 * K + p) = mcN M K a b (24 * K)
  | 0, _ => rfl
  | p + 1, hp => by
    have ih := mcN_gap (M := M) (a := a) (b := b) hK p (by omega)
    rw [show 24 * K + (p + 1) = (24 * K + p) + 1 from rfl, mcN]
    rw [if_neg (fun h => by have := h.2.1; omega), ih]
theorem mcN_all {M : Mem} {K : Nat} {a b : Int32} (hK : K ≤ 10) : mcN M K a b 264 = cnN (vm M 10) a b 24 + skN (fun j => cnN (vm M j) a b 24) K := by
  have h1 : ∀ j, j ≤ K → mcN M K a b (24 * j) = skN (fun j => cnN (vm M j) a b 24) j := by
    intro j
    induction j with
    | zero => intro _; rfl
    | succ j ih =>
      intro hj
      rw [show 24 * (j + 1) = 24 * j + 24 by omega, mcN_blk (Or.inl (by omega)) 24 (by omega), ih (by omega)]
      rfl
  have h2 := mcN_gap (M := M) (a := a) (b := b) hK (240 - 24 * K) (by omega)
  rw [show 24 * K + (240 - 24 * K) = 24 * 10 by omega, h1 K (by omega)] at h2
  rw [show 264 = 24 * 10 + 24 from rfl, mcN_blk (Or.inr rfl) 24 (by omega), h2]
  omega
theorem mcN_le (M : Mem) (K : Nat) (a b : Int32) : ∀ p, mcN M K a b p ≤ p
  | 0 => Nat.le_refl _
  | p + 1 => by
    have := mcN_le M K a b p
    unfold mcN
    split <;> omega
theorem pos_iff {x : Int32} : (x ≤ 0) ↔ ¬ 0 < x.toNatClampNeg := by
  rw [Int32.le_iff_toInt_le, show (0 : Int32).toInt = 0 from rfl, Int32.toNatClampNeg]
  omega
theorem X5_swapped_eq {M : Mem} {x a b : Int32} : X5_swapped M x a b = some (sw a b x) := by
  simp only [X5_swapped, X5_swapped_j19, sw]
  split
  · rfl
  · split <;> rfl
theorem swL34 {K : Nat} {N : Mem} {a b : Int32} (hK : K ≤ 10) (hk : N 27 1 = nI K) : loop (X5_swap_L34 a b) 3000 ((0 : Int32), (0 : Int32), N) = some (nI (mcN N K a b 264), swG (moP 264) N a b) := by
  have z : swG (moP 0) N a b = N := by
    funext k q
    unfold swG
    rw [if_neg (fun h => absurd h.2 (by omega))]
  have lo : ∀ i k q, k ≠ 29 → swG (moP i) N a b k q = N k q := by
    intro i k q hk
    unfold swG
    rw [if_neg (fun h => absurd h.1 hk)]
  have : loop (X5_swap_L34 a b) 3000 (nI (mcN N K a b 0), nI 0, swG (moP 0) N a b) = some (nI (mcN N K a b 264), swG (moP 264) N a b) := by
    refine loop_for (fun i => (nI (mcN N K a b i), nI i, swG (moP i) N a b)) 264 (by omega) (fun i hi => ?_) (by simp only [X5_swap_L34, un3_s]; rfl)
    have r4 : swG (moP i) N a b 29 i = N 29 i := by
      unfold swG
      rw [if_neg (fun h => absurd h.2 (by omega))]
    have st : wr (swG (moP i) N a b) 29 i (sw a b (N 29 i)) = swG (moP (i + 1)) N a b := by
      refine swG_step 29 i (fun h => absurd h.2 (by omega)) (fun k q => ?_)
      unfold moP
      omega
    have f1 : ∀ v, X5_swap_L34_j113 (swG (moP i) N a b) a b (nI i) v = some (.inl (v, nI (i + 1), swG (moP (i + 1)) N a b)) := by
      intro v
      simp only [X5_swap_L34_j113, ldN hi (by decide), r4, X5_swapped_eq, bd1_s, stoN hi (by decide), bnd_s, nI_1, st]
    have g1 : ¬ (264 : Int32) ≤ nI i := nI_ge (b := 264) hi (by decide)
    have i1 : (24 : Int32) * nI K = nI (24 * K) := by rw [show (24 : Int32) = nI 24 from rfl, nI_mul]
    have c1 : ((240 : Int32) ≤ nI i) = (240 ≤ i) := nI_le_iff (a := 240) (by omega) (by omega)
    have c2 : (nI (24 * K) ≤ nI i) = (24 * K ≤ i) := nI_le_iff (by omega) (by omega)
    simp only [X5_swap_L34, un3_s, if_neg g1, ldN hi (by decide), lo i 28 i (by omega), lo i 27 1 (by omega), hk, i1, c1, c2, X5_swap_L34_j76, X5_swap_L34_j72, X5_swap_L34_j77, X5_swap_L34_j112, X5_swap_L34_j106, r4, f1, i10, if_false, if_true, pos_iff, mcN, nI_1]
    by_cases d1 : 0 < (N 28 i).toNatClampNeg
    · rw [if_neg (fun h => h d1)]
      by_cases d2 : 240 ≤ i
      · rw [if_pos d2]
        by_cases d3 : N 29 i = a
        · rw [if_pos d3, if_pos ⟨d1, Or.inl d2, Or.inl d3⟩]
        · rw [if_neg d3]
          by_cases d4 : N 29 i = b
          · rw [if_pos d4, if_pos ⟨d1, Or.inl d2, Or.inr d4⟩]
          · rw [if_neg d4, if_neg (fun h => h.2.2.elim d3 d4)]
      · rw [if_neg d2]
        by_cases d5 : 24 * K ≤ i
        · rw [if_pos d5, if_neg (fun h => by have := h.2.1; omega)]
        · rw [if_neg d5]
          by_cases d3 : N 29 i = a
          · rw [if_pos d3, if_pos ⟨d1, Or.inr (by omega), Or.inl d3⟩]
          · rw [if_neg d3]
            by_cases d4 : N 29 i = b
            · rw [if_pos d4, if_pos ⟨d1, Or.inr (by omega), Or.inr d4⟩]
            · rw [if_neg d4, if_neg (fun h => h.2.2.elim d3 d4)]
    · rw [if_pos d1, if_neg (fun h => d1 h.1)]
  rw [z] at this
  exact this
theorem PI.swap {M N : Mem} {o j p : Nat} {a b : Int32} (hp : p < 24) (ha : Wn a 12) (hb : Wn b 12) (h : PI M o j p)
    (hX : ∀ c, c < 8 → N (o + 1) (8 * p + c) = M (o + 1) (8 * p + c) ∧ N (o + 2) (8 * p + c) = M (o + 2) (8 * p + c) ∧ N 30 (192 * j + (8 * p + c)) = M 30 (192 * j + (8 * p + c)) ∧ N 31 (192 * j + (8 * p + c)) = M 31 (192 * j + (8 * p + c)))
    (hC : N (o + 3) p = M (o + 3) p ∧ N 28 (24 * j + p) = M 28 (24 * j + p))
    (hL : 0 < (M (o + 3) p).toNatClampNeg → N (o + 4) p = sw a b (M (o + 4) p)) (hL' : N 29 (24 * j + p) = sw a b (M 29 (24 * j + p))) : PI N o j p := by
  obtain ⟨h1, h2⟩ := h
  refine ⟨fun c hc => ?_, ?_⟩
  · obtain ⟨a1, a2, a3, a4⟩ := hX c hc
    rw [a1, a2, a3, a4]
    exact h1 c hc
  · rw [hC.1, hC.2]
    rcases h2 with h2 | ⟨k, l, k1, k2, k3, k4, k5, k6, k7, k8⟩
    · exact Or.inl h2
    · obtain ⟨m, hm, em⟩ := sw_12 ha hb k3
      refine Or.inr ⟨k, m, k1, k2, hm, k4, k5, ?_, ?_, ?_⟩
      · rw [hL (by rw [k4, nI_clamp (by omega)]; omega), k6, em]
      · rw [hL', k7, em]
      · have eC : (vm M j).C p = k := by rw [vmC hp, k5, nI_clamp (by omega)]
        refine Cvx_congr ?_ (by omega) (fun c hc => ?_) (fun c hc => ?_) k8
        · rw [vmC hp, vmC hp, hC.2]
        · rw [vmX (by omega), vmX (by omega), (hX c hc).2.2.1]
        · rw [vmY (by omega), vmY (by omega), (hX c hc).2.2.2]
theorem mcN_congr {M N : Mem} {K : Nat} {a b : Int32} (h1 : ∀ p, N 28 p = M 28 p) (h2 : ∀ p, N 29 p = M 29 p) : ∀ p, mcN N K a b p = mcN M K a b p
  | 0 => rfl
  | p + 1 => by
    rw [mcN, mcN, mcN_congr h1 h2 p, h1, h2]
theorem st_swap {n : Nat} {M : Mem} {a1 a2 a3 a4 : Int32} (h : INV n M) : ∃ g M2, St 12 n M a1 a2 a3 a4 g M2 ∧ INV (n + g) M2 := by
  have hI := h
  obtain ⟨K, k1, k2, hD, hS, hKe, hT, hC⟩ := h
  obtain ⟨c1, c2, c3⟩ := hI.co
  obtain ⟨r, hr⟩ : ∃ r, mcN M K a1 a2 264 = r := ⟨_, rfl⟩
  by_cases h1 : Wn a1 12 ∧ Wn a2 12
  · -- the class
    have A1 : ∀ k q, ¬ (k = 17 ∧ q = 0) → (wr M 17 0 (-1)) k q = M k q := fun k q hk => wr_ne hk
    have B1 : ∀ k q, k ≠ 5 → ¬ (k = 17 ∧ q = 0) → swG (clP (wr M 17 0 (-1)) 1 24) (wr M 17 0 (-1)) a1 a2 k q = M k q := by
      intro k q hk h17
      show (if clP _ 1 24 k q then _ else (wr M 17 0 (-1)) k q) = _
      rw [if_neg (fun h => hk h.1), A1 k q h17]
    have B5 : ∀ p, p < 24 → 0 < (M 4 p).toNatClampNeg → swG (clP (wr M 17 0 (-1)) 1 24) (wr M 17 0 (-1)) a1 a2 5 p = sw a1 a2 (M 5 p) := by
      intro p hp hc
      show (if clP _ 1 24 5 p then sw a1 a2 ((wr M 17 0 (-1)) 5 p) else _) = _
      rw [if_pos (show clP _ 1 24 5 p from ⟨rfl, hp, by rw [A1 _ _ (by omega)]; exact hc⟩), A1 _ _ (by omega)]
    generalize hBm : swG (clP (wr M 17 0 (-1)) 1 24) (wr M 17 0 (-1)) a1 a2 = B at B1 B5
    have B17 : B 17 0 = -1 := by
      rw [← hBm]
      show (if clP _ 1 24 17 0 then _ else (wr M 17 0 (-1)) 17 0) = _
      rw [if_neg (fun h => absurd h.1 (by omega)), wr_at, if_pos ⟨rfl, rfl⟩]
    have C1 : ∀ k q, k ≠ 15 → swG (frP 2) B a1 a2 k q = B k q := by
      intro k q hk
      show (if frP 2 k q then _ else B k q) = _
      rw [if_neg (fun h => hk h.1)]
    have C15 : ∀ q, q < 2 → swG (frP 2) B a1 a2 15 q = sw a1 a2 (M 15 q) := by
      intro q hq
      show (if frP 2 15 q then sw a1 a2 (B 15 q) else _) = _
      rw [if_pos ⟨rfl, hq⟩, B1 _ _ (by omega) (by omega)]
    generalize hCm : swG (frP 2) B a1 a2 = C at C1 C15
    have CM : ∀ k q, k ≠ 15 → k ≠ 5 → ¬ (k = 17 ∧ q = 0) → C k q = M k q := fun k q b1 b2 b3 => (C1 k q b1).trans (B1 k q b2 b3)
    have D1 : ∀ k q, k < 49 → swG (keP C K) C a1 a2 k q = C k q := by
      intro k q hk
      show (if keP C K k q then _ else C k q) = _
      rw [if_neg (fun h => absurd h.1 (by omega))]
    have D2 : ∀ j i q, j < K → (i = 1 ∨ i = 2 ∨ i = 3) → swG (keP C K) C a1 a2 (49 + 5 * j + i) q = M (49 + 5 * j + i) q := by
      intro j i q hj hi
      show (if keP C K (49 + 5 * j + i) q then _ else C (49 + 5 * j + i) q) = _
      rw [if_neg (fun h => by obtain ⟨u1, u2, u3, _⟩ := h; omega), CM _ _ (by omega) (by omega) (by omega)]
    have D4 : ∀ j p, j < K → p < 24 → 0 < (M (49 + 5 * j + 3) p).toNatClampNeg → swG (keP C K) C a1 a2 (49 + 5 * j + 4) p = sw a1 a2 (M (49 + 5 * j + 4) p) := by
      intro j p hj hp hc
      show (if keP C K (49 + 5 * j + 4) p then sw a1 a2 (C (49 + 5 * j + 4) p) else _) = _
      rw [if_pos (show keP C K (49 + 5 * j + 4) p from ⟨by omega, by omega, by omega, hp, by rw [show 49 + 5 * j + 4 - 1 = 49 + 5 * j + 3 from rfl, CM _ _ (by omega) (by omega) (by omega)]; exact hc⟩), CM _ _ (by omega) (by omega) (by omega)]
    have e1 : X1_swapCloths (wr M 17 0 (-1)) 1 a1 a2 = some (nI (cnN (vm M 10) a1 a2 24), B) := by
      rw [X1_swapCloths_eq (N := wr M 17 0 (-1)) (o := 1) c1, hBm]
      have : vw (wr M 17 0 (-1)) 1 = vw M 1 := rfl
      rw [this, c3]
    have ev : ∀ j, j < K → vw C (49 + 5 * j) = vm M j := by
      intro j hj
      rw [← (hKe.2.2.2 j hj).1]
      refine vw_same (fun i hi => ⟨?_, ?_⟩) (fun p hp => ⟨?_, ?_⟩)
      all_goals rw [CM _ _ (by omega) (by omega) (by omega)]
    have sk : skN (fun j => cnN (vw C (49 + 5 * j)) a1 a2 24) K = skN (fun j => cnN (vm M j) a1 a2 24) K := skN_congr K (fun j hj => congrArg (fun V => cnN V a1 a2 24) (ev j hj))
    have e2 : X3_swapCloths n B a1 a2 = some (nI (skN (fun j => cnN (vm M j) a1 a2 24) K), swG (keP C K) C a1 a2) := by
      have := swL55 (n := n) (K := K) (N := C) (a := a1) (b := a2) k1 k2 (by rw [CM _ _ (by omega) (by omega) (by omega)]; exact hKe.1) (fun i hi => by rw [CM _ _ (by omega) (by omega) (by omega), hKe.2.2.1, if_pos hi]) (fun j hj q hq => by rw [CM _ _ (by omega) (by omega) (by omega)]; exact (hKe.2.2.2 j hj).2.1 q hq)
      simp only [X3_swapCloths, swL2, hCm, bd1_s, this, bd2_s, sk]
    generalize hDm : swG (keP C K) C a1 a2 = D at D1 D2 D4 e2
    have DM : ∀ k q, k < 49 → k ≠ 15 → k ≠ 5 → ¬ (k = 17 ∧ q = 0) → D k q = M k q := fun k q b0 b1 b2 b3 => (D1 k q b0).trans (CM k q b1 b2 b3)
    have e4 : X4_swap n M a1 a2 = some (.inl (nI r), D) := by
      rw [← hr, mcN_all k1]
      simp only [X4_swap, X4_swap_j23, w4_1 (b := 12) 12 rfl (by decide) h1.1, w4_1 (b := 12) 12 rfl (by decide) h1.2, bd1_s, i10, if_false, X0_forget, bnd_s, e1, e2, bd2_s, nI_add]
    -- the model
    have EM : ∀ k q, k < 49 → k ≠ 15 → k ≠ 5 → ¬ (k = 17 ∧ q = 0) → ¬ (k = 48 ∧ q = 0) → ¬ (k = 27 ∧ q = 0) → (wr (wr D 48 0 (nI r)) 27 0 0) k q = M k q := by
      intro k q b0 b1 b2 b3 b4 b5
      rw [wr_ne b5, wr_ne b4, DM k q b0 b1 b2 b3]
    have ED : ∀ k q, ¬ (k = 48 ∧ q = 0) → ¬ (k = 27 ∧ q = 0) → (wr (wr D 48 0 (nI r)) 27 0 0) k q = D k q := by
      intro k q b4 b5
      rw [wr_ne b5, wr_ne b4]
    have E27 : (wr (wr D 48 0 (nI r)) 27 0 0) 27 0 = 0 := th_at
    have E48 : (wr (wr D 48 0 (nI r)) 27 0 0) 48 0 = nI r := by rw [wr_ne (by omega), ou_at]
    have mE : mcN (wr (wr D 48 0 (nI r)) 27 0 0) K a1 a2 264 = r := by
      refine Eq.trans ?_ hr
      exact mcN_congr (fun p => EM 28 p (by omega) (by omega) (by omega) (by omega) (by omega) (by omega)) (fun p => EM 29 p (by omega) (by omega) (by omega) (by omega) (by omega) (by omega)) 264
    have g5 : X5_goes (wr D 48 0 (nI r)) 1 1 = some (1, wr (wr D 48 0 (nI r)) 27 0 0) := goes_0
    generalize hEm : wr (wr D 48 0 (nI r)) 27 0 0 = E at EM ED E27 E48 mE g5
    have l5 := swL34 (N := E) (K := K) (a := a1) (b := a2) k1 (by rw [EM _ _ (by omega) (by omega) (by omega) (by omega) (by omega) (by omega)]; exact hKe.2.1)
    have F1 : ∀ k q, k ≠ 29 → swG (moP 264) E a1 a2 k q = E k q := by
      intro k q hk
      show (if moP 264 k q then _ else E k q) = _
      rw [if_neg (fun h => hk h.1)]
    have F29 : ∀ q, q < 264 → swG (moP 264) E a1 a2 29 q = sw a1 a2 (M 29 q) := by
      intro q hq
      show (if moP 264 29 q then sw a1 a2 (E 29 q) else _) = _
      rw [if_pos ⟨rfl, hq⟩, EM _ _ (by omega) (by omega) (by omega) (by omega) (by omega) (by omega)]
    generalize hFm : swG (moP 264) E a1 a2 = F at F1 F29 l5
    have f0 : F 38 0 = M 38 0 := by rw [F1 _ _ (by omega), EM _ _ (by omega) (by omega) (by omega) (by omega) (by omega) (by omega)]
    have f1 : F 38 1 = M 38 1 := by rw [F1 _ _ (by omega), EM _ _ (by omega) (by omega) (by omega) (by omega) (by omega) (by omega)]
    have e5 : X5_swap (wr D 48 0 (nI r)) a1 a2 = some (nI r, wr (wr F 38 0 (sw a1 a2 (M 38 0))) 38 1 (sw a1 a2 (M 38 1))) := by
      simp only [X5_swap, X5_swap_j20, cl_1 h1.1, cl_1 h1.2, bd1_s, i10, if_false, g5, bd2_s, l5, X5_swapped_eq]
      rw [show (0 : Int32) = nI 0 from rfl, ldN (by omega) (by decide), stoN (by omega) (by decide), one_eq, ldN (by omega) (by decide), stoN (by omega) (by decide), wr_ne (by omega), f0, f1, mE]
    have GD : ∀ k q, k ≠ 29 → k ≠ 38 → ¬ (k = 48 ∧ q = 0) → ¬ (k = 27 ∧ q = 0) → (wr (wr F 38 0 (sw a1 a2 (M 38 0))) 38 1 (sw a1 a2 (M 38 1))) k q = D k q := by
      intro k q b1 b2 b3 b4
      rw [wr_ne (by omega), wr_ne (by omega), F1 k q b1, ED k q b3 b4]
    have GM : ∀ k q, k < 49 → k ≠ 29 → k ≠ 38 → ¬ (k = 48 ∧ q = 0) → ¬ (k = 27 ∧ q = 0) → k ≠ 15 → k ≠ 5 → ¬ (k = 17 ∧ q = 0) → (wr (wr F 38 0 (sw a1 a2 (M 38 0))) 38 1 (sw a1 a2 (M 38 1))) k q = M k q := by
      intro k q b0 b1 b2 b3 b4 b5 b6 b7
      rw [GD k q b1 b2 b3 b4, DM k q b0 b5 b6 b7]
    have G29 : ∀ q, q < 264 → (wr (wr F 38 0 (sw a1 a2 (M 38 0))) 38 1 (sw a1 a2 (M 38 1))) 29 q = sw a1 a2 (M 29 q) := by
      intro q hq
      rw [wr_ne (by omega), wr_ne (by omega), F29 q hq]
    have G38 : ∀ q, q < 2 → (wr (wr F 38 0 (sw a1 a2 (M 38 0))) 38 1 (sw a1 a2 (M 38 1))) 38 q = sw a1 a2 (M 38 q) := by
      intro q hq
      have : q = 0 ∨ q = 1 := by omega
      rcases this with rfl | rfl
      · rw [wr_ne (by omega), wr_at, if_pos ⟨rfl, rfl⟩]
      · rw [wr_at, if_pos ⟨rfl, rfl⟩]
    have G27 : (wr (wr F 38 0 (sw a1 a2 (M 38 0))) 38 1 (sw a1 a2 (M 38 1))) 27 0 = 0 := by rw [wr_ne (by omega), wr_ne (by omega), F1 _ _ (by omega), E27]
    have G48 : (wr (wr F 38 0 (sw a1 a2 (M 38 0))) 38 1 (sw a1 a2 (M 38 1))) 48 0 = nI r := by rw [wr_ne (by omega), wr_ne (by omega), F1 _ _ (by omega), E48]
    refine ⟨0, _, ⟨0, wr D 48 0 (nI r), _, Or.inl ⟨_, D, e4, rfl, rfl, rfl⟩, e5, G27, fun _ => G48⟩, ?_⟩
    generalize wr (wr F 38 0 (sw a1 a2 (M 38 0))) 38 1 (sw a1 a2 (M 38 1)) = G at GD GM G29 G38
    refine ⟨K, k1, k2, DrI.of (fun p hp => ?_), ?_, ⟨?_, ?_, fun i => ?_, fun j hj => DrI.of (fun p hp => ?_)⟩, ⟨fun i hi => ?_, fun i hi => ?_⟩, Or.inl ?_⟩
    · refine (hD.pi hp).swap hp h1.1 h1.2 (fun c hc => ⟨?_, ?_, ?_, ?_⟩) ⟨?_, ?_⟩ (fun hc => ?_) (G29 _ (by omega))
      all_goals first | (rw [GM _ _ (by omega) (by omega) (by omega) (by omega) (by omega) (by omega) (by omega) (by omega)]; done) | skip
      rw [GD _ _ (by omega) (by omega) (by omega) (by omega), D1 _ _ (by omega), C1 _ _ (by omega)]
      exact B5 p hp hc
    · obtain ⟨S, z1, z2, z3, z4⟩ := hS
      refine ⟨S, z1, ?_, ?_, fun i hi => ?_⟩
      · rw [GM 6 3 (by omega) (by omega) (by omega) (by omega) (by omega) (by omega) (by omega) (by omega)]; exact z2
      · rw [GM 27 8 (by omega) (by omega) (by omega) (by omega) (by omega) (by omega) (by omega) (by omega)]; exact z3
      · rw [GM 9 i (by omega) (by omega) (by omega) (by omega) (by omega) (by omega) (by omega) (by omega), GM 34 i (by omega) (by omega) (by omega) (by omega) (by omega) (by omega) (by omega) (by omega)]; exact z4 i hi
    · rw [GM 10 1 (by omega) (by omega) (by omega) (by omega) (by omega) (by omega) (by omega) (by omega)]; exact hKe.1
    · rw [GM 27 1 (by omega) (by omega) (by omega) (by omega) (by omega) (by omega) (by omega) (by omega)]; exact hKe.2.1
    · rw [GM 11 i (by omega) (by omega) (by omega) (by omega) (by omega) (by omega) (by omega) (by omega)]; exact hKe.2.2.1 i
    · refine ((hKe.2.2.2 j hj).pi hp).swap hp h1.1 h1.2 (fun c hc => ⟨?_, ?_, ?_, ?_⟩) ⟨?_, ?_⟩ (fun hc => ?_) (G29 _ (by omega))
      · rw [GD _ _ (by omega) (by omega) (by omega) (by omega), D2 j 1 _ hj (by omega)]
      · rw [GD _ _ (by omega) (by omega) (by omega) (by omega), D2 j 2 _ hj (by omega)]
      · rw [GM _ _ (by omega) (by omega) (by omega) (by omega) (by omega) (by omega) (by omega) (by omega)]
      · rw [GM _ _ (by omega) (by omega) (by omega) (by omega) (by omega) (by omega) (by omega) (by omega)]
      · rw [GD _ _ (by omega) (by omega) (by omega) (by omega), D2 j 3 _ hj (by omega)]
      · rw [GM _ _ (by omega) (by omega) (by omega) (by omega) (by omega) (by omega) (by omega) (by omega)]
      · rw [GD _ _ (by omega) (by omega) (by omega) (by omega)]
        exact D4 j p hj hp hc
    · rw [GM 12 i (by omega) (by omega) (by omega) (by omega) (by omega) (by omega) (by omega) (by omega), GM 35 i (by omega) (by omega) (by omega) (by omega) (by omega) (by omega) (by omega) (by omega), GM 13 i (by omega) (by omega) (by omega) (by omega) (by omega) (by omega) (by omega) (by omega), GM 36 i (by omega) (by omega) (by omega) (by omega) (by omega) (by omega) (by omega) (by omega)]
      exact hT.1 i hi
    · rw [GM 14 i (by omega) (by omega) (by omega) (by omega) (by omega) (by omega) (by omega) (by omega), GM 37 i (by omega) (by omega) (by omega) (by omega) (by omega) (by omega) (by omega) (by omega), G38 i hi, GD 15 i (by omega) (by omega) (by omega) (by omega), D1 _ _ (by omega), C15 i hi]
      obtain ⟨t1, t2, t3, l, hl, t4⟩ := hT.2 i hi
      refine ⟨t1, t2, by rw [t3], ?_⟩
      rw [t4]
      exact sw_12 h1.1 h1.2 hl
    · rw [GD 17 0 (by omega) (by omega) (by omega) (by omega), D1 _ _ (by omega), C1 _ _ (by omega)]
      exact B17
  · refine ⟨0, wr M 27 0 1, ⟨1, M, 0, Or.inr ⟨M, ?_, rfl, rfl, rfl⟩, ?_, th_at, fun e => absurd e (by decide)⟩, hI.th⟩
    · by_cases q1 : Wn a1 12
      · simp only [X4_swap, X4_swap_j22, X4_swap_j23, w4_1 (b := 12) 12 rfl (by decide) q1, w4_0 (b := 12) 12 rfl (by decide) (fun e => h1 ⟨q1, e⟩), bd1_s, i10, if_false, if_true]
      · simp only [X4_swap, X4_swap_j22, X4_swap_j23, w4_0 (b := 12) 12 rfl (by decide) q1, bd1_s, if_true]
    · by_cases q1 : Wn a1 12
      · simp only [X5_swap, X5_swap_j19, X5_swap_j20, cl_1 q1, cl_0 (fun e => h1 ⟨q1, e⟩), bd1_s, i10, if_false, if_true, goes_1, bd2_s]
      · simp only [X5_swap, X5_swap_j19, X5_swap_j20, cl_0 q1, bd1_s, if_true, goes_1, bd2_s]
