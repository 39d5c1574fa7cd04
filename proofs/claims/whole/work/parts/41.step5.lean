/-! count, area -/
theorem ToI.at {K i : Nat} {M : Mem} (hK : K ≤ 10) (h : ToI K M) (hi : i < 36) : (M 12 i = -1 ∧ M 35 i = -1 ∧ (tp M).1 i = none) ∨ ∃ j, j < K ∧ M 12 i = nI j ∧ M 35 i = nI j ∧ (tp M).1 i = some (vm M j) := by
  obtain ⟨h1, h2, _⟩ := h.1 i hi
  rcases h2 with e | ⟨j, hj, e⟩
  · left
    refine ⟨h1.trans e, e, ?_⟩
    simp only [tp, if_pos hi, e, if_true]
  · right
    refine ⟨j, hj, h1.trans e, e, ?_⟩
    simp only [tp, if_pos hi, e]
    rw [if_neg (by rw [nI_m1 (by omega)]; exact id), nI_clamp (by omega)]
def pcN (T : Tp) : Nat → Nat
  | 0 => 0
  | i + 1 => if (T.1 i).isSome = true then pcN T i + 1 else pcN T i
section Cnt
variable {K : Nat} {M : Mem}
theorem pcN_le (T : Tp) : ∀ i, pcN T i ≤ i
  | 0 => Nat.le_refl _
  | i + 1 => by
    have := pcN_le T i
    unfold pcN
    split <;> omega
theorem rwN_le (T : Tp) : ∀ i, rwN T i ≤ i / 6 + 1
  | 0 => by unfold rwN; omega
  | i + 1 => by
    have := rwN_le T i
    unfold rwN
    split <;> omega
theorem clN_le (T : Tp) : ∀ i, clN T i ≤ 6
  | 0 => by unfold clN; omega
  | i + 1 => by
    have := clN_le T i
    unfold clN
    split <;> omega
theorem pc0 (T : Tp) : ∀ i, (pcN T i = 0 ↔ rwN T i = 0) ∧ (pcN T i = 0 ↔ clN T i = 0)
  | 0 => by simp [pcN, rwN, clN]
  | i + 1 => by
    have := pc0 T i
    unfold pcN rwN clN
    by_cases h : (T.1 i).isSome = true
    · simp only [h, if_true, true_and]
      refine ⟨by omega, ?_⟩
      split <;> omega
    · rw [if_neg h, if_neg h, if_neg (fun e => h e.1)]
      exact this
theorem rw36 (T : Tp) : rwN T 36 ≤ 6 := by
  have : ∀ i, i ≤ 36 → rwN T i ≤ 6 := by
    intro i
    induction i with
    | zero => intro _; unfold rwN; omega
    | succ i ih =>
      intro hi
      have := ih (by omega)
      unfold rwN
      split <;> omega
  exact this 36 (by omega)
theorem s36 {i : Nat} (hi : i < 36) : ¬ (36 : Int32) ≤ nI i := nI_ge (b := 36) (by omega) (by decide)
theorem div6 {i : Nat} (hi : i < 36) : nI i / 6 = nI (i / 6) := nI_div (b := 6) (by omega) (by decide) (by decide)
theorem rem6 {i : Nat} (hi : i < 36) : nI i - nI (i / 6) * 6 = nI (i % 6) := by
  have := nI_rem (a := i) (b := 6) (by omega) (by decide) (by decide)
  rw [show nI 6 = 6 from rfl, div6 hi] at this
  exact this
theorem one_eq : (1 : Int32) = nI 1 := rfl
theorem X3_placedBlocks_eq (hK : K ≤ 10) (h : ToI K M) : X3_placedBlocks M = some (nI (pcN (tp M) 36)) := by
  have e : loop (X3_placedBlocks_L4 M) 3000 ((0 : Int32), (0 : Int32)) = some (nI (pcN (tp M) 36)) := by
    refine loop_for (fun i => (nI (pcN (tp M) i), nI i)) 36 (by omega) (fun i hi => ?_) rfl
    simp only [X3_placedBlocks_L4, X3_placedBlocks_L4_j23, un2_s, bnd_s, if_neg (s36 hi), ldN hi (by decide), nI_1, pcN]
    rcases h.at hK hi with ⟨e1, e2, e3⟩ | ⟨j, hj, e1, e2, e3⟩
    · rw [e1, e3]; rfl
    · rw [e1, e3, if_neg (by rw [nI_m1 (by omega)]; exact id)]; rfl
  simp only [X3_placedBlocks, e, bd1_s]
theorem X3_usedRows_eq (hK : K ≤ 10) (h : ToI K M) : X3_usedRows M = some (nI (rwN (tp M) 36)) := by
  have e : loop (X3_usedRows_L4 M) 3000 ((0 : Int32), (0 : Int32)) = some (nI (rwN (tp M) 36)) := by
    refine loop_for (fun i => (nI (rwN (tp M) i), nI i)) 36 (by omega) (fun i hi => ?_) rfl
    simp only [X3_usedRows_L4, X3_usedRows_L4_j27, un2_s, bnd_s, if_neg (s36 hi), ldN hi (by decide), div6 hi, nI_1, rwN]
    rcases h.at hK hi with ⟨e1, e2, e3⟩ | ⟨j, hj, e1, e2, e3⟩
    · rw [e1, e3]; rfl
    · rw [e1, e3, if_neg (by rw [nI_m1 (by omega)]; exact id)]; rfl
  simp only [X3_usedRows, e, bd1_s]
theorem X5_rows_eq (hK : K ≤ 10) (h : ToI K M) : X5_rows M = some (nI (rwN (tp M) 36)) := by
  have e : loop (X5_rows_L4 M) 3000 ((0 : Int32), (0 : Int32)) = some (nI (rwN (tp M) 36)) := by
    refine loop_for (fun i => (nI (rwN (tp M) i), nI i)) 36 (by omega) (fun i hi => ?_) rfl
    simp only [X5_rows_L4, X5_rows_L4_j30, un2_s, bnd_s, if_neg (s36 hi), ldN hi (by decide), div6 hi, nI_1, rwN]
    rcases h.at hK hi with ⟨e1, e2, e3⟩ | ⟨j, hj, e1, e2, e3⟩
    · rw [e2, e3]; rfl
    · rw [e2, e3, if_neg (by rw [nI_m1 (by omega)]; exact id)]; rfl
  simp only [X5_rows, e, bd1_s]
theorem X3_usedColumns_eq (hK : K ≤ 10) (h : ToI K M) : X3_usedColumns M = some (nI (clN (tp M) 36)) := by
  have e : loop (X3_usedColumns_L4 M) 3000 ((0 : Int32), (0 : Int32)) = some (nI (clN (tp M) 36)) := by
    refine loop_for (fun i => (nI (clN (tp M) i), nI i)) 36 (by omega) (fun i hi => ?_) rfl
    have hc := clN_le (tp M) i
    simp only [X3_usedColumns_L4, X3_usedColumns_L4_j31, un2_s, bnd_s, if_neg (s36 hi), ldN hi (by decide), div6 hi, rem6 hi, nI_1, nI_lt_iff (show clN (tp M) i < 2147483648 by omega) (show i % 6 + 1 < 2147483648 by omega), clN]
    rcases h.at hK hi with ⟨e1, e2, e3⟩ | ⟨j, hj, e1, e2, e3⟩
    · rw [e1, e3]
      simp
    · rw [e1, e3, if_neg (by rw [nI_m1 (by omega)]; exact id)]
      simp only [Option.isSome_some, true_and]
      split <;> rfl
  simp only [X3_usedColumns, e, bd1_s]
theorem X5_columns_eq (hK : K ≤ 10) (h : ToI K M) : X5_columns M = some (nI (clN (tp M) 36)) := by
  have e : loop (X5_columns_L4 M) 3000 ((0 : Int32), (0 : Int32)) = some (nI (clN (tp M) 36)) := by
    refine loop_for (fun i => (nI (clN (tp M) i), nI i)) 36 (by omega) (fun i hi => ?_) rfl
    have hc := clN_le (tp M) i
    simp only [X5_columns_L4, X5_columns_L4_j39, X5_columns_L4_j40, un2_s, bnd_s, if_neg (s36 hi), ldN hi (by decide), div6 hi, rem6 hi, nI_1, nI_le_iff (show i % 6 + 1 < 2147483648 by omega) (show clN (tp M) i < 2147483648 by omega), clN]
    rcases h.at hK hi with ⟨e1, e2, e3⟩ | ⟨j, hj, e1, e2, e3⟩
    · rw [e2, e3]
      simp
    · rw [e2, e3, if_neg (by rw [nI_m1 (by omega)]; exact id)]
      simp only [Option.isSome_some, true_and]
      by_cases q : i % 6 + 1 ≤ clN (tp M) i
      · rw [if_pos q, if_neg (by omega)]
      · rw [if_neg q, if_pos (by omega)]
  simp only [X5_columns, e, bd1_s]
theorem ToI.w {i : Nat} (h : ToI K M) (hi : i < 2) : ∃ w, w ≤ 60 ∧ M 14 i = nI w ∧ M 37 i = nI w := by
  obtain ⟨h1, ⟨w, hw, e⟩, _⟩ := h.2 i hi
  exact ⟨w, hw, h1.trans e, e⟩
theorem X3_reach_eq (h : ToI K M) {c : Nat} (h0 : 0 < c) : X3_reach M (nI c) = some (nI (acN (tp M) c)) := by
  obtain ⟨w, hw, e1, e2⟩ := h.w (i := 0) (by omega)
  have e3 : (tp M).2.1 = w := by simp only [tp, e2]; rw [nI_clamp (by omega)]
  unfold X3_reach
  rw [show (0 : Int32) = nI 0 from rfl, ldN (by omega) (by decide), e1, acN, if_neg (by omega), e3]
  rw [show (96 : Int32) = nI 96 from rfl, one_eq, nI_sub (by omega), nI_mul, nI_mul, nI_add, Nat.mul_comm c, Nat.mul_comm w]
theorem X5_across_eq (h : ToI K M) {c : Nat} (hc : c < 2147483648) : X5_across M (nI c) = some (nI (acN (tp M) c)) := by
  obtain ⟨w, hw, e1, e2⟩ := h.w (i := 0) (by omega)
  have e3 : (tp M).2.1 = w := by simp only [tp, e2]; rw [nI_clamp (by omega)]
  simp only [X5_across, X5_across_j23, acN]
  by_cases e : c = 0
  · subst e; rfl
  · rw [if_neg (by rw [show (0 : Int32) = nI 0 from rfl, nI_eq_iff hc (by decide)]; exact e), if_neg e, e3]
    rw [show (0 : Int32) = nI 0 from rfl, ldN (by omega) (by decide), e2]
    rw [show (96 : Int32) = nI 96 from rfl, one_eq, nI_sub (by omega), nI_mul, nI_mul, nI_add]
theorem X3_withBorder_eq (h : ToI K M) {c : Nat} (hc : c < 2147483648) : X3_withBorder M (nI c) = some (if c = 0 then 0 else nI (acN (tp M) c + 2 * (tp M).2.2.1)) := by
  obtain ⟨w, hw, e1, e2⟩ := h.w (i := 1) (by omega)
  have e3 : (tp M).2.2.1 = w := by simp only [tp, e2]; rw [nI_clamp (by omega)]
  simp only [X3_withBorder, X3_withBorder_j22]
  by_cases e : c = 0
  · subst e; rfl
  · rw [if_neg (by rw [show (0 : Int32) = nI 0 from rfl, nI_eq_iff hc (by decide)]; exact e), if_neg e, e3, X3_reach_eq h (by omega)]
    simp only [bd1_s]
    rw [one_eq, ldN (by omega) (by decide), e1, show (2 : Int32) = nI 2 from rfl, nI_mul, nI_add]
theorem X5_count_L (hK : K ≤ 10) (h : ToI K M) (l1 : Int32) : loop (X5_count_L21 M l1) 3000 ((0 : Int32), (0 : Int32)) = some (nI (pcN (tp M) 36)) := by
  refine loop_for (fun i => (nI (pcN (tp M) i), nI i)) 36 (by omega) (fun i hi => ?_) rfl
  simp only [X5_count_L21, X5_count_L21_j44, un2_s, bnd_s, if_neg (s36 hi), ldN hi (by decide), nI_1, pcN]
  rcases h.at hK hi with ⟨e1, e2, e3⟩ | ⟨j, hj, e1, e2, e3⟩
  · rw [e2, e3]; rfl
  · rw [e2, e3, if_neg (by rw [nI_m1 (by omega)]; exact id)]; rfl
/-- what count answers -/
def cntA (K : Nat) (M : Mem) (w : Nat) : Int32 :=
  if w = 0 then nI (nC (vm M 10) 24) else if w = 1 then nI K else if w = 2 then nI (pcN (tp M) 36) else if w = 3 then nI (rwN (tp M) 36) else if w = 4 then nI (clN (tp M) 36)
  else if w = 5 then (if clN (tp M) 36 = 0 then 0 else nI (acN (tp M) (clN (tp M) 36) + 2 * (tp M).2.2.1)) else if rwN (tp M) 36 = 0 then 0 else nI (acN (tp M) (rwN (tp M) 36) + 2 * (tp M).2.2.1)
theorem X4_count_eq {n w : Nat} (hK : K ≤ 10) (hI : INV n M) (hKe : KeI K M) (h : ToI K M) (hw : w < 7) : X4_count M (nI w) = some (.inl (cntA K M w), M) := by
  simp only [X4_count, w4_1 (b := 7) 7 rfl (by decide) ⟨w, hw, rfl⟩, bd1_s, i10, if_false, X1_closedPatches_eq hI.co.1, hI.co.2.2, X3_placedBlocks_eq hK h, X3_usedRows_eq hK h, X3_usedColumns_eq hK h, X3_withBorder_eq h (show clN (tp M) 36 < 2147483648 by have := clN_le (tp M) 36; omega), X3_withBorder_eq h (show rwN (tp M) 36 < 2147483648 by have := rw36 (tp M); omega), hKe.1]
  have : w = 0 ∨ w = 1 ∨ w = 2 ∨ w = 3 ∨ w = 4 ∨ w = 5 ∨ w = 6 := by omega
  rcases this with rfl | rfl | rfl | rfl | rfl | rfl | rfl <;> rfl
theorem X5_count_eq {w : Nat} (hK : K ≤ 10) (hc : COkM M 10) (hk : M 27 1 = nI K) (h : ToI K M) (hw : w < 7) : X5_count M (nI w) = some (cntA K M w, wr M 27 0 0) := by
  have hT : ToI K (wr M 27 0 0) := h
  have q1 := pc0 (tp M) 36
  have e1 : (nI (pcN (tp M) 36) = 0) = (pcN (tp M) 36 = 0) := by
    have := pcN_le (tp M) 36
    exact nI_eq_iff (b := 0) (by omega) (by decide)
  have x1 : loop (X5_count_L21 (wr M 27 0 0) (nI w)) 3000 ((0 : Int32), (0 : Int32)) = some (nI (pcN (tp M) 36)) := X5_count_L hK hT (nI w)
  have x2 : X5_closed (wr M 27 0 0) = some (nI (nC (vm M 10) 24)) := X5_closed_eq (M := wr M 27 0 0) hc
  have x3 : X5_rows (wr M 27 0 0) = some (nI (rwN (tp M) 36)) := X5_rows_eq hK hT
  have x4 : X5_columns (wr M 27 0 0) = some (nI (clN (tp M) 36)) := X5_columns_eq hK hT
  have x5 : X5_across (wr M 27 0 0) (nI (rwN (tp M) 36)) = some (nI (acN (tp M) (rwN (tp M) 36))) := X5_across_eq hT (by have := rw36 (tp M); omega)
  have x6 : X5_across (wr M 27 0 0) (nI (clN (tp M) 36)) = some (nI (acN (tp M) (clN (tp M) 36))) := X5_across_eq hT (by have := clN_le (tp M) 36; omega)
  obtain ⟨u, hu, u1, u2⟩ := h.w (i := 1) (by omega)
  have u3 : (tp M).2.2.1 = u := by simp only [tp, u2]; rw [nI_clamp (by omega)]
  have x7 : ∀ (f : Int32 → Option (Int32 × Mem)), ld (wr M 27 0 0) 37 2 1 f = f (nI u) := by
    intro f
    rw [one_eq, ldN (by omega) (by decide), wr_ne (by omega), u2]
  have x8 : (wr M 27 0 0) 27 1 = nI K := by rw [wr_ne (by omega)]; exact hk
  simp only [X5_count, X5_count_j139, X5_count_j165, w5_1 (b := 6) 6 rfl (by decide) ⟨w, hw, rfl⟩, bd1_s, bd2_s, goes_0, i10, if_false, x1, x2, x3, x4, x5, x6, x7, x8, e1]
  have : w = 0 ∨ w = 1 ∨ w = 2 ∨ w = 3 ∨ w = 4 ∨ w = 5 ∨ w = 6 := by omega
  rcases this with rfl | rfl | rfl | rfl | rfl | rfl | rfl
  · rfl
  · rfl
  · rfl
  · rfl
  · rfl
  · simp only [cntA]
    by_cases e : pcN (tp M) 36 = 0
    · rw [if_pos e, if_pos (q1.2.mp e)]; rfl
    · rw [if_neg e, if_neg (mt q1.2.mpr e), u3, show (2 : Int32) = nI 2 from rfl, nI_mul, nI_add]; rfl
  · show (if pcN (tp M) 36 = 0 then some ((0 : Int32), wr M 27 0 0) else some (nI (acN (tp M) (rwN (tp M) 36)) + 2 * nI u, wr M 27 0 0)) = some (if rwN (tp M) 36 = 0 then 0 else nI (acN (tp M) (rwN (tp M) 36) + 2 * (tp M).2.2.1), wr M 27 0 0)
    by_cases e : pcN (tp M) 36 = 0
    · rw [if_pos e, if_pos (q1.1.mp e)]
    · rw [if_neg e, if_neg (mt q1.1.mpr e), u3, show (2 : Int32) = nI 2 from rfl, nI_mul, nI_add]
end Cnt
theorem st_count {n : Nat} {M : Mem} {a1 a2 a3 a4 : Int32} (h : INV n M) : ∃ g M2, St 16 n M a1 a2 a3 a4 g M2 ∧ INV (n + g) M2 := by
  have hI := h
  obtain ⟨K, k1, k2, _, _, hKe, hT, _⟩ := h
  by_cases h1 : Wn a1 7
  · obtain ⟨w, hw, rfl⟩ := h1
    have e := X5_count_eq (M := wr M 48 0 (cntA K M w)) (K := K) (w := w) k1 hI.co.2.1 (by rw [wr_ne (by omega)]; exact hKe.2.1) hT hw
    have e2 : cntA K (wr M 48 0 (cntA K M w)) w = cntA K M w := rfl
    rw [e2] at e
    exact ⟨0, wr (wr M 48 0 (cntA K M w)) 27 0 0, ⟨0, wr M 48 0 (cntA K M w), cntA K M w, Or.inl ⟨_, M, X4_count_eq k1 hI hKe hT hw, rfl, rfl, rfl⟩, e, th_at, fun _ => by rw [wr_ne (by omega), ou_at]⟩, hI.ou.th⟩
  · refine ⟨0, wr M 27 0 1, ⟨1, M, 0, Or.inr ⟨M, ?_, rfl, rfl, rfl⟩, ?_, th_at, fun e => absurd e (by decide)⟩, hI.th⟩
    · simp only [X4_count, w4_0 (b := 7) 7 rfl (by decide) h1, bd1_s, if_true]
    · simp only [X5_count, w5_0 (b := 6) 6 rfl (by decide) h1, bd1_s, bd2_s, goes_1, if_true]
/-! area -/
/-- twice the area of the first patches of a cloth -/
def arN (V : Vw) (c : Int32) : Nat → Int32
  | 0 => 0
  | p + 1 => if 0 < V.C p ∧ V.L p = c then arN V c p + dA V p (V.C p) else arN V c p
def apl (T : Tp) (c : Int32) : Nat → Int32
  | 0 => 0
  | i + 1 => match T.1 i with
    | none => apl T c i
    | some V => apl T c i + arN V c 24
theorem s24 {i : Nat} (hi : i < 24) : ¬ (24 : Int32) ≤ nI i := nI_ge (b := 24) (by omega) (by decide)
theorem X1_isOfCloth_eq {M : Mem} {o p : Nat} {c : Int32} (hc : COk M o) (hp : p < 24) : X1_isOfCloth M o (nI p) c = some (if 0 < (vw M o).C p ∧ (vw M o).L p = c then 1 else 0) := by
  simp only [X1_isOfCloth, X1_isOfCloth_j23, X1_isClosed_eq hc hp, bd1_s]
  by_cases h : 0 < (vw M o).C p
  · rw [show (if 0 < (vw M o).C p then (1 : Int32) else 0) = 1 from if_pos h]
    simp only [i10, if_false, ldN hp (by decide), vwL hp h, h, true_and]
    by_cases z : M (o + 4) p = c
    · rw [if_pos z, if_pos z]; rfl
    · rw [if_neg z, if_neg z]; rfl
  · simp only [if_neg h, h, false_and, if_false, if_true]
    rfl
theorem X1_clothArea_eq {M : Mem} {o : Nat} {c : Int32} (hc : COk M o) : X1_clothArea M o c = some (arN (vw M o) c 24) := by
  have e : loop (X1_clothArea_L4 M o c) 3000 ((0 : Int32), (0 : Int32)) = some (arN (vw M o) c 24) := by
    refine loop_for (fun i => (arN (vw M o) c i, nI i)) 24 (by omega) (fun i hi => ?_) rfl
    simp only [X1_clothArea_L4, X1_clothArea_L4_j27, un2_s, bnd_s, if_neg (s24 hi), X1_isOfCloth_eq hc hi, bd1_s, nI_1, X1_doubleArea_eq hc hi, arN]
    by_cases h : 0 < (vw M o).C i ∧ (vw M o).L i = c
    · simp only [if_pos h, i10, if_false]
    · simp only [if_neg h, if_true]
  simp only [X1_clothArea, e, bd1_s]
/-- the block at a place -/
theorem X3_blockAt_0 {n i : Nat} {M : Mem} (hi : i < 36) (h : M 12 i = -1) : X3_blockAt n M (nI i) = some 0 := by
  simp only [X3_blockAt, X3_blockAt_j25, ldN hi (by decide), h, if_true]
theorem X3_blockAt_1 {n i j K : Nat} {M : Mem} (hK : K ≤ 10) (hKe : KeI K M) (hi : i < 36) (hj : j < K) (h : M 12 i = nI j) : X3_blockAt n M (nI i) = some (nI (49 + 5 * j)) := by
  simp only [X3_blockAt, X3_blockAt_j25, ldN hi (by decide), h, nI_m1 (show j < 2147483648 by omega), if_false, ldN (show j < 10 by omega) (show 10 < 2147483648 by decide), hKe.2.2.1, if_pos hj]
theorem drok_K {n j K : Nat} (hK : K ≤ 10) (hn : n = 49 + 5 * K) (hj : j < K) : drok n (nI (49 + 5 * j)) = true := by
  unfold drok
  rw [nI_clamp (by omega)]
  simp
  omega
theorem nI_ne0' {a : Nat} (h0 : 0 < a) (ha : a < 2147483648) : (nI a = 0) = False := by
  rw [show (0 : Int32) = nI 0 from rfl, nI_eq_iff ha (by decide)]
  exact eq_false (by omega)
theorem X3_clothArea_eq {n K : Nat} {M : Mem} {c : Int32} (hK : K ≤ 10) (hn : n = 49 + 5 * K) (hKe : KeI K M) (h : ToI K M) : X3_clothArea n M c = some (apl (tp M) c 36) := by
  have e : loop (X3_clothArea_L4 n M c) 3000 ((0 : Int32), (0 : Int32)) = some (apl (tp M) c 36) := by
    refine loop_for (fun i => (apl (tp M) c i, nI i)) 36 (by omega) (fun i hi => ?_) rfl
    simp only [X3_clothArea_L4, X3_clothArea_L4_j31, un2_s, bnd_s, if_neg (s36 hi), nI_1, apl]
    rcases h.at hK hi with ⟨e1, e2, e3⟩ | ⟨j, hj, e1, e2, e3⟩
    · simp only [X3_blockAt_0 hi e1, bd1_s, if_true, e3]
    · obtain ⟨d1, d2, d3, d4⟩ := hKe.2.2.2 j hj
      simp only [X3_blockAt_1 hK hKe hi hj e1, bd1_s, nI_ne0' (show 0 < 49 + 5 * j by omega) (by omega), if_false, drok_K hK hn hj, chk, if_true, nI_clamp (show 49 + 5 * j < 2147483648 by omega), X1_clothArea_eq d2, e3, d1]
  simp only [X3_clothArea, e, bd1_s]
theorem nI_neg24 : (24 : Int32) * -1 + 24 = 0 ∧ (24 : Int32) * -1 = -24 := by decide
theorem X5_area_eq {K c : Nat} {M : Mem} (hK : K ≤ 10) (hKe : ∀ j, j < K → COkM M j) (h : ToI K M) (hc : c < 12) : X5_area M (nI c) = some (apl (tp M) (nI c) 36, wr M 27 0 0) := by
  have hT : ToI K (wr M 27 0 0) := h
  have hKe' : ∀ j, j < K → COkM (wr M 27 0 0) j := hKe
  have e : loop (X5_area_L18 (wr M 27 0 0) (nI c)) 3000 ((0 : Int32), (0 : Int32)) = some (apl (tp M) (nI c) 36) := by
    refine loop_for (fun i => (apl (tp M) (nI c) i, nI i)) 36 (by omega) (fun i hi => ?_) rfl
    have hN : ∀ i, (wr M 27 0 0) 35 i = M 35 i := fun i => rfl
    simp only [X5_area_L18, X5_area_L18_j102, un2_s, bnd_s, if_neg (s36 hi), ldN hi (by decide), hN, nI_1, apl]
    rcases h.at hK hi with ⟨e1, e2, e3⟩ | ⟨j, hj, e1, e2, e3⟩
    · have q : ∀ x : Int32, loop (X5_area_L35 (wr M 27 0 0) (nI c) (nI i)) 3000 (x, (24 : Int32) * -1) = some x := by
        intro x
        refine loop_for (fun _ => (x, (24 : Int32) * -1)) 0 (by omega) (fun i hi => absurd hi (by omega)) ?_
        simp only [X5_area_L35, un2_s, ldN hi (show 36 < 2147483648 by decide), hN, e2]
        rw [if_neg (by decide)]
        exact if_pos trivial
      simp only [e2, q, bd1_s, e3]
    · have q : ∀ x : Int32, loop (X5_area_L35 (wr M 27 0 0) (nI c) (nI i)) 3000 (x, nI (24 * j)) = some (x + arN (vm M j) (nI c) 24) := by
        intro x
        refine loop_for (fun p => (x + arN (vm M j) (nI c) p, nI (24 * j + p))) 24 (by omega) (fun p hp => ?_) ?_ |>.trans rfl |> fun h => by
          have z : x + arN (vm M j) (nI c) 0 = x := by simp [arN]
          simpa [z] using h
        · simp only [X5_area_L35, X5_area_L35_j94, X5_area_L35_j95, un2_s, bnd_s, ldN hi (show 36 < 2147483648 by decide), hN, e2, nI_m1 (show j < 2147483648 by omega), if_false]
          rw [show (24 : Int32) = nI 24 from rfl, nI_mul, nI_add, if_neg (nI_ge (by omega) (by omega))]
          have hCj := Cm_le (p := p) (hKe' j hj)
          have ev : vm (wr M 27 0 0) j = vm M j := rfl
          rw [ldmC (by omega) (hKe' j hj) hp, ev, ldN (by omega) (by decide), X5_areaOf_eq (by omega) (hKe' j hj) hp, ev]
          rw [ev] at hCj
          simp only [le0 hCj, bd1_s, nI_1, arN]
          by_cases z : (vm M j).C p = 0
          · rw [if_pos z, if_neg (by omega)]; rfl
          · rw [if_neg z]
            have hL : (wr M 27 0 0) 29 (24 * j + p) = (vm M j).L p := by rw [vmL hp (by omega)]; rfl
            rw [hL]
            by_cases z2 : (vm M j).L p = nI c
            · rw [if_pos z2, if_pos ⟨by omega, z2⟩, Int32.add_assoc]; rfl
            · rw [if_neg z2, if_neg (fun h => z2 h.2)]; rfl
        · simp only [X5_area_L35, un2_s, ldN hi (show 36 < 2147483648 by decide), hN, e2]
          rw [show (24 : Int32) = nI 24 from rfl, nI_mul, nI_add, if_pos (nI_le (by omega) (by omega))]
      simp only [e2, show (24 : Int32) = nI 24 from rfl, nI_mul, q, bd1_s, e3]
  simp only [X5_area, cl_1 ⟨c, hc, rfl⟩, bd1_s, bd2_s, goes_0, i10, if_false, e]
theorem st_area {n : Nat} {M : Mem} {a1 a2 a3 a4 : Int32} (h : INV n M) : ∃ g M2, St 13 n M a1 a2 a3 a4 g M2 ∧ INV (n + g) M2 := by
  have hI := h
  obtain ⟨K, k1, k2, _, _, hKe, hT, _⟩ := h
  by_cases h1 : Wn a1 12
  · have hw := h1
    obtain ⟨c, hc, rfl⟩ := h1
    have e := X5_area_eq (M := wr M 48 0 (apl (tp M) (nI c) 36)) (K := K) k1 (fun j hj => (hKe.2.2.2 j hj).2.2.1) hT hc
    refine ⟨0, wr (wr M 48 0 (apl (tp M) (nI c) 36)) 27 0 0, ⟨0, wr M 48 0 (apl (tp M) (nI c) 36), apl (tp M) (nI c) 36, Or.inl ⟨_, M, ?_, rfl, rfl, rfl⟩, e, th_at, fun _ => by rw [wr_ne (by omega), ou_at]⟩, hI.ou.th⟩
    simp only [X4_area, w4_1 (b := 12) 12 rfl (by decide) hw, bd1_s, i10, if_false, X3_clothArea_eq k1 k2 hKe hT]
  · refine ⟨0, wr M 27 0 1, ⟨1, M, 0, Or.inr ⟨M, ?_, rfl, rfl, rfl⟩, ?_, th_at, fun e => absurd e (by decide)⟩, hI.th⟩
    · simp only [X4_area, w4_0 (b := 12) 12 rfl (by decide) h1, bd1_s, if_true]
    · simp only [X5_area, cl_0 h1, bd1_s, bd2_s, goes_1, if_true]
