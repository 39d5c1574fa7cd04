/-! on which side of an edge's line a patch lies -/
def lfN (V : Vw) (p e q : Nat) : Nat → Int32
  | 0 => 0
  | i + 1 => if 0 < be V p e q i then 1 else lfN V p e q i
def rtN (V : Vw) (p e q : Nat) : Nat → Int32
  | 0 => 0
  | i + 1 => if be V p e q i < 0 then 1 else rtN V p e q i
theorem lfN_01 (V : Vw) (p e q : Nat) : ∀ i, (lfN V p e q i = 0 ∧ ∀ c, c < i → ¬ 0 < be V p e q c) ∨ (lfN V p e q i = 1 ∧ ∃ c, c < i ∧ 0 < be V p e q c)
  | 0 => Or.inl ⟨rfl, fun c h => absurd h (by omega)⟩
  | i + 1 => by
    unfold lfN
    by_cases h : 0 < be V p e q i
    · rw [if_pos h]; exact Or.inr ⟨rfl, i, by omega, h⟩
    · rw [if_neg h]
      rcases lfN_01 V p e q i with ⟨h1, h2⟩ | ⟨h1, c, h2, h3⟩
      · refine Or.inl ⟨h1, fun c hc => ?_⟩
        by_cases e : c = i
        · rw [e]; exact h
        · exact h2 c (by omega)
      · exact Or.inr ⟨h1, c, by omega, h3⟩
theorem rtN_01 (V : Vw) (p e q : Nat) : ∀ i, (rtN V p e q i = 0 ∧ ∀ c, c < i → ¬ be V p e q c < 0) ∨ (rtN V p e q i = 1 ∧ ∃ c, c < i ∧ be V p e q c < 0)
  | 0 => Or.inl ⟨rfl, fun c h => absurd h (by omega)⟩
  | i + 1 => by
    unfold rtN
    by_cases h : be V p e q i < 0
    · rw [if_pos h]; exact Or.inr ⟨rfl, i, by omega, h⟩
    · rw [if_neg h]
      rcases rtN_01 V p e q i with ⟨h1, h2⟩ | ⟨h1, c, h2, h3⟩
      · refine Or.inl ⟨h1, fun c hc => ?_⟩
        by_cases e : c = i
        · rw [e]; exact h
        · exact h2 c (by omega)
      · exact Or.inr ⟨h1, c, by omega, h3⟩
/-- the class's sideOf -/
def sd (V : Vw) (p e q : Nat) : Int32 := if lfN V p e q (V.C q) = rtN V p e q (V.C q) then 0 else if lfN V p e q (V.C q) = 0 then -1 else 1
/-- the model's lies -/
def ls (V : Vw) (p e q : Nat) : Int32 := if rtN V p e q (V.C q) = 0 then 1 else if lfN V p e q (V.C q) = 0 then -1 else 0
theorem sd_cases (V : Vw) (p e q : Nat) : (Lf V p e q ∧ Rt V p e q ∧ sd V p e q = 0 ∧ ls V p e q = 0) ∨ (Lf V p e q ∧ ¬ Rt V p e q ∧ sd V p e q = 1 ∧ ls V p e q = 1) ∨ (¬ Lf V p e q ∧ Rt V p e q ∧ sd V p e q = -1 ∧ ls V p e q = -1) ∨ (¬ Lf V p e q ∧ ¬ Rt V p e q ∧ sd V p e q = 0 ∧ ls V p e q = 1) := by
  unfold sd ls
  rcases lfN_01 V p e q (V.C q) with ⟨h1, h2⟩ | ⟨h1, c, h2, h3⟩
  · have hl : ¬ Lf V p e q := fun ⟨c, h3, h4⟩ => h2 c h3 h4
    rcases rtN_01 V p e q (V.C q) with ⟨g1, g2⟩ | ⟨g1, c, g2, g3⟩
    · have hr : ¬ Rt V p e q := fun ⟨c, h3, h4⟩ => g2 c h3 h4
      exact Or.inr (Or.inr (Or.inr ⟨hl, hr, by rw [h1, g1]; decide, by rw [g1, if_pos rfl]⟩))
    · exact Or.inr (Or.inr (Or.inl ⟨hl, ⟨c, g2, g3⟩, by rw [h1, g1]; decide, by rw [h1, g1]; decide⟩))
  · have hl : Lf V p e q := ⟨c, h2, h3⟩
    rcases rtN_01 V p e q (V.C q) with ⟨g1, g2⟩ | ⟨g1, c, g2, g3⟩
    · have hr : ¬ Rt V p e q := fun ⟨c, h3, h4⟩ => g2 c h3 h4
      exact Or.inr (Or.inl ⟨hl, hr, by rw [h1, g1]; decide, by rw [g1, if_pos rfl]⟩)
    · exact Or.inl ⟨hl, ⟨c, g2, g3⟩, by rw [h1, g1]; decide, by rw [h1, g1]; decide⟩
theorem sd_m1 {V : Vw} {p e q : Nat} : sd V p e q = -1 ↔ Rt V p e q ∧ ¬ Lf V p e q := by
  rcases sd_cases V p e q with ⟨h1, h2, h3, h4⟩ | ⟨h1, h2, h3, h4⟩ | ⟨h1, h2, h3, h4⟩ | ⟨h1, h2, h3, h4⟩ <;> rw [h3] <;> simp [h1, h2]
theorem ls_m1 {V : Vw} {p e q : Nat} : ls V p e q = -1 ↔ Rt V p e q ∧ ¬ Lf V p e q := by
  rcases sd_cases V p e q with ⟨h1, h2, h3, h4⟩ | ⟨h1, h2, h3, h4⟩ | ⟨h1, h2, h3, h4⟩ | ⟨h1, h2, h3, h4⟩ <;> rw [h4] <;> simp [h1, h2]
section PX1b
variable {M : Mem} {o p q e : Nat}
theorem X1_bend_be {c : Nat} (h1 : 8 * p + e < 192) (h2 : 8 * p + nx (vw M o) p e < 192) (h3 : 8 * q + c < 192) : X1_bend M o (nI (8 * p + e)) (nI (8 * p + nx (vw M o) p e)) (nI (8 * q + c)) = some (be (vw M o) p e q c) := X1_bend_eq h1 h2 h3
theorem X1_sideOf_eq (hc : COk M o) (hp : p < 24) (hq : q < 24) (he : e < 8) : X1_sideOf M o (nI p) (nI e) (nI q) = some (sd (vw M o) p e q) := by
  have hC := C_le (p := q) hc
  have hn := nx_lt (p := p) (k := e) (C_le (p := p) hc)
  have h : loop (X1_sideOf_L30 M o (nI q) (nI (8 * p + e)) (nI (8 * p + nx (vw M o) p e))) 3000 ((0 : Int32), (0 : Int32), (0 : Int32)) = some (lfN (vw M o) p e q ((vw M o).C q), rtN (vw M o) p e q ((vw M o).C q)) := by
    refine loop_for (fun i => (lfN (vw M o) p e q i, rtN (vw M o) p e q i, nI i)) ((vw M o).C q) (by omega) (fun i hi => ?_) ?_
    · simp only [X1_sideOf_L30, X1_sideOf_L30_j68, X1_sideOf_L30_j73, X1_sideOf_L30_j85, X1_sideOf_L30_j90, un3_s, bnd_s, bd1_s, ldC hc hq, if_neg (nI_ge hi (show (vw M o).C q < 2 ^ 31 by omega)), ix8, X1_bend_be (M := M) (o := o) (show 8 * p + e < 192 by omega) (show 8 * p + nx (vw M o) p e < 192 by omega) (show 8 * q + i < 192 by omega), nI_1, lfN, rtN]
      have t1 : ∀ x : Int32, x ≤ 0 ↔ ¬ 0 < x := fun x => by rw [Int32.le_iff_toInt_le, Int32.lt_iff_toInt_lt]; omega
      have t2 : ∀ x : Int32, 0 ≤ x ↔ ¬ x < 0 := fun x => by rw [Int32.le_iff_toInt_le, Int32.lt_iff_toInt_lt]; omega
      generalize be (vw M o) p e q i = x
      simp only [t1, t2]
      have z : ¬ (1 : Int32) = 0 := by decide
      rcases lfN_01 (vw M o) p e q i with ⟨h1, -⟩ | ⟨h1, -⟩ <;> rcases rtN_01 (vw M o) p e q i with ⟨g1, -⟩ | ⟨g1, -⟩ <;> rw [h1, g1] <;> by_cases hx : 0 < x <;> by_cases hy : x < 0 <;> simp [hx, hy, z]
    · simp only [X1_sideOf_L30, un3_s, ldC hc hq, if_pos (nI_le (Nat.le_refl ((vw M o).C q)) (show (vw M o).C q < 2 ^ 31 by omega))]
  simp only [X1_sideOf, X1_sideOf_j117, bnd_s, bd1_s, bd2_s, ix8, X1_next_eq hc hp (show e < 1000 by omega), h, sd]
  split
  · rfl
  · split <;> rfl
theorem X1_hasPartingEdge_eq (hc : COk M o) (hp : p < 24) (hq : q < 24) : (Pt1 (vw M o) p q → X1_hasPartingEdge M o (nI p) (nI q) = some 1) ∧ (¬ Pt1 (vw M o) p q → X1_hasPartingEdge M o (nI p) (nI q) = some 0) := by
  have hC := C_le (p := p) hc
  have key := loop_search (B := X1_hasPartingEdge_L2 M o (nI p) (nI q)) nI (fun e => ¬ sd (vw M o) p e q = -1) 0 ((vw M o).C p) (fuel := 3000) (exA := .inl ()) (exB := fun _ => .inr ()) (Nat.zero_le _) (by omega)
    (fun i _ hi h => by simp only [X1_hasPartingEdge_L2, un1_s, bnd_s, bd1_s, ldC hc hp, if_neg (nI_ge hi (show (vw M o).C p < 2 ^ 31 by omega)), X1_sideOf_eq hc hp hq (show i < 8 by omega), if_neg h, nI_1])
    (fun i _ hi h => by simp only [X1_hasPartingEdge_L2, un1_s, bnd_s, bd1_s, ldC hc hp, if_neg (nI_ge hi (show (vw M o).C p < 2 ^ 31 by omega)), X1_sideOf_eq hc hp hq (show i < 8 by omega), if_pos (Classical.not_not.mp h)])
    (by simp only [X1_hasPartingEdge_L2, un1_s, ldC hc hp, if_pos (nI_le (Nat.le_refl ((vw M o).C p)) (show (vw M o).C p < 2 ^ 31 by omega))])
  rw [nI_0] at key
  rcases key with ⟨h1, h2⟩ | ⟨i, -, h1, h2, -, h3⟩
  · refine ⟨fun ⟨e, he, h4⟩ => absurd (sd_m1.mpr h4) (h1 e (Nat.zero_le _) he), fun _ => ?_⟩
    simp only [X1_hasPartingEdge, h2, bdS_l, un0_s, chk0]
  · refine ⟨fun _ => ?_, fun hn => absurd ⟨i, h1, sd_m1.mp (Classical.not_not.mp h2)⟩ hn⟩
    simp only [X1_hasPartingEdge, h3, bdS_r, un0_s, chk1]
theorem X1_overlap_eq (hc : COk M o) (hp : p < 24) (hq : q < 24) : (¬ Pt1 (vw M o) p q ∧ ¬ Pt1 (vw M o) q p → X1_overlap M o (nI p) (nI q) = some 1) ∧ (¬ (¬ Pt1 (vw M o) p q ∧ ¬ Pt1 (vw M o) q p) → X1_overlap M o (nI p) (nI q) = some 0) := by
  obtain ⟨a1, a2⟩ := X1_hasPartingEdge_eq hc hp hq
  obtain ⟨b1, b2⟩ := X1_hasPartingEdge_eq hc hq hp
  have z : ¬ (1 : Int32) = 0 := by decide
  by_cases h1 : Pt1 (vw M o) p q
  · refine ⟨fun h => absurd h1 h.1, fun _ => ?_⟩
    simp only [X1_overlap, X1_overlap_j23, a1 h1, bd1_s, if_neg z, chk0]
  · by_cases h2 : Pt1 (vw M o) q p
    · refine ⟨fun h => absurd h2 h.2, fun _ => ?_⟩
      simp only [X1_overlap, X1_overlap_j23, a2 h1, b1 h2, bd1_s, if_neg z, if_true, chk0]
    · refine ⟨fun _ => ?_, fun h => absurd ⟨h1, h2⟩ h⟩
      simp only [X1_overlap, X1_overlap_j23, a2 h1, b2 h2, bd1_s, if_true, chk1]
theorem fo_step (hc : COk M o) (hp : p < q) (hq : q < 24) : (Ov (vw M o) p q → X1_firstOverlap_L12 M o (nI p) (nI q) = some (.inr (.inr (nI q)))) ∧ (¬ Ov (vw M o) p q → X1_firstOverlap_L12 M o (nI p) (nI q) = some (.inl (nI (q + 1)))) := by
  have hp24 : p < 24 := by omega
  obtain ⟨a1, a2⟩ := X1_overlap_eq hc hp24 hq
  have z : ¬ (1 : Int32) = 0 := by decide
  have hge : ¬ (24 : Int32) ≤ nI q := nI_ge (b := 24) hq (by decide)
  by_cases c1 : 0 < (vw M o).C p
  · by_cases c2 : 0 < (vw M o).C q
    · by_cases hov : ¬ Pt1 (vw M o) p q ∧ ¬ Pt1 (vw M o) q p
      · refine ⟨fun _ => ?_, fun h => absurd ⟨hp, c1, c2, hov.1, hov.2⟩ h⟩
        simp only [X1_firstOverlap_L12, X1_firstOverlap_L12_j50, un1_s, bnd_s, bd1_s, if_neg hge, X1_isClosed_eq hc hp24, X1_isClosed_eq hc hq, if_pos c1, if_pos c2, if_neg z, a1 hov]
      · refine ⟨fun h => absurd ⟨h.2.2.2.1, h.2.2.2.2⟩ hov, fun _ => ?_⟩
        simp only [X1_firstOverlap_L12, X1_firstOverlap_L12_j50, un1_s, bnd_s, bd1_s, if_neg hge, X1_isClosed_eq hc hp24, X1_isClosed_eq hc hq, if_pos c1, if_pos c2, if_neg z, a2 hov, if_true, nI_1]
    · refine ⟨fun h => absurd h.2.2.1 c2, fun _ => ?_⟩
      simp only [X1_firstOverlap_L12, X1_firstOverlap_L12_j50, un1_s, bnd_s, bd1_s, if_neg hge, X1_isClosed_eq hc hp24, X1_isClosed_eq hc hq, if_pos c1, if_neg c2, if_neg z, if_true, nI_1]
  · refine ⟨fun h => absurd h.2.1 c1, fun _ => ?_⟩
    simp only [X1_firstOverlap_L12, X1_firstOverlap_L12_j50, un1_s, bnd_s, bd1_s, if_neg hge, X1_isClosed_eq hc hp24, if_neg c1, if_true, nI_1]
theorem fo_row (hc : COk M o) (hp : p < 24) (h : ∀ q, p < q → q < 24 → ¬ Ov (vw M o) p q) : X1_firstOverlap_L2 M o (nI p) = some (.inl (nI (p + 1))) := by
  have hge : ¬ (24 : Int32) ≤ nI p := nI_ge (b := 24) hp (by decide)
  have hl : loop (X1_firstOverlap_L12 M o (nI p)) 3000 (nI (p + 1)) = some (.inl ()) := loop_at nI 24 (by simp only [X1_firstOverlap_L12, un1_s]; rfl) (23 - p) (p + 1) 3000 (by omega) (by omega) (fun i h1 h2 => (fo_step hc (by omega) h2).2 (h i (by omega) h2))
  simp only [X1_firstOverlap_L2, un1_s, bnd_s, if_neg hge, nI_1, hl, bdS_l, un0_s]
theorem X1_firstOverlap_eq (hc : COk M o) {r : Int32} (hr : FO (vw M o) r) : X1_firstOverlap M o = some r := by
  rcases hr with ⟨k, hk, h1, h2, rfl⟩ | ⟨h, rfl⟩
  · have hp : k / 24 < 24 := by omega
    have hpq : k / 24 < k % 24 := h1.1
    have hge : ¬ (24 : Int32) ≤ nI (k / 24) := nI_ge (b := 24) hp (by decide)
    have hno : ∀ p q, q < 24 → 24 * p + q < k → ¬ Ov (vw M o) p q := fun p q hq hlt => by
      have := h2 (24 * p + q) hlt
      rwa [show (24 * p + q) / 24 = p by omega, show (24 * p + q) % 24 = q by omega] at this
    have hin : loop (X1_firstOverlap_L12 M o (nI (k / 24))) 3000 (nI (k / 24 + 1)) = some (.inr (nI (k % 24))) := loop_at nI (k % 24) ((fo_step hc hpq (by omega)).1 h1) (k % 24 - (k / 24 + 1)) (k / 24 + 1) 3000 (by omega) (by omega) (fun i h3 h4 => (fo_step hc (by omega) (by omega)).2 (hno _ i (by omega) (by omega)))
    have hout : loop (X1_firstOverlap_L2 M o) 3000 (nI 0) = some (.inr (nI (k / 24), nI (k % 24))) := loop_at nI (k / 24) (by simp only [X1_firstOverlap_L2, un1_s, bnd_s, if_neg hge, nI_1, hin, bdS_r]) (k / 24) 0 3000 (by omega) (by omega) (fun i _ h4 => fo_row hc (by omega) (fun q _ hq => hno i q hq (by omega)))
    rw [nI_0] at hout
    simp only [X1_firstOverlap, hout, bdS_r, un2_s]
    rw [show (24 : Int32) = nI 24 from rfl, nI_mul, nI_add, show k / 24 * 24 + k % 24 = k by omega]
  · have hout : loop (X1_firstOverlap_L2 M o) 3000 (nI 0) = some (.inl ()) := loop_at nI 24 (by simp only [X1_firstOverlap_L2, un1_s]; rfl) 24 0 3000 (by omega) (by omega) (fun i _ h4 => fo_row hc h4 (fun q _ hq => by
      have := h (24 * i + q) (by omega)
      rwa [show (24 * i + q) / 24 = i by omega, show (24 * i + q) % 24 = q by omega] at this))
    rw [nI_0] at hout
    simp only [X1_firstOverlap, hout, bdS_l, un0_s]
theorem X1_state_eq (hc : COk M o) {r : Int32} (hr : StOf (vw M o) r) : X1_state M o = some r := by
  obtain ⟨k, hk, rfl⟩ := hr
  have h : loop (X1_state_L14 M o) 3000 ((0 : Int32), (0 : Int32)) = some (sA (vw M o) 24) := by
    refine loop_for (fun i => (sA (vw M o) i, nI i)) 24 (by omega) (fun i hi => ?_) (by simp only [X1_state_L14, un2_s]; rfl)
    simp only [X1_state_L14, un2_s, bnd_s, bd1_s, if_neg (show ¬ (24 : Int32) ≤ nI i from nI_ge (b := 24) hi (by decide)), X1_doubleArea_eq hc hi, nI_1, sA]
  simp only [X1_state, X1_state_j46, X1_firstOverlap_eq hc hk, bd1_s, h]
  split
  · split <;> rfl
  · rfl
end PX1b
