section PX5b
variable {M : Mem} {p q : Nat}
theorem ov_step (hc : COkM M 10) {k : Nat} (hk : k < 576) : (Ov (vm M 10) (k / 24) (k % 24) → X5_overlapping_L2 M (nI k) = some (.inr (.inr (nI k)))) ∧ (¬ Ov (vm M 10) (k / 24) (k % 24) → X5_overlapping_L2 M (nI k) = some (.inl (nI (k + 1)))) := by
  have hge : ¬ (576 : Int32) ≤ nI k := nI_ge (b := 576) hk (by decide)
  have hd : nI k / 24 = nI (k / 24) := nI_div (b := 24) (by omega) (by decide) (by decide)
  have hr : nI k - nI (k / 24) * 24 = nI (k % 24) := by rw [← hd]; exact nI_rem (b := 24) (by omega) (by decide) (by decide)
  have h1 : 240 + nI (k / 24) = nI (24 * 10 + k / 24) := nI_add 240 _
  have h2 : 240 + nI (k % 24) = nI (24 * 10 + k % 24) := nI_add 240 _
  have hp : k / 24 < 24 := by omega
  have hq : k % 24 < 24 := by omega
  have hC := Cm_le (p := k / 24) hc
  have hD := Cm_le (p := k % 24) hc
  obtain ⟨a1, a2⟩ := X5_apart_eq (j := 10) (by decide) hc hp hq
  have z : ¬ (1 : Int32) = 0 := by decide
  simp only [X5_overlapping_L2, X5_overlapping_L2_j61, un1_s, bnd_s, if_neg hge, hd, hr, h1, h2, nI_1, ldmC (j := 10) (by decide) hc hp, ldmC (j := 10) (by decide) hc hq]
  by_cases c0 : k / 24 < k % 24
  · rw [if_neg (nI_ge (by omega) (by omega))]
    by_cases c1 : 0 < (vm M 10).C (k / 24)
    · rw [if_neg (nI_nle c1 (by omega))]
      by_cases c2 : 0 < (vm M 10).C (k % 24)
      · rw [if_neg (nI_nle c2 (by omega))]
        by_cases ha : Pt1 (vm M 10) (k / 24) (k % 24) ∨ Pt1 (vm M 10) (k % 24) (k / 24)
        · rw [a1 ha, bd1_s, if_neg z]
          refine ⟨fun h => absurd ha ?_, fun _ => rfl⟩
          exact fun e => e.elim h.2.2.2.1 h.2.2.2.2
        · rw [a2 ha, bd1_s, if_pos rfl]
          exact ⟨fun _ => rfl, fun h => absurd ⟨c0, c1, c2, fun e => ha (Or.inl e), fun e => ha (Or.inr e)⟩ h⟩
      · rw [if_pos (by rw [show (vm M 10).C (k % 24) = 0 by omega]; decide)]
        exact ⟨fun h => absurd h.2.2.1 c2, fun _ => rfl⟩
    · rw [if_pos (by rw [show (vm M 10).C (k / 24) = 0 by omega]; decide)]
      exact ⟨fun h => absurd h.2.1 c1, fun _ => rfl⟩
  · rw [if_pos (nI_le (by omega) (by omega))]
    exact ⟨fun h => absurd h.1 c0, fun _ => rfl⟩
theorem X5_overlapping_eq (hc : COkM M 10) {r : Int32} (hr : FO (vm M 10) r) : X5_overlapping M = some r := by
  rcases hr with ⟨k, hk, h1, h2, rfl⟩ | ⟨h, rfl⟩
  · have hl : loop (X5_overlapping_L2 M) 3000 (nI 0) = some (.inr (nI k)) := loop_at nI k ((ov_step hc hk).1 h1) k 0 3000 (by omega) (by omega) (fun i _ hi => (ov_step hc (by omega)).2 (h2 i hi))
    rw [nI_0] at hl
    simp only [X5_overlapping, hl, bdS_r, un1_s]
  · have hl : loop (X5_overlapping_L2 M) 3000 (nI 0) = some (.inl ()) := loop_at nI 576 (by simp only [X5_overlapping_L2, un1_s]; rfl) 576 0 3000 (by omega) (by omega) (fun i _ hi => (ov_step hc hi).2 (h i hi))
    rw [nI_0] at hl
    simp only [X5_overlapping, hl, bdS_l, un0_s]
theorem i240 (i : Nat) : nI (240 + i) = nI (24 * 10 + i) := rfl
theorem X5_state_eq (hc : COkM M 10) {r : Int32} (hr : StOf (vm M 10) r) : X5_state M = some r := by
  obtain ⟨k, hk, rfl⟩ := hr
  have h : loop (X5_state_L6 M) 3000 ((0 : Int32), (240 : Int32)) = some (sA (vm M 10) 24) := by
    refine loop_for (fun i => (sA (vm M 10) i, nI (240 + i))) 24 (by omega) (fun i hi => ?_) (by simp only [X5_state_L6, un2_s]; rfl)
    have hC := Cm_le (p := i) hc
    simp only [X5_state_L6, X5_state_L6_j33, un2_s, bnd_s, if_neg (show ¬ (264 : Int32) ≤ nI (240 + i) from nI_ge (b := 264) (by omega) (by decide)), i240, ldmC (j := 10) (by decide) hc hi, X5_areaOf_eq (j := 10) (by decide) hc hi, bd1_s, nI_1, sA]
    by_cases c1 : 0 < (vm M 10).C i
    · rw [if_neg (nI_nle c1 (by omega))]; rfl
    · rw [if_pos (by rw [show (vm M 10).C i = 0 by omega]; decide), show (vm M 10).C i = 0 by omega]
      show some (Sum.inl (sA (vm M 10) i, _)) = some (Sum.inl (sA (vm M 10) i + 0, _))
      rw [Int32.add_zero]; rfl
  simp only [X5_state, X5_state_j64, X5_overlapping_eq hc hk, bd1_s, h]
  split
  · split <;> rfl
  · rfl
theorem StOf.ex (V : Vw) : ∃ r, StOf V r := by
  obtain ⟨k, hk⟩ := FO.ex V
  exact ⟨_, k, hk, rfl⟩
/-- how many of the first p patches are closed -/
def nC (V : Vw) : Nat → Nat
  | 0 => 0
  | p + 1 => nC V p + (if 0 < V.C p then 1 else 0)
theorem nC_le (V : Vw) : ∀ p, nC V p ≤ p
  | 0 => Nat.le_refl _
  | p + 1 => by
    have := nC_le V p
    unfold nC
    split <;> omega
theorem X5_closed_eq (hc : COkM M 10) : X5_closed M = some (nI (nC (vm M 10) 24)) := by
  have h : loop (X5_closed_L6 M) 3000 ((0 : Int32), (240 : Int32)) = some (nI (nC (vm M 10) 24)) := by
    refine loop_for (fun i => (nI (nC (vm M 10) i), nI (240 + i))) 24 (by omega) (fun i hi => ?_) (by simp only [X5_closed_L6, un2_s]; rfl)
    have hC := Cm_le (p := i) hc
    simp only [X5_closed_L6, X5_closed_L6_j29, un2_s, bnd_s, if_neg (show ¬ (264 : Int32) ≤ nI (240 + i) from nI_ge (b := 264) (by omega) (by decide)), i240, ldmC (j := 10) (by decide) hc hi, nI_1, nC]
    by_cases c1 : 0 < (vm M 10).C i
    · rw [if_neg (nI_nle c1 (by omega)), if_pos c1]; rfl
    · rw [if_pos (by rw [show (vm M 10).C i = 0 by omega]; decide), if_neg c1]; rfl
  simp only [X5_closed, h, bd1_s]
end PX5b
