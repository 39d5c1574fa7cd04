/-- a loop that looks for the first i from a on that is not P -/
theorem loop_search {St Ex : Type} {B : St → Option (St ⊕ Ex)} (f : Nat → St) (P : Nat → Prop) (a N : Nat) {fuel : Nat} {exA : Ex} {exB : Nat → Ex} (haN : a ≤ N) (hN : N < fuel) (hs : ∀ i, a ≤ i → i < N → P i → B (f i) = some (.inl (f (i + 1)))) (hb : ∀ i, a ≤ i → i < N → ¬ P i → B (f i) = some (.inr (exB i))) (he : B (f N) = some (.inr exA)) :
    ((∀ i, a ≤ i → i < N → P i) ∧ loop B fuel (f a) = some exA) ∨ ∃ i, a ≤ i ∧ i < N ∧ ¬ P i ∧ (∀ j, a ≤ j → j < i → P j) ∧ loop B fuel (f a) = some (exB i) := by
  rcases first_of (P := P) (N - a) a with h | ⟨i, h1, h2, h3, h4⟩
  · have h' : ∀ i, a ≤ i → i < N → P i := fun i h1 h2 => h i h1 (by omega)
    exact Or.inl ⟨h', loop_at f N he (N - a) a fuel (by omega) (by omega) (fun i h1 h2 => hs i h1 h2 (h' i h1 h2))⟩
  · exact Or.inr ⟨i, h1, by omega, h3, h4, loop_at f i (hb i h1 (by omega) h3) (i - a) a fuel (by omega) (by omega) (fun j h5 h6 => hs j h5 (by omega) (h4 j h5 h6))⟩
section PX1
variable {M : Mem} {o p q k : Nat}
theorem X1_next_eq (hc : COk M o) (hp : p < 24) (hk : k < 1000) : X1_next M o (nI p) (nI k) = some (nI (nx (vw M o) p k)) := by
  have hC := C_le (p := p) hc
  simp only [X1_next, X1_next_j19, ldC hc hp, nI_1, nx]
  by_cases h : (vw M o).C p ≤ k + 1
  · rw [if_pos (nI_le h (by omega)), if_pos h]; rfl
  · rw [if_neg (nI_ge (by omega) (by omega)), if_neg h]
theorem X1_bend_eq {a b c : Nat} (h1 : a < 192) (h2 : b < 192) (h3 : c < 192) : X1_bend M o (nI a) (nI b) (nI c) = some (bd (vw M o) a b c) := by
  simp only [X1_bend, ldX (o := o) h1, ldX (o := o) h2, ldX (o := o) h3, ldY (o := o) h1, ldY (o := o) h2, ldY (o := o) h3, bd]
theorem X1_doubleArea_eq (hc : COk M o) (hp : p < 24) : X1_doubleArea M o (nI p) = some (dA (vw M o) p ((vw M o).C p)) := by
  have hC := C_le (p := p) hc
  have h : loop (X1_doubleArea_L4 M o (nI p)) 3000 ((0 : Int32), (0 : Int32)) = some (dA (vw M o) p ((vw M o).C p)) := by
    refine loop_for (fun i => (dA (vw M o) p i, nI i)) ((vw M o).C p) (by omega) (fun i hi => ?_) ?_
    · have hn := nx_lt (p := p) (k := i) hC
      simp only [X1_doubleArea_L4, un2, bnd, bd1, ldC hc hp, if_neg (nI_ge hi (show (vw M o).C p < 2 ^ 31 by omega)), ix8, X1_next_eq hc hp (show i < 1000 by omega), Option.bind_some, ldX (o := o) (show 8 * p + i < 192 by omega), ldY (o := o) (show 8 * p + i < 192 by omega), ldX (o := o) (show 8 * p + nx (vw M o) p i < 192 by omega), ldY (o := o) (show 8 * p + nx (vw M o) p i < 192 by omega), nI_1, dA]
    · simp only [X1_doubleArea_L4, un2, ldC hc hp, if_pos (nI_le (Nat.le_refl ((vw M o).C p)) (show (vw M o).C p < 2 ^ 31 by omega))]
  simp only [X1_doubleArea, bd1, h, Option.bind_some]
theorem cvx_in (hc : COk M o) (hp : p < 24) (hk : k < (vw M o).C p) :
    ((∀ c, c < (vw M o).C p → c ≠ k → c ≠ nx (vw M o) p k → 0 < be (vw M o) p k p c) → loop (X1_isConvex_L35 M o (nI p) (nI (8 * p)) (nI k) (nI (8 * p + k)) (nI (8 * p + nx (vw M o) p k))) 3000 (nI (8 * p)) = some (.inl ())) ∧
    (¬ (∀ c, c < (vw M o).C p → c ≠ k → c ≠ nx (vw M o) p k → 0 < be (vw M o) p k p c) → loop (X1_isConvex_L35 M o (nI p) (nI (8 * p)) (nI k) (nI (8 * p + k)) (nI (8 * p + nx (vw M o) p k))) 3000 (nI (8 * p)) = some (.inr ())) := by
  have hC := C_le (p := p) hc
  have hn := nx_lt (p := p) (k := k) hC
  have key := loop_search (B := X1_isConvex_L35 M o (nI p) (nI (8 * p)) (nI k) (nI (8 * p + k)) (nI (8 * p + nx (vw M o) p k))) (fun c => nI (8 * p + c)) (fun c => c = k ∨ c = nx (vw M o) p k ∨ 0 < be (vw M o) p k p c) 0 ((vw M o).C p) (fuel := 3000) (exA := .inl ()) (exB := fun _ => .inr ()) (Nat.zero_le _) (by omega)
    (fun c _ h1 h2 => by
      simp only [X1_isConvex_L35, X1_isConvex_L35_j77, un1, bnd, bd1, ldC hc hp, nI_add, if_neg (nI_ge (show 8 * p + c < 8 * p + (vw M o).C p by omega) (show 8 * p + (vw M o).C p < 2 ^ 31 by omega)), X1_bend_eq (M := M) (o := o) (show 8 * p + k < 192 by omega) (show 8 * p + nx (vw M o) p k < 192 by omega) (show 8 * p + c < 192 by omega), Option.bind_some, nI_1]
      by_cases e1 : c = k
      · rw [if_pos (by rw [e1])]; rfl
      · rw [if_neg (fun e => e1 (by have := (nI_eq (by omega) (by omega)).mp e; omega))]
        by_cases e2 : c = nx (vw M o) p k
        · rw [if_pos (by rw [e2])]; rfl
        · rw [if_neg (fun e => e2 (by have := (nI_eq (by omega) (by omega)).mp e; omega))]
          rcases h2 with h2 | h2 | h2
          · exact absurd h2 e1
          · exact absurd h2 e2
          · rw [if_pos (show 0 < bd (vw M o) (8 * p + k) (8 * p + nx (vw M o) p k) (8 * p + c) from h2)]; rfl)
    (fun c _ h1 h2 => by
      simp only [X1_isConvex_L35, X1_isConvex_L35_j77, un1, bnd, bd1, ldC hc hp, nI_add, if_neg (nI_ge (show 8 * p + c < 8 * p + (vw M o).C p by omega) (show 8 * p + (vw M o).C p < 2 ^ 31 by omega)), X1_bend_eq (M := M) (o := o) (show 8 * p + k < 192 by omega) (show 8 * p + nx (vw M o) p k < 192 by omega) (show 8 * p + c < 192 by omega), Option.bind_some, nI_1]
      have e1 : ¬ c = k := fun e => h2 (Or.inl e)
      have e2 : ¬ c = nx (vw M o) p k := fun e => h2 (Or.inr (Or.inl e))
      have e3 : ¬ 0 < bd (vw M o) (8 * p + k) (8 * p + nx (vw M o) p k) (8 * p + c) := fun e => h2 (Or.inr (Or.inr e))
      rw [if_neg (fun e => e1 (by have := (nI_eq (by omega) (by omega)).mp e; omega)), if_neg (fun e => e2 (by have := (nI_eq (by omega) (by omega)).mp e; omega)), if_neg e3])
    (by simp only [X1_isConvex_L35, un1, ldC hc hp, nI_add, if_pos (nI_le (Nat.le_refl (8 * p + (vw M o).C p)) (show 8 * p + (vw M o).C p < 2 ^ 31 by omega))])
  simp only [Nat.add_zero] at key
  rcases key with ⟨h1, h2⟩ | ⟨c, -, h1, h2, -, h3⟩
  · refine ⟨fun _ => h2, fun hn => absurd (fun c hc e1 e2 => ?_) hn⟩
    rcases h1 c (Nat.zero_le _) hc with h | h | h
    · exact absurd h e1
    · exact absurd h e2
    · exact h
  · refine ⟨fun ha => absurd ?_ h2, fun _ => h3⟩
    by_cases e1 : c = k
    · exact Or.inl e1
    · by_cases e2 : c = nx (vw M o) p k
      · exact Or.inr (Or.inl e2)
      · exact Or.inr (Or.inr (ha c h1 e1 e2))
theorem X1_isConvex_eq (hc : COk M o) (hp : p < 24) : (Cvx (vw M o) p → X1_isConvex M o (nI p) = some 1) ∧ (¬ Cvx (vw M o) p → X1_isConvex M o (nI p) = some 0) := by
  have hC := C_le (p := p) hc
  have e8 : nI p * 8 = nI (8 * p) := by have := ix8 p 0; rwa [show nI p * 8 + nI 0 = nI p * 8 from Int32.add_zero _, Nat.add_zero] at this
  have key := loop_search (B := X1_isConvex_L7 M o (nI p) (nI (8 * p))) nI (fun k => ∀ c, c < (vw M o).C p → c ≠ k → c ≠ nx (vw M o) p k → 0 < be (vw M o) p k p c) 0 ((vw M o).C p) (fuel := 3000) (exA := .inl ()) (exB := fun _ => .inr ()) (Nat.zero_le _) (by omega)
    (fun i _ hi h => by
      simp only [X1_isConvex_L7, un1, un0, bnd, bd1, ldC hc hp, if_neg (nI_ge hi (show (vw M o).C p < 2 ^ 31 by omega)), X1_next_eq hc hp (show i < 1000 by omega), Option.bind_some, nI_add, (cvx_in hc hp hi).1 h, bdS_l, bdS_r, nI_1])
    (fun i _ hi h => by
      simp only [X1_isConvex_L7, un1, un0, bnd, bd1, ldC hc hp, if_neg (nI_ge hi (show (vw M o).C p < 2 ^ 31 by omega)), X1_next_eq hc hp (show i < 1000 by omega), Option.bind_some, nI_add, (cvx_in hc hp hi).2 h, bdS_l, bdS_r, nI_1])
    (by simp only [X1_isConvex_L7, un1, ldC hc hp, if_pos (nI_le (Nat.le_refl ((vw M o).C p)) (show (vw M o).C p < 2 ^ 31 by omega))])
  rw [nI_0] at key
  rcases key with ⟨h1, h2⟩ | ⟨i, -, h1, h2, -, h3⟩
  · refine ⟨fun _ => ?_, fun hn => absurd (fun k hk => h1 k (Nat.zero_le _) hk) hn⟩
    simp only [X1_isConvex, bnd, e8, h2, bdS_l, un0, chk1]
  · refine ⟨fun ha => absurd (ha i h1) h2, fun _ => ?_⟩
    simp only [X1_isConvex, bnd, e8, h3, bdS_r, un0, chk0]
theorem X1_isClosed_eq (hc : COk M o) (hp : p < 24) : X1_isClosed M o (nI p) = some (if 0 < (vw M o).C p then 1 else 0) := by
  have hC := C_le (p := p) hc
  simp only [X1_isClosed, X1_isClosed_j14, ldC hc hp, chk0, chk1]
  by_cases h : 0 < (vw M o).C p
  · rw [if_neg (nI_nle h (by omega)), if_pos h]
  · rw [if_neg h, if_pos (by rw [show (vw M o).C p = 0 by omega]; decide)]
end PX1
