/-! laying the cuts on strips: the class's way and the model's -/
theorem ff_spec (u : Nat → Nat) (len : Nat) : ∀ k s, s ≤ ff u len k s ∧ ff u len k s ≤ s + k ∧ (∀ t, s ≤ t → t < ff u len k s → ¬ u t + len ≤ 1008) ∧ (ff u len k s < s + k → u (ff u len k s) + len ≤ 1008)
  | 0, s => ⟨Nat.le_refl _, Nat.le_refl _, fun t a b => absurd b (by unfold ff; omega), fun h => absurd h (by unfold ff; omega)⟩
  | k + 1, s => by
    obtain ⟨h1, h2, h3, h4⟩ := ff_spec u len k (s + 1)
    unfold ff
    by_cases c : u s + len ≤ 1008
    · rw [if_pos c]
      exact ⟨Nat.le_refl _, by omega, fun t a b => absurd b (by omega), fun _ => c⟩
    · rw [if_neg c]
      refine ⟨by omega, by omega, fun t a b => ?_, fun h => h4 (by omega)⟩
      by_cases e : t = s
      · rw [e]; exact c
      · exact h3 t (by omega) b
theorem ly1_new {len hgt i : Nat} {q : Ls} (h : ff q.1 len q.2.1 0 = q.2.1) : ly1 len hgt i q = (fun t => if t = q.2.1 then len else q.1 t, q.2.1 + 1, q.2.2.1 + hgt, fun t => if t = i then q.2.1 else q.2.2.2.1 t, fun t => if t = i then 0 else q.2.2.2.2 t) := by
  unfold ly1
  simp only [h, and_self, if_true, and_true, Nat.zero_add]
  refine Prod.ext ?_ rfl
  funext t
  simp only
  by_cases c : t = q.2.1
  · rw [if_pos c, if_pos c]
  · rw [if_neg c, if_neg c, if_neg c]
theorem ly1_old {len hgt i s : Nat} {q : Ls} (h : ff q.1 len q.2.1 0 = s) (hs : s < q.2.1) : ly1 len hgt i q = (fun t => if t = s then q.1 s + len else q.1 t, q.2.1, q.2.2.1, fun t => if t = i then s else q.2.2.2.1 t, fun t => if t = i then q.1 s else q.2.2.2.2 t) := by
  have ne : ¬ s = q.2.1 := by omega
  unfold ly1
  simp only [h, ne, and_false, if_false]
/-- lengths and heights are numbers up to 1008 -/
def Sz (cl : List Ct) : Prop := ∀ i, i < cl.length → ∃ a b, a ≤ 1008 ∧ b ≤ 1008 ∧ cuL cl i = nI a ∧ cuH cl i = nI b
section Ly
variable {cl : List Ct} {f : Nat → Nat}
theorem ly_inv (hz : Sz cl) (hf : ∀ i, i < cl.length → f i < cl.length) : ∀ i, i ≤ cl.length → (lyN cl f i).2.1 ≤ i ∧ ∀ t, t < (lyN cl f i).2.1 → (lyN cl f i).1 t ≤ 1008
  | 0, _ => ⟨Nat.le_refl _, fun t h => absurd h (by simp [lyN])⟩
  | i + 1, hi => by
    obtain ⟨h1, h2⟩ := ly_inv hz hf i (by omega)
    obtain ⟨a, b, l1, l2, e1, e2⟩ := hz (f i) (hf i (by omega))
    unfold lyN
    rw [e1, e2, nI_clamp (by omega), nI_clamp (by omega)]
    obtain ⟨s1, s2, s3, s4⟩ := ff_spec (lyN cl f i).1 a (lyN cl f i).2.1 0
    rw [Nat.zero_add] at s2 s4
    by_cases c : ff (lyN cl f i).1 a (lyN cl f i).2.1 0 = (lyN cl f i).2.1
    · rw [ly1_new c]
      refine ⟨by simp only; omega, fun t ht => ?_⟩
      simp only at ht ⊢
      split
      · omega
      · exact h2 t (by omega)
    · rw [ly1_old rfl (by omega)]
      refine ⟨by simp only; omega, fun t ht => ?_⟩
      simp only at ht ⊢
      split
      · exact s4 (by omega)
      · exact h2 t ht
variable {N0 N : Mem}
/-- the class, when i cuts are laid -/
def CY (cl : List Ct) (f : Nat → Nat) (N0 N : Mem) (i : Nat) : Prop :=
  (∀ k j, k ≠ 24 → k ≠ 25 → k ≠ 26 → ¬ (k = 17 ∧ (j = 11 ∨ j = 12)) → N k j = N0 k j) ∧ N 17 11 = nI (lyN cl f i).2.1 ∧ N 17 12 = nI (lyN cl f i).2.2.1 ∧ (∀ t, t < (lyN cl f i).2.1 → N 26 t = nI ((lyN cl f i).1 t)) ∧ ∀ t, t < i → N 24 t = nI ((lyN cl f i).2.2.2.1 t) ∧ N 25 t = nI ((lyN cl f i).2.2.2.2 t)
theorem stripFor_eq {U len : Nat} {u : Nat → Nat} (hU : U < 903) (hl : len ≤ 1008) (h17 : N 17 11 = nI U) (h26 : ∀ t, t < U → N 26 t = nI (u t) ∧ u t ≤ 1008) : X0_stripFor N (nI len) = some (nI (ff u len U 0)) := by
  obtain ⟨s1, s2, s3, s4⟩ := ff_spec u len U 0
  rw [Nat.zero_add] at s2 s4
  have st : ∀ t, t < U → X0_stripFor_L2 N (nI len) (nI t) = if u t + len ≤ 1008 then some (.inr (.inr (nI t))) else some (.inl (nI (t + 1))) := by
    intro t ht
    obtain ⟨e1, e2⟩ := h26 t ht
    unfold X0_stripFor_L2
    rw [un1_s, h17, if_neg (nI_ge ht (by omega)), ldN (show t < 903 by omega) (by decide), e1, show (1008 : Int32) = nI 1008 from rfl, nI_sub e2]
    simp only [nI_lt_iff (show 1008 - u t < 2147483648 by omega) (show len < 2147483648 by omega), bnd_s, nI_1]
    by_cases c : u t + len ≤ 1008
    · rw [if_neg (by omega), if_pos c]
    · rw [if_pos (by omega), if_neg c]
  unfold X0_stripFor
  by_cases c : ff u len U 0 < U
  · have : loop (X0_stripFor_L2 N (nI len)) 3000 (nI 0) = some (.inr (nI (ff u len U 0))) := loop_at nI (ff u len U 0) (by rw [st _ c, if_pos (s4 c)]) (ff u len U 0) 0 3000 (by omega) (by omega) (fun t _ ht => by rw [st t (by omega), if_neg (s3 t (by omega) ht)])
    rw [show (0 : Int32) = nI 0 from rfl, this]
    rfl
  · have e : ff u len U 0 = U := by omega
    have : loop (X0_stripFor_L2 N (nI len)) 3000 (nI 0) = some (.inl ()) := loop_at nI U (by unfold X0_stripFor_L2; rw [un1_s, h17, if_pos (nI_le (Nat.le_refl _) (by omega))]) U 0 3000 (by omega) (by omega) (fun t _ ht => by rw [st t ht, if_neg (s3 t (by omega) (by omega))])
    rw [show (0 : Int32) = nI 0 from rfl, this, e]
    show some (N 17 11) = _
    rw [h17]
theorem cy_step (hn : cl.length ≤ 903) (hz : Sz cl) (hf : ∀ i, i < cl.length → f i < cl.length) (h17 : N0 17 1 = nI cl.length) (hs : ∀ i, i < cl.length → N0 18 i = cuL cl i ∧ N0 19 i = cuH cl i) (h22 : ∀ i, i < cl.length → N0 22 i = nI (f i)) {i : Nat} (hi : i < cl.length) (h : CY cl f N0 N i) : ∃ N', X0_layInOrder_L12 (nI i, N) = some (.inl (nI (i + 1), N')) ∧ CY cl f N0 N' (i + 1) := by
  obtain ⟨h1, h2, h3, h4, h5⟩ := h
  obtain ⟨v1, v2⟩ := ly_inv hz hf i (by omega)
  obtain ⟨a, b, l1, l2, e1, e2⟩ := hz (f i) (hf i hi)
  have hfi := hf i hi
  have n17 : N 17 1 = nI cl.length := by rw [h1 _ _ (by omega) (by omega) (by omega) (by omega)]; exact h17
  have n22 : N 22 i = nI (f i) := by rw [h1 _ _ (by omega) (by omega) (by omega) (by omega)]; exact h22 i hi
  have n18 : N 18 (f i) = nI a := by rw [h1 _ _ (by omega) (by omega) (by omega) (by omega), (hs _ hfi).1]; exact e1
  have n19 : N 19 (f i) = nI b := by rw [h1 _ _ (by omega) (by omega) (by omega) (by omega), (hs _ hfi).2]; exact e2
  have sf := stripFor_eq (N := N) (U := (lyN cl f i).2.1) (len := a) (u := (lyN cl f i).1) (by omega) l1 h2 (fun t ht => ⟨h4 t ht, v2 t ht⟩)
  obtain ⟨s1, s2, s3, s4⟩ := ff_spec (lyN cl f i).1 a (lyN cl f i).2.1 0
  rw [Nat.zero_add] at s2 s4
  have eN : lyN cl f (i + 1) = ly1 a b i (lyN cl f i) := by
    show ly1 _ _ _ _ = _
    rw [e1, e2, nI_clamp (by omega), nI_clamp (by omega)]
  unfold CY
  rw [eN]
  generalize lyN cl f i = q at *
  have base : X0_layInOrder_L12 (nI i, N) = if nI (ff q.1 a q.2.1 0) = nI q.2.1 then (sto N 26 903 (nI (ff q.1 a q.2.1 0)) 0 (fun N8 => bnd (wr N8 17 11 ((N8 17 11) + 1)) (fun N9 => ld N9 19 903 (nI (f i)) (fun t8 => bnd (wr N9 17 12 ((N9 17 12) + t8)) (fun N10 => X0_layInOrder_L12_j78 N10 (nI i) (nI (f i)) (nI (ff q.1 a q.2.1 0))))))) else (X0_layInOrder_L12_j78 N (nI i) (nI (f i)) (nI (ff q.1 a q.2.1 0))) := by
    unfold X0_layInOrder_L12
    rw [un2_s, n17, if_neg (nI_ge hi (by omega)), ldN (show i < 903 by omega) (by decide), n22, ldN (show f i < 903 by omega) (by decide), n18, sf, bd1_s, h2]
  have j78 : ∀ (P : Mem) (s x : Nat), s < 903 → P 26 s = nI x → P 18 (f i) = nI a → X0_layInOrder_L12_j78 P (nI i) (nI (f i)) (nI s) = some (.inl (nI (i + 1), wr (wr (wr P 24 i (nI s)) 25 i (nI x)) 26 s (nI (x + a)))) := by
    intro P s x hs1 p1 p2
    unfold X0_layInOrder_L12_j78
    rw [stoN (show i < 903 by omega) (by decide), ldN hs1 (by decide), wr_ne (by omega), p1, stoN (show i < 903 by omega) (by decide), ldN hs1 (by decide), wr_ne (by omega), wr_ne (by omega), p1, ldN (show f i < 903 by omega) (by decide), wr_ne (by omega), wr_ne (by omega), p2, stoN hs1 (by decide), bnd_s, nI_1, nI_add]
  rw [base]
  by_cases c : ff q.1 a q.2.1 0 = q.2.1
  · rw [ly1_new c, c, if_pos rfl]
    refine ⟨wr (wr (wr (wr (wr (wr N 26 q.2.1 0) 17 11 (nI (q.2.1 + 1))) 17 12 (nI (q.2.2.1 + b))) 24 i (nI q.2.1)) 25 i (nI 0)) 26 q.2.1 (nI (0 + a)), ?_, fun k j w1 w2 w3 w4 => ?_, ?_, ?_, fun t ht => ?_, fun t ht => ⟨?_, ?_⟩⟩
    · rw [stoN (by omega) (by decide), wr_ne (by omega), h2, nI_1, bnd_s, ldN (show f i < 903 by omega) (by decide), wr_ne (by omega), wr_ne (by omega), h3, wr_ne (by omega), wr_ne (by omega), n19, nI_add, bnd_s]
      refine j78 _ q.2.1 0 (by omega) ?_ ?_
      · rw [wr_ne (by omega), wr_ne (by omega), wr_at, if_pos ⟨rfl, rfl⟩]; rfl
      · rw [wr_ne (by omega), wr_ne (by omega), wr_ne (by omega), n18]
    · rw [wr_ne (by omega), wr_ne (by omega), wr_ne (by omega), wr_ne (by omega), wr_ne (by omega), wr_ne (by omega)]
      exact h1 k j w1 w2 w3 w4
    · rw [wr_ne (by omega), wr_ne (by omega), wr_ne (by omega), wr_ne (by omega), wr_at, if_pos ⟨rfl, rfl⟩]
    · rw [wr_ne (by omega), wr_ne (by omega), wr_ne (by omega), wr_at, if_pos ⟨rfl, rfl⟩]
    · simp only at ht ⊢
      by_cases d : t = q.2.1
      · rw [d, wr_at, if_pos ⟨rfl, rfl⟩, if_pos rfl, Nat.zero_add]
      · rw [if_neg d, wr_ne (by omega), wr_ne (by omega), wr_ne (by omega), wr_ne (by omega), wr_ne (by omega), wr_ne (by omega)]
        exact h4 t (by omega)
    · simp only
      by_cases d : t = i
      · rw [d, if_pos rfl, wr_ne (by omega), wr_ne (by omega), wr_at, if_pos ⟨rfl, rfl⟩]
      · rw [if_neg d, wr_ne (by omega), wr_ne (by omega), wr_ne (by omega), wr_ne (by omega), wr_ne (by omega), wr_ne (by omega)]
        exact (h5 t (by omega)).1
    · simp only
      by_cases d : t = i
      · rw [d, if_pos rfl, wr_ne (by omega), wr_at, if_pos ⟨rfl, rfl⟩]
      · rw [if_neg d, wr_ne (by omega), wr_ne (by omega), wr_ne (by omega), wr_ne (by omega), wr_ne (by omega), wr_ne (by omega)]
        exact (h5 t (by omega)).2
  · have c' : ff q.1 a q.2.1 0 < q.2.1 := by omega
    rw [ly1_old rfl c', if_neg (by rw [nI_eq_iff (by omega) (by omega)]; exact c)]
    generalize ff q.1 a q.2.1 0 = s at *
    refine ⟨wr (wr (wr N 24 i (nI s)) 25 i (nI (q.1 s))) 26 s (nI (q.1 s + a)), j78 N s (q.1 s) (by omega) (h4 s c') n18, fun k j w1 w2 w3 w4 => ?_, ?_, ?_, fun t ht => ?_, fun t ht => ⟨?_, ?_⟩⟩
    · rw [wr_ne (by omega), wr_ne (by omega), wr_ne (by omega)]
      exact h1 k j w1 w2 w3 w4
    · rw [wr_ne (by omega), wr_ne (by omega), wr_ne (by omega)]; exact h2
    · rw [wr_ne (by omega), wr_ne (by omega), wr_ne (by omega)]; exact h3
    · simp only at ht ⊢
      by_cases d : t = s
      · rw [d, wr_at, if_pos ⟨rfl, rfl⟩, if_pos rfl]
      · rw [if_neg d, wr_ne (by omega), wr_ne (by omega), wr_ne (by omega)]
        exact h4 t ht
    · simp only
      by_cases d : t = i
      · rw [d, if_pos rfl, wr_ne (by omega), wr_ne (by omega), wr_at, if_pos ⟨rfl, rfl⟩]
      · rw [if_neg d, wr_ne (by omega), wr_ne (by omega), wr_ne (by omega)]
        exact (h5 t (by omega)).1
    · simp only
      by_cases d : t = i
      · rw [d, if_pos rfl, wr_ne (by omega), wr_at, if_pos ⟨rfl, rfl⟩]
      · rw [if_neg d, wr_ne (by omega), wr_ne (by omega), wr_ne (by omega)]
        exact (h5 t (by omega)).2
theorem layInOrder_eq (hn : cl.length ≤ 903) (hz : Sz cl) (hf : ∀ i, i < cl.length → f i < cl.length) (h17 : N 17 1 = nI cl.length) (hs : ∀ i, i < cl.length → N 18 i = cuL cl i ∧ N 19 i = cuH cl i) (h22 : ∀ i, i < cl.length → N 22 i = nI (f i)) : ∃ N', X0_layInOrder N = some N' ∧ CY cl f N N' cl.length := by
  obtain ⟨N1, a1, a2⟩ := loop_inv (B := X0_layInOrder_L12) (fun i st => st.1 = nI i ∧ CY cl f N st.2 i) (Q := fun N' => CY cl f N N' cl.length) cl.length 0 cl.length 3000 (by omega) (by omega)
    (by
      rintro i ⟨c1, N1⟩ hi ⟨e1, e2⟩
      simp only at e1 e2
      subst e1
      obtain ⟨N2, q1, q2⟩ := cy_step hn hz hf h17 hs h22 hi e2
      exact ⟨(nI (i + 1), N2), q1, rfl, q2⟩)
    (by
      rintro ⟨c1, N1⟩ ⟨e1, e2⟩
      simp only at e1 e2
      subst e1
      refine ⟨N1, ?_, e2⟩
      unfold X0_layInOrder_L12
      rw [un2_s, e2.1 _ _ (by omega) (by omega) (by omega) (by omega), h17, if_pos (nI_le (Nat.le_refl _) (by omega))])
    (0, wr (wr N 17 11 0) 17 12 0) ⟨rfl, fun k j w1 w2 w3 w4 => by show wr _ _ _ _ k j = _; rw [wr_ne (by omega), wr_ne (by omega)], by show (wr (wr N 17 11 0) 17 12 0) 17 11 = _; rw [wr_ne (by omega), wr_at, if_pos ⟨rfl, rfl⟩]; rfl, by show (wr (wr N 17 11 0) 17 12 0) 17 12 = _; rw [wr_at, if_pos ⟨rfl, rfl⟩]; rfl, fun t ht => absurd ht (by simp [lyN]), fun t ht => absurd ht (by omega)⟩
  refine ⟨N1, ?_, a2⟩
  unfold X0_layInOrder
  rw [bnd_s, bnd_s, a1]
  rfl
end Ly
