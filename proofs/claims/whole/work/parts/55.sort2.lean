/-! the class's sorting, whole -/
section Srt
variable {cl : List Ct} {f : Nat → Nat} {N : Mem}
/-- sorted in runs of R -/
def Rn (cl : List Ct) (f : Nat → Nat) (R : Nat) : Prop := ∀ k, R * k < cl.length → Blk cl f (R * k) (if R * k + R ≤ cl.length then R * k + R else cl.length)
theorem Blk.nil {lo hi : Nat} (h : hi ≤ lo) : Blk cl f lo hi := ⟨fun i a b => absurd b (by omega), fun i a b => absurd b (by omega), fun i j a b c => absurd c (by omega)⟩
theorem pass_eq (hn : cl.length ≤ 903) (hs : SM cl f N) {R : Nat} (hR : 0 < R) (hRl : R < cl.length) (hr : Rn cl f R) : ∃ N' g, X0_sort_L25 (nI R, N) = some (.inl (nI (R * 2), N')) ∧ (∀ k i, k ≠ 22 → k ≠ 23 → N' k i = N k i) ∧ SM cl g N' ∧ Rn cl g (R * 2) := by
  -- how many blocks
  have key : ∃ Nf g, loop (X0_sort_L35 (nI R)) 3000 ((0 : Int32), N) = some Nf ∧ (∀ k i, k ≠ 23 → Nf k i = N k i) ∧ (∀ i, i < cl.length → Nf 23 i = nI (g i)) ∧ Rn cl g (R * 2) := by
    have hm : ∃ m, R * 2 * m < cl.length + R * 2 ∧ cl.length ≤ R * 2 * m := by
      refine ⟨(cl.length + (R * 2 - 1)) / (R * 2), ?_, ?_⟩
      · have := Nat.div_mul_le_self (cl.length + (R * 2 - 1)) (R * 2)
        rw [Nat.mul_comm] at this
        omega
      · have h1 := Nat.div_add_mod (cl.length + (R * 2 - 1)) (R * 2)
        have h2 := Nat.mod_lt (cl.length + (R * 2 - 1)) (show 0 < R * 2 by omega)
        omega
    obtain ⟨m, m1, m2⟩ := hm
    have m3 : m ≤ cl.length := by
      rcases Nat.eq_zero_or_pos m with z | z
      · omega
      · have : R * 2 * (m - 1) < cl.length := by
          have e : R * 2 * m = R * 2 * (m - 1) + R * 2 := by
            conv => lhs; rw [show m = (m - 1) + 1 by omega, Nat.mul_succ]
          omega
        have : 1 * (m - 1) ≤ R * 2 * (m - 1) := Nat.mul_le_mul_right _ (by omega)
        omega
    obtain ⟨ex, q1, q2⟩ := loop_inv (B := X0_sort_L35 (nI R)) (fun d st => st.1 = nI (R * 2 * d) ∧ (∀ k i, k ≠ 23 → st.2 k i = N k i) ∧ ∃ g, (∀ i, i < cl.length → i < R * 2 * d → st.2 23 i = nI (g i)) ∧ ∀ k, k < d → R * 2 * k < cl.length → Blk cl g (R * 2 * k) (if R * 2 * k + R * 2 ≤ cl.length then R * 2 * k + R * 2 else cl.length)) (Q := fun Nf => (∀ k i, k ≠ 23 → Nf k i = N k i) ∧ ∃ g, (∀ i, i < cl.length → Nf 23 i = nI (g i)) ∧ Rn cl g (R * 2)) m 0 m 3000 (by omega) (by omega)
      (by
        rintro d ⟨c1, N1⟩ hd ⟨e1, e2, g, e3, e4⟩
        simp only at e1 e2 e3
        subst e1
        have hlt : R * 2 * d < cl.length := by
          have : R * 2 * (d + 1) ≤ R * 2 * m := Nat.mul_le_mul_left _ (by omega)
          rw [Nat.mul_succ] at this
          omega
        have hs1 : SM cl f N1 := ⟨by rw [e2 _ _ (by omega)]; exact hs.1, fun i hi => by rw [e2 _ _ (by omega), e2 _ _ (by omega)]; exact hs.2.1 i hi, fun i hi => by rw [e2 _ _ (by omega)]; exact hs.2.2 i hi⟩
        have x1 : R * (2 * d) = R * 2 * d := by rw [Nat.mul_assoc]
        have x2 : R * (2 * d + 1) = R * 2 * d + R := by rw [Nat.mul_succ, x1]
        have B1 := hr (2 * d) (by rw [x1]; exact hlt)
        rw [x1] at B1
        have B2 : Blk cl f (if R * 2 * d + R ≤ cl.length then R * 2 * d + R else cl.length) (if R * 2 * d + R * 2 ≤ cl.length then R * 2 * d + R * 2 else cl.length) := by
          by_cases z : R * 2 * d + R < cl.length
          · have := hr (2 * d + 1) (by rw [x2]; exact z)
            rw [x2] at this
            rw [if_pos (by omega)]
            rw [show R * 2 * d + R + R = R * 2 * d + R * 2 by omega] at this
            exact this
          · apply Blk.nil
            split <;> split <;> omega
        generalize hmid : (if R * 2 * d + R ≤ cl.length then R * 2 * d + R else cl.length) = mid at B1 B2
        generalize hhi : (if R * 2 * d + R * 2 ≤ cl.length then R * 2 * d + R * 2 else cl.length) = hi at B2
        have l1 : R * 2 * d ≤ mid := by rw [← hmid]; split <;> omega
        have l2 : mid ≤ hi := by rw [← hmid, ← hhi]; split <;> split <;> omega
        have l3 : hi ≤ cl.length := by rw [← hhi]; split <;> omega
        obtain ⟨N2, g2, v1, v2, v3, v4⟩ := merge_eq hn hs1 l1 l2 l3 B1 B2
        refine ⟨(nI (R * 2 * (d + 1)), N2), ?_, rfl, fun k i hk => ?_, fun i => if R * 2 * d ≤ i then g2 i else g i, fun i w1 w2 => ?_, fun k w1 w2 => ?_⟩
        · have i1 : nI (R * 2 * d) + nI R = nI (R * 2 * d + R) := nI_add _ _
          have i2 : nI (R * 2 * d) + 2 * nI R = nI (R * 2 * d + R * 2) := by rw [show (2 : Int32) = nI 2 from rfl, nI_mul, nI_add, Nat.mul_comm 2 R]
          have f1 : (if nI cl.length < nI (R * 2 * d + R) then nI cl.length else nI (R * 2 * d + R)) = nI mid := by
            simp only [nI_lt_iff (show cl.length < 2147483648 by omega) (show R * 2 * d + R < 2147483648 by omega)]
            rw [← hmid]
            split
            · rw [if_neg (by omega)]
            · rw [if_pos (by omega)]
          have f2 : (if nI cl.length < nI (R * 2 * d + R * 2) then nI cl.length else nI (R * 2 * d + R * 2)) = nI hi := by
            simp only [nI_lt_iff (show cl.length < 2147483648 by omega) (show R * 2 * d + R * 2 < 2147483648 by omega)]
            rw [← hhi]
            split
            · rw [if_neg (by omega)]
            · rw [if_pos (by omega)]
          unfold X0_sort_L35
          rw [un2_s, hs1.1, if_neg (nI_ge hlt (by omega)), i1, i2, f1, bnd_s, f2, bnd_s, v1, bd1_s, bnd_s, show R * 2 * (d + 1) = R * 2 * d + R * 2 from Nat.mul_succ _ _]
        · show N2 k i = N k i
          rw [v2 k i (by omega), e2 k i hk]
        · show N2 23 i = nI (if R * 2 * d ≤ i then g2 i else g i)
          rw [Nat.mul_succ] at w2
          by_cases c : R * 2 * d ≤ i
          · rw [if_pos c]
            exact v3 i c (by rw [← hhi]; split <;> omega)
          · rw [if_neg c, v2 23 i (by omega)]
            exact e3 i w1 (by omega)
        · by_cases c : k = d
          · subst c
            rw [hhi]
            exact v4.congr (fun i a b => if_pos a)
          · have : R * 2 * (k + 1) ≤ R * 2 * d := Nat.mul_le_mul_left _ (by omega)
            rw [Nat.mul_succ] at this
            refine (e4 k (by omega) w2).congr (fun i a b => ?_)
            rw [if_neg]
            split at b <;> omega)
      (by
        rintro ⟨c1, N1⟩ ⟨e1, e2, g, e3, e4⟩
        simp only at e1 e2 e3
        subst e1
        have h17 : N1 17 1 = nI cl.length := by rw [e2 _ _ (by omega)]; exact hs.1
        refine ⟨N1, ?_, e2, g, fun i hi => e3 i hi (by omega), fun k hk => e4 k ?_ hk⟩
        · unfold X0_sort_L35
          rw [un2_s, h17, if_pos (nI_le m2 (by omega))]
        · by_cases c : k < m
          · exact c
          · have : R * 2 * m ≤ R * 2 * k := Nat.mul_le_mul_left _ (by omega)
            omega)
      (0, N) ⟨rfl, fun _ _ _ => rfl, fun _ => 0, fun i w1 w2 => absurd w2 (by omega), fun k w => absurd w (by omega)⟩
    obtain ⟨q3, g, q4, q5⟩ := q2
    exact ⟨ex, g, q1, q3, q4, q5⟩
  obtain ⟨Nf, g, q1, q2, q3, q4⟩ := key
  have h17 : Nf 17 1 = nI cl.length := by rw [q2 _ _ (by omega)]; exact hs.1
  refine ⟨wrR Nf 22 (va_cpy (Nf 23) (Nf 22) 0 0 cl.length), g, ?_, fun k i a b => ?_, ⟨?_, fun i hi => ⟨?_, ?_⟩, fun i hi => ?_⟩, q4⟩
  · unfold X0_sort_L25
    rw [un2_s, hs.1, if_neg (nI_ge hRl (by omega)), q1, bd1_s, h17]
    unfold cpy chk
    rw [nI_toInt (by omega), nI_clamp (by omega), if_pos (by simp; omega)]
    simp only [bnd_s]
    rw [show (2 : Int32) = nI 2 from rfl, nI_mul]
  · show (if k = 22 then _ else Nf k) i = N k i
    rw [if_neg a, q2 k i b]
  · show (if 17 = 22 then _ else Nf 17) 1 = _
    rw [if_neg (by omega)]; exact h17
  · show (if 18 = 22 then _ else Nf 18) i = _
    rw [if_neg (by omega), q2 _ _ (by omega)]; exact (hs.2.1 i hi).1
  · show (if 19 = 22 then _ else Nf 19) i = _
    rw [if_neg (by omega), q2 _ _ (by omega)]; exact (hs.2.1 i hi).2
  · show (if 22 = 22 then va_cpy (Nf 23) (Nf 22) 0 0 cl.length else Nf 22) i = _
    rw [if_pos rfl]
    unfold va_cpy
    rw [if_pos (by omega), show 0 + (i - 0) = i by omega, q3 i hi]
theorem sort_eq (hn : cl.length ≤ 903) (h17 : N 17 1 = nI cl.length) (hz : ∀ i, i < cl.length → N 18 i = cuL cl i ∧ N 19 i = cuH cl i) : ∃ N' f, X0_sort N = some N' ∧ (∀ k i, k ≠ 22 → k ≠ 23 → N' k i = N k i) ∧ (∀ i, i < cl.length → N' 22 i = nI (f i)) ∧ SP cl f := by
  obtain ⟨N1, a1, a2, a3⟩ := loop_inv (B := X0_sort_L2) (fun i st => st.1 = nI i ∧ (∀ k j, k ≠ 22 → st.2 k j = N k j) ∧ ∀ j, j < i → st.2 22 j = nI j) (Q := fun N' => (∀ k j, k ≠ 22 → N' k j = N k j) ∧ ∀ j, j < cl.length → N' 22 j = nI j) cl.length 0 cl.length 3000 (by omega) (by omega)
    (by
      rintro i ⟨c1, N1⟩ hi ⟨e1, e2, e3⟩
      simp only at e1 e2 e3
      subst e1
      refine ⟨(nI (i + 1), wr N1 22 i (nI i)), ?_, rfl, fun k j hk => ?_, fun j hj => ?_⟩
      · unfold X0_sort_L2
        rw [un2_s, e2 _ _ (by omega), h17, if_neg (nI_ge hi (by omega)), stoN (by omega) (by decide), bnd_s, nI_1]
      · show wr N1 22 i (nI i) k j = _
        rw [wr_ne (by omega), e2 k j hk]
      · show wr N1 22 i (nI i) 22 j = _
        by_cases c : j = i
        · rw [c, wr_at, if_pos ⟨rfl, rfl⟩]
        · rw [wr_ne (by omega)]; exact e3 j (by omega))
    (by
      rintro ⟨c1, N1⟩ ⟨e1, e2, e3⟩
      simp only at e1 e2 e3
      subst e1
      refine ⟨N1, ?_, e2, e3⟩
      unfold X0_sort_L2
      rw [un2_s, e2 _ _ (by omega), h17, if_pos (nI_le (Nat.le_refl _) (by omega))])
    (0, N) ⟨rfl, fun _ _ _ => rfl, fun j hj => absurd hj (by omega)⟩
  -- the passes
  have hT : ∃ T, T ≤ 10 ∧ cl.length ≤ 2 ^ T ∧ ∀ t, t < T → 2 ^ t < cl.length := by
    rcases first_of (P := fun t => 2 ^ t < cl.length) 11 0 with h | ⟨t, _, h1, h2, h3⟩
    · have := h 10 (by omega) (by omega)
      exact absurd this (by omega)
    · exact ⟨t, by omega, by omega, fun t' ht' => h3 t' (by omega) ht'⟩
  obtain ⟨T, t1, t2, t3⟩ := hT
  have p24 : 2 ^ T ≤ 1024 := Nat.pow_le_pow_right (show 2 > 0 by omega) t1
  obtain ⟨N2, b1, b2, f, b3, b4⟩ := loop_inv (B := X0_sort_L25) (fun t st => st.1 = nI (2 ^ t) ∧ (∀ k j, k ≠ 22 → k ≠ 23 → st.2 k j = N k j) ∧ ∃ f, SM cl f st.2 ∧ Rn cl f (2 ^ t)) (Q := fun N' => (∀ k j, k ≠ 22 → k ≠ 23 → N' k j = N k j) ∧ ∃ f, (∀ i, i < cl.length → N' 22 i = nI (f i)) ∧ SP cl f) T 0 T 3000 (by omega) (by omega)
    (by
      rintro t ⟨c1, N2⟩ ht ⟨e1, e2, f, e3, e4⟩
      simp only at e1 e2 e3
      subst e1
      obtain ⟨N3, g, v1, v2, v3, v4⟩ := pass_eq hn e3 (Nat.pow_pos (by omega)) (t3 t ht) e4
      refine ⟨(nI (2 ^ t * 2), N3), v1, by rw [Nat.pow_succ], fun k j h1 h2 => ?_, g, v3, by rw [Nat.pow_succ]; exact v4⟩
      show N3 k j = N k j
      rw [v2 k j h1 h2, e2 k j h1 h2])
    (by
      rintro ⟨c1, N2⟩ ⟨e1, e2, f, e3, e4⟩
      simp only at e1 e2 e3
      subst e1
      refine ⟨N2, ?_, e2, f, e3.2.2, ?_⟩
      · unfold X0_sort_L25
        rw [un2_s, e3.1, if_pos (nI_le t2 (by omega))]
      · by_cases z : cl.length = 0
        · exact ⟨fun i hi => absurd hi (by omega), fun i hi => absurd hi (by omega), fun i j _ hj => absurd hj (by omega)⟩
        · have := e4 0 (by rw [Nat.mul_zero]; omega)
          rw [Nat.mul_zero, Nat.zero_add] at this
          have eh : (if 2 ^ T ≤ cl.length then 2 ^ T else cl.length) = cl.length := by split <;> omega
          rw [eh] at this
          obtain ⟨u1, u2, u3⟩ := this
          exact ⟨fun i hi => (u1 i (by omega) hi).2, fun x hx => (by obtain ⟨i, w1, w2, w3⟩ := u2 x (by omega) hx; exact ⟨i, w2, w3⟩), fun i j h1 h2 => u3 i j (by omega) h1 h2⟩)
    (1, N1) ⟨rfl, fun k j h1 _ => a2 k j h1, fun i => i, ⟨by show N1 17 1 = _; rw [a2 _ _ (by omega)]; exact h17, fun i hi => by show N1 18 i = _ ∧ N1 19 i = _; rw [a2 _ _ (by omega), a2 _ _ (by omega)]; exact hz i hi, a3⟩, fun k hk => ⟨fun i w1 w2 => ⟨w1, w2⟩, fun x w1 w2 => ⟨x, w1, w2, rfl⟩, fun i j w1 w2 w3 => by
      exfalso
      rw [Nat.pow_zero] at w1 w3
      split at w3 <;> omega⟩⟩
  refine ⟨N2, f, ?_, b2, b3, b4⟩
  unfold X0_sort
  rw [a1, bd1_s, b1]
  rfl
end Srt
