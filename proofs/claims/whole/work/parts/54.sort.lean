/-! the order of the cuts; the class's merging -/
def gbf (cl : List Ct) (a b : Nat) : Prop := cuH cl b < cuH cl a ∨ (cuH cl a = cuH cl b ∧ cuL cl b < cuL cl a)
theorem bf_iff (cl : List Ct) (a b : Nat) : bf cl a b ↔ ((cuH cl b).toInt < (cuH cl a).toInt ∨ ((cuH cl a).toInt = (cuH cl b).toInt ∧ ((cuL cl b).toInt < (cuL cl a).toInt ∨ ((cuL cl a).toInt = (cuL cl b).toInt ∧ a < b)))) := by
  unfold bf
  rw [Int32.lt_iff_toInt_lt, Int32.lt_iff_toInt_lt, ← Int32.toInt_inj, ← Int32.toInt_inj]
theorem gbf_iff (cl : List Ct) (a b : Nat) : gbf cl a b ↔ ((cuH cl b).toInt < (cuH cl a).toInt ∨ ((cuH cl a).toInt = (cuH cl b).toInt ∧ (cuL cl b).toInt < (cuL cl a).toInt)) := by
  unfold gbf
  rw [Int32.lt_iff_toInt_lt, Int32.lt_iff_toInt_lt, ← Int32.toInt_inj]
theorem bf_trans {cl : List Ct} {a b c : Nat} (h1 : bf cl a b) (h2 : bf cl b c) : bf cl a c := by
  rw [bf_iff] at *
  omega
theorem bf_irr {cl : List Ct} {a : Nat} (h : bf cl a a) : False := by
  rw [bf_iff] at h
  omega
/-- of two, the one with the greater number is laid ahead just if its size is greater -/
theorem bf_gt {cl : List Ct} {a b : Nat} (h : b < a) : (gbf cl a b → bf cl a b) ∧ (¬ gbf cl a b → bf cl b a) := by
  rw [gbf_iff, bf_iff, bf_iff]
  omega
def Blk (cl : List Ct) (f : Nat → Nat) (lo hi : Nat) : Prop := (∀ i, lo ≤ i → i < hi → lo ≤ f i ∧ f i < hi) ∧ (∀ x, lo ≤ x → x < hi → ∃ i, lo ≤ i ∧ i < hi ∧ f i = x) ∧ ∀ i j, lo ≤ i → i < j → j < hi → bf cl (f i) (f j)
theorem Blk.congr {cl : List Ct} {f g : Nat → Nat} {lo hi : Nat} (h : Blk cl f lo hi) (e : ∀ i, lo ≤ i → i < hi → g i = f i) : Blk cl g lo hi := by
  obtain ⟨h1, h2, h3⟩ := h
  refine ⟨fun i a b => by rw [e i a b]; exact h1 i a b, fun x a b => ?_, fun i j a b c => by rw [e i a (by omega), e j (by omega) c]; exact h3 i j a b c⟩
  obtain ⟨i, u1, u2, u3⟩ := h2 x a b
  exact ⟨i, u1, u2, by rw [e i u1 u2, u3]⟩
/-- what the merging has done when it is at `at` -/
def Mg (cl : List Ct) (f g : Nat → Nat) (lo mid hi l r a : Nat) : Prop :=
  lo ≤ l ∧ l ≤ mid ∧ mid ≤ r ∧ r ≤ hi ∧ (l - lo) + (r - mid) = a - lo ∧ lo ≤ a ∧
  (∀ i, lo ≤ i → i < a → (∃ j, lo ≤ j ∧ j < l ∧ g i = f j) ∨ ∃ j, mid ≤ j ∧ j < r ∧ g i = f j) ∧
  (∀ j, (lo ≤ j ∧ j < l) ∨ (mid ≤ j ∧ j < r) → ∃ i, lo ≤ i ∧ i < a ∧ g i = f j) ∧
  (∀ i j, lo ≤ i → i < j → j < a → bf cl (g i) (g j)) ∧
  (∀ i j, lo ≤ i → i < a → l ≤ j → j < mid → bf cl (g i) (f j)) ∧ ∀ i j, lo ≤ i → i < a → r ≤ j → j < hi → bf cl (g i) (f j)
theorem Mg.done {cl : List Ct} {f g : Nat → Nat} {lo mid hi l r : Nat} (h1 : Blk cl f lo mid) (h2 : Blk cl f mid hi) (h : Mg cl f g lo mid hi l r hi) : Blk cl g lo hi := by
  obtain ⟨m1, m2, m3, m4, m5, m6, m7, m8, m9, _⟩ := h
  have hl : l = mid := by omega
  have hr : r = hi := by omega
  subst hl
  subst hr
  refine ⟨fun i a b => ?_, fun x a b => ?_, m9⟩
  · rcases m7 i a b with ⟨j, u1, u2, u3⟩ | ⟨j, u1, u2, u3⟩
    · have := h1.1 j u1 u2; omega
    · have := h2.1 j u1 u2; omega
  · by_cases c : x < l
    · obtain ⟨j, u1, u2, u3⟩ := h1.2.1 x a c
      obtain ⟨i, v1, v2, v3⟩ := m8 j (Or.inl ⟨u1, u2⟩)
      exact ⟨i, v1, v2, by rw [v3, u3]⟩
    · obtain ⟨j, u1, u2, u3⟩ := h2.2.1 x (by omega) b
      obtain ⟨i, v1, v2, v3⟩ := m8 j (Or.inr ⟨u1, u2⟩)
      exact ⟨i, v1, v2, by rw [v3, u3]⟩
theorem Mg.left {cl : List Ct} {f g : Nat → Nat} {lo mid hi l r a : Nat} (h1 : Blk cl f lo mid) (h : Mg cl f g lo mid hi l r a) (hl : l < mid) (hc : r < hi → bf cl (f l) (f r)) (h2 : Blk cl f mid hi) : Mg cl f (fun i => if i = a then f l else g i) lo mid hi (l + 1) r (a + 1) := by
  obtain ⟨m1, m2, m3, m4, m5, m6, m7, m8, m9, m10, m11⟩ := h
  refine ⟨by omega, by omega, m3, m4, by omega, by omega, fun i b1 b2 => ?_, fun j b => ?_, fun i j b1 b2 b3 => ?_, fun i j b1 b2 b3 b4 => ?_, fun i j b1 b2 b3 b4 => ?_⟩
  · by_cases c : i = a
    · simp only [c, if_true]
      exact Or.inl ⟨l, m1, by omega, rfl⟩
    · simp only [if_neg c]
      rcases m7 i b1 (by omega) with ⟨j, u1, u2, u3⟩ | u
      · exact Or.inl ⟨j, u1, by omega, u3⟩
      · exact Or.inr u
  · by_cases c : j = l
    · exact ⟨a, m6, by omega, by simp [c]⟩
    · obtain ⟨i, u1, u2, u3⟩ := m8 j (by omega)
      exact ⟨i, u1, by omega, by simp only [if_neg (show ¬ i = a by omega)]; exact u3⟩
  · by_cases c : j = a
    · simp only [c, if_true, if_neg (show ¬ i = a by omega)]
      exact m10 i l b1 (by omega) (Nat.le_refl _) hl
    · simp only [if_neg c, if_neg (show ¬ i = a by omega)]
      exact m9 i j b1 b2 (by omega)
  · by_cases c : i = a
    · simp only [c, if_true]
      exact h1.2.2 l j m1 (by omega) b4
    · simp only [if_neg c]
      exact m10 i j b1 (by omega) (by omega) b4
  · by_cases c : i = a
    · simp only [c, if_true]
      by_cases d : j = r
      · rw [d]; exact hc (by omega)
      · exact bf_trans (hc (by omega)) (h2.2.2 r j m3 (by omega) b4)
    · simp only [if_neg c]
      exact m11 i j b1 (by omega) b3 b4
theorem Mg.right {cl : List Ct} {f g : Nat → Nat} {lo mid hi l r a : Nat} (h1 : Blk cl f lo mid) (h : Mg cl f g lo mid hi l r a) (hr : r < hi) (hc : l < mid → bf cl (f r) (f l)) (h2 : Blk cl f mid hi) : Mg cl f (fun i => if i = a then f r else g i) lo mid hi l (r + 1) (a + 1) := by
  obtain ⟨m1, m2, m3, m4, m5, m6, m7, m8, m9, m10, m11⟩ := h
  refine ⟨m1, m2, by omega, by omega, by omega, by omega, fun i b1 b2 => ?_, fun j b => ?_, fun i j b1 b2 b3 => ?_, fun i j b1 b2 b3 b4 => ?_, fun i j b1 b2 b3 b4 => ?_⟩
  · by_cases c : i = a
    · simp only [c, if_true]
      exact Or.inr ⟨r, m3, by omega, rfl⟩
    · simp only [if_neg c]
      rcases m7 i b1 (by omega) with u | ⟨j, u1, u2, u3⟩
      · exact Or.inl u
      · exact Or.inr ⟨j, u1, by omega, u3⟩
  · by_cases c : j = r
    · exact ⟨a, m6, by omega, by simp [c]⟩
    · obtain ⟨i, u1, u2, u3⟩ := m8 j (by omega)
      exact ⟨i, u1, by omega, by simp only [if_neg (show ¬ i = a by omega)]; exact u3⟩
  · by_cases c : j = a
    · simp only [c, if_true, if_neg (show ¬ i = a by omega)]
      exact m11 i r b1 (by omega) (Nat.le_refl _) hr
    · simp only [if_neg c, if_neg (show ¬ i = a by omega)]
      exact m9 i j b1 b2 (by omega)
  · by_cases c : i = a
    · simp only [c, if_true]
      by_cases d : j = l
      · rw [d]; exact hc (by omega)
      · exact bf_trans (hc (by omega)) (h1.2.2 l j m1 (by omega) b4)
    · simp only [if_neg c]
      exact m10 i j b1 (by omega) b3 b4
  · by_cases c : i = a
    · simp only [c, if_true]
      exact h2.2.2 r j m3 (by omega) b4
    · simp only [if_neg c]
      exact m11 i j b1 (by omega) (by omega) b4
/-- the memory while it sorts: f the order, the sizes -/
def SM (cl : List Ct) (f : Nat → Nat) (N : Mem) : Prop := N 17 1 = nI cl.length ∧ (∀ i, i < cl.length → N 18 i = cuL cl i ∧ N 19 i = cuH cl i) ∧ ∀ i, i < cl.length → N 22 i = nI (f i)
section Mrg
variable {cl : List Ct} {f : Nat → Nat} {N : Mem}
theorem goesBefore_eq (hn : cl.length ≤ 903) (hs : ∀ i, i < cl.length → N 18 i = cuL cl i ∧ N 19 i = cuH cl i) {a b : Nat} (ha : a < cl.length) (hb : b < cl.length) : (gbf cl a b → X0_goesBefore N (nI a) (nI b) = some 1) ∧ (¬ gbf cl a b → X0_goesBefore N (nI a) (nI b) = some 0) := by
  obtain ⟨a1, a2⟩ := hs a ha
  obtain ⟨b1, b2⟩ := hs b hb
  have base : X0_goesBefore N (nI a) (nI b) = if cuH cl a = cuH cl b then (if cuL cl a ≤ cuL cl b then some 0 else some 1) else (if cuH cl a ≤ cuH cl b then some 0 else some 1) := by
    simp only [X0_goesBefore, X0_goesBefore_j35, X0_goesBefore_j56, ldN (show a < 903 by omega) (show 903 < 2147483648 by decide), ldN (show b < 903 by omega) (show 903 < 2147483648 by decide), a1, a2, b1, b2, chk0, chk1]
  rw [base]
  unfold gbf
  by_cases c1 : cuH cl a = cuH cl b
  · rw [if_pos c1]
    by_cases c2 : cuL cl a ≤ cuL cl b
    · rw [if_pos c2]
      refine ⟨fun h => ?_, fun _ => rfl⟩
      rcases h with h | h
      · rw [c1] at h; exact absurd h (Int32.lt_irrefl)
      · exact absurd h.2 (Int32.not_lt.mpr c2)
    · rw [if_neg c2]
      exact ⟨fun _ => rfl, fun h => absurd (Or.inr ⟨c1, Int32.not_le.mp c2⟩) h⟩
  · rw [if_neg c1]
    by_cases c2 : cuH cl a ≤ cuH cl b
    · rw [if_pos c2]
      refine ⟨fun h => ?_, fun _ => rfl⟩
      rcases h with h | h
      · exact absurd h (Int32.not_lt.mpr c2)
      · exact absurd h.1 c1
    · rw [if_neg c2]
      exact ⟨fun _ => rfl, fun h => absurd (Or.inl (Int32.not_le.mp c2)) h⟩
theorem merge_eq (hn : cl.length ≤ 903) (hs : SM cl f N) {lo mid hi : Nat} (h1 : lo ≤ mid) (h2 : mid ≤ hi) (h3 : hi ≤ cl.length) (b1 : Blk cl f lo mid) (b2 : Blk cl f mid hi) : ∃ N' g, X0_merge N (nI lo) (nI mid) (nI hi) = some N' ∧ (∀ k i, ¬ (k = 23 ∧ lo ≤ i ∧ i < hi) → N' k i = N k i) ∧ (∀ i, lo ≤ i → i < hi → N' 23 i = nI (g i)) ∧ Blk cl g lo hi := by
  obtain ⟨ex, q1, g, q2, q3, q4⟩ := loop_inv (B := X0_merge_L9 (nI mid) (nI hi)) (fun d st => ∃ l r g, st.1 = nI l ∧ st.2.1 = nI r ∧ st.2.2.1 = nI (lo + d) ∧ (∀ k i, ¬ (k = 23 ∧ lo ≤ i ∧ i < hi) → st.2.2.2 k i = N k i) ∧ (∀ i, lo ≤ i → i < lo + d → st.2.2.2 23 i = nI (g i)) ∧ Mg cl f g lo mid hi l r (lo + d)) (Q := fun N' => ∃ g, (∀ k i, ¬ (k = 23 ∧ lo ≤ i ∧ i < hi) → N' k i = N k i) ∧ (∀ i, lo ≤ i → i < hi → N' 23 i = nI (g i)) ∧ Blk cl g lo hi) (hi - lo) 0 (hi - lo) 3000 (by omega) (by omega)
    (by
      rintro d ⟨c1, c2, c3, N1⟩ hd ⟨l, r, g, e1, e2, e3, e4, e5, e6⟩
      simp only at e1 e2 e3 e4 e5
      subst e1
      subst e2
      subst e3
      have e6' := e6
      obtain ⟨m1, m2, m3, m4, m5, m6, _⟩ := e6
      have s22 : ∀ i, i < cl.length → N1 22 i = nI (f i) := fun i hi => by rw [e4 22 i (by omega)]; exact hs.2.2 i hi
      have sz : ∀ i, i < cl.length → N1 18 i = cuL cl i ∧ N1 19 i = cuH cl i := fun i hi => by rw [e4 18 i (by omega), e4 19 i (by omega)]; exact hs.2.1 i hi
      have tl : l < mid → X0_merge_L9_j92 N1 (nI mid) (nI hi) (nI l) (nI r) (nI (lo + d)) = some (.inl (nI (l + 1), nI r, nI (lo + (d + 1)), wr N1 23 (lo + d) (nI (f l)))) := by
        intro hl
        unfold X0_merge_L9_j92 X0_merge_L9_j109
        rw [ldN (show l < 903 by omega) (by decide), stoN (show lo + d < 903 by omega) (by decide), s22 l (by omega), bnd_s, bnd_s, nI_1, nI_1, Nat.add_assoc]
      have tr : r < hi → X0_merge_L9_j72 N1 (nI mid) (nI hi) (nI l) (nI r) (nI (lo + d)) = some (.inl (nI l, nI (r + 1), nI (lo + (d + 1)), wr N1 23 (lo + d) (nI (f r)))) := by
        intro hr
        unfold X0_merge_L9_j72 X0_merge_L9_j109
        rw [ldN (show r < 903 by omega) (by decide), stoN (show lo + d < 903 by omega) (by decide), s22 r (by omega), bnd_s, bnd_s, nI_1, nI_1, Nat.add_assoc]
      have fin : ∀ (v : Nat) (l' r' : Nat), X0_merge_L9 (nI mid) (nI hi) (nI l, nI r, nI (lo + d), N1) = some (.inl (nI l', nI r', nI (lo + (d + 1)), wr N1 23 (lo + d) (nI v))) → Mg cl f (fun i => if i = lo + d then v else g i) lo mid hi l' r' (lo + d + 1) → ∃ st', X0_merge_L9 (nI mid) (nI hi) (nI l, nI r, nI (lo + d), N1) = some (.inl st') ∧ ∃ l r g, st'.1 = nI l ∧ st'.2.1 = nI r ∧ st'.2.2.1 = nI (lo + (d + 1)) ∧ (∀ k i, ¬ (k = 23 ∧ lo ≤ i ∧ i < hi) → st'.2.2.2 k i = N k i) ∧ (∀ i, lo ≤ i → i < lo + (d + 1) → st'.2.2.2 23 i = nI (g i)) ∧ Mg cl f g lo mid hi l r (lo + (d + 1)) := by
        intro v l' r' u1 u2
        refine ⟨_, u1, l', r', _, rfl, rfl, rfl, fun k i hk => ?_, fun i w1 w2 => ?_, u2⟩
        · show wr N1 23 (lo + d) (nI v) k i = N k i
          rw [wr_ne (by omega), e4 k i hk]
        · show wr N1 23 (lo + d) (nI v) 23 i = nI (if i = lo + d then v else g i)
          by_cases c : i = lo + d
          · rw [c, wr_at, if_pos ⟨rfl, rfl⟩, if_pos rfl]
          · rw [wr_ne (by omega), if_neg c]
            exact e5 i w1 (by omega)
      have g0 : ¬ nI hi ≤ nI (lo + d) := nI_ge (by omega) (by omega)
      have gl : (nI mid ≤ nI l) = (mid ≤ l) := nI_le_iff (by omega) (by omega)
      have gr : (nI hi ≤ nI r) = (hi ≤ r) := nI_le_iff (by omega) (by omega)
      by_cases zr : r < hi
      · by_cases zl : l < mid
        · have fl1 := b1.1 l m1 zl
          have fr1 := b2.1 r m3 zr
          have gb := goesBefore_eq hn sz (a := f r) (b := f l) (by omega) (by omega)
          have base : X0_merge_L9 (nI mid) (nI hi) (nI l, nI r, nI (lo + d), N1) = bd1 (X0_goesBefore N1 (nI (f r)) (nI (f l))) (fun t8 => if t8 = 0 then (X0_merge_L9_j92 N1 (nI mid) (nI hi) (nI l) (nI r) (nI (lo + d))) else (X0_merge_L9_j72 N1 (nI mid) (nI hi) (nI l) (nI r) (nI (lo + d)))) := by
            simp only [X0_merge_L9, X0_merge_L9_j26, X0_merge_L9_j39, un4_s, if_neg g0, gl, gr, if_neg (show ¬ mid ≤ l by omega), if_neg (show ¬ hi ≤ r by omega), i10, if_false, ldN (show r < 903 by omega) (show 903 < 2147483648 by decide), ldN (show l < 903 by omega) (show 903 < 2147483648 by decide), s22 r (by omega), s22 l (by omega)]
          by_cases zg : gbf cl (f r) (f l)
          · refine fin (f r) l (r + 1) ?_ (e6'.right b1 zr (fun _ => (bf_gt (by omega)).1 zg) b2)
            rw [base, gb.1 zg, bd1_s, if_neg (by decide), tr zr]
          · refine fin (f l) (l + 1) r ?_ (e6'.left b1 zl (fun _ => (bf_gt (by omega)).2 zg) b2)
            rw [base, gb.2 zg, bd1_s, if_pos rfl, tl zl]
        · refine fin (f r) l (r + 1) ?_ (e6'.right b1 zr (fun e => absurd e zl) b2)
          simp only [X0_merge_L9, X0_merge_L9_j26, X0_merge_L9_j39, un4_s, if_neg g0, gl, gr, if_pos (show mid ≤ l by omega), if_neg (show ¬ hi ≤ r by omega), i10, if_false, if_true, tr zr]
      · have zl : l < mid := by omega
        refine fin (f l) (l + 1) r ?_ (e6'.left b1 zl (fun e => absurd e zr) b2)
        simp only [X0_merge_L9, X0_merge_L9_j26, X0_merge_L9_j39, un4_s, if_neg g0, gl, gr, if_neg (show ¬ mid ≤ l by omega), if_pos (show hi ≤ r by omega), if_true, tl zl])
    (by
      rintro ⟨c1, c2, c3, N1⟩ ⟨l, r, g, e1, e2, e3, e4, e5, e6⟩
      simp only at e1 e2 e3 e4 e5
      subst e1
      subst e2
      subst e3
      have eh : lo + (hi - lo) = hi := by omega
      rw [eh] at e5 e6
      refine ⟨N1, ?_, g, e4, e5, e6.done b1 b2⟩
      unfold X0_merge_L9
      rw [un4_s, eh, if_pos (nI_le (Nat.le_refl _) (by omega))])
    (nI lo, nI mid, nI lo, N) ⟨lo, mid, fun _ => 0, rfl, rfl, rfl, fun _ _ _ => rfl, fun i w1 w2 => absurd w2 (by omega), by omega, h1, by omega, h2, by omega, by omega, fun i w1 w2 => absurd w2 (by omega), fun j w => by omega, fun i j w1 w2 w3 => absurd w3 (by omega), fun i j w1 w2 w3 => absurd w2 (by omega), fun i j w1 w2 w3 => absurd w2 (by omega)⟩
  refine ⟨ex, g, ?_, q2, q3, q4⟩
  unfold X0_merge
  rw [q1]
  rfl
end Mrg
