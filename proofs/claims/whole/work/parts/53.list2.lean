/-! the model's sashes and border -/
section Ls2
variable {M N : Mem} {G : Gs} {K : Nat}
theorem mk_gt {a b : Nat} {k : Int32} (h : b < a) (ha : a < 2147483648) : mkC (nI a) (nI b) k = (nI a, nI b, k) := by
  unfold mkC
  simp only [nI_lt_iff (show b < 2147483648 by omega) ha, if_pos h]
theorem l145_0 {l1 a b : Int32} : loop (X5_list_L145 l1 a b 0) 3000 ((0 : Int32), N) = some N := by
  refine loop_out (k := 2999) ?_
  unfold X5_list_L145
  rw [un2_s]
  split
  · rfl
  · rfl
theorem l185_0 {l1 a b : Int32} : loop (X5_list_L185 l1 a b 0) 3000 ((1 : Int32), N) = some N := by
  refine loop_out (k := 2999) ?_
  unfold X5_list_L185
  rw [un2_s]
  split
  · rfl
  · rfl
theorem l257_0 {a b : Int32} : loop (X5_list_L257 a b 0) 3000 ((0 : Int32), N) = some N := by
  refine loop_out (k := 2999) ?_
  unfold X5_list_L257
  rw [un2_s]
  split
  · rfl
  · rfl
theorem l145_1 {l1 : Int32} {m r c w : Nat} (hm : nI r * (nI c - 1) = nI m) (hm3 : m ≤ 30) (hl : G.1.length ≤ 864) (hw : w ≤ 60) (h : CL M N G) (h37 : M 37 0 = nI w) : ∃ N', loop (X5_list_L145 l1 (nI r) (nI c) 1) 3000 ((0 : Int32), N) = some N' ∧ CL M N' (G.1 ++ List.replicate m (108, nI (w + 12), 2), G.2) :=
  loop_inv (B := X5_list_L145 l1 (nI r) (nI c) 1) (fun i st => st.1 = nI i ∧ CL M st.2 (G.1 ++ List.replicate i (108, nI (w + 12), 2), G.2)) m 0 m 3000 (by omega) (by omega)
    (by
      rintro i ⟨c1, N1⟩ hi ⟨e1, e2⟩
      simp only at e1 e2
      subst e1
      obtain ⟨N2, q1, q2⟩ := lcut e2 (by simp; omega) (nI 108) (nI (w + 12)) 2
      rw [mk_gt (by omega) (by omega)] at q2
      have s37 : N1 37 0 = nI w := by rw [e2.1 _ _ (by omega) (by omega) (by omega) (by omega) (by omega)]; exact h37
      refine ⟨(nI (i + 1), N2), ?_, rfl, ?_⟩
      · unfold X5_list_L145
        rw [un2_s, hm, if_neg (nI_ge hi (by omega)), if_neg (by decide), show (0 : Int32) = nI 0 from rfl, ldN (by omega) (by decide), s37, show (12 : Int32) = nI 12 from rfl, nI_add, show (108 : Int32) = nI 108 from rfl, q1, bd1_s, bnd_s, nI_1]
      · rw [List.replicate_succ', ← List.append_assoc]
        exact q2)
    (by
      rintro ⟨c1, N1⟩ ⟨e1, e2⟩
      simp only at e1 e2
      subst e1
      refine ⟨N1, ?_, e2⟩
      unfold X5_list_L145
      rw [un2_s, hm, if_pos (nI_le (Nat.le_refl _) (by omega))])
    (0, N) ⟨rfl, by simpa using h⟩
theorem l185_1 {l1 : Int32} {r c w : Nat} (hK : K ≤ 10) (hT : ToI K M) (hr : r ≤ 6) (hc : c ≤ 6) (hrc : 0 < r → 0 < c) (hl : G.1.length ≤ 894) (hw : w ≤ 60) (h : CL M N G) (h37 : M 37 0 = nI w) (htw : (tp M).2.1 = w) : ∃ N', loop (X5_list_L185 l1 (nI r) (nI c) 1) 3000 ((1 : Int32), N) = some N' ∧ CL M N' (G.1 ++ List.replicate (r - 1) (nI (acN (tp M) c + 12), nI (w + 12), 2), G.2) :=
  loop_inv (B := X5_list_L185 l1 (nI r) (nI c) 1) (fun i st => st.1 = nI (i + 1) ∧ CL M st.2 (G.1 ++ List.replicate i (nI (acN (tp M) c + 12), nI (w + 12), 2), G.2)) (r - 1) 0 (r - 1) 3000 (by omega) (by omega)
    (by
      rintro i ⟨c1, N1⟩ hi ⟨e1, e2⟩
      simp only at e1 e2
      subst e1
      have ac := acN_rng (T := tp M) (show 0 < c by omega) hc (by omega)
      obtain ⟨N2, q1, q2⟩ := lcut e2 (by simp; omega) (nI (acN (tp M) c + 12)) (nI (w + 12)) 2
      rw [mk_gt (by omega) (by omega)] at q2
      have s37 : N1 37 0 = nI w := by rw [e2.1 _ _ (by omega) (by omega) (by omega) (by omega) (by omega)]; exact h37
      have xa := X5_across_eq (e2.to hT) (c := c) (by omega)
      rw [e2.tp hT hK] at xa
      refine ⟨(nI (i + 1 + 1), N2), ?_, rfl, ?_⟩
      · unfold X5_list_L185
        rw [un2_s, if_neg (nI_ge (by omega) (by omega)), if_neg (by decide), xa, bd1_s, show (0 : Int32) = nI 0 from rfl, ldN (by omega) (by decide), s37, show (12 : Int32) = nI 12 from rfl, nI_add, nI_add, q1, bd1_s, bnd_s, nI_1]
      · rw [List.replicate_succ', ← List.append_assoc]
        exact q2)
    (by
      rintro ⟨c1, N1⟩ ⟨e1, e2⟩
      simp only at e1 e2
      subst e1
      refine ⟨N1, ?_, e2⟩
      unfold X5_list_L185
      rw [un2_s, if_pos (nI_le (by omega) (by omega))])
    (1, N) ⟨rfl, by simpa using h⟩
theorem l257_1 {r c w : Nat} (hK : K ≤ 10) (hT : ToI K M) (hr : r ≤ 6) (hc : c ≤ 6) (hr0 : 0 < r) (hc0 : 0 < c) (hl : G.1.length ≤ 990) (hw : w ≤ 60) (h : CL M N G) (h37 : M 37 1 = nI w) (htw : (tp M).2.1 ≤ 60) : ∃ N', loop (X5_list_L257 (nI r) (nI c) 1) 3000 ((0 : Int32), N) = some N' ∧ CL M N' (G.1 ++ (List.replicate 2 (nI (acN (tp M) c + 12), nI (w + 12), 3) ++ List.replicate 2 (nI (acN (tp M) r + 2 * w + 12), nI (w + 12), 3)), G.2) := by
  have ac := acN_rng (T := tp M) hc0 hc (by omega)
  have ar := acN_rng (T := tp M) hr0 hr (by omega)
  have st : ∀ (i : Nat) (N1 : Mem) (G1 : Gs), i < 4 → G1.1.length < 1000 → CL M N1 G1 → ∃ N2, X5_list_L257 (nI r) (nI c) 1 (nI i, N1) = some (.inl (nI (i + 1), N2)) ∧ CL M N2 (G1.1 ++ [if i < 2 then (nI (acN (tp M) c + 12), nI (w + 12), 3) else (nI (acN (tp M) r + 2 * w + 12), nI (w + 12), 3)], G1.2) := by
    intro i N1 G1 hi hG e2
    have s37 : N1 37 1 = nI w := by rw [e2.1 _ _ (by omega) (by omega) (by omega) (by omega) (by omega)]; exact h37
    have xc := X5_across_eq (e2.to hT) (c := c) (by omega)
    have xr := X5_across_eq (e2.to hT) (c := r) (by omega)
    rw [e2.tp hT hK] at xc xr
    have g4 : ¬ (4 : Int32) ≤ nI i := nI_ge (b := 4) hi (by decide)
    have g2 : ((2 : Int32) ≤ nI i) = (2 ≤ i) := nI_le_iff (a := 2) (by decide) (by omega)
    unfold X5_list_L257 X5_list_L257_j303
    rw [un2_s, if_neg g4, if_neg (by decide)]
    simp only [g2]
    by_cases z : 2 ≤ i
    · obtain ⟨N2, q1, q2⟩ := lcut e2 hG (nI (acN (tp M) r + 2 * w + 12)) (nI (w + 12)) 3
      rw [mk_gt (by omega) (by omega)] at q2
      refine ⟨N2, ?_, ?_⟩
      · rw [if_pos z, xr, bd1_s, one_eq, ldN (by omega) (by decide), s37, ldN (by omega) (by decide), s37, show (12 : Int32) = nI 12 from rfl, show (2 : Int32) = nI 2 from rfl, nI_mul, nI_add, nI_add, nI_add, q1, bd1_s, bnd_s, nI_add]
      · rw [if_neg (by omega)]
        exact q2
    · obtain ⟨N2, q1, q2⟩ := lcut e2 hG (nI (acN (tp M) c + 12)) (nI (w + 12)) 3
      rw [mk_gt (by omega) (by omega)] at q2
      refine ⟨N2, ?_, ?_⟩
      · rw [if_neg z, xc, bd1_s, one_eq, ldN (by omega) (by decide), s37, show (12 : Int32) = nI 12 from rfl, nI_add, nI_add, q1, bd1_s, bnd_s, nI_add]
      · rw [if_pos (by omega)]
        exact q2
  obtain ⟨N1, a1, a2⟩ := st 0 N G (by omega) (by omega) h
  obtain ⟨N2, b1, b2⟩ := st 1 N1 _ (by omega) (by simp; omega) a2
  obtain ⟨N3, c1, c2⟩ := st 2 N2 _ (by omega) (by simp; omega) b2
  obtain ⟨N4, d1, d2⟩ := st 3 N3 _ (by omega) (by simp; omega) c2
  refine ⟨N4, ?_, ?_⟩
  · rw [show (0 : Int32) = nI 0 from rfl, loop_in (k := 2999) a1, loop_in (k := 2998) b1, loop_in (k := 2997) c1, loop_in (k := 2996) d1]
    refine loop_out (k := 2995) ?_
    unfold X5_list_L257
    rw [un2_s, if_pos (by decide)]
  · simpa [List.append_assoc] using d2
theorem X5_list_eq (hK : K ≤ 10) (hco : ∀ j, j < K → COkM M j ∧ Rg (vm M j)) (hT : ToI K M) {c : Nat} (hc : c < 12) : ∃ N' hf, X5_list M (nI c) = some N' ∧ CL M N' (cuts (tp M) c, hf) := by
  obtain ⟨w0, k0, a1, a2, a3, a4, a5, a6⟩ := hT.wd (i := 0) (by omega)
  obtain ⟨w1, k1, b1, b2, b3, b4, b5, b6⟩ := hT.wd (i := 1) (by omega)
  obtain ⟨t1, t2, t3, t4⟩ := tp_w a1 a2 b1 b2 a4 a6 b4 b6
  have h0 : CL M (clrN (wr M 27 14 0) 43 0 97) ([], fun _ => false) := by
    refine ⟨fun k i b1 b2 b3 b4 b5 => ?_, ?_, fun i hi => absurd hi (by simp), fun e he => ?_⟩
    · rw [clrN_at, if_neg (by omega), wr_ne b5]
    · rw [clrN_at, if_neg (by omega), wr_at, if_pos ⟨rfl, rfl⟩]; rfl
    · rw [clrN_at, if_pos (by omega)]; rfl
  have l7 : loop (X5_list_L7 (nI c)) 3000 ((0 : Int32), wr M 27 14 0) = some (clrN (wr M 27 14 0) 43 0 97) := by
    refine loop_for (fun i => (nI i, clrN (wr M 27 14 0) 43 0 i)) 97 (by omega) (fun i hi => ?_) (by simp only [X5_list_L7, un2_s]; rfl)
    simp only [X5_list_L7, un2_s, if_neg (show ¬ (97 : Int32) ≤ nI i from nI_ge (b := 97) hi (by decide)), chk0, stoN hi (by decide), bnd_s, nI_1, clrN, Nat.zero_add]
  obtain ⟨N1, q1, q2⟩ := lplaces hK hco hT (c := c) h0
  have hl1 := plN_len (tp M) c 36
  have ur := X5_rows_eq hK (q2.to hT)
  have uc := X5_columns_eq hK (q2.to hT)
  rw [q2.tp hT hK] at ur uc
  have hr6 := rw36 (tp M)
  have hc6 := clN_le (tp M) 36
  have hp0 := pc0 (tp M) 36
  have n37 : N1 37 0 = nI w0 := by rw [q2.1 _ _ (by omega) (by omega) (by omega) (by omega) (by omega)]; exact a4
  have n38 : N1 38 0 = nI k0 := by rw [q2.1 _ _ (by omega) (by omega) (by omega) (by omega) (by omega)]; exact a6
  have hls := sash_len (T := tp M) (c := c)
  -- the border
  have bord : ∀ (N2 : Mem) (G2 : Gs), G2.1.length ≤ 899 → CL M N2 G2 → ∃ N3, X5_list_j224 N2 (nI c) (nI (rwN (tp M) 36)) (nI (clN (tp M) 36)) = some N3 ∧ CL M N3 (G2.1 ++ bordL (tp M) c, G2.2) := by
    intro N2 G2 hG e2
    have m37 : N2 37 1 = nI w1 := by rw [e2.1 _ _ (by omega) (by omega) (by omega) (by omega) (by omega)]; exact b4
    have m38 : N2 38 1 = nI k1 := by rw [e2.1 _ _ (by omega) (by omega) (by omega) (by omega) (by omega)]; exact b6
    unfold X5_list_j224 X5_list_j251 bordL
    rw [t2, t4, one_eq, ldN (by omega) (by decide), m37, ldN (by omega) (by decide), m38, show (0 : Int32) = nI 0 from rfl]
    simp only [nI_le_iff (show w1 < 2147483648 by omega) (show 0 < 2147483648 by omega), nI_eq_iff (show k1 < 2147483648 by omega) (show c < 2147483648 by omega), nI_le_iff (show rwN (tp M) 36 < 2147483648 by omega) (show 0 < 2147483648 by omega)]
    have no : ∃ N3, X5_list_j252 N2 (nI (rwN (tp M) 36)) (nI (clN (tp M) 36)) (nI 0) = some N3 ∧ CL M N3 (G2.1 ++ [], G2.2) := by
      refine ⟨N2, ?_, by simpa using e2⟩
      unfold X5_list_j252
      rw [show nI 0 = 0 from rfl, l257_0]
      rfl
    by_cases z1 : w1 ≤ 0
    · rw [if_pos z1, if_neg (by omega)]; exact no
    · rw [if_neg z1]
      by_cases z2 : k1 = c
      · rw [if_pos z2]
        by_cases z3 : rwN (tp M) 36 ≤ 0
        · rw [if_pos z3, if_neg (by omega)]; exact no
        · rw [if_neg z3, if_pos ⟨by omega, z2, by omega⟩]
          obtain ⟨N3, u1, u2⟩ := l257_1 hK hT hr6 hc6 (by omega) (by omega) (by omega) b1 e2 b4 (by omega)
          refine ⟨N3, ?_, u2⟩
          unfold X5_list_j252
          rw [show nI 1 = 1 from rfl, u1]
          rfl
      · rw [if_neg z2, if_neg (fun e => z2 e.2.1)]; exact no
  unfold X5_list
  rw [bnd_s, l7, bd1_s, q1, bd1_s, ur, bd1_s, uc, bd1_s, show (0 : Int32) = nI 0 from rfl, ldN (by omega) (by decide), n37, ldN (by omega) (by decide), n38]
  simp only [nI_le_iff (show w0 < 2147483648 by omega) (show 0 < 2147483648 by omega), nI_eq_iff (show k0 < 2147483648 by omega) (show c < 2147483648 by omega)]
  have nos : sashL (tp M) c = [] → ∃ N' hf, X5_list_j139 N1 (nI c) (nI (rwN (tp M) 36)) (nI (clN (tp M) 36)) = some N' ∧ CL M N' (cuts (tp M) c, hf) := by
    intro es
    obtain ⟨N3, u1, u2⟩ := bord N1 _ (by omega) q2
    refine ⟨N3, (plN (tp M) c 36).2, ?_, ?_⟩
    · unfold X5_list_j139 X5_list_j140 X5_list_j182
      rw [l145_0, bd1_s, l185_0, bd1_s, u1]
    · unfold cuts
      rw [es, List.nil_append]
      exact u2
  by_cases z1 : w0 ≤ 0
  · rw [if_pos z1]
    exact nos (by unfold sashL; rw [t1, if_neg (by omega)])
  · rw [if_neg z1]
    by_cases z2 : k0 = c
    · rw [if_pos z2]
      have hm : nI (rwN (tp M) 36) * (nI (clN (tp M) 36) - 1) = nI (rwN (tp M) 36 * (clN (tp M) 36 - 1)) := by
        by_cases z3 : clN (tp M) 36 = 0
        · have : rwN (tp M) 36 = 0 := by omega
          rw [z3, this]; rfl
        · rw [one_eq, nI_sub (by omega), nI_mul]
      have hle : rwN (tp M) 36 * (clN (tp M) 36 - 1) ≤ 30 := Nat.le_trans (Nat.mul_le_mul hr6 (show clN (tp M) 36 - 1 ≤ 5 by omega)) (by omega)
      obtain ⟨N2, v1, v2⟩ := l145_1 (l1 := nI c) hm hle (by omega) a1 q2 a4
      obtain ⟨N3, x1, x2⟩ := l185_1 (l1 := nI c) hK hT hr6 hc6 (by omega) (by simp; omega) a1 v2 a4 t1
      have es : sashL (tp M) c = List.replicate (rwN (tp M) 36 * (clN (tp M) 36 - 1)) (108, nI (w0 + 12), 2) ++ List.replicate (rwN (tp M) 36 - 1) (nI (acN (tp M) (clN (tp M) 36) + 12), nI (w0 + 12), 2) := by
        unfold sashL
        rw [t1, t3, if_pos ⟨by omega, z2⟩]
      rw [List.append_assoc, ← es] at x2
      obtain ⟨N4, y1, y2⟩ := bord N3 _ (by simp; omega) x2
      refine ⟨N4, (plN (tp M) c 36).2, ?_, ?_⟩
      · unfold X5_list_j140 X5_list_j182
        rw [v1, bd1_s, x1, bd1_s, y1]
      · unfold cuts
        rw [← List.append_assoc]
        exact y2
    · rw [if_neg z2]
      exact nos (by unfold sashL; rw [t3, if_neg (fun e => z2 e.2)])
end Ls2
