/-! seam, place, frame, count, area -/
theorem nI_lt_iff {a b : Nat} (ha : a < 2147483648) (hb : b < 2147483648) : (nI a < nI b) = (a < b) := by
  rw [Int32.lt_iff_toInt_lt, nI_toInt ha, nI_toInt hb]
  exact propext (by omega)
theorem nI_le_iff {a b : Nat} (ha : a < 2147483648) (hb : b < 2147483648) : (nI a ≤ nI b) = (a ≤ b) := by
  rw [Int32.le_iff_toInt_le, nI_toInt ha, nI_toInt hb]
  exact propext (by omega)
theorem nI_eq_iff {a b : Nat} (ha : a < 2147483648) (hb : b < 2147483648) : (nI a = nI b) = (a = b) := by
  rw [← Int32.toInt_inj, nI_toInt ha, nI_toInt hb]
  exact propext (by omega)
theorem nI_m1 {a : Nat} (ha : a < 2147483648) : (nI a = -1) = False := by
  refine eq_false (fun h => ?_)
  have := congrArg Int32.toInt h
  rw [nI_toInt ha] at this
  have e : (-1 : Int32).toInt = -1 := rfl
  omega
theorem ite_wn1 {α : Type} {a b : Int32} {A B : α} (L : Nat) (hb : b = nI L) (hL : L < 2147483648) (h : Wn a L) : (if a < 0 then A else if b ≤ a then A else B) = B := by
  obtain ⟨i, hi, rfl⟩ := h
  subst hb
  rw [if_neg (by rw [show (0 : Int32) = nI 0 from rfl, nI_lt_iff (by omega) (by omega)]; omega), if_neg (by rw [nI_le_iff (by omega) (by omega)]; omega)]
theorem ite_wn0 {α : Type} {a b : Int32} {A B : α} (L : Nat) (hb : b = nI L) (hL : L < 2147483648) (h : ¬ Wn a L) : (if a < 0 then A else if b ≤ a then A else B) = A := by
  rw [Wn_iff hL] at h
  subst hb
  by_cases c : a < 0
  · rw [if_pos c]
  · rw [if_neg c]
    rw [Int32.lt_iff_toInt_lt, show (0 : Int32).toInt = 0 from rfl] at c
    rw [if_pos (by rw [Int32.le_iff_toInt_le, nI_toInt hL]; omega)]
theorem st_seam {n : Nat} {M : Mem} {a1 a2 a3 a4 : Int32} (h : INV n M) : ∃ g M2, St 7 n M a1 a2 a3 a4 g M2 ∧ INV (n + g) M2 := by
  have hI := h
  obtain ⟨K, k1, k2, _, ⟨S, s1, s2, s3, s4⟩, _⟩ := h
  by_cases h1 : Wn a1 S
  · by_cases h2 : Wn a2 4
    · obtain ⟨i, hi, rfl⟩ := h1
      obtain ⟨w, hw, rfl⟩ := h2
      refine ⟨0, wr (wr M 48 0 (M 9 (4 * i + w))) 27 0 0, ⟨0, wr M 48 0 (M 9 (4 * i + w)), M 9 (4 * i + w), Or.inl ⟨_, M, ?_, rfl, rfl, rfl⟩, ?_, th_at, fun _ => by rw [wr_ne (by omega), ou_at]⟩, hI.ou.th⟩
      · simp only [X4_seam, w4_1 (b := M 6 3) S s2 (by omega) ⟨i, hi, rfl⟩, w4_1 (b := 4) 4 rfl (by decide) ⟨w, hw, rfl⟩, bd1_s, i10, if_false]
        rw [show nI i * 4 + nI w = nI (4 * i + w) by rw [show (4 : Int32) = nI 4 from rfl, nI_mul, nI_add, Nat.mul_comm], ldN (by omega) (by decide)]
      · rw [X5_seam, ite_wn1 S (by rw [wr_ne (by omega)]; exact s3) (by omega) ⟨i, hi, rfl⟩]
        simp only [X5_seam_j18, X5_seam_j44, w5_1 (b := 3) 3 rfl (by decide) ⟨w, hw, rfl⟩, bd1_s, bd2_s, goes_0, i10, if_false]
        rw [show 4 * nI i + nI w = nI (4 * i + w) by rw [show (4 : Int32) = nI 4 from rfl, nI_mul, nI_add], ldN (by omega) (by decide), wr_ne (by omega), wr_ne (by omega), s4 _ (by omega)]
    · refine ⟨0, wr M 27 0 2, ⟨2, M, 0, Or.inr (Or.inr ⟨M, ?_, rfl, rfl, rfl⟩), ?_, th_at, fun e => absurd e (by decide)⟩, hI.th⟩
      · simp only [X4_seam, w4_1 (b := M 6 3) S s2 (by omega) h1, w4_0 (b := 4) 4 rfl (by decide) h2, bd1_s, i10, if_false, if_true]
      · rw [X5_seam, ite_wn1 S s3 (by omega) h1]
        simp only [X5_seam_j18, X5_seam_j44, w5_0 (b := 3) 3 rfl (by decide) h2, bd1_s, bd2_s, goes_2, if_true]
  · refine ⟨0, wr M 27 0 1, ⟨1, M, 0, Or.inr (Or.inl ⟨M, ?_, rfl, rfl, rfl⟩), ?_, th_at, fun e => absurd e (by decide)⟩, hI.th⟩
    · simp only [X4_seam, w4_0 (b := M 6 3) S s2 (by omega) h1, bd1_s, if_true]
    · rw [X5_seam, ite_wn0 S s3 (by omega) h1]
      by_cases h2 : Wn a2 4
      · simp only [X5_seam_j17, X5_seam_j18, X5_seam_j44, w5_1 (b := 3) 3 rfl (by decide) h2, bd1_s, bd2_s, goes_1, if_true]
      · simp only [X5_seam_j17, X5_seam_j18, X5_seam_j44, w5_0 (b := 3) 3 rfl (by decide) h2, bd1_s, bd2_s, goes_1, if_true]
theorem INV.top {n K : Nat} {M N : Mem} (h : INV n M) (hn : n = 49 + 5 * K) (hc : Ch (fun r => r = 0 ∨ r = 4 ∨ r = 5) M N) (hT : ToI K N) (hC : CuI N) : INV n N := by
  obtain ⟨K', k1, k2, h1, h2, h3, h4, h5⟩ := h
  have : K' = K := by omega
  subst this
  exact ⟨K', k1, k2, h1.keep hc (by decide), h2.keep hc (by decide), h3.keep hc (by decide) k1, hT, hC⟩
theorem st_place {n : Nat} {M : Mem} {a1 a2 a3 a4 : Int32} (h : INV n M) : ∃ g M2, St 9 n M a1 a2 a3 a4 g M2 ∧ INV (n + g) M2 := by
  have hI := h
  obtain ⟨K, k1, k2, _, _, ⟨e10, e27, _⟩, hT, _⟩ := h
  have mdl : ∀ N : Mem, N 27 1 = nI K → (Wn a1 6 ∧ Wn a2 6 ∧ (a3 = -1 ∨ Wn a3 K) → X5_place N a1 a2 a3 a4 = X5_place_j37 N a1 a2 a3 a4 1) ∧ (¬ (Wn a1 6 ∧ Wn a2 6 ∧ (a3 = -1 ∨ Wn a3 K)) → X5_place N a1 a2 a3 a4 = X5_place_j37 N a1 a2 a3 a4 0) := by
    intro N hN
    have eB : (a3 = -1 ∨ Wn a3 K) ↔ ¬ a3 < -1 ∧ ¬ nI K ≤ a3 := by
      rw [Wn_iff (by omega), Int32.lt_iff_toInt_lt, Int32.le_iff_toInt_le, nI_toInt (by omega), ← Int32.toInt_inj, show (-1 : Int32).toInt = -1 from rfl]
      omega
    refine ⟨fun ⟨q1, q2, q3⟩ => ?_, fun q => ?_⟩
    · simp only [X5_place, w5_1 (b := 5) 5 rfl (by decide) q1, w5_1 (b := 5) 5 rfl (by decide) q2, bd1_s, i10, if_false, hN, if_neg (eB.mp q3).1, if_neg (eB.mp q3).2]
    · by_cases q1 : Wn a1 6
      · by_cases q2 : Wn a2 6
        · simp only [X5_place, X5_place_j36, w5_1 (b := 5) 5 rfl (by decide) q1, w5_1 (b := 5) 5 rfl (by decide) q2, bd1_s, i10, if_false, hN]
          by_cases c1 : a3 < -1
          · rw [if_pos c1]
          · rw [if_neg c1]
            by_cases c2 : nI K ≤ a3
            · rw [if_pos c2]
            · exact absurd ⟨q1, q2, eB.mpr ⟨c1, c2⟩⟩ q
        · simp only [X5_place, X5_place_j36, w5_1 (b := 5) 5 rfl (by decide) q1, w5_0 (b := 5) 5 rfl (by decide) q2, bd1_s, i10, if_false, if_true]
      · simp only [X5_place, X5_place_j36, w5_0 (b := 5) 5 rfl (by decide) q1, bd1_s, if_true]
  by_cases h1 : Wn a1 6 ∧ Wn a2 6 ∧ (a3 = -1 ∨ Wn a3 K)
  · have e4 : X4_place M a1 a2 a3 a4 = X4_place_j50 M a1 a2 a3 a4 1 := by
      simp only [X4_place, X4_place_j23, X4_place_j45, w4_1 (b := 6) 6 rfl (by decide) h1.1, w4_1 (b := 6) 6 rfl (by decide) h1.2.1, bd1_s, i10, if_false]
      rcases h1.2.2 with q | q
      · rw [if_pos q]
      · simp only [w4_1 (b := M 10 1) K e10 (by omega) q, bd1_s, i10, if_false]
        split <;> rfl
    by_cases h2 : Wn a4 8
    · have h3 := h1.2.2
      have hm := fun N hN => (mdl N hN).1 h1
      obtain ⟨⟨r, hr, rfl⟩, ⟨c, hc, rfl⟩, _⟩ := h1
      have ix1 : nI r * 6 + nI c = nI (6 * r + c) := by rw [show (6 : Int32) = nI 6 from rfl, nI_mul, nI_add, Nat.mul_comm]
      have ix2 : 6 * nI r + nI c = nI (6 * r + c) := by rw [show (6 : Int32) = nI 6 from rfl, nI_mul, nI_add]
      refine ⟨0, wr (wr (wr (wr (wr (wr (wr M 12 (6 * r + c) a3) 13 (6 * r + c) a4) 17 0 (-1)) 48 0 (M 12 (6 * r + c))) 27 0 0) 35 (6 * r + c) a3) 36 (6 * r + c) a4, ⟨0, wr (wr (wr (wr M 12 (6 * r + c) a3) 13 (6 * r + c) a4) 17 0 (-1)) 48 0 (M 12 (6 * r + c)), M 12 (6 * r + c), Or.inl ⟨_, wr (wr (wr M 12 (6 * r + c) a3) 13 (6 * r + c) a4) 17 0 (-1), ?_, rfl, rfl, rfl⟩, ?_, ?_, fun _ => ?_⟩, ?_⟩
      · rw [e4]
        simp only [X4_place_j50, w4_1 (b := 8) 8 rfl (by decide) h2, bd1_s, bnd_s, i10, if_false, ix1, ldN (show 6 * r + c < 36 by omega) (by decide), stoN (show 6 * r + c < 36 by omega) (by decide), X0_forget]
      · rw [hm _ (by rw [wr_ne (by omega), wr_ne (by omega), wr_ne (by omega), wr_ne (by omega)]; exact e27)]
        simp only [X5_place_j37, w5_1 (b := 7) 7 rfl (by decide) h2, bd1_s, bd2_s, goes_0, bnd_s, i10, if_false, ix2, ldN (show 6 * r + c < 36 by omega) (by decide), stoN (show 6 * r + c < 36 by omega) (by decide)]
        rw [wr_ne (by omega), wr_ne (by omega), wr_ne (by omega), wr_ne (by omega), wr_ne (by omega), (hT.1 _ (by omega)).1]
      · rw [wr_ne (by omega), wr_ne (by omega), th_at]
      · rw [wr_ne (by omega), wr_ne (by omega), wr_ne (by omega), ou_at]
      · refine hI.top k2 ?_ ⟨fun i hi => ?_, fun i hi => ?_⟩ (Or.inl ?_)
        · refine Ch.wr (Ch.wr (Ch.wr (Ch.wr (Ch.wr (Ch.wr (Ch.wr Ch.rfl' ?_) ?_) ?_) ?_) ?_) ?_) ?_
          all_goals (unfold reg; simp)
        · by_cases e : i = 6 * r + c
          · subst e
            have e12 : (wr (wr (wr (wr (wr (wr (wr M 12 (6 * r + c) a3) 13 (6 * r + c) a4) 17 0 (-1)) 48 0 (M 12 (6 * r + c))) 27 0 0) 35 (6 * r + c) a3) 36 (6 * r + c) a4) 12 (6 * r + c) = a3 := by
              repeat rw [wr_ne (by omega)]
              rw [wr_at, if_pos ⟨rfl, rfl⟩]
            have e13 : (wr (wr (wr (wr (wr (wr (wr M 12 (6 * r + c) a3) 13 (6 * r + c) a4) 17 0 (-1)) 48 0 (M 12 (6 * r + c))) 27 0 0) 35 (6 * r + c) a3) 36 (6 * r + c) a4) 13 (6 * r + c) = a4 := by
              repeat rw [wr_ne (by omega)]
              rw [wr_at, if_pos ⟨rfl, rfl⟩]
            have e35 : (wr (wr (wr (wr (wr (wr (wr M 12 (6 * r + c) a3) 13 (6 * r + c) a4) 17 0 (-1)) 48 0 (M 12 (6 * r + c))) 27 0 0) 35 (6 * r + c) a3) 36 (6 * r + c) a4) 35 (6 * r + c) = a3 := by
              repeat rw [wr_ne (by omega)]
              rw [wr_at, if_pos ⟨rfl, rfl⟩]
            have e36 : (wr (wr (wr (wr (wr (wr (wr M 12 (6 * r + c) a3) 13 (6 * r + c) a4) 17 0 (-1)) 48 0 (M 12 (6 * r + c))) 27 0 0) 35 (6 * r + c) a3) 36 (6 * r + c) a4) 36 (6 * r + c) = a4 := by
              rw [wr_at, if_pos ⟨rfl, rfl⟩]
            rw [e12, e13, e35, e36]
            exact ⟨rfl, h3, rfl, h2⟩
          · repeat rw [wr_ne (by omega)]
            exact hT.1 i hi
        · repeat rw [wr_ne (by omega)]
          exact hT.2 i hi
        · repeat rw [wr_ne (by omega)]
          rw [wr_at, if_pos ⟨rfl, rfl⟩]
    · refine ⟨0, wr M 27 0 2, ⟨2, M, 0, Or.inr (Or.inr ⟨M, ?_, rfl, rfl, rfl⟩), ?_, th_at, fun e => absurd e (by decide)⟩, hI.th⟩
      · rw [e4]
        simp only [X4_place_j50, w4_0 (b := 8) 8 rfl (by decide) h2, bd1_s, i10, if_false, if_true]
      · rw [(mdl M e27).1 h1]
        simp only [X5_place_j37, w5_0 (b := 7) 7 rfl (by decide) h2, bd1_s, bd2_s, goes_2, if_true]
  · refine ⟨0, wr M 27 0 1, ⟨1, M, 0, Or.inr (Or.inl ⟨M, ?_, rfl, rfl, rfl⟩), ?_, th_at, fun e => absurd e (by decide)⟩, hI.th⟩
    · by_cases q1 : Wn a1 6
      · by_cases q2 : Wn a2 6
        · have q3 : ¬ (a3 = -1 ∨ Wn a3 K) := fun q => h1 ⟨q1, q2, q⟩
          simp only [X4_place, X4_place_j23, X4_place_j50, w4_1 (b := 6) 6 rfl (by decide) q1, w4_1 (b := 6) 6 rfl (by decide) q2, bd1_s, i10, if_false, if_neg (fun e => q3 (Or.inl e)), w4_0 (b := M 10 1) K e10 (by omega) (fun e => q3 (Or.inr e)), if_true]
        · simp only [X4_place, X4_place_j22, X4_place_j23, w4_1 (b := 6) 6 rfl (by decide) q1, w4_0 (b := 6) 6 rfl (by decide) q2, bd1_s, i10, if_false, if_true]
      · simp only [X4_place, X4_place_j22, X4_place_j23, w4_0 (b := 6) 6 rfl (by decide) q1, bd1_s, if_true]
    · rw [(mdl M e27).2 h1]
      by_cases h2 : Wn a4 8
      · simp only [X5_place_j37, w5_1 (b := 7) 7 rfl (by decide) h2, bd1_s, bd2_s, goes_1, if_true]
      · simp only [X5_place_j37, w5_0 (b := 7) 7 rfl (by decide) h2, bd1_s, bd2_s, goes_1, if_true]
theorem st_frame {n : Nat} {M : Mem} {a1 a2 a3 a4 : Int32} (h : INV n M) : ∃ g M2, St 10 n M a1 a2 a3 a4 g M2 ∧ INV (n + g) M2 := by
  have hI := h
  obtain ⟨K, k1, k2, _, _, _, hT, _⟩ := h
  have mdl : ∀ N : Mem, (Wn a1 2 ∧ Wn a3 12 → X5_frame N a1 a2 a3 = X5_frame_j22 N a1 a2 a3 1) ∧ (¬ (Wn a1 2 ∧ Wn a3 12) → X5_frame N a1 a2 a3 = X5_frame_j22 N a1 a2 a3 0) := by
    intro N
    refine ⟨fun ⟨q1, q2⟩ => ?_, fun q => ?_⟩
    · simp only [X5_frame, w5_1 (b := 1) 1 rfl (by decide) q1, cl_1 q2, bd1_s, i10, if_false]
    · by_cases q1 : Wn a1 2
      · simp only [X5_frame, X5_frame_j21, w5_1 (b := 1) 1 rfl (by decide) q1, cl_0 (fun q2 => q ⟨q1, q2⟩), bd1_s, i10, if_false, if_true]
      · simp only [X5_frame, X5_frame_j21, w5_0 (b := 1) 1 rfl (by decide) q1, bd1_s, if_true]
  by_cases h1 : Wn a1 2 ∧ Wn a3 12
  · have e4 : X4_frame M a1 a2 a3 = X4_frame_j22 M a1 a2 a3 1 := by
      simp only [X4_frame, w4_1 (b := 2) 2 rfl (by decide) h1.1, w4_1 (b := 12) 12 rfl (by decide) h1.2, bd1_s, i10, if_false]
    by_cases h2 : Wn a2 61
    · have hm := fun N => (mdl N).1 h1
      obtain ⟨⟨r, hr, rfl⟩, h3⟩ := h1
      refine ⟨0, wr (wr (wr (wr (wr (wr (wr M 14 r a2) 15 r a3) 17 0 (-1)) 48 0 (M 14 r)) 27 0 0) 37 r a2) 38 r a3, ⟨0, wr (wr (wr (wr M 14 r a2) 15 r a3) 17 0 (-1)) 48 0 (M 14 r), M 14 r, Or.inl ⟨_, wr (wr (wr M 14 r a2) 15 r a3) 17 0 (-1), ?_, rfl, rfl, rfl⟩, ?_, ?_, fun _ => ?_⟩, ?_⟩
      · rw [e4]
        simp only [X4_frame_j22, w4_1 (b := 61) 61 rfl (by decide) h2, bd1_s, bnd_s, i10, if_false, ldN hr (by decide), stoN hr (by decide), X0_forget]
      · rw [hm]
        simp only [X5_frame_j22, w5_1 (b := 60) 60 rfl (by decide) h2, bd1_s, bd2_s, goes_0, bnd_s, i10, if_false, ldN hr (by decide), stoN hr (by decide)]
        rw [wr_ne (by omega), wr_ne (by omega), wr_ne (by omega), wr_ne (by omega), wr_ne (by omega), (hT.2 _ (by omega)).1]
      · rw [wr_ne (by omega), wr_ne (by omega), th_at]
      · rw [wr_ne (by omega), wr_ne (by omega), wr_ne (by omega), ou_at]
      · refine hI.top k2 ?_ ⟨fun i hi => ?_, fun i hi => ?_⟩ (Or.inl ?_)
        · refine Ch.wr (Ch.wr (Ch.wr (Ch.wr (Ch.wr (Ch.wr (Ch.wr Ch.rfl' ?_) ?_) ?_) ?_) ?_) ?_) ?_
          all_goals (unfold reg; simp)
        · repeat rw [wr_ne (by omega)]
          exact hT.1 i hi
        · by_cases e : i = r
          · subst e
            have e12 : (wr (wr (wr (wr (wr (wr (wr M 14 i a2) 15 i a3) 17 0 (-1)) 48 0 (M 14 i)) 27 0 0) 37 i a2) 38 i a3) 14 i = a2 := by
              repeat rw [wr_ne (by omega)]
              rw [wr_at, if_pos ⟨rfl, rfl⟩]
            have e13 : (wr (wr (wr (wr (wr (wr (wr M 14 i a2) 15 i a3) 17 0 (-1)) 48 0 (M 14 i)) 27 0 0) 37 i a2) 38 i a3) 15 i = a3 := by
              repeat rw [wr_ne (by omega)]
              rw [wr_at, if_pos ⟨rfl, rfl⟩]
            have e35 : (wr (wr (wr (wr (wr (wr (wr M 14 i a2) 15 i a3) 17 0 (-1)) 48 0 (M 14 i)) 27 0 0) 37 i a2) 38 i a3) 37 i = a2 := by
              repeat rw [wr_ne (by omega)]
              rw [wr_at, if_pos ⟨rfl, rfl⟩]
            have e36 : (wr (wr (wr (wr (wr (wr (wr M 14 i a2) 15 i a3) 17 0 (-1)) 48 0 (M 14 i)) 27 0 0) 37 i a2) 38 i a3) 38 i = a3 := by
              rw [wr_at, if_pos ⟨rfl, rfl⟩]
            rw [e12, e13, e35, e36]
            obtain ⟨w, hw, e⟩ := h2
            exact ⟨rfl, ⟨w, by omega, e⟩, rfl, h3⟩
          · repeat rw [wr_ne (by omega)]
            exact hT.2 i hi
        · repeat rw [wr_ne (by omega)]
          rw [wr_at, if_pos ⟨rfl, rfl⟩]
    · refine ⟨0, wr M 27 0 2, ⟨2, M, 0, Or.inr (Or.inr ⟨M, ?_, rfl, rfl, rfl⟩), ?_, th_at, fun e => absurd e (by decide)⟩, hI.th⟩
      · rw [e4]
        simp only [X4_frame_j22, w4_0 (b := 61) 61 rfl (by decide) h2, bd1_s, i10, if_false, if_true]
      · rw [(mdl M).1 h1]
        simp only [X5_frame_j22, w5_0 (b := 60) 60 rfl (by decide) h2, bd1_s, bd2_s, goes_2, if_true]
  · refine ⟨0, wr M 27 0 1, ⟨1, M, 0, Or.inr (Or.inl ⟨M, ?_, rfl, rfl, rfl⟩), ?_, th_at, fun e => absurd e (by decide)⟩, hI.th⟩
    · by_cases q1 : Wn a1 2
      · simp only [X4_frame, X4_frame_j21, X4_frame_j22, w4_1 (b := 2) 2 rfl (by decide) q1, w4_0 (b := 12) 12 rfl (by decide) (fun e => h1 ⟨q1, e⟩), bd1_s, i10, if_false, if_true]
      · simp only [X4_frame, X4_frame_j21, X4_frame_j22, w4_0 (b := 2) 2 rfl (by decide) q1, bd1_s, if_true]
    · rw [(mdl M).2 h1]
      by_cases h2 : Wn a2 61
      · simp only [X5_frame_j22, w5_1 (b := 60) 60 rfl (by decide) h2, bd1_s, bd2_s, goes_1, if_true]
      · simp only [X5_frame_j22, w5_0 (b := 60) 60 rfl (by decide) h2, bd1_s, bd2_s, goes_1, if_true]
