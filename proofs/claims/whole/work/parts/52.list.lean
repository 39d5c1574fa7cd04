/-! the model lists the cuts -/
def CL (M N : Mem) (G : Gs) : Prop :=
  (∀ k i, k ≠ 39 → k ≠ 40 → k ≠ 41 → k ≠ 43 → ¬ (k = 27 ∧ i = 14) → N k i = M k i) ∧ N 27 14 = nI G.1.length ∧ (∀ i, i < G.1.length → N 39 i = cuL G.1 i ∧ N 40 i = cuH G.1 i ∧ N 41 i = cuK G.1 i) ∧ ∀ e, e < 97 → N 43 e = b2i (G.2 e)
section Lst
variable {M N : Mem} {G : Gs}
theorem lcut (h : CL M N G) (hl : G.1.length < 1000) (a b k : Int32) : ∃ N', X5_cutOf N a b k = some N' ∧ CL M N' (G.1 ++ [mkC a b k], G.2) := by
  obtain ⟨h1, h2, h3, h4⟩ := h
  refine ⟨wr (wr (wr (wr N 39 G.1.length (mkC a b k).1) 40 G.1.length (mkC a b k).2.1) 41 G.1.length (mkC a b k).2.2) 27 14 (nI (G.1.length + 1)), ?_, fun x i b1 b2 b3 b4 b5 => ?_, ?_, fun i hi => ?_, fun e he => ?_⟩
  · have e : ∀ u v : Int32, X5_cutOf_j37 (wr N 39 G.1.length u) k v (nI G.1.length) = some (wr (wr (wr (wr N 39 G.1.length u) 40 G.1.length v) 41 G.1.length k) 27 14 (nI (G.1.length + 1))) := by
      intro u v
      unfold X5_cutOf_j37
      rw [stoN hl (by decide), wr_ne (by omega), wr_ne (by omega), h2, stoN hl (by decide), wr_ne (by omega), wr_ne (by omega), wr_ne (by omega), h2, nI_1]
      rfl
    unfold X5_cutOf X5_cutOf_j18 mkC
    rw [h2]
    by_cases c : a ≤ b
    · have nc : ¬ b < a := Int32.not_lt.mpr c
      rw [if_pos c, stoN hl (by decide), if_pos c, wr_ne (by omega), h2, e]
      simp only [if_neg nc]
    · have nc : b < a := Int32.not_le.mp c
      rw [if_neg c, stoN hl (by decide), if_neg c, wr_ne (by omega), h2, e]
      simp only [if_pos nc]
  · rw [wr_ne b5, wr_ne (by omega), wr_ne (by omega), wr_ne (by omega)]
    exact h1 x i b1 b2 b3 b4 b5
  · rw [wr_at, if_pos ⟨rfl, rfl⟩, List.length_append]
    rfl
  · rw [List.length_append] at hi
    by_cases c : i = G.1.length
    · subst c
      unfold cuL cuH cuK
      rw [getD_at]
      refine ⟨?_, ?_, ?_⟩
      · rw [wr_ne (by omega), wr_ne (by omega), wr_ne (by omega), wr_at, if_pos ⟨rfl, rfl⟩]
      · rw [wr_ne (by omega), wr_ne (by omega), wr_at, if_pos ⟨rfl, rfl⟩]
      · rw [wr_ne (by omega), wr_at, if_pos ⟨rfl, rfl⟩]
    · have hi' : i < G.1.length := by simp at hi; omega
      obtain ⟨u1, u2, u3⟩ := h3 i hi'
      simp only [cuL, cuH, cuK] at u1 u2 u3 ⊢
      rw [getD_lo hi']
      refine ⟨?_, ?_, ?_⟩
      · rw [wr_ne (by omega), wr_ne (by omega), wr_ne (by omega), wr_ne (by omega)]; exact u1
      · rw [wr_ne (by omega), wr_ne (by omega), wr_ne (by omega), wr_ne (by omega)]; exact u2
      · rw [wr_ne (by omega), wr_ne (by omega), wr_ne (by omega), wr_ne (by omega)]; exact u3
  · rw [wr_ne (by omega), wr_ne (by omega), wr_ne (by omega), wr_ne (by omega)]
    exact h4 e he
theorem lpatch {j c p : Nat} (h : CL M N G) (hl : G.1.length < 1000) (hj : j < 11) (hco : COkM M j) (hr : Rg (vm M j)) (hp : p < 24) (h1 : 0 < (vm M j).C p ∧ (vm M j).L p = nI c) : ∃ N', X5_cutPatch N (nI (24 * j + p)) = some N' ∧ CL M N' (addP (vm M j) c p G) := by
  have hf := h.1
  have co : COkM N j := fun q hq => by rw [hf _ _ (by omega) (by omega) (by omega) (by omega) (by omega)]; exact hco q hq
  have ev : vm N j = vm M j := by
    refine vm_same (fun i hi => ⟨?_, ?_⟩) (fun q hq => ⟨?_, ?_⟩)
    all_goals rw [hf _ _ (by omega) (by omega) (by omega) (by omega) (by omega)]
  unfold X5_cutPatch addP
  rw [X5_half_eq hj co hp, X5_spreadX_eq hj co hp, X5_spreadY_eq hj co hp, ev, if_pos h1]
  simp only [bd1_s]
  obtain ⟨e, he, ee⟩ := hs_rng hr hp
  rw [ee]
  have e1 : (nI e = 0) = (e = 0) := nI_eq_iff (b := 0) (by omega) (by decide)
  simp only [e1]
  by_cases c2 : e = 0
  · rw [if_pos c2, if_pos c2]
    obtain ⟨N', q1, q2⟩ := lcut h hl (exW (vm M j) p + 12) (exH (vm M j) p + 12) 0
    rw [q1]
    exact ⟨N', rfl, q2⟩
  · rw [if_neg c2, if_neg c2, nI_clamp (by omega)]
    have fin : ∀ (N1 : Mem) (l : List Ct), CL M N1 (l, G.2) → ∃ N', X5_cutPatch_j62 N1 (nI e) = some N' ∧ CL M N' (l, fun x => if x = e then !G.2 x else G.2 x) := by
      intro N1 l ⟨h1, h2, h3, h4⟩
      refine ⟨wr N1 43 e (b2i (!G.2 e)), ?_, fun x i b1 b2 b3 b4 b5 => ?_, ?_, fun i hi => ?_, fun x hx => ?_⟩
      · unfold X5_cutPatch_j62 X5_cutPatch_j81
        rw [ldN (show e < 97 by omega) (by decide), stoN (show e < 97 by omega) (by decide), stoN (show e < 97 by omega) (by decide), h4 e (by omega)]
        cases G.2 e <;> rfl
      · rw [wr_ne (by omega)]; exact h1 x i b1 b2 b3 b4 b5
      · rw [wr_ne (by omega)]; exact h2
      · rw [wr_ne (by omega), wr_ne (by omega), wr_ne (by omega)]; exact h3 i hi
      · by_cases c : x = e
        · subst c
          rw [wr_at, if_pos ⟨rfl, rfl⟩]
          simp
        · rw [wr_ne (by omega), h4 x hx]
          simp [c]
    rw [ldN (show e < 97 by omega) (by decide), h.2.2.2 e (by omega)]
    cases hb : G.2 e with
    | true =>
      rw [if_neg (by decide)]
      simp only [if_true]
      exact fin N G.1 h
    | false =>
      rw [if_pos (show b2i false = 0 from rfl)]
      simp only [Bool.false_eq_true, if_false]
      obtain ⟨N1, q1, q2⟩ := lcut h hl (nI e + 21) (nI e + 21) 1
      rw [q1]
      have em : mkC (nI e + 21) (nI e + 21) 1 = (nI e + 21, nI e + 21, 1) := by
        unfold mkC
        simp
      rw [em] at q2
      exact fin N1 _ q2
theorem CL.ch (h : CL M N G) : Ch (fun r => r = 0) M N := by
  intro k i hz
  refine h.1 k i (fun e => hz ?_) (fun e => hz ?_) (fun e => hz ?_) (fun e => hz ?_) (fun e => hz ?_)
  · rw [e]; rfl
  · rw [e]; rfl
  · rw [e]; rfl
  · rw [e]; rfl
  · rw [e.1, e.2]; rfl
variable {K : Nat}
theorem CL.to (h : CL M N G) (hT : ToI K M) : ToI K N := hT.keep h.ch (by decide)
theorem CL.tp (h : CL M N G) (hT : ToI K M) (hK : K ≤ 10) : tp N = tp M := tp_keep h.ch (by decide) (by decide) hK hT
theorem lplaces (hK : K ≤ 10) (hco : ∀ j, j < K → COkM M j ∧ Rg (vm M j)) (hT : ToI K M) {c : Nat} (h : CL M N ([], fun _ => false)) : ∃ N', loop (X5_list_L28 (nI c)) 3000 ((0 : Int32), N) = some N' ∧ CL M N' (plN (tp M) c 36) :=
  loop_inv (B := X5_list_L28 (nI c)) (fun i st => st.1 = nI i ∧ CL M st.2 (plN (tp M) c i)) (Q := fun N' => CL M N' (plN (tp M) c 36)) 36 0 36 3000 (by omega) (by omega)
    (by
      rintro i ⟨c1, N1⟩ hi ⟨e1, e2⟩
      simp only at e1 e2
      subst e1
      have hlen := plN_len (tp M) c i
      have r35 : N1 35 i = M 35 i := e2.1 _ _ (by omega) (by omega) (by omega) (by omega) (by omega)
      rcases hT.at hK hi with ⟨p1, p2, p3⟩ | ⟨j, hj, p1, p2, p3⟩
      · have q : loop (X5_list_L44 (nI c) (nI i)) 3000 ((24 : Int32) * -1, N1) = some N1 := by
          refine loop_out (k := 2999) ?_
          unfold X5_list_L44
          rw [un2_s, ldN hi (by decide), r35, p2, if_neg (by decide), ldN hi (by decide), r35, p2, if_pos rfl]
        refine ⟨(nI (i + 1), N1), ?_, rfl, ?_⟩
        · unfold X5_list_L28 X5_list_L28_j100
          rw [un2_s, if_neg (s36 hi), ldN hi (by decide), r35, p2, bnd_s, q, bd1_s, bnd_s, nI_1]
        · unfold plN
          rw [p3]
          exact e2
      · obtain ⟨co, rg⟩ := hco j hj
        obtain ⟨ex, h1, h2⟩ := loop_inv (B := X5_list_L44 (nI c) (nI i)) (fun p st => st.1 = nI (24 * j + p) ∧ CL M st.2 (blkN (vm M j) c (plN (tp M) c i) p)) (Q := fun N' => CL M N' (blkN (vm M j) c (plN (tp M) c i) 24)) 24 0 24 3000 (by omega) (by omega)
          (by
            rintro p ⟨c2, N2⟩ hp ⟨e3, e4⟩
            simp only at e3 e4
            subst e3
            have hbl := blkN_len (vm M j) c (plN (tp M) c i) p
            have s35 : N2 35 i = nI j := by rw [e4.1 _ _ (by omega) (by omega) (by omega) (by omega) (by omega)]; exact p2
            have co2 : COkM N2 j := fun q hq => by rw [e4.1 _ _ (by omega) (by omega) (by omega) (by omega) (by omega)]; exact co q hq
            have ev : vm N2 j = vm M j := by
              refine vm_same (fun i hi => ⟨?_, ?_⟩) (fun q hq => ⟨?_, ?_⟩)
              all_goals rw [e4.1 _ _ (by omega) (by omega) (by omega) (by omega) (by omega)]
            have hC := Cm_le (p := p) co
            have base : X5_list_L44 (nI c) (nI i) (nI (24 * j + p), N2) = if (vm M j).C p = 0 then some (.inl (nI (24 * j + (p + 1)), N2)) else if N2 29 (24 * j + p) = nI c then bd1 (X5_cutPatch N2 (nI (24 * j + p))) (fun N8 => some (.inl (nI (24 * j + (p + 1)), N8))) else some (.inl (nI (24 * j + (p + 1)), N2)) := by
              unfold X5_list_L44 X5_list_L44_j94
              rw [un2_s, ldN hi (by decide), s35, show (24 : Int32) = nI 24 from rfl, nI_mul, nI_add, if_neg (nI_ge (by omega) (by omega)), ldN hi (by decide), s35, if_neg (by rw [nI_m1 (by omega)]; exact id), ldmC (by omega) co2 hp, ev, ldN (by omega) (by decide)]
              simp only [le0 hC, bnd_s, nI_1]
              rfl
            rw [base]
            by_cases z : (vm M j).C p = 0
            · refine ⟨(nI (24 * j + (p + 1)), N2), by rw [if_pos z], rfl, ?_⟩
              show CL M N2 (addP _ _ _ _)
              unfold addP
              rw [if_neg (by omega)]
              exact e4
            · rw [if_neg z]
              have hL : N2 29 (24 * j + p) = (vm M j).L p := by rw [vmL hp (by omega), e4.1 _ _ (by omega) (by omega) (by omega) (by omega) (by omega)]
              rw [hL]
              by_cases z2 : (vm M j).L p = nI c
              · rw [if_pos z2]
                obtain ⟨N3, q1, q2⟩ := lpatch e4 (by omega) (by omega) co rg hp ⟨by omega, z2⟩
                exact ⟨(nI (24 * j + (p + 1)), N3), by rw [q1]; rfl, rfl, q2⟩
              · rw [if_neg z2]
                refine ⟨(nI (24 * j + (p + 1)), N2), rfl, rfl, ?_⟩
                show CL M N2 (addP _ _ _ _)
                unfold addP
                rw [if_neg (fun e => z2 e.2)]
                exact e4)
          (by
            rintro ⟨c2, N2⟩ ⟨e3, e4⟩
            simp only at e3 e4
            subst e3
            have s35 : N2 35 i = nI j := by rw [e4.1 _ _ (by omega) (by omega) (by omega) (by omega) (by omega)]; exact p2
            refine ⟨N2, ?_, e4⟩
            unfold X5_list_L44
            rw [un2_s, ldN hi (by decide), s35, show (24 : Int32) = nI 24 from rfl, nI_mul, nI_add, if_pos (nI_le (by omega) (by omega))])
          (nI (24 * j), N1) ⟨rfl, e2⟩
        refine ⟨(nI (i + 1), ex), ?_, rfl, ?_⟩
        · unfold X5_list_L28 X5_list_L28_j100
          rw [un2_s, if_neg (s36 hi), ldN hi (by decide), r35, p2, bnd_s, show (24 : Int32) = nI 24 from rfl, nI_mul, h1, bd1_s, bnd_s, nI_1]
        · unfold plN
          rw [p3]
          exact h2)
    (by
      rintro ⟨c1, N1⟩ ⟨e1, e2⟩
      simp only at e1 e2
      subst e1
      exact ⟨N1, by simp only [X5_list_L28, un2_s]; rfl, e2⟩)
    (0, N) ⟨rfl, h⟩
end Lst
