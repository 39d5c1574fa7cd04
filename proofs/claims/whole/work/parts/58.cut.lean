/-! need and cut; every call -/
def CtOk (x : Ct) : Prop := ∃ a b, a ≤ 1008 ∧ b ≤ 1008 ∧ x.1 = nI a ∧ x.2.1 = nI b
theorem mk_ok {a b : Nat} {k : Int32} (ha : a ≤ 1008) (hb : b ≤ 1008) : CtOk (mkC (nI a) (nI b) k) := by
  unfold mkC CtOk
  simp only
  by_cases c : nI b < nI a
  · rw [if_pos c, if_pos c]; exact ⟨a, b, ha, hb, rfl, rfl⟩
  · rw [if_neg c, if_neg c]; exact ⟨b, a, hb, ha, rfl, rfl⟩
theorem addP_ok {V : Vw} {c p : Nat} {G : Gs} (hr : Rg V) (h8 : ∀ p, V.C p ≤ 8) (hp : p < 24) (h : ∀ x, x ∈ G.1 → CtOk x) : ∀ x, x ∈ (addP V c p G).1 → CtOk x := by
  unfold addP
  by_cases c1 : 0 < V.C p ∧ V.L p = nI c
  · rw [if_pos c1]
    obtain ⟨e, he, ee⟩ := hs_rng hr hp
    by_cases c2 : hs V p = 0
    · rw [if_pos c2]
      intro x hx
      rcases List.mem_append.mp hx with hx | hx
      · exact h x hx
      · rw [List.mem_singleton] at hx
        obtain ⟨⟨w, hw, ew⟩, u, hu, eu⟩ := ex_rng hr h8 hp c1.1
        rw [hx, ew, eu, show (12 : Int32) = nI 12 from rfl, nI_add, nI_add]
        exact mk_ok (by omega) (by omega)
    · rw [if_neg c2]
      intro x hx
      simp only at hx
      split at hx
      · exact h x hx
      · rcases List.mem_append.mp hx with hx | hx
        · exact h x hx
        · rw [List.mem_singleton] at hx
          rw [hx, ee, show (21 : Int32) = nI 21 from rfl, nI_add]
          exact ⟨e + 21, e + 21, by omega, by omega, rfl, rfl⟩
  · rw [if_neg c1]; exact h
theorem blkN_ok {V : Vw} {c : Nat} {G : Gs} (hr : Rg V) (h8 : ∀ p, V.C p ≤ 8) (h : ∀ x, x ∈ G.1 → CtOk x) : ∀ p, p ≤ 24 → ∀ x, x ∈ (blkN V c G p).1 → CtOk x
  | 0, _ => h
  | p + 1, hp => addP_ok hr h8 (by omega) (blkN_ok hr h8 h p (by omega))
theorem plN_ok {T : Tp} {c : Nat} (hT : ∀ i V, T.1 i = some V → Rg V ∧ ∀ p, V.C p ≤ 8) : ∀ i x, x ∈ (plN T c i).1 → CtOk x
  | 0, x, hx => absurd hx (by simp [plN])
  | i + 1, x, hx => by
    unfold plN at hx
    split at hx
    · exact plN_ok hT i x hx
    · next V hV => exact blkN_ok (hT i V hV).1 (hT i V hV).2 (plN_ok hT i) 24 (by omega) x hx
theorem cuts_ok {T : Tp} {c : Nat} (hT : ∀ i V, T.1 i = some V → Rg V ∧ ∀ p, V.C p ≤ 8) (hw0 : T.2.1 ≤ 60) (hw1 : T.2.2.1 ≤ 60) : Sz (cuts T c) := by
  have all : ∀ x, x ∈ cuts T c → CtOk x := by
    intro x hx
    have hr6 := rw36 T
    have hc6 := clN_le T 36
    have hp0 := pc0 T 36
    unfold cuts at hx
    rcases List.mem_append.mp hx with hx | hx
    · exact plN_ok hT 36 x hx
    · rcases List.mem_append.mp hx with hx | hx
      · unfold sashL at hx
        split at hx
        · rcases List.mem_append.mp hx with hx | hx
          · rw [List.mem_replicate] at hx
            rw [hx.2]
            exact ⟨108, T.2.1 + 12, by omega, by omega, rfl, rfl⟩
          · rw [List.mem_replicate] at hx
            have ac := acN_rng (T := T) (m := clN T 36) (by omega) hc6 hw0
            rw [hx.2]
            exact ⟨acN T (clN T 36) + 12, T.2.1 + 12, by omega, by omega, rfl, rfl⟩
        · exact absurd hx (by simp)
      · unfold bordL at hx
        split at hx
        · next hc =>
          have ac := acN_rng (T := T) (m := clN T 36) (by omega) hc6 hw0
          have ar := acN_rng (T := T) (m := rwN T 36) (by omega) hr6 hw0
          rcases List.mem_append.mp hx with hx | hx
          · rw [List.mem_replicate] at hx
            rw [hx.2]
            exact ⟨acN T (clN T 36) + 12, T.2.2.1 + 12, by omega, by omega, rfl, rfl⟩
          · rw [List.mem_replicate] at hx
            rw [hx.2]
            exact ⟨acN T (rwN T 36) + 2 * T.2.2.1 + 12, T.2.2.1 + 12, by omega, by omega, rfl, rfl⟩
        · exact absurd hx (by simp)
  intro i hi
  have hm : (cuts T c).getD i (0, 0, 0) ∈ cuts T c := by
    rw [List.getD_eq_getElem?_getD, List.getElem?_eq_getElem hi]
    exact List.getElem_mem hi
  exact all _ hm
theorem INV.parts {n : Nat} {M : Mem} (h : INV n M) : ∃ K, K ≤ 10 ∧ n = 49 + 5 * K ∧ KeI K M ∧ ToI K M ∧ CuI M ∧ (∀ j, j < K → COkM M j ∧ Rg (vm M j)) ∧ ∀ c, Sz (cuts (tp M) c) := by
  obtain ⟨K, k1, k2, hD, hS, hKe, hT, hC⟩ := h
  have hco : ∀ j, j < K → COkM M j ∧ Rg (vm M j) := fun j hj => ⟨(hKe.2.2.2 j hj).2.2.1, (hKe.2.2.2 j hj).2.2.2.2⟩
  refine ⟨K, k1, k2, hKe, hT, hC, hco, fun c => cuts_ok (fun i V hV => ?_) ?_ ?_⟩
  · by_cases hi : i < 36
    · rcases hT.at k1 hi with ⟨_, _, e⟩ | ⟨j, hj, _, _, e⟩
      · rw [e] at hV; exact absurd hV (by simp)
      · rw [e] at hV
        have := Option.some.inj hV
        rw [← this]
        exact ⟨(hco j hj).2, fun p => Cm_le (hco j hj).1⟩
    · simp only [tp, if_neg hi] at hV
      exact absurd hV (by simp)
  · obtain ⟨w, hw, _, e⟩ := hT.w (i := 0) (by omega)
    simp only [tp, e]
    rw [nI_clamp (by omega)]
    exact hw
  · obtain ⟨w, hw, _, e⟩ := hT.w (i := 1) (by omega)
    simp only [tp, e]
    rw [nI_clamp (by omega)]
    exact hw
theorem layAll_eq {n c : Nat} {M : Mem} (hI : INV n M) (hc : c < 12) : ∃ N1, X0_layAll n M (nI c) = some N1 ∧ INV n N1 ∧ (∀ k i, ¬ (17 ≤ k ∧ k ≤ 26) → N1 k i = M k i) ∧ tp N1 = tp M ∧ Laid (tp M) c (N1 17) (N1 18) (N1 19) (N1 20) (N1 22) (N1 24) (N1 25) := by
  obtain ⟨K, k1, k2, hKe, hT, hC, hco, hsz⟩ := hI.parts
  have hz := hsz c
  unfold X0_layAll
  by_cases h17 : M 17 0 = nI c
  · rw [if_pos h17]
    refine ⟨M, rfl, hI, fun _ _ _ => rfl, rfl, ?_⟩
    rcases hC with e | ⟨c', hc', e, hL⟩
    · rw [h17, nI_m1 (by omega)] at e
      exact absurd e id
    · have : c' = c := by
        rw [h17, nI_eq_iff (by omega) (by omega)] at e
        exact e.symm
      rw [this] at hL
      exact hL
  · rw [if_neg h17]
    obtain ⟨Ng, hf, g1, g2⟩ := X0_gather_eq k1 k2 hKe hT hc
    have hn := cuts_len (T := tp M) (c := c)
    generalize hcl : cuts (tp M) c = cl at hz hn g2
    obtain ⟨ga, gb, gc, gd⟩ := g2
    simp only at gb gc
    obtain ⟨Ns, f, s1, s2, s3, s4⟩ := sort_eq (N := Ng) hn gb (fun i hi => ⟨(gc i hi).1, (gc i hi).2.1⟩)
    obtain ⟨Nl, l1, l2⟩ := layInOrder_eq (N := Ns) hn hz s4.1 (by rw [s2 _ _ (by omega) (by omega)]; exact gb) (fun i hi => by rw [s2 _ _ (by omega) (by omega), s2 _ _ (by omega) (by omega)]; exact ⟨(gc i hi).1, (gc i hi).2.1⟩) s3
    obtain ⟨la, lb, lc, ld', le⟩ := l2
    have fr : ∀ k i, ¬ (17 ≤ k ∧ k ≤ 26) → (wr Nl 17 0 (nI c)) k i = M k i := by
      intro k i hk
      rw [wr_ne (by omega), la k i (by omega) (by omega) (by omega) (by omega), s2 k i (by omega) (by omega), ga k i (by omega) (by omega) (by omega) (by omega) (by omega)]
    have ch : Ch (fun r => r = 0 ∨ r = 5) M (wr Nl 17 0 (nI c)) := by
      intro k i hz
      refine fr k i (fun hk => hz ?_)
      have : k = 17 ∨ k = 18 ∨ k = 19 ∨ k = 20 ∨ k = 21 ∨ k = 22 ∨ k = 23 ∨ k = 24 ∨ k = 25 ∨ k = 26 := by omega
      rcases this with rfl | rfl | rfl | rfl | rfl | rfl | rfl | rfl | rfl | rfl
      · right; rfl
      · right; rfl
      · right; rfl
      · right; rfl
      · left; rfl
      · right; rfl
      · left; rfl
      · right; rfl
      · right; rfl
      · left; rfl
    have etp : tp (wr Nl 17 0 (nI c)) = tp M := tp_keep ch (by decide) (by decide) k1 hT
    have h0 : (wr Nl 17 0 (nI c)) 17 0 = nI c := by rw [wr_at, if_pos ⟨rfl, rfl⟩]
    have w : ∀ k i, ¬ (k = 17 ∧ i = 0) → (wr Nl 17 0 (nI c)) k i = Nl k i := fun k i hk => wr_ne hk
    have hL : Laid (tp M) c ((wr Nl 17 0 (nI c)) 17) ((wr Nl 17 0 (nI c)) 18) ((wr Nl 17 0 (nI c)) 19) ((wr Nl 17 0 (nI c)) 20) ((wr Nl 17 0 (nI c)) 22) ((wr Nl 17 0 (nI c)) 24) ((wr Nl 17 0 (nI c)) 25) := by
      unfold Laid
      rw [hcl]
      refine ⟨f, s4, ?_, ?_, ?_, fun i hi => ⟨?_, ?_, ?_, ?_, ?_, ?_⟩⟩
      · rw [w _ _ (by omega), la _ _ (by omega) (by omega) (by omega) (by omega), s2 _ _ (by omega) (by omega)]; exact gb
      · rw [w _ _ (by omega)]; exact lb
      · rw [w _ _ (by omega)]; exact lc
      · rw [w _ _ (by omega), la _ _ (by omega) (by omega) (by omega) (by omega), s2 _ _ (by omega) (by omega)]; exact (gc i hi).1
      · rw [w _ _ (by omega), la _ _ (by omega) (by omega) (by omega) (by omega), s2 _ _ (by omega) (by omega)]; exact (gc i hi).2.1
      · rw [w _ _ (by omega), la _ _ (by omega) (by omega) (by omega) (by omega), s2 _ _ (by omega) (by omega)]; exact (gc i hi).2.2
      · rw [w _ _ (by omega), la _ _ (by omega) (by omega) (by omega) (by omega)]; exact s3 i hi
      · rw [w _ _ (by omega)]; exact (le i hi).1
      · rw [w _ _ (by omega)]; exact (le i hi).2
    refine ⟨wr Nl 17 0 (nI c), ?_, ?_, fr, etp, hL⟩
    · rw [g1, bd1_s, s1, bd1_s, l1, bd1_s, bnd_s]
    · obtain ⟨K2, a1, a2, hD, hS, _⟩ := hI
      exact ⟨K, k1, k2, hD.keep ch (by decide), hS.keep ch (by decide), hKe.keep ch (by decide) k1, hT.keep ch (by decide), Or.inr ⟨c, hc, h0, by rw [etp]; exact hL⟩⟩
/-- the model lays what the class has laid -/
theorem mlay_eq {n c : Nat} {M : Mem} {f : Nat → Nat} (hI : INV n M) (hc : c < 12) (hsp : SP (cuts (tp M) c) f) : ∃ N', X5_lay M (nI c) = some N' ∧ INV n N' ∧ (∀ k j, ¬ (39 ≤ k ∧ k ≤ 47) → ¬ (k = 27 ∧ (j = 14 ∨ j = 23 ∨ j = 24)) → N' k j = M k j) ∧ N' 27 14 = nI (cuts (tp M) c).length ∧ N' 27 23 = nI (lyN (cuts (tp M) c) f (cuts (tp M) c).length).2.1 ∧ N' 27 24 = nI (lyN (cuts (tp M) c) f (cuts (tp M) c).length).2.2.1 ∧ ∀ i, i < (cuts (tp M) c).length → N' 39 i = cuL (cuts (tp M) c) i ∧ N' 40 i = cuH (cuts (tp M) c) i ∧ N' 41 i = cuK (cuts (tp M) c) i ∧ N' 44 i = nI (f i) ∧ N' 45 i = nI ((lyN (cuts (tp M) c) f (cuts (tp M) c).length).2.2.2.1 i) ∧ N' 46 i = nI ((lyN (cuts (tp M) c) f (cuts (tp M) c).length).2.2.2.2 i) := by
  obtain ⟨K, k1, k2, hKe, hT, hC, hco, hsz⟩ := hI.parts
  obtain ⟨N, hf, q1, q2⟩ := X5_list_eq k1 hco hT hc
  obtain ⟨N', u1, u2, u3⟩ := X5_lay_eq (cuts_len (T := tp M) (c := c)) (hsz c) hsp q1 q2
  refine ⟨N', u1, hI.keep0 (fun k j hz => ?_), u2, u3⟩
  refine u2 k j (fun e => hz ?_) (fun e => hz ?_)
  · have : k = 39 ∨ k = 40 ∨ k = 41 ∨ k = 42 ∨ k = 43 ∨ k = 44 ∨ k = 45 ∨ k = 46 ∨ k = 47 := by omega
    rcases this with rfl | rfl | rfl | rfl | rfl | rfl | rfl | rfl | rfl <;> rfl
  · rcases e with ⟨rfl, rfl | rfl | rfl⟩ <;> rfl
theorem st_need {n : Nat} {M : Mem} {a1 a2 a3 a4 : Int32} (hI : INV n M) : ∃ g M2, St 14 n M a1 a2 a3 a4 g M2 ∧ INV (n + g) M2 := by
  by_cases h1 : Wn a1 12
  · by_cases h2 : Wn a2 3
    · have w1 := h1
      have w2 := h2
      obtain ⟨c, hc, rfl⟩ := h1
      obtain ⟨N1, l1, l2, l3, l4, f, l5, l6, l7, l8, l9⟩ := layAll_eq hI hc
      have h5 : ∀ v : Int32, ∃ N', X5_lay (wr (wr N1 48 0 v) 27 0 0) (nI c) = some N' ∧ INV n N' ∧ N' 27 0 = 0 ∧ N' 48 0 = v ∧ N' 27 14 = N1 17 1 ∧ N' 27 23 = N1 17 11 ∧ N' 27 24 = N1 17 12 := by
        intro v
        have et : tp (wr (wr N1 48 0 v) 27 0 0) = tp M := l4
        obtain ⟨N', m1, m2, m3, m4, m5, m6, _⟩ := mlay_eq (f := f) (l2.ou.th (v := 0)) hc (by rw [et]; exact l5)
        rw [et] at m4 m5 m6
        refine ⟨N', m1, m2, ?_, ?_, m4.trans l6.symm, m5.trans l7.symm, m6.trans l8.symm⟩
        · rw [m3 _ _ (by omega) (by omega)]; exact th_at
        · rw [m3 _ _ (by omega) (by omega), wr_ne (by omega)]; exact ou_at
      have ans : ∀ v : Int32, X4_need n M (nI c) a2 = some (.inl v, N1) → (∀ N' : Mem, N' 27 14 = N1 17 1 → N' 27 23 = N1 17 11 → N' 27 24 = N1 17 12 → (if a2 = 0 then (X5_need_j51 N' (N' 27 14)) else (if a2 = 1 then (X5_need_j51 N' (N' 27 23)) else (X5_need_j51 N' (N' 27 24)))) = some (v, N')) → ∃ g M2, St 14 n M (nI c) a2 a3 a4 g M2 ∧ INV (n + g) M2 := by
        intro v x4 hv
        obtain ⟨N', m1, m2, m3, m4, m5, m6, m7⟩ := h5 v
        refine ⟨0, N', ⟨0, wr N1 48 0 v, v, Or.inl ⟨v, N1, x4, rfl, rfl, rfl⟩, ?_, m3, fun _ => m4⟩, m2⟩
        unfold X5_need
        rw [cl_1 w1, bd1_s, w5_1 (b := 2) 2 rfl (by decide) w2, bd1_s, goes_0, bd2_s, if_neg (by decide), m1, bd1_s]
        exact hv N' m5 m6 m7
      have b4 : X4_need n M (nI c) a2 = if a2 = 0 then (some (.inl (N1 17 1), N1)) else (if a2 = 1 then (some (.inl (N1 17 11), N1)) else (some (.inl (N1 17 12), N1))) := by
        unfold X4_need
        rw [w4_1 (b := 12) 12 rfl (by decide) w1, bd1_s, if_neg (by decide), w4_1 (b := 3) 3 rfl (by decide) w2, bd1_s, if_neg (by decide), l1, bd1_s]
      by_cases z0 : a2 = 0
      · refine ans (N1 17 1) (by rw [b4, if_pos z0]) (fun N' m5 m6 m7 => ?_)
        rw [if_pos z0, m5]; rfl
      · by_cases z1 : a2 = 1
        · refine ans (N1 17 11) (by rw [b4, if_neg z0, if_pos z1]) (fun N' m5 m6 m7 => ?_)
          rw [if_neg z0, if_pos z1, m6]; rfl
        · refine ans (N1 17 12) (by rw [b4, if_neg z0, if_neg z1]) (fun N' m5 m6 m7 => ?_)
          rw [if_neg z0, if_neg z1, m7]; rfl
    · refine ⟨0, wr M 27 0 2, ⟨2, M, 0, Or.inr (Or.inr ⟨M, ?_, rfl, rfl, rfl⟩), ?_, th_at, fun e => absurd e (by decide)⟩, hI.th⟩
      · unfold X4_need
        rw [w4_1 (b := 12) 12 rfl (by decide) h1, bd1_s, if_neg (by decide), w4_0 (b := 3) 3 rfl (by decide) h2, bd1_s, if_pos rfl]
      · unfold X5_need
        rw [cl_1 h1, bd1_s, w5_0 (b := 2) 2 rfl (by decide) h2, bd1_s, goes_2, bd2_s, if_pos rfl]
  · refine ⟨0, wr M 27 0 1, ⟨1, M, 0, Or.inr (Or.inl ⟨M, ?_, rfl, rfl, rfl⟩), ?_, th_at, fun e => absurd e (by decide)⟩, hI.th⟩
    · unfold X4_need
      rw [w4_0 (b := 12) 12 rfl (by decide) h1, bd1_s, if_pos rfl]
    · unfold X5_need
      rw [cl_0 h1, bd1_s]
      by_cases h2 : Wn a2 3
      · rw [w5_1 (b := 2) 2 rfl (by decide) h2, bd1_s, goes_1, bd2_s, if_pos rfl]
      · rw [w5_0 (b := 2) 2 rfl (by decide) h2, bd1_s, goes_1, bd2_s, if_pos rfl]
theorem cut47_0 {N : Mem} {l2 l3 : Int32} : X5_cut_j47 N l2 l3 0 = some (0, wr N 27 0 1) := by
  unfold X5_cut_j47
  by_cases h : Wn l3 5
  · rw [w5_1 (b := 4) 4 rfl (by decide) h, bd1_s, goes_1, bd2_s, if_pos rfl]
  · rw [w5_0 (b := 4) 4 rfl (by decide) h, bd1_s, goes_1, bd2_s, if_pos rfl]
theorem cut_no {N : Mem} {l1 l2 l3 : Int32} (h : ¬ Wn l1 12 ∨ l2 < 0) : X5_cut N l1 l2 l3 = some (0, wr N 27 0 1) := by
  have e : X5_cut_j15 N l1 l2 l3 = some (0, wr N 27 0 1) := by
    unfold X5_cut_j15 X5_cut_j16
    rw [if_pos rfl]
    unfold X5_cut_j28 X5_cut_j46
    rw [if_pos rfl, cut47_0]
  unfold X5_cut
  by_cases h1 : Wn l1 12
  · rw [cl_1 h1, bd1_s, if_neg (by decide), if_pos (h.resolve_left (fun z => z h1)), e]
  · rw [cl_0 h1, bd1_s, if_pos rfl, e]
theorem st_cut {n : Nat} {M : Mem} {a1 a2 a3 a4 : Int32} (hI : INV n M) : ∃ g M2, St 15 n M a1 a2 a3 a4 g M2 ∧ INV (n + g) M2 := by
  by_cases h1 : Wn a1 12
  · have w1 := h1
    obtain ⟨c, hc, rfl⟩ := h1
    obtain ⟨N1, l1, l2, l3, l4, f, l5, l6, l7, l8, l9⟩ := layAll_eq hI hc
    have hlen := cuts_len (T := tp M) (c := c)
    have e4 : ∀ v, X4_within N1 a2 (N1 17 1) = some v → X4_cut n M (nI c) a2 a3 = (if v = 0 then (some (.inr "java/util/NoSuchElementException", N1)) else (bd1 (X4_within N1 a3 5) (fun t3 => if t3 = 0 then (some (.inr "java/lang/IllegalArgumentException", N1)) else (bd1 (X0_fact N1 a2 a3) (fun t4 => some (.inl t4, N1)))))) := by
      intro v hv
      unfold X4_cut
      rw [w4_1 (b := 12) 12 rfl (by decide) w1, bd1_s, if_neg (by decide), l1, bd1_s, hv, bd1_s]
    have ml : ∀ P : Mem, INV n P → tp P = tp M → ∃ N', X5_lay P (nI c) = some N' ∧ INV n N' ∧ (∀ k j, ¬ (39 ≤ k ∧ k ≤ 47) → ¬ (k = 27 ∧ (j = 14 ∨ j = 23 ∨ j = 24)) → N' k j = P k j) ∧ N' 27 14 = nI (cuts (tp M) c).length ∧ ∀ i, i < (cuts (tp M) c).length → N' 39 i = cuL (cuts (tp M) c) i ∧ N' 40 i = cuH (cuts (tp M) c) i ∧ N' 41 i = cuK (cuts (tp M) c) i ∧ N' 44 i = nI (f i) ∧ N' 45 i = N1 24 i ∧ N' 46 i = N1 25 i := by
      intro P hP et
      obtain ⟨N', m1, m2, m3, m4, m5, m6, m7⟩ := mlay_eq (f := f) hP hc (by rw [et]; exact l5)
      rw [et] at m4 m7
      refine ⟨N', m1, m2, m3, m4, fun i hi => ?_⟩
      obtain ⟨x1, x2, x3, x4, x5, x6⟩ := m7 i hi
      obtain ⟨y1, y2, y3, y4, y5, y6⟩ := l9 i hi
      exact ⟨x1, x2, x3, x4, x5.trans y5.symm, x6.trans y6.symm⟩
    have ex5 : ∀ (P N' : Mem), X5_lay P (nI c) = some N' → ¬ a2 < 0 → X5_cut P (nI c) a2 a3 = X5_cut_j28 N' a2 a3 1 := by
      intro P N' hP ha
      unfold X5_cut
      rw [cl_1 w1, bd1_s, if_neg (by decide), if_neg ha]
      unfold X5_cut_j16
      rw [if_neg (by decide), hP, bd1_s]
    by_cases h2 : Wn a2 (cuts (tp M) c).length
    · have w2 := h2
      have na2 : ¬ a2 < 0 := by
        obtain ⟨i, hi, rfl⟩ := h2
        rw [show (0 : Int32) = nI 0 from rfl, nI_lt_iff (by omega) (by omega)]
        omega
      have q2 := e4 1 (w4_1 (b := N1 17 1) _ l6 (by omega) w2)
      rw [if_neg (by decide)] at q2
      have j28 : ∀ N' : Mem, N' 27 14 = nI (cuts (tp M) c).length → X5_cut_j28 N' a2 a3 1 = X5_cut_j47 N' a2 a3 1 := by
        intro N' hN
        unfold X5_cut_j28
        rw [if_neg (by decide), hN]
        obtain ⟨i, hi, rfl⟩ := h2
        rw [if_neg (nI_ge hi (by omega))]
      by_cases h3 : Wn a3 5
      · have w3 := h3
        rw [w4_1 (b := 5) 5 rfl (by decide) w3, bd1_s, if_neg (by decide)] at q2
        obtain ⟨i, hi, rfl⟩ := h2
        have hfi := l5.1 i hi
        obtain ⟨y1, y2, y3, y4, y5, y6⟩ := l9 i hi
        obtain ⟨z1, z2, z3, _⟩ := l9 (f i) hfi
        -- the answer
        have key : ∃ v, X0_fact N1 (nI i) a3 = some v ∧ ∀ N' : Mem, (∀ j, j < (cuts (tp M) c).length → N' 39 j = cuL (cuts (tp M) c) j ∧ N' 40 j = cuH (cuts (tp M) c) j ∧ N' 41 j = cuK (cuts (tp M) c) j ∧ N' 44 j = nI (f j) ∧ N' 45 j = N1 24 j ∧ N' 46 j = N1 25 j) → X5_cut_j47 N' (nI i) a3 1 = some (v, wr N' 27 0 0) := by
          have j47 : ∀ N' : Mem, X5_cut_j47 N' (nI i) a3 1 = (if a3 = 0 then (ld (wr N' 27 0 0) 45 1000 (nI i) (fun t4 => some (t4, (wr N' 27 0 0)))) else (if a3 = 1 then (ld (wr N' 27 0 0) 46 1000 (nI i) (fun t5 => some (t5, (wr N' 27 0 0)))) else (if a3 = 2 then (ld (wr N' 27 0 0) 44 1000 (nI i) (fun t6 => ld (wr N' 27 0 0) 39 1000 t6 (fun t7 => some (t7, (wr N' 27 0 0))))) else (if a3 = 3 then (ld (wr N' 27 0 0) 44 1000 (nI i) (fun t8 => ld (wr N' 27 0 0) 40 1000 t8 (fun t9 => some (t9, (wr N' 27 0 0))))) else (ld (wr N' 27 0 0) 44 1000 (nI i) (fun t10 => ld (wr N' 27 0 0) 41 1000 t10 (fun t11 => some (t11, (wr N' 27 0 0))))))))) := by
            intro N'
            unfold X5_cut_j47
            rw [w5_1 (b := 4) 4 rfl (by decide) w3, bd1_s, goes_0, bd2_s, if_neg (by decide)]
          unfold X0_fact
          by_cases b0 : a3 = 0
          · refine ⟨N1 24 i, by rw [if_pos b0, ldN (by omega) (by decide)], fun N' hN => ?_⟩
            rw [j47, if_pos b0, ldN (by omega) (by decide), wr_ne (by omega), (hN i hi).2.2.2.2.1]
          · rw [if_neg b0]
            by_cases b1 : a3 = 1
            · refine ⟨N1 25 i, by rw [if_pos b1, ldN (by omega) (by decide)], fun N' hN => ?_⟩
              rw [j47, if_neg b0, if_pos b1, ldN (by omega) (by decide), wr_ne (by omega), (hN i hi).2.2.2.2.2]
            · rw [if_neg b1]
              by_cases b2 : a3 = 2
              · refine ⟨cuL (cuts (tp M) c) (f i), by rw [if_pos b2, ldN (by omega) (by decide), y4, ldN (by omega) (by decide), z1], fun N' hN => ?_⟩
                rw [j47, if_neg b0, if_neg b1, if_pos b2, ldN (by omega) (by decide), wr_ne (by omega), (hN i hi).2.2.2.1, ldN (by omega) (by decide), wr_ne (by omega), (hN (f i) hfi).1]
              · rw [if_neg b2]
                by_cases b3 : a3 = 3
                · refine ⟨cuH (cuts (tp M) c) (f i), by rw [if_pos b3, ldN (by omega) (by decide), y4, ldN (by omega) (by decide), z2], fun N' hN => ?_⟩
                  rw [j47, if_neg b0, if_neg b1, if_neg b2, if_pos b3, ldN (by omega) (by decide), wr_ne (by omega), (hN i hi).2.2.2.1, ldN (by omega) (by decide), wr_ne (by omega), (hN (f i) hfi).2.1]
                · refine ⟨cuK (cuts (tp M) c) (f i), by rw [if_neg b3, ldN (by omega) (by decide), y4, ldN (by omega) (by decide), z3], fun N' hN => ?_⟩
                  rw [j47, if_neg b0, if_neg b1, if_neg b2, if_neg b3, ldN (by omega) (by decide), wr_ne (by omega), (hN i hi).2.2.2.1, ldN (by omega) (by decide), wr_ne (by omega), (hN (f i) hfi).2.2.1]
        obtain ⟨v, v1, v2⟩ := key
        rw [v1, bd1_s] at q2
        have et : tp (wr N1 48 0 v) = tp M := l4
        obtain ⟨N', m1, m2, m3, m4, m5⟩ := ml (wr N1 48 0 v) l2.ou et
        refine ⟨0, wr N' 27 0 0, ⟨0, wr N1 48 0 v, v, Or.inl ⟨v, N1, q2, rfl, rfl, rfl⟩, ?_, th_at, fun _ => ?_⟩, m2.th⟩
        · rw [ex5 _ N' m1 na2, j28 N' m4, v2 N' m5]
        · rw [wr_ne (by omega), m3 _ _ (by omega) (by omega)]; exact ou_at
      · rw [w4_0 (b := 5) 5 rfl (by decide) h3, bd1_s, if_pos rfl] at q2
        obtain ⟨N', m1, m2, m3, m4, m5⟩ := ml N1 l2 l4
        refine ⟨0, wr N' 27 0 2, ⟨2, N1, 0, Or.inr (Or.inr ⟨N1, q2, rfl, rfl, rfl⟩), ?_, th_at, fun e => absurd e (by decide)⟩, m2.th⟩
        rw [ex5 _ N' m1 na2, j28 N' m4]
        unfold X5_cut_j47
        rw [w5_0 (b := 4) 4 rfl (by decide) h3, bd1_s, goes_2, bd2_s, if_pos rfl]
    · have q2 := e4 0 (w4_0 (b := N1 17 1) _ l6 (by omega) h2)
      rw [if_pos rfl] at q2
      by_cases ha : a2 < 0
      · exact ⟨0, wr N1 27 0 1, ⟨1, N1, 0, Or.inr (Or.inl ⟨N1, q2, rfl, rfl, rfl⟩), cut_no (Or.inr ha), th_at, fun e => absurd e (by decide)⟩, l2.th⟩
      · obtain ⟨N', m1, m2, m3, m4, m5⟩ := ml N1 l2 l4
        refine ⟨0, wr N' 27 0 1, ⟨1, N1, 0, Or.inr (Or.inl ⟨N1, q2, rfl, rfl, rfl⟩), ?_, th_at, fun e => absurd e (by decide)⟩, m2.th⟩
        rw [ex5 _ N' m1 ha]
        unfold X5_cut_j28 X5_cut_j46
        rw [if_neg (by decide), m4, if_pos, cut47_0]
        rw [Wn_iff (by omega)] at h2
        rw [Int32.lt_iff_toInt_lt, show (0 : Int32).toInt = 0 from rfl] at ha
        rw [Int32.le_iff_toInt_le, nI_toInt (by omega)]
        omega
  · refine ⟨0, wr M 27 0 1, ⟨1, M, 0, Or.inr (Or.inl ⟨M, ?_, rfl, rfl, rfl⟩), cut_no (Or.inl h1), th_at, fun e => absurd e (by decide)⟩, hI.th⟩
    unfold X4_cut
    rw [w4_0 (b := 12) 12 rfl (by decide) h1, bd1_s, if_pos rfl]
/-- every call keeps the invariant, and the two answer alike -/
theorem every_step (n : Nat) (M : Mem) (c : Nat) (a1 a2 a3 a4 : Int32) (_ : c < 32) (h : INV n M) : ∃ g M2, St c n M a1 a2 a3 a4 g M2 ∧ INV (n + g) M2 := by
  match c with
  | 0 => exact st_corner h
  | 1 => exact st_close h
  | 2 => exact st_open h
  | 3 => exact st_clear h
  | 4 => exact st_check h
  | 5 => exact st_clash h
  | 6 => exact st_piece h
  | 7 => exact st_seam h
  | 8 => exact st_keep h
  | 9 => exact st_place h
  | 10 => exact st_frame h
  | 11 => exact st_mismatch h
  | 12 => exact st_swap h
  | 13 => exact st_area h
  | 14 => exact st_need h
  | 15 => exact st_cut h
  | 16 => exact st_count h
  | k + 17 => exact ⟨0, M, ⟨rfl, rfl⟩, h⟩
