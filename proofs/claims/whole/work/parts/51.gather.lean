/-! the class gathers the cuts -/
theorem loop_inv {S Ex : Type} {B : S → Option (S ⊕ Ex)} (I : Nat → S → Prop) {Q : Ex → Prop} : ∀ (d a N fuel : Nat), a + d = N → d < fuel → (∀ i st, i < N → I i st → ∃ st', B st = some (.inl st') ∧ I (i + 1) st') → (∀ st, I N st → ∃ ex, B st = some (.inr ex) ∧ Q ex) → ∀ st, I a st → ∃ ex, loop B fuel st = some ex ∧ Q ex := by
  intro d
  induction d with
  | zero =>
    intro a N fuel h1 h2 hs he st hi
    obtain ⟨k, rfl⟩ : ∃ k, fuel = k + 1 := ⟨fuel - 1, by omega⟩
    have : a = N := by omega
    subst this
    obtain ⟨ex, h3, h4⟩ := he st hi
    exact ⟨ex, loop_out h3, h4⟩
  | succ d ih =>
    intro a N fuel h1 h2 hs he st hi
    obtain ⟨k, rfl⟩ : ∃ k, fuel = k + 1 := ⟨fuel - 1, by omega⟩
    obtain ⟨st', h3, h4⟩ := hs a st (by omega) hi
    obtain ⟨ex, h5, h6⟩ := ih (a + 1) N k (by omega) (by omega) hs he st' h4
    exact ⟨ex, (loop_in h3).trans h5, h6⟩
theorem getD_lo {l l' : List Ct} {i : Nat} {d : Ct} (h : i < l.length) : (l ++ l').getD i d = l.getD i d := by
  rw [List.getD_eq_getElem?_getD, List.getD_eq_getElem?_getD, List.getElem?_append_left h]
theorem getD_at {l : List Ct} {x d : Ct} : (l ++ [x]).getD l.length d = x := by
  rw [List.getD_eq_getElem?_getD]
  simp
theorem b2i_not {b : Bool} : (1 : Int32) - b2i b = b2i (!b) := by cases b <;> rfl
/-- the cuts and the halves that are left, in the class -/
def CG (M N : Mem) (G : Gs) : Prop :=
  (∀ k i, k ≠ 18 → k ≠ 19 → k ≠ 20 → k ≠ 21 → ¬ (k = 17 ∧ i = 1) → N k i = M k i) ∧ N 17 1 = nI G.1.length ∧ (∀ i, i < G.1.length → N 18 i = cuL G.1 i ∧ N 19 i = cuH G.1 i ∧ N 20 i = cuK G.1 i) ∧ ∀ e, e < 97 → N 21 e = b2i (G.2 e)
section Gat
variable {M N : Mem} {G : Gs}
theorem gcut (h : CG M N G) (hl : G.1.length < 903) (a b k : Int32) : ∃ N', X0_gatherCut N a b k = some N' ∧ CG M N' (G.1 ++ [(a, b, k)], G.2) := by
  obtain ⟨h1, h2, h3, h4⟩ := h
  refine ⟨wr (wr (wr (wr N 18 G.1.length a) 19 G.1.length b) 20 G.1.length k) 17 1 (nI (G.1.length + 1)), ?_, fun x i b1 b2 b3 b4 b5 => ?_, ?_, fun i hi => ?_, fun e he => ?_⟩
  · unfold X0_gatherCut
    rw [h2, if_neg (show ¬ (903 : Int32) ≤ nI G.1.length from nI_ge (b := 903) hl (by decide)), stoN hl (by decide), wr_ne (by omega), h2, stoN hl (by decide), wr_ne (by omega), wr_ne (by omega), h2, stoN hl (by decide), wr_ne (by omega), wr_ne (by omega), wr_ne (by omega), h2, nI_1]
    rfl
  · rw [wr_ne b5, wr_ne (by omega), wr_ne (by omega), wr_ne (by omega)]
    exact h1 x i b1 b2 b3 b4 b5
  · rw [wr_at, if_pos ⟨rfl, rfl⟩, List.length_append]
    rfl
  · rw [List.length_append] at hi
    by_cases c : i = G.1.length
    · subst c
      unfold cuL cuH cuK
      rw [getD_at]
      refine ⟨?_, ?_, ?_⟩
      · rw [wr_ne (by omega), wr_ne (by omega), wr_ne (by omega), wr_at, if_pos ⟨rfl, rfl⟩]
      · rw [wr_ne (by omega), wr_ne (by omega), wr_at, if_pos ⟨rfl, rfl⟩]
      · rw [wr_ne (by omega), wr_at, if_pos ⟨rfl, rfl⟩]
    · have hi' : i < G.1.length := by simp at hi; omega
      obtain ⟨u1, u2, u3⟩ := h3 i hi'
      simp only [cuL, cuH, cuK] at u1 u2 u3 ⊢
      rw [getD_lo hi']
      refine ⟨?_, ?_, ?_⟩
      · rw [wr_ne (by omega), wr_ne (by omega), wr_ne (by omega), wr_ne (by omega)]; exact u1
      · rw [wr_ne (by omega), wr_ne (by omega), wr_ne (by omega), wr_ne (by omega)]; exact u2
      · rw [wr_ne (by omega), wr_ne (by omega), wr_ne (by omega), wr_ne (by omega)]; exact u3
  · rw [wr_ne (by omega), wr_ne (by omega), wr_ne (by omega), wr_ne (by omega)]
    exact h4 e he
theorem ghalf (h : CG M N G) (hl : G.1.length < 903) {e : Nat} (he : e ≤ 96) : ∃ N', X0_gatherHalf N (nI e) = some N' ∧ CG M N' (if G.2 e = true then G.1 else G.1 ++ [(nI e + 21, nI e + 21, 1)], fun x => if x = e then !G.2 x else G.2 x) := by
  have fin : ∀ (N1 : Mem) (l : List Ct), CG M N1 (l, G.2) → ∃ N', X0_gatherHalf_j22 N1 (nI e) = some N' ∧ CG M N' (l, fun x => if x = e then !G.2 x else G.2 x) := by
    intro N1 l ⟨h1, h2, h3, h4⟩
    refine ⟨wr N1 21 e (b2i (!G.2 e)), ?_, fun x i b1 b2 b3 b4 b5 => ?_, ?_, fun i hi => ?_, fun x hx => ?_⟩
    · unfold X0_gatherHalf_j22
      rw [ldN (show e < 97 by omega) (by decide), stoN (show e < 97 by omega) (by decide), h4 e (by omega), b2i_not]
    · rw [wr_ne (by omega)]; exact h1 x i b1 b2 b3 b4 b5
    · rw [wr_ne (by omega)]; exact h2
    · rw [wr_ne (by omega), wr_ne (by omega), wr_ne (by omega)]; exact h3 i hi
    · by_cases c : x = e
      · subst c
        rw [wr_at, if_pos ⟨rfl, rfl⟩]
        simp
      · rw [wr_ne (by omega), h4 x hx]
        simp [c]
  unfold X0_gatherHalf
  rw [ldN (show e < 97 by omega) (by decide), h.2.2.2 e (by omega)]
  cases hb : G.2 e with
  | true =>
    rw [if_neg (by decide)]
    simp only [if_true]
    exact fin N G.1 h
  | false =>
    rw [if_pos (show b2i false = 0 from rfl)]
    simp only [Bool.false_eq_true, if_false]
    obtain ⟨N1, e1, e2⟩ := gcut h hl (nI e + 21) (nI e + 21) 1
    rw [e1]
    exact fin N1 _ e2
theorem gpieces (h : CG M N G) {m : Nat} (hl : G.1.length + m ≤ 903) (one other kind : Int32) : ∃ N', X0_gatherPieces N (nI m) one other kind = some N' ∧ CG M N' (G.1 ++ List.replicate m ((if one < other then other else one) + 12, (if other < one then other else one) + 12, kind), G.2) := by
  unfold X0_gatherPieces
  simp only [bnd_s]
  generalize (if one < other then other else one) + 12 = a
  generalize (if other < one then other else one) + 12 = b
  obtain ⟨ex, h1, h2⟩ := loop_inv (B := X0_gatherPieces_L23 (nI m) kind a b) (fun i st => st.1 = nI i ∧ CG M st.2 (G.1 ++ List.replicate i (a, b, kind), G.2)) (Q := fun N' => CG M N' (G.1 ++ List.replicate m (a, b, kind), G.2)) m 0 m 3000 (by omega) (by omega)
    (by
      rintro i ⟨c, N1⟩ hi ⟨e1, e2⟩
      simp only at e1 e2
      subst e1
      obtain ⟨N2, q1, q2⟩ := gcut e2 (by simp; omega) a b kind
      refine ⟨(nI (i + 1), N2), ?_, rfl, ?_⟩
      · simp only [X0_gatherPieces_L23, un2_s, if_neg (show ¬ nI m ≤ nI i from nI_ge hi (by omega)), q1, bd1_s, bnd_s, nI_1]
      · rw [List.replicate_succ', ← List.append_assoc]
        exact q2)
    (by
      rintro ⟨c, N1⟩ ⟨e1, e2⟩
      simp only at e1 e2
      subst e1
      refine ⟨N1, ?_, e2⟩
      simp only [X0_gatherPieces_L23, un2_s, if_pos (show nI m ≤ nI m from nI_le (Nat.le_refl _) (by omega))])
    (0, N) ⟨rfl, by simpa using h⟩
  exact ⟨ex, by rw [h1]; rfl, h2⟩
theorem mkC_eq {w h : Nat} (hw : w ≤ 96) (hh : h ≤ 96) : ((if nI w < nI h then nI h else nI w) + 12, (if nI h < nI w then nI h else nI w) + 12, (0 : Int32)) = mkC (nI w + 12) (nI h + 12) 0 := by
  unfold mkC
  rw [show (12 : Int32) = nI 12 from rfl, nI_add, nI_add]
  simp only [nI_lt_iff (show w < 2147483648 by omega) (show h < 2147483648 by omega), nI_lt_iff (show h < 2147483648 by omega) (show w < 2147483648 by omega), nI_lt_iff (show h + 12 < 2147483648 by omega) (show w + 12 < 2147483648 by omega)]
  by_cases c1 : h < w
  · simp only [if_neg (show ¬ w < h by omega), if_pos c1, if_pos (show h + 12 < w + 12 by omega), nI_add]
  · by_cases c2 : w < h
    · simp only [if_pos c2, if_neg c1, if_neg (show ¬ h + 12 < w + 12 by omega), nI_add]
    · have : w = h := by omega
      subst this
      simp only [if_neg c1, if_neg (show ¬ w + 12 < w + 12 by omega), nI_add]
theorem addP_len (V : Vw) (c p : Nat) (G : Gs) : (addP V c p G).1.length ≤ G.1.length + 1 := by
  unfold addP
  split
  · split
    · simp
    · simp only
      split <;> simp
  · omega
theorem blkN_len (V : Vw) (c : Nat) (G : Gs) : ∀ p, (blkN V c G p).1.length ≤ G.1.length + p
  | 0 => Nat.le_refl _
  | p + 1 => by
    have h1 := blkN_len V c G p
    have h2 := addP_len V c p (blkN V c G p)
    unfold blkN
    omega
theorem plN_len (T : Tp) (c : Nat) : ∀ i, (plN T c i).1.length ≤ 24 * i
  | 0 => by simp [plN]
  | i + 1 => by
    have h1 := plN_len T c i
    unfold plN
    split
    · omega
    · next V _ =>
      have := blkN_len V c (plN T c i) 24
      omega
theorem gpatch {d c p : Nat} {V : Vw} (h : CG M N G) (hl : G.1.length < 903) (hd : 49 ≤ d) (hco : COk M d) (hv : vw M d = V) (hr : Rg V) (h8 : ∀ p, V.C p ≤ 8) (hp : p < 24) : ∃ N', X0_gatherPatches_L2 d (nI c) (nI p, N) = some (.inl (nI (p + 1), N')) ∧ CG M N' (addP V c p G) := by
  have hf := h.1
  have co : COk N d := fun q hq => by rw [hf _ _ (by omega) (by omega) (by omega) (by omega) (by omega)]; exact hco q hq
  have ev : vw N d = V := by
    rw [← hv]
    refine vw_same (fun i hi => ⟨?_, ?_⟩) (fun q hq => ⟨?_, ?_⟩)
    all_goals rw [hf _ _ (by omega) (by omega) (by omega) (by omega) (by omega)]
  simp only [X0_gatherPatches_L2, X0_gatherPatches_L2_j57, un2_s, bnd_s, if_neg (s24 hp), X1_isOfCloth_eq co hp, bd1_s, X1_half_eq co hp (ev.symm ▸ hr), X1_width_eq co hp, X1_height_eq co hp, ev, nI_1]
  unfold addP
  by_cases c1 : 0 < V.C p ∧ V.L p = nI c
  · rw [if_pos c1, if_pos c1]
    simp only [i10, if_false]
    obtain ⟨e, he, ee⟩ := hs_rng hr hp
    rw [ee]
    have e0 : (nI e ≤ 0) = (e = 0) := by
      rw [show (0 : Int32) = nI 0 from rfl, nI_le_iff (by omega) (by omega)]
      exact propext (by omega)
    have e1 : (nI e = 0) = (e = 0) := nI_eq_iff (b := 0) (by omega) (by decide)
    simp only [e0, e1]
    by_cases c2 : e = 0
    · rw [if_pos c2, if_pos c2]
      obtain ⟨⟨w, hw, ew⟩, u, hu, eu⟩ := ex_rng hr h8 hp c1.1
      rw [ew, eu]
      obtain ⟨N', q1, q2⟩ := gpieces h (m := 1) (by omega) (nI w) (nI u) 0
      rw [one_eq, q1]
      refine ⟨N', rfl, ?_⟩
      rw [mkC_eq hw hu] at q2
      exact q2
    · rw [if_neg c2, if_neg c2, nI_clamp (by omega)]
      obtain ⟨N', q1, q2⟩ := ghalf h hl he
      rw [q1]
      exact ⟨N', rfl, q2⟩
  · rw [if_neg c1, if_neg c1, if_pos rfl]
    exact ⟨N, rfl, h⟩
theorem gpatches {d c : Nat} {V : Vw} (h : CG M N G) (hl : G.1.length + 24 ≤ 903) (hd : 49 ≤ d) (hco : COk M d) (hv : vw M d = V) (hr : Rg V) (h8 : ∀ p, V.C p ≤ 8) : ∃ N', X0_gatherPatches N d (nI c) = some N' ∧ CG M N' (blkN V c G 24) := by
  unfold X0_gatherPatches
  obtain ⟨ex, h1, h2⟩ := loop_inv (B := X0_gatherPatches_L2 d (nI c)) (fun i st => st.1 = nI i ∧ CG M st.2 (blkN V c G i)) (Q := fun N' => CG M N' (blkN V c G 24)) 24 0 24 3000 (by omega) (by omega)
    (by
      rintro i ⟨c1, N1⟩ hi ⟨e1, e2⟩
      simp only at e1 e2
      subst e1
      have := blkN_len V c G i
      obtain ⟨N2, q1, q2⟩ := gpatch e2 (by omega) hd hco hv hr h8 hi
      exact ⟨(nI (i + 1), N2), q1, rfl, q2⟩)
    (by
      rintro ⟨c1, N1⟩ ⟨e1, e2⟩
      simp only at e1 e2
      subst e1
      exact ⟨N1, by simp only [X0_gatherPatches_L2, un2_s]; rfl, e2⟩)
    (0, N) ⟨rfl, h⟩
  exact ⟨ex, by rw [h1]; rfl, h2⟩
end Gat
theorem fillR {M : Mem} {k z : Nat} (hz : z < 2999) : J7_fill_53178 M k z 0 = some (clrN M k 0 z) := by
  have : loop (J7_fill_53178_L5 k z 0 (nI z)) 3000 ((0 : Int32), M) = some (clrN M k 0 z) := by
    refine loop_for (fun i => (nI i, clrN M k 0 i)) z (by omega) (fun i hi => ?_) (by simp only [J7_fill_53178_L5, un2_s, if_pos (show nI z ≤ nI z from nI_le (Nat.le_refl _) (by omega))])
    simp only [J7_fill_53178_L5, un2_s, if_neg (show ¬ nI z ≤ nI i from nI_ge hi (by omega)), stoN hi (show z < 2147483648 by omega), bnd_s, nI_1, clrN, Nat.zero_add]
  simp only [J7_fill_53178, bnd_s]
  rw [show Int32.ofNat z = nI z from rfl, this]
  rfl
section Gat2
variable {n K : Nat} {M N : Mem} {G : Gs}
theorem CG.ke (h : CG M N G) (hKe : KeI K M) (hK : K ≤ 10) : N 10 1 = nI K ∧ (∀ i, N 11 i = if i < K then nI (49 + 5 * i) else 0) := by
  constructor
  · rw [h.1 _ _ (by omega) (by omega) (by omega) (by omega) (by omega)]; exact hKe.1
  · intro i
    rw [h.1 _ _ (by omega) (by omega) (by omega) (by omega) (by omega)]; exact hKe.2.2.1 i
theorem CG.ch (h : CG M N G) : Ch (fun r => r = 0 ∨ r = 5) M N := by
  intro k i hz
  refine h.1 k i (fun e => hz ?_) (fun e => hz ?_) (fun e => hz ?_) (fun e => hz ?_) (fun e => hz ?_)
  · rw [e]; right; rfl
  · rw [e]; right; rfl
  · rw [e]; right; rfl
  · rw [e]; left; rfl
  · rw [e.1]; right; rfl
theorem gplaces (hK : K ≤ 10) (hn : n = 49 + 5 * K) (hKe : KeI K M) (hT : ToI K M) {c : Nat} (h : CG M N ([], fun _ => false)) : ∃ N', loop (X0_gather_L15 n (nI c)) 3000 ((0 : Int32), N) = some N' ∧ CG M N' (plN (tp M) c 36) :=
  loop_inv (B := X0_gather_L15 n (nI c)) (fun i st => st.1 = nI i ∧ CG M st.2 (plN (tp M) c i)) (Q := fun N' => CG M N' (plN (tp M) c 36)) 36 0 36 3000 (by omega) (by omega)
    (by
      rintro i ⟨c1, N1⟩ hi ⟨e1, e2⟩
      simp only at e1 e2
      subst e1
      have hlen := plN_len (tp M) c i
      have hKe1 : KeI K N1 := hKe.keep e2.ch (by decide) hK
      have r12 : N1 12 i = M 12 i := e2.1 _ _ (by omega) (by omega) (by omega) (by omega) (by omega)
      rcases hT.at hK hi with ⟨p1, p2, p3⟩ | ⟨j, hj, p1, p2, p3⟩
      · refine ⟨(nI (i + 1), N1), ?_, rfl, ?_⟩
        · simp only [X0_gather_L15, X0_gather_L15_j40, un2_s, bnd_s, if_neg (s36 hi), X3_blockAt_0 hi (r12.trans p1), bd1_s, if_true, nI_1]
        · unfold plN
          rw [p3]
          exact e2
      · obtain ⟨d1, d2, d3, d4⟩ := hKe.2.2.2 j hj
        obtain ⟨N2, q1, q2⟩ := gpatches (c := c) e2 (by omega) (show 49 ≤ 49 + 5 * j by omega) d2 d1 d4.2 (fun p => Cm_le d3)
        refine ⟨(nI (i + 1), N2), ?_, rfl, ?_⟩
        · simp only [X0_gather_L15, X0_gather_L15_j40, un2_s, bnd_s, if_neg (s36 hi), X3_blockAt_1 hK hKe1 hi hj (r12.trans p1), bd1_s, nI_ne0' (show 0 < 49 + 5 * j by omega) (show 49 + 5 * j < 2147483648 by omega), if_false, drok_K hK hn hj, chk, if_true, nI_clamp (show 49 + 5 * j < 2147483648 by omega), q1, nI_1]
        · unfold plN
          rw [p3]
          exact q2)
    (by
      rintro ⟨c1, N1⟩ ⟨e1, e2⟩
      simp only at e1 e2
      subst e1
      exact ⟨N1, by simp only [X0_gather_L15, un2_s]; rfl, e2⟩)
    (0, N) ⟨rfl, h⟩
theorem CG.to (h : CG M N G) (hT : ToI K M) : ToI K N := hT.keep h.ch (by decide)
theorem CG.tp (h : CG M N G) (hT : ToI K M) (hK : K ≤ 10) : tp N = tp M := tp_keep h.ch (by decide) (by decide) hK hT
theorem ToI.wd {i : Nat} (h : ToI K M) (hi : i < 2) : ∃ w k, w ≤ 60 ∧ k < 12 ∧ M 14 i = nI w ∧ M 37 i = nI w ∧ M 15 i = nI k ∧ M 38 i = nI k := by
  obtain ⟨h1, ⟨w, hw, e⟩, h2, k, hk, e2⟩ := h.2 i hi
  exact ⟨w, k, hw, hk, h1.trans e, e, h2.trans e2, e2⟩
/-- the widths and the cloths of the frames -/
theorem tp_w {w0 k0 w1 k1 : Nat} (hw0 : w0 ≤ 60) (hk0 : k0 < 12) (hw1 : w1 ≤ 60) (hk1 : k1 < 12) (e1 : M 37 0 = nI w0) (e2 : M 38 0 = nI k0) (e3 : M 37 1 = nI w1) (e4 : M 38 1 = nI k1) : (tp M).2.1 = w0 ∧ (tp M).2.2.1 = w1 ∧ (tp M).2.2.2.1 = k0 ∧ (tp M).2.2.2.2 = k1 := by
  simp only [tp, e1, e2, e3, e4]
  rw [nI_clamp (by omega), nI_clamp (by omega), nI_clamp (by omega), nI_clamp (by omega)]
  exact ⟨rfl, rfl, rfl, rfl⟩
theorem acN_rng {T : Tp} {m : Nat} (h0 : 0 < m) (h6 : m ≤ 6) (hw : T.2.1 ≤ 60) : 96 ≤ acN T m ∧ acN T m ≤ 876 := by
  unfold acN
  rw [if_neg (by omega)]
  have : T.2.1 * (m - 1) ≤ 60 * 5 := Nat.mul_le_mul hw (by omega)
  omega
theorem gsash (hK : K ≤ 10) (hT : ToI K M) {c : Nat} (hc : c < 12) (hl : G.1.length ≤ 864) (h : CG M N G) (hr0 : 0 < rwN (tp M) 36) : ∃ N', (ld N 15 2 0 (fun t6 => if t6 = nI c then X0_gatherSashes N (nI (rwN (tp M) 36)) (nI (clN (tp M) 36)) else some N)) = some N' ∧ CG M N' (G.1 ++ sashL (tp M) c, G.2) := by
  obtain ⟨w0, k0, a1, a2, a3, a4, a5, a6⟩ := hT.wd (i := 0) (by omega)
  obtain ⟨w1, k1, b1, b2, b3, b4, b5, b6⟩ := hT.wd (i := 1) (by omega)
  obtain ⟨t1, t2, t3, t4⟩ := tp_w a1 a2 b1 b2 a4 a6 b4 b6
  have hr6 := rw36 (tp M)
  have hc6 := clN_le (tp M) 36
  have hc0 : 0 < clN (tp M) 36 := by
    have := pc0 (tp M) 36
    omega
  have n15 : N 15 0 = nI k0 := by rw [h.1 _ _ (by omega) (by omega) (by omega) (by omega) (by omega)]; exact a5
  rw [show (0 : Int32) = nI 0 from rfl, ldN (by omega) (by decide), n15]
  simp only [nI_eq_iff (show k0 < 2147483648 by omega) (show c < 2147483648 by omega)]
  unfold sashL
  rw [t1, t3]
  by_cases ck : k0 = c
  · rw [if_pos ck]
    unfold X0_gatherSashes
    have n14 : N 14 0 = nI w0 := by rw [h.1 _ _ (by omega) (by omega) (by omega) (by omega) (by omega)]; exact a3
    rw [show (0 : Int32) = nI 0 from rfl, ldN (by omega) (by decide), n14]
    simp only [nI_le_iff (show w0 < 2147483648 by omega) (show 0 < 2147483648 by omega)]
    by_cases cw : w0 ≤ 0
    · rw [if_pos cw, if_neg (by omega)]
      exact ⟨N, rfl, by simpa using h⟩
    · rw [if_neg cw, if_pos (by omega)]
      have hm : nI (rwN (tp M) 36) * (nI (clN (tp M) 36) - 1) = nI (rwN (tp M) 36 * (clN (tp M) 36 - 1)) := by
        rw [one_eq, nI_sub (by omega), nI_mul]
      have hle : rwN (tp M) 36 * (clN (tp M) 36 - 1) ≤ 30 := Nat.le_trans (Nat.mul_le_mul hr6 (show clN (tp M) 36 - 1 ≤ 5 by omega)) (by omega)
      obtain ⟨N1, q1, q2⟩ := gpieces h (m := rwN (tp M) 36 * (clN (tp M) 36 - 1)) (by omega) 96 (nI w0) 2
      have e96 : (96 : Int32) = nI 96 := rfl
      have g1 : ((if (96 : Int32) < nI w0 then nI w0 else 96) + 12, (if nI w0 < (96 : Int32) then nI w0 else 96) + 12, (2 : Int32)) = (108, nI (w0 + 12), 2) := by
        rw [e96]
        simp only [nI_lt_iff (show 96 < 2147483648 by omega) (show w0 < 2147483648 by omega), nI_lt_iff (show w0 < 2147483648 by omega) (show 96 < 2147483648 by omega)]
        rw [if_neg (by omega), if_pos (by omega), show (12 : Int32) = nI 12 from rfl, nI_add, nI_add]
        rfl
      rw [g1] at q2
      have ac := acN_rng (T := tp M) hc0 hc6 (by omega)
      obtain ⟨N2, q3, q4⟩ := gpieces q2 (m := rwN (tp M) 36 - 1) (by simp; omega) (nI (acN (tp M) (clN (tp M) 36))) (nI w0) 2
      have g2 : ((if nI (acN (tp M) (clN (tp M) 36)) < nI w0 then nI w0 else nI (acN (tp M) (clN (tp M) 36))) + 12, (if nI w0 < nI (acN (tp M) (clN (tp M) 36)) then nI w0 else nI (acN (tp M) (clN (tp M) 36))) + 12, (2 : Int32)) = (nI (acN (tp M) (clN (tp M) 36) + 12), nI (w0 + 12), 2) := by
        simp only [nI_lt_iff (show acN (tp M) (clN (tp M) 36) < 2147483648 by omega) (show w0 < 2147483648 by omega), nI_lt_iff (show w0 < 2147483648 by omega) (show acN (tp M) (clN (tp M) 36) < 2147483648 by omega)]
        rw [if_neg (by omega), if_pos (by omega), show (12 : Int32) = nI 12 from rfl, nI_add, nI_add]
      rw [g2] at q4
      have rc := X3_reach_eq (q2.to hT) hc0
      rw [q2.tp hT hK] at rc
      refine ⟨N2, ?_, ?_⟩
      · rw [hm, q1, bd1_s, rc, bd1_s, one_eq, nI_sub (by omega), q3]
        rfl
      · rw [← List.append_assoc]
        exact q4
  · rw [if_neg ck, if_neg (fun e => ck e.2)]
    exact ⟨N, rfl, by simpa using h⟩
theorem gbord (hK : K ≤ 10) (hT : ToI K M) {c : Nat} (hc : c < 12) (hl : G.1.length ≤ 899) (h : CG M N G) : ∃ N', X0_gather_j79 n N (nI c) (nI (rwN (tp M) 36)) (nI (clN (tp M) 36)) = some N' ∧ CG M N' (G.1 ++ bordL (tp M) c, G.2) := by
  obtain ⟨w0, k0, a1, a2, a3, a4, a5, a6⟩ := hT.wd (i := 0) (by omega)
  obtain ⟨w1, k1, b1, b2, b3, b4, b5, b6⟩ := hT.wd (i := 1) (by omega)
  obtain ⟨t1, t2, t3, t4⟩ := tp_w a1 a2 b1 b2 a4 a6 b4 b6
  have hr6 := rw36 (tp M)
  have hc6 := clN_le (tp M) 36
  have hp0 := pc0 (tp M) 36
  unfold X0_gather_j79 bordL
  rw [t2, t4, show (0 : Int32) = nI 0 from rfl]
  simp only [nI_le_iff (show rwN (tp M) 36 < 2147483648 by omega) (show 0 < 2147483648 by omega)]
  by_cases cr : rwN (tp M) 36 ≤ 0
  · rw [if_pos cr, if_neg (by omega)]
    exact ⟨N, rfl, by simpa using h⟩
  · rw [if_neg cr]
    have n15 : N 15 1 = nI k1 := by rw [h.1 _ _ (by omega) (by omega) (by omega) (by omega) (by omega)]; exact b5
    rw [one_eq, ldN (by omega) (by decide), n15]
    simp only [nI_eq_iff (show k1 < 2147483648 by omega) (show c < 2147483648 by omega)]
    by_cases ck : k1 = c
    · rw [if_pos ck]
      unfold X0_gatherBorder
      have n14 : N 14 1 = nI w1 := by rw [h.1 _ _ (by omega) (by omega) (by omega) (by omega) (by omega)]; exact b3
      rw [one_eq, ldN (by omega) (by decide), n14, show (0 : Int32) = nI 0 from rfl]
      simp only [nI_le_iff (show w1 < 2147483648 by omega) (show 0 < 2147483648 by omega)]
      by_cases cw : w1 ≤ 0
      · rw [if_pos cw, if_neg (by omega)]
        exact ⟨N, rfl, by simpa using h⟩
      · rw [if_neg cw, if_pos ⟨by omega, ck, by omega⟩]
        have hc0 : 0 < clN (tp M) 36 := by omega
        have ac := acN_rng (T := tp M) hc0 hc6 (by omega)
        have ar := acN_rng (T := tp M) (show 0 < rwN (tp M) 36 by omega) hr6 (by omega)
        have rc := X3_reach_eq (h.to hT) hc0
        rw [h.tp hT hK] at rc
        obtain ⟨N1, q1, q2⟩ := gpieces h (m := 2) (by omega) (nI (acN (tp M) (clN (tp M) 36))) (nI w1) 3
        have g1 : ((if nI (acN (tp M) (clN (tp M) 36)) < nI w1 then nI w1 else nI (acN (tp M) (clN (tp M) 36))) + 12, (if nI w1 < nI (acN (tp M) (clN (tp M) 36)) then nI w1 else nI (acN (tp M) (clN (tp M) 36))) + 12, (3 : Int32)) = (nI (acN (tp M) (clN (tp M) 36) + 12), nI (w1 + 12), 3) := by
          simp only [nI_lt_iff (show acN (tp M) (clN (tp M) 36) < 2147483648 by omega) (show w1 < 2147483648 by omega), nI_lt_iff (show w1 < 2147483648 by omega) (show acN (tp M) (clN (tp M) 36) < 2147483648 by omega)]
          rw [if_neg (by omega), if_pos (by omega), show (12 : Int32) = nI 12 from rfl, nI_add, nI_add]
        rw [g1] at q2
        have wb := X3_withBorder_eq (q2.to hT) (c := rwN (tp M) 36) (by omega)
        rw [q2.tp hT hK, if_neg (by omega), t2] at wb
        obtain ⟨N2, q3, q4⟩ := gpieces q2 (m := 2) (by simp; omega) (nI (acN (tp M) (rwN (tp M) 36) + 2 * w1)) (nI w1) 3
        have g2 : ((if nI (acN (tp M) (rwN (tp M) 36) + 2 * w1) < nI w1 then nI w1 else nI (acN (tp M) (rwN (tp M) 36) + 2 * w1)) + 12, (if nI w1 < nI (acN (tp M) (rwN (tp M) 36) + 2 * w1) then nI w1 else nI (acN (tp M) (rwN (tp M) 36) + 2 * w1)) + 12, (3 : Int32)) = (nI (acN (tp M) (rwN (tp M) 36) + 2 * w1 + 12), nI (w1 + 12), 3) := by
          simp only [nI_lt_iff (show acN (tp M) (rwN (tp M) 36) + 2 * w1 < 2147483648 by omega) (show w1 < 2147483648 by omega), nI_lt_iff (show w1 < 2147483648 by omega) (show acN (tp M) (rwN (tp M) 36) + 2 * w1 < 2147483648 by omega)]
          rw [if_neg (by omega), if_pos (by omega), show (12 : Int32) = nI 12 from rfl, nI_add, nI_add]
        rw [g2] at q4
        refine ⟨N2, ?_, ?_⟩
        · rw [rc, bd1_s, show (2 : Int32) = nI 2 from rfl, q1, bd1_s, wb, bd1_s, q3]
          rfl
        · rw [← List.append_assoc]
          exact q4
    · rw [if_neg ck, if_neg (fun e => ck e.2.1)]
      exact ⟨N, rfl, by simpa using h⟩
theorem sash_len {T : Tp} {c : Nat} : (sashL T c).length ≤ 35 := by
  unfold sashL
  split
  · have h1 := rw36 T
    have h2 := clN_le T 36
    have h3 : rwN T 36 * (clN T 36 - 1) ≤ 6 * 5 := Nat.mul_le_mul h1 (by omega)
    simp
    omega
  · simp
theorem bord_len {T : Tp} {c : Nat} : (bordL T c).length ≤ 4 := by
  unfold bordL
  split <;> simp
theorem cuts_len {T : Tp} {c : Nat} : (cuts T c).length ≤ 903 := by
  have h1 := plN_len T c 36
  have h2 := sash_len (T := T) (c := c)
  have h3 := bord_len (T := T) (c := c)
  unfold cuts
  rw [List.length_append, List.length_append]
  omega
theorem X0_gather_eq (hK : K ≤ 10) (hn : n = 49 + 5 * K) (hKe : KeI K M) (hT : ToI K M) {c : Nat} (hc : c < 12) : ∃ N' hf, X0_gather n M (nI c) = some N' ∧ CG M N' (cuts (tp M) c, hf) := by
  have h0 : CG M (clrN (wr M 17 1 0) 21 0 97) ([], fun _ => false) := by
    refine ⟨fun k i b1 b2 b3 b4 b5 => ?_, ?_, fun i hi => absurd hi (by simp), fun e he => ?_⟩
    · rw [clrN_at, if_neg (by omega), wr_ne b5]
    · rw [clrN_at, if_neg (by omega), wr_at, if_pos ⟨rfl, rfl⟩]; rfl
    · rw [clrN_at, if_pos (by omega)]; rfl
  obtain ⟨N1, q1, q2⟩ := gplaces hK hn hKe hT (c := c) h0
  have hl1 := plN_len (tp M) c 36
  have ur := X3_usedRows_eq hK (q2.to hT)
  have uc := X3_usedColumns_eq hK (q2.to hT)
  rw [q2.tp hT hK] at ur uc
  have hr6 := rw36 (tp M)
  unfold X0_gather
  rw [bnd_s, fillR (by omega), bd1_s, q1, bd1_s, ur, bd1_s, uc, bd1_s, show (0 : Int32) = nI 0 from rfl]
  simp only [nI_le_iff (show rwN (tp M) 36 < 2147483648 by omega) (show 0 < 2147483648 by omega)]
  have hls := sash_len (T := tp M) (c := c)
  by_cases cr : rwN (tp M) 36 ≤ 0
  · rw [if_pos cr]
    obtain ⟨N2, q3, q4⟩ := gbord (n := n) hK hT hc (by omega) q2
    refine ⟨N2, (plN (tp M) c 36).2, q3, ?_⟩
    have es : sashL (tp M) c = [] := by
      unfold sashL
      rw [show rwN (tp M) 36 = 0 by omega]
      split <;> simp
    unfold cuts
    rw [es, List.nil_append]
    exact q4
  · rw [if_neg cr]
    obtain ⟨N2, q3, q4⟩ := gsash (N := N1) hK hT hc (by omega) q2 (by omega)
    obtain ⟨N3, q5, q6⟩ := gbord (n := n) hK hT hc (by simp; omega) q4
    refine ⟨N3, (plN (tp M) c 36).2, ?_, ?_⟩
    · have n15 : ∃ k, k < 12 ∧ N1 15 0 = nI k := by
        obtain ⟨_, k0, _, a2, _, _, a5, _⟩ := hT.wd (i := 0) (by omega)
        exact ⟨k0, a2, by rw [q2.1 _ _ (by omega) (by omega) (by omega) (by omega) (by omega)]; exact a5⟩
      rw [show (0 : Int32) = nI 0 from rfl, ldN (by omega) (by decide)] at q3
      rw [ldN (by omega) (by decide)]
      by_cases ck : N1 15 0 = nI c
      · rw [if_pos ck] at q3 ⊢
        rw [q3, bd1_s, q5]
      · rw [if_neg ck] at q3 ⊢
        have : N1 = N2 := Option.some.inj q3
        rw [this, q5]
    · unfold cuts
      rw [← List.append_assoc]
      exact q6
end Gat2
