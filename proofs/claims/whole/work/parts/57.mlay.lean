/-! the model lays the cuts -/
def laidB (f : Nat → Nat) : Nat → Nat → Bool
  | 0, _ => false
  | i + 1, k => laidB f i k || decide (f i = k)
theorem laidB_iff {f : Nat → Nat} : ∀ i k, laidB f i k = true ↔ ∃ t, t < i ∧ f t = k
  | 0, k => ⟨fun h => absurd h (by simp [laidB]), fun ⟨t, h, _⟩ => absurd h (by omega)⟩
  | i + 1, k => by
    unfold laidB
    rw [Bool.or_eq_true, decide_eq_true_eq, laidB_iff i k]
    constructor
    · rintro (⟨t, h1, h2⟩ | h)
      · exact ⟨t, by omega, h2⟩
      · exact ⟨i, by omega, h⟩
    · rintro ⟨t, h1, h2⟩
      by_cases c : t = i
      · right; rw [← c]; exact h2
      · left; exact ⟨t, by omega, h2⟩
section My
variable {cl : List Ct} {f : Nat → Nat} {N0 N : Mem}
def MY (cl : List Ct) (f : Nat → Nat) (N0 N : Mem) (i : Nat) : Prop :=
  (∀ k j, k ≠ 42 → k ≠ 44 → k ≠ 45 → k ≠ 46 → k ≠ 47 → ¬ (k = 27 ∧ (j = 23 ∨ j = 24)) → N k j = N0 k j) ∧ N 27 23 = nI (lyN cl f i).2.1 ∧ N 27 24 = nI (lyN cl f i).2.2.1 ∧ (∀ t, t < (lyN cl f i).2.1 → N 47 t = nI ((lyN cl f i).1 t)) ∧ (∀ t, t < i → N 44 t = nI (f t) ∧ N 45 t = nI ((lyN cl f i).2.2.2.1 t) ∧ N 46 t = nI ((lyN cl f i).2.2.2.2 t)) ∧ ∀ k, k < cl.length → N 42 k = b2i (laidB f i k)
theorem nextCut_eq (hn : cl.length ≤ 903) (hsp : SP cl f) (h14 : N 27 14 = nI cl.length) (hs : ∀ i, i < cl.length → N 39 i = cuL cl i ∧ N 40 i = cuH cl i) {i : Nat} (hi : i < cl.length) (h42 : ∀ k, k < cl.length → N 42 k = b2i (laidB f i k)) : X5_nextCut N = some (nI (f i)) := by
  obtain ⟨p1, p2, p3⟩ := hsp
  have inj : ∀ a b, a < b → b < cl.length → f a ≠ f b := fun a b h1 h2 e => bf_irr (cl := cl) (a := f b) (by have := p3 a b h1 h2; rw [e] at this; exact this)
  have unl : laidB f i (f i) = false := by
    cases h : laidB f i (f i) with
    | false => rfl
    | true =>
      obtain ⟨t, h1, h2⟩ := (laidB_iff i (f i)).mp h
      exact absurd h2 (inj t i h1 hi)
  have base : ∀ (b : Int32) (m : Nat), m < cl.length → (laidB f i m = true → X5_nextCut_L4 N (b, nI m) = some (.inl (b, nI (m + 1)))) ∧ (laidB f i m = false → (b = -1 → X5_nextCut_L4 N (b, nI m) = some (.inl (nI m, nI (m + 1)))) ∧ ∀ x, b = nI x → x < cl.length → (gbf cl m x → X5_nextCut_L4 N (b, nI m) = some (.inl (nI m, nI (m + 1)))) ∧ (¬ gbf cl m x → X5_nextCut_L4 N (b, nI m) = some (.inl (b, nI (m + 1))))) := by
    intro b m hm
    have g0 : ¬ nI cl.length ≤ nI m := nI_ge hm (by omega)
    refine ⟨fun hl => ?_, fun hl => ⟨fun hb => ?_, fun x hb hx => ?_⟩⟩
    · unfold X5_nextCut_L4 X5_nextCut_L4_j75 X5_nextCut_L4_j76 X5_nextCut_L4_j86
      rw [un2_s, h14, if_neg g0, ldN (show m < 1000 by omega) (by decide), h42 m hm, hl, if_neg (by decide), if_pos rfl, bnd_s, nI_1]
    · unfold X5_nextCut_L4 X5_nextCut_L4_j71 X5_nextCut_L4_j76 X5_nextCut_L4_j86
      rw [un2_s, h14, if_neg g0, ldN (show m < 1000 by omega) (by decide), h42 m hm, hl, if_pos (show b2i false = 0 from rfl), if_pos hb, if_neg (by decide), bnd_s, nI_1]
    · obtain ⟨a1, a2⟩ := hs m hm
      obtain ⟨b1, b2⟩ := hs x hx
      have bs : X5_nextCut_L4 N (b, nI m) = if cuH cl x < cuH cl m then some (.inl (nI m, nI (m + 1))) else if cuH cl m = cuH cl x then (if cuL cl m ≤ cuL cl x then some (.inl (b, nI (m + 1))) else some (.inl (nI m, nI (m + 1)))) else some (.inl (b, nI (m + 1))) := by
        unfold X5_nextCut_L4 X5_nextCut_L4_j71 X5_nextCut_L4_j75 X5_nextCut_L4_j76 X5_nextCut_L4_j86
        rw [un2_s, h14, if_neg g0, ldN (show m < 1000 by omega) (by decide), h42 m hm, hl, if_pos (show b2i false = 0 from rfl), if_neg (by rw [hb, nI_m1 (by omega)]; exact id)]
        simp only [hb, ldN (show m < 1000 by omega) (show 1000 < 2147483648 by decide), ldN (show x < 1000 by omega) (show 1000 < 2147483648 by decide), a1, a2, b1, b2, bnd_s, nI_1, i10, if_false, if_true]
      rw [bs]
      unfold gbf
      by_cases c1 : cuH cl x < cuH cl m
      · rw [if_pos c1]
        exact ⟨fun _ => rfl, fun h => absurd (Or.inl c1) h⟩
      · rw [if_neg c1]
        by_cases c2 : cuH cl m = cuH cl x
        · rw [if_pos c2]
          by_cases c3 : cuL cl m ≤ cuL cl x
          · rw [if_pos c3]
            refine ⟨fun h => ?_, fun _ => rfl⟩
            rcases h with h | h
            · exact absurd h c1
            · exact absurd h.2 (Int32.not_lt.mpr c3)
          · rw [if_neg c3]
            exact ⟨fun _ => rfl, fun h => absurd (Or.inr ⟨c2, Int32.not_le.mp c3⟩) h⟩
        · rw [if_neg c2]
          refine ⟨fun h => ?_, fun _ => rfl⟩
          rcases h with h | h
          · exact absurd h c1
          · exact absurd h.1 c2
  obtain ⟨ex, q1, q2⟩ := loop_inv (B := X5_nextCut_L4 N) (fun m st => st.2 = nI m ∧ ((st.1 = -1 ∧ ∀ k, k < m → laidB f i k = true) ∨ ∃ b, b < m ∧ st.1 = nI b ∧ laidB f i b = false ∧ ∀ k, k < m → laidB f i k = false → k = b ∨ bf cl b k)) (Q := fun ex => ex = nI (f i)) cl.length 0 cl.length 3000 (by omega) (by omega)
    (by
      rintro m ⟨b, c⟩ hm ⟨e1, e2⟩
      simp only at e1 e2
      subst e1
      obtain ⟨u1, u2⟩ := base b m hm
      cases hl : laidB f i m with
      | true =>
        refine ⟨(b, nI (m + 1)), u1 hl, rfl, ?_⟩
        rcases e2 with ⟨e2, e3⟩ | ⟨x, e2, e3, e4, e5⟩
        · refine Or.inl ⟨e2, fun k hk => ?_⟩
          by_cases c : k = m
          · rw [c]; exact hl
          · exact e3 k (by omega)
        · refine Or.inr ⟨x, by omega, e3, e4, fun k hk hk2 => ?_⟩
          by_cases c : k = m
          · rw [c, hl] at hk2; exact absurd hk2 (by decide)
          · exact e5 k (by omega) hk2
      | false =>
        obtain ⟨v1, v2⟩ := u2 hl
        rcases e2 with ⟨e2, e3⟩ | ⟨x, e2, e3, e4, e5⟩
        · refine ⟨(nI m, nI (m + 1)), v1 e2, rfl, Or.inr ⟨m, by omega, rfl, hl, fun k hk hk2 => ?_⟩⟩
          by_cases c : k = m
          · exact Or.inl c
          · rw [e3 k (by omega)] at hk2; exact absurd hk2 (by decide)
        · obtain ⟨w1, w2⟩ := v2 x e3 (by omega)
          by_cases c : gbf cl m x
          · refine ⟨(nI m, nI (m + 1)), w1 c, rfl, Or.inr ⟨m, by omega, rfl, hl, fun k hk hk2 => ?_⟩⟩
            by_cases d : k = m
            · exact Or.inl d
            · have hmx := (bf_gt e2).1 c
              rcases e5 k (by omega) hk2 with e | e
              · right; rw [e]; exact hmx
              · right; exact bf_trans hmx e
          · refine ⟨(b, nI (m + 1)), w2 c, rfl, Or.inr ⟨x, by omega, e3, e4, fun k hk hk2 => ?_⟩⟩
            by_cases d : k = m
            · right; rw [d]; exact (bf_gt e2).2 c
            · exact e5 k (by omega) hk2)
    (by
      rintro ⟨b, c⟩ ⟨e1, e2⟩
      simp only at e1 e2
      subst e1
      refine ⟨b, ?_, ?_⟩
      · unfold X5_nextCut_L4
        rw [un2_s, h14, if_pos (nI_le (Nat.le_refl _) (by omega))]
      · rcases e2 with ⟨e2, e3⟩ | ⟨x, e2, e3, e4, e5⟩
        · have := e3 (f i) (p1 i hi)
          rw [unl] at this
          exact absurd this (by decide)
        · rw [e3]
          rcases e5 (f i) (p1 i hi) unl with e | e
          · rw [e]
          · obtain ⟨t, ht, et⟩ := p2 x e2
            by_cases c : t < i
            · have := (laidB_iff i x).mpr ⟨t, c, et⟩
              rw [e4] at this
              exact absurd this (by decide)
            · by_cases d : t = i
              · rw [← et, d]
              · have := p3 i t (by omega) ht
                rw [et] at this
                exact absurd (bf_trans this e) bf_irr)
    (-1, 0) ⟨rfl, Or.inl ⟨rfl, fun k hk => absurd hk (by omega)⟩⟩
  unfold X5_nextCut
  rw [q1, q2]
  rfl
theorem strip5_eq {U len a : Nat} {u : Nat → Nat} {c2 : Int32} (hU : U < 1000) (hl : len ≤ 1008) (ha : a < 1000) (h23 : N 27 23 = nI U) (h39 : N 39 a = nI len) (h47 : ∀ t, t < U → N 47 t = nI (u t) ∧ u t ≤ 1008) : loop (X5_lay_L63 N c2 (nI a)) 3000 (0 : Int32) = some (nI (ff u len U 0)) := by
  obtain ⟨s1, s2, s3, s4⟩ := ff_spec u len U 0
  rw [Nat.zero_add] at s2 s4
  have st : ∀ t, t < U → X5_lay_L63 N c2 (nI a) (nI t) = if u t + len ≤ 1008 then some (.inr (nI t)) else some (.inl (nI (t + 1))) := by
    intro t ht
    obtain ⟨e1, e2⟩ := h47 t ht
    unfold X5_lay_L63
    rw [un1_s, h23, if_neg (nI_ge ht (by omega)), ldN (show t < 1000 by omega) (by decide), e1, ldN ha (by decide), h39, nI_add, show (1008 : Int32) = nI 1008 from rfl]
    simp only [nI_le_iff (show u t + len < 2147483648 by omega) (show 1008 < 2147483648 by omega), bnd_s, nI_1]
  rw [show (0 : Int32) = nI 0 from rfl]
  refine loop_at nI (ff u len U 0) ?_ (ff u len U 0) 0 3000 (by omega) (by omega) (fun t _ ht => by rw [st t (by omega), if_neg (s3 t (by omega) ht)])
  by_cases c : ff u len U 0 < U
  · rw [st _ c, if_pos (s4 c)]
  · rw [show ff u len U 0 = U by omega]
    unfold X5_lay_L63
    rw [un1_s, h23, if_pos (nI_le (Nat.le_refl _) (by omega))]
theorem my_step (hn : cl.length ≤ 903) (hz : Sz cl) (hsp : SP cl f) (h14 : N0 27 14 = nI cl.length) (hs : ∀ i, i < cl.length → N0 39 i = cuL cl i ∧ N0 40 i = cuH cl i) {i : Nat} (hi : i < cl.length) (h : MY cl f N0 N i) : ∃ N', X5_lay_L40 (nI i, N) = some (.inl (nI (i + 1), N')) ∧ MY cl f N0 N' (i + 1) := by
  obtain ⟨h1, h2, h3, h4, h5, h6⟩ := h
  have hf := hsp.1
  obtain ⟨v1, v2⟩ := ly_inv hz hf i (by omega)
  obtain ⟨a, b, l1, l2, e1, e2⟩ := hz (f i) (hf i hi)
  have hfi := hf i hi
  have n14 : N 27 14 = nI cl.length := by rw [h1 _ _ (by omega) (by omega) (by omega) (by omega) (by omega) (by omega)]; exact h14
  have nz : ∀ i, i < cl.length → N 39 i = cuL cl i ∧ N 40 i = cuH cl i := fun i hi => by rw [h1 _ _ (by omega) (by omega) (by omega) (by omega) (by omega) (by omega), h1 _ _ (by omega) (by omega) (by omega) (by omega) (by omega) (by omega)]; exact hs i hi
  have nc := nextCut_eq hn hsp n14 nz hi h6
  have n39 : N 39 (f i) = nI a := (nz _ hfi).1.trans e1
  have n40 : N 40 (f i) = nI b := (nz _ hfi).2.trans e2
  have sf := strip5_eq (N := wr N 42 (f i) 1) (U := (lyN cl f i).2.1) (len := a) (a := f i) (u := (lyN cl f i).1) (c2 := nI i) (by omega) l1 (by omega) (by rw [wr_ne (by omega)]; exact h2) (by rw [wr_ne (by omega)]; exact n39) (fun t ht => ⟨by rw [wr_ne (by omega)]; exact h4 t ht, v2 t ht⟩)
  obtain ⟨s1, s2, s3, s4⟩ := ff_spec (lyN cl f i).1 a (lyN cl f i).2.1 0
  rw [Nat.zero_add] at s2 s4
  have eN : lyN cl f (i + 1) = ly1 a b i (lyN cl f i) := by
    show ly1 _ _ _ _ = _
    rw [e1, e2, nI_clamp (by omega), nI_clamp (by omega)]
  have q42 : ∀ k, k < cl.length → (wr N 42 (f i) 1) 42 k = b2i (laidB f (i + 1) k) := by
    intro k hk
    unfold laidB
    by_cases c : k = f i
    · rw [c, wr_at, if_pos ⟨rfl, rfl⟩]
      simp [b2i]
    · rw [wr_ne (by omega), h6 k hk]
      have : ¬ f i = k := fun e => c e.symm
      simp [this]
  unfold MY
  rw [eN]
  generalize lyN cl f i = q at *
  have base : X5_lay_L40 (nI i, N) = X5_lay_L40_j98 (wr N 42 (f i) 1) (nI i) (nI (f i)) (nI (ff q.1 a q.2.1 0)) := by
    unfold X5_lay_L40
    rw [un2_s, n14, if_neg (nI_ge hi (by omega)), nc, bd1_s, chk1, stoN (show f i < 1000 by omega) (by decide), sf, bd1_s]
  have p1 : ∀ k j, k ≠ 42 → (wr N 42 (f i) 1) k j = N k j := fun k j hk => wr_ne (fun e => hk e.1)
  generalize hP : wr N 42 (f i) 1 = P at *
  have j140 : ∀ (P : Mem) (s x : Nat), s < 1000 → P 47 s = nI x → P 39 (f i) = nI a → X5_lay_L40_j140 P (nI i) (nI (f i)) (nI s) = some (.inl (nI (i + 1), wr (wr (wr (wr P 44 i (nI (f i))) 45 i (nI s)) 46 i (nI x)) 47 s (nI (x + a)))) := by
    intro P s x hs1 p1 p2
    unfold X5_lay_L40_j140
    rw [stoN (show i < 1000 by omega) (by decide), stoN (show i < 1000 by omega) (by decide), ldN hs1 (by decide), wr_ne (by omega), wr_ne (by omega), p1, stoN (show i < 1000 by omega) (by decide), ldN hs1 (by decide), wr_ne (by omega), wr_ne (by omega), wr_ne (by omega), p1, ldN (show f i < 1000 by omega) (by decide), wr_ne (by omega), wr_ne (by omega), wr_ne (by omega), p2, stoN hs1 (by decide), bnd_s, nI_1, nI_add]
  rw [base]
  unfold X5_lay_L40_j98
  rw [p1 27 23 (by omega), h2]
  by_cases c : ff q.1 a q.2.1 0 = q.2.1
  · rw [ly1_new c, c, if_pos rfl]
    refine ⟨wr (wr (wr (wr (wr (wr (wr P 47 q.2.1 0) 27 23 (nI (q.2.1 + 1))) 27 24 (nI (q.2.2.1 + b))) 44 i (nI (f i))) 45 i (nI q.2.1)) 46 i (nI 0)) 47 q.2.1 (nI (0 + a)), ?_, fun k j w1 w2 w3 w4 w5 w6 => ?_, ?_, ?_, fun t ht => ?_, fun t ht => ⟨?_, ?_, ?_⟩, fun k hk => ?_⟩
    · rw [stoN (by omega) (by decide), wr_ne (by omega), p1 27 23 (by omega), h2, nI_1, bnd_s, ldN (show f i < 1000 by omega) (by decide), wr_ne (by omega), wr_ne (by omega), p1 27 24 (by omega), h3, wr_ne (by omega), wr_ne (by omega), p1 40 _ (by omega), n40, nI_add, bnd_s]
      refine j140 _ q.2.1 0 (by omega) ?_ ?_
      · rw [wr_ne (by omega), wr_ne (by omega), wr_at, if_pos ⟨rfl, rfl⟩]; rfl
      · rw [wr_ne (by omega), wr_ne (by omega), wr_ne (by omega), p1 39 _ (by omega), n39]
    · rw [wr_ne (by omega), wr_ne (by omega), wr_ne (by omega), wr_ne (by omega), wr_ne (by omega), wr_ne (by omega), wr_ne (by omega), p1 k j w1]
      exact h1 k j w1 w2 w3 w4 w5 w6
    · rw [wr_ne (by omega), wr_ne (by omega), wr_ne (by omega), wr_ne (by omega), wr_ne (by omega), wr_at, if_pos ⟨rfl, rfl⟩]
    · rw [wr_ne (by omega), wr_ne (by omega), wr_ne (by omega), wr_ne (by omega), wr_at, if_pos ⟨rfl, rfl⟩]
    · simp only at ht ⊢
      by_cases d : t = q.2.1
      · rw [d, wr_at, if_pos ⟨rfl, rfl⟩, if_pos rfl, Nat.zero_add]
      · rw [if_neg d, wr_ne (by omega), wr_ne (by omega), wr_ne (by omega), wr_ne (by omega), wr_ne (by omega), wr_ne (by omega), wr_ne (by omega), p1 47 _ (by omega)]
        exact h4 t (by omega)
    · by_cases d : t = i
      · rw [d, wr_ne (by omega), wr_ne (by omega), wr_ne (by omega), wr_at, if_pos ⟨rfl, rfl⟩]
      · rw [wr_ne (by omega), wr_ne (by omega), wr_ne (by omega), wr_ne (by omega), wr_ne (by omega), wr_ne (by omega), wr_ne (by omega), p1 44 _ (by omega)]
        exact (h5 t (by omega)).1
    · simp only
      by_cases d : t = i
      · rw [d, if_pos rfl, wr_ne (by omega), wr_ne (by omega), wr_at, if_pos ⟨rfl, rfl⟩]
      · rw [if_neg d, wr_ne (by omega), wr_ne (by omega), wr_ne (by omega), wr_ne (by omega), wr_ne (by omega), wr_ne (by omega), wr_ne (by omega), p1 45 _ (by omega)]
        exact (h5 t (by omega)).2.1
    · simp only
      by_cases d : t = i
      · rw [d, if_pos rfl, wr_ne (by omega), wr_at, if_pos ⟨rfl, rfl⟩]
      · rw [if_neg d, wr_ne (by omega), wr_ne (by omega), wr_ne (by omega), wr_ne (by omega), wr_ne (by omega), wr_ne (by omega), wr_ne (by omega), p1 46 _ (by omega)]
        exact (h5 t (by omega)).2.2
    · rw [wr_ne (by omega), wr_ne (by omega), wr_ne (by omega), wr_ne (by omega), wr_ne (by omega), wr_ne (by omega), wr_ne (by omega)]
      exact q42 k hk
  · have c' : ff q.1 a q.2.1 0 < q.2.1 := by omega
    rw [ly1_old rfl c', if_neg (by rw [nI_eq_iff (by omega) (by omega)]; exact c)]
    generalize ff q.1 a q.2.1 0 = s at *
    refine ⟨wr (wr (wr (wr P 44 i (nI (f i))) 45 i (nI s)) 46 i (nI (q.1 s))) 47 s (nI (q.1 s + a)), j140 P s (q.1 s) (by omega) (by rw [p1 47 _ (by omega)]; exact h4 s c') (by rw [p1 39 _ (by omega)]; exact n39), fun k j w1 w2 w3 w4 w5 w6 => ?_, ?_, ?_, fun t ht => ?_, fun t ht => ⟨?_, ?_, ?_⟩, fun k hk => ?_⟩
    · rw [wr_ne (by omega), wr_ne (by omega), wr_ne (by omega), wr_ne (by omega), p1 k j w1]
      exact h1 k j w1 w2 w3 w4 w5 w6
    · rw [wr_ne (by omega), wr_ne (by omega), wr_ne (by omega), wr_ne (by omega), p1 _ _ (by omega)]; exact h2
    · rw [wr_ne (by omega), wr_ne (by omega), wr_ne (by omega), wr_ne (by omega), p1 _ _ (by omega)]; exact h3
    · simp only at ht ⊢
      by_cases d : t = s
      · rw [d, wr_at, if_pos ⟨rfl, rfl⟩, if_pos rfl]
      · rw [if_neg d, wr_ne (by omega), wr_ne (by omega), wr_ne (by omega), wr_ne (by omega), p1 _ _ (by omega)]
        exact h4 t ht
    · by_cases d : t = i
      · rw [d, wr_ne (by omega), wr_ne (by omega), wr_ne (by omega), wr_at, if_pos ⟨rfl, rfl⟩]
      · rw [wr_ne (by omega), wr_ne (by omega), wr_ne (by omega), wr_ne (by omega), p1 _ _ (by omega)]
        exact (h5 t (by omega)).1
    · simp only
      by_cases d : t = i
      · rw [d, if_pos rfl, wr_ne (by omega), wr_ne (by omega), wr_at, if_pos ⟨rfl, rfl⟩]
      · rw [if_neg d, wr_ne (by omega), wr_ne (by omega), wr_ne (by omega), wr_ne (by omega), p1 _ _ (by omega)]
        exact (h5 t (by omega)).2.1
    · simp only
      by_cases d : t = i
      · rw [d, if_pos rfl, wr_ne (by omega), wr_at, if_pos ⟨rfl, rfl⟩]
      · rw [if_neg d, wr_ne (by omega), wr_ne (by omega), wr_ne (by omega), wr_ne (by omega), p1 _ _ (by omega)]
        exact (h5 t (by omega)).2.2
    · rw [wr_ne (by omega), wr_ne (by omega), wr_ne (by omega), wr_ne (by omega)]
      exact q42 k hk
theorem X5_lay_eq {M : Mem} {l1 : Int32} {hf : Nat → Bool} (hn : cl.length ≤ 903) (hz : Sz cl) (hsp : SP cl f) (hl : X5_list M l1 = some N) (h : CL M N (cl, hf)) : ∃ N', X5_lay M l1 = some N' ∧ (∀ k j, ¬ (39 ≤ k ∧ k ≤ 47) → ¬ (k = 27 ∧ (j = 14 ∨ j = 23 ∨ j = 24)) → N' k j = M k j) ∧ N' 27 14 = nI cl.length ∧ N' 27 23 = nI (lyN cl f cl.length).2.1 ∧ N' 27 24 = nI (lyN cl f cl.length).2.2.1 ∧ ∀ i, i < cl.length → N' 39 i = cuL cl i ∧ N' 40 i = cuH cl i ∧ N' 41 i = cuK cl i ∧ N' 44 i = nI (f i) ∧ N' 45 i = nI ((lyN cl f cl.length).2.2.2.1 i) ∧ N' 46 i = nI ((lyN cl f cl.length).2.2.2.2 i) := by
  obtain ⟨c1, c2, c3, c4⟩ := h
  simp only at c2 c3
  have b14 : ∀ k j, ¬ (k = 27 ∧ (j = 23 ∨ j = 24)) → (wr (wr N 27 23 0) 27 24 0) k j = N k j := fun k j hk => by rw [wr_ne (by omega), wr_ne (by omega)]
  have e27 : ∀ i, clrN (wr (wr N 27 23 0) 27 24 0) 42 0 i 27 14 = nI cl.length := fun i => by rw [clrN_at, if_neg (by omega), b14 _ _ (by omega), c2]
  have l17 : loop X5_lay_L17 3000 ((0 : Int32), wr (wr N 27 23 0) 27 24 0) = some (clrN (wr (wr N 27 23 0) 27 24 0) 42 0 cl.length) := by
    refine loop_for (fun i => (nI i, clrN (wr (wr N 27 23 0) 27 24 0) 42 0 i)) cl.length (by omega) (fun i hi => ?_) ?_
    · unfold X5_lay_L17
      rw [un2_s, e27, if_neg (nI_ge hi (by omega)), chk0, stoN (show i < 1000 by omega) (by decide), bnd_s, nI_1]
      conv => rhs; unfold clrN
      rw [Nat.zero_add]
    · unfold X5_lay_L17
      rw [un2_s, e27, if_pos (nI_le (Nat.le_refl _) (by omega))]
  obtain ⟨N1, a1, a2⟩ := loop_inv (B := X5_lay_L40) (fun i st => st.1 = nI i ∧ MY cl f N st.2 i) (Q := fun N' => MY cl f N N' cl.length) cl.length 0 cl.length 3000 (by omega) (by omega)
    (by
      rintro i ⟨c1, N1⟩ hi ⟨e1, e2⟩
      simp only at e1 e2
      subst e1
      obtain ⟨N2, q1, q2⟩ := my_step hn hz hsp c2 (fun i hi => ⟨(c3 i hi).1, (c3 i hi).2.1⟩) hi e2
      exact ⟨(nI (i + 1), N2), q1, rfl, q2⟩)
    (by
      rintro ⟨c1, N1⟩ ⟨e1, e2⟩
      simp only at e1 e2
      subst e1
      refine ⟨N1, ?_, e2⟩
      unfold X5_lay_L40
      rw [un2_s, e2.1 _ _ (by omega) (by omega) (by omega) (by omega) (by omega) (by omega), c2, if_pos (nI_le (Nat.le_refl _) (by omega))])
    (0, clrN (wr (wr N 27 23 0) 27 24 0) 42 0 cl.length) ⟨rfl, fun k j w1 w2 w3 w4 w5 w6 => by show clrN _ _ _ _ k j = _; rw [clrN_at, if_neg (by omega), b14 k j w6], by show clrN (wr (wr N 27 23 0) 27 24 0) 42 0 cl.length 27 23 = _; rw [clrN_at, if_neg (by omega), wr_ne (by omega), wr_at, if_pos ⟨rfl, rfl⟩]; rfl, by show clrN (wr (wr N 27 23 0) 27 24 0) 42 0 cl.length 27 24 = _; rw [clrN_at, if_neg (by omega), wr_at, if_pos ⟨rfl, rfl⟩]; rfl, fun t ht => absurd ht (by simp [lyN]), fun t ht => absurd ht (by omega), fun k hk => by show clrN _ _ _ _ 42 k = _; rw [clrN_at, if_pos (by omega)]; rfl⟩
  obtain ⟨d1, d2, d3, d4, d5, d6⟩ := a2
  refine ⟨N1, ?_, fun k j w1 w2 => ?_, ?_, d2, d3, fun i hi => ?_⟩
  · unfold X5_lay
    rw [hl, bd1_s, bnd_s, bnd_s, l17, bd1_s, a1]
    rfl
  · rw [d1 k j (by omega) (by omega) (by omega) (by omega) (by omega) (by omega)]
    exact c1 k j (by omega) (by omega) (by omega) (by omega) (by omega)
  · rw [d1 _ _ (by omega) (by omega) (by omega) (by omega) (by omega) (by omega)]; exact c2
  · rw [d1 39 i (by omega) (by omega) (by omega) (by omega) (by omega) (by omega), d1 40 i (by omega) (by omega) (by omega) (by omega) (by omega) (by omega), d1 41 i (by omega) (by omega) (by omega) (by omega) (by omega) (by omega)]
    exact ⟨(c3 i hi).1, (c3 i hi).2.1, (c3 i hi).2.2, d5 i hi⟩
end My
