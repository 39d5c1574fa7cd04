/-! piece -/
/-- the four numbers of a seam -/
def nt (row : Nat) (N : Mem) (n k l r : Nat) : Mem := wr (wr (wr (wr N row (4 * n) (nI (k / 8))) row (4 * n + 1) (nI (k % 8))) row (4 * n + 2) (nI (cb l 24))) row (4 * n + 3) (nI (cb r 24))
theorem nt_ne {row n k l r a b : Nat} {N : Mem} (h : a ≠ row) : nt row N n k l r a b = N a b := by
  unfold nt
  rw [wr_ne (fun e => h e.1), wr_ne (fun e => h e.1), wr_ne (fun e => h e.1), wr_ne (fun e => h e.1)]
theorem nt_lo {row n k l r b : Nat} {N : Mem} (h : b < 4 * n) : nt row N n k l r row b = N row b := by
  unfold nt
  rw [wr_ne (by omega), wr_ne (by omega), wr_ne (by omega), wr_ne (by omega)]
theorem nt_hi {row row' n k l r b : Nat} {N N' : Mem} (h1 : 4 * n ≤ b) (h2 : b < 4 * (n + 1)) : nt row N n k l r row b = nt row' N' n k l r row' b := by
  unfold nt
  have : b = 4 * n ∨ b = 4 * n + 1 ∨ b = 4 * n + 2 ∨ b = 4 * n + 3 := by omega
  simp only [wr_at]
  rcases this with rfl | rfl | rfl | rfl <;> simp
theorem div8k {k : Nat} (hk : k < 192) : nI k / 8 = nI (k / 8) ∧ nI k - nI (k / 8) * 8 = nI (k % 8) := by
  have h1 := nI_div (a := k) (b := 8) (by omega) (by decide) (by decide)
  have h2 := nI_rem (a := k) (b := 8) (by omega) (by decide) (by decide)
  rw [show nI 8 = 8 from rfl] at h1 h2
  rw [h1] at h2
  exact ⟨h1, h2⟩
theorem X2_noteSeam_eq {N : Mem} {n k l r : Nat} (hn : n < 23) (hk : k < 192) (hl : l < 16777216) (hr : r < 16777216) : X2_noteSeam N (nI n) (nI k) (nI l) (nI r) = some (nt 8 N n k l r) := by
  obtain ⟨d1, d2⟩ := div8k hk
  simp only [X2_noteSeam, bnd_s, d1, d2]
  rw [show (4 : Int32) = nI 4 from rfl, nI_mul, Nat.mul_comm n 4, show (1 : Int32) = nI 1 from rfl, show (2 : Int32) = nI 2 from rfl, show (3 : Int32) = nI 3 from rfl, nI_add, nI_add, nI_add]
  simp only [stoN (show 4 * n < 92 by omega) (show 92 < 2147483648 by decide), stoN (show 4 * n + 1 < 92 by omega) (show 92 < 2147483648 by decide), stoN (show 4 * n + 2 < 92 by omega) (show 92 < 2147483648 by decide), stoN (show 4 * n + 3 < 92 by omega) (show 92 < 2147483648 by decide), bitCount_eq hl, bitCount_eq hr, bd1_s]
  rfl
def pw (N : Mem) (d s : Nat) : Nat × Mem := if cb s 24 < 2 then (d, N) else (d + 1, wr N 7 d (nI s))
theorem X2_putWaiting_eq {N : Mem} {d s : Nat} (hd : d < 24) (hs : s < 16777216) : X2_putWaiting N (nI d) (nI s) = some (nI (pw N d s).1, (pw N d s).2) := by
  have hc := cb_le s 24
  have e1 : (nI (cb s 24) < 2) = (cb s 24 < 2) := nI_lt_iff (b := 2) (by omega) (by decide)
  have e2 : (nI d < Int32.ofNat 24) = (d < 24) := nI_lt_iff (b := 24) (by omega) (by decide)
  simp only [X2_putWaiting, X2_putWaiting_j17, bitCount_eq hs, bd1_s, e1, e2, if_pos hd, stoN hd (by decide), nI_1, pw]
  split <;> rfl
/-! stacks: the head is the last one put -/
def Rep (f : Nat → Int32) : List Nat → Prop
  | [] => True
  | s :: t => f t.length = nI s ∧ Rep f t
theorem Rep_congr {f g : Nat → Int32} : ∀ l : List Nat, (∀ i, i < l.length → g i = f i) → Rep f l → Rep g l
  | [], _, _ => trivial
  | s :: t, h, ⟨h1, h2⟩ => ⟨(h _ (by simp)).trans h1, Rep_congr t (fun i hi => h i (by simp; omega)) h2⟩
def flt (s : Nat) (L : List Nat) : List Nat := if cb s 24 < 2 then L else s :: L
def fil : List Nat → List Nat
  | [] => []
  | s :: t => flt s (fil t)
theorem fil_cons (s : Nat) (t : List Nat) : fil (s :: t) = flt s (fil t) := rfl
def pot : List Nat → Nat
  | [] => 0
  | s :: t => (cb s 24 - 1) + pot t
theorem pot_cons (s : Nat) (t : List Nat) : pot (s :: t) = (cb s 24 - 1) + pot t := rfl
def mu : List Nat → Nat
  | [] => 0
  | s :: t => (if cb s 24 = 0 then 1 else 2 * cb s 24 - 1) + mu t
theorem fil_pot : ∀ l, (fil l).length ≤ pot l
  | [] => Nat.le_refl _
  | s :: t => by
    have := fil_pot t
    rw [fil_cons, pot_cons]
    unfold flt
    split
    · omega
    · simp; omega
theorem pw_ok {N : Mem} {L : List Nat} {s : Nat} (h : Rep (N 7) L) : Rep ((pw N L.length s).2 7) (flt s L) ∧ (pw N L.length s).1 = (flt s L).length ∧ ∀ k i, k ≠ 7 → (pw N L.length s).2 k i = N k i := by
  unfold pw flt
  split
  · exact ⟨h, rfl, fun _ _ _ => rfl⟩
  · refine ⟨⟨?_, Rep_congr L (fun i hi => ?_) h⟩, by simp, fun k i hk => ?_⟩
    · show wr N 7 L.length (nI s) 7 L.length = nI s
      rw [wr_at, if_pos ⟨rfl, rfl⟩]
    · show wr N 7 L.length (nI s) 7 i = N 7 i
      rw [wr_ne (by omega)]
    · show wr N 7 L.length (nI s) k i = N k i
      rw [wr_ne (by omega)]
theorem nI_prd (a : Nat) : nI (a + 1) + -1 = nI a := by
  rw [nI_succ, ← Int32.sub_eq_add_neg, Int32.add_sub_cancel]
theorem loop_in {St Ex : Type} {B : St → Option (St ⊕ Ex)} {k : Nat} {s s' : St} (h : B s = some (.inl s')) : loop B (k + 1) s = loop B k s' := by
  simp only [loop, h, Option.bind_some]
theorem loop_out {St Ex : Type} {B : St → Option (St ⊕ Ex)} {k : Nat} {s : St} {ex : Ex} (h : B s = some (.inr ex)) : loop B (k + 1) s = some ex := by
  simp only [loop, h, Option.bind_some]
/-! the model's search of an edge -/
section MS
variable {N : Mem} {s n : Nat} {t5 : Int32}
theorem ms_step (hV : VOk (vm N 10)) (hc : COkM N 10) (hs : s < 16777216) (hsub : ∀ q, q < 24 → s.testBit q = true → 0 < (vm N 10).C q) (h2 : 2 ≤ cb s 24) (hn : n < 23) {e : Nat} (he : e < 192) :
    (¬ GEd (vm N 10) s e → X5_piece_L88 (nI n) t5 (nI s) (-1, nI e, N) = some (.inl (-1, nI (e + 1), N))) ∧
    (GEd (vm N 10) s e → X5_piece_L88 (nI n) t5 (nI s) (-1, nI e, N) = some (.inl (nI (Lpt (vm N 10) s (e / 8) (e % 8)), nI (e + 1), nt 33 N n e (Lpt (vm N 10) s (e / 8) (e % 8)) (Rpt (vm N 10) s e)))) := by
  obtain ⟨d1, d2⟩ := div8k he
  have hp : e / 8 < 24 := by omega
  have h8 := Cm_le (p := e / 8) hc
  have hcb := cb_le s 24
  have g1 : ¬ (192 : Int32) ≤ nI e := nI_ge (b := 192) he (by decide)
  have g2 : ¬ nI (cb s 24) ≤ 1 := nI_ge (a := 1) (by omega) (by omega)
  have hl := Lpt_lt (vm N 10) s (e / 8) (e % 8)
  have ldc : ∀ (f : Int32 → Option ((Int32 × Int32 × Mem) ⊕ (Int32 × Mem))), ld N 28 264 (nI (240 + e / 8)) f = f (nI ((vm N 10).C (e / 8))) := fun f => ldmC (j := 10) (by decide) hc hp
  have cle : (nI ((vm N 10).C (e / 8)) ≤ nI (e % 8)) = ((vm N 10).C (e / 8) ≤ e % 8) := nI_le_iff (by omega) (by omega)
  have base : X5_piece_L88 (nI n) t5 (nI s) (-1, nI e, N) = if s.testBit (e / 8) = true then (if (vm N 10).C (e / 8) ≤ e % 8 then some (.inl (-1, nI (e + 1), N)) else X5_piece_L88_j154 N (nI n) t5 (nI s) (nI e) (nI (240 + e / 8)) 1) else some (.inl (-1, nI (e + 1), N)) := by
    simp only [X5_piece_L88, X5_piece_L88_j153, X5_piece_L88_j154, X5_piece_L88_j177, X5_piece_L88_j247, un3_s, if_neg g1, if_true, X5_bits_eq hs, bd1_s, if_neg g2, bnd_s, d1, d2, a240, bt1 hs hp, ldc, cle, nI_1, i10, if_false]
  rw [base]
  by_cases b1 : s.testBit (e / 8) = true
  · rw [if_pos b1]
    by_cases b2 : (vm N 10).C (e / 8) ≤ e % 8
    · rw [if_pos b2]
      exact ⟨fun _ => rfl, fun h => absurd h.2.1 (by omega)⟩
    · rw [if_neg b2]
      have b2' : e % 8 < (vm N 10).C (e / 8) := by omega
      have lo := X5_leftOf_eq hV hc hs hsub hp b2'
      simp only [X5_piece_L88_j154, i10, if_false, d1, d2, lo, bd1_s]
      by_cases b3 : acB (vm N 10) s (e / 8) (e % 8) 24 = true ∨ Lpt (vm N 10) s (e / 8) (e % 8) = 0 ∨ Lpt (vm N 10) s (e / 8) (e % 8) = s
      · rw [if_pos b3]
        refine ⟨fun _ => ?_, fun h => ?_⟩
        · simp only [X5_piece_L88_j177, X5_piece_L88_j247, if_true, bnd_s, nI_1]
        · rcases b3 with z | z | z
          · rw [h.2.2.1] at z; exact absurd z (by decide)
          · exact absurd z h.2.2.2.1
          · exact absurd z h.2.2.2.2
      · rw [if_neg b3]
        have hg : GEd (vm N 10) s e := ⟨b1, b2', by
          cases z : acB (vm N 10) s (e / 8) (e % 8) 24 with
          | false => rfl
          | true => exact absurd (Or.inl z) b3, fun z => b3 (Or.inr (Or.inl z)), fun z => b3 (Or.inr (Or.inr z))⟩
        refine ⟨fun h => absurd hg h, fun _ => ?_⟩
        obtain ⟨p1, p2, _⟩ := parts hs hg
        simp only [X5_piece_L88_j177, X5_piece_L88_j247, nI_m1 (show Lpt (vm N 10) s (e / 8) (e % 8) < 2147483648 by omega), if_false, d1, d2, p2, bnd_s]
        rw [show (4 : Int32) = nI 4 from rfl, nI_mul, show (1 : Int32) = nI 1 from rfl, show (2 : Int32) = nI 2 from rfl, show (3 : Int32) = nI 3 from rfl, nI_add, nI_add, nI_add, nI_add]
        simp only [stoN (show 4 * n < 96 by omega) (show 96 < 2147483648 by decide), stoN (show 4 * n + 1 < 96 by omega) (show 96 < 2147483648 by decide), stoN (show 4 * n + 2 < 96 by omega) (show 96 < 2147483648 by decide), stoN (show 4 * n + 3 < 96 by omega) (show 96 < 2147483648 by decide), X5_bits_eq hl, X5_bits_eq p1, bd1_s]
        rfl
  · rw [if_neg b1]
    exact ⟨fun _ => rfl, fun h => absurd h.1 b1⟩
theorem ms_few (hs : s < 16777216) (h2 : cb s 24 < 2) : loop (X5_piece_L88 (nI n) t5 (nI s)) 3000 ((-1 : Int32), (0 : Int32), N) = some (-1, N) := by
  have hcb := cb_le s 24
  refine loop_out (k := 2999) ?_
  simp only [X5_piece_L88, un3_s, if_true, X5_bits_eq hs, bd1_s]
  rw [if_neg (by decide), if_pos (show nI (cb s 24) ≤ 1 from nI_le (b := 1) (by omega) (by decide))]
theorem ms_none (hV : VOk (vm N 10)) (hc : COkM N 10) (hs : s < 16777216) (hsub : ∀ q, q < 24 → s.testBit q = true → 0 < (vm N 10).C q) (h2 : 2 ≤ cb s 24) (hn : n < 23) (h : ∀ k, k < 192 → ¬ GEd (vm N 10) s k) : loop (X5_piece_L88 (nI n) t5 (nI s)) 3000 ((-1 : Int32), (0 : Int32), N) = some (-1, N) :=
  loop_at (fun e => ((-1 : Int32), nI e, N)) 192 (by simp only [X5_piece_L88, un3_s]; rfl) 192 0 3000 (by omega) (by omega) (fun e _ he => (ms_step hV hc hs hsub h2 hn he).1 (h e he))
theorem ms_some (hV : VOk (vm N 10)) (hc : COkM N 10) (hs : s < 16777216) (hsub : ∀ q, q < 24 → s.testBit q = true → 0 < (vm N 10).C q) (h2 : 2 ≤ cb s 24) (hn : n < 23) {k : Nat} (hk : k < 192) (hg : GEd (vm N 10) s k) (h : ∀ j, j < k → ¬ GEd (vm N 10) s j) : loop (X5_piece_L88 (nI n) t5 (nI s)) 3000 ((-1 : Int32), (0 : Int32), N) = some (nI (Lpt (vm N 10) s (k / 8) (k % 8)), nt 33 N n k (Lpt (vm N 10) s (k / 8) (k % 8)) (Rpt (vm N 10) s k)) := by
  have hl := Lpt_lt (vm N 10) s (k / 8) (k % 8)
  refine loop_for (fun e => if e ≤ k then ((-1 : Int32), nI e, N) else (nI (Lpt (vm N 10) s (k / 8) (k % 8)), nI (k + 1), nt 33 N n k (Lpt (vm N 10) s (k / 8) (k % 8)) (Rpt (vm N 10) s k))) (k + 1) (by omega) (fun e he => ?_) ?_
  · by_cases c : e = k
    · subst c
      simp only [Nat.le_refl, if_true, if_neg (show ¬ e + 1 ≤ e by omega)]
      exact (ms_step hV hc hs hsub h2 hn hk).2 hg
    · simp only [if_pos (show e ≤ k by omega), if_pos (show e + 1 ≤ k by omega)]
      exact (ms_step hV hc hs hsub h2 hn (by omega)).1 (h e (by omega))
  · simp only [if_neg (show ¬ k + 1 ≤ k by omega), X5_piece_L88, un3_s, nI_m1 (show Lpt (vm N 10) s (k / 8) (k % 8) < 2147483648 by omega), if_false]
    split <;> rfl
end MS
def FrC (M N : Mem) : Prop := ∀ k i, k ≠ 7 → k ≠ 8 → N k i = M k i
def FrM (M N : Mem) : Prop := ∀ k i, k ≠ 32 → k ≠ 33 → N k i = M k i
theorem FrC.vw {M N : Mem} (h : FrC M N) : vw N 1 = vw M 1 ∧ (COk M 1 → COk N 1) := by
  refine ⟨vw_same (fun i hi => ⟨?_, ?_⟩) (fun q hq => ⟨?_, ?_⟩), fun hc q hq => ?_⟩
  all_goals rw [h _ _ (by omega) (by omega)]
  exact hc q hq
theorem FrM.vm {M N : Mem} (h : FrM M N) : vm N 10 = vm M 10 ∧ (COkM M 10 → COkM N 10) := by
  refine ⟨vm_same (fun i hi => ⟨?_, ?_⟩) (fun q hq => ⟨?_, ?_⟩), fun hc q hq => ?_⟩
  all_goals rw [h _ _ (by omega) (by omega)]
  exact hc q hq
section Steps
variable {N : Mem} {s n w : Nat}
theorem mdl_base (hw : w < 31) (hN : N 32 w = nI s) {x : Int32} {Nx : Mem} (hx : loop (X5_piece_L88 (nI n) (nI w) (nI s)) 3000 ((-1 : Int32), (0 : Int32), N) = some (x, Nx)) : X5_piece_L68 (nI n, nI (w + 1), N) = X5_piece_L68_j253 Nx (nI n) (nI w) (nI s) x := by
  have g1 : ¬ nI (w + 1) ≤ 0 := nI_nle (by omega) (by omega)
  unfold X5_piece_L68
  rw [un3_s, if_neg g1, bnd_s, nI_prd, ldN (show w < 32 by omega) (show 32 < 2147483648 by decide), hN, hx, bd2_s]
theorem mdl_few (hw : w < 31) (hN : N 32 w = nI s) (hs : s < 16777216) (h2 : cb s 24 < 2) : X5_piece_L68 (nI n, nI (w + 1), N) = some (.inl (nI n, nI w, N)) := by
  rw [mdl_base hw hN (ms_few hs h2)]
  simp only [X5_piece_L68_j253, X5_piece_L68_j269, X5_piece_L68_j304, if_true, X5_bits_eq hs, bd1_s]
  rw [if_pos (show nI (cb s 24) ≤ 1 from nI_le (b := 1) (by omega) (by decide))]
theorem mdl_none (hV : VOk (vm N 10)) (hc : COkM N 10) (hw : w < 31) (hN : N 32 w = nI s) (hs : s < 16777216) (hsub : ∀ q, q < 24 → s.testBit q = true → 0 < (vm N 10).C q) (h2 : 2 ≤ cb s 24) (hn : n < 23) (h : ∀ k, k < 192 → ¬ GEd (vm N 10) s k) : X5_piece_L68 (nI n, nI (w + 1), N) = some (.inr (.inr N)) := by
  have hcb := cb_le s 24
  rw [mdl_base hw hN (ms_none hV hc hs hsub h2 hn h)]
  simp only [X5_piece_L68_j253, if_true, X5_bits_eq hs, bd1_s]
  rw [if_neg (show ¬ nI (cb s 24) ≤ 1 from nI_ge (a := 1) (by omega) (by omega))]
theorem mdl_some (hV : VOk (vm N 10)) (hc : COkM N 10) (hw : w < 31) (hN : N 32 w = nI s) (hs : s < 16777216) (hsub : ∀ q, q < 24 → s.testBit q = true → 0 < (vm N 10).C q) (h2 : 2 ≤ cb s 24) (hn : n < 23) {k : Nat} (hk : k < 192) (hg : GEd (vm N 10) s k) (h : ∀ j, j < k → ¬ GEd (vm N 10) s j) : X5_piece_L68 (nI n, nI (w + 1), N) = some (.inl (nI (n + 1), nI (w + 2), wr (wr (nt 33 N n k (Lpt (vm N 10) s (k / 8) (k % 8)) (Rpt (vm N 10) s k)) 32 w (nI (Rpt (vm N 10) s k))) 32 (w + 1) (nI (Lpt (vm N 10) s (k / 8) (k % 8))))) := by
  have hl := Lpt_lt (vm N 10) s (k / 8) (k % 8)
  obtain ⟨p1, p2, _⟩ := parts hs hg
  rw [mdl_base hw hN (ms_some hV hc hs hsub h2 hn hk hg h)]
  simp only [X5_piece_L68_j253, X5_piece_L68_j269, X5_piece_L68_j304, nI_m1 (show Lpt (vm N 10) s (k / 8) (k % 8) < 2147483648 by omega), if_false, bnd_s, p2, nI_1]
  rw [show (2 : Int32) = nI 2 from rfl, nI_add, stoN (by omega) (by decide), stoN (by omega) (by decide)]
theorem cls_base (hw : w < 24) (hn : n < 23) (hN : N 7 w = nI s) {r : Int32} (hr : X2_firstSeam N 1 (nI s) = some r) : X2_findOrder_L12 1 (nI n, nI (w + 1), N) = if r = (-1) then (some (.inr (.inr N))) else (bd1 (X2_leftPart N 1 (nI s) r) (fun t6 => bnd ((nI s &&& (t6 ^^^ (-1)))) (fun t7 => bd1 (X2_noteSeam N (nI n) r t6 t7) (fun N3 => bnd (nI n + 1) (fun t8 => bd2 (X2_putWaiting N3 (nI w) t7) (fun t9 N4 => bd2 (X2_putWaiting N4 t9 t6) (fun t10 N5 => some (.inl (t8, t10, N5))))))))) := by
  have hd : ¬ nI (w + 1) ≤ 0 := nI_nle (by omega) (by omega)
  have g23 : ¬ (23 : Int32) ≤ nI n := nI_ge (b := 23) hn (by decide)
  unfold X2_findOrder_L12
  rw [un3_s, if_neg hd, if_neg g23, bnd_s, nI_prd, ldN hw (show 24 < 2147483648 by decide), hN, hr, bd1_s]
theorem cls_none (hc : COk N 1) (hw : w < 24) (hn : n < 23) (hN : N 7 w = nI s) (hs : s < 16777216) (h : ∀ k, k < 192 → ¬ GEd (vw N 1) s k) : X2_findOrder_L12 1 (nI n, nI (w + 1), N) = some (.inr (.inr N)) := by
  rw [cls_base hw hn hN (X2_firstSeam_eq hc hs (Or.inr ⟨h, rfl⟩)), if_pos rfl]
theorem cls_some (hc : COk N 1) (hw : w < 24) (hn : n < 23) (hN : N 7 w = nI s) (hs : s < 16777216) {k : Nat} (hk : k < 192) (hg : GEd (vw N 1) s k) (h : ∀ j, j < k → ¬ GEd (vw N 1) s j) (hp : (pw (nt 8 N n k (Lpt (vw N 1) s (k / 8) (k % 8)) (Rpt (vw N 1) s k)) w (Rpt (vw N 1) s k)).1 < 24) :
    X2_findOrder_L12 1 (nI n, nI (w + 1), N) = some (.inl (nI (n + 1), nI (pw (pw (nt 8 N n k (Lpt (vw N 1) s (k / 8) (k % 8)) (Rpt (vw N 1) s k)) w (Rpt (vw N 1) s k)).2 (pw (nt 8 N n k (Lpt (vw N 1) s (k / 8) (k % 8)) (Rpt (vw N 1) s k)) w (Rpt (vw N 1) s k)).1 (Lpt (vw N 1) s (k / 8) (k % 8))).1, (pw (pw (nt 8 N n k (Lpt (vw N 1) s (k / 8) (k % 8)) (Rpt (vw N 1) s k)) w (Rpt (vw N 1) s k)).2 (pw (nt 8 N n k (Lpt (vw N 1) s (k / 8) (k % 8)) (Rpt (vw N 1) s k)) w (Rpt (vw N 1) s k)).1 (Lpt (vw N 1) s (k / 8) (k % 8))).2)) := by
  have e8 : 8 * (k / 8) + k % 8 = k := by omega
  have hl := Lpt_lt (vw N 1) s (k / 8) (k % 8)
  obtain ⟨p1, p2, _⟩ := parts hs hg
  have q3 : X2_leftPart N 1 (nI s) (nI k) = some (nI (Lpt (vw N 1) s (k / 8) (k % 8))) := by
    have := X2_leftPart_eq (M := N) (s := s) (p := k / 8) (e := k % 8) hc hs (by omega) (by omega)
    rw [e8, hg.2.2.1] at this
    rw [this]
    rfl
  rw [cls_base hw hn hN (X2_firstSeam_eq hc hs (Or.inl ⟨k, hk, hg, h, rfl⟩)), if_neg (by rw [nI_m1 (by omega)]; exact id), q3]
  simp only [bd1_s, bnd_s, p2, X2_noteSeam_eq hn hk hl p1, X2_putWaiting_eq hw p1, bd2_s]
  rw [X2_putWaiting_eq hp hl]
  simp only [bd2_s, nI_1]
end Steps
theorem piece_run {V : Vw} (hV : VOk V) : ∀ (m : Nat) (stk : List Nat) (n : Nat) (N N' : Mem) (fc fm : Nat), mu stk ≤ m → m < fc → m < fm →
    (∀ s, s ∈ stk → s < 16777216 ∧ ∀ q, q < 24 → s.testBit q = true → 0 < V.C q) → n + pot stk ≤ 23 → stk.length ≤ n + 1 → COk N 1 → vw N 1 = V → COkM N' 10 → vm N' 10 = V → Rep (N 7) (fil stk) → Rep (N' 32) stk → (∀ i, i < 4 * n → N 8 i = N' 33 i) →
    (∃ x Nf Nf', loop (X2_findOrder_L12 1) fc (nI n, nI (fil stk).length, N) = some (.inl (nI x, Nf)) ∧ loop X5_piece_L68 fm (nI n, nI stk.length, N') = some (.inl (nI x, Nf')) ∧ x ≤ 23 ∧ FrC N Nf ∧ FrM N' Nf' ∧ ∀ i, i < 4 * x → Nf 8 i = Nf' 33 i) ∨
    (∃ Nf Nf', loop (X2_findOrder_L12 1) fc (nI n, nI (fil stk).length, N) = some (.inr Nf) ∧ loop X5_piece_L68 fm (nI n, nI stk.length, N') = some (.inr Nf') ∧ FrC N Nf ∧ FrM N' Nf') := by
  have nilc : ∀ (n : Nat) (N N' : Mem) (fc fm : Nat), n ≤ 23 → (∀ i, i < 4 * n → N 8 i = N' 33 i) → ∃ x Nf Nf', loop (X2_findOrder_L12 1) (fc + 1) (nI n, nI 0, N) = some (.inl (nI x, Nf)) ∧ loop X5_piece_L68 (fm + 1) (nI n, nI 0, N') = some (.inl (nI x, Nf')) ∧ x ≤ 23 ∧ FrC N Nf ∧ FrM N' Nf' ∧ ∀ i, i < 4 * x → Nf 8 i = Nf' 33 i := by
    intro n N N' fc fm hn htr
    refine ⟨n, N, N', loop_out ?_, loop_out ?_, hn, fun _ _ _ _ => rfl, fun _ _ _ _ => rfl, htr⟩
    · unfold X2_findOrder_L12
      rw [un3_s, if_pos (by decide)]
    · unfold X5_piece_L68
      rw [un3_s, if_pos (by decide)]
  intro m
  induction m with
  | zero =>
    intro stk n N N' fc fm hm hfc hfm hel hpot hlen c1 c2 c3 c4 r1 r2 htr
    obtain ⟨fc, rfl⟩ : ∃ k, fc = k + 1 := ⟨fc - 1, by omega⟩
    obtain ⟨fm, rfl⟩ : ∃ k, fm = k + 1 := ⟨fm - 1, by omega⟩
    cases stk with
    | nil => exact Or.inl (nilc n N N' fc fm (by omega) htr)
    | cons s t =>
      unfold mu at hm
      split at hm <;> omega
  | succ m ih =>
    intro stk n N N' fc fm hm hfc hfm hel hpot hlen c1 c2 c3 c4 r1 r2 htr
    obtain ⟨fc, rfl⟩ : ∃ k, fc = k + 1 := ⟨fc - 1, by omega⟩
    obtain ⟨fm, rfl⟩ : ∃ k, fm = k + 1 := ⟨fm - 1, by omega⟩
    cases stk with
    | nil => exact Or.inl (nilc n N N' fc fm (by omega) htr)
    | cons s t =>
      obtain ⟨hs, hsub⟩ := hel s (by simp)
      have hcb := cb_le s 24
      have hlen' : t.length ≤ n := by simp at hlen; omega
      rw [pot_cons] at hpot
      have hpt := fil_pot t
      rw [List.length_cons]
      by_cases h2 : cb s 24 < 2
      · -- it is of one patch or none
        have ef : fil (s :: t) = fil t := by rw [fil_cons]; unfold flt; rw [if_pos h2]
        have hmu : mu t ≤ m := by
          unfold mu at hm
          split at hm <;> omega
        rw [loop_in (mdl_few (n := n) (by omega) r2.1 hs h2), ef]
        rw [ef] at r1
        exact ih t n N N' (fc + 1) fm hmu (by omega) (by omega) (fun s' h' => hel s' (List.mem_cons_of_mem _ h')) (by omega) (by omega) c1 c2 c3 c4 r1 r2.2 htr
      · have h2' : 2 ≤ cb s 24 := by omega
        have ef : fil (s :: t) = s :: fil t := by
          rw [fil_cons]
          unfold flt
          rw [if_neg h2]
        have hn : n < 23 := by omega
        have hfl := fil_pot t
        rw [ef, List.length_cons]
        rw [ef] at r1
        have hV' : VOk (vm N' 10) := by rw [c4]; exact hV
        have hsub' : ∀ q, q < 24 → s.testBit q = true → 0 < (vm N' 10).C q := by rw [c4]; exact hsub
        rcases first_of (P := fun k => ¬ GEd V s k) 192 0 with hno | ⟨k, _, hk, hg, hfirst⟩
        · -- no edge parts it
          have hno' : ∀ k, k < 192 → ¬ GEd V s k := fun k hk => hno k (by omega) (by omega)
          refine Or.inr ⟨N, N', loop_out ?_, loop_out ?_, fun _ _ _ _ => rfl, fun _ _ _ _ => rfl⟩
          · exact cls_none c1 (by omega) hn r1.1 hs (by rw [c2]; exact hno')
          · exact mdl_none hV' c3 (by omega) r2.1 hs hsub' h2' hn (by rw [c4]; exact hno')
        · -- the edge k parts it
          have hg' : GEd V s k := Classical.not_not.mp hg
          have hk' : k < 192 := by omega
          have hf' : ∀ j, j < k → ¬ GEd V s j := fun j hj => hfirst j (by omega) hj
          obtain ⟨p1, p2, p3, p4, p5, p6, p7⟩ := parts hs hg'
          have hl := Lpt_lt V s (k / 8) (k % 8)
          have ms := mdl_some (n := n) hV' c3 (show t.length < 31 by omega) r2.1 hs hsub' h2' hn hk' (by rw [c4]; exact hg') (by rw [c4]; exact hf')
          rw [c4] at ms
          have cs := cls_some (n := n) c1 (show (fil t).length < 24 by omega) hn r1.1 hs hk' (by rw [c2]; exact hg') (by rw [c2]; exact hf')
          rw [c2] at cs
          generalize Lpt V s (k / 8) (k % 8) = l at *
          generalize Rpt V s k = r at *
          have rr : Rep ((nt 8 N n k l r) 7) (fil t) := Rep_congr _ (fun i _ => nt_ne (by omega)) r1.2
          obtain ⟨w1, w2, w3⟩ := pw_ok (s := r) rr
          obtain ⟨v1, v2, v3⟩ := pw_ok (s := l) w1
          rw [← w2] at v1 v2 v3
          have hfr : (flt r (fil t)).length ≤ (cb r 24 - 1) + pot t := by
            have := fil_pot (r :: t)
            rw [fil_cons, pot_cons] at this
            exact this
          have cs' := cs (by rw [w2]; omega)
          rw [v2] at cs'
          rw [loop_in cs', loop_in ms]
          generalize hA : (pw (pw (nt 8 N n k l r) (fil t).length r).2 (pw (nt 8 N n k l r) (fil t).length r).1 l).2 = A at *
          generalize hB : wr (wr (nt 33 N' n k l r) 32 t.length (nI r)) 32 (t.length + 1) (nI l) = B at *
          have f1 : FrC N A := fun a b h7 h8 => by rw [v3 a b h7, w3 a b h7, nt_ne h8]
          have f2 : FrM N' B := fun a b h7 h8 => by rw [← hB, wr_ne (fun e => h7 e.1), wr_ne (fun e => h7 e.1), nt_ne h8]
          have rB : Rep (B 32) (l :: r :: t) := by
            refine ⟨?_, ?_, Rep_congr t (fun i hi => ?_) r2.2⟩
            · rw [← hB, wr_at, if_pos ⟨rfl, by simp⟩]
            · rw [← hB, wr_ne (by omega), wr_at, if_pos ⟨rfl, rfl⟩]
            · rw [← hB, wr_ne (by omega), wr_ne (by omega), nt_ne (by omega)]
          have tB : ∀ i, i < 4 * (n + 1) → A 8 i = B 33 i := by
            intro i hi
            rw [v3 8 i (by omega), w3 8 i (by omega), ← hB, wr_ne (by omega), wr_ne (by omega)]
            by_cases c : i < 4 * n
            · rw [nt_lo c, nt_lo c]; exact htr i c
            · exact nt_hi (by omega) hi
          have hmu : mu (l :: r :: t) ≤ m := by
            unfold mu at hm
            rw [if_neg (by omega)] at hm
            unfold mu
            unfold mu
            rw [if_neg (by omega), if_neg (by omega)]
            omega
          have hin : ∀ s', s' ∈ l :: r :: t → s' < 16777216 ∧ ∀ q, q < 24 → s'.testBit q = true → 0 < V.C q := by
            intro s' h'
            rcases List.mem_cons.mp h' with e | h'
            · rw [e]; exact ⟨hl, fun q hq hb => hsub q hq (p6 q hb)⟩
            · rcases List.mem_cons.mp h' with e | h'
              · rw [e]; exact ⟨p1, fun q hq hb => hsub q hq (p7 q hb)⟩
              · exact hel s' (List.mem_cons_of_mem _ h')
          have key := ih (l :: r :: t) (n + 1) A B fc fm hmu (by omega) (by omega) hin (by rw [pot_cons, pot_cons]; omega) (by simp; omega) (f1.vw.2 c1) (f1.vw.1.trans c2) (f2.vm.2 c3) (f2.vm.1.trans c4) (by rw [fil_cons, fil_cons]; exact v1) rB tB
          rw [fil_cons, fil_cons, List.length_cons, List.length_cons] at key
          rcases key with ⟨x, Nf, Nf', k1, k2, k3, k4, k5, k6⟩ | ⟨Nf, Nf', k1, k2, k4, k5⟩
          · exact Or.inl ⟨x, Nf, Nf', k1, k2, k3, fun a b u1 u2 => (k4 a b u1 u2).trans (f1 a b u1 u2), fun a b u1 u2 => (k5 a b u1 u2).trans (f2 a b u1 u2), k6⟩
          · exact Or.inr ⟨Nf, Nf', k1, k2, fun a b u1 u2 => (k4 a b u1 u2).trans (f1 a b u1 u2), fun a b u1 u2 => (k5 a b u1 u2).trans (f2 a b u1 u2)⟩
