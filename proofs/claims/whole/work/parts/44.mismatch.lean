/-! mismatch -/
def mr (t : Nat) (x : Int32) : Int32 := if t < 4 then x else 96 - x
def tX (t : Nat) (x y : Int32) : Int32 := if t % 4 = 0 then mr t x else if t % 4 = 1 then 96 - y else if t % 4 = 2 then 96 - mr t x else y
def tY (t : Nat) (x y : Int32) : Int32 := if t % 4 = 0 then y else if t % 4 = 1 then mr t x else if t % 4 = 2 then 96 - y else 96 - mr t x
theorem t8 {P : Nat → Prop} (h0 : P 0) (h1 : P 1) (h2 : P 2) (h3 : P 3) (h4 : P 4) (h5 : P 5) (h6 : P 6) (h7 : P 7) {t : Nat} (ht : t < 8) : P t := by
  have : t = 0 ∨ t = 1 ∨ t = 2 ∨ t = 3 ∨ t = 4 ∨ t = 5 ∨ t = 6 ∨ t = 7 := by omega
  rcases this with rfl | rfl | rfl | rfl | rfl | rfl | rfl | rfl <;> assumption
theorem X3_turnedX_eq {M : Mem} {t : Nat} (ht : t < 8) (x y : Int32) : X3_turnedX M (nI t) x y = some (tX t x y) :=
  t8 (P := fun t => X3_turnedX M (nI t) x y = some (tX t x y)) rfl rfl rfl rfl rfl rfl rfl rfl ht
theorem X3_turnedY_eq {M : Mem} {t : Nat} (ht : t < 8) (x y : Int32) : X3_turnedY M (nI t) x y = some (tY t x y) :=
  t8 (P := fun t => X3_turnedY M (nI t) x y = some (tY t x y)) rfl rfl rfl rfl rfl rfl rfl rfl ht
theorem s96 (y : Int32) : (96 : Int32) - (96 - y) = y := by
  rw [Int32.sub_eq_add_neg, Int32.neg_sub, Int32.add_comm, Int32.sub_add_cancel]
def rt (a b : Int32) : Nat → Int32 × Int32
  | 0 => (a, b)
  | k + 1 => (96 - (rt a b k).2, (rt a b k).1)
theorem X5_turned_in {M : Mem} {t : Nat} (ht : t < 8) (a b w : Int32) : loop (X5_turned_L21 M (nI t) w) 3000 (a, b, (0 : Int32)) = some (rt a b (t % 4)) := by
  have e4 : nI t - nI t / 4 * 4 = nI (t % 4) := nI_rem (b := 4) (by omega) (by decide) (by decide)
  refine loop_for (fun i => ((rt a b i).1, (rt a b i).2, nI i)) (t % 4) (by omega) (fun i hi => ?_) ?_
  · simp only [X5_turned_L21, un3_s, e4, if_neg (show ¬ nI (t % 4) ≤ nI i from nI_ge hi (by omega)), bnd_s, nI_1, rt]
  · simp only [X5_turned_L21, un3_s, e4, if_pos (show nI (t % 4) ≤ nI (t % 4) from nI_le (Nat.le_refl _) (by omega))]
theorem X5_turned_eq {M : Mem} {t : Nat} (ht : t < 8) (x y : Int32) : X5_turned M x y (nI t) 0 = some (tX t x y) ∧ X5_turned M x y (nI t) 1 = some (tY t x y) := by
  have key : ∀ a w, loop (X5_turned_L21 M (nI t) w) 3000 (a, y, (0 : Int32)) = some (rt a y (t % 4)) := fun a w => X5_turned_in ht a y w
  have hm : ∀ w, X5_turned M x y (nI t) w = X5_turned_j13 M y (nI t) w (mr t x) := by
    intro w
    unfold X5_turned mr
    have e : (nI t < 4) = (t < 4) := nI_lt_iff (b := 4) (by omega) (by decide)
    simp only [e]
    split <;> rfl
  rw [hm, hm]
  simp only [X5_turned_j13, X5_turned_j61, key]
  have : t % 4 = 0 ∨ t % 4 = 1 ∨ t % 4 = 2 ∨ t % 4 = 3 := by omega
  rcases this with e | e | e | e
  · simp only [e, rt, bd2_s, tX, tY, if_true, i10, if_false]; exact ⟨trivial, trivial⟩
  · simp [e, rt, bd2_s, tX, tY, i10]
  · simp [e, rt, bd2_s, tX, tY, i10]
  · simp [e, rt, bd2_s, tX, tY, i10, s96]
theorem n96 {a : Nat} (h : a ≤ 96) : (96 : Int32) - nI a = nI (96 - a) := by
  rw [show (96 : Int32) = nI 96 from rfl, nI_sub h]
theorem tY_rng {t x y : Nat} (hx : x ≤ 96) (hy : y ≤ 96) : ∃ z, z ≤ 96 ∧ tY t (nI x) (nI y) = nI z := by
  have hm : ∃ m, m ≤ 96 ∧ mr t (nI x) = nI m := by
    unfold mr
    split
    · exact ⟨x, hx, rfl⟩
    · exact ⟨96 - x, by omega, n96 hx⟩
  obtain ⟨m, hm, e⟩ := hm
  unfold tY
  rw [e, n96 hy, n96 hm]
  split
  · exact ⟨y, hy, rfl⟩
  · split
    · exact ⟨m, hm, rfl⟩
    · split
      · exact ⟨96 - y, by omega, rfl⟩
      · exact ⟨96 - m, by omega, rfl⟩
/-- a corner of the patch p that the turn brings to (x, y) -/
def hcI (V : Vw) (t : Nat) (x y : Int32) (p : Nat) : Nat → Bool
  | 0 => false
  | c + 1 => hcI V t x y p c || (decide (tX t (V.X (8 * p + c)) (V.Y (8 * p + c)) = x) && decide (tY t (V.X (8 * p + c)) (V.Y (8 * p + c)) = y))
def hcN (V : Vw) (t : Nat) (x y : Int32) : Nat → Bool
  | 0 => false
  | p + 1 => hcN V t x y p || hcI V t x y p (V.C p)
def b2i (b : Bool) : Int32 := if b = true then 1 else 0
section HC
variable {M : Mem} {j t i : Nat}
theorem hasCorner_in (hj : j < 11) (hc : COkM M j) (hi : i < 36) (ht : t < 8) (h36 : M 36 i = nI t) (x y : Int32) {p : Nat} (hp : p < 24) (b : Bool) : loop (X5_hasCorner_L34 M (nI i) x y (nI (24 * j + p))) 3000 (b2i b, (0 : Int32)) = some (b2i (b || hcI (vm M j) t x y p ((vm M j).C p))) := by
  have hC := Cm_le (p := p) hc
  have z : b2i (b || hcI (vm M j) t x y p 0) = b2i b := by simp [hcI]
  have : loop (X5_hasCorner_L34 M (nI i) x y (nI (24 * j + p))) 3000 (b2i (b || hcI (vm M j) t x y p 0), nI 0) = some (b2i (b || hcI (vm M j) t x y p ((vm M j).C p))) := by
    refine loop_for (fun c => (b2i (b || hcI (vm M j) t x y p c), nI c)) ((vm M j).C p) (by omega) (fun c hcc => ?_) ?_
    · simp only [X5_hasCorner_L34, X5_hasCorner_L34_j117, X5_hasCorner_L34_j121, X5_hasCorner_L34_j122, un2_s, ldmC hj hc hp, if_neg (show ¬ nI ((vm M j).C p) ≤ nI c from nI_ge hcc (by omega)), bnd_s, ixm, ldmX hj (show 8 * p + c < 192 by omega), ldmY hj (show 8 * p + c < 192 by omega), ldN hi (show 36 < 2147483648 by decide), h36, (X5_turned_eq ht _ _).1, (X5_turned_eq ht _ _).2, bd1_s, nI_1, hcI]
      cases hb : (b || hcI (vm M j) t x y p c) with
      | true =>
        rw [show b2i true = 1 from rfl]
        simp only [i10, if_false, ← Bool.or_assoc, hb, Bool.true_or]
        rfl
      | false =>
        rw [show b2i false = 0 from rfl]
        simp only [if_true, ← Bool.or_assoc, hb, Bool.false_or]
        by_cases e1 : tX t ((vm M j).X (8 * p + c)) ((vm M j).Y (8 * p + c)) = x
        · by_cases e2 : tY t ((vm M j).X (8 * p + c)) ((vm M j).Y (8 * p + c)) = y
          · simp [e1, e2, b2i]
          · simp [e1, e2, b2i]
        · simp [e1, b2i]
    · simp only [X5_hasCorner_L34, un2_s, ldmC hj hc hp, if_pos (show nI ((vm M j).C p) ≤ nI ((vm M j).C p) from nI_le (Nat.le_refl _) (by omega))]
  rw [z] at this
  exact this
theorem X5_hasCorner_eq (hj : j < 11) (hc : COkM M j) (hi : i < 36) (ht : t < 8) (h35 : M 35 i = nI j) (h36 : M 36 i = nI t) (x y : Int32) : X5_hasCorner M (nI i) x y = some (b2i (hcN (vm M j) t x y 24)) := by
  have e : loop (X5_hasCorner_L14 M (nI i) x y) 3000 ((0 : Int32), nI (24 * j)) = some (b2i (hcN (vm M j) t x y 24)) := by
    refine loop_for (fun p => (b2i (hcN (vm M j) t x y p), nI (24 * j + p))) 24 (by omega) (fun p hp => ?_) ?_
    · simp only [X5_hasCorner_L14, un2_s, ldN hi (show 36 < 2147483648 by decide), h35]
      rw [show (24 : Int32) = nI 24 from rfl, nI_mul, nI_add, if_neg (nI_ge (by omega) (by omega)), hasCorner_in hj hc hi ht h36 x y hp]
      simp only [bd1_s, bnd_s, nI_1, hcN]
      rfl
    · simp only [X5_hasCorner_L14, un2_s, ldN hi (show 36 < 2147483648 by decide), h35]
      rw [show (24 : Int32) = nI 24 from rfl, nI_mul, nI_add, if_pos (nI_le (by omega) (by omega))]
  unfold X5_hasCorner
  rw [ldN hi (by decide), h35]
  simp only [bnd_s]
  rw [show (24 : Int32) = nI 24 from rfl, nI_mul, e]
  simp only [bd1_s]
  cases hcN (vm M j) t x y 24 <;> rfl
end HC
/-- the marks of the class -/
def mkM (N : Mem) (m : Int32) (b : Nat → Bool) : Mem := fun k q => if k = 16 ∧ q < 97 ∧ b q = true then N k q ||| m else N k q
theorem mkM_congr {N : Mem} {m : Int32} {b b' : Nat → Bool} (h : ∀ q, q < 97 → b q = b' q) : mkM N m b = mkM N m b' := by
  funext k q
  unfold mkM
  by_cases c : k = 16 ∧ q < 97
  · rw [h q c.2]
  · rw [if_neg (fun h => c ⟨h.1, h.2.1⟩), if_neg (fun h => c ⟨h.1, h.2.1⟩)]
theorem mk_step {N : Mem} {m : Int32} {b : Nat → Bool} {y : Nat} (hy : y < 97) : wr (mkM N m b) 16 y (mkM N m b 16 y ||| m) = mkM N m (fun q => b q || decide (q = y)) := by
  funext k q
  rw [wr_at]
  by_cases e : k = 16 ∧ q = y
  · obtain ⟨rfl, rfl⟩ := e
    rw [if_pos ⟨rfl, rfl⟩]
    unfold mkM
    rw [if_pos (show 16 = 16 ∧ q < 97 ∧ (b q || decide (q = q)) = true from ⟨rfl, hy, by simp⟩)]
    by_cases c : 16 = 16 ∧ q < 97 ∧ b q = true
    · rw [if_pos c, Int32.or_assoc, Int32.or_self]
    · rw [if_neg c]
  · rw [if_neg e]
    unfold mkM
    by_cases c : k = 16 ∧ q < 97 ∧ b q = true
    · rw [if_pos c, if_pos ⟨c.1, c.2.1, by simp only [c.2.2, Bool.true_or]⟩]
    · rw [if_neg c, if_neg]
      rintro ⟨h1, h2, h3⟩
      rw [Bool.or_eq_true, decide_eq_true_eq] at h3
      rcases h3 with h3 | h3
      · exact c ⟨h1, h2, h3⟩
      · exact e ⟨h1, h3⟩
theorem mkM_ne {N : Mem} {m : Int32} {b : Nat → Bool} {k q : Nat} (h : k ≠ 16) : mkM N m b k q = N k q := by
  unfold mkM
  rw [if_neg (fun c => h c.1)]
section MK
variable {N : Mem} {d t : Nat} {x m : Int32}
theorem mark_in (hd : 17 ≤ d) (hc : COk N d) (hr : ∀ i, i < 192 → (∃ u, u ≤ 96 ∧ (vw N d).X i = nI u) ∧ ∃ v, v ≤ 96 ∧ (vw N d).Y i = nI v) (ht : t < 8) {p : Nat} (hp : p < 24) (b : Nat → Bool) : loop (X3_markCorners_L13 d (nI t) x m (nI p)) 3000 ((0 : Int32), mkM N m b) = some (mkM N m (fun q => b q || hcI (vw N d) t x (nI q) p ((vw N d).C p))) := by
  have hC := C_le (p := p) hc
  have z : mkM N m (fun q => b q || hcI (vw N d) t x (nI q) p 0) = mkM N m b := mkM_congr (fun q _ => by simp [hcI])
  have : loop (X3_markCorners_L13 d (nI t) x m (nI p)) 3000 (nI 0, mkM N m (fun q => b q || hcI (vw N d) t x (nI q) p 0)) = some (mkM N m (fun q => b q || hcI (vw N d) t x (nI q) p ((vw N d).C p))) := by
    refine loop_for (fun c => (nI c, mkM N m (fun q => b q || hcI (vw N d) t x (nI q) p c))) ((vw N d).C p) (by omega) (fun c hcc => ?_) ?_
    · have rX : ∀ k q (B : Nat → Bool), 17 < k → mkM N m B k q = N k q := fun k q B hk => mkM_ne (by omega)
      have hc' : COk (mkM N m (fun q => b q || hcI (vw N d) t x (nI q) p c)) d := by
        intro q hq
        rw [rX _ _ _ (by omega)]
        exact hc q hq
      have ev : vw (mkM N m (fun q => b q || hcI (vw N d) t x (nI q) p c)) d = vw N d := by
        refine vw_same (fun i hi => ⟨?_, ?_⟩) (fun q hq => ⟨?_, ?_⟩)
        all_goals rw [rX _ _ _ (by omega)]
      obtain ⟨⟨u, hu, eu⟩, v, hv, ev'⟩ := hr (8 * p + c) (by omega)
      obtain ⟨w, hw, ew⟩ := tY_rng (t := t) hu hv
      simp only [X3_markCorners_L13, X3_markCorners_L13_j85, un2_s, ldC (o := d) hc' hp, ev, if_neg (show ¬ nI ((vw N d).C p) ≤ nI c from nI_ge hcc (by omega)), ix8, ldX (o := d) (show 8 * p + c < 192 by omega), ldY (o := d) (show 8 * p + c < 192 by omega), X3_turnedX_eq ht, X3_turnedY_eq ht, bd1_s, bnd_s, nI_1, hcI]
      by_cases e1 : tX t ((vw N d).X (8 * p + c)) ((vw N d).Y (8 * p + c)) = x
      · rw [if_pos e1, eu, ev', ew, ldN (show w < 97 by omega) (by decide), stoN (show w < 97 by omega) (by decide), mk_step (by omega)]
        congr 3
        refine mkM_congr (fun q hq => ?_)
        rw [eu, ev'] at e1
        have : (nI w = nI q) = (q = w) := by
          rw [nI_eq_iff (by omega) (by omega)]
          exact propext ⟨Eq.symm, Eq.symm⟩
        simp only [eu, ev', e1, ew, this, decide_true, Bool.true_and, Bool.or_assoc]
      · rw [if_neg e1]
        congr 3
        refine mkM_congr (fun q hq => ?_)
        simp only [e1, decide_false, Bool.false_and, Bool.or_false]
    · have hc' : COk (mkM N m (fun q => b q || hcI (vw N d) t x (nI q) p ((vw N d).C p))) d := by
        intro q hq
        rw [mkM_ne (by omega)]
        exact hc q hq
      have e3 : ∀ (f : Int32 → Option ((Int32 × Mem) ⊕ Mem)), ld (mkM N m (fun q => b q || hcI (vw N d) t x (nI q) p ((vw N d).C p))) (d + 3) 24 (nI p) f = f (nI ((vw N d).C p)) := by
        intro f
        rw [ldN hp (by decide), mkM_ne (by omega)]
        obtain ⟨z, hz, ez⟩ := hc p hp
        rw [vwC hp, ez, nI_clamp (by omega)]
      simp only [X3_markCorners_L13, un2_s, e3, if_pos (show nI ((vw N d).C p) ≤ nI ((vw N d).C p) from nI_le (Nat.le_refl _) (by omega))]
  rw [z] at this
  exact this
theorem X3_markCorners_eq (hd : 17 ≤ d) (hc : COk N d) (hr : ∀ i, i < 192 → (∃ u, u ≤ 96 ∧ (vw N d).X i = nI u) ∧ ∃ v, v ≤ 96 ∧ (vw N d).Y i = nI v) (ht : t < 8) : X3_markCorners N d (nI t) x m = some (mkM N m (fun q => hcN (vw N d) t x (nI q) 24)) := by
  have z : mkM N m (fun q => hcN (vw N d) t x (nI q) 0) = N := by
    funext k q
    unfold mkM
    rw [if_neg (fun h => by simp [hcN] at h)]
  have : loop (X3_markCorners_L3 d (nI t) x m) 3000 (nI 0, mkM N m (fun q => hcN (vw N d) t x (nI q) 0)) = some (mkM N m (fun q => hcN (vw N d) t x (nI q) 24)) := by
    refine loop_for (fun p => (nI p, mkM N m (fun q => hcN (vw N d) t x (nI q) p))) 24 (by omega) (fun p hp => ?_) (by simp only [X3_markCorners_L3, un2_s]; rfl)
    simp only [X3_markCorners_L3, un2_s, if_neg (s24 hp), mark_in hd hc hr ht hp, bd1_s, bnd_s, nI_1, hcN]
  rw [z] at this
  simp only [X3_markCorners]
  rw [show (0 : Int32) = nI 0 from rfl, this]
  rfl
end MK
def umN (b1 b2 : Nat → Bool) : Nat → Nat
  | 0 => 0
  | y + 1 => if b1 y = b2 y then umN b1 b2 y else umN b1 b2 y + 1
theorem umN_le (b1 b2 : Nat → Bool) : ∀ y, umN b1 b2 y ≤ y
  | 0 => Nat.le_refl _
  | y + 1 => by
    have := umN_le b1 b2 y
    unfold umN
    split <;> omega
theorem b2i_eq {a b : Bool} : (b2i a = b2i b) = (a = b) := by
  cases a <;> cases b <;> simp [b2i]
theorem fill16 {M : Mem} : J7_fill_53178 M 16 97 0 = some (clrN M 16 0 97) := by
  have : loop (J7_fill_53178_L5 16 97 0 (nI 97)) 3000 ((0 : Int32), M) = some (clrN M 16 0 97) := by
    refine loop_for (fun i => (nI i, clrN M 16 0 i)) 97 (by omega) (fun i hi => ?_) (by simp only [J7_fill_53178_L5, un2_s]; rfl)
    simp only [J7_fill_53178_L5, un2_s, if_neg (show ¬ nI 97 ≤ nI i from nI_ge hi (by decide)), stoN hi (by decide), bnd_s, nI_1, clrN, Nat.zero_add]
  simp only [J7_fill_53178, bnd_s]
  rw [show Int32.ofNat 97 = nI 97 from rfl, this]
  rfl
theorem g96 {y : Nat} (hy : y < 97) : ¬ (96 : Int32) < nI y := by
  rw [show (96 : Int32) = nI 96 from rfl, nI_lt_iff (by decide) (by omega)]
  omega
section UM
variable {n K : Nat} {M : Mem}
theorem unm_loop {n : Nat} {M : Mem} {b1 b2 : Nat → Bool} : loop (X3_unmatchedCorners_L67 n (mkM (mkM (clrN M 16 0 97) 1 b1) 2 b2)) 3000 ((0 : Int32), (0 : Int32)) = some (nI (umN b1 b2 97)) := by
  refine loop_for (fun y => (nI (umN b1 b2 y), nI y)) 97 (by omega) (fun y hy => ?_) (by simp only [X3_unmatchedCorners_L67, un2_s]; rfl)
  have v : mkM (mkM (clrN M 16 0 97) 1 b1) 2 b2 16 y = if b2 y = true then (if b1 y = true then 3 else 2) else (if b1 y = true then 1 else 0) := by
    have e0 : clrN M 16 0 97 16 y = 0 := by rw [clrN_at, if_pos (by omega)]
    unfold mkM
    rw [e0]
    by_cases c1 : b1 y = true <;> by_cases c2 : b2 y = true <;> simp [c1, c2, hy]
    rfl
  simp only [X3_unmatchedCorners_L67, X3_unmatchedCorners_L67_j96, X3_unmatchedCorners_L67_j99, un2_s, bnd_s, if_neg (g96 hy), ldN hy (by decide), v, nI_1, umN]
  cases b1 y <;> cases b2 y <;> rfl
theorem mis_loop {i j1 j2 t1 t2 : Nat} (hi : i + 1 < 36) (hj1 : j1 < 11) (hj2 : j2 < 11) (c1 : COkM M j1) (c2 : COkM M j2) (ht1 : t1 < 8) (ht2 : t2 < 8) (e1 : M 35 i = nI j1) (e2 : M 35 (i + 1) = nI j2) (e3 : M 36 i = nI t1) (e4 : M 36 (i + 1) = nI t2) : loop (X5_mismatch_L70 M (nI i)) 3000 ((0 : Int32), (0 : Int32)) = some (nI (umN (fun q => hcN (vm M j1) t1 96 (nI q) 24) (fun q => hcN (vm M j2) t2 0 (nI q) 24) 97)) := by
  refine loop_for (fun y => (nI (umN (fun q => hcN (vm M j1) t1 96 (nI q) 24) (fun q => hcN (vm M j2) t2 0 (nI q) 24) y), nI y)) 97 (by omega) (fun y hy => ?_) (by simp only [X5_mismatch_L70, un2_s]; rfl)
  simp only [X5_mismatch_L70, X5_mismatch_L70_j108, un2_s, bnd_s, if_neg (g96 hy), nI_1, X5_hasCorner_eq hj1 c1 (show i < 36 by omega) ht1 e1 e3, X5_hasCorner_eq hj2 c2 hi ht2 e2 e4, bd1_s, b2i_eq, umN]
  split <;> rfl
end UM
theorem st_mismatch {n : Nat} {M : Mem} {a1 a2 a3 a4 : Int32} (h : INV n M) : ∃ g M2, St 11 n M a1 a2 a3 a4 g M2 ∧ INV (n + g) M2 := by
  have hI := h
  obtain ⟨K, k1, k2, hD, hS, hKe, hT, hC⟩ := h
  by_cases h1 : Wn a1 6 ∧ Wn a2 5
  · have e5 : ∀ N, X5_mismatch N a1 a2 = X5_mismatch_j24 N a1 a2 1 := fun N => by
      simp only [X5_mismatch, w5_1 (b := 5) 5 rfl (by decide) h1.1, w5_1 (b := 4) 4 rfl (by decide) h1.2, bd1_s, i10, if_false]
    have e4 : X4_mismatch n M a1 a2 = X4_mismatch_j22 n M a1 a2 1 := by
      simp only [X4_mismatch, w4_1 (b := 6) 6 rfl (by decide) h1.1, w4_1 (b := 5) 5 rfl (by decide) h1.2, bd1_s, i10, if_false]
    obtain ⟨⟨r, hr, rfl⟩, c, hc, rfl⟩ := h1
    have ix1 : nI r * 6 + nI c = nI (6 * r + c) := by rw [show (6 : Int32) = nI 6 from rfl, nI_mul, nI_add, Nat.mul_comm]
    have ix2 : 6 * nI r + nI c = nI (6 * r + c) := by rw [show (6 : Int32) = nI 6 from rfl, nI_mul, nI_add]
    generalize hq : 6 * r + c = i at ix1 ix2
    have hi : i + 1 < 36 := by omega
    have none : (M 12 i = -1 ∨ M 12 (i + 1) = -1) → ∃ g M2, St 11 n M (nI r) (nI c) a3 a4 g M2 ∧ INV (n + g) M2 := by
      intro hz
      refine ⟨0, wr (wr M 48 0 (-1)) 27 0 0, ⟨0, wr M 48 0 (-1), -1, Or.inl ⟨-1, M, ?_, rfl, rfl, rfl⟩, ?_, th_at, fun _ => by rw [wr_ne (by omega), ou_at]⟩, hI.ou.th⟩
      · rw [e4]
        simp only [X4_mismatch_j22, i10, if_false, ix1, X3_unmatchedCorners, nI_1]
        rcases hT.at k1 (show i < 36 by omega) with ⟨p1, p2, p3⟩ | ⟨j, hj, p1, p2, p3⟩
        · rw [X3_blockAt_0 (by omega) p1]
          rcases hT.at k1 hi with ⟨p1, p2, p3⟩ | ⟨j, hj, p1, p2, p3⟩
          · rw [X3_blockAt_0 hi p1]; rfl
          · rw [X3_blockAt_1 k1 hKe hi hj p1]; rfl
        · have p4 : M 12 (i + 1) = -1 := hz.resolve_left (by rw [p1, nI_m1 (by omega)]; exact id)
          rw [X3_blockAt_1 k1 hKe (by omega) hj p1, X3_blockAt_0 hi p4]
          simp only [bd1_s, nI_ne0' (show 0 < 49 + 5 * j by omega) (by omega), if_false, if_true, bd2_s]
      · rw [e5]
        have r35 : ∀ q, (wr (wr M 48 0 (-1)) 27 0 0) 35 q = M 35 q := fun q => rfl
        simp only [X5_mismatch_j24, goes_0, bd2_s, i10, if_false, bnd_s, ix2, nI_1, ldN (show i < 36 by omega) (show 36 < 2147483648 by decide), ldN hi (show 36 < 2147483648 by decide), r35]
        rcases hT.at k1 (show i < 36 by omega) with ⟨p1, p2, p3⟩ | ⟨j, hj, p1, p2, p3⟩
        · rw [p2]; rfl
        · have p4 : M 12 (i + 1) = -1 := hz.resolve_left (by rw [p1, nI_m1 (by omega)]; exact id)
          rw [p2, if_neg (by rw [nI_m1 (by omega)]; exact id), ← (hT.1 (i + 1) hi).1, p4]; rfl
    rcases hT.at k1 (show i < 36 by omega) with ⟨p1, p2, p3⟩ | ⟨j1, hj1, p1, p2, p3⟩
    · exact none (Or.inl p1)
    · rcases hT.at k1 hi with ⟨q1, q2, q3⟩ | ⟨j2, hj2, q1, q2, q3⟩
      · exact none (Or.inr q1)
      · obtain ⟨_, _, t13, t1, ht1, et1⟩ := hT.1 i (by omega)
        obtain ⟨_, _, u13, t2, ht2, et2⟩ := hT.1 (i + 1) hi
        obtain ⟨d1, d2, d3, d4⟩ := hKe.2.2.2 j1 hj1
        obtain ⟨f1, f2, f3, f4⟩ := hKe.2.2.2 j2 hj2
        have Z1 : ∀ k q, k ≠ 16 → clrN M 16 0 97 k q = M k q := by
          intro k q hk
          rw [clrN_at, if_neg (fun h => hk h.1)]
        have v1 : vw (clrN M 16 0 97) (49 + 5 * j1) = vm M j1 := by
          rw [← d1]
          refine vw_same (fun i hi => ⟨?_, ?_⟩) (fun q hq => ⟨?_, ?_⟩)
          all_goals rw [Z1 _ _ (by omega)]
        have m1 : X3_markCorners (clrN M 16 0 97) (49 + 5 * j1) (nI t1) 96 1 = some (mkM (clrN M 16 0 97) 1 (fun q => hcN (vm M j1) t1 96 (nI q) 24)) := by
          rw [X3_markCorners_eq (by omega) (fun q hq => by rw [Z1 _ _ (by omega)]; exact d2 q hq) (by rw [v1]; exact d4.2) ht1, v1]
        have v2 : vw (mkM (clrN M 16 0 97) 1 (fun q => hcN (vm M j1) t1 96 (nI q) 24)) (49 + 5 * j2) = vm M j2 := by
          rw [← f1]
          refine vw_same (fun i hi => ⟨?_, ?_⟩) (fun q hq => ⟨?_, ?_⟩)
          all_goals rw [mkM_ne (by omega), Z1 _ _ (by omega)]
        have m2 : X3_markCorners (mkM (clrN M 16 0 97) 1 (fun q => hcN (vm M j1) t1 96 (nI q) 24)) (49 + 5 * j2) (nI t2) 0 2 = some (mkM (mkM (clrN M 16 0 97) 1 (fun q => hcN (vm M j1) t1 96 (nI q) 24)) 2 (fun q => hcN (vm M j2) t2 0 (nI q) 24)) := by
          rw [X3_markCorners_eq (by omega) (fun q hq => by rw [mkM_ne (by omega), Z1 _ _ (by omega)]; exact f2 q hq) (by rw [v2]; exact f4.2) ht2, v2]
        have r1 : (clrN M 16 0 97) 13 i = nI t1 := by rw [Z1 _ _ (by omega), t13, et1]
        have r2 : (mkM (clrN M 16 0 97) 1 (fun q => hcN (vm M j1) t1 96 (nI q) 24)) 13 (i + 1) = nI t2 := by rw [mkM_ne (by omega), Z1 _ _ (by omega), u13, et2]
        have x4 : X4_mismatch n M (nI r) (nI c) = some (.inl (nI (umN (fun q => hcN (vm M j1) t1 96 (nI q) 24) (fun q => hcN (vm M j2) t2 0 (nI q) 24) 97)), mkM (mkM (clrN M 16 0 97) 1 (fun q => hcN (vm M j1) t1 96 (nI q) 24)) 2 (fun q => hcN (vm M j2) t2 0 (nI q) 24)) := by
          rw [e4]
          simp only [X4_mismatch_j22, i10, if_false, ix1, X3_unmatchedCorners, nI_1, X3_blockAt_1 k1 hKe (show i < 36 by omega) hj1 p1, X3_blockAt_1 k1 hKe hi hj2 q1, bd1_s, nI_ne0' (show 0 < 49 + 5 * j1 by omega) (show 49 + 5 * j1 < 2147483648 by omega), nI_ne0' (show 0 < 49 + 5 * j2 by omega) (show 49 + 5 * j2 < 2147483648 by omega), fill16, drok_K k1 k2 hj1, drok_K k1 k2 hj2, chk, if_true, ldN (show i < 36 by omega) (show 36 < 2147483648 by decide), ldN hi (show 36 < 2147483648 by decide), r1, r2, nI_clamp (show 49 + 5 * j1 < 2147483648 by omega), nI_clamp (show 49 + 5 * j2 < 2147483648 by omega), m1, m2, unm_loop, bd2_s]
        generalize hw : umN (fun q => hcN (vm M j1) t1 96 (nI q) 24) (fun q => hcN (vm M j2) t2 0 (nI q) 24) 97 = w at x4
        generalize hN : mkM (mkM (clrN M 16 0 97) 1 (fun q => hcN (vm M j1) t1 96 (nI q) 24)) 2 (fun q => hcN (vm M j2) t2 0 (nI q) 24) = N at x4
        have NM : ∀ k q, k ≠ 16 → N k q = M k q := by
          intro k q hk
          rw [← hN, mkM_ne hk, mkM_ne hk, Z1 k q hk]
        have PM : ∀ k q, k ≠ 16 → k ≠ 48 → ¬ (k = 27 ∧ q = 0) → (wr (wr N 48 0 (nI w)) 27 0 0) k q = M k q := by
          intro k q b1 b2 b3
          rw [wr_ne b3, wr_ne (by omega), NM k q b1]
        have pv : ∀ j, vm (wr (wr N 48 0 (nI w)) 27 0 0) j = vm M j := by
          intro j
          refine vm_same (fun i hi => ⟨?_, ?_⟩) (fun q hq => ⟨?_, ?_⟩)
          all_goals rw [PM _ _ (by omega) (by omega) (by omega)]
        have pc : ∀ j, COkM M j → COkM (wr (wr N 48 0 (nI w)) 27 0 0) j := by
          intro j hj q hq
          rw [PM _ _ (by omega) (by omega) (by omega)]
          exact hj q hq
        have ml := mis_loop (M := wr (wr N 48 0 (nI w)) 27 0 0) (i := i) (j1 := j1) (j2 := j2) (t1 := t1) (t2 := t2) hi (by omega) (by omega) (pc j1 d3) (pc j2 f3) ht1 ht2 (by rw [PM _ _ (by omega) (by omega) (by omega)]; exact p2) (by rw [PM _ _ (by omega) (by omega) (by omega)]; exact q2) (by rw [PM _ _ (by omega) (by omega) (by omega)]; exact et1) (by rw [PM _ _ (by omega) (by omega) (by omega)]; exact et2)
        rw [pv, pv, hw] at ml
        have x5 : X5_mismatch (wr N 48 0 (nI w)) (nI r) (nI c) = some (nI w, wr (wr N 48 0 (nI w)) 27 0 0) := by
          rw [e5]
          simp only [X5_mismatch_j24, goes_0, bd2_s, i10, if_false, bnd_s, ix2, nI_1, ldN (show i < 36 by omega) (show 36 < 2147483648 by decide), ldN hi (show 36 < 2147483648 by decide), PM 35 i (by omega) (by omega) (by omega), PM 35 (i + 1) (by omega) (by omega) (by omega), p2, q2, nI_m1 (show j1 < 2147483648 by omega), nI_m1 (show j2 < 2147483648 by omega), ml, bd1_s]
        refine ⟨0, _, ⟨0, wr N 48 0 (nI w), nI w, Or.inl ⟨_, N, x4, rfl, rfl, rfl⟩, x5, th_at, fun _ => by rw [wr_ne (by omega), ou_at]⟩, hI.keep0 (fun k q hz => ?_)⟩
        rw [wr_ne (fun e => hz (by rw [e.1, e.2]; rfl)), wr_ne (fun e => hz (by rw [e.1, e.2]; rfl)), NM k q (fun e => hz (by rw [e]; rfl))]
  · refine ⟨0, wr M 27 0 1, ⟨1, M, 0, Or.inr ⟨M, ?_, rfl, rfl, rfl⟩, ?_, th_at, fun e => absurd e (by decide)⟩, hI.th⟩
    · by_cases q1 : Wn a1 6
      · simp only [X4_mismatch, X4_mismatch_j21, X4_mismatch_j22, w4_1 (b := 6) 6 rfl (by decide) q1, w4_0 (b := 5) 5 rfl (by decide) (fun e => h1 ⟨q1, e⟩), bd1_s, i10, if_false, if_true]
      · simp only [X4_mismatch, X4_mismatch_j21, X4_mismatch_j22, w4_0 (b := 6) 6 rfl (by decide) q1, bd1_s, if_true]
    · by_cases q1 : Wn a1 6
      · simp only [X5_mismatch, X5_mismatch_j23, X5_mismatch_j24, w5_1 (b := 5) 5 rfl (by decide) q1, w5_0 (b := 4) 4 rfl (by decide) (fun e => h1 ⟨q1, e⟩), bd1_s, i10, if_false, if_true, goes_1, bd2_s]
      · simp only [X5_mismatch, X5_mismatch_j23, X5_mismatch_j24, w5_0 (b := 5) 5 rfl (by decide) q1, bd1_s, if_true, goes_1, bd2_s]
