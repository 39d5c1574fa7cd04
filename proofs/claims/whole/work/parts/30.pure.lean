/-! THE PURE PART: what the functions of the class and of the model say of one and the same drawing. -/
theorem nI_mul (a b : Nat) : nI a * nI b = nI (a * b) := by
  unfold nI
  exact (Int32.ofNat_mul a b).symm
theorem inb_nI {i len : Nat} (h : i < len) (hl : len < 2147483648) : inb (nI i) len = true := by
  unfold inb
  rw [nI_toInt (by omega)]
  simp
  omega
theorem ldN {β : Type} {M : Mem} {k len i : Nat} {f : Int32 → Option β} (h : i < len) (hl : len < 2147483648) : ld M k len (nI i) f = f (M k i) := by
  unfold ld chk
  rw [if_pos (inb_nI h hl), nI_clamp (by omega)]
theorem stoN {β : Type} {M : Mem} {k len i : Nat} {v : Int32} {f : Mem → Option β} (h : i < len) (hl : len < 2147483648) : sto M k len (nI i) v f = f (wr M k i v) := by
  unfold sto chk
  rw [if_pos (inb_nI h hl), nI_clamp (by omega)]
theorem bdS_l {A B β : Type} {a : A} {f : A → Option β} {g : B → Option β} : bdS (some (.inl a)) f g = f a := rfl
theorem bdS_r {A B β : Type} {b : B} {f : A → Option β} {g : B → Option β} : bdS (some (.inr b)) f g = g b := rfl
theorem bnd_s {α β : Type} {x : α} {f : α → Option β} : bnd x f = f x := rfl
theorem un0_s {β : Type} {u : Unit} {f : Option β} : un0 u f = f := rfl
theorem bd1_s {A1 β : Type} {a1 : A1} {f : A1 → Option β} : bd1 (some a1) f = f a1 := rfl
theorem un1_s {A1 β : Type} {a1 : A1} {f : A1 → Option β} : un1 a1 f = f a1 := rfl
theorem bd2_s {A1 A2 β : Type} {a1 : A1} {a2 : A2} {f : A1 → A2 → Option β} : bd2 (some (a1, a2)) f = f a1 a2 := rfl
theorem un2_s {A1 A2 β : Type} {a1 : A1} {a2 : A2} {f : A1 → A2 → Option β} : un2 (a1, a2) f = f a1 a2 := rfl
theorem bd3_s {A1 A2 A3 β : Type} {a1 : A1} {a2 : A2} {a3 : A3} {f : A1 → A2 → A3 → Option β} : bd3 (some (a1, a2, a3)) f = f a1 a2 a3 := rfl
theorem un3_s {A1 A2 A3 β : Type} {a1 : A1} {a2 : A2} {a3 : A3} {f : A1 → A2 → A3 → Option β} : un3 (a1, a2, a3) f = f a1 a2 a3 := rfl
theorem bd4_s {A1 A2 A3 A4 β : Type} {a1 : A1} {a2 : A2} {a3 : A3} {a4 : A4} {f : A1 → A2 → A3 → A4 → Option β} : bd4 (some (a1, a2, a3, a4)) f = f a1 a2 a3 a4 := rfl
theorem un4_s {A1 A2 A3 A4 β : Type} {a1 : A1} {a2 : A2} {a3 : A3} {a4 : A4} {f : A1 → A2 → A3 → A4 → Option β} : un4 (a1, a2, a3, a4) f = f a1 a2 a3 a4 := rfl
theorem bd5_s {A1 A2 A3 A4 A5 β : Type} {a1 : A1} {a2 : A2} {a3 : A3} {a4 : A4} {a5 : A5} {f : A1 → A2 → A3 → A4 → A5 → Option β} : bd5 (some (a1, a2, a3, a4, a5)) f = f a1 a2 a3 a4 a5 := rfl
theorem un5_s {A1 A2 A3 A4 A5 β : Type} {a1 : A1} {a2 : A2} {a3 : A3} {a4 : A4} {a5 : A5} {f : A1 → A2 → A3 → A4 → A5 → Option β} : un5 (a1, a2, a3, a4, a5) f = f a1 a2 a3 a4 a5 := rfl
theorem bd6_s {A1 A2 A3 A4 A5 A6 β : Type} {a1 : A1} {a2 : A2} {a3 : A3} {a4 : A4} {a5 : A5} {a6 : A6} {f : A1 → A2 → A3 → A4 → A5 → A6 → Option β} : bd6 (some (a1, a2, a3, a4, a5, a6)) f = f a1 a2 a3 a4 a5 a6 := rfl
theorem un6_s {A1 A2 A3 A4 A5 A6 β : Type} {a1 : A1} {a2 : A2} {a3 : A3} {a4 : A4} {a5 : A5} {a6 : A6} {f : A1 → A2 → A3 → A4 → A5 → A6 → Option β} : un6 (a1, a2, a3, a4, a5, a6) f = f a1 a2 a3 a4 a5 a6 := rfl
theorem chk1 {β : Type} {x : Option β} : chk (isB 1) x = x := rfl
theorem chk0 {β : Type} {x : Option β} : chk (isB 0) x = x := rfl
theorem ix8 (p c : Nat) : nI p * 8 + nI c = nI (8 * p + c) := by
  rw [show (8 : Int32) = nI 8 from rfl, nI_mul, nI_add, Nat.mul_comm]
theorem ix8' (p c : Nat) : 8 * nI p + nI c = nI (8 * p + c) := by
  rw [show (8 : Int32) = nI 8 from rfl, nI_mul, nI_add]
/-- a loop whose states are f a, f (a + 1), .. f N, where it ends -/
theorem loop_at {St Ex : Type} {B : St → Option (St ⊕ Ex)} (f : Nat → St) (N : Nat) {ex : Ex} (he : B (f N) = some (.inr ex)) : ∀ (d a fuel : Nat), a + d = N → d < fuel → (∀ i, a ≤ i → i < N → B (f i) = some (.inl (f (i + 1)))) → loop B fuel (f a) = some ex := by
  intro d
  induction d with
  | zero =>
    intro a fuel h1 h2 _
    obtain ⟨k, rfl⟩ : ∃ k, fuel = k + 1 := ⟨fuel - 1, by omega⟩
    have : a = N := by omega
    subst this
    simp only [loop, he, Option.bind_some]
  | succ d ih =>
    intro a fuel h1 h2 hs
    obtain ⟨k, rfl⟩ : ∃ k, fuel = k + 1 := ⟨fuel - 1, by omega⟩
    have h3 := ih (a + 1) k (by omega) (by omega) (fun i hi hn => hs i (by omega) hn)
    simp only [loop, hs a (Nat.le_refl _) (by omega), Option.bind_some]
    exact h3
theorem loop_for {St Ex : Type} {B : St → Option (St ⊕ Ex)} (f : Nat → St) (N : Nat) {ex : Ex} {fuel : Nat} (hN : N < fuel) (hs : ∀ i, i < N → B (f i) = some (.inl (f (i + 1)))) (he : B (f N) = some (.inr ex)) : loop B fuel (f 0) = some ex :=
  loop_at f N he N 0 fuel (by omega) hN (fun i _ h => hs i h)
theorem first_of {P : Nat → Prop} : ∀ (d a : Nat), (∀ i, a ≤ i → i < a + d → P i) ∨ ∃ i, a ≤ i ∧ i < a + d ∧ ¬ P i ∧ ∀ j, a ≤ j → j < i → P j := by
  intro d
  induction d with
  | zero => intro a; exact Or.inl (fun i h1 h2 => absurd h2 (by omega))
  | succ d ih =>
    intro a
    by_cases h : P a
    · rcases ih (a + 1) with h1 | ⟨i, h1, h2, h3, h4⟩
      · refine Or.inl (fun i h2 h3 => ?_)
        by_cases e : i = a
        · rw [e]; exact h
        · exact h1 i (by omega) (by omega)
      · refine Or.inr ⟨i, by omega, by omega, h3, fun j h5 h6 => ?_⟩
        by_cases e : j = a
        · rw [e]; exact h
        · exact h4 j (by omega) h6
    · exact Or.inr ⟨a, Nat.le_refl _, by omega, h, fun j h1 h2 => absurd h2 (by omega)⟩
/-! A DRAWING: coordinates by 8 * patch + corner, corners, cloths (where closed). -/
abbrev Vw : Type := (Nat → Int32) × (Nat → Int32) × (Nat → Nat) × (Nat → Int32)
def Vw.X (V : Vw) : Nat → Int32 := V.1
def Vw.Y (V : Vw) : Nat → Int32 := V.2.1
def Vw.C (V : Vw) : Nat → Nat := V.2.2.1
def Vw.L (V : Vw) : Nat → Int32 := V.2.2.2
/-- the drawing of the class whose object is the cell o -/
def vw (M : Mem) (o : Nat) : Vw := (fun i => if i < 192 then M (o + 1) i else 0, fun i => if i < 192 then M (o + 2) i else 0, fun p => if p < 24 then (M (o + 3) p).toNatClampNeg else 0, fun p => if p < 24 ∧ 0 < (M (o + 3) p).toNatClampNeg then M (o + 4) p else 0)
/-- the j-th block of the model -/
def vm (M : Mem) (j : Nat) : Vw := (fun i => if i < 192 then M 30 (192 * j + i) else 0, fun i => if i < 192 then M 31 (192 * j + i) else 0, fun p => if p < 24 then (M 28 (24 * j + p)).toNatClampNeg else 0, fun p => if p < 24 ∧ 0 < (M 28 (24 * j + p)).toNatClampNeg then M 29 (24 * j + p) else 0)
/-- corners are numbers from 0 to 8 -/
def COk (M : Mem) (o : Nat) : Prop := ∀ p, p < 24 → ∃ c, c ≤ 8 ∧ M (o + 3) p = nI c
def COkM (M : Mem) (j : Nat) : Prop := ∀ p, p < 24 → ∃ c, c ≤ 8 ∧ M 28 (24 * j + p) = nI c
section LDS
variable {β : Type} {M : Mem} {o j p i c : Nat} {f : Int32 → Option β}
theorem ldX (h : i < 192) : ld M (o + 1) 192 (nI i) f = f ((vw M o).X i) := by
  rw [ldN h (by decide)]
  simp [vw, Vw.X, Vw.Y, Vw.C, Vw.L, h]
theorem ldY (h : i < 192) : ld M (o + 2) 192 (nI i) f = f ((vw M o).Y i) := by
  rw [ldN h (by decide)]
  simp [vw, Vw.X, Vw.Y, Vw.C, Vw.L, h]
theorem ldC (hc : COk M o) (h : p < 24) : ld M (o + 3) 24 (nI p) f = f (nI ((vw M o).C p)) := by
  rw [ldN h (by decide)]
  obtain ⟨c, h1, h2⟩ := hc p h
  simp only [vw, Vw.C, if_pos h, h2]
  rw [nI_clamp (by omega)]
theorem C_le (hc : COk M o) : (vw M o).C p ≤ 8 := by
  by_cases h : p < 24
  · obtain ⟨c, h1, h2⟩ := hc p h
    simp only [vw, Vw.C, if_pos h, h2]
    rw [nI_clamp (by omega)]
    exact h1
  · simp [vw, Vw.X, Vw.Y, Vw.C, Vw.L, h]
theorem ldmX (hj : j < 11) (h : i < 192) : ld M 30 2112 (nI (192 * j + i)) f = f ((vm M j).X i) := by
  rw [ldN (by omega) (by decide)]
  simp [vm, Vw.X, Vw.Y, Vw.C, Vw.L, h]
theorem ldmY (hj : j < 11) (h : i < 192) : ld M 31 2112 (nI (192 * j + i)) f = f ((vm M j).Y i) := by
  rw [ldN (by omega) (by decide)]
  simp [vm, Vw.X, Vw.Y, Vw.C, Vw.L, h]
theorem ldmC (hj : j < 11) (hc : COkM M j) (h : p < 24) : ld M 28 264 (nI (24 * j + p)) f = f (nI ((vm M j).C p)) := by
  rw [ldN (by omega) (by decide)]
  obtain ⟨c, h1, h2⟩ := hc p h
  simp only [vm, Vw.C, if_pos h, h2]
  rw [nI_clamp (by omega)]
theorem Cm_le (hc : COkM M j) : (vm M j).C p ≤ 8 := by
  by_cases h : p < 24
  · obtain ⟨c, h1, h2⟩ := hc p h
    simp only [vm, Vw.C, if_pos h, h2]
    rw [nI_clamp (by omega)]
    exact h1
  · simp [vm, Vw.X, Vw.Y, Vw.C, Vw.L, h]
theorem ixm (j p c : Nat) : 8 * nI (24 * j + p) + nI c = nI (192 * j + (8 * p + c)) := by
  rw [ix8', show 8 * (24 * j + p) + c = 192 * j + (8 * p + c) by omega]
end LDS
/-! what is said of a drawing -/
def nx (V : Vw) (p k : Nat) : Nat := if V.C p ≤ k + 1 then 0 else k + 1
def bd (V : Vw) (a b c : Nat) : Int32 := (V.X b - V.X a) * (V.Y c - V.Y a) - (V.Y b - V.Y a) * (V.X c - V.X a)
theorem nx_lt {V : Vw} {p k : Nat} (hc : V.C p ≤ 8) : nx V p k < 8 := by
  unfold nx
  split <;> omega
theorem nx_ltC {V : Vw} {p k : Nat} (hk : k < V.C p) : nx V p k < V.C p := by
  unfold nx
  split <;> omega
/-- the bend of a corner of q at the edge e of p -/
def be (V : Vw) (p e q c : Nat) : Int32 := bd V (8 * p + e) (8 * p + nx V p e) (8 * q + c)
def dA (V : Vw) (p : Nat) : Nat → Int32
  | 0 => 0
  | k + 1 => dA V p k + (V.X (8 * p + k) * V.Y (8 * p + nx V p k) - V.X (8 * p + nx V p k) * V.Y (8 * p + k))
def Cvx (V : Vw) (p : Nat) : Prop := ∀ k, k < V.C p → ∀ c, c < V.C p → c ≠ k → c ≠ nx V p k → 0 < be V p k p c
def Lf (V : Vw) (p e q : Nat) : Prop := ∃ c, c < V.C q ∧ 0 < be V p e q c
def Rt (V : Vw) (p e q : Nat) : Prop := ∃ c, c < V.C q ∧ be V p e q c < 0
/-- the edge e of p parts q from it -/
def Pt1 (V : Vw) (p q : Nat) : Prop := ∃ e, e < V.C p ∧ Rt V p e q ∧ ¬ Lf V p e q
def Ov (V : Vw) (p q : Nat) : Prop := p < q ∧ 0 < V.C p ∧ 0 < V.C q ∧ ¬ Pt1 V p q ∧ ¬ Pt1 V q p
/-- r is the first overlapping pair, as 24 * p + q, or -1 -/
def FO (V : Vw) (r : Int32) : Prop := (∃ k, k < 576 ∧ Ov V (k / 24) (k % 24) ∧ (∀ j, j < k → ¬ Ov V (j / 24) (j % 24)) ∧ r = nI k) ∨ ((∀ k, k < 576 → ¬ Ov V (k / 24) (k % 24)) ∧ r = -1)
theorem FO.ex (V : Vw) : ∃ r, FO V r := by
  rcases first_of (P := fun k => ¬ Ov V (k / 24) (k % 24)) 576 0 with h | ⟨k, -, h2, h3, h4⟩
  · exact ⟨-1, Or.inr ⟨fun k hk => h k (Nat.zero_le _) (by omega), rfl⟩⟩
  · exact ⟨nI k, Or.inl ⟨k, by omega, Classical.not_not.mp h3, fun j hj => h4 j (Nat.zero_le _) hj, rfl⟩⟩
def sA (V : Vw) : Nat → Int32
  | 0 => 0
  | p + 1 => sA V p + dA V p (V.C p)
/-- r is the state: 2 overlap, 0 it tiles, 1 a gap -/
def StOf (V : Vw) (r : Int32) : Prop := ∃ k, FO V k ∧ r = if k = -1 then (if sA V 24 = 18432 then 0 else 1) else 2
