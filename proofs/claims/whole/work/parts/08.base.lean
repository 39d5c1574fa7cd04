/-! WHAT THE METHODS' FUNCTIONS ARE MADE OF: 'none' where an index is out of range, a check fails or the fuel is used up. -/
def inb (i : Int32) (len : Nat) : Bool := decide (0 ≤ i.toInt) && decide (i.toInt < len)
theorem inb_vp {i : Int32} {len : Nat} (h : inb i len = true) : vp_in i len := by
  unfold inb at h
  rw [Bool.and_eq_true, decide_eq_true_eq, decide_eq_true_eq] at h
  exact vp_in_iff.mpr h
def chk {β : Type} (b : Bool) (x : Option β) : Option β := if b = true then x else none
theorem chk_inv {β : Type} {b : Bool} {x : Option β} {r : β} (h : chk b x = some r) : b = true ∧ x = some r := by
  unfold chk at h
  by_cases hb : b = true
  · rw [if_pos hb] at h; exact ⟨hb, h⟩
  · rw [if_neg hb] at h; cases h
def bnd {α β : Type} (x : α) (f : α → Option β) : Option β := f x
theorem bnd_inv {α β : Type} {x : α} {f : α → Option β} {r : β} (h : bnd x f = some r) : ∃ y, x = y ∧ f y = some r := ⟨x, rfl, h⟩
def ld {β : Type} (M : Mem) (k len : Nat) (i : Int32) (f : Int32 → Option β) : Option β := chk (inb i len) (f (M k i.toNatClampNeg))
theorem ld_inv {β : Type} {M : Mem} {k len : Nat} {i : Int32} {f : Int32 → Option β} {r : β} (h : ld M k len i f = some r) : ∃ t, M k i.toNatClampNeg = t ∧ vp_in i len ∧ f t = some r := by
  unfold ld at h
  obtain ⟨h1, h2⟩ := chk_inv h
  exact ⟨_, rfl, inb_vp h1, h2⟩
def sto {β : Type} (M : Mem) (k len : Nat) (i v : Int32) (f : Mem → Option β) : Option β := chk (inb i len) (f (wr M k i.toNatClampNeg v))
theorem sto_inv {β : Type} {M : Mem} {k len : Nat} {i v : Int32} {f : Mem → Option β} {r : β} (h : sto M k len i v f = some r) : ∃ M2, wr M k i.toNatClampNeg v = M2 ∧ vp_in i len ∧ f M2 = some r := by
  unfold sto at h
  obtain ⟨h1, h2⟩ := chk_inv h
  exact ⟨_, rfl, inb_vp h1, h2⟩
def isB (v : Int32) : Bool := v == 0 || v == 1
theorem isB_nar {v : Int32} (h : isB v = true) : narrow .boolean (.int v) = .int v := by
  unfold isB at h
  rw [Bool.or_eq_true, beq_iff_eq, beq_iff_eq] at h
  rcases h with rfl | rfl <;> decide +kernel
theorem isB_vp {v : Int32} (h : isB v = true) : vp_nar .boolean v = v := by
  unfold isB at h
  rw [Bool.or_eq_true, beq_iff_eq, beq_iff_eq] at h
  rcases h with rfl | rfl <;> decide +kernel
def loop {St Ex : Type} (B : St → Option (St ⊕ Ex)) : Nat → St → Option Ex
  | 0, _ => none
  | n + 1, st => (B st).bind (fun r => match r with
    | .inl st' => loop B n st'
    | .inr ex => some ex)
theorem loop_ok {St Ex : Type} {B : St → Option (St ⊕ Ex)} (Jh : St → Prop) {ex : Ex} (body : ∀ st r, B st = some r → (∀ st', r = .inl st' → Jh st') → (∀ ex', r = .inr ex' → ex' = ex) → Jh st) : ∀ k st, loop B k st = some ex → Jh st := by
  intro k
  induction k with
  | zero => intro st h; cases h
  | succ k ih =>
    intro st h
    cases hB : B st with
    | none => rw [loop, hB] at h; cases h
    | some r =>
      rw [loop, hB] at h
      refine body st r hB (fun st' hr => ?_) (fun ex' hr => ?_)
      · subst hr
        exact ih st' h
      · subst hr
        exact Option.some.inj h
def un0 {β : Type} (_ : Unit) (f : Option β) : Option β := f
theorem un0_inv {β : Type} {u : Unit} {f : Option β} {r : β} (h : un0 u f = some r) : f = some r := h
def bd1 {A1 β : Type} (x : Option (A1)) (f : A1 → Option β) : Option β := x.bind (fun q => f q)
theorem bd1_inv {A1 β : Type} {x : Option (A1)} {f : A1 → Option β} {r : β} (h : bd1 x f = some r) : ∃ a1, x = some a1 ∧ f a1 = some r := by
  unfold bd1 at h
  cases x with
  | none => cases h
  | some q => exact ⟨q, rfl, h⟩
def un1 {A1 β : Type} (q : A1) (f : A1 → Option β) : Option β := f q
theorem un1_inv {A1 β : Type} {a1 : A1} {f : A1 → Option β} {r : β} (h : un1 a1 f = some r) : f a1 = some r := h
def bd2 {A1 A2 β : Type} (x : Option (A1 × A2)) (f : A1 → A2 → Option β) : Option β := x.bind (fun q => f q.1 q.2)
theorem bd2_inv {A1 A2 β : Type} {x : Option (A1 × A2)} {f : A1 → A2 → Option β} {r : β} (h : bd2 x f = some r) : ∃ a1 a2, x = some (a1, a2) ∧ f a1 a2 = some r := by
  unfold bd2 at h
  cases x with
  | none => cases h
  | some q => exact ⟨q.1, q.2, rfl, h⟩
def un2 {A1 A2 β : Type} (q : A1 × A2) (f : A1 → A2 → Option β) : Option β := f q.1 q.2
theorem un2_inv {A1 A2 β : Type} {a1 : A1} {a2 : A2} {f : A1 → A2 → Option β} {r : β} (h : un2 (a1, a2) f = some r) : f a1 a2 = some r := h
def bd3 {A1 A2 A3 β : Type} (x : Option (A1 × A2 × A3)) (f : A1 → A2 → A3 → Option β) : Option β := x.bind (fun q => f q.1 q.2.1 q.2.2)
theorem bd3_inv {A1 A2 A3 β : Type} {x : Option (A1 × A2 × A3)} {f : A1 → A2 → A3 → Option β} {r : β} (h : bd3 x f = some r) : ∃ a1 a2 a3, x = some (a1, a2, a3) ∧ f a1 a2 a3 = some r := by
  unfold bd3 at h
  cases x with
  | none => cases h
  | some q => exact ⟨q.1, q.2.1, q.2.2, rfl, h⟩
def un3 {A1 A2 A3 β : Type} (q : A1 × A2 × A3) (f : A1 → A2 → A3 → Option β) : Option β := f q.1 q.2.1 q.2.2
theorem un3_inv {A1 A2 A3 β : Type} {a1 : A1} {a2 : A2} {a3 : A3} {f : A1 → A2 → A3 → Option β} {r : β} (h : un3 (a1, a2, a3) f = some r) : f a1 a2 a3 = some r := h
def bd4 {A1 A2 A3 A4 β : Type} (x : Option (A1 × A2 × A3 × A4)) (f : A1 → A2 → A3 → A4 → Option β) : Option β := x.bind (fun q => f q.1 q.2.1 q.2.2.1 q.2.2.2)
theorem bd4_inv {A1 A2 A3 A4 β : Type} {x : Option (A1 × A2 × A3 × A4)} {f : A1 → A2 → A3 → A4 → Option β} {r : β} (h : bd4 x f = some r) : ∃ a1 a2 a3 a4, x = some (a1, a2, a3, a4) ∧ f a1 a2 a3 a4 = some r := by
  unfold bd4 at h
  cases x with
  | none => cases h
  | some q => exact ⟨q.1, q.2.1, q.2.2.1, q.2.2.2, rfl, h⟩
def un4 {A1 A2 A3 A4 β : Type} (q : A1 × A2 × A3 × A4) (f : A1 → A2 → A3 → A4 → Option β) : Option β := f q.1 q.2.1 q.2.2.1 q.2.2.2
theorem un4_inv {A1 A2 A3 A4 β : Type} {a1 : A1} {a2 : A2} {a3 : A3} {a4 : A4} {f : A1 → A2 → A3 → A4 → Option β} {r : β} (h : un4 (a1, a2, a3, a4) f = some r) : f a1 a2 a3 a4 = some r := h
def bd5 {A1 A2 A3 A4 A5 β : Type} (x : Option (A1 × A2 × A3 × A4 × A5)) (f : A1 → A2 → A3 → A4 → A5 → Option β) : Option β := x.bind (fun q => f q.1 q.2.1 q.2.2.1 q.2.2.2.1 q.2.2.2.2)
theorem bd5_inv {A1 A2 A3 A4 A5 β : Type} {x : Option (A1 × A2 × A3 × A4 × A5)} {f : A1 → A2 → A3 → A4 → A5 → Option β} {r : β} (h : bd5 x f = some r) : ∃ a1 a2 a3 a4 a5, x = some (a1, a2, a3, a4, a5) ∧ f a1 a2 a3 a4 a5 = some r := by
  unfold bd5 at h
  cases x with
  | none => cases h
  | some q => exact ⟨q.1, q.2.1, q.2.2.1, q.2.2.2.1, q.2.2.2.2, rfl, h⟩
def un5 {A1 A2 A3 A4 A5 β : Type} (q : A1 × A2 × A3 × A4 × A5) (f : A1 → A2 → A3 → A4 → A5 → Option β) : Option β := f q.1 q.2.1 q.2.2.1 q.2.2.2.1 q.2.2.2.2
theorem un5_inv {A1 A2 A3 A4 A5 β : Type} {a1 : A1} {a2 : A2} {a3 : A3} {a4 : A4} {a5 : A5} {f : A1 → A2 → A3 → A4 → A5 → Option β} {r : β} (h : un5 (a1, a2, a3, a4, a5) f = some r) : f a1 a2 a3 a4 a5 = some r := h
def bd6 {A1 A2 A3 A4 A5 A6 β : Type} (x : Option (A1 × A2 × A3 × A4 × A5 × A6)) (f : A1 → A2 → A3 → A4 → A5 → A6 → Option β) : Option β := x.bind (fun q => f q.1 q.2.1 q.2.2.1 q.2.2.2.1 q.2.2.2.2.1 q.2.2.2.2.2)
theorem bd6_inv {A1 A2 A3 A4 A5 A6 β : Type} {x : Option (A1 × A2 × A3 × A4 × A5 × A6)} {f : A1 → A2 → A3 → A4 → A5 → A6 → Option β} {r : β} (h : bd6 x f = some r) : ∃ a1 a2 a3 a4 a5 a6, x = some (a1, a2, a3, a4, a5, a6) ∧ f a1 a2 a3 a4 a5 a6 = some r := by
  unfold bd6 at h
  cases x with
  | none => cases h
  | some q => exact ⟨q.1, q.2.1, q.2.2.1, q.2.2.2.1, q.2.2.2.2.1, q.2.2.2.2.2, rfl, h⟩
def un6 {A1 A2 A3 A4 A5 A6 β : Type} (q : A1 × A2 × A3 × A4 × A5 × A6) (f : A1 → A2 → A3 → A4 → A5 → A6 → Option β) : Option β := f q.1 q.2.1 q.2.2.1 q.2.2.2.1 q.2.2.2.2.1 q.2.2.2.2.2
theorem un6_inv {A1 A2 A3 A4 A5 A6 β : Type} {a1 : A1} {a2 : A2} {a3 : A3} {a4 : A4} {a5 : A5} {a6 : A6} {f : A1 → A2 → A3 → A4 → A5 → A6 → Option β} {r : β} (h : un6 (a1, a2, a3, a4, a5, a6) f = some r) : f a1 a2 a3 a4 a5 a6 = some r := h
def bd7 {A1 A2 A3 A4 A5 A6 A7 β : Type} (x : Option (A1 × A2 × A3 × A4 × A5 × A6 × A7)) (f : A1 → A2 → A3 → A4 → A5 → A6 → A7 → Option β) : Option β := x.bind (fun q => f q.1 q.2.1 q.2.2.1 q.2.2.2.1 q.2.2.2.2.1 q.2.2.2.2.2.1 q.2.2.2.2.2.2)
theorem bd7_inv {A1 A2 A3 A4 A5 A6 A7 β : Type} {x : Option (A1 × A2 × A3 × A4 × A5 × A6 × A7)} {f : A1 → A2 → A3 → A4 → A5 → A6 → A7 → Option β} {r : β} (h : bd7 x f = some r) : ∃ a1 a2 a3 a4 a5 a6 a7, x = some (a1, a2, a3, a4, a5, a6, a7) ∧ f a1 a2 a3 a4 a5 a6 a7 = some r := by
  unfold bd7 at h
  cases x with
  | none => cases h
  | some q => exact ⟨q.1, q.2.1, q.2.2.1, q.2.2.2.1, q.2.2.2.2.1, q.2.2.2.2.2.1, q.2.2.2.2.2.2, rfl, h⟩
def un7 {A1 A2 A3 A4 A5 A6 A7 β : Type} (q : A1 × A2 × A3 × A4 × A5 × A6 × A7) (f : A1 → A2 → A3 → A4 → A5 → A6 → A7 → Option β) : Option β := f q.1 q.2.1 q.2.2.1 q.2.2.2.1 q.2.2.2.2.1 q.2.2.2.2.2.1 q.2.2.2.2.2.2
theorem un7_inv {A1 A2 A3 A4 A5 A6 A7 β : Type} {a1 : A1} {a2 : A2} {a3 : A3} {a4 : A4} {a5 : A5} {a6 : A6} {a7 : A7} {f : A1 → A2 → A3 → A4 → A5 → A6 → A7 → Option β} {r : β} (h : un7 (a1, a2, a3, a4, a5, a6, a7) f = some r) : f a1 a2 a3 a4 a5 a6 a7 = some r := h
def bd8 {A1 A2 A3 A4 A5 A6 A7 A8 β : Type} (x : Option (A1 × A2 × A3 × A4 × A5 × A6 × A7 × A8)) (f : A1 → A2 → A3 → A4 → A5 → A6 → A7 → A8 → Option β) : Option β := x.bind (fun q => f q.1 q.2.1 q.2.2.1 q.2.2.2.1 q.2.2.2.2.1 q.2.2.2.2.2.1 q.2.2.2.2.2.2.1 q.2.2.2.2.2.2.2)
theorem bd8_inv {A1 A2 A3 A4 A5 A6 A7 A8 β : Type} {x : Option (A1 × A2 × A3 × A4 × A5 × A6 × A7 × A8)} {f : A1 → A2 → A3 → A4 → A5 → A6 → A7 → A8 → Option β} {r : β} (h : bd8 x f = some r) : ∃ a1 a2 a3 a4 a5 a6 a7 a8, x = some (a1, a2, a3, a4, a5, a6, a7, a8) ∧ f a1 a2 a3 a4 a5 a6 a7 a8 = some r := by
  unfold bd8 at h
  cases x with
  | none => cases h
  | some q => exact ⟨q.1, q.2.1, q.2.2.1, q.2.2.2.1, q.2.2.2.2.1, q.2.2.2.2.2.1, q.2.2.2.2.2.2.1, q.2.2.2.2.2.2.2, rfl, h⟩
def un8 {A1 A2 A3 A4 A5 A6 A7 A8 β : Type} (q : A1 × A2 × A3 × A4 × A5 × A6 × A7 × A8) (f : A1 → A2 → A3 → A4 → A5 → A6 → A7 → A8 → Option β) : Option β := f q.1 q.2.1 q.2.2.1 q.2.2.2.1 q.2.2.2.2.1 q.2.2.2.2.2.1 q.2.2.2.2.2.2.1 q.2.2.2.2.2.2.2
theorem un8_inv {A1 A2 A3 A4 A5 A6 A7 A8 β : Type} {a1 : A1} {a2 : A2} {a3 : A3} {a4 : A4} {a5 : A5} {a6 : A6} {a7 : A7} {a8 : A8} {f : A1 → A2 → A3 → A4 → A5 → A6 → A7 → A8 → Option β} {r : β} (h : un8 (a1, a2, a3, a4, a5, a6, a7, a8) f = some r) : f a1 a2 a3 a4 a5 a6 a7 a8 = some r := h
def bd9 {A1 A2 A3 A4 A5 A6 A7 A8 A9 β : Type} (x : Option (A1 × A2 × A3 × A4 × A5 × A6 × A7 × A8 × A9)) (f : A1 → A2 → A3 → A4 → A5 → A6 → A7 → A8 → A9 → Option β) : Option β := x.bind (fun q => f q.1 q.2.1 q.2.2.1 q.2.2.2.1 q.2.2.2.2.1 q.2.2.2.2.2.1 q.2.2.2.2.2.2.1 q.2.2.2.2.2.2.2.1 q.2.2.2.2.2.2.2.2)
theorem bd9_inv {A1 A2 A3 A4 A5 A6 A7 A8 A9 β : Type} {x : Option (A1 × A2 × A3 × A4 × A5 × A6 × A7 × A8 × A9)} {f : A1 → A2 → A3 → A4 → A5 → A6 → A7 → A8 → A9 → Option β} {r : β} (h : bd9 x f = some r) : ∃ a1 a2 a3 a4 a5 a6 a7 a8 a9, x = some (a1, a2, a3, a4, a5, a6, a7, a8, a9) ∧ f a1 a2 a3 a4 a5 a6 a7 a8 a9 = some r := by
  unfold bd9 at h
  cases x with
  | none => cases h
  | some q => exact ⟨q.1, q.2.1, q.2.2.1, q.2.2.2.1, q.2.2.2.2.1, q.2.2.2.2.2.1, q.2.2.2.2.2.2.1, q.2.2.2.2.2.2.2.1, q.2.2.2.2.2.2.2.2, rfl, h⟩
def un9 {A1 A2 A3 A4 A5 A6 A7 A8 A9 β : Type} (q : A1 × A2 × A3 × A4 × A5 × A6 × A7 × A8 × A9) (f : A1 → A2 → A3 → A4 → A5 → A6 → A7 → A8 → A9 → Option β) : Option β := f q.1 q.2.1 q.2.2.1 q.2.2.2.1 q.2.2.2.2.1 q.2.2.2.2.2.1 q.2.2.2.2.2.2.1 q.2.2.2.2.2.2.2.1 q.2.2.2.2.2.2.2.2
theorem un9_inv {A1 A2 A3 A4 A5 A6 A7 A8 A9 β : Type} {a1 : A1} {a2 : A2} {a3 : A3} {a4 : A4} {a5 : A5} {a6 : A6} {a7 : A7} {a8 : A8} {a9 : A9} {f : A1 → A2 → A3 → A4 → A5 → A6 → A7 → A8 → A9 → Option β} {r : β} (h : un9 (a1, a2, a3, a4, a5, a6, a7, a8, a9) f = some r) : f a1 a2 a3 a4 a5 a6 a7 a8 a9 = some r := h
def bd10 {A1 A2 A3 A4 A5 A6 A7 A8 A9 A10 β : Type} (x : Option (A1 × A2 × A3 × A4 × A5 × A6 × A7 × A8 × A9 × A10)) (f : A1 → A2 → A3 → A4 → A5 → A6 → A7 → A8 → A9 → A10 → Option β) : Option β := x.bind (fun q => f q.1 q.2.1 q.2.2.1 q.2.2.2.1 q.2.2.2.2.1 q.2.2.2.2.2.1 q.2.2.2.2.2.2.1 q.2.2.2.2.2.2.2.1 q.2.2.2.2.2.2.2.2.1 q.2.2.2.2.2.2.2.2.2)
theorem bd10_inv {A1 A2 A3 A4 A5 A6 A7 A8 A9 A10 β : Type} {x : Option (A1 × A2 × A3 × A4 × A5 × A6 × A7 × A8 × A9 × A10)} {f : A1 → A2 → A3 → A4 → A5 → A6 → A7 → A8 → A9 → A10 → Option β} {r : β} (h : bd10 x f = some r) : ∃ a1 a2 a3 a4 a5 a6 a7 a8 a9 a10, x = some (a1, a2, a3, a4, a5, a6, a7, a8, a9, a10) ∧ f a1 a2 a3 a4 a5 a6 a7 a8 a9 a10 = some r := by
  unfold bd10 at h
  cases x with
  | none => cases h
  | some q => exact ⟨q.1, q.2.1, q.2.2.1, q.2.2.2.1, q.2.2.2.2.1, q.2.2.2.2.2.1, q.2.2.2.2.2.2.1, q.2.2.2.2.2.2.2.1, q.2.2.2.2.2.2.2.2.1, q.2.2.2.2.2.2.2.2.2, rfl, h⟩
def un10 {A1 A2 A3 A4 A5 A6 A7 A8 A9 A10 β : Type} (q : A1 × A2 × A3 × A4 × A5 × A6 × A7 × A8 × A9 × A10) (f : A1 → A2 → A3 → A4 → A5 → A6 → A7 → A8 → A9 → A10 → Option β) : Option β := f q.1 q.2.1 q.2.2.1 q.2.2.2.1 q.2.2.2.2.1 q.2.2.2.2.2.1 q.2.2.2.2.2.2.1 q.2.2.2.2.2.2.2.1 q.2.2.2.2.2.2.2.2.1 q.2.2.2.2.2.2.2.2.2
theorem un10_inv {A1 A2 A3 A4 A5 A6 A7 A8 A9 A10 β : Type} {a1 : A1} {a2 : A2} {a3 : A3} {a4 : A4} {a5 : A5} {a6 : A6} {a7 : A7} {a8 : A8} {a9 : A9} {a10 : A10} {f : A1 → A2 → A3 → A4 → A5 → A6 → A7 → A8 → A9 → A10 → Option β} {r : β} (h : un10 (a1, a2, a3, a4, a5, a6, a7, a8, a9, a10) f = some r) : f a1 a2 a3 a4 a5 a6 a7 a8 a9 a10 = some r := h
def bd11 {A1 A2 A3 A4 A5 A6 A7 A8 A9 A10 A11 β : Type} (x : Option (A1 × A2 × A3 × A4 × A5 × A6 × A7 × A8 × A9 × A10 × A11)) (f : A1 → A2 → A3 → A4 → A5 → A6 → A7 → A8 → A9 → A10 → A11 → Option β) : Option β := x.bind (fun q => f q.1 q.2.1 q.2.2.1 q.2.2.2.1 q.2.2.2.2.1 q.2.2.2.2.2.1 q.2.2.2.2.2.2.1 q.2.2.2.2.2.2.2.1 q.2.2.2.2.2.2.2.2.1 q.2.2.2.2.2.2.2.2.2.1 q.2.2.2.2.2.2.2.2.2.2)
theorem bd11_inv {A1 A2 A3 A4 A5 A6 A7 A8 A9 A10 A11 β : Type} {x : Option (A1 × A2 × A3 × A4 × A5 × A6 × A7 × A8 × A9 × A10 × A11)} {f : A1 → A2 → A3 → A4 → A5 → A6 → A7 → A8 → A9 → A10 → A11 → Option β} {r : β} (h : bd11 x f = some r) : ∃ a1 a2 a3 a4 a5 a6 a7 a8 a9 a10 a11, x = some (a1, a2, a3, a4, a5, a6, a7, a8, a9, a10, a11) ∧ f a1 a2 a3 a4 a5 a6 a7 a8 a9 a10 a11 = some r := by
  unfold bd11 at h
  cases x with
  | none => cases h
  | some q => exact ⟨q.1, q.2.1, q.2.2.1, q.2.2.2.1, q.2.2.2.2.1, q.2.2.2.2.2.1, q.2.2.2.2.2.2.1, q.2.2.2.2.2.2.2.1, q.2.2.2.2.2.2.2.2.1, q.2.2.2.2.2.2.2.2.2.1, q.2.2.2.2.2.2.2.2.2.2, rfl, h⟩
def un11 {A1 A2 A3 A4 A5 A6 A7 A8 A9 A10 A11 β : Type} (q : A1 × A2 × A3 × A4 × A5 × A6 × A7 × A8 × A9 × A10 × A11) (f : A1 → A2 → A3 → A4 → A5 → A6 → A7 → A8 → A9 → A10 → A11 → Option β) : Option β := f q.1 q.2.1 q.2.2.1 q.2.2.2.1 q.2.2.2.2.1 q.2.2.2.2.2.1 q.2.2.2.2.2.2.1 q.2.2.2.2.2.2.2.1 q.2.2.2.2.2.2.2.2.1 q.2.2.2.2.2.2.2.2.2.1 q.2.2.2.2.2.2.2.2.2.2
theorem un11_inv {A1 A2 A3 A4 A5 A6 A7 A8 A9 A10 A11 β : Type} {a1 : A1} {a2 : A2} {a3 : A3} {a4 : A4} {a5 : A5} {a6 : A6} {a7 : A7} {a8 : A8} {a9 : A9} {a10 : A10} {a11 : A11} {f : A1 → A2 → A3 → A4 → A5 → A6 → A7 → A8 → A9 → A10 → A11 → Option β} {r : β} (h : un11 (a1, a2, a3, a4, a5, a6, a7, a8, a9, a10, a11) f = some r) : f a1 a2 a3 a4 a5 a6 a7 a8 a9 a10 a11 = some r := h
def bd12 {A1 A2 A3 A4 A5 A6 A7 A8 A9 A10 A11 A12 β : Type} (x : Option (A1 × A2 × A3 × A4 × A5 × A6 × A7 × A8 × A9 × A10 × A11 × A12)) (f : A1 → A2 → A3 → A4 → A5 → A6 → A7 → A8 → A9 → A10 → A11 → A12 → Option β) : Option β := x.bind (fun q => f q.1 q.2.1 q.2.2.1 q.2.2.2.1 q.2.2.2.2.1 q.2.2.2.2.2.1 q.2.2.2.2.2.2.1 q.2.2.2.2.2.2.2.1 q.2.2.2.2.2.2.2.2.1 q.2.2.2.2.2.2.2.2.2.1 q.2.2.2.2.2.2.2.2.2.2.1 q.2.2.2.2.2.2.2.2.2.2.2)
theorem bd12_inv {A1 A2 A3 A4 A5 A6 A7 A8 A9 A10 A11 A12 β : Type} {x : Option (A1 × A2 × A3 × A4 × A5 × A6 × A7 × A8 × A9 × A10 × A11 × A12)} {f : A1 → A2 → A3 → A4 → A5 → A6 → A7 → A8 → A9 → A10 → A11 → A12 → Option β} {r : β} (h : bd12 x f = some r) : ∃ a1 a2 a3 a4 a5 a6 a7 a8 a9 a10 a11 a12, x = some (a1, a2, a3, a4, a5, a6, a7, a8, a9, a10, a11, a12) ∧ f a1 a2 a3 a4 a5 a6 a7 a8 a9 a10 a11 a12 = some r := by
  unfold bd12 at h
  cases x with
  | none => cases h
  | some q => exact ⟨q.1, q.2.1, q.2.2.1, q.2.2.2.1, q.2.2.2.2.1, q.2.2.2.2.2.1, q.2.2.2.2.2.2.1, q.2.2.2.2.2.2.2.1, q.2.2.2.2.2.2.2.2.1, q.2.2.2.2.2.2.2.2.2.1, q.2.2.2.2.2.2.2.2.2.2.1, q.2.2.2.2.2.2.2.2.2.2.2, rfl, h⟩
def un12 {A1 A2 A3 A4 A5 A6 A7 A8 A9 A10 A11 A12 β : Type} (q : A1 × A2 × A3 × A4 × A5 × A6 × A7 × A8 × A9 × A10 × A11 × A12) (f : A1 → A2 → A3 → A4 → A5 → A6 → A7 → A8 → A9 → A10 → A11 → A12 → Option β) : Option β := f q.1 q.2.1 q.2.2.1 q.2.2.2.1 q.2.2.2.2.1 q.2.2.2.2.2.1 q.2.2.2.2.2.2.1 q.2.2.2.2.2.2.2.1 q.2.2.2.2.2.2.2.2.1 q.2.2.2.2.2.2.2.2.2.1 q.2.2.2.2.2.2.2.2.2.2.1 q.2.2.2.2.2.2.2.2.2.2.2
theorem un12_inv {A1 A2 A3 A4 A5 A6 A7 A8 A9 A10 A11 A12 β : Type} {a1 : A1} {a2 : A2} {a3 : A3} {a4 : A4} {a5 : A5} {a6 : A6} {a7 : A7} {a8 : A8} {a9 : A9} {a10 : A10} {a11 : A11} {a12 : A12} {f : A1 → A2 → A3 → A4 → A5 → A6 → A7 → A8 → A9 → A10 → A11 → A12 → Option β} {r : β} (h : un12 (a1, a2, a3, a4, a5, a6, a7, a8, a9, a10, a11, a12) f = some r) : f a1 a2 a3 a4 a5 a6 a7 a8 a9 a10 a11 a12 = some r := h
def bd0 {β : Type} (x : Option Unit) (f : Option β) : Option β := x.bind (fun _ => f)
theorem bd0_inv {β : Type} {x : Option Unit} {f : Option β} {r : β} (h : bd0 x f = some r) : x = some () ∧ f = some r := by
  unfold bd0 at h
  cases x with
  | none => cases h
  | some q => exact ⟨rfl, h⟩
def bdS {A B β : Type} (x : Option (A ⊕ B)) (f : A → Option β) (g : B → Option β) : Option β := x.bind (Sum.elim f g)
theorem bdS_inv {A B β : Type} {x : Option (A ⊕ B)} {f : A → Option β} {g : B → Option β} {r : β} (h : bdS x f g = some r) : (∃ a, x = some (.inl a) ∧ f a = some r) ∨ (∃ b, x = some (.inr b) ∧ g b = some r) := by
  unfold bdS at h
  cases x with
  | none => cases h
  | some q =>
    cases q with
    | inl a => exact Or.inl ⟨a, rfl, h⟩
    | inr b => exact Or.inr ⟨b, rfl, h⟩
/-- a drawing's five cells -/
def DrOk (n o : Nat) : Prop := (o = 1 ∨ (49 ≤ o ∧ (o - 49) % 5 = 0)) ∧ o + 5 ≤ n
def drok (n : Nat) (v : Int32) : Bool := decide (49 ≤ v.toNatClampNeg) && (decide ((v.toNatClampNeg - 49) % 5 = 0) && decide (v.toNatClampNeg + 5 ≤ n))
theorem drok_ok {n : Nat} {v : Int32} (h : drok n v = true) : DrOk n v.toNatClampNeg := by
  unfold drok at h
  rw [Bool.and_eq_true, Bool.and_eq_true, decide_eq_true_eq, decide_eq_true_eq, decide_eq_true_eq] at h
  exact ⟨Or.inr ⟨h.1, h.2.1⟩, h.2.2⟩
theorem DrOk.main {n : Nat} (h : 49 ≤ n) : DrOk n 1 := ⟨Or.inl rfl, by omega⟩
theorem DrOk.lt0 {n o : Nat} (h : DrOk n o) : o < n := by have := h.2; omega
theorem DrOk.lt1 {n o : Nat} (h : DrOk n o) : o + 1 < n := by have := h.2; omega
theorem DrOk.lt2 {n o : Nat} (h : DrOk n o) : o + 2 < n := by have := h.2; omega
theorem DrOk.lt3 {n o : Nat} (h : DrOk n o) : o + 3 < n := by have := h.2; omega
theorem DrOk.lt4 {n o : Nat} (h : DrOk n o) : o + 4 < n := by have := h.2; omega
theorem sh0_dyn {o j : Nat} (h : 49 ≤ o) (h5 : (o - 49) % 5 = 0) (hj : j < 5) : sh0 (o + j) = drS o j := by
  unfold sh0
  rw [if_neg (by omega)]
  rw [show 49 + 5 * ((o + j - 49) / 5) = o by omega, show (o + j - 49) % 5 = j by omega]
theorem DrOk.s0 {n o : Nat} (h : DrOk n o) : sh0 o = .inr (1, [some (o + 1), some (o + 2), some (o + 3), some (o + 4)]) := by
  rcases h.1 with rfl | ⟨h1, h2⟩
  · rfl
  · exact sh0_dyn (j := 0) h1 h2 (by omega)
theorem DrOk.s1 {n o : Nat} (h : DrOk n o) : sh0 (o + 1) = .inl (0, 192) := by
  rcases h.1 with rfl | ⟨h1, h2⟩
  · rfl
  · exact sh0_dyn (j := 1) h1 h2 (by omega)
theorem DrOk.s2 {n o : Nat} (h : DrOk n o) : sh0 (o + 2) = .inl (0, 192) := by
  rcases h.1 with rfl | ⟨h1, h2⟩
  · rfl
  · exact sh0_dyn (j := 2) h1 h2 (by omega)
theorem DrOk.s3 {n o : Nat} (h : DrOk n o) : sh0 (o + 3) = .inl (0, 24) := by
  rcases h.1 with rfl | ⟨h1, h2⟩
  · rfl
  · exact sh0_dyn (j := 3) h1 h2 (by omega)
theorem DrOk.s4 {n o : Nat} (h : DrOk n o) : sh0 (o + 4) = .inl (0, 24) := by
  rcases h.1 with rfl | ⟨h1, h2⟩
  · rfl
  · exact sh0_dyn (j := 4) h1 h2 (by omega)
theorem tbl_ok {k : List (Nat × Instr × Nat)} {cc : ByteArray} (h : ∀ q ∈ k, decode cc q.1 = .ok q.2) : ∀ (i : Nat) (q : Nat × Instr × Nat), k[i]? = some q → decode cc q.1 = .ok q.2 := fun _ q hq => h q (List.mem_of_getElem? hq)
theorem sh_0 : sh0 0 = .inr (4, [some 1, some 6, some 10, some 17]) := rfl
theorem sh_1 : sh0 1 = .inr (1, [some 2, some 3, some 4, some 5]) := rfl
theorem sh_2 : sh0 2 = .inl (0, 192) := rfl
theorem sh_3 : sh0 3 = .inl (0, 192) := rfl
theorem sh_4 : sh0 4 = .inl (0, 24) := rfl
theorem sh_5 : sh0 5 = .inl (0, 24) := rfl
theorem sh_6 : sh0 6 = .inr (2, [some 7, some 8, some 9, none]) := rfl
theorem sh_7 : sh0 7 = .inl (0, 24) := rfl
theorem sh_8 : sh0 8 = .inl (0, 92) := rfl
theorem sh_9 : sh0 9 = .inl (0, 92) := rfl
theorem sh_10 : sh0 10 = .inr (3, [some 11, none, some 12, some 13, some 14, some 15, some 16]) := rfl
theorem sh_11 : sh0 11 = .inl (3, 10) := rfl
theorem sh_12 : sh0 12 = .inl (0, 36) := rfl
theorem sh_13 : sh0 13 = .inl (0, 36) := rfl
theorem sh_14 : sh0 14 = .inl (0, 2) := rfl
theorem sh_15 : sh0 15 = .inl (0, 2) := rfl
theorem sh_16 : sh0 16 = .inl (0, 97) := rfl
theorem sh_17 : sh0 17 = .inr (0, [none, none, some 18, some 19, some 20, some 21, some 22, some 23, some 24, some 25, some 26, none, none]) := rfl
theorem sh_18 : sh0 18 = .inl (0, 903) := rfl
theorem sh_19 : sh0 19 = .inl (0, 903) := rfl
theorem sh_20 : sh0 20 = .inl (0, 903) := rfl
theorem sh_21 : sh0 21 = .inl (0, 97) := rfl
theorem sh_22 : sh0 22 = .inl (0, 903) := rfl
theorem sh_23 : sh0 23 = .inl (0, 903) := rfl
theorem sh_24 : sh0 24 = .inl (0, 903) := rfl
theorem sh_25 : sh0 25 = .inl (0, 903) := rfl
theorem sh_26 : sh0 26 = .inl (0, 903) := rfl
theorem sh_27 : sh0 27 = .inr (5, [none, none, some 28, some 29, some 30, some 31, some 32, some 33, none, some 34, some 35, some 36, some 37, some 38, none, some 39, some 40, some 41, some 42, some 43, some 44, some 45, some 46, none, none, some 47]) := rfl
theorem sh_28 : sh0 28 = .inl (0, 264) := rfl
theorem sh_29 : sh0 29 = .inl (0, 264) := rfl
theorem sh_30 : sh0 30 = .inl (0, 2112) := rfl
theorem sh_31 : sh0 31 = .inl (0, 2112) := rfl
theorem sh_32 : sh0 32 = .inl (0, 32) := rfl
theorem sh_33 : sh0 33 = .inl (0, 96) := rfl
theorem sh_34 : sh0 34 = .inl (0, 96) := rfl
theorem sh_35 : sh0 35 = .inl (0, 36) := rfl
theorem sh_36 : sh0 36 = .inl (0, 36) := rfl
theorem sh_37 : sh0 37 = .inl (0, 2) := rfl
theorem sh_38 : sh0 38 = .inl (0, 2) := rfl
theorem sh_39 : sh0 39 = .inl (0, 1000) := rfl
theorem sh_40 : sh0 40 = .inl (0, 1000) := rfl
theorem sh_41 : sh0 41 = .inl (0, 1000) := rfl
theorem sh_42 : sh0 42 = .inl (1, 1000) := rfl
theorem sh_43 : sh0 43 = .inl (1, 97) := rfl
theorem sh_44 : sh0 44 = .inl (0, 1000) := rfl
theorem sh_45 : sh0 45 = .inl (0, 1000) := rfl
theorem sh_46 : sh0 46 = .inl (0, 1000) := rfl
theorem sh_47 : sh0 47 = .inl (0, 1000) := rfl
theorem sh_48 : sh0 48 = .inl (2, 1) := rfl
section JN
variable {p : Program} {l : Launch} {e : Env} {R : Room} {s : State} {m : MethodId} {args : Array Value} {below : List Frame} {meth : Method} {c : Code} {D : va_G} {cA : Nat → ClassId} {ad : Nat → Nat} {n : Nat} {A : Nat → Prop} {sa : Nat → Nat} {nL cells slots : Nat} {Q : State → Prop} {cc : ByteArray} {own : String} {kt : List (Nat × Instr × Nat)} {M : Mem} {pc : Nat} {L : List (Nat × Value)} {st : List Value} {M2 : Mem}
theorem Cx.lt (hX : Cx p s m args meth c D cA ad n A sa cc nL own kt) {k : Nat} (h : k < 49) : k < n := Nat.lt_of_lt_of_le h hX.n49
theorem J.nm {x v : Int32} (h : x = v) (kk : J p l e R s m args below meth c D cA ad n A nL cells slots Q M pc L (.int v :: st)) : J p l e R s m args below meth c D cA ad n A nL cells slots Q M pc L (.int x :: st) := by rw [h]; exact kk
theorem J.ialdN (hX : Cx p s m args meth c D cA ad n A sa cc nL own kt) (i : Nat) (k : Nat) {len : Nat} {x : Int32} (hkn : k < n) (hs : sh0 k = .inl (0, len)) (hb : vp_in x len) {t : Int32} (ht : M k x.toNatClampNeg = t) (hk : kt[i]? = some (pc, .iaload, 1)) (kk : J p l e R s m args below meth c D cA ad n A nL cells slots Q M (pc + 1) L (.int t :: st)) : J p l e R s m args below meth c D cA ad n A nL cells slots Q M pc L (.int x :: .ref (ad k) :: st) := J.iald hX i k hkn hs hb hk (by rw [ht]; exact kk)
theorem J.zaldN (hX : Cx p s m args meth c D cA ad n A sa cc nL own kt) (i : Nat) (k : Nat) {len : Nat} {x : Int32} (hkn : k < n) (hs : sh0 k = .inl (1, len)) (hb : vp_in x len) {t : Int32} (ht : M k x.toNatClampNeg = t) (hk : kt[i]? = some (pc, .baload, 1)) (kk : J p l e R s m args below meth c D cA ad n A nL cells slots Q M (pc + 1) L (.int t :: st)) : J p l e R s m args below meth c D cA ad n A nL cells slots Q M pc L (.int x :: .ref (ad k) :: st) := J.zald hX i k hkn hs hb hk (by rw [ht]; exact kk)
theorem J.iastN (hX : Cx p s m args meth c D cA ad n A sa cc nL own kt) (i : Nat) (k : Nat) {len : Nat} {x : Int32} (hkn : k < n) (hs : sh0 k = .inl (0, len)) (hb : vp_in x len) {v : Int32} (hM : wr M k x.toNatClampNeg v = M2) (hk : kt[i]? = some (pc, .iastore, 1)) (kk : J p l e R s m args below meth c D cA ad n A nL cells slots Q M2 (pc + 1) L st) : J p l e R s m args below meth c D cA ad n A nL cells slots Q M pc L (.int v :: .int x :: .ref (ad k) :: st) := J.iast hX i k hkn hs hb hk (by rw [hM]; exact kk)
theorem J.zastN (hX : Cx p s m args meth c D cA ad n A sa cc nL own kt) (i : Nat) (k : Nat) {len : Nat} {x : Int32} (hkn : k < n) (hs : sh0 k = .inl (1, len)) (hb : vp_in x len) {v : Int32} (hM : wr M k x.toNatClampNeg v = M2) (hv : vp_nar .boolean v = v) (hk : kt[i]? = some (pc, .bastore, 1)) (kk : J p l e R s m args below meth c D cA ad n A nL cells slots Q M2 (pc + 1) L st) : J p l e R s m args below meth c D cA ad n A nL cells slots Q M pc L (.int v :: .int x :: .ref (ad k) :: st) := J.zast hX i k hkn hs hb hv hk (by rw [hM]; exact kk)
theorem J.putIN (hX : Cx p s m args meth c D cA ad n A sa cc nL own kt) (i : Nat) (k ci : Nat) {fs : List (Option Nat)} {C : String} {T : u_T} {N ix : Nat} (hkn : k < n) (hs : sh0 k = .inr (ci, fs)) (hc : cls6[ci]? = some (C, T, N)) (hin : ∀ w ∈ u_ws C T N, w ∈ wsL_law) (j : Nat) (hj : j < N) (hw : Cond.fieldLink own ix (T j).1 (T j).2.1 (T j).2.2.1 ∈ wsL_law) {v : Int32} (ty0 : Nat → FieldType) (hty : ∀ k, k < N → parseFieldDescriptor (T k).2.2.1 = some (ty0 k)) (hnm : ∀ a, a < N → ∀ b, b < N → a ≠ b → (T a).2.1 ≠ (T b).2.1) (hM : wr M k j v = M2) (hf : fs[j]? = some none) (hfin : (T j).2.2.2 = false) (hd : parseFieldDescriptor (T j).2.2.1 = some .int) (hk : kt[i]? = some (pc, .putfield ix, 3)) (kk : J p l e R s m args below meth c D cA ad n A nL cells slots Q M2 (pc + 3) L st) : J p l e R s m args below meth c D cA ad n A nL cells slots Q M pc L (.int v :: .ref (ad k) :: st) := J.putI hX i k ci hkn hs hc hin j hj hw ty0 hty hnm hf hfin hd hk (by rw [hM]; exact kk)
theorem J.tabIn (hX : Cx p s m args meth c D cA ad n A sa cc nL own kt) (i : Nat) {dflt lo hi : Int} {offs : Array Int} {len : Nat} {x : Int32} (off : Int) (tgt : Nat) (hk : kt[i]? = some (pc, .tableswitch dflt lo hi offs, len)) (h1 : ¬ x.toInt < lo) (h2 : ¬ hi < x.toInt) (ho : offs[(x.toInt - lo).toNat]? = some off) (ht : (pc : Int) + off = (tgt : Int)) (kk : J p l e R s m args below meth c D cA ad n A nL cells slots Q M tgt L st) : J p l e R s m args below meth c D cA ad n A nL cells slots Q M pc L (.int x :: st) := fun H locs ls hP hS hL => lv_tableIn hX.ex hX.by (hX.dec hk) h1 h2 ho ht (kk H locs ls hP hS hL)
theorem J.tabOut (hX : Cx p s m args meth c D cA ad n A sa cc nL own kt) (i : Nat) {dflt lo hi : Int} {offs : Array Int} {len : Nat} {x : Int32} (tgt : Nat) (hk : kt[i]? = some (pc, .tableswitch dflt lo hi offs, len)) (h1 : x.toInt < lo ∨ hi < x.toInt) (ht : (pc : Int) + dflt = (tgt : Int)) (kk : J p l e R s m args below meth c D cA ad n A nL cells slots Q M tgt L st) : J p l e R s m args below meth c D cA ad n A nL cells slots Q M pc L (.int x :: st) := fun H locs ls hP hS hL => lv_tableOut hX.ex hX.by (hX.dec hk) h1 ht (kk H locs ls hP hS hL)
theorem J.look (hX : Cx p s m args meth c D cA ad n A sa cc nL own kt) (i : Nat) {dflt : Int} {ps : Array (Int × Int)} {len : Nat} {x : Int32} (off : Int) (tgt : Nat) (hk : kt[i]? = some (pc, .lookupswitch dflt ps, len)) (hp : (ps.toList.zip (ps.toList.drop 1)).all (fun (a, next) => a.1 < next.1) = true) (ho : Op.lookupswitch.offset ps.toList dflt x.toInt = off) (ht : (pc : Int) + off = (tgt : Int)) (kk : J p l e R s m args below meth c D cA ad n A nL cells slots Q M tgt L st) : J p l e R s m args below meth c D cA ad n A nL cells slots Q M pc L (.int x :: st) := fun H locs ls hP hS hL => lv_lookup hX.ex hX.by (hX.dec hk) hp ho ht (kk H locs ls hP hS hL)
theorem J.mmax (hX : Cx p s m args meth c D cA ad n A sa cc nL own kt) (i : Nat) {ix : Nat} {x y : Int32} (hk : kt[i]? = some (pc, .invokestatic ix, 3)) (hm : Cond.methodLink own ix Lib.Math.max.name ∈ wsL_law) (h2 : Cond.static Lib.Math.max.name ∈ wsL_law) (h3 : Cond.initialized "java/lang/Math" ∈ wsL_law) (h4 : Cond.code Lib.Math.max.name Lib.Math.max.code 2 (some .int) ∈ wsL_law) (hfr : 1 ≤ R.frames) (hlo : (st.map fun v => v.category).sum + 13 ≤ R.locals) (hc : cells ≤ R.cells) (hsl : slots ≤ R.slots) (kk : J p l e R s m args below meth c D cA ad n A nL cells slots Q M (pc + 3) L (.int (if x < y then y else x) :: st)) : J p l e R s m args below meth c D cA ad n A nL cells slots Q M pc L (.int y :: .int x :: st) := fun H locs ls hP hS hL => va_mmax hX.ex hX.by (hX.ml.trans hL.1.symm) hX.ow (hX.ws _ hm) (hX.ws _ h2) (hX.ws _ h3) (hX.ws _ h4) hfr hlo hc hsl (hX.dec hk) (kk H locs ls hP hS hL)
theorem J.mmin (hX : Cx p s m args meth c D cA ad n A sa cc nL own kt) (i : Nat) {ix : Nat} {x y : Int32} (hk : kt[i]? = some (pc, .invokestatic ix, 3)) (hm : Cond.methodLink own ix Lib.Math.min.name ∈ wsL_law) (h2 : Cond.static Lib.Math.min.name ∈ wsL_law) (h3 : Cond.initialized "java/lang/Math" ∈ wsL_law) (h4 : Cond.code Lib.Math.min.name Lib.Math.min.code 2 (some .int) ∈ wsL_law) (hfr : 1 ≤ R.frames) (hlo : (st.map fun v => v.category).sum + 13 ≤ R.locals) (hc : cells ≤ R.cells) (hsl : slots ≤ R.slots) (kk : J p l e R s m args below meth c D cA ad n A nL cells slots Q M (pc + 3) L (.int (if y < x then y else x) :: st)) : J p l e R s m args below meth c D cA ad n A nL cells slots Q M pc L (.int y :: .int x :: st) := fun H locs ls hP hS hL => va_mmin hX.ex hX.by (hX.ml.trans hL.1.symm) hX.ow (hX.ws _ hm) (hX.ws _ h2) (hX.ws _ h3) (hX.ws _ h4) hfr hlo hc hsl (hX.dec hk) (kk H locs ls hP hS hL)
theorem J.mabs (hX : Cx p s m args meth c D cA ad n A sa cc nL own kt) (i : Nat) {ix : Nat} {x : Int32} (hk : kt[i]? = some (pc, .invokestatic ix, 3)) (hm : Cond.methodLink own ix Lib.Math.abs.name ∈ wsL_law) (h2 : Cond.static Lib.Math.abs.name ∈ wsL_law) (h3 : Cond.initialized "java/lang/Math" ∈ wsL_law) (h4 : Cond.code Lib.Math.abs.name Lib.Math.abs.code 1 (some .int) ∈ wsL_law) (hfr : 1 ≤ R.frames) (hlo : (st.map fun v => v.category).sum + 13 ≤ R.locals) (hc : cells ≤ R.cells) (hsl : slots ≤ R.slots) (kk : J p l e R s m args below meth c D cA ad n A nL cells slots Q M (pc + 3) L (.int (if 0 ≤ x then x else 0 - x) :: st)) : J p l e R s m args below meth c D cA ad n A nL cells slots Q M pc L (.int x :: st) := fun H locs ls hP hS hL => va_mabs hX.ex hX.by (hX.ml.trans hL.1.symm) hX.ow (hX.ws _ hm) (hX.ws _ h2) (hX.ws _ h3) (hX.ws _ h4) hfr hlo hc hsl (hX.dec hk) (kk H locs ls hP hS hL)
theorem J.aloadQn (hX : Cx p s m args meth c D cA ad n A sa cc nL own kt) (i : Nat) {k : Fin 4} {v : Int32} (q : Nat) (hk : kt[i]? = some (pc, .aload_n k, 1)) (hl : L[q]? = some (k.val, va_rf (dec ad v))) (kk : J p l e R s m args below meth c D cA ad n A nL cells slots Q M (pc + 1) L (va_rf (dec ad v) :: st)) : J p l e R s m args below meth c D cA ad n A nL cells slots Q M pc L st := fun H locs ls hP hS hL => by
  by_cases h : v = 0
  · rw [show va_rf (dec ad v) = .null from by simp [dec, h, va_rf]] at hl kk
    exact lv_aload_nN hX.ex hX.by (hX.dec hk) rfl (lv_at hL q hl) (kk H locs ls hP hS hL)
  · rw [show va_rf (dec ad v) = .ref (ad v.toNatClampNeg) from by simp [dec, h, va_rf]] at hl kk
    exact lv_aload_n hX.ex hX.by (hX.dec hk) rfl (lv_at hL q hl) (kk H locs ls hP hS hL)
theorem J.aloadQ (hX : Cx p s m args meth c D cA ad n A sa cc nL own kt) (i : Nat) {k : Nat} {v : Int32} (q : Nat) (hk : kt[i]? = some (pc, .aload k, 2)) (hl : L[q]? = some (k, va_rf (dec ad v))) (kk : J p l e R s m args below meth c D cA ad n A nL cells slots Q M (pc + 2) L (va_rf (dec ad v) :: st)) : J p l e R s m args below meth c D cA ad n A nL cells slots Q M pc L st := fun H locs ls hP hS hL => by
  by_cases h : v = 0
  · rw [show va_rf (dec ad v) = .null from by simp [dec, h, va_rf]] at hl kk
    exact lv_aloadN hX.ex hX.by (hX.dec hk) (lv_at hL q hl) (kk H locs ls hP hS hL)
  · rw [show va_rf (dec ad v) = .ref (ad v.toNatClampNeg) from by simp [dec, h, va_rf]] at hl kk
    exact lv_aload hX.ex hX.by (hX.dec hk) (lv_at hL q hl) (kk H locs ls hP hS hL)
theorem J.isref {v : Int32} (h : ¬ v = 0) (kk : J p l e R s m args below meth c D cA ad n A nL cells slots Q M pc L (.ref (ad v.toNatClampNeg) :: st)) : J p l e R s m args below meth c D cA ad n A nL cells slots Q M pc L (va_rf (dec ad v) :: st) := by
  rw [show va_rf (dec ad v) = .ref (ad v.toNatClampNeg) from by simp [dec, h, va_rf]]
  exact kk
end JN
abbrev JM (fr lo : Nat) (p : Program) (l : Launch) (e : Env) (s : State) (m : MethodId) (args : Array Value) (below : List Frame) (meth : Method) (c : Code) (D : va_G) (cA : Nat → ClassId) (ad : Nat → Nat) (n : Nat) (A : Nat → Prop) (nL : Nat) (out : Option Value ⊕ String) (M1 : Mem) (M : Mem) (pc : Nat) (L : List (Nat × Value)) (st : List Value) : Prop := J p l e (rm4 fr lo out) s m args below meth c D cA ad n A nL 0 0 (vx_MQ below (QQ D cA ad n A out M1) (XX D cA ad n A out M1) args s (oc out) (os out) A) M pc L st
theorem in_wsL_law0_r1 : ∀ w ∈ wsL_law0_r1, w ∈ wsL_law := fun w h => List.mem_append_left _ (List.mem_append_left _ (List.mem_append_left _ (List.mem_append_left _ (List.mem_append_left _ (List.mem_append_left _ (List.mem_append_left _ (List.mem_append_left _ (List.mem_append_left _ (List.mem_append_left _ (List.mem_append_left _ (h)))))))))))
theorem in_wsL_law0_r2 : ∀ w ∈ wsL_law0_r2, w ∈ wsL_law := fun w h => List.mem_append_left _ (List.mem_append_left _ (List.mem_append_left _ (List.mem_append_left _ (List.mem_append_left _ (List.mem_append_left _ (List.mem_append_left _ (List.mem_append_left _ (List.mem_append_left _ (List.mem_append_left _ (List.mem_append_right _ (List.mem_append_left _ (h))))))))))))
theorem in_wsL_law0_r3 : ∀ w ∈ wsL_law0_r3, w ∈ wsL_law := fun w h => List.mem_append_left _ (List.mem_append_left _ (List.mem_append_left _ (List.mem_append_left _ (List.mem_append_left _ (List.mem_append_left _ (List.mem_append_left _ (List.mem_append_left _ (List.mem_append_left _ (List.mem_append_left _ (List.mem_append_right _ (List.mem_append_right _ (List.mem_append_left _ (h)))))))))))))
theorem in_wsL_law0_r4 : ∀ w ∈ wsL_law0_r4, w ∈ wsL_law := fun w h => List.mem_append_left _ (List.mem_append_left _ (List.mem_append_left _ (List.mem_append_left _ (List.mem_append_left _ (List.mem_append_left _ (List.mem_append_left _ (List.mem_append_left _ (List.mem_append_left _ (List.mem_append_left _ (List.mem_append_right _ (List.mem_append_right _ (List.mem_append_right _ (List.mem_append_left _ (h))))))))))))))
theorem in_wsL_law0_r5 : ∀ w ∈ wsL_law0_r5, w ∈ wsL_law := fun w h => List.mem_append_left _ (List.mem_append_left _ (List.mem_append_left _ (List.mem_append_left _ (List.mem_append_left _ (List.mem_append_left _ (List.mem_append_left _ (List.mem_append_left _ (List.mem_append_left _ (List.mem_append_left _ (List.mem_append_right _ (List.mem_append_right _ (List.mem_append_right _ (List.mem_append_right _ (List.mem_append_left _ (h)))))))))))))))
theorem in_wsL_law0_r6 : ∀ w ∈ wsL_law0_r6, w ∈ wsL_law := fun w h => List.mem_append_left _ (List.mem_append_left _ (List.mem_append_left _ (List.mem_append_left _ (List.mem_append_left _ (List.mem_append_left _ (List.mem_append_left _ (List.mem_append_left _ (List.mem_append_left _ (List.mem_append_left _ (List.mem_append_right _ (List.mem_append_right _ (List.mem_append_right _ (List.mem_append_right _ (List.mem_append_right _ (List.mem_append_left _ (h))))))))))))))))
theorem in_wsL_law0_r7 : ∀ w ∈ wsL_law0_r7, w ∈ wsL_law := fun w h => List.mem_append_left _ (List.mem_append_left _ (List.mem_append_left _ (List.mem_append_left _ (List.mem_append_left _ (List.mem_append_left _ (List.mem_append_left _ (List.mem_append_left _ (List.mem_append_left _ (List.mem_append_left _ (List.mem_append_right _ (List.mem_append_right _ (List.mem_append_right _ (List.mem_append_right _ (List.mem_append_right _ (List.mem_append_right _ (List.mem_append_left _ (h)))))))))))))))))
theorem in_wsL_law0_r8 : ∀ w ∈ wsL_law0_r8, w ∈ wsL_law := fun w h => List.mem_append_left _ (List.mem_append_left _ (List.mem_append_left _ (List.mem_append_left _ (List.mem_append_left _ (List.mem_append_left _ (List.mem_append_left _ (List.mem_append_left _ (List.mem_append_left _ (List.mem_append_left _ (List.mem_append_right _ (List.mem_append_right _ (List.mem_append_right _ (List.mem_append_right _ (List.mem_append_right _ (List.mem_append_right _ (List.mem_append_right _ (List.mem_append_left _ (h))))))))))))))))))
theorem in_wsL_law0_r9 : ∀ w ∈ wsL_law0_r9, w ∈ wsL_law := fun w h => List.mem_append_left _ (List.mem_append_left _ (List.mem_append_left _ (List.mem_append_left _ (List.mem_append_left _ (List.mem_append_left _ (List.mem_append_left _ (List.mem_append_left _ (List.mem_append_left _ (List.mem_append_left _ (List.mem_append_right _ (List.mem_append_right _ (List.mem_append_right _ (List.mem_append_right _ (List.mem_append_right _ (List.mem_append_right _ (List.mem_append_right _ (List.mem_append_right _ (List.mem_append_left _ (h)))))))))))))))))))
theorem in_wsL_law0_r10 : ∀ w ∈ wsL_law0_r10, w ∈ wsL_law := fun w h => List.mem_append_left _ (List.mem_append_left _ (List.mem_append_left _ (List.mem_append_left _ (List.mem_append_left _ (List.mem_append_left _ (List.mem_append_left _ (List.mem_append_left _ (List.mem_append_left _ (List.mem_append_left _ (List.mem_append_right _ (List.mem_append_right _ (List.mem_append_right _ (List.mem_append_right _ (List.mem_append_right _ (List.mem_append_right _ (List.mem_append_right _ (List.mem_append_right _ (List.mem_append_right _ (List.mem_append_left _ (h))))))))))))))))))))
theorem in_wsL_law0_r11 : ∀ w ∈ wsL_law0_r11, w ∈ wsL_law := fun w h => List.mem_append_left _ (List.mem_append_left _ (List.mem_append_left _ (List.mem_append_left _ (List.mem_append_left _ (List.mem_append_left _ (List.mem_append_left _ (List.mem_append_left _ (List.mem_append_left _ (List.mem_append_left _ (List.mem_append_right _ (List.mem_append_right _ (List.mem_append_right _ (List.mem_append_right _ (List.mem_append_right _ (List.mem_append_right _ (List.mem_append_right _ (List.mem_append_right _ (List.mem_append_right _ (List.mem_append_right _ (List.mem_append_left _ (h)))))))))))))))))))))
theorem in_wsL_law0_r12 : ∀ w ∈ wsL_law0_r12, w ∈ wsL_law := fun w h => List.mem_append_left _ (List.mem_append_left _ (List.mem_append_left _ (List.mem_append_left _ (List.mem_append_left _ (List.mem_append_left _ (List.mem_append_left _ (List.mem_append_left _ (List.mem_append_left _ (List.mem_append_left _ (List.mem_append_right _ (List.mem_append_right _ (List.mem_append_right _ (List.mem_append_right _ (List.mem_append_right _ (List.mem_append_right _ (List.mem_append_right _ (List.mem_append_right _ (List.mem_append_right _ (List.mem_append_right _ (List.mem_append_right _ (List.mem_append_left _ (h))))))))))))))))))))))
theorem in_wsL_law0_r13 : ∀ w ∈ wsL_law0_r13, w ∈ wsL_law := fun w h => List.mem_append_left _ (List.mem_append_left _ (List.mem_append_left _ (List.mem_append_left _ (List.mem_append_left _ (List.mem_append_left _ (List.mem_append_left _ (List.mem_append_left _ (List.mem_append_left _ (List.mem_append_left _ (List.mem_append_right _ (List.mem_append_right _ (List.mem_append_right _ (List.mem_append_right _ (List.mem_append_right _ (List.mem_append_right _ (List.mem_append_right _ (List.mem_append_right _ (List.mem_append_right _ (List.mem_append_right _ (List.mem_append_right _ (List.mem_append_right _ (List.mem_append_left _ (h)))))))))))))))))))))))
theorem in_wsL_law0_r14 : ∀ w ∈ wsL_law0_r14, w ∈ wsL_law := fun w h => List.mem_append_left _ (List.mem_append_left _ (List.mem_append_left _ (List.mem_append_left _ (List.mem_append_left _ (List.mem_append_left _ (List.mem_append_left _ (List.mem_append_left _ (List.mem_append_left _ (List.mem_append_left _ (List.mem_append_right _ (List.mem_append_right _ (List.mem_append_right _ (List.mem_append_right _ (List.mem_append_right _ (List.mem_append_right _ (List.mem_append_right _ (List.mem_append_right _ (List.mem_append_right _ (List.mem_append_right _ (List.mem_append_right _ (List.mem_append_right _ (List.mem_append_right _ (List.mem_append_left _ (h))))))))))))))))))))))))
theorem in_wsL_law0_r15 : ∀ w ∈ wsL_law0_r15, w ∈ wsL_law := fun w h => List.mem_append_left _ (List.mem_append_left _ (List.mem_append_left _ (List.mem_append_left _ (List.mem_append_left _ (List.mem_append_left _ (List.mem_append_left _ (List.mem_append_left _ (List.mem_append_left _ (List.mem_append_left _ (List.mem_append_right _ (List.mem_append_right _ (List.mem_append_right _ (List.mem_append_right _ (List.mem_append_right _ (List.mem_append_right _ (List.mem_append_right _ (List.mem_append_right _ (List.mem_append_right _ (List.mem_append_right _ (List.mem_append_right _ (List.mem_append_right _ (List.mem_append_right _ (List.mem_append_right _ (List.mem_append_left _ (h)))))))))))))))))))))))))
theorem in_wsL_law0_r16 : ∀ w ∈ wsL_law0_r16, w ∈ wsL_law := fun w h => List.mem_append_left _ (List.mem_append_left _ (List.mem_append_left _ (List.mem_append_left _ (List.mem_append_left _ (List.mem_append_left _ (List.mem_append_left _ (List.mem_append_left _ (List.mem_append_left _ (List.mem_append_left _ (List.mem_append_right _ (List.mem_append_right _ (List.mem_append_right _ (List.mem_append_right _ (List.mem_append_right _ (List.mem_append_right _ (List.mem_append_right _ (List.mem_append_right _ (List.mem_append_right _ (List.mem_append_right _ (List.mem_append_right _ (List.mem_append_right _ (List.mem_append_right _ (List.mem_append_right _ (List.mem_append_right _ (List.mem_append_left _ (h))))))))))))))))))))))))))
theorem in_wsL_law0_r17 : ∀ w ∈ wsL_law0_r17, w ∈ wsL_law := fun w h => List.mem_append_left _ (List.mem_append_left _ (List.mem_append_left _ (List.mem_append_left _ (List.mem_append_left _ (List.mem_append_left _ (List.mem_append_left _ (List.mem_append_left _ (List.mem_append_left _ (List.mem_append_left _ (List.mem_append_right _ (List.mem_append_right _ (List.mem_append_right _ (List.mem_append_right _ (List.mem_append_right _ (List.mem_append_right _ (List.mem_append_right _ (List.mem_append_right _ (List.mem_append_right _ (List.mem_append_right _ (List.mem_append_right _ (List.mem_append_right _ (List.mem_append_right _ (List.mem_append_right _ (List.mem_append_right _ (List.mem_append_right _ (List.mem_append_left _ (h)))))))))))))))))))))))))))
theorem in_wsL_law0_r18 : ∀ w ∈ wsL_law0_r18, w ∈ wsL_law := fun w h => List.mem_append_left _ (List.mem_append_left _ (List.mem_append_left _ (List.mem_append_left _ (List.mem_append_left _ (List.mem_append_left _ (List.mem_append_left _ (List.mem_append_left _ (List.mem_append_left _ (List.mem_append_left _ (List.mem_append_right _ (List.mem_append_right _ (List.mem_append_right _ (List.mem_append_right _ (List.mem_append_right _ (List.mem_append_right _ (List.mem_append_right _ (List.mem_append_right _ (List.mem_append_right _ (List.mem_append_right _ (List.mem_append_right _ (List.mem_append_right _ (List.mem_append_right _ (List.mem_append_right _ (List.mem_append_right _ (List.mem_append_right _ (List.mem_append_right _ (List.mem_append_left _ (h))))))))))))))))))))))))))))
theorem in_wsL_law0_r19 : ∀ w ∈ wsL_law0_r19, w ∈ wsL_law := fun w h => List.mem_append_left _ (List.mem_append_left _ (List.mem_append_left _ (List.mem_append_left _ (List.mem_append_left _ (List.mem_append_left _ (List.mem_append_left _ (List.mem_append_left _ (List.mem_append_left _ (List.mem_append_left _ (List.mem_append_right _ (List.mem_append_right _ (List.mem_append_right _ (List.mem_append_right _ (List.mem_append_right _ (List.mem_append_right _ (List.mem_append_right _ (List.mem_append_right _ (List.mem_append_right _ (List.mem_append_right _ (List.mem_append_right _ (List.mem_append_right _ (List.mem_append_right _ (List.mem_append_right _ (List.mem_append_right _ (List.mem_append_right _ (List.mem_append_right _ (List.mem_append_right _ (List.mem_append_left _ (h)))))))))))))))))))))))))))))
theorem in_wsL_law0_r20 : ∀ w ∈ wsL_law0_r20, w ∈ wsL_law := fun w h => List.mem_append_left _ (List.mem_append_left _ (List.mem_append_left _ (List.mem_append_left _ (List.mem_append_left _ (List.mem_append_left _ (List.mem_append_left _ (List.mem_append_left _ (List.mem_append_left _ (List.mem_append_left _ (List.mem_append_right _ (List.mem_append_right _ (List.mem_append_right _ (List.mem_append_right _ (List.mem_append_right _ (List.mem_append_right _ (List.mem_append_right _ (List.mem_append_right _ (List.mem_append_right _ (List.mem_append_right _ (List.mem_append_right _ (List.mem_append_right _ (List.mem_append_right _ (List.mem_append_right _ (List.mem_append_right _ (List.mem_append_right _ (List.mem_append_right _ (List.mem_append_right _ (List.mem_append_right _ (List.mem_append_left _ (h))))))))))))))))))))))))))))))
theorem in_wsL_law0_r21 : ∀ w ∈ wsL_law0_r21, w ∈ wsL_law := fun w h => List.mem_append_left _ (List.mem_append_left _ (List.mem_append_left _ (List.mem_append_left _ (List.mem_append_left _ (List.mem_append_left _ (List.mem_append_left _ (List.mem_append_left _ (List.mem_append_left _ (List.mem_append_left _ (List.mem_append_right _ (List.mem_append_right _ (List.mem_append_right _ (List.mem_append_right _ (List.mem_append_right _ (List.mem_append_right _ (List.mem_append_right _ (List.mem_append_right _ (List.mem_append_right _ (List.mem_append_right _ (List.mem_append_right _ (List.mem_append_right _ (List.mem_append_right _ (List.mem_append_right _ (List.mem_append_right _ (List.mem_append_right _ (List.mem_append_right _ (List.mem_append_right _ (List.mem_append_right _ (List.mem_append_right _ (List.mem_append_left _ (h)))))))))))))))))))))))))))))))
theorem in_wsL_law0_r22 : ∀ w ∈ wsL_law0_r22, w ∈ wsL_law := fun w h => List.mem_append_left _ (List.mem_append_left _ (List.mem_append_left _ (List.mem_append_left _ (List.mem_append_left _ (List.mem_append_left _ (List.mem_append_left _ (List.mem_append_left _ (List.mem_append_left _ (List.mem_append_left _ (List.mem_append_right _ (List.mem_append_right _ (List.mem_append_right _ (List.mem_append_right _ (List.mem_append_right _ (List.mem_append_right _ (List.mem_append_right _ (List.mem_append_right _ (List.mem_append_right _ (List.mem_append_right _ (List.mem_append_right _ (List.mem_append_right _ (List.mem_append_right _ (List.mem_append_right _ (List.mem_append_right _ (List.mem_append_right _ (List.mem_append_right _ (List.mem_append_right _ (List.mem_append_right _ (List.mem_append_right _ (List.mem_append_right _ (List.mem_append_left _ (h))))))))))))))))))))))))))))))))
theorem in_wsL_law0_r23 : ∀ w ∈ wsL_law0_r23, w ∈ wsL_law := fun w h => List.mem_append_left _ (List.mem_append_left _ (List.mem_append_left _ (List.mem_append_left _ (List.mem_append_left _ (List.mem_append_left _ (List.mem_append_left _ (List.mem_append_left _ (List.mem_append_left _ (List.mem_append_left _ (List.mem_append_right _ (List.mem_append_right _ (List.mem_append_right _ (List.mem_append_right _ (List.mem_append_right _ (List.mem_append_right _ (List.mem_append_right _ (List.mem_append_right _ (List.mem_append_right _ (List.mem_append_right _ (List.mem_append_right _ (List.mem_append_right _ (List.mem_append_right _ (List.mem_append_right _ (List.mem_append_right _ (List.mem_append_right _ (List.mem_append_right _ (List.mem_append_right _ (List.mem_append_right _ (List.mem_append_right _ (List.mem_append_right _ (List.mem_append_right _ (List.mem_append_left _ (h)))))))))))))))))))))))))))))))))
theorem in_wsL_law0_r24 : ∀ w ∈ wsL_law0_r24, w ∈ wsL_law := fun w h => List.mem_append_left _ (List.mem_append_left _ (List.mem_append_left _ (List.mem_append_left _ (List.mem_append_left _ (List.mem_append_left _ (List.mem_append_left _ (List.mem_append_left _ (List.mem_append_left _ (List.mem_append_left _ (List.mem_append_right _ (List.mem_append_right _ (List.mem_append_right _ (List.mem_append_right _ (List.mem_append_right _ (List.mem_append_right _ (List.mem_append_right _ (List.mem_append_right _ (List.mem_append_right _ (List.mem_append_right _ (List.mem_append_right _ (List.mem_append_right _ (List.mem_append_right _ (List.mem_append_right _ (List.mem_append_right _ (List.mem_append_right _ (List.mem_append_right _ (List.mem_append_right _ (List.mem_append_right _ (List.mem_append_right _ (List.mem_append_right _ (List.mem_append_right _ (List.mem_append_right _ (List.mem_append_left _ (h))))))))))))))))))))))))))))))))))
theorem in_wsL_law0_r25 : ∀ w ∈ wsL_law0_r25, w ∈ wsL_law := fun w h => List.mem_append_left _ (List.mem_append_left _ (List.mem_append_left _ (List.mem_append_left _ (List.mem_append_left _ (List.mem_append_left _ (List.mem_append_left _ (List.mem_append_left _ (List.mem_append_left _ (List.mem_append_left _ (List.mem_append_right _ (List.mem_append_right _ (List.mem_append_right _ (List.mem_append_right _ (List.mem_append_right _ (List.mem_append_right _ (List.mem_append_right _ (List.mem_append_right _ (List.mem_append_right _ (List.mem_append_right _ (List.mem_append_right _ (List.mem_append_right _ (List.mem_append_right _ (List.mem_append_right _ (List.mem_append_right _ (List.mem_append_right _ (List.mem_append_right _ (List.mem_append_right _ (List.mem_append_right _ (List.mem_append_right _ (List.mem_append_right _ (List.mem_append_right _ (List.mem_append_right _ (List.mem_append_right _ (List.mem_append_left _ (h)))))))))))))))))))))))))))))))))))
theorem in_wsL_law0_r26 : ∀ w ∈ wsL_law0_r26, w ∈ wsL_law := fun w h => List.mem_append_left _ (List.mem_append_left _ (List.mem_append_left _ (List.mem_append_left _ (List.mem_append_left _ (List.mem_append_left _ (List.mem_append_left _ (List.mem_append_left _ (List.mem_append_left _ (List.mem_append_left _ (List.mem_append_right _ (List.mem_append_right _ (List.mem_append_right _ (List.mem_append_right _ (List.mem_append_right _ (List.mem_append_right _ (List.mem_append_right _ (List.mem_append_right _ (List.mem_append_right _ (List.mem_append_right _ (List.mem_append_right _ (List.mem_append_right _ (List.mem_append_right _ (List.mem_append_right _ (List.mem_append_right _ (List.mem_append_right _ (List.mem_append_right _ (List.mem_append_right _ (List.mem_append_right _ (List.mem_append_right _ (List.mem_append_right _ (List.mem_append_right _ (List.mem_append_right _ (List.mem_append_right _ (List.mem_append_right _ (List.mem_append_left _ (h))))))))))))))))))))))))))))))))))))
theorem in_wsL_law0_r27 : ∀ w ∈ wsL_law0_r27, w ∈ wsL_law := fun w h => List.mem_append_left _ (List.mem_append_left _ (List.mem_append_left _ (List.mem_append_left _ (List.mem_append_left _ (List.mem_append_left _ (List.mem_append_left _ (List.mem_append_left _ (List.mem_append_left _ (List.mem_append_left _ (List.mem_append_right _ (List.mem_append_right _ (List.mem_append_right _ (List.mem_append_right _ (List.mem_append_right _ (List.mem_append_right _ (List.mem_append_right _ (List.mem_append_right _ (List.mem_append_right _ (List.mem_append_right _ (List.mem_append_right _ (List.mem_append_right _ (List.mem_append_right _ (List.mem_append_right _ (List.mem_append_right _ (List.mem_append_right _ (List.mem_append_right _ (List.mem_append_right _ (List.mem_append_right _ (List.mem_append_right _ (List.mem_append_right _ (List.mem_append_right _ (List.mem_append_right _ (List.mem_append_right _ (List.mem_append_right _ (List.mem_append_right _ (List.mem_append_left _ (h)))))))))))))))))))))))))))))))))))))
theorem in_wsL_law0_r28 : ∀ w ∈ wsL_law0_r28, w ∈ wsL_law := fun w h => List.mem_append_left _ (List.mem_append_left _ (List.mem_append_left _ (List.mem_append_left _ (List.mem_append_left _ (List.mem_append_left _ (List.mem_append_left _ (List.mem_append_left _ (List.mem_append_left _ (List.mem_append_left _ (List.mem_append_right _ (List.mem_append_right _ (List.mem_append_right _ (List.mem_append_right _ (List.mem_append_right _ (List.mem_append_right _ (List.mem_append_right _ (List.mem_append_right _ (List.mem_append_right _ (List.mem_append_right _ (List.mem_append_right _ (List.mem_append_right _ (List.mem_append_right _ (List.mem_append_right _ (List.mem_append_right _ (List.mem_append_right _ (List.mem_append_right _ (List.mem_append_right _ (List.mem_append_right _ (List.mem_append_right _ (List.mem_append_right _ (List.mem_append_right _ (List.mem_append_right _ (List.mem_append_right _ (List.mem_append_right _ (List.mem_append_right _ (List.mem_append_right _ (List.mem_append_left _ (h))))))))))))))))))))))))))))))))))))))
theorem in_wsL_law0_r29 : ∀ w ∈ wsL_law0_r29, w ∈ wsL_law := fun w h => List.mem_append_left _ (List.mem_append_left _ (List.mem_append_left _ (List.mem_append_left _ (List.mem_append_left _ (List.mem_append_left _ (List.mem_append_left _ (List.mem_append_left _ (List.mem_append_left _ (List.mem_append_left _ (List.mem_append_right _ (List.mem_append_right _ (List.mem_append_right _ (List.mem_append_right _ (List.mem_append_right _ (List.mem_append_right _ (List.mem_append_right _ (List.mem_append_right _ (List.mem_append_right _ (List.mem_append_right _ (List.mem_append_right _ (List.mem_append_right _ (List.mem_append_right _ (List.mem_append_right _ (List.mem_append_right _ (List.mem_append_right _ (List.mem_append_right _ (List.mem_append_right _ (List.mem_append_right _ (List.mem_append_right _ (List.mem_append_right _ (List.mem_append_right _ (List.mem_append_right _ (List.mem_append_right _ (List.mem_append_right _ (List.mem_append_right _ (List.mem_append_right _ (List.mem_append_right _ (List.mem_append_left _ (h)))))))))))))))))))))))))))))))))))))))
theorem in_wsL_law0_r30 : ∀ w ∈ wsL_law0_r30, w ∈ wsL_law := fun w h => List.mem_append_left _ (List.mem_append_left _ (List.mem_append_left _ (List.mem_append_left _ (List.mem_append_left _ (List.mem_append_left _ (List.mem_append_left _ (List.mem_append_left _ (List.mem_append_left _ (List.mem_append_left _ (List.mem_append_right _ (List.mem_append_right _ (List.mem_append_right _ (List.mem_append_right _ (List.mem_append_right _ (List.mem_append_right _ (List.mem_append_right _ (List.mem_append_right _ (List.mem_append_right _ (List.mem_append_right _ (List.mem_append_right _ (List.mem_append_right _ (List.mem_append_right _ (List.mem_append_right _ (List.mem_append_right _ (List.mem_append_right _ (List.mem_append_right _ (List.mem_append_right _ (List.mem_append_right _ (List.mem_append_right _ (List.mem_append_right _ (List.mem_append_right _ (List.mem_append_right _ (List.mem_append_right _ (List.mem_append_right _ (List.mem_append_right _ (List.mem_append_right _ (List.mem_append_right _ (List.mem_append_right _ (h)))))))))))))))))))))))))))))))))))))))
theorem in_wsX40 : ∀ w ∈ wsX40, w ∈ wsL_law := fun w h => List.mem_append_left _ (List.mem_append_left _ (List.mem_append_left _ (List.mem_append_left _ (List.mem_append_left _ (List.mem_append_left _ (List.mem_append_left _ (List.mem_append_left _ (List.mem_append_left _ (List.mem_append_right _ (h))))))))))
theorem in_wsX50 : ∀ w ∈ wsX50, w ∈ wsL_law := fun w h => List.mem_append_left _ (List.mem_append_left _ (List.mem_append_left _ (List.mem_append_left _ (List.mem_append_left _ (List.mem_append_left _ (List.mem_append_left _ (List.mem_append_left _ (List.mem_append_right _ (h)))))))))
theorem in_wsX10 : ∀ w ∈ wsX10, w ∈ wsL_law := fun w h => List.mem_append_left _ (List.mem_append_left _ (List.mem_append_left _ (List.mem_append_left _ (List.mem_append_left _ (List.mem_append_left _ (List.mem_append_left _ (List.mem_append_right _ (h))))))))
theorem in_wsX20 : ∀ w ∈ wsX20, w ∈ wsL_law := fun w h => List.mem_append_left _ (List.mem_append_left _ (List.mem_append_left _ (List.mem_append_left _ (List.mem_append_left _ (List.mem_append_left _ (List.mem_append_right _ (h)))))))
theorem in_wsX30 : ∀ w ∈ wsX30, w ∈ wsL_law := fun w h => List.mem_append_left _ (List.mem_append_left _ (List.mem_append_left _ (List.mem_append_left _ (List.mem_append_left _ (List.mem_append_right _ (h))))))
theorem in_wsX00 : ∀ w ∈ wsX00, w ∈ wsL_law := fun w h => List.mem_append_left _ (List.mem_append_left _ (List.mem_append_left _ (List.mem_append_left _ (List.mem_append_right _ (h)))))
