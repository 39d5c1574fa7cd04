/-! THE WORLD OF THIS CLAIM. M k i: the i-th number of the k-th cell. Cells 0..48 are those of the class's object, of the model and the law's 'out'; from 49 on lie the kept drawings, five cells each. -/
abbrev Mem : Type := Nat → Nat → Int32
def wrR (M : Mem) (k : Nat) (f : Nat → Int32) : Mem := fun a => if a = k then f else M a
def wr (M : Mem) (k i : Nat) (v : Int32) : Mem := wrR M k (upd (M k) i v)
theorem wr_at (M : Mem) (k i : Nat) (v : Int32) (a b : Nat) : wr M k i v a b = if a = k ∧ b = i then v else M a b := by
  unfold wr wrR upd
  by_cases h : a = k
  · subst h
    by_cases h2 : b = i
    · simp [h2]
    · simp [h2]
  · simp [h]
/-- a cell's shape: an array (0 int, 1 boolean, 2 long, 3 of drawings) with its length, or an object: its class, its fields (none: a number; some j: the cell j) -/
abbrev Shp : Type := (Nat × Nat) ⊕ (Nat × List (Option Nat))
def drS (o : Nat) : Nat → Shp
  | 0 => .inr (1, [some (o + 1), some (o + 2), some (o + 3), some (o + 4)])
  | 1 => .inl (0, 192)
  | 2 => .inl (0, 192)
  | _ => .inl (0, 24)
def shL : List Shp := [.inr (4, [some 1, some 6, some 10, some 17]), .inr (1, [some 2, some 3, some 4, some 5]), .inl (0, 192), .inl (0, 192), .inl (0, 24), .inl (0, 24),
  .inr (2, [some 7, some 8, some 9, none]), .inl (0, 24), .inl (0, 92), .inl (0, 92),
  .inr (3, [some 11, none, some 12, some 13, some 14, some 15, some 16]), .inl (3, 10), .inl (0, 36), .inl (0, 36), .inl (0, 2), .inl (0, 2), .inl (0, 97),
  .inr (0, [none, none, some 18, some 19, some 20, some 21, some 22, some 23, some 24, some 25, some 26, none, none]), .inl (0, 903), .inl (0, 903), .inl (0, 903), .inl (0, 97), .inl (0, 903), .inl (0, 903), .inl (0, 903), .inl (0, 903), .inl (0, 903),
  .inr (5, [none, none, some 28, some 29, some 30, some 31, some 32, some 33, none, some 34, some 35, some 36, some 37, some 38, none, some 39, some 40, some 41, some 42, some 43, some 44, some 45, some 46, none, none, some 47]),
  .inl (0, 264), .inl (0, 264), .inl (0, 2112), .inl (0, 2112), .inl (0, 32), .inl (0, 96), .inl (0, 96), .inl (0, 36), .inl (0, 36), .inl (0, 2), .inl (0, 2), .inl (0, 1000), .inl (0, 1000), .inl (0, 1000), .inl (1, 1000), .inl (1, 97), .inl (0, 1000), .inl (0, 1000), .inl (0, 1000), .inl (0, 1000), .inl (2, 1)]
def sh0 (k : Nat) : Shp := if k < 49 then shL.getD k (.inl (0, 0)) else drS (49 + 5 * ((k - 49) / 5)) ((k - 49) % 5)
def fl (ad : Nat → Nat) (f : Nat → Int32) : Nat → List (Option Nat) → List Value
  | _, [] => []
  | i, none :: t => .int (f i) :: fl ad f (i + 1) t
  | i, some j :: t => .ref (ad j) :: fl ad f (i + 1) t
/-- what stands in an array of drawings: 0 is null, any other number the cell of that number -/
def dec (ad : Nat → Nat) (v : Int32) : Option Nat := if v = 0 then none else some (ad v.toNatClampNeg)
def en (cA : Nat → ClassId) (ad : Nat → Nat) (f : Nat → Int32) : Shp → va_E
  | .inl (0, n) => .inl (cA 0, n, .inl f)
  | .inl (1, n) => .inl (cA 1, n, .inl f)
  | .inl (2, n) => .inl (cA 2, n, .inr (.inl (fun i => (f i).toInt64)))
  | .inl (_, n) => .inl (cA 3, n, .inr (.inr (.inr (.inr (fun i => dec ad (f i))))))
  | .inr (ci, fs) => .inr (ci, fl ad f 0 fs)
def Wd (cA : Nat → ClassId) (ad : Nat → Nat) (n : Nat) (M : Mem) : va_W := (List.range n).map (fun k => (ad k, en cA ad (M k) (sh0 k)))
theorem Wd_at {cA : Nat → ClassId} {ad : Nat → Nat} {n : Nat} {M : Mem} {k : Nat} (h : k < n) : (Wd cA ad n M)[k]? = some (ad k, en cA ad (M k) (sh0 k)) := by
  unfold Wd
  rw [List.getElem?_map, List.getElem?_range h]
  rfl
theorem map_range_set {α : Type} (g : Nat → α) (n k : Nat) (v : α) : ((List.range n).map g).set k v = (List.range n).map (fun j => if j = k then v else g j) := by
  apply List.ext_getElem?
  intro j
  by_cases hj : j = k
  · subst hj
    by_cases h : j < n
    · rw [List.getElem?_set_self (by simpa using h), List.getElem?_map, List.getElem?_range h]
      simp
    · rw [List.getElem?_eq_none (by simpa using h), List.getElem?_eq_none (by simpa using h)]
  · rw [List.getElem?_set_ne (Ne.symm hj), List.getElem?_map, List.getElem?_map]
    by_cases h : j < n
    · rw [List.getElem?_range h]
      simp [hj]
    · rw [List.getElem?_eq_none (by simpa using h)]
      rfl
theorem Wd_set {cA : Nat → ClassId} {ad : Nat → Nat} {n : Nat} {M : Mem} {k : Nat} {f : Nat → Int32} (h : k < n) : (Wd cA ad n M).set k (ad k, en cA ad f (sh0 k)) = Wd cA ad n (wrR M k f) := by
  unfold Wd
  rw [map_range_set]
  congr 1
  funext j
  unfold wrR
  by_cases hj : j = k
  · rw [if_pos hj, if_pos hj, hj]
  · rw [if_neg hj, if_neg hj]
theorem fl_int {ad : Nat → Nat} {f : Nat → Int32} : ∀ (fs : List (Option Nat)) (i k : Nat), fs[k]? = some none → (fl ad f i fs)[k]? = some (.int (f (i + k)))
  | [], _, k, h => by simp at h
  | none :: t, i, 0, _ => rfl
  | some j :: t, i, 0, h => by simp at h
  | none :: t, i, k + 1, h => by
    have := fl_int (ad := ad) (f := f) t (i + 1) k (by simpa using h)
    rw [show i + (k + 1) = i + 1 + k by omega]
    simpa [fl] using this
  | some j :: t, i, k + 1, h => by
    have := fl_int (ad := ad) (f := f) t (i + 1) k (by simpa using h)
    rw [show i + (k + 1) = i + 1 + k by omega]
    simpa [fl] using this
theorem fl_ref {ad : Nat → Nat} {f : Nat → Int32} {j : Nat} : ∀ (fs : List (Option Nat)) (i k : Nat), fs[k]? = some (some j) → (fl ad f i fs)[k]? = some (.ref (ad j))
  | [], _, k, h => by simp at h
  | none :: t, i, 0, h => by simp at h
  | some j' :: t, i, 0, h => by
    have e : some j' = some j := by simpa using h
    cases e
    rfl
  | none :: t, i, k + 1, h => by
    have := fl_ref (ad := ad) (f := f) t (i + 1) k (by simpa using h)
    simpa [fl] using this
  | some j :: t, i, k + 1, h => by
    have := fl_ref (ad := ad) (f := f) t (i + 1) k (by simpa using h)
    simpa [fl] using this
theorem fl_len {ad : Nat → Nat} {f : Nat → Int32} : ∀ (fs : List (Option Nat)) (i : Nat), (fl ad f i fs).length = fs.length
  | [], _ => rfl
  | none :: t, i => by simp [fl, fl_len t]
  | some j :: t, i => by simp [fl, fl_len t]
theorem fl_same {ad : Nat → Nat} {f g : Nat → Int32} : ∀ (fs : List (Option Nat)) (i : Nat), (∀ j, i ≤ j → f j = g j) → fl ad f i fs = fl ad g i fs
  | [], _, _ => rfl
  | none :: t, i, h => by simp only [fl]; rw [h i (Nat.le_refl _), fl_same t (i + 1) (fun j hj => h j (by omega))]
  | some j :: t, i, h => by simp only [fl]; rw [fl_same t (i + 1) (fun j hj => h j (by omega))]
theorem fl_set {ad : Nat → Nat} {f : Nat → Int32} {v : Int32} : ∀ (fs : List (Option Nat)) (i k : Nat), fs[k]? = some none → (fl ad f i fs).set k (.int v) = fl ad (upd f (i + k) v) i fs
  | [], _, k, h => by simp at h
  | none :: t, i, 0, _ => by
    simp only [fl, List.set_cons_zero, Nat.add_zero]
    rw [fl_same (g := upd f i v) t (i + 1) (fun j hj => by unfold upd; rw [if_neg (by omega)])]
    simp [upd]
  | some j :: t, i, 0, h => by simp at h
  | none :: t, i, k + 1, h => by
    have := fl_set (ad := ad) (f := f) (v := v) t (i + 1) k (by simpa using h)
    simp only [fl, List.set_cons_succ]
    rw [this, show i + 1 + k = i + (k + 1) by omega]
    simp [upd, show ¬ i = i + (k + 1) by omega]
  | some j :: t, i, k + 1, h => by
    have := fl_set (ad := ad) (f := f) (v := v) t (i + 1) k (by simpa using h)
    simp only [fl, List.set_cons_succ]
    rw [this, show i + 1 + k = i + (k + 1) by omega]
/-- the addresses: apart, and of the kind A -/
def Dd (A : Nat → Prop) (ad : Nat → Nat) (n : Nat) : Prop := (∀ i j, i < n → j < n → ad i = ad j → i = j) ∧ ∀ i, i < n → A (ad i)
theorem Dd.D {A : Nat → Prop} {ad : Nat → Nat} {n : Nat} (h : Dd A ad n) (cA : Nat → ClassId) (M : Mem) : va_D A (Wd cA ad n M) := by
  have key : ∀ (k : Nat) (q : Nat × va_E), (Wd cA ad n M)[k]? = some q → k < n ∧ q.1 = ad k := by
    intro k q hk
    have hl : k < n := by
      have := (List.getElem?_eq_some_iff.mp hk).1
      simpa [Wd] using this
    rw [Wd_at hl] at hk
    cases hk
    exact ⟨hl, rfl⟩
  refine ⟨fun i j p q hi hj he => ?_, fun k q hk => ?_⟩
  · obtain ⟨h1, h2⟩ := key i p hi
    obtain ⟨h3, h4⟩ := key j q hj
    exact h.1 i j h1 h3 (by rw [← h2, ← h4]; exact he)
  · obtain ⟨h1, h2⟩ := key k q hk
    rw [h2]
    exact h.2 k h1
abbrev cls6 : List vw_C := [(RX0, TX0, 13), (RX1, TX1, 4), (RX2, TX2, 4), (RX3, TX3, 7), (RX4, TX4, 4), (RX5, TX5, 26)]
def ty4 (cA : Nat → ClassId) : List (ClassId × FieldType) := [(cA 0, .int), (cA 1, .boolean), (cA 2, .long), (cA 3, .object RX1)]
