/-! WHAT THE CUTS ARE: of a top T (blocks by place, the two widths, the two cloths), for a cloth c. -/
abbrev Tp : Type := (Nat → Option Vw) × Nat × Nat × Nat × Nat
def tp (M : Mem) : Tp := (fun i => if i < 36 then (if M 35 i = -1 then none else some (vm M (M 35 i).toNatClampNeg)) else none, (M 37 0).toNatClampNeg, (M 37 1).toNatClampNeg, (M 38 0).toNatClampNeg, (M 38 1).toNatClampNeg)
def loN (f : Nat → Int32) (b : Nat) : Nat → Int32
  | 0 => 96
  | c + 1 => if f (b + c) < loN f b c then f (b + c) else loN f b c
def hiN (f : Nat → Int32) (b : Nat) : Nat → Int32
  | 0 => 0
  | c + 1 => if hiN f b c < f (b + c) then f (b + c) else hiN f b c
def gp (a b : Int32) : Int32 := if b < a then a - b else b - a
def lvN (V : Vw) (p : Nat) : Nat → Int32
  | 0 => 0
  | k + 1 => if V.Y (8 * p + k) = V.Y (8 * p + nx V p k) then gp (V.X (8 * p + k)) (V.X (8 * p + nx V p k)) else lvN V p k
def upN (V : Vw) (p : Nat) : Nat → Int32
  | 0 => 0
  | k + 1 => if V.X (8 * p + k) = V.X (8 * p + nx V p k) then gp (V.Y (8 * p + k)) (V.Y (8 * p + nx V p k)) else upN V p k
def hs (V : Vw) (p : Nat) : Int32 := if V.C p = 3 then (if lvN V p 3 = upN V p 3 then lvN V p 3 else 0) else 0
abbrev Ct : Type := Int32 × Int32 × Int32
abbrev Gs : Type := List Ct × (Nat → Bool)
def mkC (a b k : Int32) : Ct := (if b < a then a else b, if b < a then b else a, k)
def exW (V : Vw) (p : Nat) : Int32 := hiN V.X (8 * p) (V.C p) - loN V.X (8 * p) (V.C p)
def exH (V : Vw) (p : Nat) : Int32 := hiN V.Y (8 * p) (V.C p) - loN V.Y (8 * p) (V.C p)
/-- the cut of one patch -/
def addP (V : Vw) (c p : Nat) (G : Gs) : Gs :=
  if 0 < V.C p ∧ V.L p = nI c then
    (if hs V p = 0 then (G.1 ++ [mkC (exW V p + 12) (exH V p + 12) 0], G.2)
     else (if G.2 (hs V p).toNatClampNeg = true then G.1 else G.1 ++ [(hs V p + 21, hs V p + 21, 1)], fun e => if e = (hs V p).toNatClampNeg then !G.2 e else G.2 e))
  else G
def blkN (V : Vw) (c : Nat) (G : Gs) : Nat → Gs
  | 0 => G
  | p + 1 => addP V c p (blkN V c G p)
def plN (T : Tp) (c : Nat) : Nat → Gs
  | 0 => ([], fun _ => false)
  | i + 1 => match T.1 i with
    | none => plN T c i
    | some V => blkN V c (plN T c i) 24
def rwN (T : Tp) : Nat → Nat
  | 0 => 0
  | i + 1 => if (T.1 i).isSome = true then i / 6 + 1 else rwN T i
def clN (T : Tp) : Nat → Nat
  | 0 => 0
  | i + 1 => if (T.1 i).isSome = true ∧ clN T i < i % 6 + 1 then i % 6 + 1 else clN T i
def acN (T : Tp) (n : Nat) : Nat := if n = 0 then 0 else 96 * n + T.2.1 * (n - 1)
def sashL (T : Tp) (c : Nat) : List Ct := if 0 < T.2.1 ∧ T.2.2.2.1 = c then List.replicate (rwN T 36 * (clN T 36 - 1)) (108, nI (T.2.1 + 12), 2) ++ List.replicate (rwN T 36 - 1) (nI (acN T (clN T 36) + 12), nI (T.2.1 + 12), 2) else []
def bordL (T : Tp) (c : Nat) : List Ct := if 0 < T.2.2.1 ∧ T.2.2.2.2 = c ∧ 0 < rwN T 36 then List.replicate 2 (nI (acN T (clN T 36) + 12), nI (T.2.2.1 + 12), 3) ++ List.replicate 2 (nI (acN T (rwN T 36) + 2 * T.2.2.1 + 12), nI (T.2.2.1 + 12), 3) else []
def cuts (T : Tp) (c : Nat) : List Ct := (plN T c 36).1 ++ (sashL T c ++ bordL T c)
def cuL (cl : List Ct) (i : Nat) : Int32 := (cl.getD i (0, 0, 0)).1
def cuH (cl : List Ct) (i : Nat) : Int32 := (cl.getD i (0, 0, 0)).2.1
def cuK (cl : List Ct) (i : Nat) : Int32 := (cl.getD i (0, 0, 0)).2.2
/-- the cut a is laid ahead of the cut b -/
def bf (cl : List Ct) (a b : Nat) : Prop := cuH cl b < cuH cl a ∨ (cuH cl a = cuH cl b ∧ (cuL cl b < cuL cl a ∨ (cuL cl a = cuL cl b ∧ a < b)))
/-- f is the order in which they are laid -/
def SP (cl : List Ct) (f : Nat → Nat) : Prop := (∀ i, i < cl.length → f i < cl.length) ∧ (∀ x, x < cl.length → ∃ i, i < cl.length ∧ f i = x) ∧ ∀ i j, i < j → j < cl.length → bf cl (f i) (f j)
/-- the first strip from s on that a length fits, or the next one -/
def ff (u : Nat → Nat) (len : Nat) : Nat → Nat → Nat
  | 0, s => s
  | k + 1, s => if u s + len ≤ 1008 then s else ff u len k (s + 1)
/-- used lengths, strips, their heights, the strip and the place of each -/
abbrev Ls : Type := (Nat → Nat) × Nat × Nat × (Nat → Nat) × (Nat → Nat)
def ly1 (len hgt i : Nat) (q : Ls) : Ls :=
  let s := ff q.1 len q.2.1 0
  let u := fun t => if t = s ∧ s = q.2.1 then 0 else q.1 t
  (fun t => if t = s then u s + len else u t, if s = q.2.1 then q.2.1 + 1 else q.2.1, if s = q.2.1 then q.2.2.1 + hgt else q.2.2.1, fun t => if t = i then s else q.2.2.2.1 t, fun t => if t = i then u s else q.2.2.2.2 t)
def lyN (cl : List Ct) (f : Nat → Nat) : Nat → Ls
  | 0 => (fun _ => 0, 0, 0, fun _ => 0, fun _ => 0)
  | i + 1 => ly1 (cuL cl (f i)).toNatClampNeg (cuH cl (f i)).toNatClampNeg i (lyN cl f i)
/-- what the class holds of the cuts of c: its rows 17 (numbers), 18 lengths, 19 heights, 20 kinds, 22 order, 24 strips, 25 begins -/
def Laid (T : Tp) (c : Nat) (r17 r18 r19 r20 r22 r24 r25 : Nat → Int32) : Prop :=
  ∃ f : Nat → Nat, SP (cuts T c) f ∧ r17 1 = nI (cuts T c).length ∧ r17 11 = nI (lyN (cuts T c) f (cuts T c).length).2.1 ∧ r17 12 = nI (lyN (cuts T c) f (cuts T c).length).2.2.1 ∧
    ∀ i, i < (cuts T c).length → r18 i = cuL (cuts T c) i ∧ r19 i = cuH (cuts T c) i ∧ r20 i = cuK (cuts T c) i ∧ r22 i = nI (f i) ∧ r24 i = nI ((lyN (cuts T c) f (cuts T c).length).2.2.2.1 i) ∧ r25 i = nI ((lyN (cuts T c) f (cuts T c).length).2.2.2.2 i)
/-! THE INVARIANT, in parts; each part reads one region of the memory. -/
/-- regions: 1 the drawing, 2 the seams, 3 the kept blocks, 4 the top, 5 the cuts, 0 all else -/
def reg (k i : Nat) : Nat :=
  if k = 27 then (if i = 1 then 3 else if i = 8 then 2 else 0)
  else if k = 6 then (if i = 3 then 2 else 0)
  else if k = 10 then (if i = 1 then 3 else 0)
  else if 2 ≤ k ∧ k ≤ 5 then 1
  else if k = 28 ∨ k = 29 then (if i < 240 then 3 else 1)
  else if k = 30 ∨ k = 31 then (if i < 1920 then 3 else 1)
  else if k = 9 ∨ k = 34 then 2
  else if k = 11 ∨ 49 ≤ k then 3
  else if (12 ≤ k ∧ k ≤ 15) ∨ (35 ≤ k ∧ k ≤ 38) then 4
  else if k = 17 ∨ k = 18 ∨ k = 19 ∨ k = 20 ∨ k = 22 ∨ k = 24 ∨ k = 25 then 5
  else 0
/-- the memory has changed in the regions R alone -/
def Ch (R : Nat → Prop) (M N : Mem) : Prop := ∀ k i, ¬ R (reg k i) → N k i = M k i
theorem Ch.rfl' {R : Nat → Prop} {M : Mem} : Ch R M M := fun _ _ _ => rfl
theorem Ch.trans {R : Nat → Prop} {M N P : Mem} (h1 : Ch R M N) (h2 : Ch R N P) : Ch R M P := fun k i h => (h2 k i h).trans (h1 k i h)
theorem Ch.mono {R S : Nat → Prop} {M N : Mem} (h : Ch R M N) (hR : ∀ r, R r → S r) : Ch S M N := fun k i hs => h k i (fun hr => hs (hR _ hr))
theorem Ch.wr {R : Nat → Prop} {M N : Mem} {k i : Nat} {v : Int32} (h : Ch R M N) (hk : R (reg k i)) : Ch R M (wr N k i v) := by
  intro a b hab
  rw [wr_at, if_neg (fun e => hab (by rw [e.1, e.2]; exact hk))]
  exact h a b hab
def VOk (V : Vw) : Prop := (∀ p, p < 24 → V.C p = 0 ∨ (3 ≤ V.C p ∧ Cvx V p ∧ ∃ c, c < 12 ∧ V.L p = nI c)) ∧ ∀ i, i < 192 → (∃ x, x ≤ 96 ∧ V.X i = nI x) ∧ ∃ y, y ≤ 96 ∧ V.Y i = nI y
/-- the drawing at the cell o is the model's block j -/
def DrI (M : Mem) (o j : Nat) : Prop := vw M o = vm M j ∧ COk M o ∧ COkM M j ∧ VOk (vm M j)
def SeI (M : Mem) : Prop := ∃ S, S ≤ 23 ∧ M 6 3 = nI S ∧ M 27 8 = nI S ∧ ∀ i, i < 4 * S → M 9 i = M 34 i
def KeI (K : Nat) (M : Mem) : Prop := M 10 1 = nI K ∧ M 27 1 = nI K ∧ (∀ i, M 11 i = if i < K then nI (49 + 5 * i) else 0) ∧ ∀ j, j < K → DrI M (49 + 5 * j) j
def ToI (K : Nat) (M : Mem) : Prop := (∀ i, i < 36 → M 12 i = M 35 i ∧ (M 35 i = -1 ∨ ∃ j, j < K ∧ M 35 i = nI j) ∧ M 13 i = M 36 i ∧ ∃ t, t < 8 ∧ M 36 i = nI t) ∧ ∀ i, i < 2 → M 14 i = M 37 i ∧ (∃ w, w ≤ 60 ∧ M 37 i = nI w) ∧ M 15 i = M 38 i ∧ ∃ c, c < 12 ∧ M 38 i = nI c
def CuI (M : Mem) : Prop := M 17 0 = -1 ∨ ∃ c, c < 12 ∧ M 17 0 = nI c ∧ Laid (tp M) c (M 17) (M 18) (M 19) (M 20) (M 22) (M 24) (M 25)
def INV (n : Nat) (M : Mem) : Prop := ∃ K, K ≤ 10 ∧ n = 49 + 5 * K ∧ DrI M 1 10 ∧ SeI M ∧ KeI K M ∧ ToI K M ∧ CuI M
theorem vm_same {M N : Mem} {j : Nat} (h1 : ∀ i, i < 192 → N 30 (192 * j + i) = M 30 (192 * j + i) ∧ N 31 (192 * j + i) = M 31 (192 * j + i)) (h2 : ∀ p, p < 24 → N 28 (24 * j + p) = M 28 (24 * j + p) ∧ N 29 (24 * j + p) = M 29 (24 * j + p)) : vm N j = vm M j := by
  unfold vm
  refine Prod.ext ?_ (Prod.ext ?_ (Prod.ext ?_ ?_))
  · funext i
    by_cases h : i < 192
    · simp only [if_pos h, (h1 i h).1]
    · simp only [if_neg h]
  · funext i
    by_cases h : i < 192
    · simp only [if_pos h, (h1 i h).2]
    · simp only [if_neg h]
  · funext i
    by_cases h : i < 24
    · simp only [if_pos h, (h2 i h).1]
    · simp only [if_neg h]
  · funext i
    by_cases h : i < 24
    · simp only [(h2 i h).1, (h2 i h).2]
    · simp only [h, false_and, if_false]
theorem vw_same {M N : Mem} {o : Nat} (h1 : ∀ i, i < 192 → N (o + 1) i = M (o + 1) i ∧ N (o + 2) i = M (o + 2) i) (h2 : ∀ p, p < 24 → N (o + 3) p = M (o + 3) p ∧ N (o + 4) p = M (o + 4) p) : vw N o = vw M o := by
  unfold vw
  refine Prod.ext ?_ (Prod.ext ?_ (Prod.ext ?_ ?_))
  · funext i
    by_cases h : i < 192
    · simp only [if_pos h, (h1 i h).1]
    · simp only [if_neg h]
  · funext i
    by_cases h : i < 192
    · simp only [if_pos h, (h1 i h).2]
    · simp only [if_neg h]
  · funext i
    by_cases h : i < 24
    · simp only [if_pos h, (h2 i h).1]
    · simp only [if_neg h]
  · funext i
    by_cases h : i < 24
    · simp only [(h2 i h).1, (h2 i h).2]
    · simp only [h, false_and, if_false]
theorem DrI.same {M N : Mem} {o j : Nat} (h : DrI M o j) (a1 : ∀ i, i < 192 → N (o + 1) i = M (o + 1) i ∧ N (o + 2) i = M (o + 2) i) (a2 : ∀ p, p < 24 → N (o + 3) p = M (o + 3) p ∧ N (o + 4) p = M (o + 4) p) (h1 : ∀ i, i < 192 → N 30 (192 * j + i) = M 30 (192 * j + i) ∧ N 31 (192 * j + i) = M 31 (192 * j + i)) (h2 : ∀ p, p < 24 → N 28 (24 * j + p) = M 28 (24 * j + p) ∧ N 29 (24 * j + p) = M 29 (24 * j + p)) : DrI N o j := by
  obtain ⟨q1, q2, q3, q4⟩ := h
  have e1 := vw_same a1 a2
  have e2 := vm_same h1 h2
  refine ⟨by rw [e1, e2, q1], fun p hp => ?_, fun p hp => ?_, by rw [e2]; exact q4⟩
  · rw [(a2 p hp).1]; exact q2 p hp
  · rw [(h2 p hp).1]; exact q3 p hp
theorem reg_k {k i : Nat} (h : 49 ≤ k) : reg k i = 3 := by
  unfold reg
  rw [if_neg (by omega), if_neg (by omega), if_neg (by omega), if_neg (by omega), if_neg (by omega), if_neg (by omega), if_neg (by omega), if_pos (by omega)]
section Keepers
variable {R : Nat → Prop} {M N : Mem} {K : Nat}
theorem DrI.keep (hc : Ch R M N) (hR : ¬ R 1) (h : DrI M 1 10) : DrI N 1 10 := by
  refine h.same (fun i hi => ⟨hc _ _ ?_, hc _ _ ?_⟩) (fun p hp => ⟨hc _ _ ?_, hc _ _ ?_⟩) (fun i hi => ⟨hc _ _ ?_, hc _ _ ?_⟩) (fun p hp => ⟨hc _ _ ?_, hc _ _ ?_⟩)
  all_goals (rw [show ∀ k i, reg k i = reg k i from fun _ _ => rfl]; unfold reg; simp; try exact hR)
  all_goals (rw [if_neg (by omega)]; exact hR)
theorem DrI.keepK (hc : Ch R M N) (hR : ¬ R 3) {j : Nat} (hj : j < 10) (h : DrI M (49 + 5 * j) j) : DrI N (49 + 5 * j) j := by
  refine h.same (fun i hi => ⟨hc _ _ ?_, hc _ _ ?_⟩) (fun p hp => ⟨hc _ _ ?_, hc _ _ ?_⟩) (fun i hi => ⟨hc _ _ ?_, hc _ _ ?_⟩) (fun p hp => ⟨hc _ _ ?_, hc _ _ ?_⟩)
  · rw [reg_k (by omega)]; exact hR
  · rw [reg_k (by omega)]; exact hR
  · rw [reg_k (by omega)]; exact hR
  · rw [reg_k (by omega)]; exact hR
  all_goals (unfold reg; simp)
  all_goals (rw [if_pos (by omega)]; exact hR)
theorem SeI.keep (hc : Ch R M N) (hR : ¬ R 2) (h : SeI M) : SeI N := by
  obtain ⟨S, h1, h2, h3, h4⟩ := h
  refine ⟨S, h1, ?_, ?_, fun i hi => ?_⟩
  · rw [hc 6 3 hR]; exact h2
  · rw [hc 27 8 hR]; exact h3
  · rw [hc 9 i hR, hc 34 i hR]; exact h4 i hi
theorem KeI.keep (hc : Ch R M N) (hR : ¬ R 3) (hK : K ≤ 10) (h : KeI K M) : KeI K N := by
  obtain ⟨h1, h2, h3, h4⟩ := h
  refine ⟨?_, ?_, fun i => ?_, fun j hj => (h4 j hj).keepK hc hR (by omega)⟩
  · rw [hc 10 1 hR]; exact h1
  · rw [hc 27 1 hR]; exact h2
  · rw [hc 11 i hR]; exact h3 i
theorem ToI.keep (hc : Ch R M N) (hR : ¬ R 4) (h : ToI K M) : ToI K N := by
  obtain ⟨h1, h2⟩ := h
  refine ⟨fun i hi => ?_, fun i hi => ?_⟩
  · rw [hc 12 i hR, hc 35 i hR, hc 13 i hR, hc 36 i hR]; exact h1 i hi
  · rw [hc 14 i hR, hc 37 i hR, hc 15 i hR, hc 38 i hR]; exact h2 i hi
theorem vm_keep (hc : Ch R M N) (hR : ¬ R 3) {j : Nat} (hj : j < 10) : vm N j = vm M j := by
  refine vm_same (fun i hi => ⟨hc _ _ ?_, hc _ _ ?_⟩) (fun p hp => ⟨hc _ _ ?_, hc _ _ ?_⟩)
  all_goals (unfold reg; simp)
  all_goals (rw [if_pos (by omega)]; exact hR)
theorem tp_keep (hc : Ch R M N) (hR : ¬ R 3) (hR4 : ¬ R 4) (hK : K ≤ 10) (h : ToI K M) : tp N = tp M := by
  unfold tp
  rw [hc 37 0 hR4, hc 37 1 hR4, hc 38 0 hR4, hc 38 1 hR4]
  refine Prod.ext ?_ rfl
  funext i
  by_cases hi : i < 36
  · simp only [if_pos hi, hc 35 i hR4]
    rcases (h.1 i hi).2.1 with e | ⟨j, hj, e⟩
    · rw [if_pos e, if_pos e]
    · rw [e, nI_clamp (by omega), vm_keep hc hR (by omega)]
  · simp only [if_neg hi]
theorem CuI.keep (hc : Ch R M N) (hR3 : ¬ R 3) (hR4 : ¬ R 4) (hR5 : ¬ R 5) (hK : K ≤ 10) (ht : ToI K M) (h : CuI M) : CuI N := by
  have e : ∀ k, (∀ i, reg k i = 5) → N k = M k := fun k hk => funext (fun i => hc k i (by rw [hk]; exact hR5))
  unfold CuI
  rw [tp_keep hc hR3 hR4 hK ht, e 17 (fun _ => rfl), e 18 (fun _ => rfl), e 19 (fun _ => rfl), e 20 (fun _ => rfl), e 22 (fun _ => rfl), e 24 (fun _ => rfl), e 25 (fun _ => rfl)]
  exact h
end Keepers
