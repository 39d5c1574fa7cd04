/-! Drawing.copied: the world grows by the five cells of a drawing. -/
def NOk (n : Nat) : Prop := 49 ≤ n ∧ (n - 49) % 5 = 0 ∧ n < 2147483640
def K11 (n : Nat) (M : Mem) : Prop := ∀ i, (M 11 i).toNatClampNeg < n
theorem NOk.dr {n : Nat} (h : NOk n) : DrOk (n + 5) n := ⟨Or.inr ⟨h.1, h.2.1⟩, Nat.le_refl _⟩
theorem va_nd_of : ∀ (l : List Nat), l.Nodup → va_nd l = true := by
  intro l
  induction l with
  | nil => intro _; rfl
  | cons a t ih =>
    intro h
    rw [List.nodup_cons] at h
    simp [va_nd, h.1, ih h.2]
theorem sh0_refs {n : Nat} (hn : NOk n) : ∀ k, k < n → ∀ ci fs, sh0 k = .inr (ci, fs) → ∀ j, some j ∈ fs → j < n := by
  intro k hk ci fs hs j hj
  have hn1 := hn.1
  have hn2 := hn.2.1
  by_cases h49 : k < 49
  · have hall : ∀ q ∈ shL, ∀ ci fs, q = Sum.inr (ci, fs) → ∀ j, some j ∈ fs → j < 49 := by
      intro q hq ci fs he j hj
      have h1 : ∀ q ∈ shL, (match q with
        | .inl _ => true
        | .inr (_, fs) => fs.all (fun x => match x with
          | none => true
          | some j => decide (j < 49))) = true := by decide +kernel
      have h2 := h1 q hq
      subst he
      have h3 := List.all_eq_true.mp h2 (some j) hj
      exact of_decide_eq_true h3
    have hs' : shL.getD k (.inl (0, 0)) = .inr (ci, fs) := by
      unfold sh0 at hs
      rw [if_pos h49] at hs
      exact hs
    have hmem : (Sum.inr (ci, fs) : Shp) ∈ shL := by
      rw [← hs', List.getD_eq_getElem?_getD]
      have hl : k < shL.length := h49
      rw [List.getElem?_eq_getElem hl]
      exact List.getElem_mem hl
    have := hall _ hmem ci fs rfl j hj
    omega
  · unfold sh0 at hs
    rw [if_neg h49] at hs
    have hm : (k - 49) % 5 = 0 ∨ (k - 49) % 5 = 1 ∨ (k - 49) % 5 = 2 ∨ 3 ≤ (k - 49) % 5 := by omega
    rcases hm with h0 | h0 | h0 | h0
    · rw [h0] at hs
      simp only [drS, Sum.inr.injEq, Prod.mk.injEq] at hs
      obtain ⟨-, rfl⟩ := hs
      simp only [List.mem_cons, Option.some.injEq, List.not_mem_nil, or_false] at hj
      omega
    · rw [h0] at hs; simp [drS] at hs
    · rw [h0] at hs; simp [drS] at hs
    · obtain ⟨z, hz⟩ : ∃ z, (k - 49) % 5 = z + 3 := ⟨(k - 49) % 5 - 3, by omega⟩
      rw [hz] at hs; simp [drS] at hs
theorem sh0_ref3 {k t len : Nat} (ht : 3 ≤ t) (hs : sh0 k = .inl (t, len)) : k = 11 := by
  by_cases h49 : k < 49
  · have h1 : ∀ k, k < 49 → (match sh0 k with
      | .inl (t, _) => decide (t < 3) || decide (k = 11)
      | .inr _ => true) = true := by decide +kernel
    have h2 := h1 k h49
    rw [hs] at h2
    simp only [Bool.or_eq_true, decide_eq_true_eq] at h2
    omega
  · unfold sh0 at hs
    rw [if_neg h49] at hs
    have hm : (k - 49) % 5 = 0 ∨ (k - 49) % 5 = 1 ∨ (k - 49) % 5 = 2 ∨ 3 ≤ (k - 49) % 5 := by omega
    rcases hm with h0 | h0 | h0 | h0
    · rw [h0] at hs; simp [drS] at hs
    · rw [h0] at hs; simp [drS] at hs; omega
    · rw [h0] at hs; simp [drS] at hs; omega
    · obtain ⟨z, hz⟩ : ∃ z, (k - 49) % 5 = z + 3 := ⟨(k - 49) % 5 - 3, by omega⟩
      rw [hz] at hs; simp [drS] at hs; omega
theorem Wd_app {cA : Nat → ClassId} {ad : Nat → Nat} {n q : Nat} {u : Nat → Nat} {M : Mem} (hn : NOk n) (hk : K11 n M) : Wd cA ad n M ++ fX1 cA q u = Wd cA (ad5 ad n q u) (n + 5) (M0 n M) := by
  have h1 : Wd cA ad n M = Wd cA (ad5 ad n q u) n (M0 n M) := by
    refine Wd_ext (fun k h => if_pos h) (fun k h => if_pos h) (sh0_refs hn) (fun k hk' t len ht hs i => ?_)
    obtain rfl := sh0_ref3 ht hs
    unfold dec
    by_cases h : M 11 i = 0
    · rw [if_pos h, if_pos h]
    · rw [if_neg h, if_neg h, show ad5 ad n q u (M 11 i).toNatClampNeg = ad (M 11 i).toNatClampNeg from if_pos (hk i)]
  rw [h1]
  unfold Wd
  rw [List.range_succ, List.range_succ, List.range_succ, List.range_succ, List.range_succ]
  simp only [List.map_append, List.map_cons, List.map_nil, List.append_assoc, List.cons_append, List.nil_append]
  congr 1
  have hd := hn.dr
  have e0 : ad5 ad n q u n = q := (if_neg (show ¬ n < n by omega)).trans (by rw [show n - n = 0 by omega]; rfl)
  have e1 : ad5 ad n q u (n + 1) = u 1 := (if_neg (show ¬ (n + 1) < n by omega)).trans (by rw [show (n + 1) - n = 1 by omega]; rfl)
  have e2 : ad5 ad n q u (n + 2) = u 2 := (if_neg (show ¬ (n + 2) < n by omega)).trans (by rw [show (n + 2) - n = 2 by omega]; rfl)
  have e3 : ad5 ad n q u (n + 3) = u 3 := (if_neg (show ¬ (n + 3) < n by omega)).trans (by rw [show (n + 3) - n = 3 by omega]; rfl)
  have e4 : ad5 ad n q u (n + 4) = u 4 := (if_neg (show ¬ (n + 4) < n by omega)).trans (by rw [show (n + 4) - n = 4 by omega]; rfl)
  have z : ∀ j, n ≤ j → M0 n M j = fun _ => 0 := fun j hj => if_neg (by omega)
  rw [z n (by omega), z (n + 1) (by omega), z (n + 2) (by omega), z (n + 3) (by omega), z (n + 4) (by omega), hd.s0, hd.s1, hd.s2, hd.s3, hd.s4, e0, e1, e2, e3, e4]
  unfold fX1 en
  simp only [fl, e1, e2, e3, e4]
theorem Dd.of {A : Nat → Prop} {ad : Nat → Nat} {n : Nat} {cA : Nat → ClassId} {M : Mem} (h : va_D A (Wd cA ad n M)) : Dd A ad n :=
  ⟨fun i j hi hj he => h.1 i j _ _ (Wd_at hi) (Wd_at hj) he, fun i hi => h.2 i _ (Wd_at hi)⟩
set_option maxHeartbeats 4000000 in
set_option maxRecDepth 100000 in
theorem c_copied (l : Launch) {D : va_G} {cA : Nat → ClassId} {ad : Nat → Nat} {n : Nat} {A : Nat → Prop} {sa : Nat → Nat} {M Mf : Mem} (hn : NOk n) (hk11 : K11 n M) (h : X1_copied_tail (M0 n M) 1 n = some Mf) :
    Met l yX1_copied (Cond.code yX1_copied cX1_copied 2 (some (.object RX1)) :: wsL_law) { frames := 2, cells := 5, slots := 436, locals := 43 } (va_Pc [.ref (ad 1)] (PP D cA ad n A sa M))
      (fun _ st o t => ∃ ad', (∀ k, k < n → ad' k = ad k) ∧ Dd A ad' (n + 5) ∧ o = .returned (some (.ref (ad' n))) ∧ va_P D cls6 (Wd cA ad' (n + 5) Mf) t.heap ∧ va_F A st t) 5 436 A := by
  refine Met.ofW (cc := cX1_copied) (maxL := 2) (ret := some (.object RX1)) (by decide) rfl ?_
  intro p e s m args below meth c s₁ B hml hv
  obtain ⟨rfl, hP, hK, hDd, hA, hn49, hks⟩ := hv
  have hx := B.exec
  have hb := B.bytes
  have hr := B.returns
  have hts0 := atoms_spec (ws := Cond.code yX1_copied cX1_copied 2 (some (.object RX1)) :: wsL_law) B.pre
  have hts : ∀ w ∈ wsL_law, w.before _ s = true := fun w hw => hts0 w (List.mem_cons_of_mem _ hw)
  have hown : s.vm.findClass RX1 = some m.cls := findClass_of_methodNamed B.named
  have hlocks := B.notSynchronized
  have hS : va_S A s.heap s.heap [] := va_S.rf
  have hD := hDd.D cA M
  have hl := lv_entry ([.ref (ad 1)]) (n := 2) (Nat.le_of_ble_eq_true rfl)
  rw [lg_entry_eq]
  generalize (lg_sl ([.ref (ad 1)]) ++ List.replicate (2 - (lg_sl ([.ref (ad 1)])).length) Slot.unset).toArray = ls at hl ⊢
  have hl : lv_has ls 2 [(0, .ref (ad 1))] := hl
  refine va_new (ci := 1) (fs := [.null, .null, .null, .null]) (C := RX1) (T := TX1) (N := 4) hx hb hts in_wsX10 tyX1 tyX1_ok hown (hts _ w_369) (hts _ w_14) (hts _ w_15) hK hP hD hS hA rfl (fun j hj => by rcases (show j = 0 ∨ j = 1 ∨ j = 2 ∨ j = 3 by omega) with rfl | rfl | rfl | rfl <;> rfl) (Nat.le_of_ble_eq_true rfl) (Nat.le_of_ble_eq_true rfl) (tdec kX1_copied_ok (i := 0) rfl) (fun q H hP hD hS => ?_)
  refine W.widen (k := 1) (n := 4) (by omega) (by omega) ?_
  refine lv_dup hx hb (tdec kX1_copied_ok (i := 1) rfl) rfl ?_
  have hlen : (Wd cA ad n M).length = n := by simp [Wd]
  have hat : (Wd cA ad n M ++ [(q, Sum.inr (1, [Value.null, .null, .null, .null]))])[n]? = some (q, .inr (1, [.null, .null, .null, .null])) := by
    rw [List.getElem?_append_right (by omega), hlen, Nat.sub_self]
    rfl
  have hatL : ∀ k, k < n → (Wd cA ad n M ++ [(q, Sum.inr (1, [Value.null, .null, .null, .null]))])[k]? = (Wd cA ad n M)[k]? := fun k hk => List.getElem?_append_left (by omega)
  have hPc := hP.sub (ws' := [(q, .inr (1, [.null, .null, .null, .null]))]) [n] (by rw [List.filterMap_cons, hat]; rfl)
  have hDc := hD.sub (ws' := [(q, .inr (1, [.null, .null, .null, .null]))]) [n] rfl (by rw [List.map_cons, hat]; rfl)
  have hFc := va_free (wc := [(q, .inr (1, [.null, .null, .null, .null]))]) hD hS hA [n] (by rw [List.map_cons, hat]; rfl)
  refine va_callv (va_runI (As := []) (rest := [.ref q]) ⟨hx, hb, hml, hown, hts⟩ (c_X1_init l D cA q H.size) (cwI 0 hts (gdW (fun w hw => (List.mem_cons.mp hw).elim (fun z => by rw [z]; exact w_30) id)) rfl rfl rfl (hts _ w_15) (hts _ w_371) (hts _ w_29) rfl (by decide +kernel) ⟨Nat.le_of_ble_eq_true rfl, Nat.le_of_ble_eq_true rfl⟩) ⟨c_blind, fun U hU hW => ⟨rfl, by rw [hU], by rw [hU]; exact hPc, va_K.moved hW.alike hK, hDc.weaken (fun _ _ _ _ => trivial)⟩⟩ rfl rfl hl.1 rfl (lv_room (Nat.le_of_ble_eq_true rfl)) (tdec kX1_copied_ok (i := 2) rfl) ⟨Nat.le_of_ble_eq_true rfl, Nat.le_of_ble_eq_true rfl⟩) hS (fun q _ h => hFc q h) hFc (fun u t H1 locs ht hvm hw hB hz1 hk1 hS => ?_)
  obtain ⟨hP1, hD1⟩ := hB
  rw [ht] at hP1
  obtain ⟨hP, hD⟩ := va_join (wr := Wd cA ad n M) (w1 := fX1 cA q u) hP hD [n] (List.range n) (by rw [List.map_cons, hat]; rfl) (by
    apply List.ext_getElem?
    intro k
    rw [List.getElem?_map, List.getElem?_map]
    by_cases hk : k < n
    · rw [List.getElem?_range hk, Wd_at hk]
      exact congrArg some ((hatL k hk).trans (Wd_at hk))
    · rw [List.getElem?_eq_none (by simpa using hk), List.getElem?_eq_none (by rw [hlen]; omega)]
      rfl) (va_nd_of _ List.nodup_range) (by
    intro i hi hj
    have h1 := List.mem_range.mp hi
    have h2 : i = n := by simpa using hj
    omega) hk1 hFc hP1 hD1
  generalize H1 = H at hP hS ⊢
  rw [Wd_app hn hk11] at hP hD
  refine W.widen (k := 5) (n := 436) (by omega) (by omega) ?_
  have hdr := hn.dr
  have hX : Cx p s m [Value.ref (ad 1)].toArray meth c D cA (ad5 ad n q u) (n + 5) A sa cX1_copied 2 RX1 kX1_copied := ⟨hx, hb, hml, hown, hts, hK, Dd.of hD, hA, by have := hn.1; omega, hks, hlocks, kX1_copied_ok⟩
  have e1 : ad5 ad n q u 1 = ad 1 := if_pos (by have := hn.1; omega)
  have en' : ad5 ad n q u n = q := (if_neg (show ¬ n < n by omega)).trans (by rw [show n - n = 0 by omega]; rfl)
  refine lv_astore_n (lv' := [(1, .ref q), (0, .ref (ad 1))]) hx hb (tdec kX1_copied_ok (i := 3) rfl) rfl hl (by decide) rfl (fun ls hl => ?_)
  have hl : lv_has ls 2 [(1, .ref (ad5 ad n q u n)), (0, .ref (ad5 ad n q u 1))] := by rw [e1, en']; exact hl
  refine copied_tail (k9 := n) (o := 1) hX ⟨Or.inl rfl, by have := hn.1; omega⟩ hdr h (Nat.le_of_ble_eq_true rfl) (Nat.le_of_ble_eq_true rfl) ?_ H locs ls hP hS hl
  intro H locs ls hP hS hL
  refine W.aret hx hb hr (Or.inl ⟨_, rfl⟩) (Or.inr ⟨_, rfl⟩) (fun t ht hW => ?_) hS.2.2 (tdec kX1_copied_ok (i := 45) rfl) hlocks
  exact ⟨ad5 ad n q u, fun k hk => if_pos hk, hX.dd, rfl, by rw [ht]; exact hP, hS.F ht⟩
