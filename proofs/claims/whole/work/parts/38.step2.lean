/-! THE CALLS THAT DRAW: corner, close, open, clear; check, clash. -/
theorem INV.draw {n : Nat} {M N : Mem} (h : INV n M) (hc : Ch (fun r => r = 0 ∨ r = 1) M N) (hd : ∀ p, p < 24 → PI N 1 10 p) : INV n N := by
  obtain ⟨K, k1, k2, _, h2, h3, h4, h5⟩ := h
  exact ⟨K, k1, k2, DrI.of hd, h2.keep hc (by decide), h3.keep hc (by decide) k1, h4.keep hc (by decide), h5.keep hc (by decide) (by decide) (by decide) k1 h4⟩
theorem INV.pi {n p : Nat} {M : Mem} (h : INV n M) (hp : p < 24) : PI M 1 10 p := by
  obtain ⟨K, k1, k2, h1, _⟩ := h
  exact h1.pi hp
theorem PI.one {M N : Mem} {p : Nat} (h : ∀ q, q < 24 → PI M 1 10 q) (hp : PI N 1 10 p)
    (hs : ∀ q, q < 24 → q ≠ p → (∀ c, c < 8 → N 2 (8 * q + c) = M 2 (8 * q + c) ∧ N 3 (8 * q + c) = M 3 (8 * q + c) ∧ N 30 (192 * 10 + (8 * q + c)) = M 30 (192 * 10 + (8 * q + c)) ∧ N 31 (192 * 10 + (8 * q + c)) = M 31 (192 * 10 + (8 * q + c))) ∧ (N 4 q = M 4 q ∧ N 28 (24 * 10 + q) = M 28 (24 * 10 + q)) ∧ (N 5 q = M 5 q ∧ N 29 (24 * 10 + q) = M 29 (24 * 10 + q))) : ∀ q, q < 24 → PI N 1 10 q := by
  intro q hq
  by_cases e : q = p
  · rw [e]; exact hp
  · obtain ⟨a1, a2, a3⟩ := hs q hq e
    exact (h q hq).congr hq a1 a2 a3
theorem a240 (p : Nat) : (240 : Int32) + nI p = nI (240 + p) := nI_add 240 p
section Corner
variable {M : Mem} {p c : Nat} {x y : Int32}
def cornA (M : Mem) (p c : Nat) (x y : Int32) : Mem := wr (wr (wr M 2 (8 * p + c) x) 3 (8 * p + c) y) 4 p 0
def cornB (M : Mem) (p c : Nat) (x y : Int32) : Mem := wr (wr (wr (wr M 27 0 0) 28 (240 + p) 0) 30 (8 * (240 + p) + c) x) 31 (8 * (240 + p) + c) y
theorem X4_corner_eq (hp : p < 24) (hc : c < 8) (hx : Wn x 97) (hy : Wn y 97) : X4_corner M (nI p) (nI c) x y = some (.inl 0, cornA M p c x y) := by
  simp only [X4_corner, X4_corner_j23, X4_corner_j50, w4_1 (b := 24) 24 rfl (by decide) ⟨p, hp, rfl⟩, w4_1 (b := 8) 8 rfl (by decide) ⟨c, hc, rfl⟩, w4_1 (b := 97) 97 rfl (by decide) hx, w4_1 (b := 97) 97 rfl (by decide) hy, bd1_s, i10, if_false, X1_putCorner, X1_openPatch, ix8, stoN (show 8 * p + c < 192 by omega) (by decide), stoN (show p < 24 by omega) (by decide)]
  rfl
theorem X5_corner_eq (hp : p < 24) (hc : c < 8) (hx : Wn x 97) (hy : Wn y 97) : X5_corner M (nI p) (nI c) x y = some (cornB M p c x y) := by
  simp only [X5_corner, X5_corner_j23, X5_corner_j49, pa_1 ⟨p, hp, rfl⟩, w5_1 (b := 7) 7 rfl (by decide) ⟨c, hc, rfl⟩, w5_1 (b := 96) 96 rfl (by decide) hx, w5_1 (b := 96) 96 rfl (by decide) hy, bd1_s, bd2_s, goes_0, i10, if_false, a240, ix8', stoN (show 8 * (240 + p) + c < 2112 by omega) (by decide), stoN (show 240 + p < 264 by omega) (by decide)]
  rfl
end Corner
theorem st_corner {n : Nat} {M : Mem} {a1 a2 a3 a4 : Int32} (h : INV n M) : ∃ g M2, St 0 n M a1 a2 a3 a4 g M2 ∧ INV (n + g) M2 := by
  by_cases h1 : Wn a1 24 ∧ Wn a2 8
  · obtain ⟨⟨p, hp, rfl⟩, ⟨c, hc, rfl⟩⟩ := h1
    by_cases h2 : Wn a3 97 ∧ Wn a4 97
    · refine ⟨0, cornB (cornA M p c a3 a4) p c a3 a4, ⟨0, cornA M p c a3 a4, Or.inl ⟨0, _, X4_corner_eq hp hc h2.1 h2.2, rfl, rfl, rfl⟩, X5_corner_eq hp hc h2.1 h2.2, ?_⟩, ?_⟩
      · unfold cornB
        rw [wr_ne (by omega), wr_ne (by omega), wr_ne (by omega), th_at]
      · refine h.draw ?_ (PI.one (p := p) (fun q hq => h.pi hq) ?_ ?_)
        · refine Ch.wr (Ch.wr (Ch.wr (Ch.wr (Ch.wr (Ch.wr (Ch.wr Ch.rfl' ?_) ?_) ?_) ?_) ?_) ?_) ?_
          all_goals (unfold reg; simp)
          all_goals omega
        · refine ⟨fun d hd => ?_, Or.inl ⟨?_, ?_⟩⟩
          · obtain ⟨⟨x, hx, e1, e2⟩, y, hy, e3, e4⟩ := (h.pi hp).1 d hd
            by_cases e : d = c
            · subst e
              obtain ⟨⟨u, hu, rfl⟩, v, hv, rfl⟩ := h2
              refine ⟨⟨u, by omega, ?_, ?_⟩, v, by omega, ?_, ?_⟩
              all_goals (unfold cornB cornA; repeat rw [wr_ne (by omega)])
              all_goals (rw [wr_at, if_pos (by omega)])
            · refine ⟨⟨x, hx, ?_, ?_⟩, y, hy, ?_, ?_⟩
              all_goals (unfold cornB cornA; repeat rw [wr_ne (by omega)])
              all_goals assumption
          all_goals (unfold cornB cornA; repeat rw [wr_ne (by omega)])
          all_goals (rw [wr_at, if_pos (by omega)])
        · intro q hq hne
          refine ⟨fun d hd => ⟨?_, ?_, ?_, ?_⟩, ⟨?_, ?_⟩, ?_, ?_⟩
          all_goals (unfold cornB cornA; repeat rw [wr_ne (by omega)])
    · refine ⟨0, wr M 27 0 2, ⟨2, M, Or.inr (Or.inr ⟨M, ?_, rfl, rfl, rfl⟩), ?_, th_at⟩, h.th⟩
      · simp only [X4_corner, X4_corner_j23, X4_corner_j49, X4_corner_j50, w4_1 (b := 24) 24 rfl (by decide) ⟨p, hp, rfl⟩, w4_1 (b := 8) 8 rfl (by decide) ⟨c, hc, rfl⟩, bd1_s, i10, if_false]
        by_cases h3 : Wn a3 97
        · simp only [w4_1 (b := 97) 97 rfl (by decide) h3, w4_0 (b := 97) 97 rfl (by decide) (fun h4 => h2 ⟨h3, h4⟩), bd1_s, i10, if_false, if_true]
        · simp only [w4_0 (b := 97) 97 rfl (by decide) h3, bd1_s, if_true]
      · simp only [X5_corner, X5_corner_j23, X5_corner_j48, X5_corner_j49, pa_1 ⟨p, hp, rfl⟩, w5_1 (b := 7) 7 rfl (by decide) ⟨c, hc, rfl⟩, bd1_s, i10, if_false]
        by_cases h3 : Wn a3 97
        · simp only [w5_1 (b := 96) 96 rfl (by decide) h3, w5_0 (b := 96) 96 rfl (by decide) (fun h4 => h2 ⟨h3, h4⟩), bd1_s, bd2_s, goes_2, i10, if_false, if_true]
        · simp only [w5_0 (b := 96) 96 rfl (by decide) h3, bd1_s, bd2_s, goes_2, if_true]
  · refine ⟨0, wr M 27 0 1, ⟨1, M, Or.inr (Or.inl ⟨M, ?_, rfl, rfl, rfl⟩), ?_, th_at⟩, h.th⟩
    · by_cases h3 : Wn a1 24
      · simp only [X4_corner, X4_corner_j22, X4_corner_j23, w4_1 (b := 24) 24 rfl (by decide) h3, w4_0 (b := 8) 8 rfl (by decide) (fun h4 => h1 ⟨h3, h4⟩), bd1_s, i10, if_false, if_true]
      · simp only [X4_corner, X4_corner_j22, X4_corner_j23, w4_0 (b := 24) 24 rfl (by decide) h3, bd1_s, if_true]
    · have e : ∀ v, X5_corner_j49 M a1 a2 a3 a4 v 0 = some (wr M 27 0 1) := fun v => by simp only [X5_corner_j49, goes_1, bd2_s, if_true]
      have e2 : X5_corner_j22 M a1 a2 a3 a4 = some (wr M 27 0 1) := by
        simp only [X5_corner_j22, X5_corner_j23, X5_corner_j48, e]
        by_cases h3 : Wn a3 97
        · simp only [w5_1 (b := 96) 96 rfl (by decide) h3, bd1_s, i10, if_false]
          by_cases h4 : Wn a4 97
          · simp only [w5_1 (b := 96) 96 rfl (by decide) h4, bd1_s, i10, if_false]
          · simp only [w5_0 (b := 96) 96 rfl (by decide) h4, bd1_s, if_true]
        · simp only [w5_0 (b := 96) 96 rfl (by decide) h3, bd1_s, if_true]
      by_cases h3 : Wn a1 24
      · simp only [X5_corner, pa_1 h3, w5_0 (b := 7) 7 rfl (by decide) (fun h4 => h1 ⟨h3, h4⟩), bd1_s, i10, if_false, if_true, e2]
      · simp only [X5_corner, pa_0 h3, bd1_s, if_true, e2]
/-! open -/
section Open
variable {M : Mem} {p : Nat}
theorem le0 {k : Nat} (hk : k ≤ 8) : (nI k ≤ 0) = (k = 0) := by
  rcases Nat.eq_zero_or_pos k with e | e
  · subst e; exact propext ⟨fun _ => rfl, fun _ => by decide⟩
  · exact propext ⟨fun h => absurd h (nI_nle e (by omega)), fun h => by omega⟩
theorem X5_open_eq {k : Nat} (hp : p < 24) (hk : k ≤ 8) (ek : M 28 (240 + p) = nI k) : X5_open M (nI p) = some (if 0 < k then 1 else 0, wr (wr M 27 0 0) 28 (240 + p) 0) := by
  simp only [X5_open, X5_open_j32, pa_1 ⟨p, hp, rfl⟩, bd1_s, bd2_s, goes_0, i10, if_false, a240, ldN (show 240 + p < 264 by omega) (by decide), stoN (show 240 + p < 264 by omega) (by decide), wr_ne (M := M) (k := 27) (i := 0) (a := 28) (b := 240 + p) (v := 0) (by omega), ek, le0 hk]
  by_cases e : k = 0
  · rw [if_pos e, if_neg (by omega)]; rfl
  · rw [if_neg e, if_pos (by omega)]; rfl
end Open
theorem PI.ck {M : Mem} {p : Nat} (h : PI M 1 10 p) : ∃ k, k ≤ 8 ∧ M 4 p = nI k ∧ M 28 (240 + p) = nI k := by
  rcases h.2 with ⟨h1, h2⟩ | ⟨k, l, _, h1, _, h2, h3, _⟩
  · exact ⟨0, by omega, h1, h2⟩
  · exact ⟨k, h1, h2, h3⟩
theorem INV.co {n : Nat} {M : Mem} (h : INV n M) : COk M 1 ∧ COkM M 10 ∧ vw M 1 = vm M 10 := by
  obtain ⟨K, k1, k2, ⟨h1, h2, h3, _⟩, _⟩ := h
  exact ⟨h2, h3, h1⟩
theorem st_open {n : Nat} {M : Mem} {a1 a2 a3 a4 : Int32} (h : INV n M) : ∃ g M2, St 2 n M a1 a2 a3 a4 g M2 ∧ INV (n + g) M2 := by
  by_cases h1 : Wn a1 24
  · obtain ⟨p, hp, rfl⟩ := h1
    obtain ⟨k, hk, e1, e2⟩ := (h.pi hp).ck
    have hC : (vw M 1).C p = k := by rw [vwC hp, e1, nI_clamp (by omega)]
    have q1 : X4_open M (nI p) = some (.inl (if 0 < k then 1 else 0), wr M 4 p 0) := by
      simp only [X4_open, w4_1 (b := 24) 24 rfl (by decide) ⟨p, hp, rfl⟩, bd1_s, i10, if_false, X1_isClosed_eq h.co.1 hp, X1_openPatch, stoN hp (by decide), hC]
      by_cases e : 0 < k
      · rw [if_pos e]; rfl
      · rw [if_neg e]; rfl
    refine ⟨0, wr (wr (wr (wr M 4 p 0) 48 0 (if (if 0 < k then (1 : Int32) else 0) = 0 then 0 else 1)) 27 0 0) 28 (240 + p) 0, ⟨0, wr (wr M 4 p 0) 48 0 (if (if 0 < k then (1 : Int32) else 0) = 0 then 0 else 1), if 0 < k then 1 else 0, Or.inl ⟨_, _, q1, rfl, rfl, rfl⟩, X5_open_eq hp hk ?_, ?_, fun _ => ?_⟩, ?_⟩
    · rw [wr_ne (by omega), wr_ne (by omega)]; exact e2
    · rw [wr_ne (by omega), th_at]
    · rw [wr_ne (by omega), wr_ne (by omega), ou_at]
    · refine h.draw ?_ (PI.one (p := p) (fun q hq => h.pi hq) ?_ ?_)
      · refine Ch.wr (Ch.wr (Ch.wr (Ch.wr Ch.rfl' ?_) ?_) ?_) ?_
        all_goals (unfold reg; simp)
      · refine ⟨fun d hd => ?_, Or.inl ⟨?_, ?_⟩⟩
        · obtain ⟨⟨x, hx, e1, e2⟩, y, hy, e3, e4⟩ := (h.pi hp).1 d hd
          refine ⟨⟨x, hx, ?_, ?_⟩, y, hy, ?_, ?_⟩
          all_goals (repeat rw [wr_ne (by omega)])
          all_goals assumption
        all_goals (repeat rw [wr_ne (by omega)])
        all_goals (rw [wr_at, if_pos (by omega)])
      · intro q hq hne
        refine ⟨fun d hd => ⟨?_, ?_, ?_, ?_⟩, ⟨?_, ?_⟩, ?_, ?_⟩
        all_goals (repeat rw [wr_ne (by omega)])
  · refine ⟨0, wr M 27 0 1, ⟨1, M, 0, Or.inr ⟨M, ?_, rfl, rfl, rfl⟩, ?_, th_at, fun e => absurd e (by decide)⟩, h.th⟩
    · simp only [X4_open, w4_0 (b := 24) 24 rfl (by decide) h1, bd1_s, if_true]
    · simp only [X5_open, pa_0 h1, bd1_s, bd2_s, goes_1, if_true, chk0]
/-! check and clash -/
theorem st_check {n : Nat} {M : Mem} {a1 a2 a3 a4 : Int32} (h : INV n M) : ∃ g M2, St 4 n M a1 a2 a3 a4 g M2 ∧ INV (n + g) M2 := by
  obtain ⟨h1, h2, h3⟩ := h.co
  obtain ⟨r, hr⟩ := StOf.ex (vm M 10)
  have e : vm (wr M 27 0 0) 10 = vm M 10 := rfl
  refine ⟨0, wr M 27 0 0, ⟨r, ?_, ?_, rfl⟩, h.th⟩
  · simp only [X4_check, X1_state_eq h1 (h3 ▸ hr), bd1_s]
  · simp only [X5_check, bnd_s, X5_state_eq (M := wr M 27 0 0) h2 (e ▸ hr), bd1_s]
theorem st_clash {n : Nat} {M : Mem} {a1 a2 a3 a4 : Int32} (h : INV n M) : ∃ g M2, St 5 n M a1 a2 a3 a4 g M2 ∧ INV (n + g) M2 := by
  obtain ⟨h1, h2, h3⟩ := h.co
  obtain ⟨r, hr⟩ := FO.ex (vm M 10)
  have key : ∀ w : Int32, Wn w 2 → ∃ v, (X4_clash M w = some (.inl v, M) ∧ X5_clash (wr M 48 0 v) w = some (v, wr (wr M 48 0 v) 27 0 0)) := by
    intro w hw
    have q1 := X1_firstOverlap_eq h1 (h3 ▸ hr)
    have q2 : ∀ v, X5_overlapping (wr (wr M 48 0 v) 27 0 0) = some r := fun v => X5_overlapping_eq (M := wr (wr M 48 0 v) 27 0 0) h2 hr
    refine ⟨if r = -1 then -1 else if w = 0 then r / 24 else r - r / 24 * 24, ?_, ?_⟩
    · have e : X4_clash M w = X4_clash_j14 M w 1 := by
        obtain ⟨i, hi, rfl⟩ := hw
        have : i = 0 ∨ i = 1 := by omega
        rcases this with rfl | rfl <;> rfl
      rw [e]
      simp only [X4_clash_j14, X4_clash_j47, q1, bd1_s, i10, if_false]
      split
      · rfl
      · split <;> rfl
    · simp only [X5_clash, X5_clash_j45, w5_1 (b := 1) 1 rfl (by decide) hw, bd1_s, bd2_s, goes_0, i10, if_false, q2]
      split
      · rfl
      · split <;> rfl
  by_cases hw : Wn a1 2
  · obtain ⟨v, e1, e2⟩ := key a1 hw
    exact ⟨0, wr (wr M 48 0 v) 27 0 0, ⟨0, wr M 48 0 v, v, Or.inl ⟨v, M, e1, rfl, rfl, rfl⟩, e2, th_at, fun _ => by rw [wr_ne (by omega), ou_at]⟩, h.ou.th⟩
  · refine ⟨0, wr M 27 0 1, ⟨1, M, 0, Or.inr ⟨M, ?_, rfl, rfl, rfl⟩, ?_, th_at, fun e => absurd e (by decide)⟩, h.th⟩
    · simp only [X4_clash, X4_clash_j14]
      rw [if_neg (show ¬ a1 = 0 from fun e => hw ⟨0, by omega, e⟩), if_neg (show ¬ a1 = 1 from fun e => hw ⟨1, by omega, e⟩)]
      rfl
    · simp only [X5_clash, w5_0 (b := 1) 1 rfl (by decide) hw, bd1_s, bd2_s, goes_1, if_true]
