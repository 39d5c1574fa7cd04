/-- what a public method answers: a number (or nothing), or the class of what it throws -/
def outI (r : Int32 ⊕ String) : Option Value ⊕ String := match r with
  | .inl v => .inl (some (.int v))
  | .inr E => .inr E
def outV (r : Int32 ⊕ String) : Option Value ⊕ String := match r with
  | .inl _ => .inl none
  | .inr E => .inr E
theorem cat_rf (x : Option Nat) : (va_rf x).category = 1 := by cases x <;> rfl
theorem sw_ne {x v : Int32} (h : ¬ x = v) : x.toInt ≠ v.toInt := fun e => h (Int32.toInt_inj.mp e)
theorem look2 {x : Int32} (h0 : ¬ x = 0) (h1 : ¬ x = 1) : Op.lookupswitch.offset [(0, 26), (1, 34)] 42 x.toInt = 42 := by
  have z0 : x.toInt ≠ 0 := sw_ne h0
  have z1 : x.toInt ≠ 1 := sw_ne h1
  simp [Op.lookupswitch.offset, z0, z1, Ne.symm z0, Ne.symm z1]
/-- System.arraycopy(a, 0, b, 0, count) -/
def cpy {β : Type} (M : Mem) (k len k2 len2 : Nat) (x : Int32) (_ : Nat) (f : Mem → Option β) : Option β := chk (decide (0 ≤ x.toInt) && (decide (x.toNatClampNeg ≤ len) && decide (x.toNatClampNeg ≤ len2))) (f (wrR M k2 (va_cpy (M k) (M k2) 0 0 x.toNatClampNeg)))
theorem cpy_inv {β : Type} {M : Mem} {k len k2 len2 z : Nat} {x : Int32} {f : Mem → Option β} {r : β} (h : cpy M k len k2 len2 x z f = some r) : ∃ M2, wrR M k2 (va_cpy (M k) (M k2) 0 0 x.toNatClampNeg) = M2 ∧ (¬ x < 0 ∧ x.toNatClampNeg ≤ len ∧ x.toNatClampNeg ≤ len2) ∧ f M2 = some r := by
  unfold cpy at h
  obtain ⟨h1, h2⟩ := chk_inv h
  rw [Bool.and_eq_true, Bool.and_eq_true, decide_eq_true_eq, decide_eq_true_eq, decide_eq_true_eq] at h1
  refine ⟨_, rfl, ⟨?_, h1.2⟩, h2⟩
  intro hx
  have := Int32.lt_iff_toInt_lt.mp hx
  have h0 := h1.1
  simp at this
  omega
section JP
variable {p : Program} {l : Launch} {e : Env} {R : Room} {s : State} {m : MethodId} {args : Array Value} {below : List Frame} {meth : Method} {c : Code} {D : va_G} {cA : Nat → ClassId} {ad : Nat → Nat} {n : Nat} {A : Nat → Prop} {sa : Nat → Nat} {nL cells slots : Nat} {Q : State → Prop} {cc : ByteArray} {own : String} {kt : List (Nat × Instr × Nat)} {M : Mem} {pc : Nat} {L : List (Nat × Value)} {st : List Value} {M1 M2 : Mem}
theorem J.callV0 (hX : Cx p s m args meth c D cA ad n A sa cc nL own kt) (i : Nat) {y : MethodName} {C : String} {bytes : ByteArray} {maxL nP fr lo ix k : Nat} {ret : Option FieldType} {As rest : List Value} (hk : kt[i]? = some (pc, .invokevirtual ix, 3)) (hc : CT l D cA ad n A sa y bytes maxL ret fr lo (.ref (ad k) :: As) M (.inl none) M1) (hy : OKV C y bytes maxL ret nP) (hm : Cond.methodLink own ix y ∈ wsL_law) {ci : Nat} {fs : List (Option Nat)} {T : u_T} {N : Nat} (hkn : k < n) (hs : sh0 k = .inr (ci, fs)) (hcl : cls6[ci]? = some (C, T, N)) (hn : As.length = nP) (hst : st = As.reverse ++ .ref (ad k) :: rest) (hw : (rest.map fun v => v.category).sum ≤ 8) (hR : fr + 1 ≤ R.frames ∧ 8 + (maxL + 11) + lo ≤ R.locals) (hf : cells ≤ R.cells ∧ slots ≤ R.slots) (kk : J p l e R s m args below meth c D cA ad n A nL cells slots Q M1 (pc + 3) L rest) : J p l e R s m args below meth c D cA ad n A nL cells slots Q M pc L st := J.callV hX i hk hc hy hm hkn hs hcl hn hst hw hR hf kk
theorem J.callV1 (hX : Cx p s m args meth c D cA ad n A sa cc nL own kt) (i : Nat) {y : MethodName} {C : String} {bytes : ByteArray} {maxL nP fr lo ix k : Nat} {ret : Option FieldType} {As rest : List Value} {w : Value} (hk : kt[i]? = some (pc, .invokevirtual ix, 3)) (hc : CT l D cA ad n A sa y bytes maxL ret fr lo (.ref (ad k) :: As) M (.inl (some w)) M1) (hy : OKV C y bytes maxL ret nP) (hm : Cond.methodLink own ix y ∈ wsL_law) {ci : Nat} {fs : List (Option Nat)} {T : u_T} {N : Nat} (hkn : k < n) (hs : sh0 k = .inr (ci, fs)) (hcl : cls6[ci]? = some (C, T, N)) (hn : As.length = nP) (hst : st = As.reverse ++ .ref (ad k) :: rest) (hw : (rest.map fun v => v.category).sum ≤ 8) (hR : fr + 1 ≤ R.frames ∧ 8 + (maxL + 11) + lo ≤ R.locals) (hf : cells ≤ R.cells ∧ slots ≤ R.slots) (kk : J p l e R s m args below meth c D cA ad n A nL cells slots Q M1 (pc + 3) L (w :: rest)) : J p l e R s m args below meth c D cA ad n A nL cells slots Q M pc L st := J.callV hX i hk hc hy hm hkn hs hcl hn hst hw hR hf kk
theorem J.callS0 (hX : Cx p s m args meth c D cA ad n A sa cc nL own kt) (i : Nat) {y : MethodName} {bytes : ByteArray} {maxL nP fr lo ix : Nat} {ret : Option FieldType} {As rest : List Value} (hk : kt[i]? = some (pc, .invokestatic ix, 3)) (hc : CT l D cA ad n A sa y bytes maxL ret fr lo As M (.inl none) M1) (hy : OKS y bytes maxL ret nP) (hm : Cond.methodLink own ix y ∈ wsL_law) (hn : As.length = nP) (hst : st = As.reverse ++ rest) (hw : (rest.map fun v => v.category).sum ≤ 8) (hR : fr + 1 ≤ R.frames ∧ 8 + (maxL + 11) + lo ≤ R.locals) (hf : cells ≤ R.cells ∧ slots ≤ R.slots) (kk : J p l e R s m args below meth c D cA ad n A nL cells slots Q M1 (pc + 3) L rest) : J p l e R s m args below meth c D cA ad n A nL cells slots Q M pc L st := J.callS hX i hk hc hy hm hn hst hw hR hf kk
theorem J.callS1 (hX : Cx p s m args meth c D cA ad n A sa cc nL own kt) (i : Nat) {y : MethodName} {bytes : ByteArray} {maxL nP fr lo ix : Nat} {ret : Option FieldType} {As rest : List Value} {w : Value} (hk : kt[i]? = some (pc, .invokestatic ix, 3)) (hc : CT l D cA ad n A sa y bytes maxL ret fr lo As M (.inl (some w)) M1) (hy : OKS y bytes maxL ret nP) (hm : Cond.methodLink own ix y ∈ wsL_law) (hn : As.length = nP) (hst : st = As.reverse ++ rest) (hw : (rest.map fun v => v.category).sum ≤ 8) (hR : fr + 1 ≤ R.frames ∧ 8 + (maxL + 11) + lo ≤ R.locals) (hf : cells ≤ R.cells ∧ slots ≤ R.slots) (kk : J p l e R s m args below meth c D cA ad n A nL cells slots Q M1 (pc + 3) L (w :: rest)) : J p l e R s m args below meth c D cA ad n A nL cells slots Q M pc L st := J.callS hX i hk hc hy hm hn hst hw hR hf kk
theorem J.anull (hX : Cx p s m args meth c D cA ad n A sa cc nL own kt) (i : Nat)  (hk : kt[i]? = some (pc, .aconst_null, 1)) (kk : J p l e R s m args below meth c D cA ad n A nL cells slots Q M (pc + 1) L (va_rf (dec ad 0) :: st)) : J p l e R s m args below meth c D cA ad n A nL cells slots Q M pc L st := fun H locs ls hP hS hL => lv_null hX.ex hX.by (hX.dec hk) (kk H locs ls hP hS hL)
theorem J.astoreQ_n (hX : Cx p s m args meth c D cA ad n A sa cc nL own kt) (i : Nat) {k : Fin 4} {v : Int32} {L' : List (Nat × Value)} (hk : kt[i]? = some (pc, .astore_n k, 1)) (hn : k.val < nL) (hl : (k.val, va_rf (dec ad v)) :: L.filter (fun q => !(q.1 == k.val) && !(q.1 + 1 == k.val && q.2.category == 2)) = L') (kk : J p l e R s m args below meth c D cA ad n A nL cells slots Q M (pc + 1) L' st) : J p l e R s m args below meth c D cA ad n A nL cells slots Q M pc L (va_rf (dec ad v) :: st) := fun H locs ls hP hS hL => by
  by_cases h : v = 0
  · rw [show va_rf (dec ad v) = .null from by simp [dec, h, va_rf]] at hl ⊢
    exact lv_astore_nN hX.ex hX.by (hX.dec hk) rfl hL hn hl (fun ls hL => kk H locs ls hP hS hL)
  · rw [show va_rf (dec ad v) = .ref (ad v.toNatClampNeg) from by simp [dec, h, va_rf]] at hl ⊢
    exact lv_astore_n hX.ex hX.by (hX.dec hk) rfl hL hn hl (fun ls hL => kk H locs ls hP hS hL)
theorem J.astoreQ (hX : Cx p s m args meth c D cA ad n A sa cc nL own kt) (i : Nat) {k : Nat} {v : Int32} {L' : List (Nat × Value)} (hk : kt[i]? = some (pc, .astore k, 2)) (hn : k < nL) (hl : (k, va_rf (dec ad v)) :: L.filter (fun q => !(q.1 == k) && !(q.1 + 1 == k && q.2.category == 2)) = L') (kk : J p l e R s m args below meth c D cA ad n A nL cells slots Q M (pc + 2) L' st) : J p l e R s m args below meth c D cA ad n A nL cells slots Q M pc L (va_rf (dec ad v) :: st) := fun H locs ls hP hS hL => by
  by_cases h : v = 0
  · rw [show va_rf (dec ad v) = .null from by simp [dec, h, va_rf]] at hl ⊢
    exact lv_astoreN hX.ex hX.by (hX.dec hk) hL hn hl (fun ls hL => kk H locs ls hP hS hL)
  · rw [show va_rf (dec ad v) = .ref (ad v.toNatClampNeg) from by simp [dec, h, va_rf]] at hl ⊢
    exact lv_astore hX.ex hX.by (hX.dec hk) hL hn hl (fun ls hL => kk H locs ls hP hS hL)
theorem J.aret (hX : Cx p s m args meth c D cA ad n A sa cc nL own kt) (hr : meth.sig.returnType = some (.object "QuiltDesk$Drawing")) (i : Nat) {v : Int32} (hk : kt[i]? = some (pc, .areturn, 1)) :
    J p l e R s m args below meth c D cA ad n A nL 0 0 (vx_MQ below (QQ D cA ad n A (.inl (some (va_rf (dec ad v)))) M) (XX D cA ad n A (.inl (some (va_rf (dec ad v)))) M) args s 0 0 A) M pc L [va_rf (dec ad v)] := fun H locs ls hP hS hL =>
  vx_ret (W.aret hX.ex hX.by hr (Or.inl ⟨_, rfl⟩) (by
    by_cases h : v = 0
    · exact Or.inl (by simp [dec, h, va_rf])
    · exact Or.inr ⟨ad v.toNatClampNeg, by simp [dec, h, va_rf]⟩) (fun t ht hW => ⟨_, rfl, rfl, by rw [ht]; exact hP, hS.F ht⟩) hS.2.2 (hX.dec hk) hX.lk)
theorem J.copy (hX : Cx p s m args meth c D cA ad n A sa cc nL own kt) (i : Nat) (k k2 : Nat) {len len2 ix : Nat} {x : Int32} (hkn : k < n) (hs : sh0 k = .inl (0, len)) (hkn2 : k2 < n) (hs2 : sh0 k2 = .inl (0, len2)) (hb : ¬ x < 0 ∧ x.toNatClampNeg ≤ len ∧ x.toNatClampNeg ≤ len2) (hM : wrR M k2 (va_cpy (M k) (M k2) 0 0 x.toNatClampNeg) = M2) (hk : kt[i]? = some (pc, .invokestatic ix, 3)) (hm : Cond.methodLink own ix arraycopyName ∈ wsL_law) (h2 : Cond.native arraycopyName ∈ wsL_law) (h3 : Cond.static arraycopyName ∈ wsL_law) (h4 : Cond.initialized "java/lang/System" ∈ wsL_law) (hfr : 1 ≤ R.frames) (hlo : (st.map fun v => v.category).sum + (nativeFrameWords "java/lang/System" "arraycopy" 5 + 11) ≤ R.locals) (kk : J p l e R s m args below meth c D cA ad n A nL cells slots Q M2 (pc + 3) L st) : J p l e R s m args below meth c D cA ad n A nL cells slots Q M pc L (.int x :: .int 0 :: .ref (ad k2) :: .int 0 :: .ref (ad k) :: st) := fun H locs ls hP hS hL => va_copyi (ty := .int) hX.ex hX.by (hX.ml.trans hL.1.symm) hX.ow (hX.ws _ hm) (hX.ws _ h2) (hX.ws _ h3) (hX.ws _ h4) hX.kn hP (hX.dd.D cA M) hS k k2 0 0 (Wd_i hkn hs) (Wd_i hkn2 hs2) rfl rfl rfl (by decide) (by decide) hb.1 (by show 0 + _ ≤ _; omega) (by show 0 + _ ≤ _; omega) (fun _ _ => rfl) hfr hlo (hX.dec hk) (fun H locs hP _ hS => kk H locs ls (by rw [Wd_is hkn2 hs2] at hP; rw [← hM]; exact hP) hS hL)
theorem dec_upd {ad : Nat → Nat} {f : Nat → Int32} {i kv : Nat} (h0 : 0 < kv) (h : kv < 2147483648) : va_up (fun j => dec ad (f j)) i (some (ad kv)) = (fun j => dec ad (upd f i (Int32.ofNat kv) j)) := by
  funext j
  unfold va_up upd
  by_cases hj : j = i
  · rw [if_pos hj, if_pos hj]
    unfold dec
    rw [if_neg (show ¬ Int32.ofNat kv = 0 from nI_ne0 h0 h), show (Int32.ofNat kv).toNatClampNeg = kv from nI_clamp h]
  · rw [if_neg hj, if_neg hj]
theorem Wd_qs {k len i kv : Nat} (hk : k < n) (hs : sh0 k = .inl (3, len)) (h0 : 0 < kv) (h : kv < 2147483648) : (Wd cA ad n M).set k (ad k, .inl (cA 3, len, .inr (.inr (.inr (.inr (va_up (fun j => dec ad (M k j)) i (some (ad kv)))))))) = Wd cA ad n (wr M k i (Int32.ofNat kv)) := by
  have := Wd_set (cA := cA) (ad := ad) (M := M) (f := upd (M k) i (Int32.ofNat kv)) hk
  rw [hs] at this
  rw [dec_upd h0 h]
  exact this
theorem J.aastN (hX : Cx p s m args meth c D cA ad n A sa cc nL own kt) (i : Nat) (k : Nat) {len : Nat} {x : Int32} (hkn : k < n) (hs : sh0 k = .inl (3, len)) (hb : vp_in x len) {kv : Nat} (ho : DrOk n kv) (_ : Nat) (hlt : kv < 2147483648) (hM : wr M k x.toNatClampNeg (Int32.ofNat kv) = M2) (hk : kt[i]? = some (pc, .aastore, 1)) (kk : J p l e R s m args below meth c D cA ad n A nL cells slots Q M2 (pc + 1) L st) : J p l e R s m args below meth c D cA ad n A nL cells slots Q M pc L (.ref (ad kv) :: .int x :: .ref (ad k) :: st) := fun H locs ls hP hS hL =>
  va_astq (r := (RX1, TX1, 4)) hX.ex hX.by hX.kn hP (hX.dd.D cA M) hS k 3 kv 1 (Wd_q hkn hs) rfl (Wd_o ho.lt0 ho.s0) rfl hb (hX.dec hk) (fun H locs hP _ hS => kk H locs ls (by rw [Wd_qs hkn hs (by rcases ho.1 with h | h <;> omega) hlt, hM] at hP; exact hP) hS hL)
end JP
