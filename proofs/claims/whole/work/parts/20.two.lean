/-! two systems side by side: what the law stands on -/
def rg (x : Int32) (a b : Int) : Prop := a ≤ x.toInt ∧ x.toInt ≤ b
def shc (k : Nat) : Prop := k = 0 ∨ k = 1 ∨ k = 3 ∨ k = 4 ∨ k = 5 ∨ k = 6 ∨ k = 7 ∨ k = 8 ∨ k = 9 ∨ 100 ≤ k
/-- what the class and the reference have in common -/
def RE (σ τ : St) : Prop := ∀ k, shc k → σ k = τ k
def I4 (σ : St) : Prop := ∃ n, n ≤ 8 ∧ σ 0 4 = nI n
def I5 (σ : St) : Prop := ∃ n, n ≤ 20 ∧ σ 0 5 = nI n ∧ okT σ n ∧ (∀ j, j < n → σ 8 j = 0 ∨ σ 8 j = 1) ∧ ∀ j, j < n → rg (σ 9 j) 5000 10000
def I3 (t : Nat) (σ : St) : Prop := ∃ z, z ≤ 111 * t ∧ σ 0 3 = nI z
def IW (t : Nat) (σ : St) : Prop := ∀ k, k < 16 → rg (σ 1 k) 6000 9200 ∧ rg (σ 3 k) 0 20 ∧ rg (σ 4 k) 0 (500 * t) ∧ ∀ j, j < 5 → rg (σ (100 + 2 * k) j) 0 99
def IL (σ : St) : Prop := ∀ a, a < 4 → rg (σ 5 a) 0 4000
def IS (σ : St) : Prop := (∀ j, j < 8 → rg (σ 6 j) 0 9200) ∧ σ 25 0 = 0 ∧ σ 26 0 = 0 ∧ rg (σ 0 0) 0 30
def IP (t : Nat) (σ τ : St) : Prop := ∀ k, k < 16 → ∃ q, q ≤ t ∧ τ 11 k = nI q ∧ σ 21 k = nI (min 5 q) ∧ σ 22 k = nI (q % 5)
def RB (t : Nat) (σ τ : St) : Prop := t ≤ 600 ∧ RE σ τ ∧ I4 σ ∧ I5 σ ∧ I3 t σ ∧ IW t σ ∧ IL σ ∧ IS σ ∧ IP t σ τ
theorem RB.re {t : Nat} {σ τ : St} (h : RB t σ τ) : RE σ τ := h.2.1
theorem RB.okB {t : Nat} {σ τ : St} (h : RB t σ τ) : okB σ := fun k hk => by
  obtain ⟨q, h1, h2, h3, h4⟩ := h.2.2.2.2.2.2.2.2 k hk
  exact ⟨min 5 q, Nat.min_le_left _ _, h3⟩
theorem RB.okO {t : Nat} {σ τ : St} (h : RB t σ τ) : ∀ k : Nat, k < 16 → ∃ o : Nat, o < 5 ∧ σ 22 k = nI o := fun k hk => by
  obtain ⟨q, h1, h2, h3, h4⟩ := h.2.2.2.2.2.2.2.2 k hk
  exact ⟨q % 5, Nat.mod_lt _ (by decide), h4⟩
theorem RB.okP {t : Nat} {σ τ : St} (h : RB t σ τ) : okP τ := fun k hk => by
  obtain ⟨q, h1, h2, h3, h4⟩ := h.2.2.2.2.2.2.2.2 k hk
  have := h.1
  exact ⟨q, by omega, h2⟩
theorem RB.e4 {t : Nat} {σ τ : St} (h : RB t σ τ) : ∃ n, n ≤ 8 ∧ σ 0 4 = nI n ∧ τ 0 4 = nI n := by
  obtain ⟨n, h1, h2⟩ := h.2.2.1
  exact ⟨n, h1, h2, by rw [← h.re 0 (Or.inl rfl)]; exact h2⟩
theorem RB.e3 {t : Nat} {σ τ : St} (h : RB t σ τ) : ∃ z, z < 1000000 ∧ σ 0 3 = nI z ∧ τ 0 3 = nI z := by
  obtain ⟨n, h1, h2⟩ := h.2.2.2.2.1
  have := h.1
  exact ⟨n, by omega, h2, by rw [← h.re 0 (Or.inl rfl)]; exact h2⟩
theorem RB.e5 {t : Nat} {σ τ : St} (h : RB t σ τ) : ∃ n, n ≤ 20 ∧ σ 0 5 = nI n ∧ τ 0 5 = nI n ∧ okT σ n ∧ okT τ n := by
  obtain ⟨n, h1, h2, h3, h4⟩ := h.2.2.2.1
  exact ⟨n, h1, h2, by rw [← h.re 0 (Or.inl rfl)]; exact h2, h3, okT_of h3 (h.re 7 (by simp [shc])).symm⟩
section LW
variable {p : Program} {l : Launch} {e : Env} {R : Room} {s : State} {m : MethodId} {args : Array Value} {below : List Frame} {meth : Method} {c : Code} {nL : Nat} {A : Nat → Prop} {cells slots : Nat} {Q : State → Prop} {HP HP' : Heap → Prop} {cc : ByteArray} {own : String} {pc pc' : Nat} {L L' st rest : List Value}
variable {D : va_G} {tys : List (ClassId × FieldType)} {n : Nat} {ad : Nat → Nat} {cell : Nat → St → va_E} {σ : St}
theorem g_callI (C : ZFix p m c cc nL s args own) (hK : va_K D vwCl tys s) {y : MethodName} {b : ByteArray} {nL2 fr lo nA : Nat} {rt : FieldType} {As : List Value} {post : Int32 → St → Prop} {q ci N index : Nat} {T : u_T} {fs : List Value} (HQ : St → Heap → Prop) (hM : CI l y b nL2 rt fr lo D tys n ad cell σ (.ref (ad q) :: As) post) (hA : ∀ i, i < n → A (ad i)) (hpre : ∀ H, HP H → PV D n ad cell σ H) (hpost : ∀ H H1 u, HP H → PV D n ad cell u H1 → (∀ q : Nat, q < H.size → ¬ AdS n ad q → H1[q]? = H[q]?) → HQ u H1)
    (w1 : Cond.methodLink own index y ∈ AW) (w2 : Cond.instanceMethod y ∈ AW) (w3 : Cond.selects y.cls y y ∈ AW) (w4 : Cond.initialized y.cls ∈ AW) (w5 : Cond.code y b nL2 (some rt) ∈ AW) (hq : q < n) (hce : cell q σ = .inr (ci, fs)) (hcl : vwCl[ci]? = some (y.cls, T, N))
    (hy : y.cls ≠ "java/lang/invoke/MethodHandle" ∧ y.cls ≠ "java/lang/invoke/VarHandle" ∧ (parseMethodDescriptor y.desc).map (fun d => d.parameters.length) = some nA) (hn : As.length = nA) (hR : fr + 1 ≤ R.frames ∧ 8 + (nL2 + 11) + lo ≤ R.locals) (hst : st = As.reverse ++ .ref (ad q) :: rest) (hrest : (rest.map fun v => v.category).sum ≤ 8) (hf : cells ≤ R.cells ∧ slots ≤ R.slots) (hd : decode cc pc = .ok (.invokevirtual index, 3)) (hp : pc + 3 = pc')
    (kk : ∀ (r : Int32) (u : St), post r u → Zj p l e R s m args below meth c nL A cells slots Q (HQ u) pc' L (.int r :: rest)) : Zj p l e R s m args below meth c nL A cells slots Q HP pc L st := by
  intro ls H locs h1 h2 h3
  subst hst; subst hp; subst hn
  have h2' := hpre H h2
  have hFA : ∀ q, AdS n ad q → A q := fun x ⟨i, hi, e⟩ => e ▸ hA i hi
  refine va_calli (va_runV (As := As) (rest := rest) C hM (cwV As.length C.2.2.2.2 (AW_V w1 w2 w3 w4 w5) rfl rfl rfl ⟨rfl, hy⟩ hR) ⟨PB_blind, va_recv hK h2' (ci := ci) (q0 := q) hcl ((wv_at hq).trans (by rw [hce])), fun U hU hW => ⟨rfl, by rw [hU]; exact h2', va_K.moved hW.alike hK⟩⟩ rfl rfl h1.1 rfl (lv_room hrest) hd ⟨hf.1, hf.2⟩) h3 (fun q _ h => hFA q h) hFA (fun r u t H1 locs1 ht hvm hw hB hz1 hk1 hS => ?_)
  rw [ht] at hB
  exact kk r u hw ls H1 locs1 h1 (hpost H H1 u h2 hB hk1) hS
theorem g_callL (C : ZFix p m c cc nL s args own) (hK : va_K D vwCl tys s) {y : MethodName} {b : ByteArray} {nL2 fr lo nA : Nat} {As : List Value} {post : Int64 → St → Prop} {q ci N index : Nat} {T : u_T} {fs : List Value} (HQ : St → Heap → Prop) (hM : CL l y b nL2 fr lo D tys n ad cell σ (.ref (ad q) :: As) post) (hA : ∀ i, i < n → A (ad i)) (hpre : ∀ H, HP H → PV D n ad cell σ H) (hpost : ∀ H H1 u, HP H → PV D n ad cell u H1 → (∀ q : Nat, q < H.size → ¬ AdS n ad q → H1[q]? = H[q]?) → HQ u H1)
    (w1 : Cond.methodLink own index y ∈ AW) (w2 : Cond.instanceMethod y ∈ AW) (w3 : Cond.selects y.cls y y ∈ AW) (w4 : Cond.initialized y.cls ∈ AW) (w5 : Cond.code y b nL2 (some .long) ∈ AW) (hq : q < n) (hce : cell q σ = .inr (ci, fs)) (hcl : vwCl[ci]? = some (y.cls, T, N))
    (hy : y.cls ≠ "java/lang/invoke/MethodHandle" ∧ y.cls ≠ "java/lang/invoke/VarHandle" ∧ (parseMethodDescriptor y.desc).map (fun d => d.parameters.length) = some nA) (hn : As.length = nA) (hR : fr + 1 ≤ R.frames ∧ 8 + (nL2 + 11) + lo ≤ R.locals) (hst : st = As.reverse ++ .ref (ad q) :: rest) (hrest : (rest.map fun v => v.category).sum ≤ 8) (hf : cells ≤ R.cells ∧ slots ≤ R.slots) (hd : decode cc pc = .ok (.invokevirtual index, 3)) (hp : pc + 3 = pc')
    (kk : ∀ (r : Int64) (u : St), post r u → Zj p l e R s m args below meth c nL A cells slots Q (HQ u) pc' L (.long r :: rest)) : Zj p l e R s m args below meth c nL A cells slots Q HP pc L st := by
  intro ls H locs h1 h2 h3
  subst hst; subst hp; subst hn
  have h2' := hpre H h2
  have hFA : ∀ q, AdS n ad q → A q := fun x ⟨i, hi, e⟩ => e ▸ hA i hi
  refine va_calll (va_runV (As := As) (rest := rest) C hM (cwV As.length C.2.2.2.2 (AW_V w1 w2 w3 w4 w5) rfl rfl rfl ⟨rfl, hy⟩ hR) ⟨PB_blind, va_recv hK h2' (ci := ci) (q0 := q) hcl ((wv_at hq).trans (by rw [hce])), fun U hU hW => ⟨rfl, by rw [hU]; exact h2', va_K.moved hW.alike hK⟩⟩ rfl rfl h1.1 rfl (lv_room hrest) hd ⟨hf.1, hf.2⟩) h3 (fun q _ h => hFA q h) hFA (fun r u t H1 locs1 ht hvm hw hB hz1 hk1 hS => ?_)
  rw [ht] at hB
  exact kk r u hw ls H1 locs1 h1 (hpost H H1 u h2 hB hk1) hS
/-- the call that reads the static table: what it asks for stands below the law's own cells -/
theorem g_callX (C : ZFix p m c cc nL s args own) (hK : va_K D vwCl tys s) {y : MethodName} {b : ByteArray} {nL2 fr lo nA : Nat} {rt : FieldType} {As : List Value} {post : Int32 → St → Prop} {q ci N index tt : Nat} {T : u_T} {fs : List Value} (HQ : St → Heap → Prop) (hM : CIX l y b nL2 rt fr lo D tys n ad cell σ (XT tt n ad) (.ref (ad q) :: As) post) (hA : ∀ i, i < n → A (ad i)) (hAs : ∀ q, A q → s.heap.size ≤ q) (hZ : va_Z "WheelShop" "TRACE_OF_KIND" "[I" (.ref tt) A s s.heap) (hT : va_T .int tt 3 tkV A s s.heap) (hpre : ∀ H, HP H → PV D n ad cell σ H) (hpost : ∀ H H1 u, HP H → PV D n ad cell u H1 → (∀ q : Nat, q < H.size → ¬ AdS n ad q → H1[q]? = H[q]?) → HQ u H1)
    (w1 : Cond.methodLink own index y ∈ AW) (w2 : Cond.instanceMethod y ∈ AW) (w3 : Cond.selects y.cls y y ∈ AW) (w4 : Cond.initialized y.cls ∈ AW) (w5 : Cond.code y b nL2 (some rt) ∈ AW) (hq : q < n) (hce : cell q σ = .inr (ci, fs)) (hcl : vwCl[ci]? = some (y.cls, T, N))
    (hy : y.cls ≠ "java/lang/invoke/MethodHandle" ∧ y.cls ≠ "java/lang/invoke/VarHandle" ∧ (parseMethodDescriptor y.desc).map (fun d => d.parameters.length) = some nA) (hn : As.length = nA) (hR : fr + 1 ≤ R.frames ∧ 8 + (nL2 + 11) + lo ≤ R.locals) (hst : st = As.reverse ++ .ref (ad q) :: rest) (hrest : (rest.map fun v => v.category).sum ≤ 8) (hf : cells ≤ R.cells ∧ slots ≤ R.slots) (hd : decode cc pc = .ok (.invokevirtual index, 3)) (hp : pc + 3 = pc')
    (kk : ∀ (r : Int32) (u : St), post r u → Zj p l e R s m args below meth c nL A cells slots Q (HQ u) pc' L (.int r :: rest)) : Zj p l e R s m args below meth c nL A cells slots Q HP pc L st := by
  intro ls H locs h1 h2 h3
  subst hst; subst hp; subst hn
  have h2' := hpre H h2
  have hFA : ∀ q, AdS n ad q → A q := fun x ⟨i, hi, e⟩ => e ▸ hA i hi
  have hkp : ∀ a : Nat, a < s.heap.size → ¬ A a → H[a]? = s.heap[a]? := h3.2.1
  refine va_calli (va_runV (As := As) (rest := rest) C hM (cwV As.length C.2.2.2.2 (AW_V w1 w2 w3 w4 w5) rfl rfl rfl ⟨rfl, hy⟩ hR) ⟨fun a U g mk h => ⟨h.1, ⟨h.2.1.1, va_K.moved (u := U) (U := U.calling g mk a) (Vm.Alike.refl U.vm) h.2.1.2⟩, va_Z.moved (u := U) (U := U.calling g mk a) (Vm.Alike.refl U.vm) h.2.2.1, va_T.moved (u := U) (U := U.calling g mk a) (Vm.Alike.refl U.vm) h.2.2.2⟩, va_recv hK h2' (ci := ci) (q0 := q) hcl ((wv_at hq).trans (by rw [hce])), fun U hU hW => ⟨rfl, ⟨by rw [hU]; exact h2', va_K.moved hW.alike hK⟩, by rw [hU]; exact ((va_Z.moved hW.alike hZ).kept hkp).narrow hFA, by rw [hU]; exact ((va_T.moved hW.alike hT).kept hkp).narrow hFA⟩⟩ rfl rfl h1.1 rfl (lv_room hrest) hd ⟨hf.1, hf.2⟩) h3 (fun q _ h => hFA q h) hFA (fun r u t H1 locs1 ht hvm hw hB hz1 hk1 hS => ?_)
  rw [ht] at hB
  exact kk r u hw ls H1 locs1 h1 (hpost H H1 u h2 hB hk1) hS
/-- the script -/
theorem g_sld (C : ZFix p m c cc nL s args own) {b L0 j : Nat} {xs : Nat → Int32} {i : Int32} (hX : va_X b L0 xs s s.heap) (hbl : b < s.heap.size) (hbA : ¬ A b) (hi : i = nI j) (hj : j < L0) (hL : L0 < 2 ^ 31) (hd : decode cc pc = .ok (.iaload, 1)) (hp : pc + 1 = pc') (k : Zj p l e R s m args below meth c nL A cells slots Q HP pc' L (.int (xs j) :: st)) : Zj p l e R s m args below meth c nL A cells slots Q HP pc L (.int i :: .ref b :: st) := by
  intro ls H locs h1 h2 h3
  subst hi; subst hp
  refine va_sld C.1 C.2.1 hX hbl hbA h3 (vp_in_nI hj hL) hd ?_
  rw [nI_clamp (by omega)]
  exact k ls H locs h1 h2 h3
theorem g_slen (C : ZFix p m c cc nL s args own) {b L0 : Nat} {xs : Nat → Int32} (hX : va_X b L0 xs s s.heap) (hbl : b < s.heap.size) (hbA : ¬ A b) (hd : decode cc pc = .ok (.arraylength, 1)) (hp : pc + 1 = pc') (k : Zj p l e R s m args below meth c nL A cells slots Q HP pc' L (.int (nI L0) :: st)) : Zj p l e R s m args below meth c nL A cells slots Q HP pc L (.ref b :: st) :=
  fun ls H locs h1 h2 h3 => va_slen C.1 C.2.1 hX hbl hbA h3 hd (hp ▸ k ls H locs h1 h2 h3)
theorem g_loop {τ : Type} (μ : τ → Nat) (I : τ → Prop) (Hf : τ → Heap → Prop) (Lf : τ → List Value) (t0 : τ) (h0 : I t0) (hH : ∀ H, HP H → Hf t0 H) (hL : ∃ t, Lf t0 ++ t = L) (step : ∀ t, I t → (∀ t', I t' → μ t' < μ t → Zj p l e R s m args below meth c nL A cells slots Q (Hf t') pc (Lf t') st) → Zj p l e R s m args below meth c nL A cells slots Q (Hf t) pc (Lf t) st) : Zj p l e R s m args below meth c nL A cells slots Q HP pc L st := by
  have key : ∀ (k : Nat) (t : τ), μ t < k → I t → Zj p l e R s m args below meth c nL A cells slots Q (Hf t) pc (Lf t) st := by
    intro k
    induction k with
    | zero => intro t h; omega
    | succ k ih => exact fun t h hI => step t hI fun t' hI' hm => ih t' (by omega) hI'
  exact z_toS (z_weak (fun _ _ h => h) hH (key _ t0 (Nat.lt_succ_self _) h0)) hL
end LW
/-- both pictures -/
def HB (D : va_G) (cA cB : ClassId) (aC aR : Nat → Nat) (σ τ : St) (H : Heap) : Prop := PV D 67 aC (cellC cA cB aC) σ H ∧ PV D 17 aR (cellR cA aR) τ H
theorem HB_C {D : va_G} {cA cB : ClassId} {aC aR : Nat → Nat} {σ τ : St} (hd : ∀ i j, i < 67 → j < 17 → aC i ≠ aR j) : ∀ H H1 u, HB D cA cB aC aR σ τ H → PV D 67 aC (cellC cA cB aC) u H1 → (∀ q : Nat, q < H.size → ¬ AdS 67 aC q → H1[q]? = H[q]?) → HB D cA cB aC aR u τ H1 :=
  fun H H1 u h hu hk => ⟨hu, PV_kept h.2 fun j hj hl => hk _ hl fun ⟨i, hi, e⟩ => hd i j hi hj e.symm⟩
theorem HB_R {D : va_G} {cA cB : ClassId} {aC aR : Nat → Nat} {σ τ : St} (hd : ∀ i j, i < 67 → j < 17 → aC i ≠ aR j) : ∀ H H1 u, HB D cA cB aC aR σ τ H → PV D 17 aR (cellR cA aR) u H1 → (∀ q : Nat, q < H.size → ¬ AdS 17 aR q → H1[q]? = H[q]?) → HB D cA cB aC aR σ u H1 :=
  fun H H1 u h hu hk => ⟨PV_kept h.1 fun i hi hl => hk _ hl fun ⟨j, hj, e⟩ => hd i j hi hj e, hu⟩
