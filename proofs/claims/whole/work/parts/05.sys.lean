/-! WORLDS BY PLACES: n cells at ad 0 .. ad (n - 1), the content of each a function of the state -/
def wv (n : Nat) (ad : Nat → Nat) (cell : Nat → St → va_E) (σ : St) : va_W := (List.range n).map fun i => (ad i, cell i σ)
theorem wv_at {n : Nat} {ad : Nat → Nat} {cell : Nat → St → va_E} {σ : St} {q : Nat} (h : q < n) : (wv n ad cell σ)[q]? = some (ad q, cell q σ) := by simp [wv, h]
theorem wv_of {n : Nat} {ad : Nat → Nat} {cell : Nat → St → va_E} {σ : St} {k : Nat} {x : Nat × va_E} (h : (wv n ad cell σ)[k]? = some x) : k < n ∧ x = (ad k, cell k σ) := by
  have hk : k < n := by
    have := (List.getElem?_eq_some_iff.mp h).1
    simpa [wv] using this
  rw [wv_at hk] at h
  exact ⟨hk, (Option.some.inj h).symm⟩
theorem wv_set {n : Nat} {ad : Nat → Nat} {cell : Nat → St → va_E} {σ σ' : St} {q : Nat} {e : va_E} (h : q < n) (he : cell q σ' = e) (ho : ∀ i, i < n → i ≠ q → cell i σ' = cell i σ) : (wv n ad cell σ).set q (ad q, e) = wv n ad cell σ' := by
  apply List.ext_getElem?
  intro i
  by_cases hi : i < n
  · by_cases hiq : i = q
    · subst hiq
      rw [List.getElem?_set_self (by simpa [wv] using hi), wv_at hi, he]
    · rw [List.getElem?_set_ne (Ne.symm hiq), wv_at hi, wv_at hi, ho i hi hiq]
  · rw [List.getElem?_eq_none (by simp [wv]; omega), List.getElem?_eq_none (by simp [wv]; omega)]
def Inj (n : Nat) (ad : Nat → Nat) : Prop := ∀ i j : Nat, i < n → j < n → ad i = ad j → i = j
def AdS (n : Nat) (ad : Nat → Nat) : Nat → Prop := fun q => ∃ i, i < n ∧ q = ad i
theorem wv_D {n : Nat} {ad : Nat → Nat} {cell : Nat → St → va_E} {σ : St} {A : Nat → Prop} (h : Inj n ad) (hA : ∀ i, i < n → A (ad i)) : va_D A (wv n ad cell σ) := by
  refine ⟨fun i j x y hi hj hxy => ?_, fun k x hk => ?_⟩
  · obtain ⟨h1, rfl⟩ := wv_of hi
    obtain ⟨h2, rfl⟩ := wv_of hj
    exact h i j h1 h2 hxy
  · obtain ⟨h1, rfl⟩ := wv_of hk
    exact hA k h1
theorem AdS_in {n : Nat} {ad : Nat → Nat} : ∀ i, i < n → AdS n ad (ad i) := fun i h => ⟨i, h, rfl⟩
/-- the picture -/
def PV (D : va_G) (n : Nat) (ad : Nat → Nat) (cell : Nat → St → va_E) (σ : St) (H : Heap) : Prop := va_P D vwCl (wv n ad cell σ) H
theorem PV_kept {D : va_G} {n : Nat} {ad : Nat → Nat} {cell : Nat → St → va_E} {σ : St} {H H1 : Heap} (h : PV D n ad cell σ H) (hk : ∀ i, i < n → ad i < H.size → H1[ad i]? = H[ad i]?) : PV D n ad cell σ H1 := by
  refine va_P.kept h fun k q hq => ?_
  have hl := (h k q hq).lt
  obtain ⟨h1, rfl⟩ := wv_of hq
  exact hk k h1 hl
/-- what a method finds -/
def PB (D : va_G) (tys : List (ClassId × FieldType)) (n : Nat) (ad : Nat → Nat) (cell : Nat → St → va_E) (σ : St) (U : State) : Prop := PV D n ad cell σ U.heap ∧ va_K D vwCl tys U
theorem PB_blind {D : va_G} {tys : List (ClassId × FieldType)} {n : Nat} {ad : Nat → Nat} {cell : Nat → St → va_E} {σ : St} {As : List Value} : FrameBlind (va_Pc As (PB D tys n ad cell σ)) := fun a U g mk h => ⟨h.1, h.2.1, va_K.moved (u := U) (U := U.calling g mk a) (Vm.Alike.refl U.vm) h.2.2⟩
/-- contracts of methods of a system whose cells stay -/
def CI (l : Launch) (y : MethodName) (b : ByteArray) (nL : Nat) (rt : FieldType) (fr lo : Nat) (D : va_G) (tys : List (ClassId × FieldType)) (n : Nat) (ad : Nat → Nat) (cell : Nat → St → va_E) (σ : St) (As : List Value) (post : Int32 → St → Prop) : Prop :=
  Met l y (.code y b nL (some rt) :: AW) { frames := fr, cells := 0, slots := 0, locals := lo } (va_Pc As (PB D tys n ad cell σ)) (va_Qi post (fun u t => PV D n ad cell u t.heap) (AdS n ad)) 0 0 (AdS n ad)
def CL (l : Launch) (y : MethodName) (b : ByteArray) (nL : Nat) (fr lo : Nat) (D : va_G) (tys : List (ClassId × FieldType)) (n : Nat) (ad : Nat → Nat) (cell : Nat → St → va_E) (σ : St) (As : List Value) (post : Int64 → St → Prop) : Prop :=
  Met l y (.code y b nL (some .long) :: AW) { frames := fr, cells := 0, slots := 0, locals := lo } (va_Pc As (PB D tys n ad cell σ)) (va_Ql post (fun u t => PV D n ad cell u t.heap) (AdS n ad)) 0 0 (AdS n ad)
def CV (l : Launch) (y : MethodName) (b : ByteArray) (nL : Nat) (fr lo : Nat) (D : va_G) (tys : List (ClassId × FieldType)) (n : Nat) (ad : Nat → Nat) (cell : Nat → St → va_E) (σ : St) (As : List Value) (post : St → Prop) : Prop :=
  Met l y (.code y b nL none :: AW) { frames := fr, cells := 0, slots := 0, locals := lo } (va_Pc As (PB D tys n ad cell σ)) (va_Qv post (fun u t => PV D n ad cell u t.heap) (AdS n ad)) 0 0 (AdS n ad)
def CS (l : Launch) (y : MethodName) (b : ByteArray) (nL : Nat) (rt : FieldType) (fr lo : Nat) (As : List Value) (post : Int32 → Prop) : Prop :=
  Met l y (.code y b nL (some rt) :: AW) { frames := fr, cells := 0, slots := 0, locals := lo } (va_Pc As (fun _ => True)) (va_Qi (fun r (_ : Unit) => post r) (fun _ _ => True) (fun _ => False)) 0 0 (fun _ => False)
section ZC
variable {l : Launch} {y : MethodName} {b : ByteArray} {nL fr lo : Nat} {rt : FieldType} {D : va_G} {tys : List (ClassId × FieldType)} {n : Nat} {ad : Nat → Nat} {cell : Nat → St → va_E} {σ : St} {As : List Value}
theorem CI_of {post : Int32 → St → Prop} (hy : plainName y.cls = true) (hn : As.length ≤ nL) (hc : ∀ v ∈ As, v.category = 1)
    (body : ∀ (p : Program) (e : Env) (s : State) (m : MethodId) (below : List Frame) (meth : Method) (c : Code), ZFix p m c b nL s As.toArray y.cls → meth.sig.returnType = some rt ∧ meth.locks = false → va_K D vwCl tys s →
      Zj p l e { frames := fr, cells := 0, slots := 0, locals := lo } s m As.toArray below meth c nL (AdS n ad) 0 0 (MQ below (va_Qi post (fun u t => PV D n ad cell u t.heap) (AdS n ad)) As.toArray s 0 0 (AdS n ad)) (PV D n ad cell σ) 0 As []) : CI l y b nL rt fr lo D tys n ad cell σ As post := by
  refine Met.ofW (cc := b) (maxL := nL) (ret := some rt) hy rfl ?_
  intro p e s m args below meth c s₁ B hml hv
  obtain ⟨rfl, hP, hK⟩ := hv
  have hts := atoms_spec (ws := .code y b nL (some rt) :: AW) B.pre
  have k := body p e s m below meth c ⟨B.exec, B.bytes, hml, findClass_of_methodNamed B.named, fun w hw => hts w (List.mem_cons_of_mem _ hw)⟩ ⟨B.returns, B.notSynchronized⟩ hK
  rw [entry_eq m As hc nL]
  exact k _ _ [] (lvZ_entry As hn hc) hP va_S.rf
theorem CL_of {post : Int64 → St → Prop} (hy : plainName y.cls = true) (hn : As.length ≤ nL) (hc : ∀ v ∈ As, v.category = 1)
    (body : ∀ (p : Program) (e : Env) (s : State) (m : MethodId) (below : List Frame) (meth : Method) (c : Code), ZFix p m c b nL s As.toArray y.cls → meth.sig.returnType = some .long ∧ meth.locks = false → va_K D vwCl tys s →
      Zj p l e { frames := fr, cells := 0, slots := 0, locals := lo } s m As.toArray below meth c nL (AdS n ad) 0 0 (MQ below (va_Ql post (fun u t => PV D n ad cell u t.heap) (AdS n ad)) As.toArray s 0 0 (AdS n ad)) (PV D n ad cell σ) 0 As []) : CL l y b nL fr lo D tys n ad cell σ As post := by
  refine Met.ofW (cc := b) (maxL := nL) (ret := some .long) hy rfl ?_
  intro p e s m args below meth c s₁ B hml hv
  obtain ⟨rfl, hP, hK⟩ := hv
  have hts := atoms_spec (ws := .code y b nL (some .long) :: AW) B.pre
  have k := body p e s m below meth c ⟨B.exec, B.bytes, hml, findClass_of_methodNamed B.named, fun w hw => hts w (List.mem_cons_of_mem _ hw)⟩ ⟨B.returns, B.notSynchronized⟩ hK
  rw [entry_eq m As hc nL]
  exact k _ _ [] (lvZ_entry As hn hc) hP va_S.rf
theorem CV_of {post : St → Prop} (hy : plainName y.cls = true) (hn : As.length ≤ nL) (hc : ∀ v ∈ As, v.category = 1)
    (body : ∀ (p : Program) (e : Env) (s : State) (m : MethodId) (below : List Frame) (meth : Method) (c : Code), ZFix p m c b nL s As.toArray y.cls → meth.sig.returnType = none ∧ meth.locks = false → va_K D vwCl tys s →
      Zj p l e { frames := fr, cells := 0, slots := 0, locals := lo } s m As.toArray below meth c nL (AdS n ad) 0 0 (MQ below (va_Qv post (fun u t => PV D n ad cell u t.heap) (AdS n ad)) As.toArray s 0 0 (AdS n ad)) (PV D n ad cell σ) 0 As []) : CV l y b nL fr lo D tys n ad cell σ As post := by
  refine Met.ofW (cc := b) (maxL := nL) (ret := none) hy rfl ?_
  intro p e s m args below meth c s₁ B hml hv
  obtain ⟨rfl, hP, hK⟩ := hv
  have hts := atoms_spec (ws := .code y b nL none :: AW) B.pre
  have k := body p e s m below meth c ⟨B.exec, B.bytes, hml, findClass_of_methodNamed B.named, fun w hw => hts w (List.mem_cons_of_mem _ hw)⟩ ⟨B.returns, B.notSynchronized⟩ hK
  rw [entry_eq m As hc nL]
  exact k _ _ [] (lvZ_entry As hn hc) hP va_S.rf
theorem CS_of {post : Int32 → Prop} (hy : plainName y.cls = true) (hn : As.length ≤ nL) (hc : ∀ v ∈ As, v.category = 1)
    (body : ∀ (p : Program) (e : Env) (s : State) (m : MethodId) (below : List Frame) (meth : Method) (c : Code), ZFix p m c b nL s As.toArray y.cls → meth.sig.returnType = some rt ∧ meth.locks = false →
      Zj p l e { frames := fr, cells := 0, slots := 0, locals := lo } s m As.toArray below meth c nL (fun _ => False) 0 0 (MQ below (va_Qi (fun r (_ : Unit) => post r) (fun _ _ => True) (fun _ => False)) As.toArray s 0 0 (fun _ => False)) (fun _ => True) 0 As []) : CS l y b nL rt fr lo As post := by
  refine Met.ofW (cc := b) (maxL := nL) (ret := some rt) hy rfl ?_
  intro p e s m args below meth c s₁ B hml hv
  obtain ⟨rfl, -⟩ := hv
  have hts := atoms_spec (ws := .code y b nL (some rt) :: AW) B.pre
  have k := body p e s m below meth c ⟨B.exec, B.bytes, hml, findClass_of_methodNamed B.named, fun w hw => hts w (List.mem_cons_of_mem _ hw)⟩ ⟨B.returns, B.notSynchronized⟩
  rw [entry_eq m As hc nL]
  exact k _ _ [] (lvZ_entry As hn hc) trivial va_S.rf
end ZC
section ZW
variable {p : Program} {l : Launch} {e : Env} {R : Room} {s : State} {m : MethodId} {args : Array Value} {below : List Frame} {meth : Method} {c : Code} {nL : Nat} {A : Nat → Prop} {cells slots : Nat} {Q : State → Prop} {HP : Heap → Prop} {cc : ByteArray} {own : String} {pc pc' : Nat} {L L' st rest : List Value}
variable {D : va_G} {tys : List (ClassId × FieldType)} {n : Nat} {ad : Nat → Nat} {cell : Nat → St → va_E} {σ σ' : St}
theorem z_get (C : ZFix p m c cc nL s args own) (hK : va_K D vwCl tys s) {q ci k N index : Nat} {T : u_T} {Cn : String} {fs : List Value} {v : Value} (hq : q < n) (hce : cell q σ = .inr (ci, fs)) (hcl : vwCl[ci]? = some (Cn, T, N)) (hin : ∀ w ∈ u_ws Cn T N, w ∈ AW) (hk : k < N) (hlink : Cond.fieldLink own index (T k).1 (T k).2.1 (T k).2.2.1 ∈ AW) (hv : fs[k]? = some v) (hd : decode cc pc = .ok (.getfield index, 3)) (hp : pc + 3 = pc')
    (kk : Zj p l e R s m args below meth c nL A cells slots Q (PV D n ad cell σ) pc' L (v :: st)) : Zj p l e R s m args below meth c nL A cells slots Q (PV D n ad cell σ) pc L (.ref (ad q) :: st) :=
  fun ls H locs h1 h2 h3 => va_get C.1 C.2.1 C.2.2.2.2 hin C.2.2.2.1 hK h2 q ((wv_at hq).trans (by rw [hce])) hcl k hk (C.2.2.2.2 _ hlink) (fun _ h => h) hv hd (hp ▸ kk ls H locs h1 h2 h3)
theorem z_put (C : ZFix p m c cc nL s args own) (hK : va_K D vwCl tys s) (hI : Inj n ad) (hA : ∀ i, i < n → A (ad i)) {q ci k N index : Nat} {T : u_T} {ty0 : Nat → FieldType} {Cn : String} {fs : List Value} {v : Value} {ty : FieldType} (hq : q < n) (hce : cell q σ = .inr (ci, fs)) (hce' : cell q σ' = .inr (ci, fs.set k v)) (ho : ∀ i, i < n → i ≠ q → cell i σ' = cell i σ) (hcl : vwCl[ci]? = some (Cn, T, N)) (hin : ∀ w ∈ u_ws Cn T N, w ∈ AW) (hty : ∀ k, k < N → parseFieldDescriptor (T k).2.2.1 = some (ty0 k)) (hnm : ∀ a, a < N → ∀ b, b < N → a ≠ b → (T a).2.1 ≠ (T b).2.1) (hk : k < N) (hlink : Cond.fieldLink own index (T k).1 (T k).2.1 (T k).2.2.1 ∈ AW) (hfin : (T k).2.2.2 = false) (hpd : parseFieldDescriptor (T k).2.2.1 = some ty) (hnr : narrow ty v = v) (hfit : fits ty v = true) (hl : k < fs.length) (hd : decode cc pc = .ok (.putfield index, 3)) (hp : pc + 3 = pc')
    (kk : Zj p l e R s m args below meth c nL A cells slots Q (PV D n ad cell σ') pc' L st) : Zj p l e R s m args below meth c nL A cells slots Q (PV D n ad cell σ) pc L (v :: .ref (ad q) :: st) := by
  intro ls H locs h1 h2 h3
  refine va_put C.1 C.2.1 C.2.2.2.2 hin ty0 hty hnm C.2.2.2.1 hK h2 (wv_D hI hA) h3 q ((wv_at hq).trans (by rw [hce])) hcl k hk (C.2.2.2.2 _ hlink) (fun _ h => h) hfin hpd hnr hfit hl hd (fun H1 locs1 hP hD hS => ?_)
  rw [wv_set hq hce' ho] at hP
  exact hp ▸ kk ls H1 locs1 h1 hP hS
theorem z_iald (C : ZFix p m c cc nL s args own) (hK : va_K D vwCl tys s) {q t0 N j : Nat} {cA : ClassId} {f : Nat → Int32} {i : Int32} (hq : q < n) (hce : cell q σ = .inl (cA, N, .inl f)) (ht : tys[t0]? = some (cA, .int)) (hi : i = nI j) (hj : j < N) (hN : N < 2 ^ 31) {v : Int32} (hv : f j = v) (hd : decode cc pc = .ok (.iaload, 1)) (hp : pc + 1 = pc')
    (kk : Zj p l e R s m args below meth c nL A cells slots Q (PV D n ad cell σ) pc' L (.int v :: st)) : Zj p l e R s m args below meth c nL A cells slots Q (PV D n ad cell σ) pc L (.int i :: .ref (ad q) :: st) := by
  intro ls H locs h1 h2 h3
  subst hi; subst hp; subst hv
  refine va_iald C.1 C.2.1 hK h2 q t0 ((wv_at hq).trans (by rw [hce])) ht (vp_in_nI hj hN) hd ?_
  rw [nI_clamp (by omega)]
  exact kk ls H locs h1 h2 h3
theorem z_iast (C : ZFix p m c cc nL s args own) (hK : va_K D vwCl tys s) (hI : Inj n ad) (hA : ∀ i, i < n → A (ad i)) {q t0 N j : Nat} {cA : ClassId} {f : Nat → Int32} {i x : Int32} (hq : q < n) (hce : cell q σ = .inl (cA, N, .inl f)) (hce' : cell q σ' = .inl (cA, N, .inl (upd f j x))) (ho : ∀ i, i < n → i ≠ q → cell i σ' = cell i σ) (ht : tys[t0]? = some (cA, .int)) (hi : i = nI j) (hj : j < N) (hN : N < 2 ^ 31) (hd : decode cc pc = .ok (.iastore, 1)) (hp : pc + 1 = pc')
    (kk : Zj p l e R s m args below meth c nL A cells slots Q (PV D n ad cell σ') pc' L st) : Zj p l e R s m args below meth c nL A cells slots Q (PV D n ad cell σ) pc L (.int x :: .int i :: .ref (ad q) :: st) := by
  intro ls H locs h1 h2 h3
  subst hi; subst hp
  refine va_iast C.1 C.2.1 hK h2 (wv_D hI hA) h3 q t0 ((wv_at hq).trans (by rw [hce])) ht (vp_in_nI hj hN) hd (fun H1 locs1 hP hD hS => ?_)
  rw [nI_clamp (by omega), wv_set hq hce' ho] at hP
  exact kk ls H1 locs1 h1 hP hS
theorem z_alen (C : ZFix p m c cc nL s args own) (hK : va_K D vwCl tys s) {q t0 N : Nat} {cA : ClassId} {ty : FieldType} {f : (Nat → Int32) ⊕ (Nat → Int64) ⊕ (Nat → UInt32) ⊕ (Nat → UInt64) ⊕ (Nat → Option Nat)} (hq : q < n) (hce : cell q σ = .inl (cA, N, f)) (ht : tys[t0]? = some (cA, ty)) (hd : decode cc pc = .ok (.arraylength, 1)) (hp : pc + 1 = pc')
    (kk : Zj p l e R s m args below meth c nL A cells slots Q (PV D n ad cell σ) pc' L (.int (nI N) :: st)) : Zj p l e R s m args below meth c nL A cells slots Q (PV D n ad cell σ) pc L (.ref (ad q) :: st) :=
  fun ls H locs h1 h2 h3 => va_alen (x := (N, f)) C.1 C.2.1 hK h2 q t0 ((wv_at hq).trans (by rw [hce])) ht rfl hd (hp ▸ kk ls H locs h1 h2 h3)
/-- ends -/
theorem z_iret {post : Int32 → St → Prop} {x : Int32} (C : ZFix p m c cc nL s args own) (hM : meth.sig.returnType = some .int ∧ meth.locks = false) (hd : decode cc pc = .ok (.ireturn, 1)) (hq : post x σ) :
    Zj p l e R s m args below meth c nL (AdS n ad) 0 0 (MQ below (va_Qi post (fun u t => PV D n ad cell u t.heap) (AdS n ad)) args s 0 0 (AdS n ad)) (PV D n ad cell σ) pc L [.int x] :=
  fun ls H locs h1 h2 h3 => W.iret C.1 C.2.1 hM.1 (fun t ht _ => ⟨⟨x, σ, rfl, hq, by subst ht; exact h2⟩, h3.F ht⟩) h3.2.2 hd hM.2
theorem z_zret {post : Int32 → St → Prop} {x : Int32} (C : ZFix p m c cc nL s args own) (hM : meth.sig.returnType = some .boolean ∧ meth.locks = false) (hd : decode cc pc = .ok (.ireturn, 1)) (hx : x = 0 ∨ x = 1) (hq : post x σ) :
    Zj p l e R s m args below meth c nL (AdS n ad) 0 0 (MQ below (va_Qi post (fun u t => PV D n ad cell u t.heap) (AdS n ad)) args s 0 0 (AdS n ad)) (PV D n ad cell σ) pc L [.int x] :=
  fun ls H locs h1 h2 h3 => W.zret C.1 C.2.1 hM.1 (by rcases hx with rfl | rfl <;> rfl) (fun t ht _ => ⟨⟨x, σ, rfl, hq, by subst ht; exact h2⟩, h3.F ht⟩) h3.2.2 hd hM.2
theorem z_lret {post : Int64 → St → Prop} {x : Int64} (C : ZFix p m c cc nL s args own) (hM : meth.sig.returnType = some .long ∧ meth.locks = false) (hd : decode cc pc = .ok (.lreturn, 1)) (hq : post x σ) :
    Zj p l e R s m args below meth c nL (AdS n ad) 0 0 (MQ below (va_Ql post (fun u t => PV D n ad cell u t.heap) (AdS n ad)) args s 0 0 (AdS n ad)) (PV D n ad cell σ) pc L [.long x] :=
  fun ls H locs h1 h2 h3 => W.lret C.1 C.2.1 hM.1 (fun t ht _ => ⟨⟨x, σ, rfl, hq, by subst ht; exact h2⟩, h3.F ht⟩) h3.2.2 hd hM.2
theorem z_vret {post : St → Prop} (C : ZFix p m c cc nL s args own) (hM : meth.sig.returnType = none ∧ meth.locks = false) (hd : decode cc pc = .ok (.return_, 1)) (hq : post σ) :
    Zj p l e R s m args below meth c nL (AdS n ad) 0 0 (MQ below (va_Qv post (fun u t => PV D n ad cell u t.heap) (AdS n ad)) args s 0 0 (AdS n ad)) (PV D n ad cell σ) pc L [] :=
  fun ls H locs h1 h2 h3 => W.vret C.1 C.2.1 hM.1 (fun t ht _ => ⟨⟨σ, rfl, hq, by subst ht; exact h2⟩, h3.F ht⟩) h3.2.2 hd hM.2
theorem z_sret {post : Int32 → Prop} {x : Int32} (C : ZFix p m c cc nL s args own) (hM : meth.sig.returnType = some .boolean ∧ meth.locks = false) (hd : decode cc pc = .ok (.ireturn, 1)) (hx : x = 0 ∨ x = 1) (hq : post x) :
    Zj p l e R s m args below meth c nL (fun _ => False) 0 0 (MQ below (va_Qi (fun r (_ : Unit) => post r) (fun _ _ => True) (fun _ => False)) args s 0 0 (fun _ => False)) (fun _ => True) pc L [.int x] :=
  fun ls H locs h1 h2 h3 => W.zret C.1 C.2.1 hM.1 (by rcases hx with rfl | rfl <;> rfl) (fun t ht _ => ⟨⟨x, (), rfl, hq, trivial⟩, h3.F ht⟩) h3.2.2 hd hM.2
/-- calls -/
theorem AW_V {own : String} {index : Nat} {y : MethodName} {b : ByteArray} {nL2 : Nat} {ret : Option FieldType} (w1 : Cond.methodLink own index y ∈ AW) (w2 : Cond.instanceMethod y ∈ AW) (w3 : Cond.selects y.cls y y ∈ AW) (w4 : Cond.initialized y.cls ∈ AW) (w5 : Cond.code y b nL2 ret ∈ AW) : GoodIn AW (wsV own index y.cls y (.code y b nL2 ret :: AW)) := by
  intro w hw
  have h : w ∈ AW := by
    unfold wsV at hw
    rcases List.mem_append.mp hw with h | h
    · simp only [List.mem_cons, List.not_mem_nil, or_false] at h
      rcases h with rfl | rfl | rfl | rfl
      · exact w1
      · exact w2
      · exact w3
      · exact w4
    · rcases List.mem_cons.mp h with rfl | h
      · exact w5
      · exact h
  exact AW_good w h
theorem AW_S {own : String} {index : Nat} {y : MethodName} {b : ByteArray} {nL2 : Nat} {ret : Option FieldType} (w1 : Cond.methodLink own index y ∈ AW) (w2 : Cond.static y ∈ AW) (w4 : Cond.initialized own ∈ AW) (w5 : Cond.code y b nL2 ret ∈ AW) : GoodIn AW (wsS own index y (.code y b nL2 ret :: AW)) := by
  intro w hw
  have h : w ∈ AW := by
    unfold wsS at hw
    rcases List.mem_append.mp hw with h | h
    · simp only [List.mem_cons, List.not_mem_nil, or_false] at h
      rcases h with rfl | rfl | rfl
      · exact w1
      · exact w2
      · exact w4
    · rcases List.mem_cons.mp h with rfl | h
      · exact w5
      · exact h
  exact AW_good w h
theorem z_callI (C : ZFix p m c cc nL s args own) (hK : va_K D vwCl tys s) {y : MethodName} {b : ByteArray} {nL2 fr lo nA : Nat} {rt : FieldType} {As : List Value} {post : Int32 → St → Prop} {q ci N index : Nat} {T : u_T} {fs : List Value} (hM : CI l y b nL2 rt fr lo D tys n ad cell σ (.ref (ad q) :: As) post) (hA : ∀ i, i < n → A (ad i))
    (w1 : Cond.methodLink own index y ∈ AW) (w2 : Cond.instanceMethod y ∈ AW) (w3 : Cond.selects y.cls y y ∈ AW) (w4 : Cond.initialized y.cls ∈ AW) (w5 : Cond.code y b nL2 (some rt) ∈ AW) (hq : q < n) (hce : cell q σ = .inr (ci, fs)) (hcl : vwCl[ci]? = some (y.cls, T, N))
    (hy : y.cls ≠ "java/lang/invoke/MethodHandle" ∧ y.cls ≠ "java/lang/invoke/VarHandle" ∧ (parseMethodDescriptor y.desc).map (fun d => d.parameters.length) = some nA) (hn : As.length = nA) (hR : fr + 1 ≤ R.frames ∧ 8 + (nL2 + 11) + lo ≤ R.locals) (hst : st = As.reverse ++ .ref (ad q) :: rest) (hrest : (rest.map fun v => v.category).sum ≤ 8) (hf : cells ≤ R.cells ∧ slots ≤ R.slots) (hd : decode cc pc = .ok (.invokevirtual index, 3)) (hp : pc + 3 = pc')
    (kk : ∀ (r : Int32) (u : St), post r u → Zj p l e R s m args below meth c nL A cells slots Q (PV D n ad cell u) pc' L (.int r :: rest)) : Zj p l e R s m args below meth c nL A cells slots Q (PV D n ad cell σ) pc L st := by
  intro ls H locs h1 h2 h3
  subst hst; subst hp; subst hn
  have hFA : ∀ q, AdS n ad q → A q := fun x ⟨i, hi, e⟩ => e ▸ hA i hi
  refine va_calli (va_runV (As := As) (rest := rest) C hM (cwV As.length C.2.2.2.2 (AW_V w1 w2 w3 w4 w5) rfl rfl rfl ⟨rfl, hy⟩ hR) ⟨PB_blind, va_recv hK h2 (ci := ci) (q0 := q) hcl ((wv_at hq).trans (by rw [hce])), fun U hU hW => ⟨rfl, by rw [hU]; exact h2, va_K.moved hW.alike hK⟩⟩ rfl rfl h1.1 rfl (lv_room hrest) hd ⟨hf.1, hf.2⟩) h3 (fun q _ h => hFA q h) hFA (fun r u t H1 locs1 ht hvm hw hB hz1 hk1 hS => ?_)
  rw [ht] at hB
  exact kk r u hw ls H1 locs1 h1 hB hS
theorem z_callL (C : ZFix p m c cc nL s args own) (hK : va_K D vwCl tys s) {y : MethodName} {b : ByteArray} {nL2 fr lo nA : Nat} {As : List Value} {post : Int64 → St → Prop} {q ci N index : Nat} {T : u_T} {fs : List Value} (hM : CL l y b nL2 fr lo D tys n ad cell σ (.ref (ad q) :: As) post) (hA : ∀ i, i < n → A (ad i))
    (w1 : Cond.methodLink own index y ∈ AW) (w2 : Cond.instanceMethod y ∈ AW) (w3 : Cond.selects y.cls y y ∈ AW) (w4 : Cond.initialized y.cls ∈ AW) (w5 : Cond.code y b nL2 (some .long) ∈ AW) (hq : q < n) (hce : cell q σ = .inr (ci, fs)) (hcl : vwCl[ci]? = some (y.cls, T, N))
    (hy : y.cls ≠ "java/lang/invoke/MethodHandle" ∧ y.cls ≠ "java/lang/invoke/VarHandle" ∧ (parseMethodDescriptor y.desc).map (fun d => d.parameters.length) = some nA) (hn : As.length = nA) (hR : fr + 1 ≤ R.frames ∧ 8 + (nL2 + 11) + lo ≤ R.locals) (hst : st = As.reverse ++ .ref (ad q) :: rest) (hrest : (rest.map fun v => v.category).sum ≤ 8) (hf : cells ≤ R.cells ∧ slots ≤ R.slots) (hd : decode cc pc = .ok (.invokevirtual index, 3)) (hp : pc + 3 = pc')
    (kk : ∀ (r : Int64) (u : St), post r u → Zj p l e R s m args below meth c nL A cells slots Q (PV D n ad cell u) pc' L (.long r :: rest)) : Zj p l e R s m args below meth c nL A cells slots Q (PV D n ad cell σ) pc L st := by
  intro ls H locs h1 h2 h3
  subst hst; subst hp; subst hn
  have hFA : ∀ q, AdS n ad q → A q := fun x ⟨i, hi, e⟩ => e ▸ hA i hi
  refine va_calll (va_runV (As := As) (rest := rest) C hM (cwV As.length C.2.2.2.2 (AW_V w1 w2 w3 w4 w5) rfl rfl rfl ⟨rfl, hy⟩ hR) ⟨PB_blind, va_recv hK h2 (ci := ci) (q0 := q) hcl ((wv_at hq).trans (by rw [hce])), fun U hU hW => ⟨rfl, by rw [hU]; exact h2, va_K.moved hW.alike hK⟩⟩ rfl rfl h1.1 rfl (lv_room hrest) hd ⟨hf.1, hf.2⟩) h3 (fun q _ h => hFA q h) hFA (fun r u t H1 locs1 ht hvm hw hB hz1 hk1 hS => ?_)
  rw [ht] at hB
  exact kk r u hw ls H1 locs1 h1 hB hS
theorem z_callV (C : ZFix p m c cc nL s args own) (hK : va_K D vwCl tys s) {y : MethodName} {b : ByteArray} {nL2 fr lo nA : Nat} {As : List Value} {post : St → Prop} {q ci N index : Nat} {T : u_T} {fs : List Value} (hM : CV l y b nL2 fr lo D tys n ad cell σ (.ref (ad q) :: As) post) (hA : ∀ i, i < n → A (ad i))
    (w1 : Cond.methodLink own index y ∈ AW) (w2 : Cond.instanceMethod y ∈ AW) (w3 : Cond.selects y.cls y y ∈ AW) (w4 : Cond.initialized y.cls ∈ AW) (w5 : Cond.code y b nL2 none ∈ AW) (hq : q < n) (hce : cell q σ = .inr (ci, fs)) (hcl : vwCl[ci]? = some (y.cls, T, N))
    (hy : y.cls ≠ "java/lang/invoke/MethodHandle" ∧ y.cls ≠ "java/lang/invoke/VarHandle" ∧ (parseMethodDescriptor y.desc).map (fun d => d.parameters.length) = some nA) (hn : As.length = nA) (hR : fr + 1 ≤ R.frames ∧ 8 + (nL2 + 11) + lo ≤ R.locals) (hst : st = As.reverse ++ .ref (ad q) :: rest) (hrest : (rest.map fun v => v.category).sum ≤ 8) (hf : cells ≤ R.cells ∧ slots ≤ R.slots) (hd : decode cc pc = .ok (.invokevirtual index, 3)) (hp : pc + 3 = pc')
    (kk : ∀ (u : St), post u → Zj p l e R s m args below meth c nL A cells slots Q (PV D n ad cell u) pc' L rest) : Zj p l e R s m args below meth c nL A cells slots Q (PV D n ad cell σ) pc L st := by
  intro ls H locs h1 h2 h3
  subst hst; subst hp; subst hn
  have hFA : ∀ q, AdS n ad q → A q := fun x ⟨i, hi, e⟩ => e ▸ hA i hi
  refine va_callv (va_runV (As := As) (rest := rest) C hM (cwV As.length C.2.2.2.2 (AW_V w1 w2 w3 w4 w5) rfl rfl rfl ⟨rfl, hy⟩ hR) ⟨PB_blind, va_recv hK h2 (ci := ci) (q0 := q) hcl ((wv_at hq).trans (by rw [hce])), fun U hU hW => ⟨rfl, by rw [hU]; exact h2, va_K.moved hW.alike hK⟩⟩ rfl rfl h1.1 rfl (lv_room hrest) hd ⟨hf.1, hf.2⟩) h3 (fun q _ h => hFA q h) hFA (fun u t H1 locs1 ht hvm hw hB hz1 hk1 hS => ?_)
  rw [ht] at hB
  exact kk u hw ls H1 locs1 h1 hB hS
theorem z_callS (C : ZFix p m c cc nL s args own) {y : MethodName} {b : ByteArray} {nL2 fr lo nA : Nat} {rt : FieldType} {As : List Value} {post : Int32 → Prop} {index : Nat} (hM : CS l y b nL2 rt fr lo As post) (hstab : ∀ H H1 : Heap, HP H → H.size ≤ H1.size → (∀ q : Nat, q < H.size → H1[q]? = H[q]?) → HP H1)
    (w1 : Cond.methodLink own index y ∈ AW) (w2 : Cond.static y ∈ AW) (w4 : Cond.initialized own ∈ AW) (w5 : Cond.code y b nL2 (some rt) ∈ AW)
    (hy : y.cls = own ∧ y.cls ≠ "java/lang/invoke/MethodHandle" ∧ y.cls ≠ "java/lang/invoke/VarHandle" ∧ (parseMethodDescriptor y.desc).map (fun d => d.parameters.length) = some nA) (hn : As.length = nA) (hR : fr + 1 ≤ R.frames ∧ 8 + (nL2 + 11) + lo ≤ R.locals) (hst : st = As.reverse ++ rest) (hrest : (rest.map fun v => v.category).sum ≤ 8) (hf : cells ≤ R.cells ∧ slots ≤ R.slots) (hd : decode cc pc = .ok (.invokestatic index, 3)) (hp : pc + 3 = pc')
    (kk : ∀ (r : Int32), post r → Zj p l e R s m args below meth c nL A cells slots Q HP pc' L (.int r :: rest)) : Zj p l e R s m args below meth c nL A cells slots Q HP pc L st := by
  intro ls H locs h1 h2 h3
  subst hst; subst hp; subst hn
  refine va_calli (va_runS (As := As) (rest := rest) C hM (cwS As.length C.2.2.2.2 (AW_S w1 w2 w4 w5) rfl rfl rfl hy hR) ⟨fun _ _ _ _ h => h, fun U hU hW => ⟨rfl, trivial⟩⟩ rfl rfl h1.1 rfl (lv_room hrest) hd ⟨hf.1, hf.2⟩) h3 (fun q _ h => h.elim) (fun q h => h.elim) (fun r u t H1 locs1 ht hvm hw hB hz1 hk1 hS => ?_)
  exact kk r hw ls H1 locs1 h1 (hstab H H1 h2 hz1 (fun q hq => hk1 q hq id)) hS
theorem stabP {D : va_G} {n : Nat} {ad : Nat → Nat} {cell : Nat → St → va_E} {σ : St} : ∀ H H1 : Heap, PV D n ad cell σ H → H.size ≤ H1.size → (∀ q : Nat, q < H.size → H1[q]? = H[q]?) → PV D n ad cell σ H1 := fun _ _ h _ hk => PV_kept h fun _ _ hl => hk _ hl
theorem stabT : ∀ H H1 : Heap, (fun _ : Heap => True) H → H.size ≤ H1.size → (∀ q : Nat, q < H.size → H1[q]? = H[q]?) → (fun _ : Heap => True) H1 := fun _ _ _ _ _ => trivial
end ZW
section ZX
variable {p : Program} {l : Launch} {e : Env} {R : Room} {s : State} {m : MethodId} {args : Array Value} {below : List Frame} {meth : Method} {c : Code} {nL : Nat} {A : Nat → Prop} {cells slots : Nat} {Q : State → Prop} {HP : Heap → Prop} {cc : ByteArray} {own : String} {pc pc' : Nat} {L L' st rest : List Value}
variable {D : va_G} {tys : List (ClassId × FieldType)} {n : Nat} {ad : Nat → Nat} {cell : Nat → St → va_E} {σ σ' : St}
theorem z_aald (C : ZFix p m c cc nL s args own) (hK : va_K D vwCl tys s) {q t0 N j a : Nat} {cA : ClassId} {Cn : String} {f : Nat → Option Nat} {i : Int32} (hq : q < n) (hce : cell q σ = .inl (cA, N, .inr (.inr (.inr (.inr f))))) (ht : tys[t0]? = some (cA, .object Cn)) (hi : i = nI j) (hj : j < N) (hN : N < 2 ^ 31) (hv : f j = some a) (hd : decode cc pc = .ok (.aaload, 1)) (hp : pc + 1 = pc')
    (kk : Zj p l e R s m args below meth c nL A cells slots Q (PV D n ad cell σ) pc' L (.ref a :: st)) : Zj p l e R s m args below meth c nL A cells slots Q (PV D n ad cell σ) pc L (.int i :: .ref (ad q) :: st) := by
  intro ls H locs h1 h2 h3
  subst hi; subst hp
  refine va_aldq C.1 C.2.1 hK h2 q t0 ((wv_at hq).trans (by rw [hce])) ht (vp_in_nI hj hN) hd ?_
  rw [nI_clamp (by omega), hv]
  exact kk ls H locs h1 h2 h3
/-- another name for the state -/
theorem z_st (h : σ = σ') (k : Zj p l e R s m args below meth c nL A cells slots Q (PV D n ad cell σ') pc L st) : Zj p l e R s m args below meth c nL A cells slots Q (PV D n ad cell σ) pc L st := h ▸ k
/-- go on where something is known -/
theorem z_to (h : Zj p l e R s m args below meth c nL A cells slots Q (PV D n ad cell σ') pc L' st) (hσ : σ = σ') (hL : ∃ t, L' ++ t = L) : Zj p l e R s m args below meth c nL A cells slots Q (PV D n ad cell σ) pc L st := by
  subst hσ
  obtain ⟨t, rfl⟩ := hL
  refine z_weak (fun i v hv => ?_) (fun _ h => h) h
  rw [List.getElem?_append_left (List.getElem?_eq_some_iff.mp hv).1]
  exact hv
theorem z_toS (h : Zj p l e R s m args below meth c nL A cells slots Q HP pc L' st) (hL : ∃ t, L' ++ t = L) : Zj p l e R s m args below meth c nL A cells slots Q HP pc L st := by
  obtain ⟨t, rfl⟩ := hL
  refine z_weak (fun i v hv => ?_) (fun _ h => h) h
  rw [List.getElem?_append_left (List.getElem?_eq_some_iff.mp hv).1]
  exact hv
theorem z_back (k : Nat) (h : Zj p l e R s m args below meth c nL A cells slots Q (PV D n ad cell σ') pc L' st) (hσ : σ = σ') (hL : L.take k = L') : Zj p l e R s m args below meth c nL A cells slots Q (PV D n ad cell σ) pc L st := by
  subst hσ; subst hL
  refine z_weak (fun i v hv => ?_) (fun _ h => h) h
  rw [List.getElem?_take] at hv
  split at hv
  · exact hv
  · cases hv
/-- a value comes to a place from several sides -/
theorem z_tern {P : Int32 → Prop} {J : Nat} (d : Nat) (hk : ∀ v, P v → Zj p l e R s m args below meth c nL A cells slots Q HP J L (.int v :: st.drop d)) (hb : (∀ v, P v → Zj p l e R s m args below meth c nL A cells slots Q HP J L (.int v :: st.drop d)) → Zj p l e R s m args below meth c nL A cells slots Q HP pc L st) : Zj p l e R s m args below meth c nL A cells slots Q HP pc L st := hb hk
theorem z_ternL {P : Int64 → Prop} {J : Nat} (d : Nat) (hk : ∀ v, P v → Zj p l e R s m args below meth c nL A cells slots Q HP J L (.long v :: st.drop d)) (hb : (∀ v, P v → Zj p l e R s m args below meth c nL A cells slots Q HP J L (.long v :: st.drop d)) → Zj p l e R s m args below meth c nL A cells slots Q HP pc L st) : Zj p l e R s m args below meth c nL A cells slots Q HP pc L st := hb hk
theorem z_ternE {J : Nat} (E : Int32) (d : Nat) (hk : Zj p l e R s m args below meth c nL A cells slots Q HP J L (.int E :: st.drop d)) (hb : (∀ v, v = E → Zj p l e R s m args below meth c nL A cells slots Q HP J L (.int v :: st.drop d)) → Zj p l e R s m args below meth c nL A cells slots Q HP pc L st) : Zj p l e R s m args below meth c nL A cells slots Q HP pc L st := hb fun _ hv => hv ▸ hk
theorem z_ternEL {J : Nat} (E : Int64) (d : Nat) (hk : Zj p l e R s m args below meth c nL A cells slots Q HP J L (.long E :: st.drop d)) (hb : (∀ v, v = E → Zj p l e R s m args below meth c nL A cells slots Q HP J L (.long v :: st.drop d)) → Zj p l e R s m args below meth c nL A cells slots Q HP pc L st) : Zj p l e R s m args below meth c nL A cells slots Q HP pc L st := hb fun _ hv => hv ▸ hk
/-- ways come together in a state -/
theorem z_meet {J : Nat} (L1 : List Value) (d : Nat) {P : St → Prop} (hk : ∀ u, P u → Zj p l e R s m args below meth c nL A cells slots Q (PV D n ad cell u) J L1 (st.drop d)) (hb : (∀ u, P u → Zj p l e R s m args below meth c nL A cells slots Q (PV D n ad cell u) J L1 (st.drop d)) → Zj p l e R s m args below meth c nL A cells slots Q (PV D n ad cell σ) pc L st) : Zj p l e R s m args below meth c nL A cells slots Q (PV D n ad cell σ) pc L st := hb hk
/-- a loop -/
theorem z_loop {τ : Type} (μ : τ → Nat) (I : τ → Prop) (σf : τ → St) (Lf : τ → List Value) (t0 : τ) (h0 : I t0) (hσ : σ = σf t0) (hL : ∃ t, Lf t0 ++ t = L) (step : ∀ t, I t → (∀ t', I t' → μ t' < μ t → Zj p l e R s m args below meth c nL A cells slots Q (PV D n ad cell (σf t')) pc (Lf t') st) → Zj p l e R s m args below meth c nL A cells slots Q (PV D n ad cell (σf t)) pc (Lf t) st) : Zj p l e R s m args below meth c nL A cells slots Q (PV D n ad cell σ) pc L st := by
  have key : ∀ (k : Nat) (t : τ), μ t < k → I t → Zj p l e R s m args below meth c nL A cells slots Q (PV D n ad cell (σf t)) pc (Lf t) st := by
    intro k
    induction k with
    | zero => intro t h; omega
    | succ k ih => exact fun t h hI => step t hI fun t' hI' hm => ih t' (by omega) hI'
  exact z_to (key _ t0 (Nat.lt_succ_self _) h0) hσ hL
theorem lt_of_nle {N k : Nat} (h : ¬ nI N ≤ nI k) (hk : k < 2 ^ 31) (hN : N < 2 ^ 31) : k < N := by
  rcases Nat.lt_or_ge k N with q | q
  · exact q
  · exact absurd (nI_le q hk) h
theorem ge_of_le {N k : Nat} (h : nI N ≤ nI k) (hk : k < 2 ^ 31) (hN : N < 2 ^ 31) : N ≤ k := (nI_leI hN hk).mp h
theorem i32_le {x y : Int32} : x ≤ y ↔ x.toInt ≤ y.toInt := Int32.le_iff_toInt_le
theorem i32_lt {x y : Int32} : x < y ↔ x.toInt < y.toInt := Int32.lt_iff_toInt_lt
theorem nI_ofR {x : Int32} {n : Nat} (h0 : 0 ≤ x) (h1 : x ≤ nI n) (hn : n < 2 ^ 31) : ∃ j : Nat, j ≤ n ∧ x = nI j := nI_of2 (M := nI n) (nI_toInt hn) (fun h => by rw [i32_lt] at h; rw [i32_le] at h0; omega) h1
end ZX
