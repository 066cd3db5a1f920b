/-! BLOCKS: the cells that a constructor makes, one behind another from N0 to the heap's end -/
def PK (D : va_G) (N0 : Nat) (cs : List va_E) (H : Heap) : Prop := H.size = N0 + cs.length ∧ ∀ (i : Nat) (x : va_E), cs[i]? = some x → va_at D vwCl (N0 + i, x) H
theorem PK_set {D : va_G} {N0 i : Nat} {cs : List va_E} {x y : va_E} {H H1 : Heap} (h : PK D N0 cs H) (hi : cs[i]? = some x) (hy : va_at D vwCl (N0 + i, y) H1) (hz : H1.size = H.size) (ho : ∀ q : Nat, q ≠ N0 + i → H1[q]? = H[q]?) : PK D N0 (cs.set i y) H1 := by
  have hl := (List.getElem?_eq_some_iff.mp hi).1
  refine ⟨by rw [hz, h.1, List.length_set], fun j z hj => ?_⟩
  by_cases hji : j = i
  · subst hji
    rw [List.getElem?_set_self hl] at hj
    cases hj
    exact hy
  · rw [List.getElem?_set_ne (Ne.symm hji)] at hj
    exact (h.2 j z hj).kept (ho _ (fun z => hji (by omega)))
theorem PK_push {D : va_G} {N0 : Nat} {cs : List va_E} {x : va_E} {H H1 : Heap} (h : PK D N0 cs H) (hz : H1.size = H.size + 1) (ho : ∀ q : Nat, q < H.size → H1[q]? = H[q]?) (hx : va_at D vwCl (N0 + cs.length, x) H1) : PK D N0 (cs ++ [x]) H1 := by
  refine ⟨by rw [hz, h.1, List.length_append]; rfl, fun j z hj => ?_⟩
  by_cases hl : j < cs.length
  · rw [List.getElem?_append_left hl] at hj
    exact (h.2 j z hj).kept (ho _ ((h.2 j z hj).lt))
  · rw [List.getElem?_append_right (by omega)] at hj
    have hz : j - cs.length < 1 := (List.getElem?_eq_some_iff.mp hj).1
    have e : j = cs.length := by omega
    subst e
    rw [Nat.sub_self] at hj
    cases hj
    exact hx
theorem PK_app {D : va_G} {N0 : Nat} {cs p0 p1 : List va_E} {H H1 : Heap} (h : PK D N0 (cs ++ p0) H) (h1 : PK D (N0 + cs.length) p1 H1) (ho : ∀ q : Nat, q < H.size → q < N0 + cs.length → H1[q]? = H[q]?) : PK D N0 (cs ++ p1) H1 := by
  refine ⟨by rw [h1.1, List.length_append]; omega, fun j z hj => ?_⟩
  by_cases hl : j < cs.length
  · rw [List.getElem?_append_left hl] at hj
    have h2 := h.2 j z (by rw [List.getElem?_append_left hl]; exact hj)
    exact h2.kept (ho _ h2.lt (by show N0 + j < _; omega))
  · rw [List.getElem?_append_right (by omega)] at hj
    have := h1.2 _ z hj
    rw [show N0 + cs.length + (j - cs.length) = N0 + j by omega] at this
    exact this
def CK (l : Launch) (y : MethodName) (b : ByteArray) (nL fr lo mc ms : Nat) (D : va_G) (tys : List (ClassId × FieldType)) (h0 : Nat) (X : State → Prop) (pre post : List va_E) : Prop :=
  Met l y (.code y b nL none :: AW) { frames := fr, cells := mc, slots := ms, locals := lo } (va_Pc [.ref h0] (fun U => PK D h0 pre U.heap ∧ va_K D vwCl tys U ∧ X U)) (va_Qv (fun _ : Unit => True) (fun _ t => PK D h0 post t.heap) (fun q => h0 ≤ q)) mc ms (fun q => h0 ≤ q)
section KB
variable {p : Program} {l : Launch} {e : Env} {R : Room} {s : State} {m : MethodId} {args : Array Value} {below : List Frame} {meth : Method} {c : Code} {nL : Nat} {A : Nat → Prop} {cells slots : Nat} {Q : State → Prop} {HP : Heap → Prop} {cc : ByteArray} {own : String} {pc pc' : Nat} {L L' st rest : List Value}
variable {D : va_G} {tys : List (ClassId × FieldType)} {N0 : Nat} {cs : List va_E}
theorem CK_of {y : MethodName} {b : ByteArray} {nL fr lo mc ms h0 : Nat} {X : State → Prop} {pre post : List va_E} (hy : plainName y.cls = true) (hn : 1 ≤ nL) (hp1 : pre.length = 1)
    (body : ∀ (p : Program) (e : Env) (s : State) (m : MethodId) (below : List Frame) (meth : Method) (c : Code), ZFix p m c b nL s #[.ref h0] y.cls → meth.sig.returnType = none ∧ meth.locks = false → va_K D vwCl tys s → X s → meth.name = y.name → (∀ q, s.heap.size ≤ q → h0 ≤ q) →
      Zj p l e { frames := fr, cells := mc, slots := ms, locals := lo } s m #[.ref h0] below meth c nL (fun q => h0 ≤ q) 0 0 (MQ below (va_Qv (fun _ : Unit => True) (fun _ t => PK D h0 post t.heap) (fun q => h0 ≤ q)) #[.ref h0] s mc ms (fun q => h0 ≤ q)) (PK D h0 pre) 0 [.ref h0] []) : CK l y b nL fr lo mc ms D tys h0 X pre post := by
  refine Met.ofW (cc := b) (maxL := nL) (ret := none) hy rfl ?_
  intro p e s m args below meth c s₁ B hml hv
  obtain ⟨rfl, hP, hK, hX⟩ := hv
  have hts := atoms_spec (ws := .code y b nL none :: AW) B.pre
  have k := body p e s m below meth c ⟨B.exec, B.bytes, hml, findClass_of_methodNamed B.named, fun w hw => hts w (List.mem_cons_of_mem _ hw)⟩ ⟨B.returns, B.notSynchronized⟩ hK hX (name_of_methodNamed B.named B.method).1 (fun q hq => by have := hP.1; omega)
  rw [entry_eq m [.ref h0] (by simp [Value.category]) nL]
  exact k _ _ [] (lvZ_entry [.ref h0] hn (by simp [Value.category])) hP va_S.rf
theorem k_vret {post : List va_E} {h0 : Nat} (C : ZFix p m c cc nL s args own) (hM : meth.sig.returnType = none ∧ meth.locks = false) (hd : decode cc pc = .ok (.return_, 1)) (hcs : cs = post) :
    Zj p l e R s m args below meth c nL (fun q => h0 ≤ q) cells slots (MQ below (va_Qv (fun _ : Unit => True) (fun _ t => PK D h0 post t.heap) (fun q => h0 ≤ q)) args s cells slots (fun q => h0 ≤ q)) (PK D h0 cs) pc L [] :=
  fun ls H locs h1 h2 h3 => W.vret C.1 C.2.1 hM.1 (fun t ht _ => ⟨⟨(), rfl, trivial, by subst ht; subst hcs; exact h2⟩, h3.F ht⟩) h3.2.2 hd hM.2
theorem k_objInit (C : ZFix p m c cc nL s args own) {a idx : Nat} (w1 : Cond.methodLink own idx objectInit ∈ AW) (w2 : Cond.instanceMethod objectInit ∈ AW) (w3 : Cond.code objectInit ⟨#[0xb1]⟩ 1 none ∈ AW) (hd : decode cc pc = .ok (.invokespecial idx, 3)) (hp : pc + 3 = pc') (hfr : 1 ≤ R.frames) (hlo : (st.map fun v => v.category).sum + 12 ≤ R.locals)
    (k : Zj p l e R s m args below meth c nL A cells slots Q HP pc' L st) : Zj p l e R s m args below meth c nL A cells slots Q HP pc L (.ref a :: st) :=
  fun ls H locs h1 h2 h3 => W.objInit C.1 C.2.1 C.2.2.2.1 (C.2.2.2.2 _ w1) (C.2.2.2.2 _ w2) (C.2.2.2.2 _ w3) rfl (h1.1.trans C.2.2.1.symm) rfl hd hfr (by show 2 * 0 + _ + 12 ≤ _; omega) (W.eq (g2 := F0 m pc' ls st) (by subst hp; rfl) (k ls H locs h1 h2 h3))
theorem k_newa (C : ZFix p m c cc nL s args own) (hK : va_K D vwCl tys s) (hA : ∀ q, s.heap.size ≤ q → A q) {cA : ClassId} (ht : tys[0]? = some (cA, .int)) {N q : Nat} {n : Int32} (w : Cond.arrayClass .int ∈ AW) (hn : n = nI N) (hN : N ≤ 1000) (hc : cells + 1 ≤ R.cells) (hs : slots + N ≤ R.slots) (hq : N0 + cs.length = q) (hd : decode cc pc = .ok (.newarray .int, 2)) (hp : pc + 2 = pc')
    (k : Zj p l e R s m args below meth c nL A (cells + 1) (slots + N) Q (PK D N0 (cs ++ [.inl (cA, N, .inl fun _ => 0)])) pc' L (.ref q :: st)) : Zj p l e R s m args below meth c nL A cells slots Q (PK D N0 cs) pc L (.int n :: st) := by
  intro ls H locs h1 h2 h3
  subst hn; subst hq; subst hp
  refine va_newaK (atype := .int) C.1 C.2.1 (C.2.2.2.2 _ w) rfl hd rfl (nI_pos (by omega)) (nI_clamp (by omega)) (by show N * 4 ≤ _; omega) hc hs (h := N0 + cs.length) h2.1 (fun H1 cA' e1 z1 o1 hAr hNm => ?_)
  have hcA : cA' = cA := Option.some.inj (hNm.symm.trans (hK.2 0 _ ht).2)
  subst hcA
  refine k ls H1 locs h1 (PK_push h2 (by rw [z1, h2.1]) (fun q hq => o1 q (by rw [← h2.1]; exact hq)) e1) ⟨by have := h3.1; have := h2.1; omega, fun x a b => (o1 x (by have := h3.1; have := h2.1; omega)).trans (h3.2.1 x a b), h3.2.2⟩
theorem k_new (C : ZFix p m c cc nL s args own) (hK : va_K D vwCl tys s) {Cn : String} {T : u_T} {N ci index q : Nat} {fs : List Value} (ty : Nat → FieldType) (hty : ∀ k, k < N → parseFieldDescriptor (T k).2.2.1 = some (ty k)) (hin : ∀ w ∈ u_ws Cn T N, w ∈ AW) (w1 : Cond.classLink own index Cn ∈ AW) (w2 : Cond.instantiable Cn N ∈ AW) (w3 : Cond.initialized Cn ∈ AW) (hcl : vwCl[ci]? = some (Cn, T, N)) (hfs : ∀ j, j < N → defaultValue (ty j) = vp_V fs j) (hc : cells + 1 ≤ R.cells) (hs : slots + N ≤ R.slots) (hq : N0 + cs.length = q) (hd : decode cc pc = .ok (.new index, 3)) (hp : pc + 3 = pc')
    (k : Zj p l e R s m args below meth c nL A (cells + 1) (slots + N) Q (PK D N0 (cs ++ [.inr (ci, fs)])) pc' L (.ref q :: st)) : Zj p l e R s m args below meth c nL A cells slots Q (PK D N0 cs) pc L st := by
  intro ls H locs h1 h2 h3
  subst hq; subst hp
  have hKn := hK.1 ci _ hcl
  refine W.newcK C.1 C.2.1 C.2.2.2.1 (C.2.2.2.2 _ w1) (C.2.2.2.2 _ w2) (C.2.2.2.2 _ w3) rfl hd hc hs hKn.2.1 (h := N0 + cs.length) h2.1 (fun H1 kC hkC e1 z1 o1 => ?_)
  refine k ls H1 locs h1 (PK_push h2 (by rw [z1, h2.1]) (fun q hq => o1 q (by rw [← h2.1]; exact hq)) ⟨_, hcl, (u_born ty C.2.2.2.2 hin hKn hkC e1 hty).to hfs⟩) ⟨by have := h3.1; have := h2.1; omega, fun x a b => (o1 x (by have := h3.1; have := h2.1; omega)).trans (h3.2.1 x a b), h3.2.2⟩
theorem k_get (C : ZFix p m c cc nL s args own) (hK : va_K D vwCl tys s) {a i ci k N index : Nat} {T : u_T} {Cn : String} {fs : List Value} {v : Value} (ha : N0 + i = a) (hi : cs[i]? = some (.inr (ci, fs))) (hcl : vwCl[ci]? = some (Cn, T, N)) (hin : ∀ w ∈ u_ws Cn T N, w ∈ AW) (hk : k < N) (hlink : Cond.fieldLink own index (T k).1 (T k).2.1 (T k).2.2.1 ∈ AW) (hv : fs[k]? = some v) (hd : decode cc pc = .ok (.getfield index, 3)) (hp : pc + 3 = pc')
    (kk : Zj p l e R s m args below meth c nL A cells slots Q (PK D N0 cs) pc' L (v :: st)) : Zj p l e R s m args below meth c nL A cells slots Q (PK D N0 cs) pc L (.ref a :: st) := by
  intro ls H locs h1 h2 h3
  subst ha
  refine va_get (ws := [(N0 + i, .inr (ci, fs))]) C.1 C.2.1 C.2.2.2.2 hin C.2.2.2.1 hK (fun j x hj => ?_) 0 rfl hcl k hk (C.2.2.2.2 _ hlink) (fun _ h => h) hv hd (hp ▸ kk ls H locs h1 h2 h3)
  have hz : j < 1 := (List.getElem?_eq_some_iff.mp hj).1
  rw [show j = 0 by omega] at hj
  cases hj
  exact h2.2 i _ hi
theorem k_put (C : ZFix p m c cc nL s args own) (hK : va_K D vwCl tys s) (hA : ∀ q, N0 ≤ q → A q) {a i ci k N index : Nat} {T : u_T} {ty0 : Nat → FieldType} {Cn : String} {fs : List Value} {v : Value} {ty : FieldType} (ha : N0 + i = a) (hi : cs[i]? = some (.inr (ci, fs))) (hcl : vwCl[ci]? = some (Cn, T, N)) (hin : ∀ w ∈ u_ws Cn T N, w ∈ AW) (hty : ∀ k, k < N → parseFieldDescriptor (T k).2.2.1 = some (ty0 k)) (hnm : ∀ a, a < N → ∀ b, b < N → a ≠ b → (T a).2.1 ≠ (T b).2.1) (hk : k < N) (hlink : Cond.fieldLink own index (T k).1 (T k).2.1 (T k).2.2.1 ∈ AW) (hfin : (T k).2.2.2 = false ∨ ((T k).2.2.2 = true ∧ meth.name = "<init>" ∧ (T k).1 = own)) (hpd : parseFieldDescriptor (T k).2.2.1 = some ty) (hnr : narrow ty v = v) (hfit : fits ty v = true) (hl : k < fs.length) (hd : decode cc pc = .ok (.putfield index, 3)) (hp : pc + 3 = pc')
    (kk : Zj p l e R s m args below meth c nL A cells slots Q (PK D N0 (cs.set i (.inr (ci, fs.set k v)))) pc' L st) : Zj p l e R s m args below meth c nL A cells slots Q (PK D N0 cs) pc L (v :: .ref a :: st) := by
  intro ls H locs h1 h2 h3
  subst ha; subst hp
  have hap := va_apart (own := own) C.2.2.2.2 hin ty0 hty hnm hK hcl
  obtain ⟨r, hr1, cell, q1, q2, q3, q4⟩ := h2.2 i _ hi
  obtain rfl : r = (Cn, T, N) := Option.some.inj (hr1.symm.trans hcl)
  obtain ⟨hS, hfc, kC, hkC, hkind⟩ := hK.1 ci _ hcl
  obtain ⟨cf, kf, fi, f, hff, hsl⟩ := hS k hk
  have hlay := C.2.2.2.2 _ (hin _ (u_in_lay hk))
  have hst := (u_facts hfc hkC (u_lays C.2.2.2.2 hin hk) hff).1
  have fin : ∀ H' : Heap, H'[N0 + i]? = some (cell.setSlot f.slot v) → H'.size = H.size → (∀ q, q ≠ N0 + i → H'[q]? = H[q]?) → W p l e R s m args below meth c H' (locs ++ [⟨N0 + i, f.slot⟩]) cells slots Q (F0 m (pc + 3) ls st) := by
    intro H' e1 e2 e3
    rw [hsl] at e1 ⊢
    exact kk ls H' _ h1 (PK_set h2 hi ⟨_, hcl, t_OB.to (V := updV (vp_V fs) k v) ⟨_, e1, q2, q3, t_set q4 hap hk v⟩ (fun j _ => vp_updV_set hl v j)⟩ e2 e3) (h3.put e2 e3 (hA _ (Nat.le_add_right _ _)))
  unfold u_lay at hlay
  rcases hfin with hf | ⟨hf, hin2, hdecl⟩
  · rw [if_neg (by rw [hf]; decide)] at hlay
    exact W.putK C.1 C.2.1 (f := f) ⟨C.2.2.2.1, C.2.2.2.2 _ hlink, ⟨_, _, _, hff⟩, hst⟩ (by rw [q2]; exact u_store hfc hkC hkind hlay hff hpd hnr hfit) q1 q3 (by rw [hsl]; exact k2_hasslot (q4 k hk)) rfl rfl hd fin
  · rw [if_pos hf] at hlay
    have hcf : m.cls = cf := by
      obtain ⟨_, _, c', _, _, _, -, -, hf', -, -, -, hown2, -⟩ := Cond.laysFinal_spec hlay
      have e1 : c' = cf := by have := hff.symm.trans hf'; simp at this; exact this.1.symm
      rw [hdecl] at hown2
      rw [← e1]; exact Option.some.inj (C.2.2.2.1.symm.trans hown2)
    exact W.putFinK C.1 C.2.1 C.2.2.2.1 (C.2.2.2.2 _ hlink) hff hst hcf hin2 (by rw [q2]; exact u_fits hfc hkC hkind (Or.inr hlay) hff hpd hnr hfit) q1 q3 (by rw [hsl]; exact k2_hasslot (q4 k hk)) rfl rfl hd fin
theorem k_iast (C : ZFix p m c cc nL s args own) (hK : va_K D vwCl tys s) (hA : ∀ q, N0 ≤ q → A q) {a i N j : Nat} {cA : ClassId} {f : Nat → Int32} {n x : Int32} (ha : N0 + i = a) (hi : cs[i]? = some (.inl (cA, N, .inl f))) (ht : tys[0]? = some (cA, .int)) (hn : n = nI j) (hj : j < N) (hN : N ≤ 1000) (hd : decode cc pc = .ok (.iastore, 1)) (hp : pc + 1 = pc')
    (kk : Zj p l e R s m args below meth c nL A cells slots Q (PK D N0 (cs.set i (.inl (cA, N, .inl (upd f j x))))) pc' L st) : Zj p l e R s m args below meth c nL A cells slots Q (PK D N0 cs) pc L (.int x :: .int n :: .ref a :: st) := by
  intro ls H locs h1 h2 h3
  subst ha; subst hp; subst hn
  have hcell : H[N0 + i]? = some (arrV cA N (fun j => .int (f j))) := h2.2 i _ hi
  refine W.iast C.1 C.2.1 hcell ((hK.2 0 _ ht).1 N (fun j => .int (f j))) (fun q => by cases q) (by show ¬ (nI j < 0 ∨ (arrV _ _ _).slots.size ≤ _); rw [arrV_size]; exact vp_in_nI hj (by omega)) rfl rfl hd (fun H1 e1 z1 o1 => ?_)
  refine kk ls H1 _ h1 (PK_set h2 hi ?_ z1 o1) (h3.put z1 o1 (hA _ (Nat.le_add_right _ _)))
  show H1[N0 + i]? = some (arrV cA N (fun q => .int (upd f j x q)))
  rw [e1, nI_clamp (by omega), arrV_store]
  congr 2
  funext q
  by_cases hq : q = j
  · subst hq; simp [updV, upd]
  · simp [updV, upd, hq]
theorem k_anew (C : ZFix p m c cc nL s args own) (hK : va_K D vwCl tys s) {cB : ClassId} {Cn : String} (ht : tys[1]? = some (cB, .object Cn)) (hAO : va_AO Cn s) {N q index : Nat} {n : Int32} (w : Cond.classLink own index Cn ∈ AW) (hn : n = nI N) (hN : N ≤ 1000) (hc : cells + 1 ≤ R.cells) (hs : slots + N ≤ R.slots) (hq : N0 + cs.length = q) (hd : decode cc pc = .ok (.anewarray index, 3)) (hp : pc + 3 = pc')
    (k : Zj p l e R s m args below meth c nL A (cells + 1) (slots + N) Q (PK D N0 (cs ++ [.inl (cB, N, .inr (.inr (.inr (.inr fun _ => none))))])) pc' L (.ref q :: st)) : Zj p l e R s m args below meth c nL A cells slots Q (PK D N0 cs) pc L (.int n :: st) := by
  intro ls H locs h1 h2 h3
  subst hn; subst hq; subst hp
  have hcl : (nI N).toNatClampNeg = N := nI_clamp (by omega)
  refine W.anew C.1 C.2.1 C.2.2.2.1 (C.2.2.2.2 _ w) (va_AO.use hAO) rfl hd rfl (nI_pos (by omega)) (by rw [hcl]; omega) hc (by rw [hcl]; exact hs) (fun cA kA comp f1 f2 f3 f4 => ?_)
  obtain ⟨kA', comp', -, -, -, g4⟩ := (hK.2 1 _ ht).2
  have hcA : cA = cB := Option.some.inj (f1.symm.trans g4)
  subst hcA
  rw [hcl, show H.size = N0 + cs.length from h2.1]
  generalize hH1 : H.push ({ cls := cA, slots := Array.replicate N .null, vm := .none } : Cell) = H1
  have z1 : H1.size = H.size + 1 := by rw [← hH1, Array.size_push]
  have e1 : H1[N0 + cs.length]? = some (arrV cA N (fun _ => .null)) := by rw [← h2.1, ← hH1, Array.getElem?_push_size, ← arrV_new]
  have o1 : ∀ q : Nat, q < H.size → H1[q]? = H[q]? := fun q hq => by rw [← hH1, Array.getElem?_push, if_neg (Nat.ne_of_lt hq)]
  exact k ls H1 locs h1 (PK_push h2 z1 o1 e1) ⟨by have := h3.1; omega, fun x a b => (o1 x (by have := h3.1; omega)).trans (h3.2.1 x a b), h3.2.2⟩
theorem k_aast (C : ZFix p m c cc nL s args own) (hK : va_K D vwCl tys s) (hA : ∀ q, N0 ≤ q → A q) {a b i i2 ci N j : Nat} {cB : ClassId} {r : vw_C} {fs : List Value} {f : Nat → Option Nat} {n : Int32} (ha : N0 + i = a) (hi : cs[i]? = some (.inl (cB, N, .inr (.inr (.inr (.inr f)))))) (ht : tys[1]? = some (cB, .object r.1)) (hb2 : N0 + i2 = b) (hi2 : cs[i2]? = some (.inr (ci, fs))) (hcl : vwCl[ci]? = some r) (hn : n = nI j) (hj : j < N) (hN : N ≤ 1000) (hd : decode cc pc = .ok (.aastore, 1)) (hp : pc + 1 = pc')
    (kk : Zj p l e R s m args below meth c nL A cells slots Q (PK D N0 (cs.set i (.inl (cB, N, .inr (.inr (.inr (.inr (va_up f j (some b))))))))) pc' L st) : Zj p l e R s m args below meth c nL A cells slots Q (PK D N0 cs) pc L (.ref b :: .int n :: .ref a :: st) := by
  intro ls H locs h1 h2 h3
  subst ha; subst hp; subst hn; subst hb2
  have hcell : H[N0 + i]? = some (arrV cB N (fun j => va_rf (f j))) := h2.2 i _ hi
  obtain ⟨r', hr', cellV, g1, g2, g3, -⟩ := h2.2 i2 _ hi2
  have hcls := (hK.1 ci r hcl).2
  obtain ⟨kA, comp, k1, k2, k3, -⟩ := (hK.2 1 _ ht).2
  obtain rfl : comp = D.1 ci := Option.some.inj (k3.symm.trans hcls.1)
  obtain ⟨kC, hkC, -⟩ := hcls.2
  have hcla : (nI j).toNatClampNeg = j := nI_clamp (by omega)
  refine W.aast C.1 C.2.1 hcell (fun q h => by cases h) (fun h => by cases h) k1 k2 rfl hkC ⟨nI_pos (by omega), by show _ < (arrV _ _ _).slots.size; rw [arrV_size, hcla]; exact hj⟩ g1 (fun q h => by rw [g3] at h; cases h) (by rw [g2]; exact hkC) (by rw [g2]; exact va_assign hcls) rfl rfl hd (fun H1 e1 z1 o1 => ?_)
  refine kk ls H1 _ h1 (PK_set h2 hi ?_ z1 o1) (h3.put z1 o1 (hA _ (Nat.le_add_right _ _)))
  show H1[N0 + i]? = some (arrV cB N (fun q => va_rf (va_up f j (some (N0 + i2)) q)))
  rw [e1, hcla, arrV_store]
  congr 2
  funext q
  by_cases hq : q = j
  · subst hq; simp [updV, va_up, va_rf]
  · simp [updV, va_up, hq]
/-- a constructor behind new: a nest mate's -/
theorem k_ctorN (C : ZFix p m c cc nL s args own) (hK : va_K D vwCl tys s) (hA : ∀ q, N0 ≤ q → A q) {y : MethodName} {b : ByteArray} {nL2 fr lo mc ms q index : Nat} {host : String} {o : va_E} {post : List va_E} (hq : N0 + cs.length = q) (hM : CK l y b nL2 fr lo mc ms D tys q (fun _ => True) [o] post) (hnest : va_Nw (.methodLinkNest own index y host) s) (w1 : Cond.initialized y.cls ∈ AW) (w2 : Cond.code y b nL2 none ∈ AW) (w3 : Cond.instanceMethod y ∈ AW) (hy1 : y.name = "<init>") (hy : y.cls ≠ "java/lang/invoke/MethodHandle" ∧ y.cls ≠ "java/lang/invoke/VarHandle" ∧ (parseMethodDescriptor y.desc).map (fun d => d.parameters.length) = some 0) (hR : fr + 1 ≤ R.frames ∧ 8 + (nL2 + 11) + lo ≤ R.locals) (hrest : (st.map fun v => v.category).sum ≤ 8) (hf : cells + mc ≤ R.cells ∧ slots + ms ≤ R.slots) (hd : decode cc pc = .ok (.invokespecial index, 3)) (hp : pc + 3 = pc')
    (kk : Zj p l e R s m args below meth c nL A (cells + mc) (slots + ms) Q (PK D N0 (cs ++ post)) pc' L st) : Zj p l e R s m args below meth c nL A cells slots Q (PK D N0 (cs ++ [o])) pc L (.ref q :: st) := by
  intro ls H locs h1 h2 h3
  subst hp; subst hq
  have hG : GoodIn AW (.code y b nL2 none :: AW) := fun w hw => AW_good w (by
    rcases List.mem_cons.mp hw with rfl | h
    · exact w2
    · exact h)
  have hFA : ∀ q, N0 + cs.length ≤ q → A q := fun q h => hA q (by omega)
  have hpk : PK D (N0 + cs.length) [o] H := ⟨by rw [h2.1, List.length_append]; simp; omega, fun i x hx => by
    have hz : i < 1 := (List.getElem?_eq_some_iff.mp hx).1
    rw [show i = 0 by omega] at hx ⊢
    cases hx
    have := h2.2 cs.length o (by simp)
    exact this⟩
  refine va_callv (va_runIN (As := []) (rest := st) C hM ⟨va_cnB 0 C.2.2.2.2 hG rfl rfl rfl hnest (C.2.2.2.2 _ w1) hy hR, hy1, C.2.2.2.2 _ w3⟩ ⟨fun a U g mk h => ⟨h.1, h.2.1, va_K.moved (u := U) (U := U.calling g mk a) (Vm.Alike.refl U.vm) h.2.2.1, trivial⟩, fun U hU hW => ⟨rfl, by rw [hU]; exact hpk, va_K.moved hW.alike hK, trivial⟩⟩ rfl rfl h1.1 rfl (lv_room hrest) hd hf) h3 (fun q _ h => hFA q h) hFA (fun u t H1 locs1 ht hvm hw hB hz1 hk1 hS => ?_)
  rw [ht] at hB
  exact kk ls H1 locs1 h1 (PK_app h2 hB (fun q a b => hk1 q a (by omega))) hS
/-- a loop over blocks -/
theorem k_loop {τ : Type} (μ : τ → Nat) (I : τ → Prop) (cf : τ → List va_E) (mc ms : τ → Nat) (Lf : τ → List Value) (t0 : τ) (h0 : I t0) (hσ : cs = cf t0) (hc : cells = mc t0) (hs : slots = ms t0) (hL : ∃ t, Lf t0 ++ t = L) (step : ∀ t, I t → (∀ t', I t' → μ t' < μ t → Zj p l e R s m args below meth c nL A (mc t') (ms t') Q (PK D N0 (cf t')) pc (Lf t') st) → Zj p l e R s m args below meth c nL A (mc t) (ms t) Q (PK D N0 (cf t)) pc (Lf t) st) : Zj p l e R s m args below meth c nL A cells slots Q (PK D N0 cs) pc L st := by
  have key : ∀ (k : Nat) (t : τ), μ t < k → I t → Zj p l e R s m args below meth c nL A (mc t) (ms t) Q (PK D N0 (cf t)) pc (Lf t) st := by
    intro k
    induction k with
    | zero => intro t h; omega
    | succ k ih => exact fun t h hI => step t hI fun t' hI' hm => ih t' (by omega) hI'
  subst hσ; subst hc; subst hs
  exact z_toS (key _ t0 (Nat.lt_succ_self _) h0) hL
theorem k_to {cs' : List va_E} {mc ms : Nat} (h : Zj p l e R s m args below meth c nL A mc ms Q (PK D N0 cs') pc L' st) (hσ : cs = cs') (hc : cells = mc) (hs : slots = ms) (hL : ∃ t, L' ++ t = L) : Zj p l e R s m args below meth c nL A cells slots Q (PK D N0 cs) pc L st := by
  subst hσ; subst hc; subst hs
  exact z_toS h hL
theorem k_cs {cs' : List va_E} (h : cs = cs') (k : Zj p l e R s m args below meth c nL A cells slots Q (PK D N0 cs') pc L st) : Zj p l e R s m args below meth c nL A cells slots Q (PK D N0 cs) pc L st := h ▸ k
end KB
