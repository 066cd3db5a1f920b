/-! THE JUDGEMENT Zj: the machine at pc with locals L, stack st, a heap with HP -/
abbrev St : Type := Nat → Nat → Int32
def up2 (f : St) (i k : Nat) (v : Int32) : St := fun a b => if a = i ∧ b = k then v else f a b
theorem up2_s (f : St) (i k : Nat) (v : Int32) : up2 f i k v i k = v := by simp [up2]
theorem up2_c (f : St) {i j : Nat} (k b : Nat) (v : Int32) (h : j ≠ i) : up2 f i k v j b = f j b := by simp [up2, h]
theorem up2_cc (f : St) {i j : Nat} (k : Nat) (v : Int32) (h : j ≠ i) : up2 f i k v j = f j := by funext b; simp [up2, h]
theorem up2_k (f : St) (i : Nat) {k b : Nat} (v : Int32) (h : b ≠ k) : up2 f i k v i b = f i b := by simp [up2, h]
theorem up2_u (f : St) (i k : Nat) (v : Int32) : up2 f i k v i = upd (f i) k v := by funext b; simp [up2, upd]
def setL : List Value → Nat → Value → List Value
  | [], _, v => [v]
  | _ :: t, 0, v => v :: t
  | a :: t, i + 1, v => a :: setL t i v
theorem setL_at (v : Value) : ∀ (L : List Value) (i : Nat), i ≤ L.length → ∀ j : Nat, (setL L i v)[j]? = if j = i then some v else L[j]?
  | [], i, h, j => by
    have hi : i = 0 := by simpa using h
    subst hi
    cases j with
    | zero => rfl
    | succ j => rfl
  | a :: t, 0, _, j => by
    cases j with
    | zero => rfl
    | succ j => rfl
  | a :: t, i + 1, h, j => by
    cases j with
    | zero => rfl
    | succ j =>
      have h2 := setL_at v t i (by simpa using h) j
      show (setL t i v)[j]? = _
      rw [h2]
      by_cases e : j = i
      · subst e; simp
      · have e2 : ¬ (j + 1 = i + 1) := by omega
        rw [if_neg e, if_neg e2]
        rfl
theorem setL_mem {v w : Value} : ∀ {L : List Value} {i : Nat}, w ∈ setL L i v → w = v ∨ w ∈ L
  | [], i, h => by left; simpa [setL] using h
  | a :: t, 0, h => by
    rcases List.mem_cons.mp h with e | e
    · exact Or.inl e
    · exact Or.inr (List.mem_cons_of_mem _ e)
  | a :: t, i + 1, h => by
    rcases List.mem_cons.mp h with e | e
    · exact Or.inr (by rw [e]; exact List.mem_cons_self)
    · rcases setL_mem (L := t) (i := i) e with q | q
      · exact Or.inl q
      · exact Or.inr (List.mem_cons_of_mem _ q)
def lvZ (ls : Array Slot) (nL : Nat) (L : List Value) : Prop := ls.size = nL ∧ lv_wf ls ∧ (∀ (i : Nat) (v : Value), L[i]? = some v → ls[i]? = some (.val v)) ∧ ∀ v ∈ L, v.category = 1
theorem lvZ_store {ls : Array Slot} {nL i : Nat} {L : List Value} {v : Value} (h : lvZ ls nL L) (hi : i < nL) (hle : i ≤ L.length) (hc : v.category = 1) : ∃ ls', storeLocals ls i v = some ls' ∧ lvZ ls' nL (setL L i v) := by
  obtain ⟨h1, h2, h3, h4⟩ := h
  have hh : lv_has ls nL ((List.range L.length).map (fun j => (j, L.getD j .null))) := by
    refine ⟨h1, h2, fun q hq => ?_⟩
    obtain ⟨j, hj, rfl⟩ := List.mem_map.mp hq
    have hjl := List.mem_range.mp hj
    exact h3 j _ (by simp [List.getD, List.getElem?_eq_getElem hjl])
  obtain ⟨ls', e, g1, g2, g3⟩ := lv_store1 (v := v) hh hi hc
  refine ⟨ls', e, g1, g2, fun j w hw => ?_, fun w hw => ?_⟩
  · rw [setL_at v L i hle j] at hw
    by_cases e : j = i
    · rw [if_pos e] at hw
      subst e
      cases hw
      exact g3 (j, v) List.mem_cons_self
    · rw [if_neg e] at hw
      have hjl : j < L.length := (List.getElem?_eq_some_iff.mp hw).1
      have hg : L.getD j .null = w := by simp [List.getD, hw]
      have hm : w ∈ L := List.mem_of_getElem? hw
      refine g3 (j, w) (List.mem_cons_of_mem _ (List.mem_filter.mpr ⟨List.mem_map.mpr ⟨j, List.mem_range.mpr hjl, by rw [hg]⟩, ?_⟩))
      have hcw := h4 w hm
      simp [e, hcw]
  · rcases setL_mem hw with q | q
    · rw [q]; exact hc
    · exact h4 w q
theorem lvZ_sub {ls : Array Slot} {nL : Nat} {L L' : List Value} (h : lvZ ls nL L) (hp : ∀ (i : Nat) (v : Value), L'[i]? = some v → L[i]? = some v) : lvZ ls nL L' :=
  ⟨h.1, h.2.1, fun i v hv => h.2.2.1 i v (hp i v hv), fun v hv => by
    obtain ⟨i, hi⟩ := List.getElem?_of_mem hv
    exact h.2.2.2 v (List.mem_of_getElem? (hp i v hi))⟩
theorem lvZ_entry (vs : List Value) {n : Nat} (hn : vs.length ≤ n) (hc : ∀ v ∈ vs, v.category = 1) : lvZ ((vs.map Slot.val ++ List.replicate (n - vs.length) Slot.unset).toArray) n vs := by
  have hnone : ∀ i : Nat, (vs.map Slot.val ++ List.replicate (n - vs.length) Slot.unset).toArray[i]? ≠ some .second := by
    intro i h
    have h2 : Slot.second ∈ vs.map Slot.val ++ List.replicate (n - vs.length) Slot.unset := by
      rw [List.getElem?_toArray] at h
      exact List.mem_of_getElem? h
    rcases List.mem_append.mp h2 with q | q
    · obtain ⟨v, -, e⟩ := List.mem_map.mp q
      cases e
    · have := List.eq_of_mem_replicate q
      cases this
  refine ⟨by simp; omega, ⟨fun i v h hcat => ?_, fun i h => absurd h (hnone i)⟩, fun i v h => ?_, hc⟩
  · exfalso
    have h2 : Slot.val v ∈ vs.map Slot.val ++ List.replicate (n - vs.length) Slot.unset := by
      rw [List.getElem?_toArray] at h
      exact List.mem_of_getElem? h
    rcases List.mem_append.mp h2 with q | q
    · obtain ⟨w, hw, e⟩ := List.mem_map.mp q
      cases e
      have := hc v hw
      omega
    · have := List.eq_of_mem_replicate q
      cases this
  · have hl : i < vs.length := (List.getElem?_eq_some_iff.mp h).1
    rw [List.getElem?_toArray, List.getElem?_append_left (by simpa using hl), List.getElem?_map, h]
    rfl
def Zj (p : Program) (l : Launch) (e : Env) (R : Room) (s : State) (m : MethodId) (args : Array Value) (below : List Frame) (meth : Method) (c : Code) (nL : Nat) (A : Nat → Prop) (cells slots : Nat) (Q : State → Prop) (HP : Heap → Prop) (pc : Nat) (L st : List Value) : Prop :=
  ∀ (ls : Array Slot) (H : Heap) (locs : List Loc), lvZ ls nL L → HP H → va_S A s.heap H locs → W p l e R s m args below meth c H locs cells slots Q (F0 m pc ls st)
abbrev ZFix (p : Program) (m : MethodId) (c : Code) (cc : ByteArray) (nL : Nat) (s : State) (args : Array Value) (own : String) : Prop := CallFix p m c cc nL s args AW own
section ZR
variable {p : Program} {l : Launch} {e : Env} {R : Room} {s : State} {m : MethodId} {args : Array Value} {below : List Frame} {meth : Method} {c : Code} {nL : Nat} {A : Nat → Prop} {cells slots : Nat} {Q : State → Prop} {HP : Heap → Prop} {cc : ByteArray} {own : String} {pc pc' : Nat} {L L' st : List Value}
/-- weaken: fewer locals, another picture -/
theorem z_weak {HP' : Heap → Prop} (hL : ∀ (i : Nat) (v : Value), L'[i]? = some v → L[i]? = some v) (hH : ∀ H, HP H → HP' H) (k : Zj p l e R s m args below meth c nL A cells slots Q HP' pc L' st) : Zj p l e R s m args below meth c nL A cells slots Q HP pc L st :=
  fun ls H locs h1 h2 h3 => k ls H locs (lvZ_sub h1 hL) (hH H h2) h3
theorem z_iconst (C : ZFix p m c cc nL s args own) {n : Int} {v : Int32} (hd : decode cc pc = .ok (.iconst n, 1)) (hp : pc + 1 = pc') (hv : Int32.ofInt n = v) (k : Zj p l e R s m args below meth c nL A cells slots Q HP pc' L (.int v :: st)) : Zj p l e R s m args below meth c nL A cells slots Q HP pc L st :=
  fun ls H locs h1 h2 h3 => lv_iconst C.1 C.2.1 hd hv (hp ▸ k ls H locs h1 h2 h3)
theorem z_bipush (C : ZFix p m c cc nL s args own) {n : Int} {v : Int32} (hd : decode cc pc = .ok (.bipush n, 2)) (hp : pc + 2 = pc') (hv : (Int8.ofInt n).toInt32 = v) (k : Zj p l e R s m args below meth c nL A cells slots Q HP pc' L (.int v :: st)) : Zj p l e R s m args below meth c nL A cells slots Q HP pc L st :=
  fun ls H locs h1 h2 h3 => lv_bipush C.1 C.2.1 hd hv (hp ▸ k ls H locs h1 h2 h3)
theorem z_sipush (C : ZFix p m c cc nL s args own) {n : Int} {v : Int32} (hd : decode cc pc = .ok (.sipush n, 3)) (hp : pc + 3 = pc') (hv : (Int16.ofInt n).toInt32 = v) (k : Zj p l e R s m args below meth c nL A cells slots Q HP pc' L (.int v :: st)) : Zj p l e R s m args below meth c nL A cells slots Q HP pc L st :=
  fun ls H locs h1 h2 h3 => lv_sipush C.1 C.2.1 hd hv (hp ▸ k ls H locs h1 h2 h3)
theorem z_ldc (C : ZFix p m c cc nL s args own) {index : Nat} {v : Int32} (hd : decode cc pc = .ok (.ldc index, 2)) (hp : pc + 2 = pc') (hw : Cond.constant own index v ∈ AW) (k : Zj p l e R s m args below meth c nL A cells slots Q HP pc' L (.int v :: st)) : Zj p l e R s m args below meth c nL A cells slots Q HP pc L st :=
  fun ls H locs h1 h2 h3 => lv_ldc C.1 C.2.1 C.2.2.2.1 (C.2.2.2.2 _ hw) hd (hp ▸ k ls H locs h1 h2 h3)
theorem z_ldc2 (C : ZFix p m c cc nL s args own) {index : Nat} {v : Int64} (hd : decode cc pc = .ok (.ldc2_w index, 3)) (hp : pc + 3 = pc') (hw : Cond.constantLong own index v ∈ AW) (k : Zj p l e R s m args below meth c nL A cells slots Q HP pc' L (.long v :: st)) : Zj p l e R s m args below meth c nL A cells slots Q HP pc L st :=
  fun ls H locs h1 h2 h3 => lv_ldc2 C.1 C.2.1 C.2.2.2.1 (C.2.2.2.2 _ hw) hd (hp ▸ k ls H locs h1 h2 h3)
theorem z_lconst (C : ZFix p m c cc nL s args own) {n : Fin 2} {v : Int64} (hd : decode cc pc = .ok (.lconst n, 1)) (hp : pc + 1 = pc') (hv : Int64.ofNat (n : Nat) = v) (k : Zj p l e R s m args below meth c nL A cells slots Q HP pc' L (.long v :: st)) : Zj p l e R s m args below meth c nL A cells slots Q HP pc L st :=
  fun ls H locs h1 h2 h3 => lv_lconst C.1 C.2.1 hd hv (hp ▸ k ls H locs h1 h2 h3)
theorem z_iload_n (C : ZFix p m c cc nL s args own) {n : Fin 4} {i : Nat} {x : Int32} (hd : decode cc pc = .ok (.iload_n n, 1)) (hp : pc + 1 = pc') (hi : (n : Nat) = i) (hl : L[i]? = some (.int x)) (k : Zj p l e R s m args below meth c nL A cells slots Q HP pc' L (.int x :: st)) : Zj p l e R s m args below meth c nL A cells slots Q HP pc L st :=
  fun ls H locs h1 h2 h3 => lv_iload_n C.1 C.2.1 hd hi (h1.2.2.1 i _ hl) (hp ▸ k ls H locs h1 h2 h3)
theorem z_iload (C : ZFix p m c cc nL s args own) {i : Nat} {x : Int32} (hd : decode cc pc = .ok (.iload i, 2)) (hp : pc + 2 = pc') (hl : L[i]? = some (.int x)) (k : Zj p l e R s m args below meth c nL A cells slots Q HP pc' L (.int x :: st)) : Zj p l e R s m args below meth c nL A cells slots Q HP pc L st :=
  fun ls H locs h1 h2 h3 => lv_iload C.1 C.2.1 hd (h1.2.2.1 i _ hl) (hp ▸ k ls H locs h1 h2 h3)
theorem z_aload_n (C : ZFix p m c cc nL s args own) {n : Fin 4} {i : Nat} {x : Nat} (hd : decode cc pc = .ok (.aload_n n, 1)) (hp : pc + 1 = pc') (hi : (n : Nat) = i) (hl : L[i]? = some (.ref x)) (k : Zj p l e R s m args below meth c nL A cells slots Q HP pc' L (.ref x :: st)) : Zj p l e R s m args below meth c nL A cells slots Q HP pc L st :=
  fun ls H locs h1 h2 h3 => lv_aload_n C.1 C.2.1 hd hi (h1.2.2.1 i _ hl) (hp ▸ k ls H locs h1 h2 h3)
theorem z_aload (C : ZFix p m c cc nL s args own) {i : Nat} {x : Nat} (hd : decode cc pc = .ok (.aload i, 2)) (hp : pc + 2 = pc') (hl : L[i]? = some (.ref x)) (k : Zj p l e R s m args below meth c nL A cells slots Q HP pc' L (.ref x :: st)) : Zj p l e R s m args below meth c nL A cells slots Q HP pc L st :=
  fun ls H locs h1 h2 h3 => lv_aload C.1 C.2.1 hd (h1.2.2.1 i _ hl) (hp ▸ k ls H locs h1 h2 h3)
theorem z_istore_n (C : ZFix p m c cc nL s args own) {n : Fin 4} {i : Nat} {x : Int32} (hd : decode cc pc = .ok (.istore_n n, 1)) (hp : pc + 1 = pc') (hi : (n : Nat) = i) (hn : i < nL) (hle : i ≤ L.length) (hl : setL L i (.int x) = L') (k : Zj p l e R s m args below meth c nL A cells slots Q HP pc' L' st) : Zj p l e R s m args below meth c nL A cells slots Q HP pc L (.int x :: st) := by
  intro ls H locs h1 h2 h3 T hT X
  subst hi; subst hp; subst hl
  obtain ⟨ls', e', h'⟩ := lvZ_store (v := .int x) h1 hn hle rfl
  obtain ⟨t, a, b⟩ := k ls' H locs h' h2 h3 T hT X
  have hexec := C.1
  have hb := C.2.1
  refine ⟨t, ?_, b⟩
  jvm_step X.here [X.here.top, ↓top_set X.here.top, hexec, hb, hd, e']
  exact a
theorem z_istore (C : ZFix p m c cc nL s args own) {i : Nat} {x : Int32} (hd : decode cc pc = .ok (.istore i, 2)) (hp : pc + 2 = pc') (hn : i < nL) (hle : i ≤ L.length) (hl : setL L i (.int x) = L') (k : Zj p l e R s m args below meth c nL A cells slots Q HP pc' L' st) : Zj p l e R s m args below meth c nL A cells slots Q HP pc L (.int x :: st) := by
  intro ls H locs h1 h2 h3 T hT X
  subst hp; subst hl
  obtain ⟨ls', e', h'⟩ := lvZ_store (v := .int x) h1 hn hle rfl
  obtain ⟨t, a, b⟩ := k ls' H locs h' h2 h3 T hT X
  have hexec := C.1
  have hb := C.2.1
  refine ⟨t, ?_, b⟩
  jvm_step X.here [X.here.top, ↓top_set X.here.top, hexec, hb, hd, e']
  exact a
theorem z_astore_n (C : ZFix p m c cc nL s args own) {n : Fin 4} {i : Nat} {x : Nat} (hd : decode cc pc = .ok (.astore_n n, 1)) (hp : pc + 1 = pc') (hi : (n : Nat) = i) (hn : i < nL) (hle : i ≤ L.length) (hl : setL L i (.ref x) = L') (k : Zj p l e R s m args below meth c nL A cells slots Q HP pc' L' st) : Zj p l e R s m args below meth c nL A cells slots Q HP pc L (.ref x :: st) := by
  intro ls H locs h1 h2 h3 T hT X
  subst hi; subst hp; subst hl
  obtain ⟨ls', e', h'⟩ := lvZ_store (v := .ref x) h1 hn hle rfl
  obtain ⟨t, a, b⟩ := k ls' H locs h' h2 h3 T hT X
  have hexec := C.1
  have hb := C.2.1
  refine ⟨t, ?_, b⟩
  jvm_step X.here [X.here.top, ↓top_set X.here.top, hexec, hb, hd, e', Value.isRef]
  exact a
theorem z_iinc (C : ZFix p m c cc nL s args own) {i : Nat} {n : Int} {x v : Int32} (hd : decode cc pc = .ok (.iinc i n, 3)) (hp : pc + 3 = pc') (hg : L[i]? = some (.int x)) (hv : x + Int32.ofInt n = v) (hn : i < nL) (hle : i ≤ L.length) (hl : setL L i (.int v) = L') (k : Zj p l e R s m args below meth c nL A cells slots Q HP pc' L' st) : Zj p l e R s m args below meth c nL A cells slots Q HP pc L st := by
  intro ls H locs h1 h2 h3 T hT X
  subst hp; subst hl; subst hv
  have hg2 := h1.2.2.1 i _ hg
  obtain ⟨ls', e', h'⟩ := lvZ_store (v := .int (x + Int32.ofInt n)) h1 hn hle rfl
  obtain ⟨t, a, b⟩ := k ls' H locs h' h2 h3 T hT X
  have hexec := C.1
  have hb := C.2.1
  refine ⟨t, ?_, b⟩
  jvm_step X.here [X.here.top, ↓top_set X.here.top, hexec, hb, hd, hg2, e']
  exact a
theorem z_dup (C : ZFix p m c cc nL s args own) {v : Value} (hd : decode cc pc = .ok (.dup, 1)) (hp : pc + 1 = pc') (hv : v.category = 1) (k : Zj p l e R s m args below meth c nL A cells slots Q HP pc' L (v :: v :: st)) : Zj p l e R s m args below meth c nL A cells slots Q HP pc L (v :: st) :=
  fun ls H locs h1 h2 h3 => lv_dup C.1 C.2.1 hd hv (hp ▸ k ls H locs h1 h2 h3)
theorem z_dup2 (C : ZFix p m c cc nL s args own) {v w : Value} (hd : decode cc pc = .ok (.dup2, 1)) (hp : pc + 1 = pc') (hv : v.category = 1) (hw : w.category = 1) (k : Zj p l e R s m args below meth c nL A cells slots Q HP pc' L (v :: w :: v :: w :: st)) : Zj p l e R s m args below meth c nL A cells slots Q HP pc L (v :: w :: st) :=
  fun ls H locs h1 h2 h3 => lv_dup2_11 C.1 C.2.1 hd hv hw (hp ▸ k ls H locs h1 h2 h3)
theorem z_iadd (C : ZFix p m c cc nL s args own) {x y z : Int32} (hd : decode cc pc = .ok (.iadd, 1)) (hp : pc + 1 = pc') (hz : x + y = z) (k : Zj p l e R s m args below meth c nL A cells slots Q HP pc' L (.int z :: st)) : Zj p l e R s m args below meth c nL A cells slots Q HP pc L (.int y :: .int x :: st) :=
  fun ls H locs h1 h2 h3 => lv_iadd C.1 C.2.1 hd (hz ▸ hp ▸ k ls H locs h1 h2 h3)
theorem z_isub (C : ZFix p m c cc nL s args own) {x y z : Int32} (hd : decode cc pc = .ok (.isub, 1)) (hp : pc + 1 = pc') (hz : x - y = z) (k : Zj p l e R s m args below meth c nL A cells slots Q HP pc' L (.int z :: st)) : Zj p l e R s m args below meth c nL A cells slots Q HP pc L (.int y :: .int x :: st) :=
  fun ls H locs h1 h2 h3 => lv_isub C.1 C.2.1 hd (hz ▸ hp ▸ k ls H locs h1 h2 h3)
theorem z_imul (C : ZFix p m c cc nL s args own) {x y z : Int32} (hd : decode cc pc = .ok (.imul, 1)) (hp : pc + 1 = pc') (hz : x * y = z) (k : Zj p l e R s m args below meth c nL A cells slots Q HP pc' L (.int z :: st)) : Zj p l e R s m args below meth c nL A cells slots Q HP pc L (.int y :: .int x :: st) :=
  fun ls H locs h1 h2 h3 => lv_imul C.1 C.2.1 hd (hz ▸ hp ▸ k ls H locs h1 h2 h3)
theorem z_idiv (C : ZFix p m c cc nL s args own) {x y z : Int32} (hd : decode cc pc = .ok (.idiv, 1)) (hp : pc + 1 = pc') (hne : ¬ y = 0) (hz : x / y = z) (k : Zj p l e R s m args below meth c nL A cells slots Q HP pc' L (.int z :: st)) : Zj p l e R s m args below meth c nL A cells slots Q HP pc L (.int y :: .int x :: st) :=
  fun ls H locs h1 h2 h3 => lv_idiv C.1 C.2.1 hd hne (hz ▸ hp ▸ k ls H locs h1 h2 h3)
theorem z_irem (C : ZFix p m c cc nL s args own) {x y z : Int32} (hd : decode cc pc = .ok (.irem, 1)) (hp : pc + 1 = pc') (hne : ¬ y = 0) (hz : x - x / y * y = z) (k : Zj p l e R s m args below meth c nL A cells slots Q HP pc' L (.int z :: st)) : Zj p l e R s m args below meth c nL A cells slots Q HP pc L (.int y :: .int x :: st) :=
  fun ls H locs h1 h2 h3 => lv_irem C.1 C.2.1 hd hne (hz ▸ hp ▸ k ls H locs h1 h2 h3)
theorem z_ineg (C : ZFix p m c cc nL s args own) {x z : Int32} (hd : decode cc pc = .ok (.ineg, 1)) (hp : pc + 1 = pc') (hz : -x = z) (k : Zj p l e R s m args below meth c nL A cells slots Q HP pc' L (.int z :: st)) : Zj p l e R s m args below meth c nL A cells slots Q HP pc L (.int x :: st) :=
  fun ls H locs h1 h2 h3 => lv_ineg C.1 C.2.1 hd (hz ▸ hp ▸ k ls H locs h1 h2 h3)
theorem z_iand (C : ZFix p m c cc nL s args own) {x y z : Int32} (hd : decode cc pc = .ok (.iand, 1)) (hp : pc + 1 = pc') (hz : x &&& y = z) (k : Zj p l e R s m args below meth c nL A cells slots Q HP pc' L (.int z :: st)) : Zj p l e R s m args below meth c nL A cells slots Q HP pc L (.int y :: .int x :: st) :=
  fun ls H locs h1 h2 h3 => lv_iand C.1 C.2.1 hd (hz ▸ hp ▸ k ls H locs h1 h2 h3)
theorem z_ishl (C : ZFix p m c cc nL s args own) {x y z : Int32} (hd : decode cc pc = .ok (.ishl, 1)) (hp : pc + 1 = pc') (hz : x <<< (y &&& 31) = z) (k : Zj p l e R s m args below meth c nL A cells slots Q HP pc' L (.int z :: st)) : Zj p l e R s m args below meth c nL A cells slots Q HP pc L (.int y :: .int x :: st) :=
  fun ls H locs h1 h2 h3 => lv_ishl C.1 C.2.1 hd (hz ▸ hp ▸ k ls H locs h1 h2 h3)
theorem z_ishr (C : ZFix p m c cc nL s args own) {x y z : Int32} (hd : decode cc pc = .ok (.ishr, 1)) (hp : pc + 1 = pc') (hz : x >>> (y &&& 31) = z) (k : Zj p l e R s m args below meth c nL A cells slots Q HP pc' L (.int z :: st)) : Zj p l e R s m args below meth c nL A cells slots Q HP pc L (.int y :: .int x :: st) :=
  fun ls H locs h1 h2 h3 => lv_ishr C.1 C.2.1 hd (hz ▸ hp ▸ k ls H locs h1 h2 h3)
theorem z_i2l (C : ZFix p m c cc nL s args own) {x : Int32} {v : Int64} (hd : decode cc pc = .ok (.i2l, 1)) (hp : pc + 1 = pc') (hv : x.toInt64 = v) (k : Zj p l e R s m args below meth c nL A cells slots Q HP pc' L (.long v :: st)) : Zj p l e R s m args below meth c nL A cells slots Q HP pc L (.int x :: st) :=
  fun ls H locs h1 h2 h3 => lv_i2l C.1 C.2.1 hd hv (hp ▸ k ls H locs h1 h2 h3)
theorem z_ladd (C : ZFix p m c cc nL s args own) {x y z : Int64} (hd : decode cc pc = .ok (.ladd, 1)) (hp : pc + 1 = pc') (hz : x + y = z) (k : Zj p l e R s m args below meth c nL A cells slots Q HP pc' L (.long z :: st)) : Zj p l e R s m args below meth c nL A cells slots Q HP pc L (.long y :: .long x :: st) :=
  fun ls H locs h1 h2 h3 => lv_ladd C.1 C.2.1 hd (hz ▸ hp ▸ k ls H locs h1 h2 h3)
theorem z_lcmp (C : ZFix p m c cc nL s args own) {x y : Int64} (hd : decode cc pc = .ok (.lcmp, 1)) (hp : pc + 1 = pc') (k : Zj p l e R s m args below meth c nL A cells slots Q HP pc' L (.int (lg_cmp x y) :: st)) : Zj p l e R s m args below meth c nL A cells slots Q HP pc L (.long y :: .long x :: st) :=
  fun ls H locs h1 h2 h3 => W.lcmp C.1 C.2.1 hd (hp ▸ k ls H locs h1 h2 h3)
theorem z_goto (C : ZFix p m c cc nL s args own) {off : Int} (hd : decode cc pc = .ok (.goto off, 3)) (hp : (pc : Int) + off = (pc' : Int)) (k : Zj p l e R s m args below meth c nL A cells slots Q HP pc' L st) : Zj p l e R s m args below meth c nL A cells slots Q HP pc L st :=
  fun ls H locs h1 h2 h3 => lv_goto C.1 C.2.1 hd hp (k ls H locs h1 h2 h3)
theorem z_icmp_ge (C : ZFix p m c cc nL s args own) {x y : Int32} {off : Int} {tgt : Nat} (hd : decode cc pc = .ok (.if_icmp .ge off, 3)) (ht : (pc : Int) + off = (tgt : Int)) (hp : pc + 3 = pc') (kt : y ≤ x → Zj p l e R s m args below meth c nL A cells slots Q HP tgt L st) (kf : ¬ y ≤ x → Zj p l e R s m args below meth c nL A cells slots Q HP pc' L st) : Zj p l e R s m args below meth c nL A cells slots Q HP pc L (.int y :: .int x :: st) :=
  fun ls H locs h1 h2 h3 => lv_icmp_ge C.1 C.2.1 hd ht (fun q => kt q ls H locs h1 h2 h3) (fun q => hp ▸ kf q ls H locs h1 h2 h3)
theorem z_icmp_lt (C : ZFix p m c cc nL s args own) {x y : Int32} {off : Int} {tgt : Nat} (hd : decode cc pc = .ok (.if_icmp .lt off, 3)) (ht : (pc : Int) + off = (tgt : Int)) (hp : pc + 3 = pc') (kt : x < y → Zj p l e R s m args below meth c nL A cells slots Q HP tgt L st) (kf : ¬ x < y → Zj p l e R s m args below meth c nL A cells slots Q HP pc' L st) : Zj p l e R s m args below meth c nL A cells slots Q HP pc L (.int y :: .int x :: st) :=
  fun ls H locs h1 h2 h3 => lv_icmp_lt C.1 C.2.1 hd ht (fun q => kt q ls H locs h1 h2 h3) (fun q => hp ▸ kf q ls H locs h1 h2 h3)
theorem z_icmp_eq (C : ZFix p m c cc nL s args own) {x y : Int32} {off : Int} {tgt : Nat} (hd : decode cc pc = .ok (.if_icmp .eq off, 3)) (ht : (pc : Int) + off = (tgt : Int)) (hp : pc + 3 = pc') (kt : x = y → Zj p l e R s m args below meth c nL A cells slots Q HP tgt L st) (kf : ¬ x = y → Zj p l e R s m args below meth c nL A cells slots Q HP pc' L st) : Zj p l e R s m args below meth c nL A cells slots Q HP pc L (.int y :: .int x :: st) :=
  fun ls H locs h1 h2 h3 => lv_icmp_eq C.1 C.2.1 hd ht (fun q => kt q ls H locs h1 h2 h3) (fun q => hp ▸ kf q ls H locs h1 h2 h3)
theorem z_icmp_ne (C : ZFix p m c cc nL s args own) {x y : Int32} {off : Int} {tgt : Nat} (hd : decode cc pc = .ok (.if_icmp .ne off, 3)) (ht : (pc : Int) + off = (tgt : Int)) (hp : pc + 3 = pc') (kt : ¬ x = y → Zj p l e R s m args below meth c nL A cells slots Q HP tgt L st) (kf : x = y → Zj p l e R s m args below meth c nL A cells slots Q HP pc' L st) : Zj p l e R s m args below meth c nL A cells slots Q HP pc L (.int y :: .int x :: st) :=
  fun ls H locs h1 h2 h3 => lv_icmp_ne C.1 C.2.1 hd ht (fun q => kt q ls H locs h1 h2 h3) (fun q => hp ▸ kf q ls H locs h1 h2 h3)
theorem z_icmp_gt (C : ZFix p m c cc nL s args own) {x y : Int32} {off : Int} {tgt : Nat} (hd : decode cc pc = .ok (.if_icmp .gt off, 3)) (ht : (pc : Int) + off = (tgt : Int)) (hp : pc + 3 = pc') (kt : y < x → Zj p l e R s m args below meth c nL A cells slots Q HP tgt L st) (kf : ¬ y < x → Zj p l e R s m args below meth c nL A cells slots Q HP pc' L st) : Zj p l e R s m args below meth c nL A cells slots Q HP pc L (.int y :: .int x :: st) :=
  fun ls H locs h1 h2 h3 => lv_icmp_gt C.1 C.2.1 hd ht (fun q => kt q ls H locs h1 h2 h3) (fun q => hp ▸ kf q ls H locs h1 h2 h3)
theorem z_icmp_le (C : ZFix p m c cc nL s args own) {x y : Int32} {off : Int} {tgt : Nat} (hd : decode cc pc = .ok (.if_icmp .le off, 3)) (ht : (pc : Int) + off = (tgt : Int)) (hp : pc + 3 = pc') (kt : x ≤ y → Zj p l e R s m args below meth c nL A cells slots Q HP tgt L st) (kf : ¬ x ≤ y → Zj p l e R s m args below meth c nL A cells slots Q HP pc' L st) : Zj p l e R s m args below meth c nL A cells slots Q HP pc L (.int y :: .int x :: st) :=
  fun ls H locs h1 h2 h3 => lv_icmp_le C.1 C.2.1 hd ht (fun q => kt q ls H locs h1 h2 h3) (fun q => hp ▸ kf q ls H locs h1 h2 h3)
theorem z_if_eq (C : ZFix p m c cc nL s args own) {x : Int32} {off : Int} {tgt : Nat} (hd : decode cc pc = .ok (.ifCond .eq off, 3)) (ht : (pc : Int) + off = (tgt : Int)) (hp : pc + 3 = pc') (kt : x = 0 → Zj p l e R s m args below meth c nL A cells slots Q HP tgt L st) (kf : ¬ x = 0 → Zj p l e R s m args below meth c nL A cells slots Q HP pc' L st) : Zj p l e R s m args below meth c nL A cells slots Q HP pc L (.int x :: st) :=
  fun ls H locs h1 h2 h3 => lv_if_eq C.1 C.2.1 hd ht (fun q => kt q ls H locs h1 h2 h3) (fun q => hp ▸ kf q ls H locs h1 h2 h3)
theorem z_if_ne (C : ZFix p m c cc nL s args own) {x : Int32} {off : Int} {tgt : Nat} (hd : decode cc pc = .ok (.ifCond .ne off, 3)) (ht : (pc : Int) + off = (tgt : Int)) (hp : pc + 3 = pc') (kt : ¬ x = 0 → Zj p l e R s m args below meth c nL A cells slots Q HP tgt L st) (kf : x = 0 → Zj p l e R s m args below meth c nL A cells slots Q HP pc' L st) : Zj p l e R s m args below meth c nL A cells slots Q HP pc L (.int x :: st) :=
  fun ls H locs h1 h2 h3 => lv_if_ne C.1 C.2.1 hd ht (fun q => kt q ls H locs h1 h2 h3) (fun q => hp ▸ kf q ls H locs h1 h2 h3)
theorem z_if_lt (C : ZFix p m c cc nL s args own) {x : Int32} {off : Int} {tgt : Nat} (hd : decode cc pc = .ok (.ifCond .lt off, 3)) (ht : (pc : Int) + off = (tgt : Int)) (hp : pc + 3 = pc') (kt : x < 0 → Zj p l e R s m args below meth c nL A cells slots Q HP tgt L st) (kf : ¬ x < 0 → Zj p l e R s m args below meth c nL A cells slots Q HP pc' L st) : Zj p l e R s m args below meth c nL A cells slots Q HP pc L (.int x :: st) :=
  fun ls H locs h1 h2 h3 => lv_if_lt C.1 C.2.1 hd ht (fun q => kt q ls H locs h1 h2 h3) (fun q => hp ▸ kf q ls H locs h1 h2 h3)
theorem z_if_ge (C : ZFix p m c cc nL s args own) {x : Int32} {off : Int} {tgt : Nat} (hd : decode cc pc = .ok (.ifCond .ge off, 3)) (ht : (pc : Int) + off = (tgt : Int)) (hp : pc + 3 = pc') (kt : 0 ≤ x → Zj p l e R s m args below meth c nL A cells slots Q HP tgt L st) (kf : ¬ 0 ≤ x → Zj p l e R s m args below meth c nL A cells slots Q HP pc' L st) : Zj p l e R s m args below meth c nL A cells slots Q HP pc L (.int x :: st) :=
  fun ls H locs h1 h2 h3 => lv_if_ge C.1 C.2.1 hd ht (fun q => kt q ls H locs h1 h2 h3) (fun q => hp ▸ kf q ls H locs h1 h2 h3)
theorem z_if_gt (C : ZFix p m c cc nL s args own) {x : Int32} {off : Int} {tgt : Nat} (hd : decode cc pc = .ok (.ifCond .gt off, 3)) (ht : (pc : Int) + off = (tgt : Int)) (hp : pc + 3 = pc') (kt : 0 < x → Zj p l e R s m args below meth c nL A cells slots Q HP tgt L st) (kf : ¬ 0 < x → Zj p l e R s m args below meth c nL A cells slots Q HP pc' L st) : Zj p l e R s m args below meth c nL A cells slots Q HP pc L (.int x :: st) :=
  fun ls H locs h1 h2 h3 => lv_if_gt C.1 C.2.1 hd ht (fun q => kt q ls H locs h1 h2 h3) (fun q => hp ▸ kf q ls H locs h1 h2 h3)
theorem z_if_le (C : ZFix p m c cc nL s args own) {x : Int32} {off : Int} {tgt : Nat} (hd : decode cc pc = .ok (.ifCond .le off, 3)) (ht : (pc : Int) + off = (tgt : Int)) (hp : pc + 3 = pc') (kt : x ≤ 0 → Zj p l e R s m args below meth c nL A cells slots Q HP tgt L st) (kf : ¬ x ≤ 0 → Zj p l e R s m args below meth c nL A cells slots Q HP pc' L st) : Zj p l e R s m args below meth c nL A cells slots Q HP pc L (.int x :: st) :=
  fun ls H locs h1 h2 h3 => lv_if_le C.1 C.2.1 hd ht (fun q => kt q ls H locs h1 h2 h3) (fun q => hp ▸ kf q ls H locs h1 h2 h3)
/-- the value on the stack gets another name -/
theorem z_top {x y : Int32} (h : x = y) (k : Zj p l e R s m args below meth c nL A cells slots Q HP pc L (.int y :: st)) : Zj p l e R s m args below meth c nL A cells slots Q HP pc L (.int x :: st) := h ▸ k
theorem z_lkp (C : ZFix p m c cc nL s args own) {dflt : Int} {ps : Array (Int × Int)} {len : Nat} {x : Int32} {off : Int} (hd : decode cc pc = .ok (.lookupswitch dflt ps, len)) (hq : (ps.toList.zip (ps.toList.drop 1)).all (fun (a, next) => a.1 < next.1) = true) (ho : Op.lookupswitch.offset ps.toList dflt x.toInt = off) (ht : (pc : Int) + off = (pc' : Int)) (k : Zj p l e R s m args below meth c nL A cells slots Q HP pc' L st) : Zj p l e R s m args below meth c nL A cells slots Q HP pc L (.int x :: st) :=
  fun ls H locs h1 h2 h3 => lv_lookup C.1 C.2.1 hd hq ho ht (k ls H locs h1 h2 h3)
theorem z_tin (C : ZFix p m c cc nL s args own) {dflt lo hi : Int} {offs : Array Int} {len : Nat} {x : Int32} {off : Int} (hd : decode cc pc = .ok (.tableswitch dflt lo hi offs, len)) (a1 : ¬ x.toInt < lo) (a2 : ¬ hi < x.toInt) (ho : offs[(x.toInt - lo).toNat]? = some off) (ht : (pc : Int) + off = (pc' : Int)) (k : Zj p l e R s m args below meth c nL A cells slots Q HP pc' L st) : Zj p l e R s m args below meth c nL A cells slots Q HP pc L (.int x :: st) :=
  fun ls H locs h1 h2 h3 => lv_tableIn C.1 C.2.1 hd a1 a2 ho ht (k ls H locs h1 h2 h3)
theorem z_tout (C : ZFix p m c cc nL s args own) {dflt lo hi : Int} {offs : Array Int} {len : Nat} {x : Int32} (hd : decode cc pc = .ok (.tableswitch dflt lo hi offs, len)) (h : x.toInt < lo ∨ hi < x.toInt) (ht : (pc : Int) + dflt = (pc' : Int)) (k : Zj p l e R s m args below meth c nL A cells slots Q HP pc' L st) : Zj p l e R s m args below meth c nL A cells slots Q HP pc L (.int x :: st) :=
  fun ls H locs h1 h2 h3 => lv_tableOut C.1 C.2.1 hd h ht (k ls H locs h1 h2 h3)
/-- Math.max, min, abs -/
theorem z_max (C : ZFix p m c cc nL s args own) {index : Nat} (w1 : Cond.methodLink own index Lib.Math.max.name ∈ AW) (w2 : Cond.static Lib.Math.max.name ∈ AW) (w3 : Cond.initialized "java/lang/Math" ∈ AW) (w4 : Cond.code Lib.Math.max.name Lib.Math.max.code 2 (some .int) ∈ AW) (hR : 1 ≤ R.frames ∧ (st.map fun v => v.category).sum + 13 ≤ R.locals) (hf : cells ≤ R.cells ∧ slots ≤ R.slots) {x y : Int32} (hd : decode cc pc = .ok (.invokestatic index, 3)) (hp : pc + 3 = pc') (k : Zj p l e R s m args below meth c nL A cells slots Q HP pc' L (.int (if x < y then y else x) :: st)) : Zj p l e R s m args below meth c nL A cells slots Q HP pc L (.int y :: .int x :: st) :=
  fun ls H locs h1 h2 h3 => va_mmax C.1 C.2.1 (C.2.2.1.trans h1.1.symm) C.2.2.2.1 (C.2.2.2.2 _ w1) (C.2.2.2.2 _ w2) (C.2.2.2.2 _ w3) (C.2.2.2.2 _ w4) hR.1 hR.2 hf.1 hf.2 hd (hp ▸ k ls H locs h1 h2 h3)
theorem z_min (C : ZFix p m c cc nL s args own) {index : Nat} (w1 : Cond.methodLink own index Lib.Math.min.name ∈ AW) (w2 : Cond.static Lib.Math.min.name ∈ AW) (w3 : Cond.initialized "java/lang/Math" ∈ AW) (w4 : Cond.code Lib.Math.min.name Lib.Math.min.code 2 (some .int) ∈ AW) (hR : 1 ≤ R.frames ∧ (st.map fun v => v.category).sum + 13 ≤ R.locals) (hf : cells ≤ R.cells ∧ slots ≤ R.slots) {x y : Int32} (hd : decode cc pc = .ok (.invokestatic index, 3)) (hp : pc + 3 = pc') (k : Zj p l e R s m args below meth c nL A cells slots Q HP pc' L (.int (if y < x then y else x) :: st)) : Zj p l e R s m args below meth c nL A cells slots Q HP pc L (.int y :: .int x :: st) :=
  fun ls H locs h1 h2 h3 => va_mmin C.1 C.2.1 (C.2.2.1.trans h1.1.symm) C.2.2.2.1 (C.2.2.2.2 _ w1) (C.2.2.2.2 _ w2) (C.2.2.2.2 _ w3) (C.2.2.2.2 _ w4) hR.1 hR.2 hf.1 hf.2 hd (hp ▸ k ls H locs h1 h2 h3)
theorem z_abs (C : ZFix p m c cc nL s args own) {index : Nat} (w1 : Cond.methodLink own index Lib.Math.abs.name ∈ AW) (w2 : Cond.static Lib.Math.abs.name ∈ AW) (w3 : Cond.initialized "java/lang/Math" ∈ AW) (w4 : Cond.code Lib.Math.abs.name Lib.Math.abs.code 1 (some .int) ∈ AW) (hR : 1 ≤ R.frames ∧ (st.map fun v => v.category).sum + 13 ≤ R.locals) (hf : cells ≤ R.cells ∧ slots ≤ R.slots) {x : Int32} (hd : decode cc pc = .ok (.invokestatic index, 3)) (hp : pc + 3 = pc') (k : Zj p l e R s m args below meth c nL A cells slots Q HP pc' L (.int (if 0 ≤ x then x else 0 - x) :: st)) : Zj p l e R s m args below meth c nL A cells slots Q HP pc L (.int x :: st) :=
  fun ls H locs h1 h2 h3 => va_mabs C.1 C.2.1 (C.2.2.1.trans h1.1.symm) C.2.2.2.1 (C.2.2.2.2 _ w1) (C.2.2.2.2 _ w2) (C.2.2.2.2 _ w3) (C.2.2.2.2 _ w4) hR.1 hR.2 hf.1 hf.2 hd (hp ▸ k ls H locs h1 h2 h3)
end ZR
