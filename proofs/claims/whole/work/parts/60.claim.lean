/-! THE CLAIM OUT OF ONE WALK OF THE LAW'S BODY. Your part is whole_start (and what it stands on); all else here is the same for every law, but numbers. -/
def R_law : String := "WheelShopLaw"
def lw_P (b : Addr) (xs : List Int32) (args : Array Value) (s : State) : Prop := args = #[.ref b] ∧ s.IntsAt b xs ∧ xs.length ≤ 2048 ∧ (Jvm.Cond.and given_1 narrow_1).before args s = true
def lw_Q (_ : Array Value) (s : State) (o : Outcome) (t : State) : Prop := o = .returned (some (.int 1)) ∧ Framed s o t [] 600000 7302250
def lw_Z (below : List Frame) (a : Array Value) (s : State) : State → Prop := fun t => ∃ o, t.status = .running ∧ Ended t below o ∧ lw_Q a s o t
/-- the law's own end, with 1 on the stack, nothing written that was there before, its room as the claim has it -/
theorem lw_ret {p : Program} {l : Launch} {e : Env} {s : State} {m : MethodId} {below : List Frame} {meth : Method} {c : Code} {b : Nat} (hx : p.tables.exec = Jvm.exec) (hb : c.code = code) (hr : meth.sig.returnType = ret) (hlocks : meth.locks = false) {pc : Nat} {H : Heap} {ls : Array Slot} (hdg : decode code pc = .ok (.ireturn, 1)) : W p l e room_1 s m #[Value.ref b] below meth c H [] 600000 7302250 (lw_Z below #[Value.ref b] s) (F0 m pc ls [.int 1]) := by
  intro T hT X
  obtain ⟨fs, hret, hrun, hended, hW, hframe⟩ := X.leave (v := some (.int 1)) (hlocks := hlocks) (fun h => by rw [hr] at h; cases h)
  have hmeth' : T.vm.method? m = some meth := X.method'
  refine ⟨T.setFrames fs, ?_, .returned (some (.int 1)), hrun, hended, rfl, ⟨_, rfl⟩, hW, hframe⟩
  jvm_step X.here [X.here.top, hx, hb, hdg, hmeth', hr, ret, narrow_b1]
  (try refine ⟨rfl, ?_⟩); (try refine ⟨rfl, ?_⟩)
  first | (intro acts; rw [hret _ acts rfl rfl rfl]) | rw [hret _ _ rfl rfl rfl]
  exact Steps.refl _
/-- what holds at the law's entry: the machine, the code, the tables' words (any of lw_tbl by 'hts w (by decide +kernel)'), the script of L ints xs at the cell b, what the Statement gives of the start (any of its parts by flat_of_before) -/
def lw_At (p : Program) (s : State) (m : MethodId) (meth : Method) (c : Code) (b L : Nat) (xs : Nat → Int32) : Prop :=
  p.tables.exec = Jvm.exec ∧ c.code = code ∧ meth.sig.returnType = ret ∧ c.maxLocals = 4 ∧ s.vm.findClass R_law = some m.cls ∧ (∀ w ∈ lw_tbl, w.before #[Value.ref b] s = true) ∧ va_X b L xs s s.heap ∧ b < s.heap.size ∧ meth.locks = false ∧ (Jvm.Cond.and given_1 narrow_1).before #[Value.ref b] s = true
section KP
variable {p : Program} {l : Launch} {e : Env} {R : Room} {s : State} {m : MethodId} {args : Array Value} {below : List Frame} {meth : Method} {c : Code} {nL : Nat} {A : Nat → Prop} {cells slots : Nat} {Q : State → Prop} {cc : ByteArray} {own : String} {pc pc' : Nat} {L st : List Value}
variable {D : va_G} {tys : List (ClassId × FieldType)} {N0 : Nat} {cs : List va_E}
/-- a constructor that is no nest mate's -/
theorem k_ctorP (C : ZFix p m c cc nL s args own) (hK : va_K D vwCl tys s) (hA : ∀ q, N0 ≤ q → A q) {y : MethodName} {b : ByteArray} {nL2 fr lo mc ms q index : Nat} {o : va_E} {post : List va_E} {X : State → Prop} (hq : N0 + cs.length = q) (hM : CK l y b nL2 fr lo mc ms D tys q X [o] post) (hXb : ∀ u U : State, u.vm = U.vm → X u → X U) (hXs : ∀ U : State, s.WarmedH U.vm → X U) (w0 : Cond.methodLink own index y ∈ AW) (w1 : Cond.initialized y.cls ∈ AW) (w2 : Cond.code y b nL2 none ∈ AW) (w3 : Cond.instanceMethod y ∈ AW) (hy1 : y.name = "<init>") (hy : y.cls ≠ "java/lang/invoke/MethodHandle" ∧ y.cls ≠ "java/lang/invoke/VarHandle" ∧ (parseMethodDescriptor y.desc).map (fun d => d.parameters.length) = some 0) (hR : fr + 1 ≤ R.frames ∧ 8 + (nL2 + 11) + lo ≤ R.locals) (hrest : (st.map fun v => v.category).sum ≤ 8) (hf : cells + mc ≤ R.cells ∧ slots + ms ≤ R.slots) (hd : decode cc pc = .ok (.invokespecial index, 3)) (hp : pc + 3 = pc')
    (kk : Zj p l e R s m args below meth c nL A (cells + mc) (slots + ms) Q (PK D N0 (cs ++ post)) pc' L st) : Zj p l e R s m args below meth c nL A cells slots Q (PK D N0 (cs ++ [o])) pc L (.ref q :: st) := by
  intro ls H locs h1 h2 h3
  subst hp; subst hq
  have hG : GoodIn AW (.code y b nL2 none :: AW) := fun w hw => AW_good w (by
    rcases List.mem_cons.mp hw with rfl | h
    · exact w2
    · exact h)
  have hFA : ∀ q, N0 + cs.length ≤ q → A q := fun q h => hA q (by omega)
  have hpk : PK D (N0 + cs.length) [o] H := ⟨by rw [h2.1, List.length_append]; simp; omega, fun i x hx => by
    have hz : i < 1 := (List.getElem?_eq_some_iff.mp hx).1
    rw [show i = 0 by omega] at hx ⊢
    cases hx
    have := h2.2 cs.length o (by simp)
    exact this⟩
  refine va_callv (va_runI (As := []) (rest := st) C hM (cwI 0 C.2.2.2.2 hG rfl rfl rfl (C.2.2.2.2 _ w1) (C.2.2.2.2 _ w0) (C.2.2.2.2 _ w3) hy1 hy hR) ⟨fun a U g mk h => ⟨h.1, h.2.1, va_K.moved (u := U) (U := U.calling g mk a) (Vm.Alike.refl U.vm) h.2.2.1, hXb U (U.calling g mk a) rfl h.2.2.2⟩, fun U hU hW => ⟨rfl, by rw [hU]; exact hpk, va_K.moved hW.alike hK, hXs U hW⟩⟩ rfl rfl h1.1 rfl (lv_room hrest) hd hf) h3 (fun q _ h => hFA q h) hFA (fun u t H1 locs1 ht hvm hw hB hz1 hk1 hS => ?_)
  rw [ht] at hB
  exact kk ls H1 locs1 h1 (PK_app h2 hB (fun q a b => hk1 q a (by omega))) hS
end KP
theorem lw_mem {w : Cond} {i : Nat} (h : lw_tbl[i]? = some w) : w ∈ lw_tbl := List.mem_of_getElem? h
/-- the classes and the kinds of array that the tables tell of -/
theorem st_K {s : State} {args : Array Value} (hts : ∀ w ∈ lw_tbl, w.before args s = true) : ∃ (D : va_G) (cA cB : ClassId), va_K D vwCl [(cA, .int), (cB, .object RX3)] s := by
  have ha : ∀ w ∈ AW, w.before args s = true := fun w hw => hts w (AW_in w hw)
  obtain ⟨c0, i0, k0⟩ := u_known (C := RX0) (T := TX0) (N := 1) (n := 1) ha inAX0 (ha _ aw_45)
  obtain ⟨c1, i1, k1⟩ := u_known (C := RX1) (T := TX1) (N := 9) (n := 9) ha inAX1 (ha _ aw_80)
  obtain ⟨c2, i2, k2⟩ := u_known (C := RX2) (T := TX2) (N := 5) (n := 5) ha inAX2 (ha _ aw_57)
  obtain ⟨c3, i3, k3⟩ := u_known (C := RX3) (T := TX3) (N := 7) (n := 7) ha inAX3 (ha _ aw_114)
  obtain ⟨c4, i4, k4⟩ := u_known (C := RX4) (T := TX4) (N := 9) (n := 9) ha inAX4 (ha _ aw_35)
  obtain ⟨c5, i5, k5⟩ := u_known (C := RX5) (T := TX5) (N := 23) (n := 23) ha inAX5 (ha _ aw_447)
  obtain ⟨cA, kA, comp, a1, a2, a3⟩ := Cond.arrayClass_spec (ha _ aw_55)
  obtain ⟨compB, cB, kB, b1, _, b2, b3, b4⟩ := Cond.arrayOver_spec (hts _ (lw_mem (i := 43) (w := .arrayOver (.object RX3)) (by decide +kernel)))
  refine ⟨(fun k => if k = 0 then c0 else if k = 1 then c1 else if k = 2 then c2 else if k = 3 then c3 else if k = 4 then c4 else c5, fun k => if k = 0 then i0 else if k = 1 then i1 else if k = 2 then i2 else if k = 3 then i3 else if k = 4 then i4 else i5), cA, cB, ?_, ?_⟩
  · intro k q hq
    match k, hq with
    | 0, hq => cases hq; exact k0
    | 1, hq => cases hq; exact k1
    | 2, hq => cases hq; exact k2
    | 3, hq => cases hq; exact k3
    | 4, hq => cases hq; exact k4
    | 5, hq => cases hq; exact k5
    | k + 6, hq => simp [vwCl] at hq
  · intro k q hq
    match k, hq with
    | 0, hq => cases hq; exact ⟨fun n z => ⟨fun k h => (by cases h), kA, a2, comp, a3⟩, a1⟩
    | 1, hq => cases hq; exact ⟨fun n z => ⟨fun k h => (by cases h), kB, b2, compB, b3⟩, kB, compB, b2, b3, b1, b4⟩
    | k + 2, hq => simp at hq
/-- the static table -/
theorem st_T {s : State} {b : Nat} {A : Nat → Prop} (hA : ∀ a : Nat, a < s.heap.size → ¬ A a) (hts : ∀ w ∈ lw_tbl, w.before #[Value.ref b] s = true) (hgv : (Jvm.Cond.and given_1 narrow_1).before #[Value.ref b] s = true) : ∃ tt : Nat, va_Z "WheelShop" "TRACE_OF_KIND" "[I" (.ref tt) A s s.heap ∧ va_T .int tt 3 tkV A s s.heap := by
  have hs := flat_of_before _ hgv
  have harr : (Cond.arrayOf (.static "WheelShop" "TRACE_OF_KIND" "[I") .int).before #[Value.ref b] s = true := hs _ (by decide +kernel)
  have hlen : (Cond.eq (.length (.static "WheelShop" "TRACE_OF_KIND" "[I")) (.int 3)).before #[Value.ref b] s = true := hs _ (by decide +kernel)
  have h0 : (Cond.eq (.elem (.static "WheelShop" "TRACE_OF_KIND" "[I") (.int 0)) (.int 1)).before #[Value.ref b] s = true := hs _ (by decide +kernel)
  have h1 : (Cond.eq (.elem (.static "WheelShop" "TRACE_OF_KIND" "[I") (.int 1)) (.int 11)).before #[Value.ref b] s = true := hs _ (by decide +kernel)
  have h2 : (Cond.eq (.elem (.static "WheelShop" "TRACE_OF_KIND" "[I") (.int 2)) (.int 111)).before #[Value.ref b] s = true := hs _ (by decide +kernel)
  obtain ⟨tt, t1, t2⟩ := va_Tof (N := 3) (f := tkV) (A := A) (by decide) harr (va_eqt hlen) (fun j hj => by
    rcases (show j = 0 ∨ j = 1 ∨ j = 2 by omega) with rfl | rfl | rfl
    · exact va_eqt h0
    · exact va_eqt h1
    · exact va_eqt h2) hA
  exact ⟨tt, va_Zof (hts _ (lw_mem (i := 207) (w := .laysStatic "WheelShop" "TRACE_OF_KIND" "[I") (by decide +kernel))) (hts _ (AW_in _ aw_27)) t1 hA, t2⟩
set_option maxRecDepth 10000 in
set_option maxHeartbeats 1000000 in
theorem whole_start {p : Program} {e : Env} {s : State} {m : MethodId} {below : List Frame} {meth : Method} {c : Code} (l : Launch) (hflags : l.flags = flags0) {b L : Nat} {xs : Nat → Int32} (hL : L ≤ 2048) (C0 : lw_At p s m meth c b L xs) : W p l e room_1 s m #[Value.ref b] below meth c s.heap [] 0 0 (lw_Z below #[Value.ref b] s) (entryFrame m ([Value.ref b] : List Value).toArray 4) := by
  obtain ⟨hx, hb, hr, hml, hown, hts, hX, hbl, hlocks, hgv⟩ := id C0
  obtain ⟨D, cA, cB, hK⟩ := st_K hts
  have hKR : va_K D vwCl [(cA, .int)] s := hK.sub [0] rfl
  have hA : ∀ q : Nat, s.heap.size ≤ q → (fun q : Nat => s.heap.size ≤ q) q := fun _ h => h
  have hbA : ¬ (fun q : Nat => s.heap.size ≤ q) b := Nat.not_le.mpr hbl
  obtain ⟨tt, hZ, hTt⟩ := st_T (A := fun q : Nat => s.heap.size ≤ q) (fun a ha => Nat.not_le.mpr ha) hts hgv
  have C : ZFix p m c cL_law 4 s #[Value.ref b] RL := ⟨hx, hb, hml, hown, fun w hw => hts w (AW_in w hw)⟩
  have hAO : va_AO RX3 s := va_AO.of (hts _ (lw_mem (i := 43) (w := .arrayOver (.object RX3)) (by decide +kernel)))
  have n1 : va_Nw (.methodLinkNest RX4 17 yX0_init RX4) s := va_Nw.of rfl (hts _ (lw_mem (i := 46) (by decide +kernel)))
  have n2 : va_Nw (.methodLinkNest RX4 24 yX2_init RX4) s := va_Nw.of rfl (hts _ (lw_mem (i := 58) (by decide +kernel)))
  have n3 : va_Nw (.methodLinkNest RX4 31 yX1_init RX4) s := va_Nw.of rfl (hts _ (lw_mem (i := 81) (by decide +kernel)))
  have n4 : va_Nw (.methodLinkNest RX4 47 yX3_init RX4) s := va_Nw.of rfl (hts _ (lw_mem (i := 115) (by decide +kernel)))
  have k : Zj p l e room_1 s m #[Value.ref b] below meth c 4 (fun q : Nat => s.heap.size ≤ q) 0 0 (lw_Z below #[Value.ref b] s) (PK D s.heap.size []) 0 [.ref b] [] := by
    refine k_new C hK (ci := 4) (fs := [.null, .null, .null, .null, .null, .int 0, .int 0, .int 0, .long 0]) tyX4 tyX4_ok inAX4 aw_34 aw_35 aw_27 rfl (fun j hj => by rcases (show j = 0 ∨ j = 1 ∨ j = 2 ∨ j = 3 ∨ j = 4 ∨ j = 5 ∨ j = 6 ∨ j = 7 ∨ j = 8 by omega) with rfl | rfl | rfl | rfl | rfl | rfl | rfl | rfl | rfl <;> rfl) (Nat.le_of_ble_eq_true rfl) (Nat.le_of_ble_eq_true rfl) (q := s.heap.size + 0) rfl dL_law_0 (pc' := 3) rfl ?_
    refine z_dup C dL_law_3 (pc' := 4) rfl rfl ?_
    refine k_ctorP C hK (fun _ h => h) (X := fun U => va_AO RX3 U ∧ va_Nw (.methodLinkNest RX4 17 yX0_init RX4) U ∧ va_Nw (.methodLinkNest RX4 24 yX2_init RX4) U ∧ va_Nw (.methodLinkNest RX4 31 yX1_init RX4) U ∧ va_Nw (.methodLinkNest RX4 47 yX3_init RX4) U) rfl (m_X4_init l s.heap.size) (fun u U h x => ⟨va_AO.moved (h ▸ Vm.Alike.refl u.vm) x.1, va_Nw.same rfl h x.2.1, va_Nw.same rfl h x.2.2.1, va_Nw.same rfl h x.2.2.2.1, va_Nw.same rfl h x.2.2.2.2⟩) (fun U hW => ⟨va_AO.moved hW.alike hAO, va_Nw.warmM hW n1, va_Nw.warmM hW n2, va_Nw.warmM hW n3, va_Nw.warmM hW n4⟩) aw_36 aw_27 aw_38 aw_37 rfl (by decide +kernel) ⟨Nat.le_of_ble_eq_true rfl, Nat.le_of_ble_eq_true rfl⟩ (Nat.le_of_ble_eq_true rfl) ⟨Nat.le_of_ble_eq_true rfl, Nat.le_of_ble_eq_true rfl⟩ dL_law_4 (pc' := 7) rfl ?_
    refine z_astore_n (L' := [.ref b, .ref s.heap.size]) C dL_law_7 (pc' := 8) rfl rfl (by decide) (Nat.le_of_ble_eq_true rfl) rfl ?_
    refine k_cs (cs' := B19 cA cB s.heap.size ++ whL cA s.heap.size 16) rfl ?_
    have hlen : (B19 cA cB s.heap.size ++ whL cA s.heap.size 16).length = 67 := by rw [List.length_append, whL_len]; rfl
    refine k_new C hKR (ci := 5) (fs := [.int 0, .long 0, .null, .null, .null, .null, .int 0, .int 0, .null, .null, .int 0, .null, .null, .null, .int 0, .null, .null, .null, .null, .null, .null, .null, .int 0]) tyX5 tyX5_ok inAX5 aw_446 aw_447 aw_32 rfl (fun j hj => by rcases (show j = 0 ∨ j = 1 ∨ j = 2 ∨ j = 3 ∨ j = 4 ∨ j = 5 ∨ j = 6 ∨ j = 7 ∨ j = 8 ∨ j = 9 ∨ j = 10 ∨ j = 11 ∨ j = 12 ∨ j = 13 ∨ j = 14 ∨ j = 15 ∨ j = 16 ∨ j = 17 ∨ j = 18 ∨ j = 19 ∨ j = 20 ∨ j = 21 ∨ j = 22 by omega) with rfl | rfl | rfl | rfl | rfl | rfl | rfl | rfl | rfl | rfl | rfl | rfl | rfl | rfl | rfl | rfl | rfl | rfl | rfl | rfl | rfl | rfl | rfl <;> rfl) (Nat.le_of_ble_eq_true rfl) (Nat.le_of_ble_eq_true rfl) (q := s.heap.size + 67) (by rw [hlen]) dL_law_8 (pc' := 11) rfl ?_
    refine z_dup C dL_law_11 (pc' := 12) rfl rfl ?_
    refine k_ctorP C hKR (fun _ h => h) (X := fun _ => True) (by rw [hlen]) (m_X5_init l (s.heap.size + 67)) (fun _ _ _ _ => trivial) (fun _ _ => trivial) aw_448 aw_32 aw_450 aw_449 rfl (by decide +kernel) ⟨Nat.le_of_ble_eq_true rfl, Nat.le_of_ble_eq_true rfl⟩ (Nat.le_of_ble_eq_true rfl) ⟨Nat.le_of_ble_eq_true rfl, Nat.le_of_ble_eq_true rfl⟩ dL_law_12 (pc' := 15) rfl ?_
    refine z_astore_n (L' := [.ref b, .ref s.heap.size, .ref (s.heap.size + 67)]) C dL_law_15 (pc' := 16) rfl rfl (by decide) (Nat.le_of_ble_eq_true rfl) rfl ?_
    refine z_iconst C dL_law_16 (pc' := 17) rfl (v := 0) (by decide) ?_
    refine z_istore_n (L' := [.ref b, .ref s.heap.size, .ref (s.heap.size + 67), .int 0]) C dL_law_17 (pc' := 18) rfl rfl (by decide) (Nat.le_of_ble_eq_true rfl) rfl ?_
    refine z_weak (HP' := HB D cA cB (aCf s.heap.size) (aRf s.heap.size) st0 st0) (L' := [.ref b, .ref (aCf s.heap.size 0), .ref (aRf s.heap.size 0), .int 0]) (fun _ _ h => h) (fun H h => ⟨pC h, pR hlen h⟩) ?_
    refine law_loop hL C hX hbl hbA hK hKR (aC_inj _) (aR_inj _) (fun i hi => (aC_in hi).1) (fun i _ => Nat.le_add_right _ _) (aCR _) (fun _ h => h) hZ hTt rb0 (Nat.le_of_ble_eq_true rfl) (Nat.le_of_ble_eq_true rfl) ?_
    intro σ τ L' ls H locs h1 h2 h3
    exact va_forget (fun q hq => h3.2.2 q hq) (W.widen (k := 600000) (n := 7302250) (Nat.le_of_ble_eq_true rfl) (Nat.le_of_ble_eq_true rfl) (lw_ret hx hb hr hlocks dL_law_808))
  rw [entry_eq m [.ref b] (by simp [Value.category]) 4]
  exact k _ _ [] (lvZ_entry [.ref b] (Nat.le_of_ble_eq_true rfl) (by simp [Value.category])) ⟨rfl, fun i x hx => by simp at hx⟩ va_S.rf
set_option maxHeartbeats 4000000 in
theorem lw_walk (l : Launch) (hflags : l.flags = flags0) (b : Addr) (xs : List Int32) : MetFree l x (headSpec (Jvm.Cond.code x code maxLocals ret :: tables_1) room_1) (lw_P b xs) (fun _ _ _ _ _ => True) lw_Q := by
  refine MetFree.of_bodyS (code := code) (maxLocals := maxLocals) (ret := ret) (by decide) ?_ ?_
  · intro args s m h hn
    obtain ⟨meth, c, h1, h2, h3, h4, h5, h6, -, -⟩ := Cond.code_spec hn (atoms_spec (ws := Jvm.Cond.code x code maxLocals ret :: tables_1) h _ List.mem_cons_self)
    exact ⟨meth, c, h1, h2, h3, h4, h5, h6⟩
  · intro p e s m args below meth c s₁ B hml0 hP _
    obtain ⟨rfl, hx, hbd, hgv⟩ := hP
    obtain ⟨scr, harrAt, hlist, hof, hsmall⟩ := hx
    obtain ⟨hcb, hkn, -, -⟩ := State.arrayAt?_spec harrAt
    have hown : s.vm.findClass R_law = some m.cls := findClass_of_methodNamed B.named
    have hts0 : ∀ c ∈ (Jvm.Cond.code x code maxLocals ret :: tables_1), c.before #[Value.ref b] s = true := atoms_spec (ws := Jvm.Cond.code x code maxLocals ret :: tables_1) B.pre
    have hts : ∀ w ∈ lw_tbl, w.before #[Value.ref b] s = true := k2_hts_sels lw_privs (fun w hw => hts0 w (List.mem_cons_of_mem _ hw)) lw_privs_ok
    have hml : c.maxLocals = 4 := B.maxLocals_eq (hts0 _ List.mem_cons_self)
    have X₀ : Stand p l e room_1 s m #[Value.ref b] below meth c s₁ [] 0 0 := Stand.of_body B
    have hh0 : s₁.heap = s.heap := by rw [B.state]; rfl
    have hsz : scr.slots.size = xs.length := by rw [← Array.length_toList, hlist, List.length_map]
    have hval : ∀ j : Nat, j < xs.length → scr.slots[j]? = some (.int (xs.getD j 0)) := fun j hj => by
      rw [← Array.getElem?_toList, hlist]
      simp [hj]
    have hbl : b < s.heap.size := (Array.getElem?_eq_some_iff.mp hcb).1
    have hX : va_X b xs.length (fun j => xs.getD j 0) s s.heap := ⟨scr, hcb, hof, hkn, hsz, hval⟩
    have K : W p l e room_1 s m #[Value.ref b] below meth c s₁.heap [] 0 0 (lw_Z below #[Value.ref b] s) (entryFrame m ([Value.ref b] : List Value).toArray 4) := by
      rw [hh0]
      exact whole_start l hflags hbd ⟨B.exec, B.bytes, B.returns, hml, hown, hts, hX, hbl, B.notSynchronized, hgv⟩
    obtain ⟨t, a1, o, b1, b2, b3⟩ := K s₁ rfl X₀
    exact ⟨t, o, a1, b1, b2, b3⟩
theorem lw_pre_spec {args : Array Value} {s : State} (h : (Jvm.Cond.and given_1 narrow_1).before args s = true) (hr : rest_1_c.before args s = true) : ∃ (b : Addr) (xs : List Int32), lw_P b xs args s := by
  have hs := flat_of_before _ h
  have hq := flat_of_before _ hr
  have hc : (Cond.count 1).before args s = true := hs _ (by decide +kernel)
  have harr : (Cond.arrayOf (.arg 0) .int).before args s = true := hs _ (by decide +kernel)
  have hle : (Cond.le (.length (.arg 0)) (.int 2048)).before args s = true := hs _ (by decide +kernel)
  have hlen : (Cond.isInt (.length (.arg 0))).before args s = true := hq _ (by decide +kernel)
  have hall : (Cond.all (.arg 0) (.isInt (.elem (.arg 0) (.index 0)))).before args s = true := hq _ (by decide +kernel)
  obtain ⟨b, xs, hb, hx⟩ := State.ints_of_pre rfl harr hlen hall
  have hsm : xs.length < 2 ^ 31 := hx.choose_spec.2.2.2
  have hev : (Term.length (.arg 0)).eval args s none [] s = some (.int xs.length.toInt32) := hx.length_eval hb
  have hv := Cond.le_ints hev (show (Term.int 2048).eval args s none [] s = some (.int 2048) from rfl)
  have hd : xs.length.toInt32 ≤ 2048 := by
    simpa [Cond.before, Cond.holds, hv] using hle
  have hN : xs.length ≤ 2048 := (Int32.ofNat_le_ofNat hsm (by decide)).mp (show Int32.ofNat xs.length ≤ Int32.ofNat 2048 from hd)
  exact ⟨b, xs, Cond.one_arg hc (show args[0]? = some (.ref b) from hb), hx, hN, h⟩
theorem lw_comes (l : Launch) (hflags : l.flags = flags0) : Comes l x (Jvm.Cond.code x code maxLocals ret :: tables_1) room_1 (fun tb e args s => Calls_1 tb e args s ∧ rest_1 tb e args s ∧ Pre_1 tb e args s)
    (fun _ _ args s o t => lw_Q args s o t) := by
  intro p e ha hc hk s m args below hf hfit hheap happ hpre
  obtain ⟨b, xs, hP⟩ := lw_pre_spec hpre.2.2 hpre.2.1
  obtain ⟨k, o, h1, h2, h3, hQ⟩ := lw_walk l hflags b xs p e ha hc hk s m args below hf ((Spec.applies_iff_loose hf).mp happ).1 hP trivial
  exact ⟨k, o, h1, h2, h3, hQ⟩
theorem lw_frame {s t : State} {o : Outcome} {args : Array Value} (h : Framed s o t [] 600000 7302250) :
    Framed s o t (fieldLocs frame_1_writes args s ++ arrayLocs frame_1_arrays args s ++ staticLocs frame_1_statics s) 600000 7302250 := h
theorem lw_limb (L : Cond) (hL : ∀ (args : Array Value) (s t : State), L.after args s (.returned (some (.int 1))) t = true) :
    ArmFor flags0 classFile x code maxLocals ret World_1 tables_1 room_1 Calls_1 rest_1 Pre_1
      (fun tb e a s o t => postC L tb e a s o t ∧ Framed s o t (fieldLocs frame_1_writes a s ++ arrayLocs frame_1_arrays a s ++ staticLocs frame_1_statics s) 600000 7302250) := by
  intro l hflags _ _ p e ha hc hk s m args below hf hfit hheap happ hpre
  obtain ⟨k, o, h1, h2, h3, rfl, hF⟩ := lw_comes l hflags p e ha hc hk s m args below hf hfit hheap happ hpre
  exact ⟨k, _, h1, h2, h3, hL args s _, lw_frame hF⟩
theorem i_vc : Claimed_1_1 ∧ Claimed_1_2 := ⟨lw_limb limb_1_1 (fun args s t => by simp [limb_1_1, Cond.after, Cond.holds, Cond.value]), lw_limb limb_1_2 (fun args s t => Cond.after_iff.mpr (by
  first | (rw [show limb_1_2 = Cond.eq .result (.int 1) from rfl, Cond.eq_ints (x := 1) (y := 1) rfl rfl]; simp; done) | (simp [limb_1_2, Cond.value, Term.eval]; done)))⟩
