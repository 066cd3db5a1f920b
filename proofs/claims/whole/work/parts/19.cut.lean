/-! a contract that asks for more than the system's cells: a table that stands outside -/
def CIX (l : Launch) (y : MethodName) (b : ByteArray) (nL : Nat) (rt : FieldType) (fr lo : Nat) (D : va_G) (tys : List (ClassId × FieldType)) (n : Nat) (ad : Nat → Nat) (cell : Nat → St → va_E) (σ : St) (X : State → Prop) (As : List Value) (post : Int32 → St → Prop) : Prop :=
  Met l y (.code y b nL (some rt) :: AW) { frames := fr, cells := 0, slots := 0, locals := lo } (va_Pc As (fun U => PB D tys n ad cell σ U ∧ X U)) (va_Qi post (fun u t => PV D n ad cell u t.heap) (AdS n ad)) 0 0 (AdS n ad)
def tk (k : Nat) : Nat := if k = 0 then 1 else if k = 1 then 11 else 111
def tkV (j : Nat) : Value := .int (nI (tk j))
def XT (t n : Nat) (ad : Nat → Nat) (U : State) : Prop := va_Z "WheelShop" "TRACE_OF_KIND" "[I" (.ref t) (AdS n ad) U U.heap ∧ va_T .int t 3 tkV (AdS n ad) U U.heap
section ZT
variable {l : Launch} {y : MethodName} {b : ByteArray} {nL fr lo : Nat} {rt : FieldType} {D : va_G} {tys : List (ClassId × FieldType)} {n : Nat} {ad : Nat → Nat} {cell : Nat → St → va_E} {σ : St} {As : List Value}
theorem CIX_of {X : State → Prop} {post : Int32 → St → Prop} (hy : plainName y.cls = true) (hn : As.length ≤ nL) (hc : ∀ v ∈ As, v.category = 1)
    (body : ∀ (p : Program) (e : Env) (s : State) (m : MethodId) (below : List Frame) (meth : Method) (c : Code), ZFix p m c b nL s As.toArray y.cls → meth.sig.returnType = some rt ∧ meth.locks = false → va_K D vwCl tys s → X s →
      Zj p l e { frames := fr, cells := 0, slots := 0, locals := lo } s m As.toArray below meth c nL (AdS n ad) 0 0 (MQ below (va_Qi post (fun u t => PV D n ad cell u t.heap) (AdS n ad)) As.toArray s 0 0 (AdS n ad)) (PV D n ad cell σ) 0 As []) : CIX l y b nL rt fr lo D tys n ad cell σ X As post := by
  refine Met.ofW (cc := b) (maxL := nL) (ret := some rt) hy rfl ?_
  intro p e s m args below meth c s₁ B hml hv
  obtain ⟨rfl, ⟨hP, hK⟩, hX⟩ := hv
  have hts := atoms_spec (ws := .code y b nL (some rt) :: AW) B.pre
  have k := body p e s m below meth c ⟨B.exec, B.bytes, hml, findClass_of_methodNamed B.named, fun w hw => hts w (List.mem_cons_of_mem _ hw)⟩ ⟨B.returns, B.notSynchronized⟩ hK hX
  rw [entry_eq m As hc nL]
  exact k _ _ [] (lvZ_entry As hn hc) hP va_S.rf
variable {p : Program} {e : Env} {R : Room} {s : State} {m : MethodId} {args : Array Value} {below : List Frame} {meth : Method} {c : Code} {A : Nat → Prop} {cells slots : Nat} {Q : State → Prop} {HP : Heap → Prop} {cc : ByteArray} {own : String} {pc pc' : Nat} {L st : List Value}
theorem z_gets (C : ZFix p m c cc nL s args own) {Cn nm d : String} {v : Value} {index : Nat} (hZ : va_Z Cn nm d v A s s.heap) (w : Cond.fieldLink own index Cn nm d ∈ AW) (hd : decode cc pc = .ok (.getstatic index, 3)) (hp : pc + 3 = pc') (k : Zj p l e R s m args below meth c nL A cells slots Q HP pc' L (v :: st)) : Zj p l e R s m args below meth c nL A cells slots Q HP pc L st :=
  fun ls H locs h1 h2 h3 => va_gets C.1 C.2.1 hZ h3 C.2.2.2.1 (C.2.2.2.2 _ w) (fun _ h => h) hd (hp ▸ k ls H locs h1 h2 h3)
theorem z_tld (C : ZFix p m c cc nL s args own) {t N j : Nat} {f : Nat → Value} {i : Int32} {v : Value} (hT : va_T .int t N f A s s.heap) (hi : i = nI j) (hj : j < N) (hN : N < 2 ^ 31) (hv : f j = v) (hd : decode cc pc = .ok (.iaload, 1)) (hp : pc + 1 = pc') (k : Zj p l e R s m args below meth c nL A cells slots Q HP pc' L (v :: st)) : Zj p l e R s m args below meth c nL A cells slots Q HP pc L (.int i :: .ref t :: st) := by
  intro ls H locs h1 h2 h3
  subst hi; subst hp; subst hv
  exact va_ti C.1 C.2.1 hT h3 (vp_in_nI hj hN) (by rw [nI_clamp (by omega)]) hd (k ls H locs h1 h2 h3)
end ZT
theorem trc {x : Int32} {z t : Nat} (h : x = nI z) (hz : z < 1000000) (ht : t < 1000) : (nI (z + t)).toInt64 = x.toInt64 + lN t := by
  rw [h, nI_l (by omega), nI_l (by omega), lN_add]
theorem trc2 {x : Int32} {z t : Nat} (h : x = nI z) (hz : z < 1000000) (ht : t < 1000) : (nI (z + t)).toInt64 = x.toInt64 + (nI t).toInt64 := by
  rw [h, nI_l (by omega), nI_l (by omega), nI_l (by omega), lN_add]
theorem tk_lt (k : Nat) : tk k < 1000 := by
  unfold tk
  split
  · decide
  · split <;> decide

set_option maxRecDepth 100000 in
set_option maxHeartbeats 400000 in
theorem m_X4_cut (l : Launch) {cA cB : ClassId} {D : va_G} {ad : Nat → Nat} (hI : Inj 67 ad) (σ : St) {z : Nat} (hz : z < 1000000) (e3 : σ 0 3 = nI z) {t : Nat} (q w : Int32) : CIX l yX4_cut cX4_cut 3 .int 6 121 D [(cA, .int), (cB, .object RX3)] 67 ad (cellC cA cB ad) σ (XT t 67 ad) [.ref (ad 0), .int q, .int w] (fun r u => (¬ (inR q 0 2 ∧ isW w) ∧ r = -1 ∧ u = σ) ∨ (∃ k kd : Nat, k < 16 ∧ kd ≤ 2 ∧ w = nI k ∧ q = nI kd ∧ u = up2 σ 0 3 (nI (z + tk kd)) ∧ r = needN (σ (100 + 2 * k)) kd (σ 0 0))) := by
  refine CIX_of (by decide +kernel) (Nat.le_of_ble_eq_true rfl) (by simp [Value.category]) ?_
  intro p e s m below meth c C hM hK hX
  refine z_iload_n C dX4_cut_0 (pc' := 1) rfl rfl rfl ?_
  refine z_callS C (m_X4_isKind l _) stabP aw_203 aw_204 aw_27 aw_205 (nA := 1) (by decide +kernel) rfl ⟨Nat.le_of_ble_eq_true rfl, Nat.le_of_ble_eq_true rfl⟩ (rest := []) rfl (Nat.le_of_ble_eq_true rfl) ⟨Nat.zero_le _, Nat.zero_le _⟩ dX4_cut_1 (pc' := 4) rfl (fun r_1 h_1 => ?_)
  rcases h_1 with ⟨rfl, h_1⟩ | ⟨rfl, h_1⟩
  ·
    obtain ⟨kd, hkd, rfl⟩ := inR_of (n := 2) (by omega) h_1
    refine z_if_eq (tgt := 14) C dX4_cut_4 (pc' := 7) (by decide) rfl (fun q => absurd q (by decide)) (fun _ => ?_)
    refine z_iload_n C dX4_cut_7 (pc' := 8) rfl rfl rfl ?_
    refine z_callS C (m_X4_isWheel l _) stabP aw_177 aw_178 aw_27 aw_179 (nA := 1) (by decide +kernel) rfl ⟨Nat.le_of_ble_eq_true rfl, Nat.le_of_ble_eq_true rfl⟩ (rest := []) rfl (Nat.le_of_ble_eq_true rfl) ⟨Nat.zero_le _, Nat.zero_le _⟩ dX4_cut_8 (pc' := 11) rfl (fun r_8 h_8 => ?_)
    rcases h_8 with ⟨rfl, h_8⟩ | ⟨rfl, h_8⟩
    ·
      obtain ⟨k, hk, rfl⟩ := isW_of h_8
      refine z_if_ne (tgt := 16) C dX4_cut_11 (pc' := 14) (by decide) rfl (fun _ => ?_) (fun q => absurd q (by decide))
      refine z_aload_n C dX4_cut_16 (pc' := 17) rfl rfl rfl ?_
      refine z_dup C dX4_cut_17 (pc' := 18) rfl rfl ?_
      refine z_get C hK (by decide) kC_0 rfl inAX4 (k := 8) (by decide) aw_153 rfl dX4_cut_18 (pc' := 21) rfl ?_
      refine z_gets C hX.1 aw_206 dX4_cut_21 (pc' := 24) rfl ?_
      refine z_iload_n C dX4_cut_24 (pc' := 25) rfl rfl rfl ?_
      refine z_tld C hX.2 (j := kd) rfl (by omega) (by decide) rfl dX4_cut_25 (pc' := 26) rfl ?_
      refine z_i2l C dX4_cut_26 (pc' := 27) rfl rfl ?_
      refine z_ladd C dX4_cut_27 (pc' := 28) rfl rfl ?_
      refine z_put C hK hI AdS_in (by decide) kC_0 (sC_03 (trc2 e3 hz (tk_lt kd))) oC_03 rfl inAX4 tyX4_ok nmX4 (k := 8) (by decide) aw_153 rfl (ty := .long) (by decide +kernel) rfl rfl (Nat.le_of_ble_eq_true rfl) dX4_cut_28 (pc' := 31) rfl ?_
      refine z_aload_n C dX4_cut_31 (pc' := 32) rfl rfl rfl ?_
      refine z_get C hK (by decide) kC_0 rfl inAX4 (k := 0) (by decide) aw_145 rfl dX4_cut_32 (pc' := 35) rfl ?_
      refine z_iload_n C dX4_cut_35 (pc' := 36) rfl rfl rfl ?_
      refine z_aald C hK (by decide) kC_1 (t0 := 1) rfl (j := k) rfl (by omega) (by decide) rfl dX4_cut_36 (pc' := 37) rfl ?_
      refine z_iload_n C dX4_cut_37 (pc' := 38) rfl rfl rfl ?_
      refine z_aload_n C dX4_cut_38 (pc' := 39) rfl rfl rfl ?_
      refine z_get C hK (by decide) kC_0 rfl inAX4 (k := 5) (by decide) aw_150 rfl dX4_cut_39 (pc' := 42) rfl ?_
      refine z_callI C hK (m_X3_neededCut l hI _ (k := k) (by omega) (kd := kd) (by omega) _) AdS_in aw_208 aw_209 aw_210 aw_31 aw_211 (pW_lt (by omega)) (kC_W k) rfl (nA := 2) (by decide +kernel) rfl ⟨Nat.le_of_ble_eq_true rfl, Nat.le_of_ble_eq_true rfl⟩ (rest := []) rfl (Nat.le_of_ble_eq_true rfl) ⟨Nat.zero_le _, Nat.zero_le _⟩ dX4_cut_42 (pc' := 45) rfl (fun r_42 u_42 h_42 => ?_)
      obtain ⟨hr_42, hu_42⟩ := h_42
      rw [hr_42, hu_42]
      exact z_iret C hM dX4_cut_45 (Or.inr ⟨k, kd, hk, by omega, rfl, rfl, rfl, by rw [up2_cc _ _ _ (show 100 + 2 * k ≠ 0 by omega), up2_k _ _ _ (show (0 : Nat) ≠ 3 by decide)]⟩)
    ·
      refine z_if_ne (tgt := 16) C dX4_cut_11 (pc' := 14) (by decide) rfl (fun q => absurd q (by decide)) (fun _ => ?_)
      refine z_iconst C dX4_cut_14 (pc' := 15) rfl (v := (-1)) (by decide) ?_
      exact z_iret C hM dX4_cut_15 (Or.inl ⟨fun z => absurd z (by simp [*]), rfl, rfl⟩)
  ·
    refine z_if_eq (tgt := 14) C dX4_cut_4 (pc' := 7) (by decide) rfl (fun _ => ?_) (fun q => absurd q (by decide))
    refine z_iconst C dX4_cut_14 (pc' := 15) rfl (v := (-1)) (by decide) ?_
    exact z_iret C hM dX4_cut_15 (Or.inl ⟨fun z => absurd z (by simp [*]), rfl, rfl⟩)
set_option maxRecDepth 100000 in
set_option maxHeartbeats 400000 in
theorem m_X5_cut (l : Launch) {cA : ClassId} {D : va_G} {ad : Nat → Nat} (hI : Inj 17 ad) (σ : St) {z : Nat} (hz : z < 1000000) (e3 : σ 0 3 = nI z) (q w : Int32) : CI l yX5_cut cX5_cut 3 .int 2 46 D [(cA, .int)] 17 ad (cellR cA ad) σ [.ref (ad 0), .int q, .int w] (fun r u => (¬ (inR q 0 2 ∧ isW w) ∧ r = -1 ∧ u = σ) ∨ (∃ k kd : Nat, k < 16 ∧ kd ≤ 2 ∧ w = nI k ∧ q = nI kd ∧ u = up2 σ 0 3 (nI (z + tk kd)) ∧ r = cutV (σ (100 + 2 * k)) kd (σ 0 0))) := by
  refine CI_of (by decide +kernel) (Nat.le_of_ble_eq_true rfl) (by simp [Value.category]) ?_
  intro p e s m below meth c C hM hK
  refine z_aload_n C dX5_cut_0 (pc' := 1) rfl rfl rfl ?_
  refine z_iconst C dX5_cut_1 (pc' := 2) rfl (v := 0) (by decide) ?_
  refine z_put C hK hI AdS_in (by decide) kR_0 sR_th oR_th rfl inAX5 tyX5_ok nmX5 (k := 0) (by decide) aw_452 rfl (ty := .int) (by decide +kernel) rfl rfl (Nat.le_of_ble_eq_true rfl) dX5_cut_2 (pc' := 5) rfl ?_
  refine z_iload_n C dX5_cut_5 (pc' := 6) rfl rfl rfl ?_
  refine z_iconst C dX5_cut_6 (pc' := 7) rfl (v := 0) (by decide) ?_
  refine z_iconst C dX5_cut_7 (pc' := 8) rfl (v := 2) (by decide) ?_
  refine z_callS C (m_X5_in l _ _ _) stabP aw_529 aw_530 aw_32 aw_531 (nA := 3) (by decide +kernel) rfl ⟨Nat.le_of_ble_eq_true rfl, Nat.le_of_ble_eq_true rfl⟩ (rest := []) rfl (Nat.le_of_ble_eq_true rfl) ⟨Nat.zero_le _, Nat.zero_le _⟩ dX5_cut_8 (pc' := 11) rfl (fun r_8 h_8 => ?_)
  rcases h_8 with ⟨rfl, h_8⟩ | ⟨rfl, h_8⟩
  ·
    obtain ⟨kd, hkd, rfl⟩ := inR_of (n := 2) (by omega) h_8
    refine z_if_eq (tgt := 21) C dX5_cut_11 (pc' := 14) (by decide) rfl (fun q => absurd q (by decide)) (fun _ => ?_)
    refine z_iload_n C dX5_cut_14 (pc' := 15) rfl rfl rfl ?_
    refine z_callS C (m_X5_isWheel l _) stabP aw_526 aw_527 aw_32 aw_528 (nA := 1) (by decide +kernel) rfl ⟨Nat.le_of_ble_eq_true rfl, Nat.le_of_ble_eq_true rfl⟩ (rest := []) rfl (Nat.le_of_ble_eq_true rfl) ⟨Nat.zero_le _, Nat.zero_le _⟩ dX5_cut_15 (pc' := 18) rfl (fun r_15 h_15 => ?_)
    rcases h_15 with ⟨rfl, h_15⟩ | ⟨rfl, h_15⟩
    ·
      obtain ⟨k, hk, rfl⟩ := isW_of h_15
      refine z_if_ne (tgt := 23) C dX5_cut_18 (pc' := 21) (by decide) rfl (fun _ => ?_) (fun q => absurd q (by decide))
      refine z_aload_n C dX5_cut_23 (pc' := 24) rfl rfl rfl ?_
      refine z_dup C dX5_cut_24 (pc' := 25) rfl rfl ?_
      refine z_get C hK (by decide) kR_0 rfl inAX5 (k := 1) (by decide) aw_453 rfl dX5_cut_25 (pc' := 28) rfl ?_
      refine z_iload_n C dX5_cut_28 (pc' := 29) rfl rfl rfl ?_
      refine z_ternEL (J := 50) (lN (tk kd)) 1 ?_ ?_
      ·
        try dsimp only [List.drop]
        refine z_ladd C dX5_cut_50 (pc' := 51) rfl rfl ?_
        refine z_put C hK hI AdS_in (by decide) kR_0 (sR_03 (trc e3 hz (tk_lt kd))) oR_03 rfl inAX5 tyX5_ok nmX5 (k := 1) (by decide) aw_453 rfl (ty := .long) (by decide +kernel) rfl rfl (Nat.le_of_ble_eq_true rfl) dX5_cut_51 (pc' := 54) rfl ?_
        refine z_aload_n C dX5_cut_54 (pc' := 55) rfl rfl rfl ?_
        refine z_iload_n C dX5_cut_55 (pc' := 56) rfl rfl rfl ?_
        refine z_iload_n C dX5_cut_56 (pc' := 57) rfl rfl rfl ?_
        refine z_callI C hK (m_X5_cutOf l hI _ (kd := kd) (k := k) (by omega) (by omega)) AdS_in aw_554 aw_556 aw_17 aw_32 aw_557 (by decide) kR_0 rfl (nA := 2) (by decide +kernel) rfl ⟨Nat.le_of_ble_eq_true rfl, Nat.le_of_ble_eq_true rfl⟩ (rest := []) rfl (Nat.le_of_ble_eq_true rfl) ⟨Nat.zero_le _, Nat.zero_le _⟩ dX5_cut_57 (pc' := 60) rfl (fun r_57 u_57 h_57 => ?_)
        obtain ⟨hr_57, hu_57⟩ := h_57
        rw [hr_57, hu_57]
        exact z_iret C hM dX5_cut_60 (Or.inr ⟨k, kd, hk, by omega, rfl, rfl, rfl, by rw [up2_cc _ _ _ (show 100 + 2 * k ≠ 0 by omega), up2_k _ _ _ (show (0 : Nat) ≠ 3 by decide)]⟩)
      · intro hj_50
        refine z_if_ne (tgt := 36) C dX5_cut_29 (pc' := 32) (by decide) rfl (fun c_29 => ?_) (fun c_29 => ?_)
        ·
          have n_29 : ¬ kd = 0 := fun z9 => c_29 ((nI_eq0 (by omega)).mpr z9)
          refine z_iload_n C dX5_cut_36 (pc' := 37) rfl rfl rfl ?_
          refine z_iconst C dX5_cut_37 (pc' := 38) rfl (v := 1) (by decide) ?_
          refine z_icmp_ne (tgt := 47) C dX5_cut_38 (pc' := 41) (by decide) rfl (fun c_38 => ?_) (fun c_38 => ?_)
          ·
            have n_38 : ¬ kd = 1 := fun z9 => c_38 ((nI_eq (a := kd) (b := 1) (by omega) (by omega)).mpr z9)
            refine z_ldc2 C dX5_cut_47 (pc' := 50) rfl aw_553 ?_
            exact hj_50 _ (by first | (rw [n_29]; rfl) | (rw [tk, if_neg n_29, if_pos n_38]; rfl) | (rw [tk, if_neg n_29, if_neg n_38]; rfl))
          ·
            have n_38 : kd = 1 := (nI_eq (a := kd) (b := 1) (by omega) (by omega)).mp c_38
            refine z_ldc2 C dX5_cut_41 (pc' := 44) rfl aw_552 ?_
            refine z_goto C dX5_cut_44 (pc' := 50) (by decide) ?_
            exact hj_50 _ (by first | (rw [n_29]; rfl) | (rw [tk, if_neg n_29, if_pos n_38]; rfl) | (rw [tk, if_neg n_29, if_neg n_38]; rfl))
        ·
          have n_29 : kd = 0 := (nI_eq0 (by omega)).mp c_29
          refine z_lconst C dX5_cut_32 (pc' := 33) rfl (v := 1) (by decide) ?_
          refine z_goto C dX5_cut_33 (pc' := 50) (by decide) ?_
          exact hj_50 _ (by first | (rw [n_29]; rfl) | (rw [tk, if_neg n_29, if_pos n_38]; rfl) | (rw [tk, if_neg n_29, if_neg n_38]; rfl))
    ·
      refine z_if_ne (tgt := 23) C dX5_cut_18 (pc' := 21) (by decide) rfl (fun q => absurd q (by decide)) (fun _ => ?_)
      refine z_iconst C dX5_cut_21 (pc' := 22) rfl (v := (-1)) (by decide) ?_
      exact z_iret C hM dX5_cut_22 (Or.inl ⟨fun z => absurd z (by simp [*]), rfl, rfl⟩)
  ·
    refine z_if_eq (tgt := 21) C dX5_cut_11 (pc' := 14) (by decide) rfl (fun _ => ?_) (fun q => absurd q (by decide))
    refine z_iconst C dX5_cut_21 (pc' := 22) rfl (v := (-1)) (by decide) ?_
    exact z_iret C hM dX5_cut_22 (Or.inl ⟨fun z => absurd z (by simp [*]), rfl, rfl⟩)
