/-! readings: the class -/
def okT (σ : St) (n : Nat) : Prop := ∀ i : Nat, i < n → ∃ w : Nat, w < 16 ∧ σ 7 i = nI w
def fb1 (σ : St) : Nat → St
  | 0 => σ
  | w + 1 => up2 (up2 (up2 (up2 (fb1 σ w) 27 w (-100000)) 28 w 100000) 29 w (-100000)) 30 w 100000
def narF (S : St) (x y i w : Nat) (g : Int32) : St := up2 (up2 S x w (mx (S x w) (S 9 i - g))) y w (mn (up2 S x w (mx (S x w) (S 9 i - g)) y w) (up2 S x w (mx (S x w) (S 9 i - g)) 9 i + g))
def fb2 (T : St) : Nat → St
  | 0 => T
  | i + 1 => if fb2 T i 8 i = 0 then narF (fb2 T i) 27 28 i (wn (T 7 i)) 2 else narF (fb2 T i) 29 30 i (wn (T 7 i)) 5
theorem fb1_o {σ : St} {c : Nat} (h : c ≠ 27) (h2 : c ≠ 28) (h3 : c ≠ 29) (h4 : c ≠ 30) : ∀ w, fb1 σ w c = σ c
  | 0 => rfl
  | w + 1 => by rw [fb1, up2_cc _ _ _ h4, up2_cc _ _ _ h3, up2_cc _ _ _ h2, up2_cc _ _ _ h, fb1_o h h2 h3 h4 w]
theorem narF_o {S : St} {x y i w c : Nat} {g : Int32} (h : c ≠ x) (h2 : c ≠ y) : narF S x y i w g c = S c := by
  rw [narF, up2_cc _ _ _ h2, up2_cc _ _ _ h]
theorem fb2_o {T : St} {c : Nat} (h : c ≠ 27) (h2 : c ≠ 28) (h3 : c ≠ 29) (h4 : c ≠ 30) : ∀ i, fb2 T i c = T c
  | 0 => rfl
  | i + 1 => by
    rw [fb2]
    split
    · rw [narF_o h h2, fb2_o h h2 h3 h4 i]
    · rw [narF_o h3 h4, fb2_o h h2 h3 h4 i]
def okH (S : St) (x y : Nat) : Prop := ∀ w : Nat, w < 16 → S x w ≤ S y w
def loO (S : St) : Nat → Int32
  | 0 => -200
  | w + 1 => mx (loO S w) (S 29 w - S 28 w)
def goO (S : St) : Nat → Int32
  | 0 => 200
  | w + 1 => mn (goO S w) (S 30 w - S 27 w)
def agL (S : St) (w : Nat) (h : Int32) : Nat → Int32
  | 0 => 0
  | j + 1 => if S 8 j = 1 ∧ S 7 j = nI w ∧ ab (S 9 j - h) ≤ 5 then agL S w h j + 1 else agL S w h j
def shF (S : St) (w : Nat) (o lo : Int32) : Int32 := mx (S 27 w + o) (mn (S 28 w + o) lo)
def agF (S : St) (o : Int32) (i w n : Nat) : Int32 := agL S w (shF S w o (S 9 i - 5)) n
def zf (σ : St) : Nat → St
  | 0 => σ
  | w + 1 => up2 (zf σ w) 31 w 0
def ml1 (S : St) (o : Int32) (i w n : Nat) : St := up2 S 31 w (mx (S 31 w) (agF S o i w n))
def mlF (σ : St) (o : Int32) (n : Nat) : Nat → St
  | 0 => zf σ 16
  | i + 1 => if mlF σ o n i 8 i = 1 then ml1 (mlF σ o n i) o i (wn (σ 7 i)) n else mlF σ o n i
def mcF (S : St) : Nat → Int32
  | 0 => 0
  | i + 1 => if S 8 i = 1 then mcF S i + 1 else mcF S i
def lfF (T : St) (a : Int32) : Nat → Int32
  | 0 => a
  | w + 1 => lfF T a w - T 31 w
def lo1 (S : St) (o : Int32) (n : Nat) : Int32 := lfF (mlF S o n n) (mcF S n) 16
def fwF (σ : St) (n : Nat) : Nat → St × Int32
  | 0 => (mlF σ (-200) n n, lo1 σ (-200) n)
  | i + 1 => if (fwF σ n i).1 8 i = 1 ∧ -200 ≤ (fwF σ n i).1 9 i - 5 - (fwF σ n i).1 28 (wn (σ 7 i)) ∧ (fwF σ n i).1 9 i - 5 - (fwF σ n i).1 28 (wn (σ 7 i)) ≤ 200 then (mlF (fwF σ n i).1 ((fwF σ n i).1 9 i - 5 - (fwF σ n i).1 28 (wn (σ 7 i))) n n, mn (fwF σ n i).2 (lo1 (fwF σ n i).1 ((fwF σ n i).1 9 i - 5 - (fwF σ n i).1 28 (wn (σ 7 i))) n)) else fwF σ n i
theorem zf_o {σ : St} {c : Nat} (h : c ≠ 31) : ∀ w, zf σ w c = σ c
  | 0 => rfl
  | w + 1 => by rw [zf, up2_cc _ _ _ h, zf_o h w]
theorem mlF_o {σ : St} {o : Int32} {n c : Nat} (h : c ≠ 31) : ∀ i, mlF σ o n i c = σ c
  | 0 => zf_o h 16
  | i + 1 => by
    rw [mlF]
    split
    · rw [ml1, up2_cc _ _ _ h, mlF_o h i]
    · exact mlF_o h i
theorem fwF_o {σ : St} {n c : Nat} (h : c ≠ 31) : ∀ i, (fwF σ n i).1 c = σ c
  | 0 => mlF_o h n
  | i + 1 => by
    rw [fwF]
    split
    · show mlF _ _ _ _ c = _
      rw [mlF_o h, fwF_o h i]
    · exact fwF_o h i
theorem wn_of {x : Int32} {w : Nat} (h : x = nI w) (hw : w < 16) : wn x = w := by rw [h, wn_nI (by omega)]
theorem okT_of {σ S : St} {n : Nat} (h : okT σ n) (e : S 7 = σ 7) : okT S n := fun i hi => by rw [e]; exact h i hi
set_option maxRecDepth 100000 in
set_option maxHeartbeats 400000 in
theorem m_X1_narrow_h (l : Launch) {cA cB : ClassId} {D : va_G} {ad : Nat → Nat} (hI : Inj 67 ad) (σ : St) {i w : Nat} (hi : i < 20) (hw : w < 16) (ew : σ 7 i = nI w) (g : Int32) : CV l yX1_narrow cX1_narrow 6 1 15 D [(cA, .int), (cB, .object RX3)] 67 ad (cellC cA cB ad) σ [.ref (ad 10), .ref (ad 14), .ref (ad 15), .int (nI i), .int g] (fun u => u = narF σ 27 28 i w g) := by
  refine CV_of (by decide +kernel) (Nat.le_of_ble_eq_true rfl) (by simp [Value.category]) ?_
  intro p e s m below meth c C hM hK
  refine z_aload_n C dX1_narrow_0 (pc' := 1) rfl rfl rfl ?_
  refine z_get C hK (by decide) kC_10 rfl inAX1 (k := 1) (by decide) aw_87 rfl dX1_narrow_1 (pc' := 4) rfl ?_
  refine z_iload_n C dX1_narrow_4 (pc' := 5) rfl rfl rfl ?_
  refine z_iald C hK (by decide) kC_11 (t0 := 0) rfl (j := i) rfl (by omega) (by decide) rfl dX1_narrow_5 (pc' := 6) rfl ?_
  refine z_top (y := nI w) ew ?_
  refine z_istore (L' := [.ref _, .ref _, .ref _, .int _, .int _, .int _]) C dX1_narrow_6 (pc' := 8) rfl (by decide) (Nat.le_of_ble_eq_true rfl) rfl ?_
  refine z_aload_n C dX1_narrow_8 (pc' := 9) rfl rfl rfl ?_
  refine z_iload C dX1_narrow_9 (pc' := 11) rfl rfl ?_
  refine z_aload_n C dX1_narrow_11 (pc' := 12) rfl rfl rfl ?_
  refine z_iload C dX1_narrow_12 (pc' := 14) rfl rfl ?_
  refine z_iald C hK (by decide) kC_14 (t0 := 0) rfl (j := w) rfl (by omega) (by decide) rfl dX1_narrow_14 (pc' := 15) rfl ?_
  refine z_aload_n C dX1_narrow_15 (pc' := 16) rfl rfl rfl ?_
  refine z_get C hK (by decide) kC_10 rfl inAX1 (k := 3) (by decide) aw_89 rfl dX1_narrow_16 (pc' := 19) rfl ?_
  refine z_iload_n C dX1_narrow_19 (pc' := 20) rfl rfl rfl ?_
  refine z_iald C hK (by decide) kC_13 (t0 := 0) rfl (j := i) rfl (by omega) (by decide) rfl dX1_narrow_20 (pc' := 21) rfl ?_
  refine z_iload C dX1_narrow_21 (pc' := 23) rfl rfl ?_
  refine z_isub C dX1_narrow_23 (pc' := 24) rfl rfl ?_
  refine z_max C aw_368 aw_221 aw_33 aw_222 ⟨Nat.le_of_ble_eq_true rfl, Nat.le_of_ble_eq_true rfl⟩ ⟨Nat.zero_le _, Nat.zero_le _⟩ dX1_narrow_24 (pc' := 27) rfl ?_
  refine z_iast C hK hI AdS_in (by decide) kC_14 sC_a14 oC_a14 (t0 := 0) rfl (j := w) rfl (by omega) (by decide) dX1_narrow_27 (pc' := 28) rfl ?_
  refine z_aload_n C dX1_narrow_28 (pc' := 29) rfl rfl rfl ?_
  refine z_iload C dX1_narrow_29 (pc' := 31) rfl rfl ?_
  refine z_aload_n C dX1_narrow_31 (pc' := 32) rfl rfl rfl ?_
  refine z_iload C dX1_narrow_32 (pc' := 34) rfl rfl ?_
  refine z_iald C hK (by decide) kC_15 (t0 := 0) rfl (j := w) rfl (by omega) (by decide) rfl dX1_narrow_34 (pc' := 35) rfl ?_
  refine z_aload_n C dX1_narrow_35 (pc' := 36) rfl rfl rfl ?_
  refine z_get C hK (by decide) kC_10 rfl inAX1 (k := 3) (by decide) aw_89 rfl dX1_narrow_36 (pc' := 39) rfl ?_
  refine z_iload_n C dX1_narrow_39 (pc' := 40) rfl rfl rfl ?_
  refine z_iald C hK (by decide) kC_13 (t0 := 0) rfl (j := i) rfl (by omega) (by decide) rfl dX1_narrow_40 (pc' := 41) rfl ?_
  refine z_iload C dX1_narrow_41 (pc' := 43) rfl rfl ?_
  refine z_iadd C dX1_narrow_43 (pc' := 44) rfl rfl ?_
  refine z_min C aw_369 aw_228 aw_33 aw_229 ⟨Nat.le_of_ble_eq_true rfl, Nat.le_of_ble_eq_true rfl⟩ ⟨Nat.zero_le _, Nat.zero_le _⟩ dX1_narrow_44 (pc' := 47) rfl ?_
  refine z_iast C hK hI AdS_in (by decide) kC_15 sC_a15 oC_a15 (t0 := 0) rfl (j := w) rfl (by omega) (by decide) dX1_narrow_47 (pc' := 48) rfl ?_
  exact z_vret C hM dX1_narrow_48 rfl
set_option maxRecDepth 100000 in
set_option maxHeartbeats 400000 in
theorem m_X1_narrow_r (l : Launch) {cA cB : ClassId} {D : va_G} {ad : Nat → Nat} (hI : Inj 67 ad) (σ : St) {i w : Nat} (hi : i < 20) (hw : w < 16) (ew : σ 7 i = nI w) (g : Int32) : CV l yX1_narrow cX1_narrow 6 1 15 D [(cA, .int), (cB, .object RX3)] 67 ad (cellC cA cB ad) σ [.ref (ad 10), .ref (ad 16), .ref (ad 17), .int (nI i), .int g] (fun u => u = narF σ 29 30 i w g) := by
  refine CV_of (by decide +kernel) (Nat.le_of_ble_eq_true rfl) (by simp [Value.category]) ?_
  intro p e s m below meth c C hM hK
  refine z_aload_n C dX1_narrow_0 (pc' := 1) rfl rfl rfl ?_
  refine z_get C hK (by decide) kC_10 rfl inAX1 (k := 1) (by decide) aw_87 rfl dX1_narrow_1 (pc' := 4) rfl ?_
  refine z_iload_n C dX1_narrow_4 (pc' := 5) rfl rfl rfl ?_
  refine z_iald C hK (by decide) kC_11 (t0 := 0) rfl (j := i) rfl (by omega) (by decide) rfl dX1_narrow_5 (pc' := 6) rfl ?_
  refine z_top (y := nI w) ew ?_
  refine z_istore (L' := [.ref _, .ref _, .ref _, .int _, .int _, .int _]) C dX1_narrow_6 (pc' := 8) rfl (by decide) (Nat.le_of_ble_eq_true rfl) rfl ?_
  refine z_aload_n C dX1_narrow_8 (pc' := 9) rfl rfl rfl ?_
  refine z_iload C dX1_narrow_9 (pc' := 11) rfl rfl ?_
  refine z_aload_n C dX1_narrow_11 (pc' := 12) rfl rfl rfl ?_
  refine z_iload C dX1_narrow_12 (pc' := 14) rfl rfl ?_
  refine z_iald C hK (by decide) kC_16 (t0 := 0) rfl (j := w) rfl (by omega) (by decide) rfl dX1_narrow_14 (pc' := 15) rfl ?_
  refine z_aload_n C dX1_narrow_15 (pc' := 16) rfl rfl rfl ?_
  refine z_get C hK (by decide) kC_10 rfl inAX1 (k := 3) (by decide) aw_89 rfl dX1_narrow_16 (pc' := 19) rfl ?_
  refine z_iload_n C dX1_narrow_19 (pc' := 20) rfl rfl rfl ?_
  refine z_iald C hK (by decide) kC_13 (t0 := 0) rfl (j := i) rfl (by omega) (by decide) rfl dX1_narrow_20 (pc' := 21) rfl ?_
  refine z_iload C dX1_narrow_21 (pc' := 23) rfl rfl ?_
  refine z_isub C dX1_narrow_23 (pc' := 24) rfl rfl ?_
  refine z_max C aw_368 aw_221 aw_33 aw_222 ⟨Nat.le_of_ble_eq_true rfl, Nat.le_of_ble_eq_true rfl⟩ ⟨Nat.zero_le _, Nat.zero_le _⟩ dX1_narrow_24 (pc' := 27) rfl ?_
  refine z_iast C hK hI AdS_in (by decide) kC_16 sC_a16 oC_a16 (t0 := 0) rfl (j := w) rfl (by omega) (by decide) dX1_narrow_27 (pc' := 28) rfl ?_
  refine z_aload_n C dX1_narrow_28 (pc' := 29) rfl rfl rfl ?_
  refine z_iload C dX1_narrow_29 (pc' := 31) rfl rfl ?_
  refine z_aload_n C dX1_narrow_31 (pc' := 32) rfl rfl rfl ?_
  refine z_iload C dX1_narrow_32 (pc' := 34) rfl rfl ?_
  refine z_iald C hK (by decide) kC_17 (t0 := 0) rfl (j := w) rfl (by omega) (by decide) rfl dX1_narrow_34 (pc' := 35) rfl ?_
  refine z_aload_n C dX1_narrow_35 (pc' := 36) rfl rfl rfl ?_
  refine z_get C hK (by decide) kC_10 rfl inAX1 (k := 3) (by decide) aw_89 rfl dX1_narrow_36 (pc' := 39) rfl ?_
  refine z_iload_n C dX1_narrow_39 (pc' := 40) rfl rfl rfl ?_
  refine z_iald C hK (by decide) kC_13 (t0 := 0) rfl (j := i) rfl (by omega) (by decide) rfl dX1_narrow_40 (pc' := 41) rfl ?_
  refine z_iload C dX1_narrow_41 (pc' := 43) rfl rfl ?_
  refine z_iadd C dX1_narrow_43 (pc' := 44) rfl rfl ?_
  refine z_min C aw_369 aw_228 aw_33 aw_229 ⟨Nat.le_of_ble_eq_true rfl, Nat.le_of_ble_eq_true rfl⟩ ⟨Nat.zero_le _, Nat.zero_le _⟩ dX1_narrow_44 (pc' := 47) rfl ?_
  refine z_iast C hK hI AdS_in (by decide) kC_17 sC_a17 oC_a17 (t0 := 0) rfl (j := w) rfl (by omega) (by decide) dX1_narrow_47 (pc' := 48) rfl ?_
  exact z_vret C hM dX1_narrow_48 rfl
set_option maxRecDepth 100000 in
set_option maxHeartbeats 400000 in
theorem m_X1_contradict_h (l : Launch) {cA cB : ClassId} {D : va_G} {ad : Nat → Nat} (hI : Inj 67 ad) (σ : St)  : CI l yX1_contradict cX1_contradict 4 .boolean 0 0 D [(cA, .int), (cB, .object RX3)] 67 ad (cellC cA cB ad) σ [.ref (ad 10), .ref (ad 14), .ref (ad 15)] (fun r u => u = σ ∧ ((r = 1 ∧ ¬ okH σ 27 28) ∨ (r = 0 ∧ okH σ 27 28))) := by
  refine CI_of (by decide +kernel) (Nat.le_of_ble_eq_true rfl) (by simp [Value.category]) ?_
  intro p e s m below meth c C hM hK
  refine z_iconst C dX1_contradict_0 (pc' := 1) rfl (v := 0) (by decide) ?_
  refine z_istore_n (L' := [.ref _, .ref _, .ref _, .int _]) C dX1_contradict_1 (pc' := 2) rfl rfl (by decide) (Nat.le_of_ble_eq_true rfl) rfl ?_
  refine z_loop (τ := Nat) (fun i => 16 - i) (fun i => i ≤ 16 ∧ ∀ j : Nat, j < i → σ 27 j ≤ σ 28 j) (fun i => σ) (fun i => [.ref (ad 10), .ref (ad 14), .ref (ad 15), .int (nI i)]) 0 ⟨by omega, fun j hj => absurd hj (by omega)⟩ rfl ⟨_, rfl⟩ ?_
  intro i hi ih2
  try dsimp only at hi ih2 ⊢
  refine z_iload_n C dX1_contradict_2 (pc' := 3) rfl rfl rfl ?_
  refine z_bipush C dX1_contradict_3 (pc' := 5) rfl (v := 16) (by decide) ?_
  refine z_icmp_ge (tgt := 25) C dX1_contradict_5 (pc' := 8) (by decide) rfl (fun c_5 => ?_) (fun c_5 => ?_)
  ·
    have n_5 : 16 ≤ i := ge_of_le (N := 16) (k := i) c_5 (by omega) (by omega)
    refine z_iconst C dX1_contradict_25 (pc' := 26) rfl (v := 0) (by decide) ?_
    exact z_zret C hM dX1_contradict_26 (by decide) ⟨rfl, Or.inr ⟨rfl, fun j hj => hi.2 j (by omega)⟩⟩
  ·
    have n_5 : i < 16 := lt_of_nle (N := 16) (k := i) c_5 (by omega) (by omega)
    refine z_aload_n C dX1_contradict_8 (pc' := 9) rfl rfl rfl ?_
    refine z_iload_n C dX1_contradict_9 (pc' := 10) rfl rfl rfl ?_
    refine z_iald C hK (by decide) kC_14 (t0 := 0) rfl (j := i) rfl (by omega) (by decide) rfl dX1_contradict_10 (pc' := 11) rfl ?_
    refine z_aload_n C dX1_contradict_11 (pc' := 12) rfl rfl rfl ?_
    refine z_iload_n C dX1_contradict_12 (pc' := 13) rfl rfl rfl ?_
    refine z_iald C hK (by decide) kC_15 (t0 := 0) rfl (j := i) rfl (by omega) (by decide) rfl dX1_contradict_13 (pc' := 14) rfl ?_
    refine z_icmp_le (tgt := 19) C dX1_contradict_14 (pc' := 17) (by decide) rfl (fun c_14 => ?_) (fun c_14 => ?_)
    ·
      refine z_iinc (L' := [.ref _, .ref _, .ref _, .int _]) C dX1_contradict_19 (pc' := 22) rfl rfl (iinc1 _) (by decide) (Nat.le_of_ble_eq_true rfl) rfl ?_
      refine z_goto C dX1_contradict_22 (pc' := 2) (by decide) ?_
      exact z_back 4 (ih2 (i + 1) ⟨by omega, fun j hj => by rcases Nat.lt_or_ge j i with q | q; exact hi.2 j q; exact (show j = i by omega) ▸ c_14⟩ (by omega)) rfl rfl
    ·
      refine z_iconst C dX1_contradict_17 (pc' := 18) rfl (v := 1) (by decide) ?_
      exact z_zret C hM dX1_contradict_18 (by decide) ⟨rfl, Or.inl ⟨rfl, fun q => c_14 (q i (by omega))⟩⟩
set_option maxRecDepth 100000 in
set_option maxHeartbeats 400000 in
theorem m_X1_contradict_r (l : Launch) {cA cB : ClassId} {D : va_G} {ad : Nat → Nat} (hI : Inj 67 ad) (σ : St)  : CI l yX1_contradict cX1_contradict 4 .boolean 0 0 D [(cA, .int), (cB, .object RX3)] 67 ad (cellC cA cB ad) σ [.ref (ad 10), .ref (ad 16), .ref (ad 17)] (fun r u => u = σ ∧ ((r = 1 ∧ ¬ okH σ 29 30) ∨ (r = 0 ∧ okH σ 29 30))) := by
  refine CI_of (by decide +kernel) (Nat.le_of_ble_eq_true rfl) (by simp [Value.category]) ?_
  intro p e s m below meth c C hM hK
  refine z_iconst C dX1_contradict_0 (pc' := 1) rfl (v := 0) (by decide) ?_
  refine z_istore_n (L' := [.ref _, .ref _, .ref _, .int _]) C dX1_contradict_1 (pc' := 2) rfl rfl (by decide) (Nat.le_of_ble_eq_true rfl) rfl ?_
  refine z_loop (τ := Nat) (fun i => 16 - i) (fun i => i ≤ 16 ∧ ∀ j : Nat, j < i → σ 29 j ≤ σ 30 j) (fun i => σ) (fun i => [.ref (ad 10), .ref (ad 16), .ref (ad 17), .int (nI i)]) 0 ⟨by omega, fun j hj => absurd hj (by omega)⟩ rfl ⟨_, rfl⟩ ?_
  intro i hi ih2
  try dsimp only at hi ih2 ⊢
  refine z_iload_n C dX1_contradict_2 (pc' := 3) rfl rfl rfl ?_
  refine z_bipush C dX1_contradict_3 (pc' := 5) rfl (v := 16) (by decide) ?_
  refine z_icmp_ge (tgt := 25) C dX1_contradict_5 (pc' := 8) (by decide) rfl (fun c_5 => ?_) (fun c_5 => ?_)
  ·
    have n_5 : 16 ≤ i := ge_of_le (N := 16) (k := i) c_5 (by omega) (by omega)
    refine z_iconst C dX1_contradict_25 (pc' := 26) rfl (v := 0) (by decide) ?_
    exact z_zret C hM dX1_contradict_26 (by decide) ⟨rfl, Or.inr ⟨rfl, fun j hj => hi.2 j (by omega)⟩⟩
  ·
    have n_5 : i < 16 := lt_of_nle (N := 16) (k := i) c_5 (by omega) (by omega)
    refine z_aload_n C dX1_contradict_8 (pc' := 9) rfl rfl rfl ?_
    refine z_iload_n C dX1_contradict_9 (pc' := 10) rfl rfl rfl ?_
    refine z_iald C hK (by decide) kC_16 (t0 := 0) rfl (j := i) rfl (by omega) (by decide) rfl dX1_contradict_10 (pc' := 11) rfl ?_
    refine z_aload_n C dX1_contradict_11 (pc' := 12) rfl rfl rfl ?_
    refine z_iload_n C dX1_contradict_12 (pc' := 13) rfl rfl rfl ?_
    refine z_iald C hK (by decide) kC_17 (t0 := 0) rfl (j := i) rfl (by omega) (by decide) rfl dX1_contradict_13 (pc' := 14) rfl ?_
    refine z_icmp_le (tgt := 19) C dX1_contradict_14 (pc' := 17) (by decide) rfl (fun c_14 => ?_) (fun c_14 => ?_)
    ·
      refine z_iinc (L' := [.ref _, .ref _, .ref _, .int _]) C dX1_contradict_19 (pc' := 22) rfl rfl (iinc1 _) (by decide) (Nat.le_of_ble_eq_true rfl) rfl ?_
      refine z_goto C dX1_contradict_22 (pc' := 2) (by decide) ?_
      exact z_back 4 (ih2 (i + 1) ⟨by omega, fun j hj => by rcases Nat.lt_or_ge j i with q | q; exact hi.2 j q; exact (show j = i by omega) ▸ c_14⟩ (by omega)) rfl rfl
    ·
      refine z_iconst C dX1_contradict_17 (pc' := 18) rfl (v := 1) (by decide) ?_
      exact z_zret C hM dX1_contradict_18 (by decide) ⟨rfl, Or.inl ⟨rfl, fun q => c_14 (q i (by omega))⟩⟩
set_option maxRecDepth 100000 in
set_option maxHeartbeats 400000 in
theorem m_X1_fillBounds (l : Launch) {cA cB : ClassId} {D : va_G} {ad : Nat → Nat} (hI : Inj 67 ad) (σ : St) {n : Nat} (hn : n ≤ 20) (e5 : σ 0 5 = nI n) (hT : okT σ n) : CV l yX1_fillBounds cX1_fillBounds 2 2 40 D [(cA, .int), (cB, .object RX3)] 67 ad (cellC cA cB ad) σ [.ref (ad 10)] (fun u => u = fb2 (fb1 σ 16) n) := by
  refine CV_of (by decide +kernel) (Nat.le_of_ble_eq_true rfl) (by simp [Value.category]) ?_
  intro p e s m below meth c C hM hK
  refine z_iconst C dX1_fillBounds_0 (pc' := 1) rfl (v := 0) (by decide) ?_
  refine z_istore_n (L' := [.ref _, .int _]) C dX1_fillBounds_1 (pc' := 2) rfl rfl (by decide) (Nat.le_of_ble_eq_true rfl) rfl ?_
  refine z_loop (τ := Nat) (fun i => 16 - i) (fun i => i ≤ 16) (fun i => fb1 σ i) (fun i => [.ref (ad 10), .int (nI i)]) 0 (by omega) rfl ⟨_, rfl⟩ ?_
  intro i hi ih2
  try dsimp only at hi ih2 ⊢
  refine z_iload_n C dX1_fillBounds_2 (pc' := 3) rfl rfl rfl ?_
  refine z_bipush C dX1_fillBounds_3 (pc' := 5) rfl (v := 16) (by decide) ?_
  refine z_icmp_ge (tgt := 46) C dX1_fillBounds_5 (pc' := 8) (by decide) rfl (fun c_5 => ?_) (fun c_5 => ?_)
  ·
    have n_5 : 16 ≤ i := ge_of_le (N := 16) (k := i) c_5 (by omega) (by omega)
    obtain rfl : i = 16 := (by omega)
    refine z_iconst C dX1_fillBounds_46 (pc' := 47) rfl (v := 0) (by decide) ?_
    refine z_istore_n (L' := [.ref _, .int _]) C dX1_fillBounds_47 (pc' := 48) rfl rfl (by decide) (Nat.le_of_ble_eq_true rfl) rfl ?_
    refine z_loop (τ := Nat) (fun i => n - i) (fun i => i ≤ n) (fun i => fb2 (fb1 σ 16) i) (fun i => [.ref (ad 10), .int (nI i)]) 0 (by omega) rfl ⟨_, rfl⟩ ?_
    intro i hi ih48
    try dsimp only at hi ih48 ⊢
    refine z_iload_n C dX1_fillBounds_48 (pc' := 49) rfl rfl rfl ?_
    refine z_aload_n C dX1_fillBounds_49 (pc' := 50) rfl rfl rfl ?_
    refine z_get C hK (by decide) kC_10 rfl inAX1 (k := 0) (by decide) aw_85 rfl dX1_fillBounds_50 (pc' := 53) rfl ?_
    refine z_top (y := nI n) (by rw [fb2_o (by decide) (by decide) (by decide) (by decide), fb1_o (by decide) (by decide) (by decide) (by decide), e5]) ?_
    refine z_icmp_ge (tgt := 102) C dX1_fillBounds_53 (pc' := 56) (by decide) rfl (fun c_53 => ?_) (fun c_53 => ?_)
    ·
      have n_53 : n ≤ i := ge_of_le (N := n) (k := i) c_53 (by omega) (by omega)
      obtain rfl : n = i := (by omega)
      exact z_vret C hM dX1_fillBounds_102 rfl
    ·
      have n_53 : i < n := lt_of_nle (N := n) (k := i) c_53 (by omega) (by omega)
      obtain ⟨w, hw, ew⟩ := hT i (by omega)
      refine z_aload_n C dX1_fillBounds_56 (pc' := 57) rfl rfl rfl ?_
      refine z_get C hK (by decide) kC_10 rfl inAX1 (k := 2) (by decide) aw_88 rfl dX1_fillBounds_57 (pc' := 60) rfl ?_
      refine z_iload_n C dX1_fillBounds_60 (pc' := 61) rfl rfl rfl ?_
      refine z_iald C hK (by decide) kC_12 (t0 := 0) rfl (j := i) rfl (by omega) (by decide) rfl dX1_fillBounds_61 (pc' := 62) rfl ?_
      refine z_if_ne (tgt := 82) C dX1_fillBounds_62 (pc' := 65) (by decide) rfl (fun c_62 => ?_) (fun c_62 => ?_)
      ·
        refine z_aload_n C dX1_fillBounds_82 (pc' := 83) rfl rfl rfl ?_
        refine z_aload_n C dX1_fillBounds_83 (pc' := 84) rfl rfl rfl ?_
        refine z_get C hK (by decide) kC_10 rfl inAX1 (k := 6) (by decide) aw_92 rfl dX1_fillBounds_84 (pc' := 87) rfl ?_
        refine z_aload_n C dX1_fillBounds_87 (pc' := 88) rfl rfl rfl ?_
        refine z_get C hK (by decide) kC_10 rfl inAX1 (k := 7) (by decide) aw_93 rfl dX1_fillBounds_88 (pc' := 91) rfl ?_
        refine z_iload_n C dX1_fillBounds_91 (pc' := 92) rfl rfl rfl ?_
        refine z_iconst C dX1_fillBounds_92 (pc' := 93) rfl (v := 5) (by decide) ?_
        refine z_callV C hK (m_X1_narrow_r l hI _ (i := i) (w := w) (by omega) hw ((congrFun (fb2_o (T := (fb1 σ 16)) (by decide) (by decide) (by decide) (by decide) i) i).trans ((congrFun (fb1_o (by decide) (by decide) (by decide) (by decide) 16) i).trans ew)) _) AdS_in aw_364 aw_366 aw_11 aw_30 aw_367 (by decide) kC_10 rfl (nA := 4) (by decide +kernel) rfl ⟨Nat.le_of_ble_eq_true rfl, Nat.le_of_ble_eq_true rfl⟩ (rest := []) rfl (Nat.le_of_ble_eq_true rfl) ⟨Nat.zero_le _, Nat.zero_le _⟩ dX1_fillBounds_93 (pc' := 96) rfl (fun u_93 h_93 => ?_)
        rw [h_93]
        refine z_iinc (L' := [.ref _, .int _]) C dX1_fillBounds_96 (pc' := 99) rfl rfl (iinc1 _) (by decide) (Nat.le_of_ble_eq_true rfl) rfl ?_
        refine z_goto C dX1_fillBounds_99 (pc' := 48) (by decide) ?_
        exact z_back 2 (ih48 (i + 1) (by omega) (by omega)) (by rw [fb2, show wn ((fb1 σ 16) 7 i) = w from (by rw [fb1_o (by decide) (by decide) (by decide) (by decide)]; exact wn_of ew hw)]; first | rw [if_pos c_62] | rw [if_neg c_62]) rfl
      ·
        refine z_aload_n C dX1_fillBounds_65 (pc' := 66) rfl rfl rfl ?_
        refine z_aload_n C dX1_fillBounds_66 (pc' := 67) rfl rfl rfl ?_
        refine z_get C hK (by decide) kC_10 rfl inAX1 (k := 4) (by decide) aw_90 rfl dX1_fillBounds_67 (pc' := 70) rfl ?_
        refine z_aload_n C dX1_fillBounds_70 (pc' := 71) rfl rfl rfl ?_
        refine z_get C hK (by decide) kC_10 rfl inAX1 (k := 5) (by decide) aw_91 rfl dX1_fillBounds_71 (pc' := 74) rfl ?_
        refine z_iload_n C dX1_fillBounds_74 (pc' := 75) rfl rfl rfl ?_
        refine z_iconst C dX1_fillBounds_75 (pc' := 76) rfl (v := 2) (by decide) ?_
        refine z_callV C hK (m_X1_narrow_h l hI _ (i := i) (w := w) (by omega) hw ((congrFun (fb2_o (T := (fb1 σ 16)) (by decide) (by decide) (by decide) (by decide) i) i).trans ((congrFun (fb1_o (by decide) (by decide) (by decide) (by decide) 16) i).trans ew)) _) AdS_in aw_364 aw_366 aw_11 aw_30 aw_367 (by decide) kC_10 rfl (nA := 4) (by decide +kernel) rfl ⟨Nat.le_of_ble_eq_true rfl, Nat.le_of_ble_eq_true rfl⟩ (rest := []) rfl (Nat.le_of_ble_eq_true rfl) ⟨Nat.zero_le _, Nat.zero_le _⟩ dX1_fillBounds_76 (pc' := 79) rfl (fun u_76 h_76 => ?_)
        rw [h_76]
        refine z_goto C dX1_fillBounds_79 (pc' := 96) (by decide) ?_
        refine z_iinc (L' := [.ref _, .int _]) C dX1_fillBounds_96 (pc' := 99) rfl rfl (iinc1 _) (by decide) (Nat.le_of_ble_eq_true rfl) rfl ?_
        refine z_goto C dX1_fillBounds_99 (pc' := 48) (by decide) ?_
        exact z_back 2 (ih48 (i + 1) (by omega) (by omega)) (by rw [fb2, show wn ((fb1 σ 16) 7 i) = w from (by rw [fb1_o (by decide) (by decide) (by decide) (by decide)]; exact wn_of ew hw)]; first | rw [if_pos c_62] | rw [if_neg c_62]) rfl
  ·
    have n_5 : i < 16 := lt_of_nle (N := 16) (k := i) c_5 (by omega) (by omega)
    refine z_aload_n C dX1_fillBounds_8 (pc' := 9) rfl rfl rfl ?_
    refine z_get C hK (by decide) kC_10 rfl inAX1 (k := 4) (by decide) aw_90 rfl dX1_fillBounds_9 (pc' := 12) rfl ?_
    refine z_iload_n C dX1_fillBounds_12 (pc' := 13) rfl rfl rfl ?_
    refine z_ldc C dX1_fillBounds_13 (pc' := 15) rfl aw_362 ?_
    refine z_iast C hK hI AdS_in (by decide) kC_14 sC_a14 oC_a14 (t0 := 0) rfl (j := i) rfl (by omega) (by decide) dX1_fillBounds_15 (pc' := 16) rfl ?_
    refine z_aload_n C dX1_fillBounds_16 (pc' := 17) rfl rfl rfl ?_
    refine z_get C hK (by decide) kC_10 rfl inAX1 (k := 5) (by decide) aw_91 rfl dX1_fillBounds_17 (pc' := 20) rfl ?_
    refine z_iload_n C dX1_fillBounds_20 (pc' := 21) rfl rfl rfl ?_
    refine z_ldc C dX1_fillBounds_21 (pc' := 23) rfl aw_363 ?_
    refine z_iast C hK hI AdS_in (by decide) kC_15 sC_a15 oC_a15 (t0 := 0) rfl (j := i) rfl (by omega) (by decide) dX1_fillBounds_23 (pc' := 24) rfl ?_
    refine z_aload_n C dX1_fillBounds_24 (pc' := 25) rfl rfl rfl ?_
    refine z_get C hK (by decide) kC_10 rfl inAX1 (k := 6) (by decide) aw_92 rfl dX1_fillBounds_25 (pc' := 28) rfl ?_
    refine z_iload_n C dX1_fillBounds_28 (pc' := 29) rfl rfl rfl ?_
    refine z_ldc C dX1_fillBounds_29 (pc' := 31) rfl aw_362 ?_
    refine z_iast C hK hI AdS_in (by decide) kC_16 sC_a16 oC_a16 (t0 := 0) rfl (j := i) rfl (by omega) (by decide) dX1_fillBounds_31 (pc' := 32) rfl ?_
    refine z_aload_n C dX1_fillBounds_32 (pc' := 33) rfl rfl rfl ?_
    refine z_get C hK (by decide) kC_10 rfl inAX1 (k := 7) (by decide) aw_93 rfl dX1_fillBounds_33 (pc' := 36) rfl ?_
    refine z_iload_n C dX1_fillBounds_36 (pc' := 37) rfl rfl rfl ?_
    refine z_ldc C dX1_fillBounds_37 (pc' := 39) rfl aw_363 ?_
    refine z_iast C hK hI AdS_in (by decide) kC_17 sC_a17 oC_a17 (t0 := 0) rfl (j := i) rfl (by omega) (by decide) dX1_fillBounds_39 (pc' := 40) rfl ?_
    refine z_iinc (L' := [.ref _, .int _]) C dX1_fillBounds_40 (pc' := 43) rfl rfl (iinc1 _) (by decide) (Nat.le_of_ble_eq_true rfl) rfl ?_
    refine z_goto C dX1_fillBounds_43 (pc' := 2) (by decide) ?_
    exact z_back 2 (ih2 (i + 1) (by omega) (by omega)) rfl rfl
set_option maxRecDepth 100000 in
set_option maxHeartbeats 400000 in
theorem m_X1_leastOffset (l : Launch) {cA cB : ClassId} {D : va_G} {ad : Nat → Nat} (hI : Inj 67 ad) (σ : St)  : CI l yX1_leastOffset cX1_leastOffset 3 .int 1 13 D [(cA, .int), (cB, .object RX3)] 67 ad (cellC cA cB ad) σ [.ref (ad 10)] (fun r u => r = loO σ 16 ∧ u = σ) := by
  refine CI_of (by decide +kernel) (Nat.le_of_ble_eq_true rfl) (by simp [Value.category]) ?_
  intro p e s m below meth c C hM hK
  refine z_sipush C dX1_leastOffset_0 (pc' := 3) rfl (v := (-200)) (by decide) ?_
  refine z_istore_n (L' := [.ref _, .int _]) C dX1_leastOffset_3 (pc' := 4) rfl rfl (by decide) (Nat.le_of_ble_eq_true rfl) rfl ?_
  refine z_iconst C dX1_leastOffset_4 (pc' := 5) rfl (v := 0) (by decide) ?_
  refine z_istore_n (L' := [.ref _, .int _, .int _]) C dX1_leastOffset_5 (pc' := 6) rfl rfl (by decide) (Nat.le_of_ble_eq_true rfl) rfl ?_
  refine z_loop (τ := Nat) (fun i => 16 - i) (fun i => i ≤ 16) (fun i => σ) (fun i => [.ref (ad 10), .int (loO σ i), .int (nI i)]) 0 (by omega) rfl ⟨_, rfl⟩ ?_
  intro i hi ih6
  try dsimp only at hi ih6 ⊢
  refine z_iload_n C dX1_leastOffset_6 (pc' := 7) rfl rfl rfl ?_
  refine z_bipush C dX1_leastOffset_7 (pc' := 9) rfl (v := 16) (by decide) ?_
  refine z_icmp_ge (tgt := 36) C dX1_leastOffset_9 (pc' := 12) (by decide) rfl (fun c_9 => ?_) (fun c_9 => ?_)
  ·
    have n_9 : 16 ≤ i := ge_of_le (N := 16) (k := i) c_9 (by omega) (by omega)
    obtain rfl : i = 16 := (by omega)
    refine z_iload_n C dX1_leastOffset_36 (pc' := 37) rfl rfl rfl ?_
    exact z_iret C hM dX1_leastOffset_37 ⟨rfl, rfl⟩
  ·
    have n_9 : i < 16 := lt_of_nle (N := 16) (k := i) c_9 (by omega) (by omega)
    refine z_iload_n C dX1_leastOffset_12 (pc' := 13) rfl rfl rfl ?_
    refine z_aload_n C dX1_leastOffset_13 (pc' := 14) rfl rfl rfl ?_
    refine z_get C hK (by decide) kC_10 rfl inAX1 (k := 6) (by decide) aw_92 rfl dX1_leastOffset_14 (pc' := 17) rfl ?_
    refine z_iload_n C dX1_leastOffset_17 (pc' := 18) rfl rfl rfl ?_
    refine z_iald C hK (by decide) kC_16 (t0 := 0) rfl (j := i) rfl (by omega) (by decide) rfl dX1_leastOffset_18 (pc' := 19) rfl ?_
    refine z_aload_n C dX1_leastOffset_19 (pc' := 20) rfl rfl rfl ?_
    refine z_get C hK (by decide) kC_10 rfl inAX1 (k := 5) (by decide) aw_91 rfl dX1_leastOffset_20 (pc' := 23) rfl ?_
    refine z_iload_n C dX1_leastOffset_23 (pc' := 24) rfl rfl rfl ?_
    refine z_iald C hK (by decide) kC_15 (t0 := 0) rfl (j := i) rfl (by omega) (by decide) rfl dX1_leastOffset_24 (pc' := 25) rfl ?_
    refine z_isub C dX1_leastOffset_25 (pc' := 26) rfl rfl ?_
    refine z_max C aw_368 aw_221 aw_33 aw_222 ⟨Nat.le_of_ble_eq_true rfl, Nat.le_of_ble_eq_true rfl⟩ ⟨Nat.zero_le _, Nat.zero_le _⟩ dX1_leastOffset_26 (pc' := 29) rfl ?_
    refine z_istore_n (L' := [.ref _, .int _, .int _]) C dX1_leastOffset_29 (pc' := 30) rfl rfl (by decide) (Nat.le_of_ble_eq_true rfl) rfl ?_
    refine z_iinc (L' := [.ref _, .int _, .int _]) C dX1_leastOffset_30 (pc' := 33) rfl rfl (iinc1 _) (by decide) (Nat.le_of_ble_eq_true rfl) rfl ?_
    refine z_goto C dX1_leastOffset_33 (pc' := 6) (by decide) ?_
    exact z_back 3 (ih6 (i + 1) (by omega) (by omega)) rfl rfl
set_option maxRecDepth 100000 in
set_option maxHeartbeats 400000 in
theorem m_X1_greatestOffset (l : Launch) {cA cB : ClassId} {D : va_G} {ad : Nat → Nat} (hI : Inj 67 ad) (σ : St)  : CI l yX1_greatestOffset cX1_greatestOffset 3 .int 1 13 D [(cA, .int), (cB, .object RX3)] 67 ad (cellC cA cB ad) σ [.ref (ad 10)] (fun r u => r = goO σ 16 ∧ u = σ) := by
  refine CI_of (by decide +kernel) (Nat.le_of_ble_eq_true rfl) (by simp [Value.category]) ?_
  intro p e s m below meth c C hM hK
  refine z_sipush C dX1_greatestOffset_0 (pc' := 3) rfl (v := 200) (by decide) ?_
  refine z_istore_n (L' := [.ref _, .int _]) C dX1_greatestOffset_3 (pc' := 4) rfl rfl (by decide) (Nat.le_of_ble_eq_true rfl) rfl ?_
  refine z_iconst C dX1_greatestOffset_4 (pc' := 5) rfl (v := 0) (by decide) ?_
  refine z_istore_n (L' := [.ref _, .int _, .int _]) C dX1_greatestOffset_5 (pc' := 6) rfl rfl (by decide) (Nat.le_of_ble_eq_true rfl) rfl ?_
  refine z_loop (τ := Nat) (fun i => 16 - i) (fun i => i ≤ 16) (fun i => σ) (fun i => [.ref (ad 10), .int (goO σ i), .int (nI i)]) 0 (by omega) rfl ⟨_, rfl⟩ ?_
  intro i hi ih6
  try dsimp only at hi ih6 ⊢
  refine z_iload_n C dX1_greatestOffset_6 (pc' := 7) rfl rfl rfl ?_
  refine z_bipush C dX1_greatestOffset_7 (pc' := 9) rfl (v := 16) (by decide) ?_
  refine z_icmp_ge (tgt := 36) C dX1_greatestOffset_9 (pc' := 12) (by decide) rfl (fun c_9 => ?_) (fun c_9 => ?_)
  ·
    have n_9 : 16 ≤ i := ge_of_le (N := 16) (k := i) c_9 (by omega) (by omega)
    obtain rfl : i = 16 := (by omega)
    refine z_iload_n C dX1_greatestOffset_36 (pc' := 37) rfl rfl rfl ?_
    exact z_iret C hM dX1_greatestOffset_37 ⟨rfl, rfl⟩
  ·
    have n_9 : i < 16 := lt_of_nle (N := 16) (k := i) c_9 (by omega) (by omega)
    refine z_iload_n C dX1_greatestOffset_12 (pc' := 13) rfl rfl rfl ?_
    refine z_aload_n C dX1_greatestOffset_13 (pc' := 14) rfl rfl rfl ?_
    refine z_get C hK (by decide) kC_10 rfl inAX1 (k := 7) (by decide) aw_93 rfl dX1_greatestOffset_14 (pc' := 17) rfl ?_
    refine z_iload_n C dX1_greatestOffset_17 (pc' := 18) rfl rfl rfl ?_
    refine z_iald C hK (by decide) kC_17 (t0 := 0) rfl (j := i) rfl (by omega) (by decide) rfl dX1_greatestOffset_18 (pc' := 19) rfl ?_
    refine z_aload_n C dX1_greatestOffset_19 (pc' := 20) rfl rfl rfl ?_
    refine z_get C hK (by decide) kC_10 rfl inAX1 (k := 4) (by decide) aw_90 rfl dX1_greatestOffset_20 (pc' := 23) rfl ?_
    refine z_iload_n C dX1_greatestOffset_23 (pc' := 24) rfl rfl rfl ?_
    refine z_iald C hK (by decide) kC_14 (t0 := 0) rfl (j := i) rfl (by omega) (by decide) rfl dX1_greatestOffset_24 (pc' := 25) rfl ?_
    refine z_isub C dX1_greatestOffset_25 (pc' := 26) rfl rfl ?_
    refine z_min C aw_369 aw_228 aw_33 aw_229 ⟨Nat.le_of_ble_eq_true rfl, Nat.le_of_ble_eq_true rfl⟩ ⟨Nat.zero_le _, Nat.zero_le _⟩ dX1_greatestOffset_26 (pc' := 29) rfl ?_
    refine z_istore_n (L' := [.ref _, .int _, .int _]) C dX1_greatestOffset_29 (pc' := 30) rfl rfl (by decide) (Nat.le_of_ble_eq_true rfl) rfl ?_
    refine z_iinc (L' := [.ref _, .int _, .int _]) C dX1_greatestOffset_30 (pc' := 33) rfl rfl (iinc1 _) (by decide) (Nat.le_of_ble_eq_true rfl) rfl ?_
    refine z_goto C dX1_greatestOffset_33 (pc' := 6) (by decide) ?_
    exact z_back 3 (ih6 (i + 1) (by omega) (by omega)) rfl rfl
set_option maxRecDepth 100000 in
set_option maxHeartbeats 400000 in
theorem m_X1_agreeingOffsets (l : Launch) {cA cB : ClassId} {D : va_G} {ad : Nat → Nat} (hI : Inj 67 ad) (σ : St)  : CI l yX1_agreeingOffsets cX1_agreeingOffsets 1 .int 2 35 D [(cA, .int), (cB, .object RX3)] 67 ad (cellC cA cB ad) σ [.ref (ad 10)] (fun r u => u = σ ∧ ((¬ (okH σ 27 28 ∧ okH σ 29 30) ∧ r = 0) ∨ ((okH σ 27 28 ∧ okH σ 29 30) ∧ r = mx 0 (goO σ 16 - loO σ 16 + 1)))) := by
  refine CI_of (by decide +kernel) (Nat.le_of_ble_eq_true rfl) (by simp [Value.category]) ?_
  intro p e s m below meth c C hM hK
  refine z_aload_n C dX1_agreeingOffsets_0 (pc' := 1) rfl rfl rfl ?_
  refine z_aload_n C dX1_agreeingOffsets_1 (pc' := 2) rfl rfl rfl ?_
  refine z_get C hK (by decide) kC_10 rfl inAX1 (k := 4) (by decide) aw_90 rfl dX1_agreeingOffsets_2 (pc' := 5) rfl ?_
  refine z_aload_n C dX1_agreeingOffsets_5 (pc' := 6) rfl rfl rfl ?_
  refine z_get C hK (by decide) kC_10 rfl inAX1 (k := 5) (by decide) aw_91 rfl dX1_agreeingOffsets_6 (pc' := 9) rfl ?_
  refine z_callI C hK (m_X1_contradict_h l hI _) AdS_in aw_374 aw_376 aw_12 aw_30 aw_377 (by decide) kC_10 rfl (nA := 2) (by decide +kernel) rfl ⟨Nat.le_of_ble_eq_true rfl, Nat.le_of_ble_eq_true rfl⟩ (rest := []) rfl (Nat.le_of_ble_eq_true rfl) ⟨Nat.zero_le _, Nat.zero_le _⟩ dX1_agreeingOffsets_9 (pc' := 12) rfl (fun r_9 u_9 h_9 => ?_)
  obtain ⟨hu_9, h_9⟩ := h_9
  rw [hu_9]
  rcases h_9 with ⟨rfl, h_9⟩ | ⟨rfl, h_9⟩
  ·
    refine z_if_ne (tgt := 30) C dX1_agreeingOffsets_12 (pc' := 15) (by decide) rfl (fun _ => ?_) (fun q => absurd q (by decide))
    refine z_iconst C dX1_agreeingOffsets_30 (pc' := 31) rfl (v := 0) (by decide) ?_
    exact z_iret C hM dX1_agreeingOffsets_31 ⟨rfl, Or.inl ⟨by first | exact fun q => h_24 q.2 | exact fun q => h_9 q.1, rfl⟩⟩
  ·
    refine z_if_ne (tgt := 30) C dX1_agreeingOffsets_12 (pc' := 15) (by decide) rfl (fun q => absurd q (by decide)) (fun _ => ?_)
    refine z_aload_n C dX1_agreeingOffsets_15 (pc' := 16) rfl rfl rfl ?_
    refine z_aload_n C dX1_agreeingOffsets_16 (pc' := 17) rfl rfl rfl ?_
    refine z_get C hK (by decide) kC_10 rfl inAX1 (k := 6) (by decide) aw_92 rfl dX1_agreeingOffsets_17 (pc' := 20) rfl ?_
    refine z_aload_n C dX1_agreeingOffsets_20 (pc' := 21) rfl rfl rfl ?_
    refine z_get C hK (by decide) kC_10 rfl inAX1 (k := 7) (by decide) aw_93 rfl dX1_agreeingOffsets_21 (pc' := 24) rfl ?_
    refine z_callI C hK (m_X1_contradict_r l hI _) AdS_in aw_374 aw_376 aw_12 aw_30 aw_377 (by decide) kC_10 rfl (nA := 2) (by decide +kernel) rfl ⟨Nat.le_of_ble_eq_true rfl, Nat.le_of_ble_eq_true rfl⟩ (rest := []) rfl (Nat.le_of_ble_eq_true rfl) ⟨Nat.zero_le _, Nat.zero_le _⟩ dX1_agreeingOffsets_24 (pc' := 27) rfl (fun r_24 u_24 h_24 => ?_)
    obtain ⟨hu_24, h_24⟩ := h_24
    rw [hu_24]
    rcases h_24 with ⟨rfl, h_24⟩ | ⟨rfl, h_24⟩
    ·
      refine z_if_eq (tgt := 32) C dX1_agreeingOffsets_27 (pc' := 30) (by decide) rfl (fun q => absurd q (by decide)) (fun _ => ?_)
      refine z_iconst C dX1_agreeingOffsets_30 (pc' := 31) rfl (v := 0) (by decide) ?_
      exact z_iret C hM dX1_agreeingOffsets_31 ⟨rfl, Or.inl ⟨by first | exact fun q => h_24 q.2 | exact fun q => h_9 q.1, rfl⟩⟩
    ·
      refine z_if_eq (tgt := 32) C dX1_agreeingOffsets_27 (pc' := 30) (by decide) rfl (fun _ => ?_) (fun q => absurd q (by decide))
      refine z_iconst C dX1_agreeingOffsets_32 (pc' := 33) rfl (v := 0) (by decide) ?_
      refine z_aload_n C dX1_agreeingOffsets_33 (pc' := 34) rfl rfl rfl ?_
      refine z_callI C hK (m_X1_greatestOffset l hI _) AdS_in aw_391 aw_392 aw_393 aw_30 aw_394 (by decide) kC_10 rfl (nA := 0) (by decide +kernel) rfl ⟨Nat.le_of_ble_eq_true rfl, Nat.le_of_ble_eq_true rfl⟩ (rest := [_]) rfl (Nat.le_of_ble_eq_true rfl) ⟨Nat.zero_le _, Nat.zero_le _⟩ dX1_agreeingOffsets_34 (pc' := 37) rfl (fun r_34 u_34 h_34 => ?_)
      obtain ⟨hr_34, hu_34⟩ := h_34
      rw [hr_34, hu_34]
      refine z_aload_n C dX1_agreeingOffsets_37 (pc' := 38) rfl rfl rfl ?_
      refine z_callI C hK (m_X1_leastOffset l hI _) AdS_in aw_395 aw_396 aw_397 aw_30 aw_398 (by decide) kC_10 rfl (nA := 0) (by decide +kernel) rfl ⟨Nat.le_of_ble_eq_true rfl, Nat.le_of_ble_eq_true rfl⟩ (rest := [_, _]) rfl (Nat.le_of_ble_eq_true rfl) ⟨Nat.zero_le _, Nat.zero_le _⟩ dX1_agreeingOffsets_38 (pc' := 41) rfl (fun r_38 u_38 h_38 => ?_)
      obtain ⟨hr_38, hu_38⟩ := h_38
      rw [hr_38, hu_38]
      refine z_isub C dX1_agreeingOffsets_41 (pc' := 42) rfl rfl ?_
      refine z_iconst C dX1_agreeingOffsets_42 (pc' := 43) rfl (v := 1) (by decide) ?_
      refine z_iadd C dX1_agreeingOffsets_43 (pc' := 44) rfl rfl ?_
      refine z_max C aw_368 aw_221 aw_33 aw_222 ⟨Nat.le_of_ble_eq_true rfl, Nat.le_of_ble_eq_true rfl⟩ ⟨Nat.zero_le _, Nat.zero_le _⟩ dX1_agreeingOffsets_44 (pc' := 47) rfl ?_
      exact z_iret C hM dX1_agreeingOffsets_47 ⟨rfl, Or.inr ⟨⟨h_9, h_24⟩, rfl⟩⟩
set_option maxRecDepth 100000 in
set_option maxHeartbeats 400000 in
theorem m_X1_agreeingFrom (l : Launch) {cA cB : ClassId} {D : va_G} {ad : Nat → Nat} (hI : Inj 67 ad) (σ : St) {n : Nat} (hn : n ≤ 20) (e5 : σ 0 5 = nI n) {i w : Nat} (hi : i < 20) (hw : w < 16) (ew : σ 7 i = nI w) (o : Int32) : CI l yX1_agreeingFrom cX1_agreeingFrom 8 .int 1 14 D [(cA, .int), (cB, .object RX3)] 67 ad (cellC cA cB ad) σ [.ref (ad 10), .int (nI i), .int o] (fun r u => r = agF σ o i w n ∧ u = σ) := by
  refine CI_of (by decide +kernel) (Nat.le_of_ble_eq_true rfl) (by simp [Value.category]) ?_
  intro p e s m below meth c C hM hK
  refine z_aload_n C dX1_agreeingFrom_0 (pc' := 1) rfl rfl rfl ?_
  refine z_get C hK (by decide) kC_10 rfl inAX1 (k := 1) (by decide) aw_87 rfl dX1_agreeingFrom_1 (pc' := 4) rfl ?_
  refine z_iload_n C dX1_agreeingFrom_4 (pc' := 5) rfl rfl rfl ?_
  refine z_iald C hK (by decide) kC_11 (t0 := 0) rfl (j := i) rfl (by omega) (by decide) rfl dX1_agreeingFrom_5 (pc' := 6) rfl ?_
  refine z_top (y := nI w) ew ?_
  refine z_istore_n (L' := [.ref _, .int _, .int _, .int _]) C dX1_agreeingFrom_6 (pc' := 7) rfl rfl (by decide) (Nat.le_of_ble_eq_true rfl) rfl ?_
  refine z_aload_n C dX1_agreeingFrom_7 (pc' := 8) rfl rfl rfl ?_
  refine z_get C hK (by decide) kC_10 rfl inAX1 (k := 3) (by decide) aw_89 rfl dX1_agreeingFrom_8 (pc' := 11) rfl ?_
  refine z_iload_n C dX1_agreeingFrom_11 (pc' := 12) rfl rfl rfl ?_
  refine z_iald C hK (by decide) kC_13 (t0 := 0) rfl (j := i) rfl (by omega) (by decide) rfl dX1_agreeingFrom_12 (pc' := 13) rfl ?_
  refine z_iconst C dX1_agreeingFrom_13 (pc' := 14) rfl (v := 5) (by decide) ?_
  refine z_isub C dX1_agreeingFrom_14 (pc' := 15) rfl rfl ?_
  refine z_istore (L' := [.ref _, .int _, .int _, .int _, .int _]) C dX1_agreeingFrom_15 (pc' := 17) rfl (by decide) (Nat.le_of_ble_eq_true rfl) rfl ?_
  refine z_aload_n C dX1_agreeingFrom_17 (pc' := 18) rfl rfl rfl ?_
  refine z_get C hK (by decide) kC_10 rfl inAX1 (k := 4) (by decide) aw_90 rfl dX1_agreeingFrom_18 (pc' := 21) rfl ?_
  refine z_iload_n C dX1_agreeingFrom_21 (pc' := 22) rfl rfl rfl ?_
  refine z_iald C hK (by decide) kC_14 (t0 := 0) rfl (j := w) rfl (by omega) (by decide) rfl dX1_agreeingFrom_22 (pc' := 23) rfl ?_
  refine z_iload_n C dX1_agreeingFrom_23 (pc' := 24) rfl rfl rfl ?_
  refine z_iadd C dX1_agreeingFrom_24 (pc' := 25) rfl rfl ?_
  refine z_aload_n C dX1_agreeingFrom_25 (pc' := 26) rfl rfl rfl ?_
  refine z_get C hK (by decide) kC_10 rfl inAX1 (k := 5) (by decide) aw_91 rfl dX1_agreeingFrom_26 (pc' := 29) rfl ?_
  refine z_iload_n C dX1_agreeingFrom_29 (pc' := 30) rfl rfl rfl ?_
  refine z_iald C hK (by decide) kC_15 (t0 := 0) rfl (j := w) rfl (by omega) (by decide) rfl dX1_agreeingFrom_30 (pc' := 31) rfl ?_
  refine z_iload_n C dX1_agreeingFrom_31 (pc' := 32) rfl rfl rfl ?_
  refine z_iadd C dX1_agreeingFrom_32 (pc' := 33) rfl rfl ?_
  refine z_iload C dX1_agreeingFrom_33 (pc' := 35) rfl rfl ?_
  refine z_min C aw_369 aw_228 aw_33 aw_229 ⟨Nat.le_of_ble_eq_true rfl, Nat.le_of_ble_eq_true rfl⟩ ⟨Nat.zero_le _, Nat.zero_le _⟩ dX1_agreeingFrom_35 (pc' := 38) rfl ?_
  refine z_max C aw_368 aw_221 aw_33 aw_222 ⟨Nat.le_of_ble_eq_true rfl, Nat.le_of_ble_eq_true rfl⟩ ⟨Nat.zero_le _, Nat.zero_le _⟩ dX1_agreeingFrom_38 (pc' := 41) rfl ?_
  refine z_istore (L' := [.ref _, .int _, .int _, .int _, .int _, .int _]) C dX1_agreeingFrom_41 (pc' := 43) rfl (by decide) (Nat.le_of_ble_eq_true rfl) rfl ?_
  refine z_iconst C dX1_agreeingFrom_43 (pc' := 44) rfl (v := 0) (by decide) ?_
  refine z_istore (L' := [.ref _, .int _, .int _, .int _, .int _, .int _, .int _]) C dX1_agreeingFrom_44 (pc' := 46) rfl (by decide) (Nat.le_of_ble_eq_true rfl) rfl ?_
  refine z_iconst C dX1_agreeingFrom_46 (pc' := 47) rfl (v := 0) (by decide) ?_
  refine z_istore (L' := [.ref _, .int _, .int _, .int _, .int _, .int _, .int _, .int _]) C dX1_agreeingFrom_47 (pc' := 49) rfl (by decide) (Nat.le_of_ble_eq_true rfl) rfl ?_
  refine z_loop (τ := Nat) (fun j => n - j) (fun j => j ≤ n) (fun j => σ) (fun j => [.ref (ad 10), .int (nI i), .int o, .int (nI w), .int (σ 9 i - 5), .int (shF σ w o (σ 9 i - 5)), .int (agL σ w (shF σ w o (σ 9 i - 5)) j), .int (nI j)]) 0 (by omega) rfl ⟨_, rfl⟩ ?_
  intro j hj ih49
  try dsimp only at hj ih49 ⊢
  refine z_iload C dX1_agreeingFrom_49 (pc' := 51) rfl rfl ?_
  refine z_aload_n C dX1_agreeingFrom_51 (pc' := 52) rfl rfl rfl ?_
  refine z_get C hK (by decide) kC_10 rfl inAX1 (k := 0) (by decide) aw_85 rfl dX1_agreeingFrom_52 (pc' := 55) rfl ?_
  refine z_top (y := nI n) e5 ?_
  refine z_icmp_ge (tgt := 106) C dX1_agreeingFrom_55 (pc' := 58) (by decide) rfl (fun c_55 => ?_) (fun c_55 => ?_)
  ·
    have n_55 : n ≤ j := ge_of_le (N := n) (k := j) c_55 (by omega) (by omega)
    obtain rfl : n = j := (by omega)
    refine z_iload C dX1_agreeingFrom_106 (pc' := 108) rfl rfl ?_
    exact z_iret C hM dX1_agreeingFrom_108 ⟨rfl, rfl⟩
  ·
    have n_55 : j < n := lt_of_nle (N := n) (k := j) c_55 (by omega) (by omega)
    refine z_aload_n C dX1_agreeingFrom_58 (pc' := 59) rfl rfl rfl ?_
    refine z_get C hK (by decide) kC_10 rfl inAX1 (k := 2) (by decide) aw_88 rfl dX1_agreeingFrom_59 (pc' := 62) rfl ?_
    refine z_iload C dX1_agreeingFrom_62 (pc' := 64) rfl rfl ?_
    refine z_iald C hK (by decide) kC_12 (t0 := 0) rfl (j := j) rfl (by omega) (by decide) rfl dX1_agreeingFrom_64 (pc' := 65) rfl ?_
    refine z_iconst C dX1_agreeingFrom_65 (pc' := 66) rfl (v := 1) (by decide) ?_
    refine z_icmp_ne (tgt := 100) C dX1_agreeingFrom_66 (pc' := 69) (by decide) rfl (fun c_66 => ?_) (fun c_66 => ?_)
    ·
      refine z_iinc (L' := [.ref _, .int _, .int _, .int _, .int _, .int _, .int _, .int _]) C dX1_agreeingFrom_100 (pc' := 103) rfl rfl (iinc1 _) (by decide) (Nat.le_of_ble_eq_true rfl) rfl ?_
      refine z_goto C dX1_agreeingFrom_103 (pc' := 49) (by decide) ?_
      exact z_back 8 (ih49 (j + 1) (by omega) (by omega)) rfl (by simp only [List.take, agL]; first | (rw [if_pos]; exact ⟨c_66, c_77, i32_nlt c_94⟩) | (rw [if_neg]; exact fun q => i32_nle c_94 q.2.2) | (rw [if_neg]; exact fun q => c_77 q.2.1) | (rw [if_neg]; exact fun q => c_66 q.1))
    ·
      refine z_aload_n C dX1_agreeingFrom_69 (pc' := 70) rfl rfl rfl ?_
      refine z_get C hK (by decide) kC_10 rfl inAX1 (k := 1) (by decide) aw_87 rfl dX1_agreeingFrom_70 (pc' := 73) rfl ?_
      refine z_iload C dX1_agreeingFrom_73 (pc' := 75) rfl rfl ?_
      refine z_iald C hK (by decide) kC_11 (t0 := 0) rfl (j := j) rfl (by omega) (by decide) rfl dX1_agreeingFrom_75 (pc' := 76) rfl ?_
      refine z_iload_n C dX1_agreeingFrom_76 (pc' := 77) rfl rfl rfl ?_
      refine z_icmp_ne (tgt := 100) C dX1_agreeingFrom_77 (pc' := 80) (by decide) rfl (fun c_77 => ?_) (fun c_77 => ?_)
      ·
        refine z_iinc (L' := [.ref _, .int _, .int _, .int _, .int _, .int _, .int _, .int _]) C dX1_agreeingFrom_100 (pc' := 103) rfl rfl (iinc1 _) (by decide) (Nat.le_of_ble_eq_true rfl) rfl ?_
        refine z_goto C dX1_agreeingFrom_103 (pc' := 49) (by decide) ?_
        exact z_back 8 (ih49 (j + 1) (by omega) (by omega)) rfl (by simp only [List.take, agL]; first | (rw [if_pos]; exact ⟨c_66, c_77, i32_nlt c_94⟩) | (rw [if_neg]; exact fun q => i32_nle c_94 q.2.2) | (rw [if_neg]; exact fun q => c_77 q.2.1) | (rw [if_neg]; exact fun q => c_66 q.1))
      ·
        refine z_aload_n C dX1_agreeingFrom_80 (pc' := 81) rfl rfl rfl ?_
        refine z_get C hK (by decide) kC_10 rfl inAX1 (k := 3) (by decide) aw_89 rfl dX1_agreeingFrom_81 (pc' := 84) rfl ?_
        refine z_iload C dX1_agreeingFrom_84 (pc' := 86) rfl rfl ?_
        refine z_iald C hK (by decide) kC_13 (t0 := 0) rfl (j := j) rfl (by omega) (by decide) rfl dX1_agreeingFrom_86 (pc' := 87) rfl ?_
        refine z_iload C dX1_agreeingFrom_87 (pc' := 89) rfl rfl ?_
        refine z_isub C dX1_agreeingFrom_89 (pc' := 90) rfl rfl ?_
        refine z_abs C aw_386 aw_275 aw_33 aw_276 ⟨Nat.le_of_ble_eq_true rfl, Nat.le_of_ble_eq_true rfl⟩ ⟨Nat.zero_le _, Nat.zero_le _⟩ dX1_agreeingFrom_90 (pc' := 93) rfl ?_
        refine z_iconst C dX1_agreeingFrom_93 (pc' := 94) rfl (v := 5) (by decide) ?_
        refine z_icmp_gt (tgt := 100) C dX1_agreeingFrom_94 (pc' := 97) (by decide) rfl (fun c_94 => ?_) (fun c_94 => ?_)
        ·
          refine z_iinc (L' := [.ref _, .int _, .int _, .int _, .int _, .int _, .int _, .int _]) C dX1_agreeingFrom_100 (pc' := 103) rfl rfl (iinc1 _) (by decide) (Nat.le_of_ble_eq_true rfl) rfl ?_
          refine z_goto C dX1_agreeingFrom_103 (pc' := 49) (by decide) ?_
          exact z_back 8 (ih49 (j + 1) (by omega) (by omega)) rfl (by simp only [List.take, agL]; first | (rw [if_pos]; exact ⟨c_66, c_77, i32_nlt c_94⟩) | (rw [if_neg]; exact fun q => i32_nle c_94 q.2.2) | (rw [if_neg]; exact fun q => c_77 q.2.1) | (rw [if_neg]; exact fun q => c_66 q.1))
        ·
          refine z_iinc (L' := [.ref _, .int _, .int _, .int _, .int _, .int _, .int _, .int _]) C dX1_agreeingFrom_97 (pc' := 100) rfl rfl (iincx _) (by decide) (Nat.le_of_ble_eq_true rfl) rfl ?_
          refine z_iinc (L' := [.ref _, .int _, .int _, .int _, .int _, .int _, .int _, .int _]) C dX1_agreeingFrom_100 (pc' := 103) rfl rfl (iinc1 _) (by decide) (Nat.le_of_ble_eq_true rfl) rfl ?_
          refine z_goto C dX1_agreeingFrom_103 (pc' := 49) (by decide) ?_
          exact z_back 8 (ih49 (j + 1) (by omega) (by omega)) rfl (by simp only [List.take, agL]; first | (rw [if_pos]; exact ⟨c_66, c_77, i32_nlt c_94⟩) | (rw [if_neg]; exact fun q => i32_nle c_94 q.2.2) | (rw [if_neg]; exact fun q => c_77 q.2.1) | (rw [if_neg]; exact fun q => c_66 q.1))
set_option maxRecDepth 100000 in
set_option maxHeartbeats 400000 in
theorem m_X1_leftOutAt (l : Launch) {cA cB : ClassId} {D : va_G} {ad : Nat → Nat} (hI : Inj 67 ad) (σ : St) {n : Nat} (hn : n ≤ 20) (e5 : σ 0 5 = nI n) (hT : okT σ n) (o : Int32) : CI l yX1_leftOutAt cX1_leftOutAt 5 .int 2 41 D [(cA, .int), (cB, .object RX3)] 67 ad (cellC cA cB ad) σ [.ref (ad 10), .int o] (fun r u => r = lo1 σ o n ∧ u = mlF σ o n n) := by
  refine CI_of (by decide +kernel) (Nat.le_of_ble_eq_true rfl) (by simp [Value.category]) ?_
  intro p e s m below meth c C hM hK
  refine z_iconst C dX1_leftOutAt_0 (pc' := 1) rfl (v := 0) (by decide) ?_
  refine z_istore_n (L' := [.ref _, .int _, .int _]) C dX1_leftOutAt_1 (pc' := 2) rfl rfl (by decide) (Nat.le_of_ble_eq_true rfl) rfl ?_
  refine z_loop (τ := Nat) (fun i => 16 - i) (fun i => i ≤ 16) (fun i => zf σ i) (fun i => [.ref (ad 10), .int o, .int (nI i)]) 0 (by omega) rfl ⟨_, rfl⟩ ?_
  intro i hi ih2
  try dsimp only at hi ih2 ⊢
  refine z_iload_n C dX1_leftOutAt_2 (pc' := 3) rfl rfl rfl ?_
  refine z_bipush C dX1_leftOutAt_3 (pc' := 5) rfl (v := 16) (by decide) ?_
  refine z_icmp_ge (tgt := 21) C dX1_leftOutAt_5 (pc' := 8) (by decide) rfl (fun c_5 => ?_) (fun c_5 => ?_)
  ·
    have n_5 : 16 ≤ i := ge_of_le (N := 16) (k := i) c_5 (by omega) (by omega)
    obtain rfl : i = 16 := (by omega)
    refine z_iconst C dX1_leftOutAt_21 (pc' := 22) rfl (v := 0) (by decide) ?_
    refine z_istore_n (L' := [.ref _, .int _, .int _]) C dX1_leftOutAt_22 (pc' := 23) rfl rfl (by decide) (Nat.le_of_ble_eq_true rfl) rfl ?_
    refine z_iconst C dX1_leftOutAt_23 (pc' := 24) rfl (v := 0) (by decide) ?_
    refine z_istore_n (L' := [.ref _, .int _, .int _, .int _]) C dX1_leftOutAt_24 (pc' := 25) rfl rfl (by decide) (Nat.le_of_ble_eq_true rfl) rfl ?_
    refine z_loop (τ := Nat) (fun i => n - i) (fun i => i ≤ n) (fun i => mlF σ o n i) (fun i => [.ref (ad 10), .int o, .int (mcF σ i), .int (nI i)]) 0 (by omega) rfl ⟨_, rfl⟩ ?_
    intro i hi ih25
    try dsimp only at hi ih25 ⊢
    refine z_iload_n C dX1_leftOutAt_25 (pc' := 26) rfl rfl rfl ?_
    refine z_aload_n C dX1_leftOutAt_26 (pc' := 27) rfl rfl rfl ?_
    refine z_get C hK (by decide) kC_10 rfl inAX1 (k := 0) (by decide) aw_85 rfl dX1_leftOutAt_27 (pc' := 30) rfl ?_
    refine z_top (y := nI n) (by rw [mlF_o (by decide), e5]) ?_
    refine z_icmp_ge (tgt := 83) C dX1_leftOutAt_30 (pc' := 33) (by decide) rfl (fun c_30 => ?_) (fun c_30 => ?_)
    ·
      have n_30 : n ≤ i := ge_of_le (N := n) (k := i) c_30 (by omega) (by omega)
      obtain rfl : n = i := (by omega)
      refine z_iconst C dX1_leftOutAt_83 (pc' := 84) rfl (v := 0) (by decide) ?_
      refine z_istore_n (L' := [.ref _, .int _, .int _, .int _]) C dX1_leftOutAt_84 (pc' := 85) rfl rfl (by decide) (Nat.le_of_ble_eq_true rfl) rfl ?_
      refine z_loop (τ := Nat) (fun w => 16 - w) (fun w => w ≤ 16) (fun w => mlF σ o n n) (fun w => [.ref (ad 10), .int o, .int (lfF (mlF σ o n n) (mcF σ n) w), .int (nI w)]) 0 (by omega) rfl ⟨_, rfl⟩ ?_
      intro w hw ih85
      try dsimp only at hw ih85 ⊢
      refine z_iload_n C dX1_leftOutAt_85 (pc' := 86) rfl rfl rfl ?_
      refine z_bipush C dX1_leftOutAt_86 (pc' := 88) rfl (v := 16) (by decide) ?_
      refine z_icmp_ge (tgt := 106) C dX1_leftOutAt_88 (pc' := 91) (by decide) rfl (fun c_88 => ?_) (fun c_88 => ?_)
      ·
        have n_88 : 16 ≤ w := ge_of_le (N := 16) (k := w) c_88 (by omega) (by omega)
        obtain rfl : w = 16 := (by omega)
        refine z_iload_n C dX1_leftOutAt_106 (pc' := 107) rfl rfl rfl ?_
        exact z_iret C hM dX1_leftOutAt_107 ⟨rfl, rfl⟩
      ·
        have n_88 : w < 16 := lt_of_nle (N := 16) (k := w) c_88 (by omega) (by omega)
        refine z_iload_n C dX1_leftOutAt_91 (pc' := 92) rfl rfl rfl ?_
        refine z_aload_n C dX1_leftOutAt_92 (pc' := 93) rfl rfl rfl ?_
        refine z_get C hK (by decide) kC_10 rfl inAX1 (k := 8) (by decide) aw_94 rfl dX1_leftOutAt_93 (pc' := 96) rfl ?_
        refine z_iload_n C dX1_leftOutAt_96 (pc' := 97) rfl rfl rfl ?_
        refine z_iald C hK (by decide) kC_18 (t0 := 0) rfl (j := w) rfl (by omega) (by decide) rfl dX1_leftOutAt_97 (pc' := 98) rfl ?_
        refine z_isub C dX1_leftOutAt_98 (pc' := 99) rfl rfl ?_
        refine z_istore_n (L' := [.ref _, .int _, .int _, .int _]) C dX1_leftOutAt_99 (pc' := 100) rfl rfl (by decide) (Nat.le_of_ble_eq_true rfl) rfl ?_
        refine z_iinc (L' := [.ref _, .int _, .int _, .int _]) C dX1_leftOutAt_100 (pc' := 103) rfl rfl (iinc1 _) (by decide) (Nat.le_of_ble_eq_true rfl) rfl ?_
        refine z_goto C dX1_leftOutAt_103 (pc' := 85) (by decide) ?_
        exact z_back 4 (ih85 (w + 1) (by omega) (by omega)) rfl rfl
    ·
      have n_30 : i < n := lt_of_nle (N := n) (k := i) c_30 (by omega) (by omega)
      refine z_aload_n C dX1_leftOutAt_33 (pc' := 34) rfl rfl rfl ?_
      refine z_get C hK (by decide) kC_10 rfl inAX1 (k := 2) (by decide) aw_88 rfl dX1_leftOutAt_34 (pc' := 37) rfl ?_
      refine z_iload_n C dX1_leftOutAt_37 (pc' := 38) rfl rfl rfl ?_
      refine z_iald C hK (by decide) kC_12 (t0 := 0) rfl (j := i) rfl (by omega) (by decide) rfl dX1_leftOutAt_38 (pc' := 39) rfl ?_
      refine z_iconst C dX1_leftOutAt_39 (pc' := 40) rfl (v := 1) (by decide) ?_
      refine z_icmp_ne (tgt := 77) C dX1_leftOutAt_40 (pc' := 43) (by decide) rfl (fun c_40 => ?_) (fun c_40 => ?_)
      ·
        refine z_iinc (L' := [.ref _, .int _, .int _, .int _]) C dX1_leftOutAt_77 (pc' := 80) rfl rfl (iinc1 _) (by decide) (Nat.le_of_ble_eq_true rfl) rfl ?_
        refine z_goto C dX1_leftOutAt_80 (pc' := 25) (by decide) ?_
        exact z_back 4 (ih25 (i + 1) (by omega) (by omega)) (by rw [mlF]; first | (rw [if_pos c_40, wn_of ew hw]; rfl) | rw [if_neg c_40]) (by simp only [List.take, mcF]; have e8 : mlF σ o n i 8 i = σ 8 i := congrFun (mlF_o (by decide) i) i; first | (rw [if_pos]; exact e8.symm.trans c_40) | (rw [if_neg]; exact fun q => c_40 (e8.trans q)))
      ·
        obtain ⟨w, hw, ew⟩ := hT i (by omega)
        have ew2 : mlF σ o n i 7 i = nI w := (congrFun (mlF_o (by decide) i) i).trans ew
        refine z_aload_n C dX1_leftOutAt_43 (pc' := 44) rfl rfl rfl ?_
        refine z_get C hK (by decide) kC_10 rfl inAX1 (k := 1) (by decide) aw_87 rfl dX1_leftOutAt_44 (pc' := 47) rfl ?_
        refine z_iload_n C dX1_leftOutAt_47 (pc' := 48) rfl rfl rfl ?_
        refine z_iald C hK (by decide) kC_11 (t0 := 0) rfl (j := i) rfl (by omega) (by decide) rfl dX1_leftOutAt_48 (pc' := 49) rfl ?_
        refine z_top (y := nI w) ew2 ?_
        refine z_istore (L' := [.ref _, .int _, .int _, .int _, .int _]) C dX1_leftOutAt_49 (pc' := 51) rfl (by decide) (Nat.le_of_ble_eq_true rfl) rfl ?_
        refine z_aload_n C dX1_leftOutAt_51 (pc' := 52) rfl rfl rfl ?_
        refine z_get C hK (by decide) kC_10 rfl inAX1 (k := 8) (by decide) aw_94 rfl dX1_leftOutAt_52 (pc' := 55) rfl ?_
        refine z_iload C dX1_leftOutAt_55 (pc' := 57) rfl rfl ?_
        refine z_aload_n C dX1_leftOutAt_57 (pc' := 58) rfl rfl rfl ?_
        refine z_get C hK (by decide) kC_10 rfl inAX1 (k := 8) (by decide) aw_94 rfl dX1_leftOutAt_58 (pc' := 61) rfl ?_
        refine z_iload C dX1_leftOutAt_61 (pc' := 63) rfl rfl ?_
        refine z_iald C hK (by decide) kC_18 (t0 := 0) rfl (j := w) rfl (by omega) (by decide) rfl dX1_leftOutAt_63 (pc' := 64) rfl ?_
        refine z_aload_n C dX1_leftOutAt_64 (pc' := 65) rfl rfl rfl ?_
        refine z_iload_n C dX1_leftOutAt_65 (pc' := 66) rfl rfl rfl ?_
        refine z_iload_n C dX1_leftOutAt_66 (pc' := 67) rfl rfl rfl ?_
        refine z_callI C hK (m_X1_agreeingFrom l hI _ (n := n) hn ((congrFun (mlF_o (by decide) i) 5).trans e5) (i := i) (w := w) (by omega) hw ew2 _) AdS_in aw_382 aw_384 aw_14 aw_30 aw_385 (by decide) kC_10 rfl (nA := 2) (by decide +kernel) rfl ⟨Nat.le_of_ble_eq_true rfl, Nat.le_of_ble_eq_true rfl⟩ (rest := [_, _, _]) rfl (Nat.le_of_ble_eq_true rfl) ⟨Nat.zero_le _, Nat.zero_le _⟩ dX1_leftOutAt_67 (pc' := 70) rfl (fun r_67 u_67 h_67 => ?_)
        obtain ⟨hr_67, hu_67⟩ := h_67
        rw [hr_67, hu_67]
        refine z_max C aw_368 aw_221 aw_33 aw_222 ⟨Nat.le_of_ble_eq_true rfl, Nat.le_of_ble_eq_true rfl⟩ ⟨Nat.zero_le _, Nat.zero_le _⟩ dX1_leftOutAt_70 (pc' := 73) rfl ?_
        refine z_iast C hK hI AdS_in (by decide) kC_18 sC_a18 oC_a18 (t0 := 0) rfl (j := w) rfl (by omega) (by decide) dX1_leftOutAt_73 (pc' := 74) rfl ?_
        refine z_iinc (L' := [.ref _, .int _, .int _, .int _, .int _]) C dX1_leftOutAt_74 (pc' := 77) rfl rfl (iincx _) (by decide) (Nat.le_of_ble_eq_true rfl) rfl ?_
        refine z_iinc (L' := [.ref _, .int _, .int _, .int _, .int _]) C dX1_leftOutAt_77 (pc' := 80) rfl rfl (iinc1 _) (by decide) (Nat.le_of_ble_eq_true rfl) rfl ?_
        refine z_goto C dX1_leftOutAt_80 (pc' := 25) (by decide) ?_
        exact z_back 4 (ih25 (i + 1) (by omega) (by omega)) (by rw [mlF]; first | (rw [if_pos c_40, wn_of ew hw]; rfl) | rw [if_neg c_40]) (by simp only [List.take, mcF]; have e8 : mlF σ o n i 8 i = σ 8 i := congrFun (mlF_o (by decide) i) i; first | (rw [if_pos]; exact e8.symm.trans c_40) | (rw [if_neg]; exact fun q => c_40 (e8.trans q)))
  ·
    have n_5 : i < 16 := lt_of_nle (N := 16) (k := i) c_5 (by omega) (by omega)
    refine z_aload_n C dX1_leftOutAt_8 (pc' := 9) rfl rfl rfl ?_
    refine z_get C hK (by decide) kC_10 rfl inAX1 (k := 8) (by decide) aw_94 rfl dX1_leftOutAt_9 (pc' := 12) rfl ?_
    refine z_iload_n C dX1_leftOutAt_12 (pc' := 13) rfl rfl rfl ?_
    refine z_iconst C dX1_leftOutAt_13 (pc' := 14) rfl (v := 0) (by decide) ?_
    refine z_iast C hK hI AdS_in (by decide) kC_18 sC_a18 oC_a18 (t0 := 0) rfl (j := i) rfl (by omega) (by decide) dX1_leftOutAt_14 (pc' := 15) rfl ?_
    refine z_iinc (L' := [.ref _, .int _, .int _]) C dX1_leftOutAt_15 (pc' := 18) rfl rfl (iinc1 _) (by decide) (Nat.le_of_ble_eq_true rfl) rfl ?_
    refine z_goto C dX1_leftOutAt_18 (pc' := 2) (by decide) ?_
    exact z_back 3 (ih2 (i + 1) (by omega) (by omega)) rfl rfl
set_option maxRecDepth 100000 in
set_option maxHeartbeats 400000 in
theorem m_X1_fewestLeftOut (l : Launch) {cA cB : ClassId} {D : va_G} {ad : Nat → Nat} (hI : Inj 67 ad) (σ : St) {n : Nat} (hn : n ≤ 20) (e5 : σ 0 5 = nI n) (hT : okT σ n) : CI l yX1_fewestLeftOut cX1_fewestLeftOut 4 .int 3 65 D [(cA, .int), (cB, .object RX3)] 67 ad (cellC cA cB ad) σ [.ref (ad 10)] (fun r u => (¬ okH σ 27 28 ∧ r = -9 ∧ u = σ) ∨ (okH σ 27 28 ∧ r = (fwF σ n n).2 ∧ u = (fwF σ n n).1)) := by
  refine CI_of (by decide +kernel) (Nat.le_of_ble_eq_true rfl) (by simp [Value.category]) ?_
  intro p e s m below meth c C hM hK
  refine z_aload_n C dX1_fewestLeftOut_0 (pc' := 1) rfl rfl rfl ?_
  refine z_aload_n C dX1_fewestLeftOut_1 (pc' := 2) rfl rfl rfl ?_
  refine z_get C hK (by decide) kC_10 rfl inAX1 (k := 4) (by decide) aw_90 rfl dX1_fewestLeftOut_2 (pc' := 5) rfl ?_
  refine z_aload_n C dX1_fewestLeftOut_5 (pc' := 6) rfl rfl rfl ?_
  refine z_get C hK (by decide) kC_10 rfl inAX1 (k := 5) (by decide) aw_91 rfl dX1_fewestLeftOut_6 (pc' := 9) rfl ?_
  refine z_callI C hK (m_X1_contradict_h l hI _) AdS_in aw_374 aw_376 aw_12 aw_30 aw_377 (by decide) kC_10 rfl (nA := 2) (by decide +kernel) rfl ⟨Nat.le_of_ble_eq_true rfl, Nat.le_of_ble_eq_true rfl⟩ (rest := []) rfl (Nat.le_of_ble_eq_true rfl) ⟨Nat.zero_le _, Nat.zero_le _⟩ dX1_fewestLeftOut_9 (pc' := 12) rfl (fun r_9 u_9 h_9 => ?_)
  obtain ⟨hu_9, h_9⟩ := h_9
  rw [hu_9]
  rcases h_9 with ⟨rfl, h_9⟩ | ⟨rfl, h_9⟩
  ·
    refine z_if_eq (tgt := 18) C dX1_fewestLeftOut_12 (pc' := 15) (by decide) rfl (fun q => absurd q (by decide)) (fun _ => ?_)
    refine z_bipush C dX1_fewestLeftOut_15 (pc' := 17) rfl (v := (-9)) (by decide) ?_
    exact z_iret C hM dX1_fewestLeftOut_17 (Or.inl ⟨h_9, rfl, rfl⟩)
  ·
    refine z_if_eq (tgt := 18) C dX1_fewestLeftOut_12 (pc' := 15) (by decide) rfl (fun _ => ?_) (fun q => absurd q (by decide))
    refine z_aload_n C dX1_fewestLeftOut_18 (pc' := 19) rfl rfl rfl ?_
    refine z_sipush C dX1_fewestLeftOut_19 (pc' := 22) rfl (v := (-200)) (by decide) ?_
    refine z_callI C hK (m_X1_leftOutAt l hI _ (n := n) hn e5 hT _) AdS_in aw_378 aw_380 aw_13 aw_30 aw_381 (by decide) kC_10 rfl (nA := 1) (by decide +kernel) rfl ⟨Nat.le_of_ble_eq_true rfl, Nat.le_of_ble_eq_true rfl⟩ (rest := []) rfl (Nat.le_of_ble_eq_true rfl) ⟨Nat.zero_le _, Nat.zero_le _⟩ dX1_fewestLeftOut_22 (pc' := 25) rfl (fun r_22 u_22 h_22 => ?_)
    obtain ⟨hr_22, hu_22⟩ := h_22
    rw [hr_22, hu_22]
    refine z_istore_n (L' := [.ref _, .int _]) C dX1_fewestLeftOut_25 (pc' := 26) rfl rfl (by decide) (Nat.le_of_ble_eq_true rfl) rfl ?_
    refine z_iconst C dX1_fewestLeftOut_26 (pc' := 27) rfl (v := 0) (by decide) ?_
    refine z_istore_n (L' := [.ref _, .int _, .int _]) C dX1_fewestLeftOut_27 (pc' := 28) rfl rfl (by decide) (Nat.le_of_ble_eq_true rfl) rfl ?_
    refine z_loop (τ := Nat) (fun i => n - i) (fun i => i ≤ n) (fun i => (fwF σ n i).1) (fun i => [.ref (ad 10), .int (fwF σ n i).2, .int (nI i)]) 0 (by omega) rfl ⟨_, rfl⟩ ?_
    intro i hi ih28
    try dsimp only at hi ih28 ⊢
    refine z_iload_n C dX1_fewestLeftOut_28 (pc' := 29) rfl rfl rfl ?_
    refine z_aload_n C dX1_fewestLeftOut_29 (pc' := 30) rfl rfl rfl ?_
    refine z_get C hK (by decide) kC_10 rfl inAX1 (k := 0) (by decide) aw_85 rfl dX1_fewestLeftOut_30 (pc' := 33) rfl ?_
    refine z_top (y := nI n) (by rw [fwF_o (by decide), e5]) ?_
    refine z_icmp_ge (tgt := 97) C dX1_fewestLeftOut_33 (pc' := 36) (by decide) rfl (fun c_33 => ?_) (fun c_33 => ?_)
    ·
      have n_33 : n ≤ i := ge_of_le (N := n) (k := i) c_33 (by omega) (by omega)
      obtain rfl : n = i := (by omega)
      refine z_iload_n C dX1_fewestLeftOut_97 (pc' := 98) rfl rfl rfl ?_
      exact z_iret C hM dX1_fewestLeftOut_98 (Or.inr ⟨h_9, rfl, rfl⟩)
    ·
      have n_33 : i < n := lt_of_nle (N := n) (k := i) c_33 (by omega) (by omega)
      obtain ⟨w, hw, ew⟩ := hT i (by omega)
      have ew2 : (fwF σ n i).1 7 i = nI w := (congrFun (fwF_o (by decide) i) i).trans ew
      have eww := wn_of ew hw
      refine z_aload_n C dX1_fewestLeftOut_36 (pc' := 37) rfl rfl rfl ?_
      refine z_get C hK (by decide) kC_10 rfl inAX1 (k := 3) (by decide) aw_89 rfl dX1_fewestLeftOut_37 (pc' := 40) rfl ?_
      refine z_iload_n C dX1_fewestLeftOut_40 (pc' := 41) rfl rfl rfl ?_
      refine z_iald C hK (by decide) kC_13 (t0 := 0) rfl (j := i) rfl (by omega) (by decide) rfl dX1_fewestLeftOut_41 (pc' := 42) rfl ?_
      refine z_iconst C dX1_fewestLeftOut_42 (pc' := 43) rfl (v := 5) (by decide) ?_
      refine z_isub C dX1_fewestLeftOut_43 (pc' := 44) rfl rfl ?_
      refine z_aload_n C dX1_fewestLeftOut_44 (pc' := 45) rfl rfl rfl ?_
      refine z_get C hK (by decide) kC_10 rfl inAX1 (k := 5) (by decide) aw_91 rfl dX1_fewestLeftOut_45 (pc' := 48) rfl ?_
      refine z_aload_n C dX1_fewestLeftOut_48 (pc' := 49) rfl rfl rfl ?_
      refine z_get C hK (by decide) kC_10 rfl inAX1 (k := 1) (by decide) aw_87 rfl dX1_fewestLeftOut_49 (pc' := 52) rfl ?_
      refine z_iload_n C dX1_fewestLeftOut_52 (pc' := 53) rfl rfl rfl ?_
      refine z_iald C hK (by decide) kC_11 (t0 := 0) rfl (j := i) rfl (by omega) (by decide) rfl dX1_fewestLeftOut_53 (pc' := 54) rfl ?_
      refine z_top (y := nI w) ew2 ?_
      refine z_iald C hK (by decide) kC_15 (t0 := 0) rfl (j := w) rfl (by omega) (by decide) rfl dX1_fewestLeftOut_54 (pc' := 55) rfl ?_
      refine z_isub C dX1_fewestLeftOut_55 (pc' := 56) rfl rfl ?_
      refine z_istore_n (L' := [.ref _, .int _, .int _, .int _]) C dX1_fewestLeftOut_56 (pc' := 57) rfl rfl (by decide) (Nat.le_of_ble_eq_true rfl) rfl ?_
      refine z_aload_n C dX1_fewestLeftOut_57 (pc' := 58) rfl rfl rfl ?_
      refine z_get C hK (by decide) kC_10 rfl inAX1 (k := 2) (by decide) aw_88 rfl dX1_fewestLeftOut_58 (pc' := 61) rfl ?_
      refine z_iload_n C dX1_fewestLeftOut_61 (pc' := 62) rfl rfl rfl ?_
      refine z_iald C hK (by decide) kC_12 (t0 := 0) rfl (j := i) rfl (by omega) (by decide) rfl dX1_fewestLeftOut_62 (pc' := 63) rfl ?_
      refine z_iconst C dX1_fewestLeftOut_63 (pc' := 64) rfl (v := 1) (by decide) ?_
      refine z_icmp_ne (tgt := 91) C dX1_fewestLeftOut_64 (pc' := 67) (by decide) rfl (fun c_64 => ?_) (fun c_64 => ?_)
      ·
        refine z_iinc (L' := [.ref _, .int _, .int _, .int _]) C dX1_fewestLeftOut_91 (pc' := 94) rfl rfl (iinc1 _) (by decide) (Nat.le_of_ble_eq_true rfl) rfl ?_
        refine z_goto C dX1_fewestLeftOut_94 (pc' := 28) (by decide) ?_
        exact z_back 3 (ih28 (i + 1) (by omega) (by omega)) (by rw [fwF, eww]; first | (rw [if_pos]; exact ⟨c_64, i32_nlt c_71, i32_nlt c_78⟩) | (rw [if_neg]; exact (fun q => i32_nle c_78 q.2.2)) | (rw [if_neg]; exact (fun q => i32_nle c_71 q.2.1)) | (rw [if_neg]; exact (fun q => c_64 q.1))) (by simp only [List.take]; rw [fwF, eww]; first | (rw [if_pos]; (try rfl); exact ⟨c_64, i32_nlt c_71, i32_nlt c_78⟩) | (rw [if_neg]; (try rfl); exact (fun q => i32_nle c_78 q.2.2)) | (rw [if_neg]; (try rfl); exact (fun q => i32_nle c_71 q.2.1)) | (rw [if_neg]; (try rfl); exact (fun q => c_64 q.1)))
      ·
        refine z_iload_n C dX1_fewestLeftOut_67 (pc' := 68) rfl rfl rfl ?_
        refine z_sipush C dX1_fewestLeftOut_68 (pc' := 71) rfl (v := (-200)) (by decide) ?_
        refine z_icmp_lt (tgt := 91) C dX1_fewestLeftOut_71 (pc' := 74) (by decide) rfl (fun c_71 => ?_) (fun c_71 => ?_)
        ·
          refine z_iinc (L' := [.ref _, .int _, .int _, .int _]) C dX1_fewestLeftOut_91 (pc' := 94) rfl rfl (iinc1 _) (by decide) (Nat.le_of_ble_eq_true rfl) rfl ?_
          refine z_goto C dX1_fewestLeftOut_94 (pc' := 28) (by decide) ?_
          exact z_back 3 (ih28 (i + 1) (by omega) (by omega)) (by rw [fwF, eww]; first | (rw [if_pos]; exact ⟨c_64, i32_nlt c_71, i32_nlt c_78⟩) | (rw [if_neg]; exact (fun q => i32_nle c_78 q.2.2)) | (rw [if_neg]; exact (fun q => i32_nle c_71 q.2.1)) | (rw [if_neg]; exact (fun q => c_64 q.1))) (by simp only [List.take]; rw [fwF, eww]; first | (rw [if_pos]; (try rfl); exact ⟨c_64, i32_nlt c_71, i32_nlt c_78⟩) | (rw [if_neg]; (try rfl); exact (fun q => i32_nle c_78 q.2.2)) | (rw [if_neg]; (try rfl); exact (fun q => i32_nle c_71 q.2.1)) | (rw [if_neg]; (try rfl); exact (fun q => c_64 q.1)))
        ·
          refine z_iload_n C dX1_fewestLeftOut_74 (pc' := 75) rfl rfl rfl ?_
          refine z_sipush C dX1_fewestLeftOut_75 (pc' := 78) rfl (v := 200) (by decide) ?_
          refine z_icmp_gt (tgt := 91) C dX1_fewestLeftOut_78 (pc' := 81) (by decide) rfl (fun c_78 => ?_) (fun c_78 => ?_)
          ·
            refine z_iinc (L' := [.ref _, .int _, .int _, .int _]) C dX1_fewestLeftOut_91 (pc' := 94) rfl rfl (iinc1 _) (by decide) (Nat.le_of_ble_eq_true rfl) rfl ?_
            refine z_goto C dX1_fewestLeftOut_94 (pc' := 28) (by decide) ?_
            exact z_back 3 (ih28 (i + 1) (by omega) (by omega)) (by rw [fwF, eww]; first | (rw [if_pos]; exact ⟨c_64, i32_nlt c_71, i32_nlt c_78⟩) | (rw [if_neg]; exact (fun q => i32_nle c_78 q.2.2)) | (rw [if_neg]; exact (fun q => i32_nle c_71 q.2.1)) | (rw [if_neg]; exact (fun q => c_64 q.1))) (by simp only [List.take]; rw [fwF, eww]; first | (rw [if_pos]; (try rfl); exact ⟨c_64, i32_nlt c_71, i32_nlt c_78⟩) | (rw [if_neg]; (try rfl); exact (fun q => i32_nle c_78 q.2.2)) | (rw [if_neg]; (try rfl); exact (fun q => i32_nle c_71 q.2.1)) | (rw [if_neg]; (try rfl); exact (fun q => c_64 q.1)))
          ·
            refine z_iload_n C dX1_fewestLeftOut_81 (pc' := 82) rfl rfl rfl ?_
            refine z_aload_n C dX1_fewestLeftOut_82 (pc' := 83) rfl rfl rfl ?_
            refine z_iload_n C dX1_fewestLeftOut_83 (pc' := 84) rfl rfl rfl ?_
            refine z_callI C hK (m_X1_leftOutAt l hI _ (n := n) hn ((congrFun (fwF_o (by decide) i) 5).trans e5) (okT_of hT (fwF_o (by decide) i)) _) AdS_in aw_378 aw_380 aw_13 aw_30 aw_381 (by decide) kC_10 rfl (nA := 1) (by decide +kernel) rfl ⟨Nat.le_of_ble_eq_true rfl, Nat.le_of_ble_eq_true rfl⟩ (rest := [_]) rfl (Nat.le_of_ble_eq_true rfl) ⟨Nat.zero_le _, Nat.zero_le _⟩ dX1_fewestLeftOut_84 (pc' := 87) rfl (fun r_84 u_84 h_84 => ?_)
            obtain ⟨hr_84, hu_84⟩ := h_84
            rw [hr_84, hu_84]
            refine z_min C aw_369 aw_228 aw_33 aw_229 ⟨Nat.le_of_ble_eq_true rfl, Nat.le_of_ble_eq_true rfl⟩ ⟨Nat.zero_le _, Nat.zero_le _⟩ dX1_fewestLeftOut_87 (pc' := 90) rfl ?_
            refine z_top (y := mn (fwF σ n i).2 (lo1 (fwF σ n i).1 ((fwF σ n i).1 9 i - 5 - (fwF σ n i).1 28 w) n)) rfl ?_
            refine z_istore_n (L' := [.ref _, .int _, .int _, .int _]) C dX1_fewestLeftOut_90 (pc' := 91) rfl rfl (by decide) (Nat.le_of_ble_eq_true rfl) rfl ?_
            refine z_iinc (L' := [.ref _, .int _, .int _, .int _]) C dX1_fewestLeftOut_91 (pc' := 94) rfl rfl (iinc1 _) (by decide) (Nat.le_of_ble_eq_true rfl) rfl ?_
            refine z_goto C dX1_fewestLeftOut_94 (pc' := 28) (by decide) ?_
            exact z_back 3 (ih28 (i + 1) (by omega) (by omega)) (by rw [fwF, eww]; first | (rw [if_pos]; exact ⟨c_64, i32_nlt c_71, i32_nlt c_78⟩) | (rw [if_neg]; exact (fun q => i32_nle c_78 q.2.2)) | (rw [if_neg]; exact (fun q => i32_nle c_71 q.2.1)) | (rw [if_neg]; exact (fun q => c_64 q.1))) (by simp only [List.take]; rw [fwF, eww]; first | (rw [if_pos]; (try rfl); exact ⟨c_64, i32_nlt c_71, i32_nlt c_78⟩) | (rw [if_neg]; (try rfl); exact (fun q => i32_nle c_78 q.2.2)) | (rw [if_neg]; (try rfl); exact (fun q => i32_nle c_71 q.2.1)) | (rw [if_neg]; (try rfl); exact (fun q => c_64 q.1)))
set_option maxRecDepth 100000 in
set_option maxHeartbeats 400000 in
theorem m_X4_offset (l : Launch) {cA cB : ClassId} {D : va_G} {ad : Nat → Nat} (hI : Inj 67 ad) (σ : St) {n : Nat} (hn : n ≤ 20) (e5 : σ 0 5 = nI n) (hT : okT σ n) (q : Int32) : CI l yX4_offset cX4_offset 3 .int 4 88 D [(cA, .int), (cB, .object RX3)] 67 ad (cellC cA cB ad) σ [.ref (ad 0), .int q] (fun r u => (¬ inR q 0 3 ∧ r = -999999 ∧ u = σ) ∨ (q = 3 ∧ ((¬ okH (fb2 (fb1 σ 16) n) 27 28 ∧ r = -9 ∧ u = (fb2 (fb1 σ 16) n)) ∨ (okH (fb2 (fb1 σ 16) n) 27 28 ∧ r = (fwF (fb2 (fb1 σ 16) n) n n).2 ∧ u = (fwF (fb2 (fb1 σ 16) n) n n).1))) ∨ (inR q 0 3 ∧ ¬ q = 3 ∧ u = (fb2 (fb1 σ 16) n) ∧ ∃ ag : Int32, ((¬ (okH (fb2 (fb1 σ 16) n) 27 28 ∧ okH (fb2 (fb1 σ 16) n) 29 30) ∧ ag = 0) ∨ ((okH (fb2 (fb1 σ 16) n) 27 28 ∧ okH (fb2 (fb1 σ 16) n) 29 30) ∧ ag = mx 0 (goO (fb2 (fb1 σ 16) n) 16 - loO (fb2 (fb1 σ 16) n) 16 + 1))) ∧ r = if q = 2 then ag else if ag = 0 then -1000000 else if q = 0 then loO (fb2 (fb1 σ 16) n) 16 else goO (fb2 (fb1 σ 16) n) 16)) := by
  refine CI_of (by decide +kernel) (Nat.le_of_ble_eq_true rfl) (by simp [Value.category]) ?_
  intro p e s m below meth c C hM hK
  refine z_iload_n C dX4_offset_0 (pc' := 1) rfl rfl rfl ?_
  refine z_iconst C dX4_offset_1 (pc' := 2) rfl (v := 0) (by decide) ?_
  refine z_iconst C dX4_offset_2 (pc' := 3) rfl (v := 3) (by decide) ?_
  refine z_callS C (m_X4_within l _ _ _) stabP aw_180 aw_181 aw_27 aw_182 (nA := 3) (by decide +kernel) rfl ⟨Nat.le_of_ble_eq_true rfl, Nat.le_of_ble_eq_true rfl⟩ (rest := []) rfl (Nat.le_of_ble_eq_true rfl) ⟨Nat.zero_le _, Nat.zero_le _⟩ dX4_offset_3 (pc' := 6) rfl (fun r_3 h_3 => ?_)
  rcases h_3 with ⟨rfl, h_3⟩ | ⟨rfl, h_3⟩
  ·
    refine z_if_ne (tgt := 12) C dX4_offset_6 (pc' := 9) (by decide) rfl (fun _ => ?_) (fun q => absurd q (by decide))
    refine z_aload_n C dX4_offset_12 (pc' := 13) rfl rfl rfl ?_
    refine z_get C hK (by decide) kC_0 rfl inAX4 (k := 3) (by decide) aw_148 rfl dX4_offset_13 (pc' := 16) rfl ?_
    refine z_callV C hK (m_X1_fillBounds l hI _ (n := n) hn e5 hT) AdS_in aw_358 aw_359 aw_360 aw_30 aw_361 (by decide) kC_10 rfl (nA := 0) (by decide +kernel) rfl ⟨Nat.le_of_ble_eq_true rfl, Nat.le_of_ble_eq_true rfl⟩ (rest := []) rfl (Nat.le_of_ble_eq_true rfl) ⟨Nat.zero_le _, Nat.zero_le _⟩ dX4_offset_16 (pc' := 19) rfl (fun u_16 h_16 => ?_)
    rw [h_16]
    refine z_iload_n C dX4_offset_19 (pc' := 20) rfl rfl rfl ?_
    refine z_iconst C dX4_offset_20 (pc' := 21) rfl (v := 3) (by decide) ?_
    refine z_icmp_ne (tgt := 32) C dX4_offset_21 (pc' := 24) (by decide) rfl (fun c_21 => ?_) (fun c_21 => ?_)
    ·
      refine z_aload_n C dX4_offset_32 (pc' := 33) rfl rfl rfl ?_
      refine z_get C hK (by decide) kC_0 rfl inAX4 (k := 3) (by decide) aw_148 rfl dX4_offset_33 (pc' := 36) rfl ?_
      refine z_callI C hK (m_X1_agreeingOffsets l hI _) AdS_in aw_387 aw_388 aw_389 aw_30 aw_390 (by decide) kC_10 rfl (nA := 0) (by decide +kernel) rfl ⟨Nat.le_of_ble_eq_true rfl, Nat.le_of_ble_eq_true rfl⟩ (rest := []) rfl (Nat.le_of_ble_eq_true rfl) ⟨Nat.zero_le _, Nat.zero_le _⟩ dX4_offset_36 (pc' := 39) rfl (fun r_36 u_36 h_36 => ?_)
      obtain ⟨hu_36, h_36⟩ := h_36
      rw [hu_36]
      refine z_istore_n (L' := [.ref _, .int _, .int _]) C dX4_offset_39 (pc' := 40) rfl rfl (by decide) (Nat.le_of_ble_eq_true rfl) rfl ?_
      refine z_iload_n C dX4_offset_40 (pc' := 41) rfl rfl rfl ?_
      refine z_iconst C dX4_offset_41 (pc' := 42) rfl (v := 2) (by decide) ?_
      refine z_icmp_ne (tgt := 47) C dX4_offset_42 (pc' := 45) (by decide) rfl (fun c_42 => ?_) (fun c_42 => ?_)
      ·
        refine z_iload_n C dX4_offset_47 (pc' := 48) rfl rfl rfl ?_
        refine z_if_ne (tgt := 54) C dX4_offset_48 (pc' := 51) (by decide) rfl (fun c_48 => ?_) (fun c_48 => ?_)
        ·
          refine z_iload_n C dX4_offset_54 (pc' := 55) rfl rfl rfl ?_
          refine z_if_ne (tgt := 68) C dX4_offset_55 (pc' := 58) (by decide) rfl (fun c_55 => ?_) (fun c_55 => ?_)
          ·
            refine z_aload_n C dX4_offset_68 (pc' := 69) rfl rfl rfl ?_
            refine z_get C hK (by decide) kC_0 rfl inAX4 (k := 3) (by decide) aw_148 rfl dX4_offset_69 (pc' := 72) rfl ?_
            refine z_callI C hK (m_X1_greatestOffset l hI _) AdS_in aw_401 aw_392 aw_393 aw_30 aw_394 (by decide) kC_10 rfl (nA := 0) (by decide +kernel) rfl ⟨Nat.le_of_ble_eq_true rfl, Nat.le_of_ble_eq_true rfl⟩ (rest := []) rfl (Nat.le_of_ble_eq_true rfl) ⟨Nat.zero_le _, Nat.zero_le _⟩ dX4_offset_72 (pc' := 75) rfl (fun r_72 u_72 h_72 => ?_)
            obtain ⟨hr_72, hu_72⟩ := h_72
            rw [hr_72, hu_72]
            exact z_iret C hM dX4_offset_75 (Or.inr (Or.inr ⟨by assumption, c_21, rfl, r_36, h_36, by rw [if_neg c_42, if_neg c_48]; first | exact (if_pos c_55).symm | exact (if_neg c_55).symm⟩))
          ·
            refine z_aload_n C dX4_offset_58 (pc' := 59) rfl rfl rfl ?_
            refine z_get C hK (by decide) kC_0 rfl inAX4 (k := 3) (by decide) aw_148 rfl dX4_offset_59 (pc' := 62) rfl ?_
            refine z_callI C hK (m_X1_leastOffset l hI _) AdS_in aw_400 aw_396 aw_397 aw_30 aw_398 (by decide) kC_10 rfl (nA := 0) (by decide +kernel) rfl ⟨Nat.le_of_ble_eq_true rfl, Nat.le_of_ble_eq_true rfl⟩ (rest := []) rfl (Nat.le_of_ble_eq_true rfl) ⟨Nat.zero_le _, Nat.zero_le _⟩ dX4_offset_62 (pc' := 65) rfl (fun r_62 u_62 h_62 => ?_)
            obtain ⟨hr_62, hu_62⟩ := h_62
            rw [hr_62, hu_62]
            refine z_goto C dX4_offset_65 (pc' := 75) (by decide) ?_
            exact z_iret C hM dX4_offset_75 (Or.inr (Or.inr ⟨by assumption, c_21, rfl, r_36, h_36, by rw [if_neg c_42, if_neg c_48]; first | exact (if_pos c_55).symm | exact (if_neg c_55).symm⟩))
        ·
          refine z_ldc C dX4_offset_51 (pc' := 53) rfl aw_399 ?_
          exact z_iret C hM dX4_offset_53 (Or.inr (Or.inr ⟨by assumption, c_21, rfl, r_36, h_36, by rw [if_neg c_42, if_pos c_48]⟩))
      ·
        refine z_iload_n C dX4_offset_45 (pc' := 46) rfl rfl rfl ?_
        exact z_iret C hM dX4_offset_46 (Or.inr (Or.inr ⟨by assumption, c_21, rfl, r_36, h_36, (if_pos c_42).symm⟩))
    ·
      refine z_aload_n C dX4_offset_24 (pc' := 25) rfl rfl rfl ?_
      refine z_get C hK (by decide) kC_0 rfl inAX4 (k := 3) (by decide) aw_148 rfl dX4_offset_25 (pc' := 28) rfl ?_
      refine z_callI C hK (m_X1_fewestLeftOut l hI _ (n := n) hn (by rw [fb2_o (by decide) (by decide) (by decide) (by decide), fb1_o (by decide) (by decide) (by decide) (by decide), e5]) (okT_of hT (by rw [fb2_o (by decide) (by decide) (by decide) (by decide), fb1_o (by decide) (by decide) (by decide) (by decide)]))) AdS_in aw_370 aw_371 aw_372 aw_30 aw_373 (by decide) kC_10 rfl (nA := 0) (by decide +kernel) rfl ⟨Nat.le_of_ble_eq_true rfl, Nat.le_of_ble_eq_true rfl⟩ (rest := []) rfl (Nat.le_of_ble_eq_true rfl) ⟨Nat.zero_le _, Nat.zero_le _⟩ dX4_offset_28 (pc' := 31) rfl (fun r_28 u_28 h_28 => ?_)
      exact z_iret C hM dX4_offset_31 (Or.inr (Or.inl ⟨c_21, h_28⟩))
  ·
    refine z_if_ne (tgt := 12) C dX4_offset_6 (pc' := 9) (by decide) rfl (fun q => absurd q (by decide)) (fun _ => ?_)
    refine z_ldc C dX4_offset_9 (pc' := 11) rfl aw_357 ?_
    exact z_iret C hM dX4_offset_11 (Or.inl ⟨by assumption, rfl, rfl⟩)
