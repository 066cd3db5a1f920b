/-! laws: pairs, what is kept -/
def lawF (g : Nat → Int32) (a b : Nat) : Int32 := if a / 2 = b / 2 then g 0 else if a / 4 = b / 4 then g 1 else if a / 8 = b / 8 then g 2 else g 3
def ab (x : Int32) : Int32 := if 0 ≤ x then x else 0 - x
def brI (f g : Nat → Int32) (a : Nat) (acc : Int32) : Nat → Int32
  | 0 => acc
  | n + 1 => if ab (f a - f (a + 1 + n)) ≤ lawF g a (a + 1 + n) then brI f g a acc n else brI f g a acc n + 1
def brO (f g : Nat → Int32) : Nat → Int32
  | 0 => 0
  | a + 1 => brI f g a (brO f g a) (15 - a)
def rbI (f g : Nat → Int32) (a : Nat) (acc : Int32) : Nat → Int32
  | 0 => acc
  | b + 1 => rbI f g a acc b + if f a - f b ≤ lawF g a b ∨ a = b then 0 else 1
def rbO (f g : Nat → Int32) : Nat → Int32
  | 0 => 0
  | a + 1 => rbI f g a (rbO f g a) 16
def lst (c : Nat) (z : Bool) (a b : Nat) (x : St × Int32) : St × Int32 := if (z = true ∧ a = b) ∨ x.1 c a ≤ x.1 c b + lawF (x.1 5) a b then x else (up2 x.1 c a (x.1 c b + lawF (x.1 5) a b), 1)
def loB (c : Nat) (z : Bool) (a : Nat) (x : St × Int32) : Nat → St × Int32
  | 0 => x
  | b + 1 => lst c z a b (loB c z a x b)
def loA (c : Nat) (z : Bool) (x : St × Int32) : Nat → St × Int32
  | 0 => x
  | a + 1 => loB c z a (loA c z x a) 16
def lwS (c : Nat) (z : Bool) (σ : St) : Nat → St × Int32
  | 0 => (σ, 1)
  | i + 1 => loA c z ((lwS c z σ i).1, 0) 16
theorem lst01 {c : Nat} {z : Bool} {a b : Nat} {x : St × Int32} (h : x.2 = 0 ∨ x.2 = 1) : (lst c z a b x).2 = 0 ∨ (lst c z a b x).2 = 1 := by
  unfold lst
  split
  · exact h
  · exact Or.inr rfl
theorem loB01 {c : Nat} {z : Bool} {a : Nat} {x : St × Int32} (h : x.2 = 0 ∨ x.2 = 1) : ∀ b, (loB c z a x b).2 = 0 ∨ (loB c z a x b).2 = 1
  | 0 => h
  | b + 1 => lst01 (loB01 h b)
theorem loA01 {c : Nat} {z : Bool} {x : St × Int32} (h : x.2 = 0 ∨ x.2 = 1) : ∀ a, (loA c z x a).2 = 0 ∨ (loA c z x a).2 = 1
  | 0 => h
  | a + 1 => loB01 (loA01 h a) 16
def cpL (σ : St) (c : Nat) : Nat → St
  | 0 => σ
  | i + 1 => up2 (cpL σ c i) c i (cpL σ c i 1 i)
def KC (σ u : St) : Prop := ∃ i, i ≤ 16 ∧ u = (lwS 23 false (cpL σ 23 16) i).1 ∧ ((lwS 23 false (cpL σ 23 16) i).2 = 0 ∨ i = 16)
def KR (σ u : St) : Prop := ∃ i, u = (lwS 12 true (cpL σ 12 16) i).1 ∧ (lwS 12 true (cpL σ 12 16) i).2 = 0
def stL (u : St) (c : Nat) : Nat → Int32
  | 0 => 0
  | k + 1 => stL u c k + (u 1 k - u c k)
def evL (u : St) (c : Nat) : Nat → St
  | 0 => u
  | k + 1 => up2 (evL u c k) 1 k (evL u c k c k)
def ecC (u : St) (c : Nat) : Nat → Int32
  | 0 => 0
  | k + 1 => if evL u c k 1 k ≤ evL u c k c k then ecC u c k else ecC u c k + 1
def ecR (u : St) (c : Nat) : Nat → Int32
  | 0 => 0
  | k + 1 => ecR u c k + if evL u c k 1 k ≤ evL u c k c k then 0 else 1
set_option maxRecDepth 100000 in
set_option maxHeartbeats 400000 in
theorem m_X0_between (l : Launch) {cA cB : ClassId} {D : va_G} {ad : Nat → Nat} (hI : Inj 67 ad) (σ : St) {a b : Nat} (ha : a < 16) (hb : b < 16) : CI l yX0_between cX0_between 3 .int 0 0 D [(cA, .int), (cB, .object RX3)] 67 ad (cellC cA cB ad) σ [.ref (ad 3), .int (nI a), .int (nI b)] (fun r u => r = lawF (σ 5) a b ∧ u = σ) := by
  refine CI_of (by decide +kernel) (Nat.le_of_ble_eq_true rfl) (by simp [Value.category]) ?_
  intro p e s m below meth c C hM hK
  refine z_iload_n C dX0_between_0 (pc' := 1) rfl rfl rfl ?_
  refine z_iconst C dX0_between_1 (pc' := 2) rfl (v := 2) (by decide) ?_
  refine z_idiv C dX0_between_2 (pc' := 3) rfl (by decide) (z := nI (a / 2)) (pk_div (a := a) (d := 2) (by omega) (by omega) (by omega)) ?_
  refine z_iload_n C dX0_between_3 (pc' := 4) rfl rfl rfl ?_
  refine z_iconst C dX0_between_4 (pc' := 5) rfl (v := 2) (by decide) ?_
  refine z_idiv C dX0_between_5 (pc' := 6) rfl (by decide) (z := nI (b / 2)) (pk_div (a := b) (d := 2) (by omega) (by omega) (by omega)) ?_
  refine z_icmp_ne (tgt := 16) C dX0_between_6 (pc' := 9) (by decide) rfl (fun c_6 => ?_) (fun c_6 => ?_)
  ·
    have n_6 : ¬ (a / 2) = (b / 2) := fun z9 => c_6 ((nI_eq (a := (a / 2)) (b := (b / 2)) (by omega) (by omega)).mpr z9)
    refine z_iload_n C dX0_between_16 (pc' := 17) rfl rfl rfl ?_
    refine z_iconst C dX0_between_17 (pc' := 18) rfl (v := 4) (by decide) ?_
    refine z_idiv C dX0_between_18 (pc' := 19) rfl (by decide) (z := nI (a / 4)) (pk_div (a := a) (d := 4) (by omega) (by omega) (by omega)) ?_
    refine z_iload_n C dX0_between_19 (pc' := 20) rfl rfl rfl ?_
    refine z_iconst C dX0_between_20 (pc' := 21) rfl (v := 4) (by decide) ?_
    refine z_idiv C dX0_between_21 (pc' := 22) rfl (by decide) (z := nI (b / 4)) (pk_div (a := b) (d := 4) (by omega) (by omega) (by omega)) ?_
    refine z_icmp_ne (tgt := 32) C dX0_between_22 (pc' := 25) (by decide) rfl (fun c_22 => ?_) (fun c_22 => ?_)
    ·
      have n_22 : ¬ (a / 4) = (b / 4) := fun z9 => c_22 ((nI_eq (a := (a / 4)) (b := (b / 4)) (by omega) (by omega)).mpr z9)
      refine z_iload_n C dX0_between_32 (pc' := 33) rfl rfl rfl ?_
      refine z_bipush C dX0_between_33 (pc' := 35) rfl (v := 8) (by decide) ?_
      refine z_idiv C dX0_between_35 (pc' := 36) rfl (by decide) (z := nI (a / 8)) (pk_div (a := a) (d := 8) (by omega) (by omega) (by omega)) ?_
      refine z_iload_n C dX0_between_36 (pc' := 37) rfl rfl rfl ?_
      refine z_bipush C dX0_between_37 (pc' := 39) rfl (v := 8) (by decide) ?_
      refine z_idiv C dX0_between_39 (pc' := 40) rfl (by decide) (z := nI (b / 8)) (pk_div (a := b) (d := 8) (by omega) (by omega) (by omega)) ?_
      refine z_icmp_ne (tgt := 52) C dX0_between_40 (pc' := 43) (by decide) rfl (fun c_40 => ?_) (fun c_40 => ?_)
      ·
        have n_40 : ¬ (a / 8) = (b / 8) := fun z9 => c_40 ((nI_eq (a := (a / 8)) (b := (b / 8)) (by omega) (by omega)).mpr z9)
        refine z_aload_n C dX0_between_52 (pc' := 53) rfl rfl rfl ?_
        refine z_get C hK (by decide) kC_3 rfl inAX0 (k := 0) (by decide) aw_50 rfl dX0_between_53 (pc' := 56) rfl ?_
        refine z_iconst C dX0_between_56 (pc' := 57) rfl (v := 3) (by decide) ?_
        refine z_iald C hK (by decide) kC_4 (t0 := 0) rfl (j := 3) rfl (by decide) (by decide) rfl dX0_between_57 (pc' := 58) rfl ?_
        exact z_iret C hM dX0_between_58 (by simp [lawF, *])
      ·
        have n_40 : (a / 8) = (b / 8) := (nI_eq (a := (a / 8)) (b := (b / 8)) (by omega) (by omega)).mp c_40
        refine z_aload_n C dX0_between_43 (pc' := 44) rfl rfl rfl ?_
        refine z_get C hK (by decide) kC_3 rfl inAX0 (k := 0) (by decide) aw_50 rfl dX0_between_44 (pc' := 47) rfl ?_
        refine z_iconst C dX0_between_47 (pc' := 48) rfl (v := 2) (by decide) ?_
        refine z_iald C hK (by decide) kC_4 (t0 := 0) rfl (j := 2) rfl (by decide) (by decide) rfl dX0_between_48 (pc' := 49) rfl ?_
        refine z_goto C dX0_between_49 (pc' := 58) (by decide) ?_
        exact z_iret C hM dX0_between_58 (by simp [lawF, *])
    ·
      have n_22 : (a / 4) = (b / 4) := (nI_eq (a := (a / 4)) (b := (b / 4)) (by omega) (by omega)).mp c_22
      refine z_aload_n C dX0_between_25 (pc' := 26) rfl rfl rfl ?_
      refine z_get C hK (by decide) kC_3 rfl inAX0 (k := 0) (by decide) aw_50 rfl dX0_between_26 (pc' := 29) rfl ?_
      refine z_iconst C dX0_between_29 (pc' := 30) rfl (v := 1) (by decide) ?_
      refine z_iald C hK (by decide) kC_4 (t0 := 0) rfl (j := 1) rfl (by decide) (by decide) rfl dX0_between_30 (pc' := 31) rfl ?_
      exact z_iret C hM dX0_between_31 (by simp [lawF, *])
  ·
    have n_6 : (a / 2) = (b / 2) := (nI_eq (a := (a / 2)) (b := (b / 2)) (by omega) (by omega)).mp c_6
    refine z_aload_n C dX0_between_9 (pc' := 10) rfl rfl rfl ?_
    refine z_get C hK (by decide) kC_3 rfl inAX0 (k := 0) (by decide) aw_50 rfl dX0_between_10 (pc' := 13) rfl ?_
    refine z_iconst C dX0_between_13 (pc' := 14) rfl (v := 0) (by decide) ?_
    refine z_iald C hK (by decide) kC_4 (t0 := 0) rfl (j := 0) rfl (by decide) (by decide) rfl dX0_between_14 (pc' := 15) rfl ?_
    exact z_iret C hM dX0_between_15 (by simp [lawF, *])
set_option maxRecDepth 100000 in
set_option maxHeartbeats 400000 in
theorem m_X5_lawOf (l : Launch) {cA : ClassId} {D : va_G} {ad : Nat → Nat} (hI : Inj 17 ad) (σ : St) {a b : Nat} (ha : a < 16) (hb : b < 16) : CI l yX5_lawOf cX5_lawOf 3 .int 0 0 D [(cA, .int)] 17 ad (cellR cA ad) σ [.ref (ad 0), .int (nI a), .int (nI b)] (fun r u => r = lawF (σ 5) a b ∧ u = σ) := by
  refine CI_of (by decide +kernel) (Nat.le_of_ble_eq_true rfl) (by simp [Value.category]) ?_
  intro p e s m below meth c C hM hK
  refine z_iload_n C dX5_lawOf_0 (pc' := 1) rfl rfl rfl ?_
  refine z_iconst C dX5_lawOf_1 (pc' := 2) rfl (v := 2) (by decide) ?_
  refine z_idiv C dX5_lawOf_2 (pc' := 3) rfl (by decide) (z := nI (a / 2)) (pk_div (a := a) (d := 2) (by omega) (by omega) (by omega)) ?_
  refine z_iload_n C dX5_lawOf_3 (pc' := 4) rfl rfl rfl ?_
  refine z_iconst C dX5_lawOf_4 (pc' := 5) rfl (v := 2) (by decide) ?_
  refine z_idiv C dX5_lawOf_5 (pc' := 6) rfl (by decide) (z := nI (b / 2)) (pk_div (a := b) (d := 2) (by omega) (by omega) (by omega)) ?_
  refine z_icmp_ne (tgt := 18) C dX5_lawOf_6 (pc' := 9) (by decide) rfl (fun c_6 => ?_) (fun c_6 => ?_)
  ·
    have n_6 : ¬ (a / 2) = (b / 2) := fun z9 => c_6 ((nI_eq (a := (a / 2)) (b := (b / 2)) (by omega) (by omega)).mpr z9)
    refine z_iload_n C dX5_lawOf_18 (pc' := 19) rfl rfl rfl ?_
    refine z_iconst C dX5_lawOf_19 (pc' := 20) rfl (v := 4) (by decide) ?_
    refine z_idiv C dX5_lawOf_20 (pc' := 21) rfl (by decide) (z := nI (a / 4)) (pk_div (a := a) (d := 4) (by omega) (by omega) (by omega)) ?_
    refine z_iload_n C dX5_lawOf_21 (pc' := 22) rfl rfl rfl ?_
    refine z_iconst C dX5_lawOf_22 (pc' := 23) rfl (v := 4) (by decide) ?_
    refine z_idiv C dX5_lawOf_23 (pc' := 24) rfl (by decide) (z := nI (b / 4)) (pk_div (a := b) (d := 4) (by omega) (by omega) (by omega)) ?_
    refine z_icmp_ne (tgt := 36) C dX5_lawOf_24 (pc' := 27) (by decide) rfl (fun c_24 => ?_) (fun c_24 => ?_)
    ·
      have n_24 : ¬ (a / 4) = (b / 4) := fun z9 => c_24 ((nI_eq (a := (a / 4)) (b := (b / 4)) (by omega) (by omega)).mpr z9)
      refine z_iload_n C dX5_lawOf_36 (pc' := 37) rfl rfl rfl ?_
      refine z_bipush C dX5_lawOf_37 (pc' := 39) rfl (v := 8) (by decide) ?_
      refine z_idiv C dX5_lawOf_39 (pc' := 40) rfl (by decide) (z := nI (a / 8)) (pk_div (a := a) (d := 8) (by omega) (by omega) (by omega)) ?_
      refine z_iload_n C dX5_lawOf_40 (pc' := 41) rfl rfl rfl ?_
      refine z_bipush C dX5_lawOf_41 (pc' := 43) rfl (v := 8) (by decide) ?_
      refine z_idiv C dX5_lawOf_43 (pc' := 44) rfl (by decide) (z := nI (b / 8)) (pk_div (a := b) (d := 8) (by omega) (by omega) (by omega)) ?_
      refine z_icmp_ne (tgt := 56) C dX5_lawOf_44 (pc' := 47) (by decide) rfl (fun c_44 => ?_) (fun c_44 => ?_)
      ·
        have n_44 : ¬ (a / 8) = (b / 8) := fun z9 => c_44 ((nI_eq (a := (a / 8)) (b := (b / 8)) (by omega) (by omega)).mpr z9)
        refine z_aload_n C dX5_lawOf_56 (pc' := 57) rfl rfl rfl ?_
        refine z_get C hK (by decide) kR_0 rfl inAX5 (k := 8) (by decide) aw_460 rfl dX5_lawOf_57 (pc' := 60) rfl ?_
        refine z_iconst C dX5_lawOf_60 (pc' := 61) rfl (v := 3) (by decide) ?_
        refine z_iald C hK (by decide) kR_5 (t0 := 0) rfl (j := 3) rfl (by decide) (by decide) rfl dX5_lawOf_61 (pc' := 62) rfl ?_
        exact z_iret C hM dX5_lawOf_62 (by simp [lawF, *])
      ·
        have n_44 : (a / 8) = (b / 8) := (nI_eq (a := (a / 8)) (b := (b / 8)) (by omega) (by omega)).mp c_44
        refine z_aload_n C dX5_lawOf_47 (pc' := 48) rfl rfl rfl ?_
        refine z_get C hK (by decide) kR_0 rfl inAX5 (k := 8) (by decide) aw_460 rfl dX5_lawOf_48 (pc' := 51) rfl ?_
        refine z_iconst C dX5_lawOf_51 (pc' := 52) rfl (v := 2) (by decide) ?_
        refine z_iald C hK (by decide) kR_5 (t0 := 0) rfl (j := 2) rfl (by decide) (by decide) rfl dX5_lawOf_52 (pc' := 53) rfl ?_
        refine z_goto C dX5_lawOf_53 (pc' := 62) (by decide) ?_
        exact z_iret C hM dX5_lawOf_62 (by simp [lawF, *])
    ·
      have n_24 : (a / 4) = (b / 4) := (nI_eq (a := (a / 4)) (b := (b / 4)) (by omega) (by omega)).mp c_24
      refine z_aload_n C dX5_lawOf_27 (pc' := 28) rfl rfl rfl ?_
      refine z_get C hK (by decide) kR_0 rfl inAX5 (k := 8) (by decide) aw_460 rfl dX5_lawOf_28 (pc' := 31) rfl ?_
      refine z_iconst C dX5_lawOf_31 (pc' := 32) rfl (v := 1) (by decide) ?_
      refine z_iald C hK (by decide) kR_5 (t0 := 0) rfl (j := 1) rfl (by decide) (by decide) rfl dX5_lawOf_32 (pc' := 33) rfl ?_
      refine z_goto C dX5_lawOf_33 (pc' := 62) (by decide) ?_
      exact z_iret C hM dX5_lawOf_62 (by simp [lawF, *])
  ·
    have n_6 : (a / 2) = (b / 2) := (nI_eq (a := (a / 2)) (b := (b / 2)) (by omega) (by omega)).mp c_6
    refine z_aload_n C dX5_lawOf_9 (pc' := 10) rfl rfl rfl ?_
    refine z_get C hK (by decide) kR_0 rfl inAX5 (k := 8) (by decide) aw_460 rfl dX5_lawOf_10 (pc' := 13) rfl ?_
    refine z_iconst C dX5_lawOf_13 (pc' := 14) rfl (v := 0) (by decide) ?_
    refine z_iald C hK (by decide) kR_5 (t0 := 0) rfl (j := 0) rfl (by decide) (by decide) rfl dX5_lawOf_14 (pc' := 15) rfl ?_
    refine z_goto C dX5_lawOf_15 (pc' := 62) (by decide) ?_
    exact z_iret C hM dX5_lawOf_62 (by simp [lawF, *])
set_option maxRecDepth 100000 in
set_option maxHeartbeats 400000 in
theorem m_X0_brokenPairs (l : Launch) {cA cB : ClassId} {D : va_G} {ad : Nat → Nat} (hI : Inj 67 ad) (σ : St)  : CI l yX0_brokenPairs cX0_brokenPairs 5 .int 1 22 D [(cA, .int), (cB, .object RX3)] 67 ad (cellC cA cB ad) σ [.ref (ad 3), .ref (ad 2)] (fun r u => r = brO (σ 23) (σ 5) 16 ∧ u = σ) := by
  refine CI_of (by decide +kernel) (Nat.le_of_ble_eq_true rfl) (by simp [Value.category]) ?_
  intro p e s m below meth c C hM hK
  refine z_iconst C dX0_brokenPairs_0 (pc' := 1) rfl (v := 0) (by decide) ?_
  refine z_istore_n (L' := [.ref _, .ref _, .int _]) C dX0_brokenPairs_1 (pc' := 2) rfl rfl (by decide) (Nat.le_of_ble_eq_true rfl) rfl ?_
  refine z_iconst C dX0_brokenPairs_2 (pc' := 3) rfl (v := 0) (by decide) ?_
  refine z_istore_n (L' := [.ref _, .ref _, .int _, .int _]) C dX0_brokenPairs_3 (pc' := 4) rfl rfl (by decide) (Nat.le_of_ble_eq_true rfl) rfl ?_
  refine z_loop (τ := Nat) (fun a => 16 - a) (fun a => a ≤ 16) (fun a => σ) (fun a => [.ref (ad 3), .ref (ad 2), .int (brO (σ 23) (σ 5) a), .int (nI a)]) 0 (by omega) rfl ⟨_, rfl⟩ ?_
  intro a ha ih4
  try dsimp only at ha ih4 ⊢
  refine z_iload_n C dX0_brokenPairs_4 (pc' := 5) rfl rfl rfl ?_
  refine z_aload_n C dX0_brokenPairs_5 (pc' := 6) rfl rfl rfl ?_
  refine z_alen C hK (by decide) kC_2 (t0 := 0) rfl dX0_brokenPairs_6 (pc' := 7) rfl ?_
  refine z_icmp_ge (tgt := 58) C dX0_brokenPairs_7 (pc' := 10) (by decide) rfl (fun c_7 => ?_) (fun c_7 => ?_)
  ·
    have n_7 : 16 ≤ a := ge_of_le (N := 16) (k := a) c_7 (by omega) (by omega)
    obtain rfl : a = 16 := (by omega)
    refine z_iload_n C dX0_brokenPairs_58 (pc' := 59) rfl rfl rfl ?_
    exact z_iret C hM dX0_brokenPairs_59 ⟨rfl, rfl⟩
  ·
    have n_7 : a < 16 := lt_of_nle (N := 16) (k := a) c_7 (by omega) (by omega)
    refine z_iload_n C dX0_brokenPairs_10 (pc' := 11) rfl rfl rfl ?_
    refine z_iconst C dX0_brokenPairs_11 (pc' := 12) rfl (v := 1) (by decide) ?_
    refine z_iadd C dX0_brokenPairs_12 (pc' := 13) rfl (nI_add (a) (1)) ?_
    refine z_istore (L' := [.ref _, .ref _, .int _, .int _, .int _]) C dX0_brokenPairs_13 (pc' := 15) rfl (by decide) (Nat.le_of_ble_eq_true rfl) rfl ?_
    refine z_loop (τ := Nat) (fun n => 15 - a - n) (fun n => a + 1 + n ≤ 16) (fun n => σ) (fun n => [.ref (ad 3), .ref (ad 2), .int (brI (σ 23) (σ 5) a (brO (σ 23) (σ 5) a) n), .int (nI a), .int (nI (a + 1 + n))]) 0 (by omega) rfl ⟨_, rfl⟩ ?_
    intro n hn ih15
    try dsimp only at hn ih15 ⊢
    refine z_iload C dX0_brokenPairs_15 (pc' := 17) rfl rfl ?_
    refine z_aload_n C dX0_brokenPairs_17 (pc' := 18) rfl rfl rfl ?_
    refine z_alen C hK (by decide) kC_2 (t0 := 0) rfl dX0_brokenPairs_18 (pc' := 19) rfl ?_
    refine z_icmp_ge (tgt := 52) C dX0_brokenPairs_19 (pc' := 22) (by decide) rfl (fun c_19 => ?_) (fun c_19 => ?_)
    ·
      have n_19 : 16 ≤ (a + 1 + n) := ge_of_le (N := 16) (k := (a + 1 + n)) c_19 (by omega) (by omega)
      obtain rfl : n = 15 - a := (by omega)
      refine z_iinc (L' := [.ref _, .ref _, .int _, .int _, .int _]) C dX0_brokenPairs_52 (pc' := 55) rfl rfl (iinc1 _) (by decide) (Nat.le_of_ble_eq_true rfl) rfl ?_
      refine z_goto C dX0_brokenPairs_55 (pc' := 4) (by decide) ?_
      exact z_back 4 (ih4 (a + 1) (by omega) (by omega)) rfl rfl
    ·
      have n_19 : (a + 1 + n) < 16 := lt_of_nle (N := 16) (k := (a + 1 + n)) c_19 (by omega) (by omega)
      refine z_aload_n C dX0_brokenPairs_22 (pc' := 23) rfl rfl rfl ?_
      refine z_iload_n C dX0_brokenPairs_23 (pc' := 24) rfl rfl rfl ?_
      refine z_iald C hK (by decide) kC_2 (t0 := 0) rfl (j := a) rfl (by omega) (by decide) rfl dX0_brokenPairs_24 (pc' := 25) rfl ?_
      refine z_aload_n C dX0_brokenPairs_25 (pc' := 26) rfl rfl rfl ?_
      refine z_iload C dX0_brokenPairs_26 (pc' := 28) rfl rfl ?_
      refine z_iald C hK (by decide) kC_2 (t0 := 0) rfl (j := (a + 1 + n)) rfl (by omega) (by decide) rfl dX0_brokenPairs_28 (pc' := 29) rfl ?_
      refine z_isub C dX0_brokenPairs_29 (pc' := 30) rfl rfl ?_
      refine z_abs C aw_274 aw_275 aw_33 aw_276 ⟨Nat.le_of_ble_eq_true rfl, Nat.le_of_ble_eq_true rfl⟩ ⟨Nat.zero_le _, Nat.zero_le _⟩ dX0_brokenPairs_30 (pc' := 33) rfl ?_
      refine z_aload_n C dX0_brokenPairs_33 (pc' := 34) rfl rfl rfl ?_
      refine z_iload_n C dX0_brokenPairs_34 (pc' := 35) rfl rfl rfl ?_
      refine z_iload C dX0_brokenPairs_35 (pc' := 37) rfl rfl ?_
      refine z_callI C hK (m_X0_between l hI _ (a := a) (b := (a + 1 + n)) (by omega) (by omega)) AdS_in aw_277 aw_279 aw_6 aw_28 aw_280 (by decide) kC_3 rfl (nA := 2) (by decide +kernel) rfl ⟨Nat.le_of_ble_eq_true rfl, Nat.le_of_ble_eq_true rfl⟩ (rest := [_]) rfl (Nat.le_of_ble_eq_true rfl) ⟨Nat.zero_le _, Nat.zero_le _⟩ dX0_brokenPairs_37 (pc' := 40) rfl (fun r_37 u_37 h_37 => ?_)
      obtain ⟨hr_37, hu_37⟩ := h_37
      rw [hr_37, hu_37]
      refine z_icmp_le (tgt := 46) C dX0_brokenPairs_40 (pc' := 43) (by decide) rfl (fun c_40 => ?_) (fun c_40 => ?_)
      ·
        refine z_iinc (L' := [.ref _, .ref _, .int _, .int _, .int _]) C dX0_brokenPairs_46 (pc' := 49) rfl rfl (iinc1 _) (by decide) (Nat.le_of_ble_eq_true rfl) rfl ?_
        refine z_goto C dX0_brokenPairs_49 (pc' := 15) (by decide) ?_
        exact z_back 5 (ih15 (n + 1) (by omega) (by omega)) rfl (by simp only [List.take, brI]; first | (rw [if_pos (show ab _ ≤ _ from c_40)]; rfl) | (rw [if_neg (show ¬ ab _ ≤ _ from c_40)]; rfl))
      ·
        refine z_iinc (L' := [.ref _, .ref _, .int _, .int _, .int _]) C dX0_brokenPairs_43 (pc' := 46) rfl rfl (iincx _) (by decide) (Nat.le_of_ble_eq_true rfl) rfl ?_
        refine z_iinc (L' := [.ref _, .ref _, .int _, .int _, .int _]) C dX0_brokenPairs_46 (pc' := 49) rfl rfl (iinc1 _) (by decide) (Nat.le_of_ble_eq_true rfl) rfl ?_
        refine z_goto C dX0_brokenPairs_49 (pc' := 15) (by decide) ?_
        exact z_back 5 (ih15 (n + 1) (by omega) (by omega)) rfl (by simp only [List.take, brI]; first | (rw [if_pos (show ab _ ≤ _ from c_40)]; rfl) | (rw [if_neg (show ¬ ab _ ≤ _ from c_40)]; rfl))
set_option maxRecDepth 100000 in
set_option maxHeartbeats 400000 in
theorem m_X0_lowerOnce (l : Launch) {cA cB : ClassId} {D : va_G} {ad : Nat → Nat} (hI : Inj 67 ad) (σ : St)  : CI l yX0_lowerOnce cX0_lowerOnce 6 .boolean 1 22 D [(cA, .int), (cB, .object RX3)] 67 ad (cellC cA cB ad) σ [.ref (ad 3), .ref (ad 2)] (fun r u => r = (loA 23 false (σ, 0) 16).2 ∧ u = (loA 23 false (σ, 0) 16).1) := by
  refine CI_of (by decide +kernel) (Nat.le_of_ble_eq_true rfl) (by simp [Value.category]) ?_
  intro p e s m below meth c C hM hK
  refine z_iconst C dX0_lowerOnce_0 (pc' := 1) rfl (v := 0) (by decide) ?_
  refine z_istore_n (L' := [.ref _, .ref _, .int _]) C dX0_lowerOnce_1 (pc' := 2) rfl rfl (by decide) (Nat.le_of_ble_eq_true rfl) rfl ?_
  refine z_iconst C dX0_lowerOnce_2 (pc' := 3) rfl (v := 0) (by decide) ?_
  refine z_istore_n (L' := [.ref _, .ref _, .int _, .int _]) C dX0_lowerOnce_3 (pc' := 4) rfl rfl (by decide) (Nat.le_of_ble_eq_true rfl) rfl ?_
  refine z_loop (τ := Nat) (fun a => 16 - a) (fun a => a ≤ 16) (fun a => (loA 23 false (σ, 0) a).1) (fun a => [.ref (ad 3), .ref (ad 2), .int (loA 23 false (σ, 0) a).2, .int (nI a)]) 0 (by omega) rfl ⟨_, rfl⟩ ?_
  intro a ha ih4
  try dsimp only at ha ih4 ⊢
  refine z_iload_n C dX0_lowerOnce_4 (pc' := 5) rfl rfl rfl ?_
  refine z_aload_n C dX0_lowerOnce_5 (pc' := 6) rfl rfl rfl ?_
  refine z_alen C hK (by decide) kC_2 (t0 := 0) rfl dX0_lowerOnce_6 (pc' := 7) rfl ?_
  refine z_icmp_ge (tgt := 61) C dX0_lowerOnce_7 (pc' := 10) (by decide) rfl (fun c_7 => ?_) (fun c_7 => ?_)
  ·
    have n_7 : 16 ≤ a := ge_of_le (N := 16) (k := a) c_7 (by omega) (by omega)
    obtain rfl : a = 16 := (by omega)
    refine z_iload_n C dX0_lowerOnce_61 (pc' := 62) rfl rfl rfl ?_
    exact z_zret C hM dX0_lowerOnce_62 (loA01 (Or.inl rfl) 16) ⟨rfl, rfl⟩
  ·
    have n_7 : a < 16 := lt_of_nle (N := 16) (k := a) c_7 (by omega) (by omega)
    refine z_iconst C dX0_lowerOnce_10 (pc' := 11) rfl (v := 0) (by decide) ?_
    refine z_istore (L' := [.ref _, .ref _, .int _, .int _, .int _]) C dX0_lowerOnce_11 (pc' := 13) rfl (by decide) (Nat.le_of_ble_eq_true rfl) rfl ?_
    refine z_loop (τ := Nat) (fun b => 16 - b) (fun b => b ≤ 16) (fun b => (loB 23 false a (loA 23 false (σ, 0) a) b).1) (fun b => [.ref (ad 3), .ref (ad 2), .int (loB 23 false a (loA 23 false (σ, 0) a) b).2, .int (nI a), .int (nI b)]) 0 (by omega) rfl ⟨_, rfl⟩ ?_
    intro b hb ih13
    try dsimp only at hb ih13 ⊢
    refine z_iload C dX0_lowerOnce_13 (pc' := 15) rfl rfl ?_
    refine z_aload_n C dX0_lowerOnce_15 (pc' := 16) rfl rfl rfl ?_
    refine z_alen C hK (by decide) kC_2 (t0 := 0) rfl dX0_lowerOnce_16 (pc' := 17) rfl ?_
    refine z_icmp_ge (tgt := 55) C dX0_lowerOnce_17 (pc' := 20) (by decide) rfl (fun c_17 => ?_) (fun c_17 => ?_)
    ·
      have n_17 : 16 ≤ b := ge_of_le (N := 16) (k := b) c_17 (by omega) (by omega)
      obtain rfl : b = 16 := (by omega)
      refine z_iinc (L' := [.ref _, .ref _, .int _, .int _, .int _]) C dX0_lowerOnce_55 (pc' := 58) rfl rfl (iinc1 _) (by decide) (Nat.le_of_ble_eq_true rfl) rfl ?_
      refine z_goto C dX0_lowerOnce_58 (pc' := 4) (by decide) ?_
      exact z_back 4 (ih4 (a + 1) (by omega) (by omega)) rfl rfl
    ·
      have n_17 : b < 16 := lt_of_nle (N := 16) (k := b) c_17 (by omega) (by omega)
      refine z_aload_n C dX0_lowerOnce_20 (pc' := 21) rfl rfl rfl ?_
      refine z_iload C dX0_lowerOnce_21 (pc' := 23) rfl rfl ?_
      refine z_iald C hK (by decide) kC_2 (t0 := 0) rfl (j := b) rfl (by omega) (by decide) rfl dX0_lowerOnce_23 (pc' := 24) rfl ?_
      refine z_aload_n C dX0_lowerOnce_24 (pc' := 25) rfl rfl rfl ?_
      refine z_iload_n C dX0_lowerOnce_25 (pc' := 26) rfl rfl rfl ?_
      refine z_iload C dX0_lowerOnce_26 (pc' := 28) rfl rfl ?_
      refine z_callI C hK (m_X0_between l hI _ (a := a) (b := b) (by omega) (by omega)) AdS_in aw_277 aw_279 aw_6 aw_28 aw_280 (by decide) kC_3 rfl (nA := 2) (by decide +kernel) rfl ⟨Nat.le_of_ble_eq_true rfl, Nat.le_of_ble_eq_true rfl⟩ (rest := [_]) rfl (Nat.le_of_ble_eq_true rfl) ⟨Nat.zero_le _, Nat.zero_le _⟩ dX0_lowerOnce_28 (pc' := 31) rfl (fun r_28 u_28 h_28 => ?_)
      obtain ⟨hr_28, hu_28⟩ := h_28
      rw [hr_28, hu_28]
      refine z_iadd C dX0_lowerOnce_31 (pc' := 32) rfl rfl ?_
      refine z_istore (L' := [.ref _, .ref _, .int _, .int _, .int _, .int _]) C dX0_lowerOnce_32 (pc' := 34) rfl (by decide) (Nat.le_of_ble_eq_true rfl) rfl ?_
      refine z_aload_n C dX0_lowerOnce_34 (pc' := 35) rfl rfl rfl ?_
      refine z_iload_n C dX0_lowerOnce_35 (pc' := 36) rfl rfl rfl ?_
      refine z_iald C hK (by decide) kC_2 (t0 := 0) rfl (j := a) rfl (by omega) (by decide) rfl dX0_lowerOnce_36 (pc' := 37) rfl ?_
      refine z_iload C dX0_lowerOnce_37 (pc' := 39) rfl rfl ?_
      refine z_icmp_le (tgt := 49) C dX0_lowerOnce_39 (pc' := 42) (by decide) rfl (fun c_39 => ?_) (fun c_39 => ?_)
      ·
        refine z_iinc (L' := [.ref _, .ref _, .int _, .int _, .int _, .int _]) C dX0_lowerOnce_49 (pc' := 52) rfl rfl (iinc1 _) (by decide) (Nat.le_of_ble_eq_true rfl) rfl ?_
        refine z_goto C dX0_lowerOnce_52 (pc' := 13) (by decide) ?_
        exact z_back 5 (ih13 (b + 1) (by omega) (by omega)) (by simp [loB, lst, c_39]) (by simp [loB, lst, c_39])
      ·
        refine z_aload_n C dX0_lowerOnce_42 (pc' := 43) rfl rfl rfl ?_
        refine z_iload_n C dX0_lowerOnce_43 (pc' := 44) rfl rfl rfl ?_
        refine z_iload C dX0_lowerOnce_44 (pc' := 46) rfl rfl ?_
        refine z_iast C hK hI AdS_in (by decide) kC_2 sC_a2 oC_a2 (t0 := 0) rfl (j := a) rfl (by omega) (by decide) dX0_lowerOnce_46 (pc' := 47) rfl ?_
        refine z_iconst C dX0_lowerOnce_47 (pc' := 48) rfl (v := 1) (by decide) ?_
        refine z_istore_n (L' := [.ref _, .ref _, .int _, .int _, .int _, .int _]) C dX0_lowerOnce_48 (pc' := 49) rfl rfl (by decide) (Nat.le_of_ble_eq_true rfl) rfl ?_
        refine z_iinc (L' := [.ref _, .ref _, .int _, .int _, .int _, .int _]) C dX0_lowerOnce_49 (pc' := 52) rfl rfl (iinc1 _) (by decide) (Nat.le_of_ble_eq_true rfl) rfl ?_
        refine z_goto C dX0_lowerOnce_52 (pc' := 13) (by decide) ?_
        exact z_back 5 (ih13 (b + 1) (by omega) (by omega)) (by simp [loB, lst, c_39]) (by simp [loB, lst, c_39])
set_option maxRecDepth 100000 in
set_option maxHeartbeats 400000 in
theorem m_X0_lower (l : Launch) {cA cB : ClassId} {D : va_G} {ad : Nat → Nat} (hI : Inj 67 ad) (σ : St)  : CV l yX0_lower cX0_lower 4 2 47 D [(cA, .int), (cB, .object RX3)] 67 ad (cellC cA cB ad) σ [.ref (ad 3), .ref (ad 2)] (fun u => ∃ i, i ≤ 16 ∧ u = (lwS 23 false σ i).1 ∧ ((lwS 23 false σ i).2 = 0 ∨ i = 16)) := by
  refine CV_of (by decide +kernel) (Nat.le_of_ble_eq_true rfl) (by simp [Value.category]) ?_
  intro p e s m below meth c C hM hK
  refine z_iconst C dX0_lower_0 (pc' := 1) rfl (v := 1) (by decide) ?_
  refine z_istore_n (L' := [.ref _, .ref _, .int _]) C dX0_lower_1 (pc' := 2) rfl rfl (by decide) (Nat.le_of_ble_eq_true rfl) rfl ?_
  refine z_iconst C dX0_lower_2 (pc' := 3) rfl (v := 0) (by decide) ?_
  refine z_istore_n (L' := [.ref _, .ref _, .int _, .int _]) C dX0_lower_3 (pc' := 4) rfl rfl (by decide) (Nat.le_of_ble_eq_true rfl) rfl ?_
  refine z_loop (τ := Nat) (fun i => 16 - i) (fun i => i ≤ 16) (fun i => (lwS 23 false σ i).1) (fun i => [.ref (ad 3), .ref (ad 2), .int (lwS 23 false σ i).2, .int (nI i)]) 0 (by omega) rfl ⟨_, rfl⟩ ?_
  intro i hi ih4
  try dsimp only at hi ih4 ⊢
  refine z_iload_n C dX0_lower_4 (pc' := 5) rfl rfl rfl ?_
  refine z_if_eq (tgt := 26) C dX0_lower_5 (pc' := 8) (by decide) rfl (fun c_5 => ?_) (fun c_5 => ?_)
  ·
    exact z_vret C hM dX0_lower_26 (by first | exact ⟨i, hi, rfl, Or.inl c_5⟩ | exact ⟨i, hi, rfl, Or.inr (by omega)⟩)
  ·
    refine z_iload_n C dX0_lower_8 (pc' := 9) rfl rfl rfl ?_
    refine z_aload_n C dX0_lower_9 (pc' := 10) rfl rfl rfl ?_
    refine z_alen C hK (by decide) kC_2 (t0 := 0) rfl dX0_lower_10 (pc' := 11) rfl ?_
    refine z_icmp_ge (tgt := 26) C dX0_lower_11 (pc' := 14) (by decide) rfl (fun c_11 => ?_) (fun c_11 => ?_)
    ·
      have n_11 : 16 ≤ i := ge_of_le (N := 16) (k := i) c_11 (by omega) (by omega)
      exact z_vret C hM dX0_lower_26 (by first | exact ⟨i, hi, rfl, Or.inl c_5⟩ | exact ⟨i, hi, rfl, Or.inr (by omega)⟩)
    ·
      have n_11 : i < 16 := lt_of_nle (N := 16) (k := i) c_11 (by omega) (by omega)
      refine z_aload_n C dX0_lower_14 (pc' := 15) rfl rfl rfl ?_
      refine z_aload_n C dX0_lower_15 (pc' := 16) rfl rfl rfl ?_
      refine z_callI C hK (m_X0_lowerOnce l hI _) AdS_in aw_293 aw_295 aw_8 aw_28 aw_296 (by decide) kC_3 rfl (nA := 1) (by decide +kernel) rfl ⟨Nat.le_of_ble_eq_true rfl, Nat.le_of_ble_eq_true rfl⟩ (rest := []) rfl (Nat.le_of_ble_eq_true rfl) ⟨Nat.zero_le _, Nat.zero_le _⟩ dX0_lower_16 (pc' := 19) rfl (fun r_16 u_16 h_16 => ?_)
      obtain ⟨hr_16, hu_16⟩ := h_16
      rw [hr_16, hu_16]
      refine z_istore_n (L' := [.ref _, .ref _, .int _, .int _]) C dX0_lower_19 (pc' := 20) rfl rfl (by decide) (Nat.le_of_ble_eq_true rfl) rfl ?_
      refine z_iinc (L' := [.ref _, .ref _, .int _, .int _]) C dX0_lower_20 (pc' := 23) rfl rfl (iinc1 _) (by decide) (Nat.le_of_ble_eq_true rfl) rfl ?_
      refine z_goto C dX0_lower_23 (pc' := 4) (by decide) ?_
      exact z_back 4 (ih4 (i + 1) (by omega) (by omega)) rfl rfl
set_option maxRecDepth 100000 in
set_option maxHeartbeats 400000 in
theorem m_X4_fillSizes (l : Launch) {cA cB : ClassId} {D : va_G} {ad : Nat → Nat} (hI : Inj 67 ad) (σ : St)  : CV l yX4_fillSizes cX4_fillSizes 2 0 0 D [(cA, .int), (cB, .object RX3)] 67 ad (cellC cA cB ad) σ [.ref (ad 0)] (fun u => u = cpL σ 23 16) := by
  refine CV_of (by decide +kernel) (Nat.le_of_ble_eq_true rfl) (by simp [Value.category]) ?_
  intro p e s m below meth c C hM hK
  refine z_iconst C dX4_fillSizes_0 (pc' := 1) rfl (v := 0) (by decide) ?_
  refine z_istore_n (L' := [.ref _, .int _]) C dX4_fillSizes_1 (pc' := 2) rfl rfl (by decide) (Nat.le_of_ble_eq_true rfl) rfl ?_
  refine z_loop (τ := Nat) (fun i => 16 - i) (fun i => i ≤ 16) (fun i => cpL σ 23 i) (fun i => [.ref (ad 0), .int (nI i)]) 0 (by omega) rfl ⟨_, rfl⟩ ?_
  intro i hi ih2
  try dsimp only at hi ih2 ⊢
  refine z_iload_n C dX4_fillSizes_2 (pc' := 3) rfl rfl rfl ?_
  refine z_bipush C dX4_fillSizes_3 (pc' := 5) rfl (v := 16) (by decide) ?_
  refine z_icmp_ge (tgt := 29) C dX4_fillSizes_5 (pc' := 8) (by decide) rfl (fun c_5 => ?_) (fun c_5 => ?_)
  ·
    have n_5 : 16 ≤ i := ge_of_le (N := 16) (k := i) c_5 (by omega) (by omega)
    obtain rfl : i = 16 := (by omega)
    exact z_vret C hM dX4_fillSizes_29 rfl
  ·
    have n_5 : i < 16 := lt_of_nle (N := 16) (k := i) c_5 (by omega) (by omega)
    refine z_aload_n C dX4_fillSizes_8 (pc' := 9) rfl rfl rfl ?_
    refine z_get C hK (by decide) kC_0 rfl inAX4 (k := 4) (by decide) aw_149 rfl dX4_fillSizes_9 (pc' := 12) rfl ?_
    refine z_iload_n C dX4_fillSizes_12 (pc' := 13) rfl rfl rfl ?_
    refine z_aload_n C dX4_fillSizes_13 (pc' := 14) rfl rfl rfl ?_
    refine z_get C hK (by decide) kC_0 rfl inAX4 (k := 0) (by decide) aw_145 rfl dX4_fillSizes_14 (pc' := 17) rfl ?_
    refine z_iload_n C dX4_fillSizes_17 (pc' := 18) rfl rfl rfl ?_
    refine z_aald C hK (by decide) kC_1 (t0 := 1) rfl (j := i) rfl (by omega) (by decide) rfl dX4_fillSizes_18 (pc' := 19) rfl ?_
    refine z_get C hK (pW_lt (by omega)) (kC_W i) rfl inAX3 (k := 1) (by decide) aw_122 rfl dX4_fillSizes_19 (pc' := 22) rfl ?_
    refine z_iast C hK hI AdS_in (by decide) kC_2 sC_a2 oC_a2 (t0 := 0) rfl (j := i) rfl (by omega) (by decide) dX4_fillSizes_22 (pc' := 23) rfl ?_
    refine z_iinc (L' := [.ref _, .int _]) C dX4_fillSizes_23 (pc' := 26) rfl rfl (iinc1 _) (by decide) (Nat.le_of_ble_eq_true rfl) rfl ?_
    refine z_goto C dX4_fillSizes_26 (pc' := 2) (by decide) ?_
    exact z_back 2 (ih2 (i + 1) (by omega) (by omega)) rfl rfl
set_option maxRecDepth 100000 in
set_option maxHeartbeats 400000 in
theorem m_X4_fillKeptSizes (l : Launch) {cA cB : ClassId} {D : va_G} {ad : Nat → Nat} (hI : Inj 67 ad) (σ : St)  : CV l yX4_fillKeptSizes cX4_fillKeptSizes 1 3 70 D [(cA, .int), (cB, .object RX3)] 67 ad (cellC cA cB ad) σ [.ref (ad 0)] (fun u => KC σ u) := by
  refine CV_of (by decide +kernel) (Nat.le_of_ble_eq_true rfl) (by simp [Value.category]) ?_
  intro p e s m below meth c C hM hK
  refine z_aload_n C dX4_fillKeptSizes_0 (pc' := 1) rfl rfl rfl ?_
  refine z_callV C hK (m_X4_fillSizes l hI _) AdS_in aw_266 aw_268 aw_5 aw_27 aw_269 (by decide) kC_0 rfl (nA := 0) (by decide +kernel) rfl ⟨Nat.le_of_ble_eq_true rfl, Nat.le_of_ble_eq_true rfl⟩ (rest := []) rfl (Nat.le_of_ble_eq_true rfl) ⟨Nat.zero_le _, Nat.zero_le _⟩ dX4_fillKeptSizes_1 (pc' := 4) rfl (fun u_1 h_1 => ?_)
  rw [h_1]
  refine z_aload_n C dX4_fillKeptSizes_4 (pc' := 5) rfl rfl rfl ?_
  refine z_get C hK (by decide) kC_0 rfl inAX4 (k := 1) (by decide) aw_146 rfl dX4_fillKeptSizes_5 (pc' := 8) rfl ?_
  refine z_aload_n C dX4_fillKeptSizes_8 (pc' := 9) rfl rfl rfl ?_
  refine z_get C hK (by decide) kC_0 rfl inAX4 (k := 4) (by decide) aw_149 rfl dX4_fillKeptSizes_9 (pc' := 12) rfl ?_
  refine z_callV C hK (m_X0_lower l hI _) AdS_in aw_289 aw_290 aw_291 aw_28 aw_292 (by decide) kC_3 rfl (nA := 1) (by decide +kernel) rfl ⟨Nat.le_of_ble_eq_true rfl, Nat.le_of_ble_eq_true rfl⟩ (rest := []) rfl (Nat.le_of_ble_eq_true rfl) ⟨Nat.zero_le _, Nat.zero_le _⟩ dX4_fillKeptSizes_12 (pc' := 15) rfl (fun u_12 h_12 => ?_)
  obtain ⟨i_12, hi_12, hu_12, he_12⟩ := h_12
  rw [hu_12]
  exact z_vret C hM dX4_fillKeptSizes_15 ⟨i_12, hi_12, rfl, he_12⟩
set_option maxRecDepth 100000 in
set_option maxHeartbeats 400000 in
theorem m_X4_broken (l : Launch) {cA cB : ClassId} {D : va_G} {ad : Nat → Nat} (hI : Inj 67 ad) (σ : St)  : CI l yX4_broken cX4_broken 1 .int 2 46 D [(cA, .int), (cB, .object RX3)] 67 ad (cellC cA cB ad) σ [.ref (ad 0)] (fun r u => u = cpL σ 23 16 ∧ r = brO (u 23) (u 5) 16) := by
  refine CI_of (by decide +kernel) (Nat.le_of_ble_eq_true rfl) (by simp [Value.category]) ?_
  intro p e s m below meth c C hM hK
  refine z_aload_n C dX4_broken_0 (pc' := 1) rfl rfl rfl ?_
  refine z_callV C hK (m_X4_fillSizes l hI _) AdS_in aw_266 aw_268 aw_5 aw_27 aw_269 (by decide) kC_0 rfl (nA := 0) (by decide +kernel) rfl ⟨Nat.le_of_ble_eq_true rfl, Nat.le_of_ble_eq_true rfl⟩ (rest := []) rfl (Nat.le_of_ble_eq_true rfl) ⟨Nat.zero_le _, Nat.zero_le _⟩ dX4_broken_1 (pc' := 4) rfl (fun u_1 h_1 => ?_)
  rw [h_1]
  refine z_aload_n C dX4_broken_4 (pc' := 5) rfl rfl rfl ?_
  refine z_get C hK (by decide) kC_0 rfl inAX4 (k := 1) (by decide) aw_146 rfl dX4_broken_5 (pc' := 8) rfl ?_
  refine z_aload_n C dX4_broken_8 (pc' := 9) rfl rfl rfl ?_
  refine z_get C hK (by decide) kC_0 rfl inAX4 (k := 4) (by decide) aw_149 rfl dX4_broken_9 (pc' := 12) rfl ?_
  refine z_callI C hK (m_X0_brokenPairs l hI _) AdS_in aw_270 aw_271 aw_272 aw_28 aw_273 (by decide) kC_3 rfl (nA := 1) (by decide +kernel) rfl ⟨Nat.le_of_ble_eq_true rfl, Nat.le_of_ble_eq_true rfl⟩ (rest := []) rfl (Nat.le_of_ble_eq_true rfl) ⟨Nat.zero_le _, Nat.zero_le _⟩ dX4_broken_12 (pc' := 15) rfl (fun r_12 u_12 h_12 => ?_)
  obtain ⟨hr_12, hu_12⟩ := h_12
  rw [hr_12, hu_12]
  exact z_iret C hM dX4_broken_15 ⟨rfl, rfl⟩
set_option maxRecDepth 100000 in
set_option maxHeartbeats 400000 in
theorem m_X4_kept (l : Launch) {cA cB : ClassId} {D : va_G} {ad : Nat → Nat} (hI : Inj 67 ad) (σ : St) (w : Int32) : CI l yX4_kept cX4_kept 2 .int 4 90 D [(cA, .int), (cB, .object RX3)] 67 ad (cellC cA cB ad) σ [.ref (ad 0), .int w] (fun r u => (¬ isW w ∧ r = -1 ∧ u = σ) ∨ (∃ k : Nat, k < 16 ∧ w = nI k ∧ KC σ u ∧ r = u 23 k)) := by
  refine CI_of (by decide +kernel) (Nat.le_of_ble_eq_true rfl) (by simp [Value.category]) ?_
  intro p e s m below meth c C hM hK
  refine z_iload_n C dX4_kept_0 (pc' := 1) rfl rfl rfl ?_
  refine z_callS C (m_X4_isWheel l _) stabP aw_177 aw_178 aw_27 aw_179 (nA := 1) (by decide +kernel) rfl ⟨Nat.le_of_ble_eq_true rfl, Nat.le_of_ble_eq_true rfl⟩ (rest := []) rfl (Nat.le_of_ble_eq_true rfl) ⟨Nat.zero_le _, Nat.zero_le _⟩ dX4_kept_1 (pc' := 4) rfl (fun r_1 h_1 => ?_)
  rcases h_1 with ⟨rfl, h_1⟩ | ⟨rfl, h_1⟩
  ·
    obtain ⟨k, hk, rfl⟩ := isW_of h_1
    refine z_if_ne (tgt := 9) C dX4_kept_4 (pc' := 7) (by decide) rfl (fun _ => ?_) (fun q => absurd q (by decide))
    refine z_aload_n C dX4_kept_9 (pc' := 10) rfl rfl rfl ?_
    refine z_callV C hK (m_X4_fillKeptSizes l hI _) AdS_in aw_285 aw_287 aw_7 aw_27 aw_288 (by decide) kC_0 rfl (nA := 0) (by decide +kernel) rfl ⟨Nat.le_of_ble_eq_true rfl, Nat.le_of_ble_eq_true rfl⟩ (rest := []) rfl (Nat.le_of_ble_eq_true rfl) ⟨Nat.zero_le _, Nat.zero_le _⟩ dX4_kept_10 (pc' := 13) rfl (fun u_10 h_10 => ?_)
    refine z_aload_n C dX4_kept_13 (pc' := 14) rfl rfl rfl ?_
    refine z_get C hK (by decide) kC_0 rfl inAX4 (k := 4) (by decide) aw_149 rfl dX4_kept_14 (pc' := 17) rfl ?_
    refine z_iload_n C dX4_kept_17 (pc' := 18) rfl rfl rfl ?_
    refine z_iald C hK (by decide) kC_2 (t0 := 0) rfl (j := k) rfl (by omega) (by decide) rfl dX4_kept_18 (pc' := 19) rfl ?_
    exact z_iret C hM dX4_kept_19 (Or.inr ⟨k, hk, rfl, h_10, rfl⟩)
  ·
    refine z_if_ne (tgt := 9) C dX4_kept_4 (pc' := 7) (by decide) rfl (fun q => absurd q (by decide)) (fun _ => ?_)
    refine z_iconst C dX4_kept_7 (pc' := 8) rfl (v := (-1)) (by decide) ?_
    exact z_iret C hM dX4_kept_8 (Or.inl ⟨h_1, rfl, rfl⟩)
set_option maxRecDepth 100000 in
set_option maxHeartbeats 400000 in
theorem m_X4_steel (l : Launch) {cA cB : ClassId} {D : va_G} {ad : Nat → Nat} (hI : Inj 67 ad) (σ : St)  : CI l yX4_steel cX4_steel 3 .int 4 90 D [(cA, .int), (cB, .object RX3)] 67 ad (cellC cA cB ad) σ [.ref (ad 0)] (fun r u => KC σ u ∧ r = stL u 23 16) := by
  refine CI_of (by decide +kernel) (Nat.le_of_ble_eq_true rfl) (by simp [Value.category]) ?_
  intro p e s m below meth c C hM hK
  refine z_aload_n C dX4_steel_0 (pc' := 1) rfl rfl rfl ?_
  refine z_callV C hK (m_X4_fillKeptSizes l hI _) AdS_in aw_285 aw_287 aw_7 aw_27 aw_288 (by decide) kC_0 rfl (nA := 0) (by decide +kernel) rfl ⟨Nat.le_of_ble_eq_true rfl, Nat.le_of_ble_eq_true rfl⟩ (rest := []) rfl (Nat.le_of_ble_eq_true rfl) ⟨Nat.zero_le _, Nat.zero_le _⟩ dX4_steel_1 (pc' := 4) rfl (fun u_1 h_1 => ?_)
  refine z_iconst C dX4_steel_4 (pc' := 5) rfl (v := 0) (by decide) ?_
  refine z_istore_n (L' := [.ref _, .int _]) C dX4_steel_5 (pc' := 6) rfl rfl (by decide) (Nat.le_of_ble_eq_true rfl) rfl ?_
  refine z_iconst C dX4_steel_6 (pc' := 7) rfl (v := 0) (by decide) ?_
  refine z_istore_n (L' := [.ref _, .int _, .int _]) C dX4_steel_7 (pc' := 8) rfl rfl (by decide) (Nat.le_of_ble_eq_true rfl) rfl ?_
  refine z_loop (τ := Nat) (fun i => 16 - i) (fun i => i ≤ 16) (fun i => u_1) (fun i => [.ref (ad 0), .int (stL u_1 23 i), .int (nI i)]) 0 (by omega) rfl ⟨_, rfl⟩ ?_
  intro i hi ih8
  try dsimp only at hi ih8 ⊢
  refine z_iload_n C dX4_steel_8 (pc' := 9) rfl rfl rfl ?_
  refine z_bipush C dX4_steel_9 (pc' := 11) rfl (v := 16) (by decide) ?_
  refine z_icmp_ge (tgt := 39) C dX4_steel_11 (pc' := 14) (by decide) rfl (fun c_11 => ?_) (fun c_11 => ?_)
  ·
    have n_11 : 16 ≤ i := ge_of_le (N := 16) (k := i) c_11 (by omega) (by omega)
    obtain rfl : i = 16 := (by omega)
    refine z_iload_n C dX4_steel_39 (pc' := 40) rfl rfl rfl ?_
    exact z_iret C hM dX4_steel_40 ⟨h_1, rfl⟩
  ·
    have n_11 : i < 16 := lt_of_nle (N := 16) (k := i) c_11 (by omega) (by omega)
    refine z_iload_n C dX4_steel_14 (pc' := 15) rfl rfl rfl ?_
    refine z_aload_n C dX4_steel_15 (pc' := 16) rfl rfl rfl ?_
    refine z_get C hK (by decide) kC_0 rfl inAX4 (k := 0) (by decide) aw_145 rfl dX4_steel_16 (pc' := 19) rfl ?_
    refine z_iload_n C dX4_steel_19 (pc' := 20) rfl rfl rfl ?_
    refine z_aald C hK (by decide) kC_1 (t0 := 1) rfl (j := i) rfl (by omega) (by decide) rfl dX4_steel_20 (pc' := 21) rfl ?_
    refine z_get C hK (pW_lt (by omega)) (kC_W i) rfl inAX3 (k := 1) (by decide) aw_122 rfl dX4_steel_21 (pc' := 24) rfl ?_
    refine z_aload_n C dX4_steel_24 (pc' := 25) rfl rfl rfl ?_
    refine z_get C hK (by decide) kC_0 rfl inAX4 (k := 4) (by decide) aw_149 rfl dX4_steel_25 (pc' := 28) rfl ?_
    refine z_iload_n C dX4_steel_28 (pc' := 29) rfl rfl rfl ?_
    refine z_iald C hK (by decide) kC_2 (t0 := 0) rfl (j := i) rfl (by omega) (by decide) rfl dX4_steel_29 (pc' := 30) rfl ?_
    refine z_isub C dX4_steel_30 (pc' := 31) rfl rfl ?_
    refine z_iadd C dX4_steel_31 (pc' := 32) rfl rfl ?_
    refine z_istore_n (L' := [.ref _, .int _, .int _]) C dX4_steel_32 (pc' := 33) rfl rfl (by decide) (Nat.le_of_ble_eq_true rfl) rfl ?_
    refine z_iinc (L' := [.ref _, .int _, .int _]) C dX4_steel_33 (pc' := 36) rfl rfl (iinc1 _) (by decide) (Nat.le_of_ble_eq_true rfl) rfl ?_
    refine z_goto C dX4_steel_36 (pc' := 8) (by decide) ?_
    exact z_back 3 (ih8 (i + 1) (by omega) (by omega)) rfl rfl
set_option maxRecDepth 100000 in
set_option maxHeartbeats 400000 in
theorem m_X4_even (l : Launch) {cA cB : ClassId} {D : va_G} {ad : Nat → Nat} (hI : Inj 67 ad) (σ : St)  : CI l yX4_even cX4_even 3 .int 4 90 D [(cA, .int), (cB, .object RX3)] 67 ad (cellC cA cB ad) σ [.ref (ad 0)] (fun r u => ∃ v, KC σ v ∧ u = evL v 23 16 ∧ r = ecC v 23 16) := by
  refine CI_of (by decide +kernel) (Nat.le_of_ble_eq_true rfl) (by simp [Value.category]) ?_
  intro p e s m below meth c C hM hK
  refine z_aload_n C dX4_even_0 (pc' := 1) rfl rfl rfl ?_
  refine z_callV C hK (m_X4_fillKeptSizes l hI _) AdS_in aw_285 aw_287 aw_7 aw_27 aw_288 (by decide) kC_0 rfl (nA := 0) (by decide +kernel) rfl ⟨Nat.le_of_ble_eq_true rfl, Nat.le_of_ble_eq_true rfl⟩ (rest := []) rfl (Nat.le_of_ble_eq_true rfl) ⟨Nat.zero_le _, Nat.zero_le _⟩ dX4_even_1 (pc' := 4) rfl (fun u_1 h_1 => ?_)
  refine z_iconst C dX4_even_4 (pc' := 5) rfl (v := 0) (by decide) ?_
  refine z_istore_n (L' := [.ref _, .int _]) C dX4_even_5 (pc' := 6) rfl rfl (by decide) (Nat.le_of_ble_eq_true rfl) rfl ?_
  refine z_iconst C dX4_even_6 (pc' := 7) rfl (v := 0) (by decide) ?_
  refine z_istore_n (L' := [.ref _, .int _, .int _]) C dX4_even_7 (pc' := 8) rfl rfl (by decide) (Nat.le_of_ble_eq_true rfl) rfl ?_
  refine z_loop (τ := Nat) (fun i => 16 - i) (fun i => i ≤ 16) (fun i => evL u_1 23 i) (fun i => [.ref (ad 0), .int (ecC u_1 23 i), .int (nI i)]) 0 (by omega) rfl ⟨_, rfl⟩ ?_
  intro i hi ih8
  try dsimp only at hi ih8 ⊢
  refine z_iload_n C dX4_even_8 (pc' := 9) rfl rfl rfl ?_
  refine z_bipush C dX4_even_9 (pc' := 11) rfl (v := 16) (by decide) ?_
  refine z_icmp_ge (tgt := 56) C dX4_even_11 (pc' := 14) (by decide) rfl (fun c_11 => ?_) (fun c_11 => ?_)
  ·
    have n_11 : 16 ≤ i := ge_of_le (N := 16) (k := i) c_11 (by omega) (by omega)
    obtain rfl : i = 16 := (by omega)
    refine z_iload_n C dX4_even_56 (pc' := 57) rfl rfl rfl ?_
    exact z_iret C hM dX4_even_57 ⟨u_1, h_1, rfl, rfl⟩
  ·
    have n_11 : i < 16 := lt_of_nle (N := 16) (k := i) c_11 (by omega) (by omega)
    refine z_aload_n C dX4_even_14 (pc' := 15) rfl rfl rfl ?_
    refine z_get C hK (by decide) kC_0 rfl inAX4 (k := 4) (by decide) aw_149 rfl dX4_even_15 (pc' := 18) rfl ?_
    refine z_iload_n C dX4_even_18 (pc' := 19) rfl rfl rfl ?_
    refine z_iald C hK (by decide) kC_2 (t0 := 0) rfl (j := i) rfl (by omega) (by decide) rfl dX4_even_19 (pc' := 20) rfl ?_
    refine z_aload_n C dX4_even_20 (pc' := 21) rfl rfl rfl ?_
    refine z_get C hK (by decide) kC_0 rfl inAX4 (k := 0) (by decide) aw_145 rfl dX4_even_21 (pc' := 24) rfl ?_
    refine z_iload_n C dX4_even_24 (pc' := 25) rfl rfl rfl ?_
    refine z_aald C hK (by decide) kC_1 (t0 := 1) rfl (j := i) rfl (by omega) (by decide) rfl dX4_even_25 (pc' := 26) rfl ?_
    refine z_get C hK (pW_lt (by omega)) (kC_W i) rfl inAX3 (k := 1) (by decide) aw_122 rfl dX4_even_26 (pc' := 29) rfl ?_
    refine z_icmp_ge (tgt := 35) C dX4_even_29 (pc' := 32) (by decide) rfl (fun c_29 => ?_) (fun c_29 => ?_)
    ·
      refine z_aload_n C dX4_even_35 (pc' := 36) rfl rfl rfl ?_
      refine z_get C hK (by decide) kC_0 rfl inAX4 (k := 0) (by decide) aw_145 rfl dX4_even_36 (pc' := 39) rfl ?_
      refine z_iload_n C dX4_even_39 (pc' := 40) rfl rfl rfl ?_
      refine z_aald C hK (by decide) kC_1 (t0 := 1) rfl (j := i) rfl (by omega) (by decide) rfl dX4_even_40 (pc' := 41) rfl ?_
      refine z_aload_n C dX4_even_41 (pc' := 42) rfl rfl rfl ?_
      refine z_get C hK (by decide) kC_0 rfl inAX4 (k := 4) (by decide) aw_149 rfl dX4_even_42 (pc' := 45) rfl ?_
      refine z_iload_n C dX4_even_45 (pc' := 46) rfl rfl rfl ?_
      refine z_iald C hK (by decide) kC_2 (t0 := 0) rfl (j := i) rfl (by omega) (by decide) rfl dX4_even_46 (pc' := 47) rfl ?_
      refine z_put C hK hI AdS_in (pW_lt (by omega)) (kC_W i) (sC_W1 i _) (cellC_upW (by decide)) rfl inAX3 tyX3_ok nmX3 (k := 1) (by decide) aw_122 rfl (ty := .int) (by decide +kernel) rfl rfl (Nat.le_of_ble_eq_true rfl) dX4_even_47 (pc' := 50) rfl ?_
      refine z_iinc (L' := [.ref _, .int _, .int _]) C dX4_even_50 (pc' := 53) rfl rfl (iinc1 _) (by decide) (Nat.le_of_ble_eq_true rfl) rfl ?_
      refine z_goto C dX4_even_53 (pc' := 8) (by decide) ?_
      exact z_back 3 (ih8 (i + 1) (by omega) (by omega)) rfl (by simp [ecC, c_29])
    ·
      refine z_iinc (L' := [.ref _, .int _, .int _]) C dX4_even_32 (pc' := 35) rfl rfl (iincx _) (by decide) (Nat.le_of_ble_eq_true rfl) rfl ?_
      refine z_aload_n C dX4_even_35 (pc' := 36) rfl rfl rfl ?_
      refine z_get C hK (by decide) kC_0 rfl inAX4 (k := 0) (by decide) aw_145 rfl dX4_even_36 (pc' := 39) rfl ?_
      refine z_iload_n C dX4_even_39 (pc' := 40) rfl rfl rfl ?_
      refine z_aald C hK (by decide) kC_1 (t0 := 1) rfl (j := i) rfl (by omega) (by decide) rfl dX4_even_40 (pc' := 41) rfl ?_
      refine z_aload_n C dX4_even_41 (pc' := 42) rfl rfl rfl ?_
      refine z_get C hK (by decide) kC_0 rfl inAX4 (k := 4) (by decide) aw_149 rfl dX4_even_42 (pc' := 45) rfl ?_
      refine z_iload_n C dX4_even_45 (pc' := 46) rfl rfl rfl ?_
      refine z_iald C hK (by decide) kC_2 (t0 := 0) rfl (j := i) rfl (by omega) (by decide) rfl dX4_even_46 (pc' := 47) rfl ?_
      refine z_put C hK hI AdS_in (pW_lt (by omega)) (kC_W i) (sC_W1 i _) (cellC_upW (by decide)) rfl inAX3 tyX3_ok nmX3 (k := 1) (by decide) aw_122 rfl (ty := .int) (by decide +kernel) rfl rfl (Nat.le_of_ble_eq_true rfl) dX4_even_47 (pc' := 50) rfl ?_
      refine z_iinc (L' := [.ref _, .int _, .int _]) C dX4_even_50 (pc' := 53) rfl rfl (iinc1 _) (by decide) (Nat.le_of_ble_eq_true rfl) rfl ?_
      refine z_goto C dX4_even_53 (pc' := 8) (by decide) ?_
      exact z_back 3 (ih8 (i + 1) (by omega) (by omega)) rfl (by simp [ecC, c_29])
set_option maxRecDepth 100000 in
set_option maxHeartbeats 400000 in
theorem m_X5_broken (l : Launch) {cA : ClassId} {D : va_G} {ad : Nat → Nat} (hI : Inj 17 ad) (σ : St)  : CI l yX5_broken cX5_broken 4 .int 1 22 D [(cA, .int)] 17 ad (cellR cA ad) σ [.ref (ad 0)] (fun r u => r = rbO (σ 1) (σ 5) 16 ∧ u = σ) := by
  refine CI_of (by decide +kernel) (Nat.le_of_ble_eq_true rfl) (by simp [Value.category]) ?_
  intro p e s m below meth c C hM hK
  refine z_aload_n C dX5_broken_0 (pc' := 1) rfl rfl rfl ?_
  refine z_iconst C dX5_broken_1 (pc' := 2) rfl (v := 0) (by decide) ?_
  refine z_put C hK hI AdS_in (by decide) kR_0 sR_th oR_th rfl inAX5 tyX5_ok nmX5 (k := 0) (by decide) aw_452 rfl (ty := .int) (by decide +kernel) rfl rfl (Nat.le_of_ble_eq_true rfl) dX5_broken_2 (pc' := 5) rfl ?_
  refine z_iconst C dX5_broken_5 (pc' := 6) rfl (v := 0) (by decide) ?_
  refine z_istore_n (L' := [.ref _, .int _]) C dX5_broken_6 (pc' := 7) rfl rfl (by decide) (Nat.le_of_ble_eq_true rfl) rfl ?_
  refine z_iconst C dX5_broken_7 (pc' := 8) rfl (v := 0) (by decide) ?_
  refine z_istore_n (L' := [.ref _, .int _, .int _]) C dX5_broken_8 (pc' := 9) rfl rfl (by decide) (Nat.le_of_ble_eq_true rfl) rfl ?_
  refine z_loop (τ := Nat) (fun a => 16 - a) (fun a => a ≤ 16) (fun a => σ) (fun a => [.ref (ad 0), .int (rbO (σ 1) (σ 5) a), .int (nI a)]) 0 (by omega) rfl ⟨_, rfl⟩ ?_
  intro a ha ih9
  try dsimp only at ha ih9 ⊢
  refine z_iload_n C dX5_broken_9 (pc' := 10) rfl rfl rfl ?_
  refine z_bipush C dX5_broken_10 (pc' := 12) rfl (v := 16) (by decide) ?_
  refine z_icmp_ge (tgt := 70) C dX5_broken_12 (pc' := 15) (by decide) rfl (fun c_12 => ?_) (fun c_12 => ?_)
  ·
    have n_12 : 16 ≤ a := ge_of_le (N := 16) (k := a) c_12 (by omega) (by omega)
    obtain rfl : a = 16 := (by omega)
    refine z_iload_n C dX5_broken_70 (pc' := 71) rfl rfl rfl ?_
    exact z_iret C hM dX5_broken_71 ⟨rfl, rfl⟩
  ·
    have n_12 : a < 16 := lt_of_nle (N := 16) (k := a) c_12 (by omega) (by omega)
    refine z_iconst C dX5_broken_15 (pc' := 16) rfl (v := 0) (by decide) ?_
    refine z_istore_n (L' := [.ref _, .int _, .int _, .int _]) C dX5_broken_16 (pc' := 17) rfl rfl (by decide) (Nat.le_of_ble_eq_true rfl) rfl ?_
    refine z_loop (τ := Nat) (fun b => 16 - b) (fun b => b ≤ 16) (fun b => σ) (fun b => [.ref (ad 0), .int (rbI (σ 1) (σ 5) a (rbO (σ 1) (σ 5) a) b), .int (nI a), .int (nI b)]) 0 (by omega) rfl ⟨_, rfl⟩ ?_
    intro b hb ih17
    try dsimp only at hb ih17 ⊢
    refine z_iload_n C dX5_broken_17 (pc' := 18) rfl rfl rfl ?_
    refine z_bipush C dX5_broken_18 (pc' := 20) rfl (v := 16) (by decide) ?_
    refine z_icmp_ge (tgt := 64) C dX5_broken_20 (pc' := 23) (by decide) rfl (fun c_20 => ?_) (fun c_20 => ?_)
    ·
      have n_20 : 16 ≤ b := ge_of_le (N := 16) (k := b) c_20 (by omega) (by omega)
      obtain rfl : b = 16 := (by omega)
      refine z_iinc (L' := [.ref _, .int _, .int _, .int _]) C dX5_broken_64 (pc' := 67) rfl rfl (iinc1 _) (by decide) (Nat.le_of_ble_eq_true rfl) rfl ?_
      refine z_goto C dX5_broken_67 (pc' := 9) (by decide) ?_
      exact z_back 3 (ih9 (a + 1) (by omega) (by omega)) rfl rfl
    ·
      have n_20 : b < 16 := lt_of_nle (N := 16) (k := b) c_20 (by omega) (by omega)
      refine z_iload_n C dX5_broken_23 (pc' := 24) rfl rfl rfl ?_
      refine z_aload_n C dX5_broken_24 (pc' := 25) rfl rfl rfl ?_
      refine z_get C hK (by decide) kR_0 rfl inAX5 (k := 2) (by decide) aw_454 rfl dX5_broken_25 (pc' := 28) rfl ?_
      refine z_iload_n C dX5_broken_28 (pc' := 29) rfl rfl rfl ?_
      refine z_iald C hK (by decide) kR_1 (t0 := 0) rfl (j := a) rfl (by omega) (by decide) rfl dX5_broken_29 (pc' := 30) rfl ?_
      refine z_aload_n C dX5_broken_30 (pc' := 31) rfl rfl rfl ?_
      refine z_get C hK (by decide) kR_0 rfl inAX5 (k := 2) (by decide) aw_454 rfl dX5_broken_31 (pc' := 34) rfl ?_
      refine z_iload_n C dX5_broken_34 (pc' := 35) rfl rfl rfl ?_
      refine z_iald C hK (by decide) kR_1 (t0 := 0) rfl (j := b) rfl (by omega) (by decide) rfl dX5_broken_35 (pc' := 36) rfl ?_
      refine z_isub C dX5_broken_36 (pc' := 37) rfl rfl ?_
      refine z_aload_n C dX5_broken_37 (pc' := 38) rfl rfl rfl ?_
      refine z_iload_n C dX5_broken_38 (pc' := 39) rfl rfl rfl ?_
      refine z_iload_n C dX5_broken_39 (pc' := 40) rfl rfl rfl ?_
      refine z_callI C hK (m_X5_lawOf l hI _ (a := a) (b := b) (by omega) (by omega)) AdS_in aw_582 aw_584 aw_20 aw_32 aw_585 (by decide) kR_0 rfl (nA := 2) (by decide +kernel) rfl ⟨Nat.le_of_ble_eq_true rfl, Nat.le_of_ble_eq_true rfl⟩ (rest := [_, _]) rfl (Nat.le_of_ble_eq_true rfl) ⟨Nat.zero_le _, Nat.zero_le _⟩ dX5_broken_40 (pc' := 43) rfl (fun r_40 u_40 h_40 => ?_)
      obtain ⟨hr_40, hu_40⟩ := h_40
      rw [hr_40, hu_40]
      refine z_ternE (J := 56) (if σ 1 a - σ 1 b ≤ lawF (σ 5) a b ∨ a = b then 0 else 1) 2 ?_ ?_
      ·
        try dsimp only [List.drop]
        refine z_iadd C dX5_broken_56 (pc' := 57) rfl rfl ?_
        refine z_istore_n (L' := [.ref _, .int _, .int _, .int _]) C dX5_broken_57 (pc' := 58) rfl rfl (by decide) (Nat.le_of_ble_eq_true rfl) rfl ?_
        refine z_iinc (L' := [.ref _, .int _, .int _, .int _]) C dX5_broken_58 (pc' := 61) rfl rfl (iinc1 _) (by decide) (Nat.le_of_ble_eq_true rfl) rfl ?_
        refine z_goto C dX5_broken_61 (pc' := 17) (by decide) ?_
        exact z_back 4 (ih17 (b + 1) (by omega) (by omega)) rfl rfl
      · intro hj_56
        refine z_icmp_le (tgt := 55) C dX5_broken_43 (pc' := 46) (by decide) rfl (fun c_43 => ?_) (fun c_43 => ?_)
        ·
          refine z_iconst C dX5_broken_55 (pc' := 56) rfl (v := 0) (by decide) ?_
          exact hj_56 _ (by first | simp [c_43, n_48] | simp [c_43])
        ·
          refine z_iload_n C dX5_broken_46 (pc' := 47) rfl rfl rfl ?_
          refine z_iload_n C dX5_broken_47 (pc' := 48) rfl rfl rfl ?_
          refine z_icmp_eq (tgt := 55) C dX5_broken_48 (pc' := 51) (by decide) rfl (fun c_48 => ?_) (fun c_48 => ?_)
          ·
            have n_48 : a = b := (nI_eq (a := a) (b := b) (by omega) (by omega)).mp c_48
            refine z_iconst C dX5_broken_55 (pc' := 56) rfl (v := 0) (by decide) ?_
            exact hj_56 _ (by first | simp [c_43, n_48] | simp [c_43])
          ·
            have n_48 : ¬ a = b := fun z9 => c_48 ((nI_eq (a := a) (b := b) (by omega) (by omega)).mpr z9)
            refine z_iconst C dX5_broken_51 (pc' := 52) rfl (v := 1) (by decide) ?_
            refine z_goto C dX5_broken_52 (pc' := 56) (by decide) ?_
            exact hj_56 _ (by first | simp [c_43, n_48] | simp [c_43])
set_option maxRecDepth 100000 in
set_option maxHeartbeats 400000 in
theorem m_X5_keeps (l : Launch) {cA : ClassId} {D : va_G} {ad : Nat → Nat} (hI : Inj 17 ad) (σ : St) {N : Nat} (hN : (lwS 12 true (cpL σ 12 16) N).2 = 0) : CV l yX5_keeps cX5_keeps 4 1 22 D [(cA, .int)] 17 ad (cellR cA ad) σ [.ref (ad 0)] (fun u => KR σ u) := by
  refine CV_of (by decide +kernel) (Nat.le_of_ble_eq_true rfl) (by simp [Value.category]) ?_
  intro p e s m below meth c C hM hK
  refine z_iconst C dX5_keeps_0 (pc' := 1) rfl (v := 0) (by decide) ?_
  refine z_istore_n (L' := [.ref _, .int _]) C dX5_keeps_1 (pc' := 2) rfl rfl (by decide) (Nat.le_of_ble_eq_true rfl) rfl ?_
  refine z_loop (τ := Nat) (fun i => 16 - i) (fun i => i ≤ 16) (fun i => cpL σ 12 i) (fun i => [.ref (ad 0), .int (nI i)]) 0 (by omega) rfl ⟨_, rfl⟩ ?_
  intro i hi ih2
  try dsimp only at hi ih2 ⊢
  refine z_iload_n C dX5_keeps_2 (pc' := 3) rfl rfl rfl ?_
  refine z_bipush C dX5_keeps_3 (pc' := 5) rfl (v := 16) (by decide) ?_
  refine z_icmp_ge (tgt := 26) C dX5_keeps_5 (pc' := 8) (by decide) rfl (fun c_5 => ?_) (fun c_5 => ?_)
  ·
    have n_5 : 16 ≤ i := ge_of_le (N := 16) (k := i) c_5 (by omega) (by omega)
    obtain rfl : i = 16 := (by omega)
    refine z_iconst C dX5_keeps_26 (pc' := 27) rfl (v := 1) (by decide) ?_
    refine z_istore_n (L' := [.ref _, .int _]) C dX5_keeps_27 (pc' := 28) rfl rfl (by decide) (Nat.le_of_ble_eq_true rfl) rfl ?_
    refine z_loop (τ := Nat) (fun i => N - i) (fun i => i ≤ N) (fun i => (lwS 12 true (cpL σ 12 16) i).1) (fun i => [.ref (ad 0), .int (lwS 12 true (cpL σ 12 16) i).2]) 0 (by omega) rfl ⟨_, rfl⟩ ?_
    intro i hi ih28
    try dsimp only at hi ih28 ⊢
    refine z_iload_n C dX5_keeps_28 (pc' := 29) rfl rfl rfl ?_
    refine z_if_eq (tgt := 113) C dX5_keeps_29 (pc' := 32) (by decide) rfl (fun c_29 => ?_) (fun c_29 => ?_)
    ·
      exact z_vret C hM dX5_keeps_113 ⟨i, rfl, c_29⟩
    ·
      refine z_iconst C dX5_keeps_32 (pc' := 33) rfl (v := 0) (by decide) ?_
      refine z_istore_n (L' := [.ref _, .int _]) C dX5_keeps_33 (pc' := 34) rfl rfl (by decide) (Nat.le_of_ble_eq_true rfl) rfl ?_
      refine z_iconst C dX5_keeps_34 (pc' := 35) rfl (v := 0) (by decide) ?_
      refine z_istore_n (L' := [.ref _, .int _, .int _]) C dX5_keeps_35 (pc' := 36) rfl rfl (by decide) (Nat.le_of_ble_eq_true rfl) rfl ?_
      refine z_loop (τ := Nat) (fun a => 16 - a) (fun a => a ≤ 16) (fun a => (loA 12 true ((lwS 12 true (cpL σ 12 16) i).1, 0) a).1) (fun a => [.ref (ad 0), .int (loA 12 true ((lwS 12 true (cpL σ 12 16) i).1, 0) a).2, .int (nI a)]) 0 (by omega) rfl ⟨_, rfl⟩ ?_
      intro a ha ih36
      try dsimp only at ha ih36 ⊢
      refine z_iload_n C dX5_keeps_36 (pc' := 37) rfl rfl rfl ?_
      refine z_bipush C dX5_keeps_37 (pc' := 39) rfl (v := 16) (by decide) ?_
      refine z_icmp_ge (tgt := 110) C dX5_keeps_39 (pc' := 42) (by decide) rfl (fun c_39 => ?_) (fun c_39 => ?_)
      ·
        have n_39 : 16 ≤ a := ge_of_le (N := 16) (k := a) c_39 (by omega) (by omega)
        obtain rfl : a = 16 := (by omega)
        refine z_goto C dX5_keeps_110 (pc' := 28) (by decide) ?_
        exact z_back 2 (ih28 (i + 1) (by have : i ≠ N := fun q => c_29 (q ▸ hN); omega) (by have : i ≠ N := fun q => c_29 (q ▸ hN); omega)) rfl rfl
      ·
        have n_39 : a < 16 := lt_of_nle (N := 16) (k := a) c_39 (by omega) (by omega)
        refine z_iconst C dX5_keeps_42 (pc' := 43) rfl (v := 0) (by decide) ?_
        refine z_istore_n (L' := [.ref _, .int _, .int _, .int _]) C dX5_keeps_43 (pc' := 44) rfl rfl (by decide) (Nat.le_of_ble_eq_true rfl) rfl ?_
        refine z_loop (τ := Nat) (fun b => 16 - b) (fun b => b ≤ 16) (fun b => (loB 12 true a (loA 12 true ((lwS 12 true (cpL σ 12 16) i).1, 0) a) b).1) (fun b => [.ref (ad 0), .int (loB 12 true a (loA 12 true ((lwS 12 true (cpL σ 12 16) i).1, 0) a) b).2, .int (nI a), .int (nI b)]) 0 (by omega) rfl ⟨_, rfl⟩ ?_
        intro b hb ih44
        try dsimp only at hb ih44 ⊢
        refine z_iload_n C dX5_keeps_44 (pc' := 45) rfl rfl rfl ?_
        refine z_bipush C dX5_keeps_45 (pc' := 47) rfl (v := 16) (by decide) ?_
        refine z_icmp_ge (tgt := 104) C dX5_keeps_47 (pc' := 50) (by decide) rfl (fun c_47 => ?_) (fun c_47 => ?_)
        ·
          have n_47 : 16 ≤ b := ge_of_le (N := 16) (k := b) c_47 (by omega) (by omega)
          obtain rfl : b = 16 := (by omega)
          refine z_iinc (L' := [.ref _, .int _, .int _, .int _]) C dX5_keeps_104 (pc' := 107) rfl rfl (iinc1 _) (by decide) (Nat.le_of_ble_eq_true rfl) rfl ?_
          refine z_goto C dX5_keeps_107 (pc' := 36) (by decide) ?_
          exact z_back 3 (ih36 (a + 1) (by omega) (by omega)) rfl rfl
        ·
          have n_47 : b < 16 := lt_of_nle (N := 16) (k := b) c_47 (by omega) (by omega)
          refine z_iload_n C dX5_keeps_50 (pc' := 51) rfl rfl rfl ?_
          refine z_iload_n C dX5_keeps_51 (pc' := 52) rfl rfl rfl ?_
          refine z_icmp_eq (tgt := 98) C dX5_keeps_52 (pc' := 55) (by decide) rfl (fun c_52 => ?_) (fun c_52 => ?_)
          ·
            have n_52 : a = b := (nI_eq (a := a) (b := b) (by omega) (by omega)).mp c_52
            refine z_iinc (L' := [.ref _, .int _, .int _, .int _]) C dX5_keeps_98 (pc' := 101) rfl rfl (iinc1 _) (by decide) (Nat.le_of_ble_eq_true rfl) rfl ?_
            refine z_goto C dX5_keeps_101 (pc' := 44) (by decide) ?_
            exact z_back 4 (ih44 (b + 1) (by omega) (by omega)) (by first | simp [loB, lst, n_52, c_74] | simp [loB, lst, n_52]) (by first | simp [loB, lst, n_52, c_74] | simp [loB, lst, n_52])
          ·
            have n_52 : ¬ a = b := fun z9 => c_52 ((nI_eq (a := a) (b := b) (by omega) (by omega)).mpr z9)
            refine z_aload_n C dX5_keeps_55 (pc' := 56) rfl rfl rfl ?_
            refine z_get C hK (by decide) kR_0 rfl inAX5 (k := 9) (by decide) aw_461 rfl dX5_keeps_56 (pc' := 59) rfl ?_
            refine z_iload_n C dX5_keeps_59 (pc' := 60) rfl rfl rfl ?_
            refine z_iald C hK (by decide) kR_6 (t0 := 0) rfl (j := a) rfl (by omega) (by decide) rfl dX5_keeps_60 (pc' := 61) rfl ?_
            refine z_aload_n C dX5_keeps_61 (pc' := 62) rfl rfl rfl ?_
            refine z_get C hK (by decide) kR_0 rfl inAX5 (k := 9) (by decide) aw_461 rfl dX5_keeps_62 (pc' := 65) rfl ?_
            refine z_iload_n C dX5_keeps_65 (pc' := 66) rfl rfl rfl ?_
            refine z_iald C hK (by decide) kR_6 (t0 := 0) rfl (j := b) rfl (by omega) (by decide) rfl dX5_keeps_66 (pc' := 67) rfl ?_
            refine z_aload_n C dX5_keeps_67 (pc' := 68) rfl rfl rfl ?_
            refine z_iload_n C dX5_keeps_68 (pc' := 69) rfl rfl rfl ?_
            refine z_iload_n C dX5_keeps_69 (pc' := 70) rfl rfl rfl ?_
            refine z_callI C hK (m_X5_lawOf l hI _ (a := a) (b := b) (by omega) (by omega)) AdS_in aw_582 aw_584 aw_20 aw_32 aw_585 (by decide) kR_0 rfl (nA := 2) (by decide +kernel) rfl ⟨Nat.le_of_ble_eq_true rfl, Nat.le_of_ble_eq_true rfl⟩ (rest := [_, _]) rfl (Nat.le_of_ble_eq_true rfl) ⟨Nat.zero_le _, Nat.zero_le _⟩ dX5_keeps_70 (pc' := 73) rfl (fun r_70 u_70 h_70 => ?_)
            obtain ⟨hr_70, hu_70⟩ := h_70
            rw [hr_70, hu_70]
            refine z_iadd C dX5_keeps_73 (pc' := 74) rfl rfl ?_
            refine z_icmp_le (tgt := 98) C dX5_keeps_74 (pc' := 77) (by decide) rfl (fun c_74 => ?_) (fun c_74 => ?_)
            ·
              refine z_iinc (L' := [.ref _, .int _, .int _, .int _]) C dX5_keeps_98 (pc' := 101) rfl rfl (iinc1 _) (by decide) (Nat.le_of_ble_eq_true rfl) rfl ?_
              refine z_goto C dX5_keeps_101 (pc' := 44) (by decide) ?_
              exact z_back 4 (ih44 (b + 1) (by omega) (by omega)) (by first | simp [loB, lst, n_52, c_74] | simp [loB, lst, n_52]) (by first | simp [loB, lst, n_52, c_74] | simp [loB, lst, n_52])
            ·
              refine z_aload_n C dX5_keeps_77 (pc' := 78) rfl rfl rfl ?_
              refine z_get C hK (by decide) kR_0 rfl inAX5 (k := 9) (by decide) aw_461 rfl dX5_keeps_78 (pc' := 81) rfl ?_
              refine z_iload_n C dX5_keeps_81 (pc' := 82) rfl rfl rfl ?_
              refine z_aload_n C dX5_keeps_82 (pc' := 83) rfl rfl rfl ?_
              refine z_get C hK (by decide) kR_0 rfl inAX5 (k := 9) (by decide) aw_461 rfl dX5_keeps_83 (pc' := 86) rfl ?_
              refine z_iload_n C dX5_keeps_86 (pc' := 87) rfl rfl rfl ?_
              refine z_iald C hK (by decide) kR_6 (t0 := 0) rfl (j := b) rfl (by omega) (by decide) rfl dX5_keeps_87 (pc' := 88) rfl ?_
              refine z_aload_n C dX5_keeps_88 (pc' := 89) rfl rfl rfl ?_
              refine z_iload_n C dX5_keeps_89 (pc' := 90) rfl rfl rfl ?_
              refine z_iload_n C dX5_keeps_90 (pc' := 91) rfl rfl rfl ?_
              refine z_callI C hK (m_X5_lawOf l hI _ (a := a) (b := b) (by omega) (by omega)) AdS_in aw_582 aw_584 aw_20 aw_32 aw_585 (by decide) kR_0 rfl (nA := 2) (by decide +kernel) rfl ⟨Nat.le_of_ble_eq_true rfl, Nat.le_of_ble_eq_true rfl⟩ (rest := [_, _, _]) rfl (Nat.le_of_ble_eq_true rfl) ⟨Nat.zero_le _, Nat.zero_le _⟩ dX5_keeps_91 (pc' := 94) rfl (fun r_91 u_91 h_91 => ?_)
              obtain ⟨hr_91, hu_91⟩ := h_91
              rw [hr_91, hu_91]
              refine z_iadd C dX5_keeps_94 (pc' := 95) rfl rfl ?_
              refine z_iast C hK hI AdS_in (by decide) kR_6 sR_a6 oR_a6 (t0 := 0) rfl (j := a) rfl (by omega) (by decide) dX5_keeps_95 (pc' := 96) rfl ?_
              refine z_iconst C dX5_keeps_96 (pc' := 97) rfl (v := 1) (by decide) ?_
              refine z_istore_n (L' := [.ref _, .int _, .int _, .int _]) C dX5_keeps_97 (pc' := 98) rfl rfl (by decide) (Nat.le_of_ble_eq_true rfl) rfl ?_
              refine z_iinc (L' := [.ref _, .int _, .int _, .int _]) C dX5_keeps_98 (pc' := 101) rfl rfl (iinc1 _) (by decide) (Nat.le_of_ble_eq_true rfl) rfl ?_
              refine z_goto C dX5_keeps_101 (pc' := 44) (by decide) ?_
              exact z_back 4 (ih44 (b + 1) (by omega) (by omega)) (by first | simp [loB, lst, n_52, c_74] | simp [loB, lst, n_52]) (by first | simp [loB, lst, n_52, c_74] | simp [loB, lst, n_52])
  ·
    have n_5 : i < 16 := lt_of_nle (N := 16) (k := i) c_5 (by omega) (by omega)
    refine z_aload_n C dX5_keeps_8 (pc' := 9) rfl rfl rfl ?_
    refine z_get C hK (by decide) kR_0 rfl inAX5 (k := 9) (by decide) aw_461 rfl dX5_keeps_9 (pc' := 12) rfl ?_
    refine z_iload_n C dX5_keeps_12 (pc' := 13) rfl rfl rfl ?_
    refine z_aload_n C dX5_keeps_13 (pc' := 14) rfl rfl rfl ?_
    refine z_get C hK (by decide) kR_0 rfl inAX5 (k := 2) (by decide) aw_454 rfl dX5_keeps_14 (pc' := 17) rfl ?_
    refine z_iload_n C dX5_keeps_17 (pc' := 18) rfl rfl rfl ?_
    refine z_iald C hK (by decide) kR_1 (t0 := 0) rfl (j := i) rfl (by omega) (by decide) rfl dX5_keeps_18 (pc' := 19) rfl ?_
    refine z_iast C hK hI AdS_in (by decide) kR_6 sR_a6 oR_a6 (t0 := 0) rfl (j := i) rfl (by omega) (by decide) dX5_keeps_19 (pc' := 20) rfl ?_
    refine z_iinc (L' := [.ref _, .int _]) C dX5_keeps_20 (pc' := 23) rfl rfl (iinc1 _) (by decide) (Nat.le_of_ble_eq_true rfl) rfl ?_
    refine z_goto C dX5_keeps_23 (pc' := 2) (by decide) ?_
    exact z_back 2 (ih2 (i + 1) (by omega) (by omega)) rfl rfl
set_option maxRecDepth 100000 in
set_option maxHeartbeats 400000 in
theorem m_X5_kept (l : Launch) {cA : ClassId} {D : va_G} {ad : Nat → Nat} (hI : Inj 17 ad) (σ : St) {N : Nat} (hN : (lwS 12 true (cpL σ 12 16) N).2 = 0) (w : Int32) : CI l yX5_kept cX5_kept 2 .int 2 45 D [(cA, .int)] 17 ad (cellR cA ad) σ [.ref (ad 0), .int w] (fun r u => (¬ isW w ∧ r = -1 ∧ u = σ) ∨ (∃ k : Nat, k < 16 ∧ w = nI k ∧ KR σ u ∧ r = u 12 k)) := by
  refine CI_of (by decide +kernel) (Nat.le_of_ble_eq_true rfl) (by simp [Value.category]) ?_
  intro p e s m below meth c C hM hK
  refine z_aload_n C dX5_kept_0 (pc' := 1) rfl rfl rfl ?_
  refine z_iconst C dX5_kept_1 (pc' := 2) rfl (v := 0) (by decide) ?_
  refine z_put C hK hI AdS_in (by decide) kR_0 sR_th oR_th rfl inAX5 tyX5_ok nmX5 (k := 0) (by decide) aw_452 rfl (ty := .int) (by decide +kernel) rfl rfl (Nat.le_of_ble_eq_true rfl) dX5_kept_2 (pc' := 5) rfl ?_
  refine z_iload_n C dX5_kept_5 (pc' := 6) rfl rfl rfl ?_
  refine z_callS C (m_X5_isWheel l _) stabP aw_526 aw_527 aw_32 aw_528 (nA := 1) (by decide +kernel) rfl ⟨Nat.le_of_ble_eq_true rfl, Nat.le_of_ble_eq_true rfl⟩ (rest := []) rfl (Nat.le_of_ble_eq_true rfl) ⟨Nat.zero_le _, Nat.zero_le _⟩ dX5_kept_6 (pc' := 9) rfl (fun r_6 h_6 => ?_)
  rcases h_6 with ⟨rfl, h_6⟩ | ⟨rfl, h_6⟩
  ·
    obtain ⟨k, hk, rfl⟩ := isW_of h_6
    refine z_if_ne (tgt := 14) C dX5_kept_9 (pc' := 12) (by decide) rfl (fun _ => ?_) (fun q => absurd q (by decide))
    refine z_aload_n C dX5_kept_14 (pc' := 15) rfl rfl rfl ?_
    refine z_callV C hK (m_X5_keeps l hI _ (N := N) hN) AdS_in aw_590 aw_592 aw_21 aw_32 aw_593 (by decide) kR_0 rfl (nA := 0) (by decide +kernel) rfl ⟨Nat.le_of_ble_eq_true rfl, Nat.le_of_ble_eq_true rfl⟩ (rest := []) rfl (Nat.le_of_ble_eq_true rfl) ⟨Nat.zero_le _, Nat.zero_le _⟩ dX5_kept_15 (pc' := 18) rfl (fun u_15 h_15 => ?_)
    refine z_aload_n C dX5_kept_18 (pc' := 19) rfl rfl rfl ?_
    refine z_get C hK (by decide) kR_0 rfl inAX5 (k := 9) (by decide) aw_461 rfl dX5_kept_19 (pc' := 22) rfl ?_
    refine z_iload_n C dX5_kept_22 (pc' := 23) rfl rfl rfl ?_
    refine z_iald C hK (by decide) kR_6 (t0 := 0) rfl (j := k) rfl (by omega) (by decide) rfl dX5_kept_23 (pc' := 24) rfl ?_
    exact z_iret C hM dX5_kept_24 (Or.inr ⟨k, hk, rfl, h_15, rfl⟩)
  ·
    refine z_if_ne (tgt := 14) C dX5_kept_9 (pc' := 12) (by decide) rfl (fun q => absurd q (by decide)) (fun _ => ?_)
    refine z_iconst C dX5_kept_12 (pc' := 13) rfl (v := (-1)) (by decide) ?_
    exact z_iret C hM dX5_kept_13 (Or.inl ⟨h_6, rfl, rfl⟩)
set_option maxRecDepth 100000 in
set_option maxHeartbeats 400000 in
theorem m_X5_steel (l : Launch) {cA : ClassId} {D : va_G} {ad : Nat → Nat} (hI : Inj 17 ad) (σ : St) {N : Nat} (hN : (lwS 12 true (cpL σ 12 16) N).2 = 0) : CI l yX5_steel cX5_steel 3 .int 2 45 D [(cA, .int)] 17 ad (cellR cA ad) σ [.ref (ad 0)] (fun r u => KR σ u ∧ r = stL u 12 16) := by
  refine CI_of (by decide +kernel) (Nat.le_of_ble_eq_true rfl) (by simp [Value.category]) ?_
  intro p e s m below meth c C hM hK
  refine z_aload_n C dX5_steel_0 (pc' := 1) rfl rfl rfl ?_
  refine z_iconst C dX5_steel_1 (pc' := 2) rfl (v := 0) (by decide) ?_
  refine z_put C hK hI AdS_in (by decide) kR_0 sR_th oR_th rfl inAX5 tyX5_ok nmX5 (k := 0) (by decide) aw_452 rfl (ty := .int) (by decide +kernel) rfl rfl (Nat.le_of_ble_eq_true rfl) dX5_steel_2 (pc' := 5) rfl ?_
  refine z_aload_n C dX5_steel_5 (pc' := 6) rfl rfl rfl ?_
  refine z_callV C hK (m_X5_keeps l hI _ (N := N) hN) AdS_in aw_590 aw_592 aw_21 aw_32 aw_593 (by decide) kR_0 rfl (nA := 0) (by decide +kernel) rfl ⟨Nat.le_of_ble_eq_true rfl, Nat.le_of_ble_eq_true rfl⟩ (rest := []) rfl (Nat.le_of_ble_eq_true rfl) ⟨Nat.zero_le _, Nat.zero_le _⟩ dX5_steel_6 (pc' := 9) rfl (fun u_6 h_6 => ?_)
  refine z_iconst C dX5_steel_9 (pc' := 10) rfl (v := 0) (by decide) ?_
  refine z_istore_n (L' := [.ref _, .int _]) C dX5_steel_10 (pc' := 11) rfl rfl (by decide) (Nat.le_of_ble_eq_true rfl) rfl ?_
  refine z_iconst C dX5_steel_11 (pc' := 12) rfl (v := 0) (by decide) ?_
  refine z_istore_n (L' := [.ref _, .int _, .int _]) C dX5_steel_12 (pc' := 13) rfl rfl (by decide) (Nat.le_of_ble_eq_true rfl) rfl ?_
  refine z_loop (τ := Nat) (fun i => 16 - i) (fun i => i ≤ 16) (fun i => u_6) (fun i => [.ref (ad 0), .int (stL u_6 12 i), .int (nI i)]) 0 (by omega) rfl ⟨_, rfl⟩ ?_
  intro i hi ih13
  try dsimp only at hi ih13 ⊢
  refine z_iload_n C dX5_steel_13 (pc' := 14) rfl rfl rfl ?_
  refine z_bipush C dX5_steel_14 (pc' := 16) rfl (v := 16) (by decide) ?_
  refine z_icmp_ge (tgt := 41) C dX5_steel_16 (pc' := 19) (by decide) rfl (fun c_16 => ?_) (fun c_16 => ?_)
  ·
    have n_16 : 16 ≤ i := ge_of_le (N := 16) (k := i) c_16 (by omega) (by omega)
    obtain rfl : i = 16 := (by omega)
    refine z_iload_n C dX5_steel_41 (pc' := 42) rfl rfl rfl ?_
    exact z_iret C hM dX5_steel_42 ⟨h_6, rfl⟩
  ·
    have n_16 : i < 16 := lt_of_nle (N := 16) (k := i) c_16 (by omega) (by omega)
    refine z_iload_n C dX5_steel_19 (pc' := 20) rfl rfl rfl ?_
    refine z_aload_n C dX5_steel_20 (pc' := 21) rfl rfl rfl ?_
    refine z_get C hK (by decide) kR_0 rfl inAX5 (k := 2) (by decide) aw_454 rfl dX5_steel_21 (pc' := 24) rfl ?_
    refine z_iload_n C dX5_steel_24 (pc' := 25) rfl rfl rfl ?_
    refine z_iald C hK (by decide) kR_1 (t0 := 0) rfl (j := i) rfl (by omega) (by decide) rfl dX5_steel_25 (pc' := 26) rfl ?_
    refine z_aload_n C dX5_steel_26 (pc' := 27) rfl rfl rfl ?_
    refine z_get C hK (by decide) kR_0 rfl inAX5 (k := 9) (by decide) aw_461 rfl dX5_steel_27 (pc' := 30) rfl ?_
    refine z_iload_n C dX5_steel_30 (pc' := 31) rfl rfl rfl ?_
    refine z_iald C hK (by decide) kR_6 (t0 := 0) rfl (j := i) rfl (by omega) (by decide) rfl dX5_steel_31 (pc' := 32) rfl ?_
    refine z_isub C dX5_steel_32 (pc' := 33) rfl rfl ?_
    refine z_iadd C dX5_steel_33 (pc' := 34) rfl rfl ?_
    refine z_istore_n (L' := [.ref _, .int _, .int _]) C dX5_steel_34 (pc' := 35) rfl rfl (by decide) (Nat.le_of_ble_eq_true rfl) rfl ?_
    refine z_iinc (L' := [.ref _, .int _, .int _]) C dX5_steel_35 (pc' := 38) rfl rfl (iinc1 _) (by decide) (Nat.le_of_ble_eq_true rfl) rfl ?_
    refine z_goto C dX5_steel_38 (pc' := 13) (by decide) ?_
    exact z_back 3 (ih13 (i + 1) (by omega) (by omega)) rfl rfl
set_option maxRecDepth 100000 in
set_option maxHeartbeats 400000 in
theorem m_X5_even (l : Launch) {cA : ClassId} {D : va_G} {ad : Nat → Nat} (hI : Inj 17 ad) (σ : St) {N : Nat} (hN : (lwS 12 true (cpL σ 12 16) N).2 = 0) : CI l yX5_even cX5_even 3 .int 2 45 D [(cA, .int)] 17 ad (cellR cA ad) σ [.ref (ad 0)] (fun r u => ∃ v, KR σ v ∧ u = evL v 12 16 ∧ r = ecR v 12 16) := by
  refine CI_of (by decide +kernel) (Nat.le_of_ble_eq_true rfl) (by simp [Value.category]) ?_
  intro p e s m below meth c C hM hK
  refine z_aload_n C dX5_even_0 (pc' := 1) rfl rfl rfl ?_
  refine z_iconst C dX5_even_1 (pc' := 2) rfl (v := 0) (by decide) ?_
  refine z_put C hK hI AdS_in (by decide) kR_0 sR_th oR_th rfl inAX5 tyX5_ok nmX5 (k := 0) (by decide) aw_452 rfl (ty := .int) (by decide +kernel) rfl rfl (Nat.le_of_ble_eq_true rfl) dX5_even_2 (pc' := 5) rfl ?_
  refine z_aload_n C dX5_even_5 (pc' := 6) rfl rfl rfl ?_
  refine z_callV C hK (m_X5_keeps l hI _ (N := N) hN) AdS_in aw_590 aw_592 aw_21 aw_32 aw_593 (by decide) kR_0 rfl (nA := 0) (by decide +kernel) rfl ⟨Nat.le_of_ble_eq_true rfl, Nat.le_of_ble_eq_true rfl⟩ (rest := []) rfl (Nat.le_of_ble_eq_true rfl) ⟨Nat.zero_le _, Nat.zero_le _⟩ dX5_even_6 (pc' := 9) rfl (fun u_6 h_6 => ?_)
  refine z_iconst C dX5_even_9 (pc' := 10) rfl (v := 0) (by decide) ?_
  refine z_istore_n (L' := [.ref _, .int _]) C dX5_even_10 (pc' := 11) rfl rfl (by decide) (Nat.le_of_ble_eq_true rfl) rfl ?_
  refine z_iconst C dX5_even_11 (pc' := 12) rfl (v := 0) (by decide) ?_
  refine z_istore_n (L' := [.ref _, .int _, .int _]) C dX5_even_12 (pc' := 13) rfl rfl (by decide) (Nat.le_of_ble_eq_true rfl) rfl ?_
  refine z_loop (τ := Nat) (fun i => 16 - i) (fun i => i ≤ 16) (fun i => evL u_6 12 i) (fun i => [.ref (ad 0), .int (ecR u_6 12 i), .int (nI i)]) 0 (by omega) rfl ⟨_, rfl⟩ ?_
  intro i hi ih13
  try dsimp only at hi ih13 ⊢
  refine z_iload_n C dX5_even_13 (pc' := 14) rfl rfl rfl ?_
  refine z_bipush C dX5_even_14 (pc' := 16) rfl (v := 16) (by decide) ?_
  refine z_icmp_ge (tgt := 60) C dX5_even_16 (pc' := 19) (by decide) rfl (fun c_16 => ?_) (fun c_16 => ?_)
  ·
    have n_16 : 16 ≤ i := ge_of_le (N := 16) (k := i) c_16 (by omega) (by omega)
    obtain rfl : i = 16 := (by omega)
    refine z_iload_n C dX5_even_60 (pc' := 61) rfl rfl rfl ?_
    exact z_iret C hM dX5_even_61 ⟨u_6, h_6, rfl, rfl⟩
  ·
    have n_16 : i < 16 := lt_of_nle (N := 16) (k := i) c_16 (by omega) (by omega)
    refine z_iload_n C dX5_even_19 (pc' := 20) rfl rfl rfl ?_
    refine z_aload_n C dX5_even_20 (pc' := 21) rfl rfl rfl ?_
    refine z_get C hK (by decide) kR_0 rfl inAX5 (k := 9) (by decide) aw_461 rfl dX5_even_21 (pc' := 24) rfl ?_
    refine z_iload_n C dX5_even_24 (pc' := 25) rfl rfl rfl ?_
    refine z_iald C hK (by decide) kR_6 (t0 := 0) rfl (j := i) rfl (by omega) (by decide) rfl dX5_even_25 (pc' := 26) rfl ?_
    refine z_aload_n C dX5_even_26 (pc' := 27) rfl rfl rfl ?_
    refine z_get C hK (by decide) kR_0 rfl inAX5 (k := 2) (by decide) aw_454 rfl dX5_even_27 (pc' := 30) rfl ?_
    refine z_iload_n C dX5_even_30 (pc' := 31) rfl rfl rfl ?_
    refine z_iald C hK (by decide) kR_1 (t0 := 0) rfl (j := i) rfl (by omega) (by decide) rfl dX5_even_31 (pc' := 32) rfl ?_
    refine z_ternE (J := 40) (if evL u_6 12 i 1 i ≤ evL u_6 12 i 12 i then 0 else 1) 2 ?_ ?_
    ·
      try dsimp only [List.drop]
      refine z_iadd C dX5_even_40 (pc' := 41) rfl rfl ?_
      refine z_istore_n (L' := [.ref _, .int _, .int _]) C dX5_even_41 (pc' := 42) rfl rfl (by decide) (Nat.le_of_ble_eq_true rfl) rfl ?_
      refine z_aload_n C dX5_even_42 (pc' := 43) rfl rfl rfl ?_
      refine z_get C hK (by decide) kR_0 rfl inAX5 (k := 2) (by decide) aw_454 rfl dX5_even_43 (pc' := 46) rfl ?_
      refine z_iload_n C dX5_even_46 (pc' := 47) rfl rfl rfl ?_
      refine z_aload_n C dX5_even_47 (pc' := 48) rfl rfl rfl ?_
      refine z_get C hK (by decide) kR_0 rfl inAX5 (k := 9) (by decide) aw_461 rfl dX5_even_48 (pc' := 51) rfl ?_
      refine z_iload_n C dX5_even_51 (pc' := 52) rfl rfl rfl ?_
      refine z_iald C hK (by decide) kR_6 (t0 := 0) rfl (j := i) rfl (by omega) (by decide) rfl dX5_even_52 (pc' := 53) rfl ?_
      refine z_iast C hK hI AdS_in (by decide) kR_1 sR_a1 oR_a1 (t0 := 0) rfl (j := i) rfl (by omega) (by decide) dX5_even_53 (pc' := 54) rfl ?_
      refine z_iinc (L' := [.ref _, .int _, .int _]) C dX5_even_54 (pc' := 57) rfl rfl (iinc1 _) (by decide) (Nat.le_of_ble_eq_true rfl) rfl ?_
      refine z_goto C dX5_even_57 (pc' := 13) (by decide) ?_
      exact z_back 3 (ih13 (i + 1) (by omega) (by omega)) rfl rfl
    · intro hj_40
      refine z_icmp_ge (tgt := 39) C dX5_even_32 (pc' := 35) (by decide) rfl (fun c_32 => ?_) (fun c_32 => ?_)
      ·
        refine z_iconst C dX5_even_39 (pc' := 40) rfl (v := 0) (by decide) ?_
        exact hj_40 _ (by simp [c_32])
      ·
        refine z_iconst C dX5_even_35 (pc' := 36) rfl (v := 1) (by decide) ?_
        refine z_goto C dX5_even_36 (pc' := 40) (by decide) ?_
        exact hj_40 _ (by simp [c_32])
