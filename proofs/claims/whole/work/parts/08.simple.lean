/-! the simple calls: what they answer, what becomes of the state; alike for the class and the reference -/
def f_size (σ : St) (w v : Int32) : Int32 := if isW w ∧ inR v 6000 9200 then σ 1 (wn w) else -1
def g_size (σ : St) (w v : Int32) : St := if isW w ∧ inR v 6000 9200 then up2 σ 1 (wn w) v else σ
def f_wear (σ : St) (w v : Int32) : Int32 := if isW w ∧ inR v 0 20 then σ 3 (wn w) else -1
def g_wear (σ : St) (w v : Int32) : St := if isW w ∧ inR v 0 20 then up2 σ 3 (wn w) v else σ
def f_depth (σ : St) (w i v : Int32) : Int32 := if isW w ∧ inR i 0 4 ∧ inR v 0 99 then σ (100 + 2 * wn w) (wn i) else -1
def g_depth (σ : St) (w i v : Int32) : St := if isW w ∧ inR i 0 4 ∧ inR v 0 99 then up2 σ (100 + 2 * wn w) (wn i) v else σ
def f_thinning (σ : St) (v : Int32) : Int32 := if inR v 0 30 then σ 0 0 else -1
def g_thinning (σ : St) (v : Int32) : St := if inR v 0 30 then up2 σ 0 0 v else σ
def f_bar (σ : St) (v : Int32) : Int32 := if inR v 0 999 then σ 0 1 else -1
def g_bar (σ : St) (v : Int32) : St := if inR v 0 999 then up2 σ 0 1 v else σ
def f_law (σ : St) (w v : Int32) : Int32 := if inR w 0 3 ∧ inR v 0 4000 then σ 5 (wn w) else -1
def g_law (σ : St) (w v : Int32) : St := if inR w 0 3 ∧ inR v 0 4000 then up2 σ 5 (wn w) v else σ
def f_sell (σ : St) : Int32 := if σ 0 4 = 0 then -2 else σ 0 4 - 1
def g_sell (σ : St) : St := if σ 0 4 = 0 then σ else up2 σ 0 4 (σ 0 4 - 1)
def f_forget (σ : St) : Int32 := if σ 0 5 = 0 then -2 else σ 0 5 - 1
def g_forget (σ : St) : St := if σ 0 5 = 0 then σ else up2 σ 0 5 (σ 0 5 - 1)
def f_due (σ : St) (w : Int32) : Int32 := if isW w then 1000 - σ 4 (wn w) else -1000000
def f_look (σ : St) (w : Int32) : Int32 := if isW w then 1000 - σ 4 (wn w) else -1000000
def g_look (σ : St) (w : Int32) : St := if isW w then up2 σ 4 (wn w) 0 else σ
set_option maxRecDepth 100000 in
set_option maxHeartbeats 4000000 in
theorem m_X4_within (l : Launch) (v a b : Int32) : CS l yX4_within cX4_within 3 .boolean 0 0 [.int v, .int a, .int b] (fun r => (r = 1 ∧ inR v a b) ∨ (r = 0 ∧ ¬ inR v a b)) := by
  refine CS_of (by decide +kernel) (Nat.le_of_ble_eq_true rfl) (by simp [Value.category]) ?_
  intro p e s m below meth c C hM
  refine z_iload_n C dX4_within_0 rfl rfl rfl ?_
  refine z_iload_n C dX4_within_1 rfl rfl rfl ?_
  refine z_icmp_lt (tgt := 14) C dX4_within_2 (by decide) rfl (fun c_2 => ?_) (fun c_2 => ?_)
  ·
    refine z_iconst C dX4_within_14 rfl (v := 0) (by decide) ?_
    exact z_sret C hM dX4_within_15 (by decide) (Or.inr ⟨rfl, by simp only [inR, isW, i32_le, i32_lt] at *; omega⟩)
  ·
    refine z_iload_n C dX4_within_5 rfl rfl rfl ?_
    refine z_iload_n C dX4_within_6 rfl rfl rfl ?_
    refine z_icmp_gt (tgt := 14) C dX4_within_7 (by decide) rfl (fun c_7 => ?_) (fun c_7 => ?_)
    ·
      refine z_iconst C dX4_within_14 rfl (v := 0) (by decide) ?_
      exact z_sret C hM dX4_within_15 (by decide) (Or.inr ⟨rfl, by simp only [inR, isW, i32_le, i32_lt] at *; omega⟩)
    ·
      refine z_iconst C dX4_within_10 rfl (v := 1) (by decide) ?_
      refine z_goto C dX4_within_11 (pc' := 15) (by decide) ?_
      exact z_sret C hM dX4_within_15 (by decide) (Or.inl ⟨rfl, by simp only [inR, isW, i32_le, i32_lt] at *; omega⟩)
set_option maxRecDepth 100000 in
set_option maxHeartbeats 4000000 in
theorem m_X4_isWheel (l : Launch) (w : Int32) : CS l yX4_isWheel cX4_isWheel 1 .boolean 1 22 [.int w] (fun r => (r = 1 ∧ isW w) ∨ (r = 0 ∧ ¬ isW w)) := by
  refine CS_of (by decide +kernel) (Nat.le_of_ble_eq_true rfl) (by simp [Value.category]) ?_
  intro p e s m below meth c C hM
  refine z_iload_n C dX4_isWheel_0 rfl rfl rfl ?_
  refine z_iconst C dX4_isWheel_1 rfl (v := 0) (by decide) ?_
  refine z_bipush C dX4_isWheel_2 rfl (v := 15) (by decide) ?_
  refine z_callS C (m_X4_within l _ _ _) stabT aw_180 aw_181 aw_27 aw_182 (nA := 3) (by decide +kernel) rfl ⟨Nat.le_of_ble_eq_true rfl, Nat.le_of_ble_eq_true rfl⟩ (rest := []) rfl (Nat.le_of_ble_eq_true rfl) ⟨Nat.zero_le _, Nat.zero_le _⟩ dX4_isWheel_4 rfl (fun r_4 h_4 => ?_)
  rcases h_4 with ⟨rfl, h_4⟩ | ⟨rfl, h_4⟩
  ·
    exact z_sret C hM dX4_isWheel_7 (by decide) (Or.inl ⟨rfl, by assumption⟩)
  ·
    exact z_sret C hM dX4_isWheel_7 (by decide) (Or.inr ⟨rfl, by assumption⟩)
set_option maxRecDepth 100000 in
set_option maxHeartbeats 4000000 in
theorem m_X4_isKind (l : Launch) (w : Int32) : CS l yX4_isKind cX4_isKind 1 .boolean 1 22 [.int w] (fun r => (r = 1 ∧ inR w 0 2) ∨ (r = 0 ∧ ¬ inR w 0 2)) := by
  refine CS_of (by decide +kernel) (Nat.le_of_ble_eq_true rfl) (by simp [Value.category]) ?_
  intro p e s m below meth c C hM
  refine z_iload_n C dX4_isKind_0 rfl rfl rfl ?_
  refine z_iconst C dX4_isKind_1 rfl (v := 0) (by decide) ?_
  refine z_iconst C dX4_isKind_2 rfl (v := 2) (by decide) ?_
  refine z_callS C (m_X4_within l _ _ _) stabT aw_180 aw_181 aw_27 aw_182 (nA := 3) (by decide +kernel) rfl ⟨Nat.le_of_ble_eq_true rfl, Nat.le_of_ble_eq_true rfl⟩ (rest := []) rfl (Nat.le_of_ble_eq_true rfl) ⟨Nat.zero_le _, Nat.zero_le _⟩ dX4_isKind_3 rfl (fun r_3 h_3 => ?_)
  rcases h_3 with ⟨rfl, h_3⟩ | ⟨rfl, h_3⟩
  ·
    exact z_sret C hM dX4_isKind_6 (by decide) (Or.inl ⟨rfl, by assumption⟩)
  ·
    exact z_sret C hM dX4_isKind_6 (by decide) (Or.inr ⟨rfl, by assumption⟩)
set_option maxRecDepth 100000 in
set_option maxHeartbeats 4000000 in
theorem m_X5_in (l : Launch) (v a b : Int32) : CS l yX5_in cX5_in 3 .boolean 0 0 [.int v, .int a, .int b] (fun r => (r = 1 ∧ inR v a b) ∨ (r = 0 ∧ ¬ inR v a b)) := by
  refine CS_of (by decide +kernel) (Nat.le_of_ble_eq_true rfl) (by simp [Value.category]) ?_
  intro p e s m below meth c C hM
  refine z_iload_n C dX5_in_0 rfl rfl rfl ?_
  refine z_iload_n C dX5_in_1 rfl rfl rfl ?_
  refine z_icmp_lt (tgt := 14) C dX5_in_2 (by decide) rfl (fun c_2 => ?_) (fun c_2 => ?_)
  ·
    refine z_iconst C dX5_in_14 rfl (v := 0) (by decide) ?_
    exact z_sret C hM dX5_in_15 (by decide) (Or.inr ⟨rfl, by simp only [inR, isW, i32_le, i32_lt] at *; omega⟩)
  ·
    refine z_iload_n C dX5_in_5 rfl rfl rfl ?_
    refine z_iload_n C dX5_in_6 rfl rfl rfl ?_
    refine z_icmp_gt (tgt := 14) C dX5_in_7 (by decide) rfl (fun c_7 => ?_) (fun c_7 => ?_)
    ·
      refine z_iconst C dX5_in_14 rfl (v := 0) (by decide) ?_
      exact z_sret C hM dX5_in_15 (by decide) (Or.inr ⟨rfl, by simp only [inR, isW, i32_le, i32_lt] at *; omega⟩)
    ·
      refine z_iconst C dX5_in_10 rfl (v := 1) (by decide) ?_
      refine z_goto C dX5_in_11 (pc' := 15) (by decide) ?_
      exact z_sret C hM dX5_in_15 (by decide) (Or.inl ⟨rfl, by simp only [inR, isW, i32_le, i32_lt] at *; omega⟩)
set_option maxRecDepth 100000 in
set_option maxHeartbeats 4000000 in
theorem m_X5_isWheel (l : Launch) (w : Int32) : CS l yX5_isWheel cX5_isWheel 1 .boolean 1 22 [.int w] (fun r => (r = 1 ∧ isW w) ∨ (r = 0 ∧ ¬ isW w)) := by
  refine CS_of (by decide +kernel) (Nat.le_of_ble_eq_true rfl) (by simp [Value.category]) ?_
  intro p e s m below meth c C hM
  refine z_iload_n C dX5_isWheel_0 rfl rfl rfl ?_
  refine z_iconst C dX5_isWheel_1 rfl (v := 0) (by decide) ?_
  refine z_bipush C dX5_isWheel_2 rfl (v := 15) (by decide) ?_
  refine z_callS C (m_X5_in l _ _ _) stabT aw_529 aw_530 aw_32 aw_531 (nA := 3) (by decide +kernel) rfl ⟨Nat.le_of_ble_eq_true rfl, Nat.le_of_ble_eq_true rfl⟩ (rest := []) rfl (Nat.le_of_ble_eq_true rfl) ⟨Nat.zero_le _, Nat.zero_le _⟩ dX5_isWheel_4 rfl (fun r_4 h_4 => ?_)
  rcases h_4 with ⟨rfl, h_4⟩ | ⟨rfl, h_4⟩
  ·
    exact z_sret C hM dX5_isWheel_7 (by decide) (Or.inl ⟨rfl, by assumption⟩)
  ·
    exact z_sret C hM dX5_isWheel_7 (by decide) (Or.inr ⟨rfl, by assumption⟩)
set_option maxRecDepth 100000 in
set_option maxHeartbeats 4000000 in
theorem m_X4_size (l : Launch) {cA cB : ClassId} {D : va_G} {ad : Nat → Nat} (hI : Inj 67 ad) (σ : St) (w v : Int32) : CI l yX4_size cX4_size 4 .int 2 42 D [(cA, .int), (cB, .object RX3)] 67 ad (cellC cA cB ad) σ [.ref (ad 0), .int w, .int v] (fun r u => r = f_size σ w v ∧ u = g_size σ w v) := by
  refine CI_of (by decide +kernel) (Nat.le_of_ble_eq_true rfl) (by simp [Value.category]) ?_
  intro p e s m below meth c C hM hK
  refine z_iload_n C dX4_size_0 rfl rfl rfl ?_
  refine z_callS C (m_X4_isWheel l _) stabP aw_177 aw_178 aw_27 aw_179 (nA := 1) (by decide +kernel) rfl ⟨Nat.le_of_ble_eq_true rfl, Nat.le_of_ble_eq_true rfl⟩ (rest := []) rfl (Nat.le_of_ble_eq_true rfl) ⟨Nat.zero_le _, Nat.zero_le _⟩ dX4_size_1 rfl (fun r_1 h_1 => ?_)
  rcases h_1 with ⟨rfl, h_1⟩ | ⟨rfl, h_1⟩
  ·
    obtain ⟨k, hk, rfl⟩ := isW_of h_1
    refine z_if_eq (tgt := 20) C dX4_size_4 (by decide) rfl (fun q => absurd q (by decide)) (fun _ => ?_)
    refine z_iload_n C dX4_size_7 rfl rfl rfl ?_
    refine z_sipush C dX4_size_8 rfl (v := 6000) (by decide) ?_
    refine z_sipush C dX4_size_11 rfl (v := 9200) (by decide) ?_
    refine z_callS C (m_X4_within l _ _ _) stabP aw_180 aw_181 aw_27 aw_182 (nA := 3) (by decide +kernel) rfl ⟨Nat.le_of_ble_eq_true rfl, Nat.le_of_ble_eq_true rfl⟩ (rest := []) rfl (Nat.le_of_ble_eq_true rfl) ⟨Nat.zero_le _, Nat.zero_le _⟩ dX4_size_14 rfl (fun r_14 h_14 => ?_)
    rcases h_14 with ⟨rfl, h_14⟩ | ⟨rfl, h_14⟩
    ·
      refine z_if_ne (tgt := 22) C dX4_size_17 (by decide) rfl (fun _ => ?_) (fun q => absurd q (by decide))
      refine z_aload_n C dX4_size_22 rfl rfl rfl ?_
      refine z_get C hK (by decide) kC_0 rfl inAX4 (k := 0) (by decide) aw_145 rfl dX4_size_23 rfl ?_
      refine z_iload_n C dX4_size_26 rfl rfl rfl ?_
      refine z_aald C hK (by decide) kC_1 (t0 := 1) rfl (j := k) rfl (by omega) (by decide) rfl dX4_size_27 rfl ?_
      refine z_get C hK (pW_lt (by omega)) (kC_W k) rfl inAX3 (k := 1) (by decide) aw_122 rfl dX4_size_28 rfl ?_
      refine z_istore_n (L' := [.ref _, .int _, .int _, .int _]) C dX4_size_31 rfl rfl (by decide) (Nat.le_of_ble_eq_true rfl) rfl ?_
      refine z_aload_n C dX4_size_32 rfl rfl rfl ?_
      refine z_get C hK (by decide) kC_0 rfl inAX4 (k := 0) (by decide) aw_145 rfl dX4_size_33 rfl ?_
      refine z_iload_n C dX4_size_36 rfl rfl rfl ?_
      refine z_aald C hK (by decide) kC_1 (t0 := 1) rfl (j := k) rfl (by omega) (by decide) rfl dX4_size_37 rfl ?_
      refine z_iload_n C dX4_size_38 rfl rfl rfl ?_
      refine z_put C hK hI AdS_in (pW_lt (by omega)) (kC_W k) (sC_W1 k _) (cellC_upW (by decide)) rfl inAX3 tyX3_ok nmX3 (k := 1) (by decide) aw_122 rfl (ty := .int) (by decide +kernel) rfl rfl (Nat.le_of_ble_eq_true rfl) dX4_size_39 rfl ?_
      refine z_iload_n C dX4_size_42 rfl rfl rfl ?_
      exact z_iret C hM dX4_size_43 (by have e := wn_nI (k := k) (by omega); have e2 := isW_nI hk; simp [f_size, g_size, e, e2, *])
    ·
      refine z_if_ne (tgt := 22) C dX4_size_17 (by decide) rfl (fun q => absurd q (by decide)) (fun _ => ?_)
      refine z_iconst C dX4_size_20 rfl (v := (-1)) (by decide) ?_
      exact z_iret C hM dX4_size_21 (by simp [f_size, g_size, *])
  ·
    refine z_if_eq (tgt := 20) C dX4_size_4 (by decide) rfl (fun _ => ?_) (fun q => absurd q (by decide))
    refine z_iconst C dX4_size_20 rfl (v := (-1)) (by decide) ?_
    exact z_iret C hM dX4_size_21 (by simp [f_size, g_size, *])
set_option maxRecDepth 100000 in
set_option maxHeartbeats 4000000 in
theorem m_X5_size (l : Launch) {cA : ClassId} {D : va_G} {ad : Nat → Nat} (hI : Inj 17 ad) (σ : St) (w v : Int32) : CI l yX5_size cX5_size 4 .int 2 42 D [(cA, .int)] 17 ad (cellR cA ad) σ [.ref (ad 0), .int w, .int v] (fun r u => r = f_size σ w v ∧ u = g_size σ w v) := by
  refine CI_of (by decide +kernel) (Nat.le_of_ble_eq_true rfl) (by simp [Value.category]) ?_
  intro p e s m below meth c C hM hK
  refine z_aload_n C dX5_size_0 rfl rfl rfl ?_
  refine z_iconst C dX5_size_1 rfl (v := 0) (by decide) ?_
  refine z_put C hK hI AdS_in (by decide) kR_0 sR_th oR_th rfl inAX5 tyX5_ok nmX5 (k := 0) (by decide) aw_452 rfl (ty := .int) (by decide +kernel) rfl rfl (Nat.le_of_ble_eq_true rfl) dX5_size_2 rfl ?_
  refine z_iload_n C dX5_size_5 rfl rfl rfl ?_
  refine z_callS C (m_X5_isWheel l _) stabP aw_526 aw_527 aw_32 aw_528 (nA := 1) (by decide +kernel) rfl ⟨Nat.le_of_ble_eq_true rfl, Nat.le_of_ble_eq_true rfl⟩ (rest := []) rfl (Nat.le_of_ble_eq_true rfl) ⟨Nat.zero_le _, Nat.zero_le _⟩ dX5_size_6 rfl (fun r_6 h_6 => ?_)
  rcases h_6 with ⟨rfl, h_6⟩ | ⟨rfl, h_6⟩
  ·
    obtain ⟨k, hk, rfl⟩ := isW_of h_6
    refine z_if_eq (tgt := 25) C dX5_size_9 (by decide) rfl (fun q => absurd q (by decide)) (fun _ => ?_)
    refine z_iload_n C dX5_size_12 rfl rfl rfl ?_
    refine z_sipush C dX5_size_13 rfl (v := 6000) (by decide) ?_
    refine z_sipush C dX5_size_16 rfl (v := 9200) (by decide) ?_
    refine z_callS C (m_X5_in l _ _ _) stabP aw_529 aw_530 aw_32 aw_531 (nA := 3) (by decide +kernel) rfl ⟨Nat.le_of_ble_eq_true rfl, Nat.le_of_ble_eq_true rfl⟩ (rest := []) rfl (Nat.le_of_ble_eq_true rfl) ⟨Nat.zero_le _, Nat.zero_le _⟩ dX5_size_19 rfl (fun r_19 h_19 => ?_)
    rcases h_19 with ⟨rfl, h_19⟩ | ⟨rfl, h_19⟩
    ·
      refine z_if_ne (tgt := 27) C dX5_size_22 (by decide) rfl (fun _ => ?_) (fun q => absurd q (by decide))
      refine z_aload_n C dX5_size_27 rfl rfl rfl ?_
      refine z_get C hK (by decide) kR_0 rfl inAX5 (k := 2) (by decide) aw_454 rfl dX5_size_28 rfl ?_
      refine z_iload_n C dX5_size_31 rfl rfl rfl ?_
      refine z_iald C hK (by decide) kR_1 (t0 := 0) rfl (j := k) rfl (by omega) (by decide) rfl dX5_size_32 rfl ?_
      refine z_istore_n (L' := [.ref _, .int _, .int _, .int _]) C dX5_size_33 rfl rfl (by decide) (Nat.le_of_ble_eq_true rfl) rfl ?_
      refine z_aload_n C dX5_size_34 rfl rfl rfl ?_
      refine z_get C hK (by decide) kR_0 rfl inAX5 (k := 2) (by decide) aw_454 rfl dX5_size_35 rfl ?_
      refine z_iload_n C dX5_size_38 rfl rfl rfl ?_
      refine z_iload_n C dX5_size_39 rfl rfl rfl ?_
      refine z_iast C hK hI AdS_in (by decide) kR_1 sR_a1 oR_a1 (t0 := 0) rfl (j := k) rfl (by omega) (by decide) dX5_size_40 rfl ?_
      refine z_iload_n C dX5_size_41 rfl rfl rfl ?_
      exact z_iret C hM dX5_size_42 (by have e := wn_nI (k := k) (by omega); have e2 := isW_nI hk; simp [f_size, g_size, e, e2, *])
    ·
      refine z_if_ne (tgt := 27) C dX5_size_22 (by decide) rfl (fun q => absurd q (by decide)) (fun _ => ?_)
      refine z_iconst C dX5_size_25 rfl (v := (-1)) (by decide) ?_
      exact z_iret C hM dX5_size_26 (by simp [f_size, g_size, *])
  ·
    refine z_if_eq (tgt := 25) C dX5_size_9 (by decide) rfl (fun _ => ?_) (fun q => absurd q (by decide))
    refine z_iconst C dX5_size_25 rfl (v := (-1)) (by decide) ?_
    exact z_iret C hM dX5_size_26 (by simp [f_size, g_size, *])
set_option maxRecDepth 100000 in
set_option maxHeartbeats 4000000 in
theorem m_X4_wear (l : Launch) {cA cB : ClassId} {D : va_G} {ad : Nat → Nat} (hI : Inj 67 ad) (σ : St) (w v : Int32) : CI l yX4_wear cX4_wear 4 .int 2 42 D [(cA, .int), (cB, .object RX3)] 67 ad (cellC cA cB ad) σ [.ref (ad 0), .int w, .int v] (fun r u => r = f_wear σ w v ∧ u = g_wear σ w v) := by
  refine CI_of (by decide +kernel) (Nat.le_of_ble_eq_true rfl) (by simp [Value.category]) ?_
  intro p e s m below meth c C hM hK
  refine z_iload_n C dX4_wear_0 rfl rfl rfl ?_
  refine z_callS C (m_X4_isWheel l _) stabP aw_177 aw_178 aw_27 aw_179 (nA := 1) (by decide +kernel) rfl ⟨Nat.le_of_ble_eq_true rfl, Nat.le_of_ble_eq_true rfl⟩ (rest := []) rfl (Nat.le_of_ble_eq_true rfl) ⟨Nat.zero_le _, Nat.zero_le _⟩ dX4_wear_1 rfl (fun r_1 h_1 => ?_)
  rcases h_1 with ⟨rfl, h_1⟩ | ⟨rfl, h_1⟩
  ·
    obtain ⟨k, hk, rfl⟩ := isW_of h_1
    refine z_if_eq (tgt := 17) C dX4_wear_4 (by decide) rfl (fun q => absurd q (by decide)) (fun _ => ?_)
    refine z_iload_n C dX4_wear_7 rfl rfl rfl ?_
    refine z_iconst C dX4_wear_8 rfl (v := 0) (by decide) ?_
    refine z_bipush C dX4_wear_9 rfl (v := 20) (by decide) ?_
    refine z_callS C (m_X4_within l _ _ _) stabP aw_180 aw_181 aw_27 aw_182 (nA := 3) (by decide +kernel) rfl ⟨Nat.le_of_ble_eq_true rfl, Nat.le_of_ble_eq_true rfl⟩ (rest := []) rfl (Nat.le_of_ble_eq_true rfl) ⟨Nat.zero_le _, Nat.zero_le _⟩ dX4_wear_11 rfl (fun r_11 h_11 => ?_)
    rcases h_11 with ⟨rfl, h_11⟩ | ⟨rfl, h_11⟩
    ·
      refine z_if_ne (tgt := 19) C dX4_wear_14 (by decide) rfl (fun _ => ?_) (fun q => absurd q (by decide))
      refine z_aload_n C dX4_wear_19 rfl rfl rfl ?_
      refine z_get C hK (by decide) kC_0 rfl inAX4 (k := 0) (by decide) aw_145 rfl dX4_wear_20 rfl ?_
      refine z_iload_n C dX4_wear_23 rfl rfl rfl ?_
      refine z_aald C hK (by decide) kC_1 (t0 := 1) rfl (j := k) rfl (by omega) (by decide) rfl dX4_wear_24 rfl ?_
      refine z_get C hK (pW_lt (by omega)) (kC_W k) rfl inAX3 (k := 2) (by decide) aw_123 rfl dX4_wear_25 rfl ?_
      refine z_istore_n (L' := [.ref _, .int _, .int _, .int _]) C dX4_wear_28 rfl rfl (by decide) (Nat.le_of_ble_eq_true rfl) rfl ?_
      refine z_aload_n C dX4_wear_29 rfl rfl rfl ?_
      refine z_get C hK (by decide) kC_0 rfl inAX4 (k := 0) (by decide) aw_145 rfl dX4_wear_30 rfl ?_
      refine z_iload_n C dX4_wear_33 rfl rfl rfl ?_
      refine z_aald C hK (by decide) kC_1 (t0 := 1) rfl (j := k) rfl (by omega) (by decide) rfl dX4_wear_34 rfl ?_
      refine z_iload_n C dX4_wear_35 rfl rfl rfl ?_
      refine z_put C hK hI AdS_in (pW_lt (by omega)) (kC_W k) (sC_W3 k _) (cellC_upW (by decide)) rfl inAX3 tyX3_ok nmX3 (k := 2) (by decide) aw_123 rfl (ty := .int) (by decide +kernel) rfl rfl (Nat.le_of_ble_eq_true rfl) dX4_wear_36 rfl ?_
      refine z_iload_n C dX4_wear_39 rfl rfl rfl ?_
      exact z_iret C hM dX4_wear_40 (by have e := wn_nI (k := k) (by omega); have e2 := isW_nI hk; simp [f_wear, g_wear, e, e2, *])
    ·
      refine z_if_ne (tgt := 19) C dX4_wear_14 (by decide) rfl (fun q => absurd q (by decide)) (fun _ => ?_)
      refine z_iconst C dX4_wear_17 rfl (v := (-1)) (by decide) ?_
      exact z_iret C hM dX4_wear_18 (by simp [f_wear, g_wear, *])
  ·
    refine z_if_eq (tgt := 17) C dX4_wear_4 (by decide) rfl (fun _ => ?_) (fun q => absurd q (by decide))
    refine z_iconst C dX4_wear_17 rfl (v := (-1)) (by decide) ?_
    exact z_iret C hM dX4_wear_18 (by simp [f_wear, g_wear, *])
set_option maxRecDepth 100000 in
set_option maxHeartbeats 4000000 in
theorem m_X5_wear (l : Launch) {cA : ClassId} {D : va_G} {ad : Nat → Nat} (hI : Inj 17 ad) (σ : St) (w v : Int32) : CI l yX5_wear cX5_wear 4 .int 2 42 D [(cA, .int)] 17 ad (cellR cA ad) σ [.ref (ad 0), .int w, .int v] (fun r u => r = f_wear σ w v ∧ u = g_wear σ w v) := by
  refine CI_of (by decide +kernel) (Nat.le_of_ble_eq_true rfl) (by simp [Value.category]) ?_
  intro p e s m below meth c C hM hK
  refine z_aload_n C dX5_wear_0 rfl rfl rfl ?_
  refine z_iconst C dX5_wear_1 rfl (v := 0) (by decide) ?_
  refine z_put C hK hI AdS_in (by decide) kR_0 sR_th oR_th rfl inAX5 tyX5_ok nmX5 (k := 0) (by decide) aw_452 rfl (ty := .int) (by decide +kernel) rfl rfl (Nat.le_of_ble_eq_true rfl) dX5_wear_2 rfl ?_
  refine z_iload_n C dX5_wear_5 rfl rfl rfl ?_
  refine z_callS C (m_X5_isWheel l _) stabP aw_526 aw_527 aw_32 aw_528 (nA := 1) (by decide +kernel) rfl ⟨Nat.le_of_ble_eq_true rfl, Nat.le_of_ble_eq_true rfl⟩ (rest := []) rfl (Nat.le_of_ble_eq_true rfl) ⟨Nat.zero_le _, Nat.zero_le _⟩ dX5_wear_6 rfl (fun r_6 h_6 => ?_)
  rcases h_6 with ⟨rfl, h_6⟩ | ⟨rfl, h_6⟩
  ·
    obtain ⟨k, hk, rfl⟩ := isW_of h_6
    refine z_if_eq (tgt := 22) C dX5_wear_9 (by decide) rfl (fun q => absurd q (by decide)) (fun _ => ?_)
    refine z_iload_n C dX5_wear_12 rfl rfl rfl ?_
    refine z_iconst C dX5_wear_13 rfl (v := 0) (by decide) ?_
    refine z_bipush C dX5_wear_14 rfl (v := 20) (by decide) ?_
    refine z_callS C (m_X5_in l _ _ _) stabP aw_529 aw_530 aw_32 aw_531 (nA := 3) (by decide +kernel) rfl ⟨Nat.le_of_ble_eq_true rfl, Nat.le_of_ble_eq_true rfl⟩ (rest := []) rfl (Nat.le_of_ble_eq_true rfl) ⟨Nat.zero_le _, Nat.zero_le _⟩ dX5_wear_16 rfl (fun r_16 h_16 => ?_)
    rcases h_16 with ⟨rfl, h_16⟩ | ⟨rfl, h_16⟩
    ·
      refine z_if_ne (tgt := 24) C dX5_wear_19 (by decide) rfl (fun _ => ?_) (fun q => absurd q (by decide))
      refine z_aload_n C dX5_wear_24 rfl rfl rfl ?_
      refine z_get C hK (by decide) kR_0 rfl inAX5 (k := 4) (by decide) aw_456 rfl dX5_wear_25 rfl ?_
      refine z_iload_n C dX5_wear_28 rfl rfl rfl ?_
      refine z_iald C hK (by decide) kR_3 (t0 := 0) rfl (j := k) rfl (by omega) (by decide) rfl dX5_wear_29 rfl ?_
      refine z_istore_n (L' := [.ref _, .int _, .int _, .int _]) C dX5_wear_30 rfl rfl (by decide) (Nat.le_of_ble_eq_true rfl) rfl ?_
      refine z_aload_n C dX5_wear_31 rfl rfl rfl ?_
      refine z_get C hK (by decide) kR_0 rfl inAX5 (k := 4) (by decide) aw_456 rfl dX5_wear_32 rfl ?_
      refine z_iload_n C dX5_wear_35 rfl rfl rfl ?_
      refine z_iload_n C dX5_wear_36 rfl rfl rfl ?_
      refine z_iast C hK hI AdS_in (by decide) kR_3 sR_a3 oR_a3 (t0 := 0) rfl (j := k) rfl (by omega) (by decide) dX5_wear_37 rfl ?_
      refine z_iload_n C dX5_wear_38 rfl rfl rfl ?_
      exact z_iret C hM dX5_wear_39 (by have e := wn_nI (k := k) (by omega); have e2 := isW_nI hk; simp [f_wear, g_wear, e, e2, *])
    ·
      refine z_if_ne (tgt := 24) C dX5_wear_19 (by decide) rfl (fun q => absurd q (by decide)) (fun _ => ?_)
      refine z_iconst C dX5_wear_22 rfl (v := (-1)) (by decide) ?_
      exact z_iret C hM dX5_wear_23 (by simp [f_wear, g_wear, *])
  ·
    refine z_if_eq (tgt := 22) C dX5_wear_9 (by decide) rfl (fun _ => ?_) (fun q => absurd q (by decide))
    refine z_iconst C dX5_wear_22 rfl (v := (-1)) (by decide) ?_
    exact z_iret C hM dX5_wear_23 (by simp [f_wear, g_wear, *])
