/-! the simple calls: what they answer, what becomes of the state; alike for the class and the reference -/
def f_size (σ : St) (w v : Int32) : Int32 := if isW w ∧ inR v 6000 9200 then σ 1 (wn w) else -1
def g_size (σ : St) (w v : Int32) : St := if isW w ∧ inR v 6000 9200 then up2 σ 1 (wn w) v else σ
def f_wear (σ : St) (w v : Int32) : Int32 := if isW w ∧ inR v 0 20 then σ 3 (wn w) else -1
def g_wear (σ : St) (w v : Int32) : St := if isW w ∧ inR v 0 20 then up2 σ 3 (wn w) v else σ
def f_depth (σ : St) (w i v : Int32) : Int32 := if isW w ∧ inR i 0 4 ∧ inR v 0 99 then σ (100 + 2 * wn w) (wn i) else -1
def g_depth (σ : St) (w i v : Int32) : St := if isW w ∧ inR i 0 4 ∧ inR v 0 99 then up2 σ (100 + 2 * wn w) (wn i) v else σ
def f_thinning (σ : St) (v : Int32) : Int32 := if inR v 0 30 then σ 0 0 else -1
def g_thinning (σ : St) (v : Int32) : St := if inR v 0 30 then up2 σ 0 0 v else σ
def f_bar (σ : St) (v : Int32) : Int32 := if inR v 0 999 then σ 0 1 else -1
def g_bar (σ : St) (v : Int32) : St := if inR v 0 999 then up2 σ 0 1 v else σ
def f_law (σ : St) (w v : Int32) : Int32 := if inR w 0 3 ∧ inR v 0 4000 then σ 5 (wn w) else -1
def g_law (σ : St) (w v : Int32) : St := if inR w 0 3 ∧ inR v 0 4000 then up2 σ 5 (wn w) v else σ
def f_sell (σ : St) : Int32 := if σ 0 4 = 0 then -2 else σ 0 4 - 1
def g_sell (σ : St) : St := if σ 0 4 = 0 then σ else up2 σ 0 4 (σ 0 4 - 1)
def f_forget (σ : St) : Int32 := if σ 0 5 = 0 then -2 else σ 0 5 - 1
def g_forget (σ : St) : St := if σ 0 5 = 0 then σ else up2 σ 0 5 (σ 0 5 - 1)
def f_due (σ : St) (w : Int32) : Int32 := if isW w then 1000 - σ 4 (wn w) else -1000000
def f_look (σ : St) (w : Int32) : Int32 := if isW w then 1000 - σ 4 (wn w) else -1000000
def g_look (σ : St) (w : Int32) : St := if isW w then up2 σ 4 (wn w) 0 else σ
def aboutN (σ : St) (k j : Nat) : Int32 := if j = 0 then σ 1 k else if j < 6 then σ (100 + 2 * k) (j - 1) else if j = 6 then σ 3 k else σ 4 k
def f_about (σ : St) (w q : Int32) : Int32 := if isW w ∧ inR q 0 7 then aboutN σ (wn w) (wn q) else -1
def f_spare (σ : St) (v : Int32) : Int32 := if inR v 6000 9200 then (if σ 0 4 = 8 then -3 else σ 0 4) else -1
def g_spare (σ : St) (v : Int32) : St := if inR v 6000 9200 ∧ ¬ σ 0 4 = 8 then up2 (up2 σ 6 (wn (σ 0 4)) v) 0 4 (σ 0 4 + 1) else σ
def f_read (σ : St) (w b v : Int32) : Int32 := if isW w ∧ inR b 0 1 ∧ inR v 5000 10000 then (if σ 0 5 = 20 then -3 else σ 0 5 + 1) else -1
def g_read (σ : St) (w b v : Int32) : St := if (isW w ∧ inR b 0 1 ∧ inR v 5000 10000) ∧ ¬ σ 0 5 = 20 then up2 (up2 (up2 (up2 σ 7 (wn (σ 0 5)) w) 8 (wn (σ 0 5)) b) 9 (wn (σ 0 5)) v) 0 5 (σ 0 5 + 1) else σ
set_option maxRecDepth 100000 in
set_option maxHeartbeats 400000 in
theorem m_X4_within (l : Launch) (v a b : Int32) : CS l yX4_within cX4_within 3 .boolean 0 0 [.int v, .int a, .int b] (fun r => (r = 1 ∧ inR v a b) ∨ (r = 0 ∧ ¬ inR v a b)) := by
  refine CS_of (by decide +kernel) (Nat.le_of_ble_eq_true rfl) (by simp [Value.category]) ?_
  intro p e s m below meth c C hM
  refine z_iload_n C dX4_within_0 (pc' := 1) rfl rfl rfl ?_
  refine z_iload_n C dX4_within_1 (pc' := 2) rfl rfl rfl ?_
  refine z_icmp_lt (tgt := 14) C dX4_within_2 (pc' := 5) (by decide) rfl (fun c_2 => ?_) (fun c_2 => ?_)
  ·
    refine z_iconst C dX4_within_14 (pc' := 15) rfl (v := 0) (by decide) ?_
    exact z_sret C hM dX4_within_15 (by decide) (Or.inr ⟨rfl, by simp only [inR, isW, i32_le, i32_lt] at *; omega⟩)
  ·
    refine z_iload_n C dX4_within_5 (pc' := 6) rfl rfl rfl ?_
    refine z_iload_n C dX4_within_6 (pc' := 7) rfl rfl rfl ?_
    refine z_icmp_gt (tgt := 14) C dX4_within_7 (pc' := 10) (by decide) rfl (fun c_7 => ?_) (fun c_7 => ?_)
    ·
      refine z_iconst C dX4_within_14 (pc' := 15) rfl (v := 0) (by decide) ?_
      exact z_sret C hM dX4_within_15 (by decide) (Or.inr ⟨rfl, by simp only [inR, isW, i32_le, i32_lt] at *; omega⟩)
    ·
      refine z_iconst C dX4_within_10 (pc' := 11) rfl (v := 1) (by decide) ?_
      refine z_goto C dX4_within_11 (pc' := 15) (by decide) ?_
      exact z_sret C hM dX4_within_15 (by decide) (Or.inl ⟨rfl, by simp only [inR, isW, i32_le, i32_lt] at *; omega⟩)
set_option maxRecDepth 100000 in
set_option maxHeartbeats 400000 in
theorem m_X4_isWheel (l : Launch) (w : Int32) : CS l yX4_isWheel cX4_isWheel 1 .boolean 1 22 [.int w] (fun r => (r = 1 ∧ isW w) ∨ (r = 0 ∧ ¬ isW w)) := by
  refine CS_of (by decide +kernel) (Nat.le_of_ble_eq_true rfl) (by simp [Value.category]) ?_
  intro p e s m below meth c C hM
  refine z_iload_n C dX4_isWheel_0 (pc' := 1) rfl rfl rfl ?_
  refine z_iconst C dX4_isWheel_1 (pc' := 2) rfl (v := 0) (by decide) ?_
  refine z_bipush C dX4_isWheel_2 (pc' := 4) rfl (v := 15) (by decide) ?_
  refine z_callS C (m_X4_within l _ _ _) stabT aw_180 aw_181 aw_27 aw_182 (nA := 3) (by decide +kernel) rfl ⟨Nat.le_of_ble_eq_true rfl, Nat.le_of_ble_eq_true rfl⟩ (rest := []) rfl (Nat.le_of_ble_eq_true rfl) ⟨Nat.zero_le _, Nat.zero_le _⟩ dX4_isWheel_4 (pc' := 7) rfl (fun r_4 h_4 => ?_)
  rcases h_4 with ⟨rfl, h_4⟩ | ⟨rfl, h_4⟩
  ·
    exact z_sret C hM dX4_isWheel_7 (by decide) (Or.inl ⟨rfl, by assumption⟩)
  ·
    exact z_sret C hM dX4_isWheel_7 (by decide) (Or.inr ⟨rfl, by assumption⟩)
set_option maxRecDepth 100000 in
set_option maxHeartbeats 400000 in
theorem m_X4_isKind (l : Launch) (w : Int32) : CS l yX4_isKind cX4_isKind 1 .boolean 1 22 [.int w] (fun r => (r = 1 ∧ inR w 0 2) ∨ (r = 0 ∧ ¬ inR w 0 2)) := by
  refine CS_of (by decide +kernel) (Nat.le_of_ble_eq_true rfl) (by simp [Value.category]) ?_
  intro p e s m below meth c C hM
  refine z_iload_n C dX4_isKind_0 (pc' := 1) rfl rfl rfl ?_
  refine z_iconst C dX4_isKind_1 (pc' := 2) rfl (v := 0) (by decide) ?_
  refine z_iconst C dX4_isKind_2 (pc' := 3) rfl (v := 2) (by decide) ?_
  refine z_callS C (m_X4_within l _ _ _) stabT aw_180 aw_181 aw_27 aw_182 (nA := 3) (by decide +kernel) rfl ⟨Nat.le_of_ble_eq_true rfl, Nat.le_of_ble_eq_true rfl⟩ (rest := []) rfl (Nat.le_of_ble_eq_true rfl) ⟨Nat.zero_le _, Nat.zero_le _⟩ dX4_isKind_3 (pc' := 6) rfl (fun r_3 h_3 => ?_)
  rcases h_3 with ⟨rfl, h_3⟩ | ⟨rfl, h_3⟩
  ·
    exact z_sret C hM dX4_isKind_6 (by decide) (Or.inl ⟨rfl, by assumption⟩)
  ·
    exact z_sret C hM dX4_isKind_6 (by decide) (Or.inr ⟨rfl, by assumption⟩)
set_option maxRecDepth 100000 in
set_option maxHeartbeats 400000 in
theorem m_X5_in (l : Launch) (v a b : Int32) : CS l yX5_in cX5_in 3 .boolean 0 0 [.int v, .int a, .int b] (fun r => (r = 1 ∧ inR v a b) ∨ (r = 0 ∧ ¬ inR v a b)) := by
  refine CS_of (by decide +kernel) (Nat.le_of_ble_eq_true rfl) (by simp [Value.category]) ?_
  intro p e s m below meth c C hM
  refine z_iload_n C dX5_in_0 (pc' := 1) rfl rfl rfl ?_
  refine z_iload_n C dX5_in_1 (pc' := 2) rfl rfl rfl ?_
  refine z_icmp_lt (tgt := 14) C dX5_in_2 (pc' := 5) (by decide) rfl (fun c_2 => ?_) (fun c_2 => ?_)
  ·
    refine z_iconst C dX5_in_14 (pc' := 15) rfl (v := 0) (by decide) ?_
    exact z_sret C hM dX5_in_15 (by decide) (Or.inr ⟨rfl, by simp only [inR, isW, i32_le, i32_lt] at *; omega⟩)
  ·
    refine z_iload_n C dX5_in_5 (pc' := 6) rfl rfl rfl ?_
    refine z_iload_n C dX5_in_6 (pc' := 7) rfl rfl rfl ?_
    refine z_icmp_gt (tgt := 14) C dX5_in_7 (pc' := 10) (by decide) rfl (fun c_7 => ?_) (fun c_7 => ?_)
    ·
      refine z_iconst C dX5_in_14 (pc' := 15) rfl (v := 0) (by decide) ?_
      exact z_sret C hM dX5_in_15 (by decide) (Or.inr ⟨rfl, by simp only [inR, isW, i32_le, i32_lt] at *; omega⟩)
    ·
      refine z_iconst C dX5_in_10 (pc' := 11) rfl (v := 1) (by decide) ?_
      refine z_goto C dX5_in_11 (pc' := 15) (by decide) ?_
      exact z_sret C hM dX5_in_15 (by decide) (Or.inl ⟨rfl, by simp only [inR, isW, i32_le, i32_lt] at *; omega⟩)
set_option maxRecDepth 100000 in
set_option maxHeartbeats 400000 in
theorem m_X5_isWheel (l : Launch) (w : Int32) : CS l yX5_isWheel cX5_isWheel 1 .boolean 1 22 [.int w] (fun r => (r = 1 ∧ isW w) ∨ (r = 0 ∧ ¬ isW w)) := by
  refine CS_of (by decide +kernel) (Nat.le_of_ble_eq_true rfl) (by simp [Value.category]) ?_
  intro p e s m below meth c C hM
  refine z_iload_n C dX5_isWheel_0 (pc' := 1) rfl rfl rfl ?_
  refine z_iconst C dX5_isWheel_1 (pc' := 2) rfl (v := 0) (by decide) ?_
  refine z_bipush C dX5_isWheel_2 (pc' := 4) rfl (v := 15) (by decide) ?_
  refine z_callS C (m_X5_in l _ _ _) stabT aw_529 aw_530 aw_32 aw_531 (nA := 3) (by decide +kernel) rfl ⟨Nat.le_of_ble_eq_true rfl, Nat.le_of_ble_eq_true rfl⟩ (rest := []) rfl (Nat.le_of_ble_eq_true rfl) ⟨Nat.zero_le _, Nat.zero_le _⟩ dX5_isWheel_4 (pc' := 7) rfl (fun r_4 h_4 => ?_)
  rcases h_4 with ⟨rfl, h_4⟩ | ⟨rfl, h_4⟩
  ·
    exact z_sret C hM dX5_isWheel_7 (by decide) (Or.inl ⟨rfl, by assumption⟩)
  ·
    exact z_sret C hM dX5_isWheel_7 (by decide) (Or.inr ⟨rfl, by assumption⟩)
set_option maxRecDepth 100000 in
set_option maxHeartbeats 400000 in
theorem m_X3_milesLeft (l : Launch) {cA cB : ClassId} {D : va_G} {ad : Nat → Nat} (hI : Inj 67 ad) (σ : St) {k : Nat} (hk : k < 16) : CI l yX3_milesLeft cX3_milesLeft 1 .int 0 0 D [(cA, .int), (cB, .object RX3)] 67 ad (cellC cA cB ad) σ [.ref (ad (pW k))] (fun r u => r = 1000 - σ 4 k ∧ u = σ) := by
  refine CI_of (by decide +kernel) (Nat.le_of_ble_eq_true rfl) (by simp [Value.category]) ?_
  intro p e s m below meth c C hM hK
  refine z_sipush C dX3_milesLeft_0 (pc' := 3) rfl (v := 1000) (by decide) ?_
  refine z_aload_n C dX3_milesLeft_3 (pc' := 4) rfl rfl rfl ?_
  refine z_get C hK (pW_lt (by omega)) (kC_W k) rfl inAX3 (k := 3) (by decide) aw_126 rfl dX3_milesLeft_4 (pc' := 7) rfl ?_
  refine z_isub C dX3_milesLeft_7 (pc' := 8) rfl rfl ?_
  exact z_iret C hM dX3_milesLeft_8 ⟨rfl, rfl⟩
set_option maxRecDepth 100000 in
set_option maxHeartbeats 400000 in
theorem m_X4_size (l : Launch) {cA cB : ClassId} {D : va_G} {ad : Nat → Nat} (hI : Inj 67 ad) (σ : St) (w v : Int32) : CI l yX4_size cX4_size 4 .int 2 42 D [(cA, .int), (cB, .object RX3)] 67 ad (cellC cA cB ad) σ [.ref (ad 0), .int w, .int v] (fun r u => r = f_size σ w v ∧ u = g_size σ w v) := by
  refine CI_of (by decide +kernel) (Nat.le_of_ble_eq_true rfl) (by simp [Value.category]) ?_
  intro p e s m below meth c C hM hK
  refine z_iload_n C dX4_size_0 (pc' := 1) rfl rfl rfl ?_
  refine z_callS C (m_X4_isWheel l _) stabP aw_177 aw_178 aw_27 aw_179 (nA := 1) (by decide +kernel) rfl ⟨Nat.le_of_ble_eq_true rfl, Nat.le_of_ble_eq_true rfl⟩ (rest := []) rfl (Nat.le_of_ble_eq_true rfl) ⟨Nat.zero_le _, Nat.zero_le _⟩ dX4_size_1 (pc' := 4) rfl (fun r_1 h_1 => ?_)
  rcases h_1 with ⟨rfl, h_1⟩ | ⟨rfl, h_1⟩
  ·
    obtain ⟨k, hk, rfl⟩ := isW_of h_1
    refine z_if_eq (tgt := 20) C dX4_size_4 (pc' := 7) (by decide) rfl (fun q => absurd q (by decide)) (fun _ => ?_)
    refine z_iload_n C dX4_size_7 (pc' := 8) rfl rfl rfl ?_
    refine z_sipush C dX4_size_8 (pc' := 11) rfl (v := 6000) (by decide) ?_
    refine z_sipush C dX4_size_11 (pc' := 14) rfl (v := 9200) (by decide) ?_
    refine z_callS C (m_X4_within l _ _ _) stabP aw_180 aw_181 aw_27 aw_182 (nA := 3) (by decide +kernel) rfl ⟨Nat.le_of_ble_eq_true rfl, Nat.le_of_ble_eq_true rfl⟩ (rest := []) rfl (Nat.le_of_ble_eq_true rfl) ⟨Nat.zero_le _, Nat.zero_le _⟩ dX4_size_14 (pc' := 17) rfl (fun r_14 h_14 => ?_)
    rcases h_14 with ⟨rfl, h_14⟩ | ⟨rfl, h_14⟩
    ·
      refine z_if_ne (tgt := 22) C dX4_size_17 (pc' := 20) (by decide) rfl (fun _ => ?_) (fun q => absurd q (by decide))
      refine z_aload_n C dX4_size_22 (pc' := 23) rfl rfl rfl ?_
      refine z_get C hK (by decide) kC_0 rfl inAX4 (k := 0) (by decide) aw_145 rfl dX4_size_23 (pc' := 26) rfl ?_
      refine z_iload_n C dX4_size_26 (pc' := 27) rfl rfl rfl ?_
      refine z_aald C hK (by decide) kC_1 (t0 := 1) rfl (j := k) rfl (by omega) (by decide) rfl dX4_size_27 (pc' := 28) rfl ?_
      refine z_get C hK (pW_lt (by omega)) (kC_W k) rfl inAX3 (k := 1) (by decide) aw_122 rfl dX4_size_28 (pc' := 31) rfl ?_
      refine z_istore_n (L' := [.ref _, .int _, .int _, .int _]) C dX4_size_31 (pc' := 32) rfl rfl (by decide) (Nat.le_of_ble_eq_true rfl) rfl ?_
      refine z_aload_n C dX4_size_32 (pc' := 33) rfl rfl rfl ?_
      refine z_get C hK (by decide) kC_0 rfl inAX4 (k := 0) (by decide) aw_145 rfl dX4_size_33 (pc' := 36) rfl ?_
      refine z_iload_n C dX4_size_36 (pc' := 37) rfl rfl rfl ?_
      refine z_aald C hK (by decide) kC_1 (t0 := 1) rfl (j := k) rfl (by omega) (by decide) rfl dX4_size_37 (pc' := 38) rfl ?_
      refine z_iload_n C dX4_size_38 (pc' := 39) rfl rfl rfl ?_
      refine z_put C hK hI AdS_in (pW_lt (by omega)) (kC_W k) (sC_W1 k _) (cellC_upW (by decide)) rfl inAX3 tyX3_ok nmX3 (k := 1) (by decide) aw_122 rfl (ty := .int) (by decide +kernel) rfl rfl (Nat.le_of_ble_eq_true rfl) dX4_size_39 (pc' := 42) rfl ?_
      refine z_iload_n C dX4_size_42 (pc' := 43) rfl rfl rfl ?_
      exact z_iret C hM dX4_size_43 (by have ek := wn_nI (k := k) (by omega); have wk := isW_nI hk; simp [f_size, g_size, ek, wk, *])
    ·
      refine z_if_ne (tgt := 22) C dX4_size_17 (pc' := 20) (by decide) rfl (fun q => absurd q (by decide)) (fun _ => ?_)
      refine z_iconst C dX4_size_20 (pc' := 21) rfl (v := (-1)) (by decide) ?_
      exact z_iret C hM dX4_size_21 (by simp [f_size, g_size, *])
  ·
    refine z_if_eq (tgt := 20) C dX4_size_4 (pc' := 7) (by decide) rfl (fun _ => ?_) (fun q => absurd q (by decide))
    refine z_iconst C dX4_size_20 (pc' := 21) rfl (v := (-1)) (by decide) ?_
    exact z_iret C hM dX4_size_21 (by simp [f_size, g_size, *])
set_option maxRecDepth 100000 in
set_option maxHeartbeats 400000 in
theorem m_X5_size (l : Launch) {cA : ClassId} {D : va_G} {ad : Nat → Nat} (hI : Inj 17 ad) (σ : St) (w v : Int32) : CI l yX5_size cX5_size 4 .int 2 42 D [(cA, .int)] 17 ad (cellR cA ad) σ [.ref (ad 0), .int w, .int v] (fun r u => r = f_size σ w v ∧ u = g_size σ w v) := by
  refine CI_of (by decide +kernel) (Nat.le_of_ble_eq_true rfl) (by simp [Value.category]) ?_
  intro p e s m below meth c C hM hK
  refine z_aload_n C dX5_size_0 (pc' := 1) rfl rfl rfl ?_
  refine z_iconst C dX5_size_1 (pc' := 2) rfl (v := 0) (by decide) ?_
  refine z_put C hK hI AdS_in (by decide) kR_0 sR_th oR_th rfl inAX5 tyX5_ok nmX5 (k := 0) (by decide) aw_452 rfl (ty := .int) (by decide +kernel) rfl rfl (Nat.le_of_ble_eq_true rfl) dX5_size_2 (pc' := 5) rfl ?_
  refine z_iload_n C dX5_size_5 (pc' := 6) rfl rfl rfl ?_
  refine z_callS C (m_X5_isWheel l _) stabP aw_526 aw_527 aw_32 aw_528 (nA := 1) (by decide +kernel) rfl ⟨Nat.le_of_ble_eq_true rfl, Nat.le_of_ble_eq_true rfl⟩ (rest := []) rfl (Nat.le_of_ble_eq_true rfl) ⟨Nat.zero_le _, Nat.zero_le _⟩ dX5_size_6 (pc' := 9) rfl (fun r_6 h_6 => ?_)
  rcases h_6 with ⟨rfl, h_6⟩ | ⟨rfl, h_6⟩
  ·
    obtain ⟨k, hk, rfl⟩ := isW_of h_6
    refine z_if_eq (tgt := 25) C dX5_size_9 (pc' := 12) (by decide) rfl (fun q => absurd q (by decide)) (fun _ => ?_)
    refine z_iload_n C dX5_size_12 (pc' := 13) rfl rfl rfl ?_
    refine z_sipush C dX5_size_13 (pc' := 16) rfl (v := 6000) (by decide) ?_
    refine z_sipush C dX5_size_16 (pc' := 19) rfl (v := 9200) (by decide) ?_
    refine z_callS C (m_X5_in l _ _ _) stabP aw_529 aw_530 aw_32 aw_531 (nA := 3) (by decide +kernel) rfl ⟨Nat.le_of_ble_eq_true rfl, Nat.le_of_ble_eq_true rfl⟩ (rest := []) rfl (Nat.le_of_ble_eq_true rfl) ⟨Nat.zero_le _, Nat.zero_le _⟩ dX5_size_19 (pc' := 22) rfl (fun r_19 h_19 => ?_)
    rcases h_19 with ⟨rfl, h_19⟩ | ⟨rfl, h_19⟩
    ·
      refine z_if_ne (tgt := 27) C dX5_size_22 (pc' := 25) (by decide) rfl (fun _ => ?_) (fun q => absurd q (by decide))
      refine z_aload_n C dX5_size_27 (pc' := 28) rfl rfl rfl ?_
      refine z_get C hK (by decide) kR_0 rfl inAX5 (k := 2) (by decide) aw_454 rfl dX5_size_28 (pc' := 31) rfl ?_
      refine z_iload_n C dX5_size_31 (pc' := 32) rfl rfl rfl ?_
      refine z_iald C hK (by decide) kR_1 (t0 := 0) rfl (j := k) rfl (by omega) (by decide) rfl dX5_size_32 (pc' := 33) rfl ?_
      refine z_istore_n (L' := [.ref _, .int _, .int _, .int _]) C dX5_size_33 (pc' := 34) rfl rfl (by decide) (Nat.le_of_ble_eq_true rfl) rfl ?_
      refine z_aload_n C dX5_size_34 (pc' := 35) rfl rfl rfl ?_
      refine z_get C hK (by decide) kR_0 rfl inAX5 (k := 2) (by decide) aw_454 rfl dX5_size_35 (pc' := 38) rfl ?_
      refine z_iload_n C dX5_size_38 (pc' := 39) rfl rfl rfl ?_
      refine z_iload_n C dX5_size_39 (pc' := 40) rfl rfl rfl ?_
      refine z_iast C hK hI AdS_in (by decide) kR_1 sR_a1 oR_a1 (t0 := 0) rfl (j := k) rfl (by omega) (by decide) dX5_size_40 (pc' := 41) rfl ?_
      refine z_iload_n C dX5_size_41 (pc' := 42) rfl rfl rfl ?_
      exact z_iret C hM dX5_size_42 (by have ek := wn_nI (k := k) (by omega); have wk := isW_nI hk; simp [f_size, g_size, ek, wk, *])
    ·
      refine z_if_ne (tgt := 27) C dX5_size_22 (pc' := 25) (by decide) rfl (fun q => absurd q (by decide)) (fun _ => ?_)
      refine z_iconst C dX5_size_25 (pc' := 26) rfl (v := (-1)) (by decide) ?_
      exact z_iret C hM dX5_size_26 (by simp [f_size, g_size, *])
  ·
    refine z_if_eq (tgt := 25) C dX5_size_9 (pc' := 12) (by decide) rfl (fun _ => ?_) (fun q => absurd q (by decide))
    refine z_iconst C dX5_size_25 (pc' := 26) rfl (v := (-1)) (by decide) ?_
    exact z_iret C hM dX5_size_26 (by simp [f_size, g_size, *])
set_option maxRecDepth 100000 in
set_option maxHeartbeats 400000 in
theorem m_X4_wear (l : Launch) {cA cB : ClassId} {D : va_G} {ad : Nat → Nat} (hI : Inj 67 ad) (σ : St) (w v : Int32) : CI l yX4_wear cX4_wear 4 .int 2 42 D [(cA, .int), (cB, .object RX3)] 67 ad (cellC cA cB ad) σ [.ref (ad 0), .int w, .int v] (fun r u => r = f_wear σ w v ∧ u = g_wear σ w v) := by
  refine CI_of (by decide +kernel) (Nat.le_of_ble_eq_true rfl) (by simp [Value.category]) ?_
  intro p e s m below meth c C hM hK
  refine z_iload_n C dX4_wear_0 (pc' := 1) rfl rfl rfl ?_
  refine z_callS C (m_X4_isWheel l _) stabP aw_177 aw_178 aw_27 aw_179 (nA := 1) (by decide +kernel) rfl ⟨Nat.le_of_ble_eq_true rfl, Nat.le_of_ble_eq_true rfl⟩ (rest := []) rfl (Nat.le_of_ble_eq_true rfl) ⟨Nat.zero_le _, Nat.zero_le _⟩ dX4_wear_1 (pc' := 4) rfl (fun r_1 h_1 => ?_)
  rcases h_1 with ⟨rfl, h_1⟩ | ⟨rfl, h_1⟩
  ·
    obtain ⟨k, hk, rfl⟩ := isW_of h_1
    refine z_if_eq (tgt := 17) C dX4_wear_4 (pc' := 7) (by decide) rfl (fun q => absurd q (by decide)) (fun _ => ?_)
    refine z_iload_n C dX4_wear_7 (pc' := 8) rfl rfl rfl ?_
    refine z_iconst C dX4_wear_8 (pc' := 9) rfl (v := 0) (by decide) ?_
    refine z_bipush C dX4_wear_9 (pc' := 11) rfl (v := 20) (by decide) ?_
    refine z_callS C (m_X4_within l _ _ _) stabP aw_180 aw_181 aw_27 aw_182 (nA := 3) (by decide +kernel) rfl ⟨Nat.le_of_ble_eq_true rfl, Nat.le_of_ble_eq_true rfl⟩ (rest := []) rfl (Nat.le_of_ble_eq_true rfl) ⟨Nat.zero_le _, Nat.zero_le _⟩ dX4_wear_11 (pc' := 14) rfl (fun r_11 h_11 => ?_)
    rcases h_11 with ⟨rfl, h_11⟩ | ⟨rfl, h_11⟩
    ·
      refine z_if_ne (tgt := 19) C dX4_wear_14 (pc' := 17) (by decide) rfl (fun _ => ?_) (fun q => absurd q (by decide))
      refine z_aload_n C dX4_wear_19 (pc' := 20) rfl rfl rfl ?_
      refine z_get C hK (by decide) kC_0 rfl inAX4 (k := 0) (by decide) aw_145 rfl dX4_wear_20 (pc' := 23) rfl ?_
      refine z_iload_n C dX4_wear_23 (pc' := 24) rfl rfl rfl ?_
      refine z_aald C hK (by decide) kC_1 (t0 := 1) rfl (j := k) rfl (by omega) (by decide) rfl dX4_wear_24 (pc' := 25) rfl ?_
      refine z_get C hK (pW_lt (by omega)) (kC_W k) rfl inAX3 (k := 2) (by decide) aw_123 rfl dX4_wear_25 (pc' := 28) rfl ?_
      refine z_istore_n (L' := [.ref _, .int _, .int _, .int _]) C dX4_wear_28 (pc' := 29) rfl rfl (by decide) (Nat.le_of_ble_eq_true rfl) rfl ?_
      refine z_aload_n C dX4_wear_29 (pc' := 30) rfl rfl rfl ?_
      refine z_get C hK (by decide) kC_0 rfl inAX4 (k := 0) (by decide) aw_145 rfl dX4_wear_30 (pc' := 33) rfl ?_
      refine z_iload_n C dX4_wear_33 (pc' := 34) rfl rfl rfl ?_
      refine z_aald C hK (by decide) kC_1 (t0 := 1) rfl (j := k) rfl (by omega) (by decide) rfl dX4_wear_34 (pc' := 35) rfl ?_
      refine z_iload_n C dX4_wear_35 (pc' := 36) rfl rfl rfl ?_
      refine z_put C hK hI AdS_in (pW_lt (by omega)) (kC_W k) (sC_W3 k _) (cellC_upW (by decide)) rfl inAX3 tyX3_ok nmX3 (k := 2) (by decide) aw_123 rfl (ty := .int) (by decide +kernel) rfl rfl (Nat.le_of_ble_eq_true rfl) dX4_wear_36 (pc' := 39) rfl ?_
      refine z_iload_n C dX4_wear_39 (pc' := 40) rfl rfl rfl ?_
      exact z_iret C hM dX4_wear_40 (by have ek := wn_nI (k := k) (by omega); have wk := isW_nI hk; simp [f_wear, g_wear, ek, wk, *])
    ·
      refine z_if_ne (tgt := 19) C dX4_wear_14 (pc' := 17) (by decide) rfl (fun q => absurd q (by decide)) (fun _ => ?_)
      refine z_iconst C dX4_wear_17 (pc' := 18) rfl (v := (-1)) (by decide) ?_
      exact z_iret C hM dX4_wear_18 (by simp [f_wear, g_wear, *])
  ·
    refine z_if_eq (tgt := 17) C dX4_wear_4 (pc' := 7) (by decide) rfl (fun _ => ?_) (fun q => absurd q (by decide))
    refine z_iconst C dX4_wear_17 (pc' := 18) rfl (v := (-1)) (by decide) ?_
    exact z_iret C hM dX4_wear_18 (by simp [f_wear, g_wear, *])
set_option maxRecDepth 100000 in
set_option maxHeartbeats 400000 in
theorem m_X5_wear (l : Launch) {cA : ClassId} {D : va_G} {ad : Nat → Nat} (hI : Inj 17 ad) (σ : St) (w v : Int32) : CI l yX5_wear cX5_wear 4 .int 2 42 D [(cA, .int)] 17 ad (cellR cA ad) σ [.ref (ad 0), .int w, .int v] (fun r u => r = f_wear σ w v ∧ u = g_wear σ w v) := by
  refine CI_of (by decide +kernel) (Nat.le_of_ble_eq_true rfl) (by simp [Value.category]) ?_
  intro p e s m below meth c C hM hK
  refine z_aload_n C dX5_wear_0 (pc' := 1) rfl rfl rfl ?_
  refine z_iconst C dX5_wear_1 (pc' := 2) rfl (v := 0) (by decide) ?_
  refine z_put C hK hI AdS_in (by decide) kR_0 sR_th oR_th rfl inAX5 tyX5_ok nmX5 (k := 0) (by decide) aw_452 rfl (ty := .int) (by decide +kernel) rfl rfl (Nat.le_of_ble_eq_true rfl) dX5_wear_2 (pc' := 5) rfl ?_
  refine z_iload_n C dX5_wear_5 (pc' := 6) rfl rfl rfl ?_
  refine z_callS C (m_X5_isWheel l _) stabP aw_526 aw_527 aw_32 aw_528 (nA := 1) (by decide +kernel) rfl ⟨Nat.le_of_ble_eq_true rfl, Nat.le_of_ble_eq_true rfl⟩ (rest := []) rfl (Nat.le_of_ble_eq_true rfl) ⟨Nat.zero_le _, Nat.zero_le _⟩ dX5_wear_6 (pc' := 9) rfl (fun r_6 h_6 => ?_)
  rcases h_6 with ⟨rfl, h_6⟩ | ⟨rfl, h_6⟩
  ·
    obtain ⟨k, hk, rfl⟩ := isW_of h_6
    refine z_if_eq (tgt := 22) C dX5_wear_9 (pc' := 12) (by decide) rfl (fun q => absurd q (by decide)) (fun _ => ?_)
    refine z_iload_n C dX5_wear_12 (pc' := 13) rfl rfl rfl ?_
    refine z_iconst C dX5_wear_13 (pc' := 14) rfl (v := 0) (by decide) ?_
    refine z_bipush C dX5_wear_14 (pc' := 16) rfl (v := 20) (by decide) ?_
    refine z_callS C (m_X5_in l _ _ _) stabP aw_529 aw_530 aw_32 aw_531 (nA := 3) (by decide +kernel) rfl ⟨Nat.le_of_ble_eq_true rfl, Nat.le_of_ble_eq_true rfl⟩ (rest := []) rfl (Nat.le_of_ble_eq_true rfl) ⟨Nat.zero_le _, Nat.zero_le _⟩ dX5_wear_16 (pc' := 19) rfl (fun r_16 h_16 => ?_)
    rcases h_16 with ⟨rfl, h_16⟩ | ⟨rfl, h_16⟩
    ·
      refine z_if_ne (tgt := 24) C dX5_wear_19 (pc' := 22) (by decide) rfl (fun _ => ?_) (fun q => absurd q (by decide))
      refine z_aload_n C dX5_wear_24 (pc' := 25) rfl rfl rfl ?_
      refine z_get C hK (by decide) kR_0 rfl inAX5 (k := 4) (by decide) aw_456 rfl dX5_wear_25 (pc' := 28) rfl ?_
      refine z_iload_n C dX5_wear_28 (pc' := 29) rfl rfl rfl ?_
      refine z_iald C hK (by decide) kR_3 (t0 := 0) rfl (j := k) rfl (by omega) (by decide) rfl dX5_wear_29 (pc' := 30) rfl ?_
      refine z_istore_n (L' := [.ref _, .int _, .int _, .int _]) C dX5_wear_30 (pc' := 31) rfl rfl (by decide) (Nat.le_of_ble_eq_true rfl) rfl ?_
      refine z_aload_n C dX5_wear_31 (pc' := 32) rfl rfl rfl ?_
      refine z_get C hK (by decide) kR_0 rfl inAX5 (k := 4) (by decide) aw_456 rfl dX5_wear_32 (pc' := 35) rfl ?_
      refine z_iload_n C dX5_wear_35 (pc' := 36) rfl rfl rfl ?_
      refine z_iload_n C dX5_wear_36 (pc' := 37) rfl rfl rfl ?_
      refine z_iast C hK hI AdS_in (by decide) kR_3 sR_a3 oR_a3 (t0 := 0) rfl (j := k) rfl (by omega) (by decide) dX5_wear_37 (pc' := 38) rfl ?_
      refine z_iload_n C dX5_wear_38 (pc' := 39) rfl rfl rfl ?_
      exact z_iret C hM dX5_wear_39 (by have ek := wn_nI (k := k) (by omega); have wk := isW_nI hk; simp [f_wear, g_wear, ek, wk, *])
    ·
      refine z_if_ne (tgt := 24) C dX5_wear_19 (pc' := 22) (by decide) rfl (fun q => absurd q (by decide)) (fun _ => ?_)
      refine z_iconst C dX5_wear_22 (pc' := 23) rfl (v := (-1)) (by decide) ?_
      exact z_iret C hM dX5_wear_23 (by simp [f_wear, g_wear, *])
  ·
    refine z_if_eq (tgt := 22) C dX5_wear_9 (pc' := 12) (by decide) rfl (fun _ => ?_) (fun q => absurd q (by decide))
    refine z_iconst C dX5_wear_22 (pc' := 23) rfl (v := (-1)) (by decide) ?_
    exact z_iret C hM dX5_wear_23 (by simp [f_wear, g_wear, *])
set_option maxRecDepth 100000 in
set_option maxHeartbeats 400000 in
theorem m_X4_depth (l : Launch) {cA cB : ClassId} {D : va_G} {ad : Nat → Nat} (hI : Inj 67 ad) (σ : St) (w i v : Int32) : CI l yX4_depth cX4_depth 5 .int 2 42 D [(cA, .int), (cB, .object RX3)] 67 ad (cellC cA cB ad) σ [.ref (ad 0), .int w, .int i, .int v] (fun r u => r = f_depth σ w i v ∧ u = g_depth σ w i v) := by
  refine CI_of (by decide +kernel) (Nat.le_of_ble_eq_true rfl) (by simp [Value.category]) ?_
  intro p e s m below meth c C hM hK
  refine z_iload_n C dX4_depth_0 (pc' := 1) rfl rfl rfl ?_
  refine z_callS C (m_X4_isWheel l _) stabP aw_177 aw_178 aw_27 aw_179 (nA := 1) (by decide +kernel) rfl ⟨Nat.le_of_ble_eq_true rfl, Nat.le_of_ble_eq_true rfl⟩ (rest := []) rfl (Nat.le_of_ble_eq_true rfl) ⟨Nat.zero_le _, Nat.zero_le _⟩ dX4_depth_1 (pc' := 4) rfl (fun r_1 h_1 => ?_)
  rcases h_1 with ⟨rfl, h_1⟩ | ⟨rfl, h_1⟩
  ·
    obtain ⟨k, hk, rfl⟩ := isW_of h_1
    refine z_if_eq (tgt := 26) C dX4_depth_4 (pc' := 7) (by decide) rfl (fun q => absurd q (by decide)) (fun _ => ?_)
    refine z_iload_n C dX4_depth_7 (pc' := 8) rfl rfl rfl ?_
    refine z_iconst C dX4_depth_8 (pc' := 9) rfl (v := 0) (by decide) ?_
    refine z_iconst C dX4_depth_9 (pc' := 10) rfl (v := 4) (by decide) ?_
    refine z_callS C (m_X4_within l _ _ _) stabP aw_180 aw_181 aw_27 aw_182 (nA := 3) (by decide +kernel) rfl ⟨Nat.le_of_ble_eq_true rfl, Nat.le_of_ble_eq_true rfl⟩ (rest := []) rfl (Nat.le_of_ble_eq_true rfl) ⟨Nat.zero_le _, Nat.zero_le _⟩ dX4_depth_10 (pc' := 13) rfl (fun r_10 h_10 => ?_)
    rcases h_10 with ⟨rfl, h_10⟩ | ⟨rfl, h_10⟩
    ·
      obtain ⟨j, hj, rfl⟩ := inR_of (n := 4) (by omega) h_10
      refine z_if_eq (tgt := 26) C dX4_depth_13 (pc' := 16) (by decide) rfl (fun q => absurd q (by decide)) (fun _ => ?_)
      refine z_iload_n C dX4_depth_16 (pc' := 17) rfl rfl rfl ?_
      refine z_iconst C dX4_depth_17 (pc' := 18) rfl (v := 0) (by decide) ?_
      refine z_bipush C dX4_depth_18 (pc' := 20) rfl (v := 99) (by decide) ?_
      refine z_callS C (m_X4_within l _ _ _) stabP aw_180 aw_181 aw_27 aw_182 (nA := 3) (by decide +kernel) rfl ⟨Nat.le_of_ble_eq_true rfl, Nat.le_of_ble_eq_true rfl⟩ (rest := []) rfl (Nat.le_of_ble_eq_true rfl) ⟨Nat.zero_le _, Nat.zero_le _⟩ dX4_depth_20 (pc' := 23) rfl (fun r_20 h_20 => ?_)
      rcases h_20 with ⟨rfl, h_20⟩ | ⟨rfl, h_20⟩
      ·
        refine z_if_ne (tgt := 28) C dX4_depth_23 (pc' := 26) (by decide) rfl (fun _ => ?_) (fun q => absurd q (by decide))
        refine z_aload_n C dX4_depth_28 (pc' := 29) rfl rfl rfl ?_
        refine z_get C hK (by decide) kC_0 rfl inAX4 (k := 0) (by decide) aw_145 rfl dX4_depth_29 (pc' := 32) rfl ?_
        refine z_iload_n C dX4_depth_32 (pc' := 33) rfl rfl rfl ?_
        refine z_aald C hK (by decide) kC_1 (t0 := 1) rfl (j := k) rfl (by omega) (by decide) rfl dX4_depth_33 (pc' := 34) rfl ?_
        refine z_get C hK (pW_lt (by omega)) (kC_W k) rfl inAX3 (k := 0) (by decide) aw_120 rfl dX4_depth_34 (pc' := 37) rfl ?_
        refine z_iload_n C dX4_depth_37 (pc' := 38) rfl rfl rfl ?_
        refine z_iald C hK (pD_lt (by omega)) (kC_D k) (t0 := 0) rfl (j := j) rfl (by omega) (by decide) rfl dX4_depth_38 (pc' := 39) rfl ?_
        refine z_istore (L' := [.ref _, .int _, .int _, .int _, .int _]) C dX4_depth_39 (pc' := 41) rfl (by decide) (Nat.le_of_ble_eq_true rfl) rfl ?_
        refine z_aload_n C dX4_depth_41 (pc' := 42) rfl rfl rfl ?_
        refine z_get C hK (by decide) kC_0 rfl inAX4 (k := 0) (by decide) aw_145 rfl dX4_depth_42 (pc' := 45) rfl ?_
        refine z_iload_n C dX4_depth_45 (pc' := 46) rfl rfl rfl ?_
        refine z_aald C hK (by decide) kC_1 (t0 := 1) rfl (j := k) rfl (by omega) (by decide) rfl dX4_depth_46 (pc' := 47) rfl ?_
        refine z_get C hK (pW_lt (by omega)) (kC_W k) rfl inAX3 (k := 0) (by decide) aw_120 rfl dX4_depth_47 (pc' := 50) rfl ?_
        refine z_iload_n C dX4_depth_50 (pc' := 51) rfl rfl rfl ?_
        refine z_iload_n C dX4_depth_51 (pc' := 52) rfl rfl rfl ?_
        refine z_iast C hK hI AdS_in (pD_lt (by omega)) (kC_D k) (sC_D k _ _) (cellC_upD (by omega)) (t0 := 0) rfl (j := j) rfl (by omega) (by decide) dX4_depth_52 (pc' := 53) rfl ?_
        refine z_iload C dX4_depth_53 (pc' := 55) rfl rfl ?_
        exact z_iret C hM dX4_depth_55 (by have ek := wn_nI (k := k) (by omega); have wk := isW_nI hk; have ej := wn_nI (k := j) (by omega); have wj := inR_nI (n := 4) hj (by omega); simp [f_depth, g_depth, ek, wk, ej, wj, *])
      ·
        refine z_if_ne (tgt := 28) C dX4_depth_23 (pc' := 26) (by decide) rfl (fun q => absurd q (by decide)) (fun _ => ?_)
        refine z_iconst C dX4_depth_26 (pc' := 27) rfl (v := (-1)) (by decide) ?_
        exact z_iret C hM dX4_depth_27 (by simp [f_depth, g_depth, *])
    ·
      refine z_if_eq (tgt := 26) C dX4_depth_13 (pc' := 16) (by decide) rfl (fun _ => ?_) (fun q => absurd q (by decide))
      refine z_iconst C dX4_depth_26 (pc' := 27) rfl (v := (-1)) (by decide) ?_
      exact z_iret C hM dX4_depth_27 (by simp [f_depth, g_depth, *])
  ·
    refine z_if_eq (tgt := 26) C dX4_depth_4 (pc' := 7) (by decide) rfl (fun _ => ?_) (fun q => absurd q (by decide))
    refine z_iconst C dX4_depth_26 (pc' := 27) rfl (v := (-1)) (by decide) ?_
    exact z_iret C hM dX4_depth_27 (by simp [f_depth, g_depth, *])
set_option maxRecDepth 100000 in
set_option maxHeartbeats 400000 in
theorem m_X5_depth (l : Launch) {cA : ClassId} {D : va_G} {ad : Nat → Nat} (hI : Inj 17 ad) (σ : St) (w i v : Int32) : CI l yX5_depth cX5_depth 5 .int 2 42 D [(cA, .int)] 17 ad (cellR cA ad) σ [.ref (ad 0), .int w, .int i, .int v] (fun r u => r = f_depth σ w i v ∧ u = g_depth σ w i v) := by
  refine CI_of (by decide +kernel) (Nat.le_of_ble_eq_true rfl) (by simp [Value.category]) ?_
  intro p e s m below meth c C hM hK
  refine z_aload_n C dX5_depth_0 (pc' := 1) rfl rfl rfl ?_
  refine z_iconst C dX5_depth_1 (pc' := 2) rfl (v := 0) (by decide) ?_
  refine z_put C hK hI AdS_in (by decide) kR_0 sR_th oR_th rfl inAX5 tyX5_ok nmX5 (k := 0) (by decide) aw_452 rfl (ty := .int) (by decide +kernel) rfl rfl (Nat.le_of_ble_eq_true rfl) dX5_depth_2 (pc' := 5) rfl ?_
  refine z_iload_n C dX5_depth_5 (pc' := 6) rfl rfl rfl ?_
  refine z_callS C (m_X5_isWheel l _) stabP aw_526 aw_527 aw_32 aw_528 (nA := 1) (by decide +kernel) rfl ⟨Nat.le_of_ble_eq_true rfl, Nat.le_of_ble_eq_true rfl⟩ (rest := []) rfl (Nat.le_of_ble_eq_true rfl) ⟨Nat.zero_le _, Nat.zero_le _⟩ dX5_depth_6 (pc' := 9) rfl (fun r_6 h_6 => ?_)
  rcases h_6 with ⟨rfl, h_6⟩ | ⟨rfl, h_6⟩
  ·
    obtain ⟨k, hk, rfl⟩ := isW_of h_6
    refine z_if_eq (tgt := 31) C dX5_depth_9 (pc' := 12) (by decide) rfl (fun q => absurd q (by decide)) (fun _ => ?_)
    refine z_iload_n C dX5_depth_12 (pc' := 13) rfl rfl rfl ?_
    refine z_iconst C dX5_depth_13 (pc' := 14) rfl (v := 0) (by decide) ?_
    refine z_iconst C dX5_depth_14 (pc' := 15) rfl (v := 4) (by decide) ?_
    refine z_callS C (m_X5_in l _ _ _) stabP aw_529 aw_530 aw_32 aw_531 (nA := 3) (by decide +kernel) rfl ⟨Nat.le_of_ble_eq_true rfl, Nat.le_of_ble_eq_true rfl⟩ (rest := []) rfl (Nat.le_of_ble_eq_true rfl) ⟨Nat.zero_le _, Nat.zero_le _⟩ dX5_depth_15 (pc' := 18) rfl (fun r_15 h_15 => ?_)
    rcases h_15 with ⟨rfl, h_15⟩ | ⟨rfl, h_15⟩
    ·
      obtain ⟨j, hj, rfl⟩ := inR_of (n := 4) (by omega) h_15
      refine z_if_eq (tgt := 31) C dX5_depth_18 (pc' := 21) (by decide) rfl (fun q => absurd q (by decide)) (fun _ => ?_)
      refine z_iload_n C dX5_depth_21 (pc' := 22) rfl rfl rfl ?_
      refine z_iconst C dX5_depth_22 (pc' := 23) rfl (v := 0) (by decide) ?_
      refine z_bipush C dX5_depth_23 (pc' := 25) rfl (v := 99) (by decide) ?_
      refine z_callS C (m_X5_in l _ _ _) stabP aw_529 aw_530 aw_32 aw_531 (nA := 3) (by decide +kernel) rfl ⟨Nat.le_of_ble_eq_true rfl, Nat.le_of_ble_eq_true rfl⟩ (rest := []) rfl (Nat.le_of_ble_eq_true rfl) ⟨Nat.zero_le _, Nat.zero_le _⟩ dX5_depth_25 (pc' := 28) rfl (fun r_25 h_25 => ?_)
      rcases h_25 with ⟨rfl, h_25⟩ | ⟨rfl, h_25⟩
      ·
        refine z_if_ne (tgt := 33) C dX5_depth_28 (pc' := 31) (by decide) rfl (fun _ => ?_) (fun q => absurd q (by decide))
        refine z_aload_n C dX5_depth_33 (pc' := 34) rfl rfl rfl ?_
        refine z_get C hK (by decide) kR_0 rfl inAX5 (k := 3) (by decide) aw_455 rfl dX5_depth_34 (pc' := 37) rfl ?_
        refine z_iconst C dX5_depth_37 (pc' := 38) rfl (v := 5) (by decide) ?_
        refine z_iload_n C dX5_depth_38 (pc' := 39) rfl rfl rfl ?_
        refine z_imul C dX5_depth_39 (pc' := 40) rfl (pk_mul (5) (k)) ?_
        refine z_iload_n C dX5_depth_40 (pc' := 41) rfl rfl rfl ?_
        refine z_iadd C dX5_depth_41 (pc' := 42) rfl (nI_add ((5 * k)) (j)) ?_
        refine z_iald C hK (by decide) kR_2 (t0 := 0) rfl (j := ((5 * k) + j)) rfl (by omega) (by decide) (rDB _ (by omega)) dX5_depth_42 (pc' := 43) rfl ?_
        refine z_istore (L' := [.ref _, .int _, .int _, .int _, .int _]) C dX5_depth_43 (pc' := 45) rfl (by decide) (Nat.le_of_ble_eq_true rfl) rfl ?_
        refine z_aload_n C dX5_depth_45 (pc' := 46) rfl rfl rfl ?_
        refine z_get C hK (by decide) kR_0 rfl inAX5 (k := 3) (by decide) aw_455 rfl dX5_depth_46 (pc' := 49) rfl ?_
        refine z_iconst C dX5_depth_49 (pc' := 50) rfl (v := 5) (by decide) ?_
        refine z_iload_n C dX5_depth_50 (pc' := 51) rfl rfl rfl ?_
        refine z_imul C dX5_depth_51 (pc' := 52) rfl (pk_mul (5) (k)) ?_
        refine z_iload_n C dX5_depth_52 (pc' := 53) rfl rfl rfl ?_
        refine z_iadd C dX5_depth_53 (pc' := 54) rfl (nI_add ((5 * k)) (j)) ?_
        refine z_iload_n C dX5_depth_54 (pc' := 55) rfl rfl rfl ?_
        refine z_iast C hK hI AdS_in (by decide) kR_2 (kR_D (by omega)) (cellR_upD (by omega)) (t0 := 0) rfl (j := ((5 * k) + j)) rfl (by omega) (by decide) dX5_depth_55 (pc' := 56) rfl ?_
        refine z_iload C dX5_depth_56 (pc' := 58) rfl rfl ?_
        exact z_iret C hM dX5_depth_58 (by have ek := wn_nI (k := k) (by omega); have wk := isW_nI hk; have ej := wn_nI (k := j) (by omega); have wj := inR_nI (n := 4) hj (by omega); simp [f_depth, g_depth, ek, wk, ej, wj, *])
      ·
        refine z_if_ne (tgt := 33) C dX5_depth_28 (pc' := 31) (by decide) rfl (fun q => absurd q (by decide)) (fun _ => ?_)
        refine z_iconst C dX5_depth_31 (pc' := 32) rfl (v := (-1)) (by decide) ?_
        exact z_iret C hM dX5_depth_32 (by simp [f_depth, g_depth, *])
    ·
      refine z_if_eq (tgt := 31) C dX5_depth_18 (pc' := 21) (by decide) rfl (fun _ => ?_) (fun q => absurd q (by decide))
      refine z_iconst C dX5_depth_31 (pc' := 32) rfl (v := (-1)) (by decide) ?_
      exact z_iret C hM dX5_depth_32 (by simp [f_depth, g_depth, *])
  ·
    refine z_if_eq (tgt := 31) C dX5_depth_9 (pc' := 12) (by decide) rfl (fun _ => ?_) (fun q => absurd q (by decide))
    refine z_iconst C dX5_depth_31 (pc' := 32) rfl (v := (-1)) (by decide) ?_
    exact z_iret C hM dX5_depth_32 (by simp [f_depth, g_depth, *])
set_option maxRecDepth 100000 in
set_option maxHeartbeats 400000 in
theorem m_X4_thinning (l : Launch) {cA cB : ClassId} {D : va_G} {ad : Nat → Nat} (hI : Inj 67 ad) (σ : St) (v : Int32) : CI l yX4_thinning cX4_thinning 3 .int 1 22 D [(cA, .int), (cB, .object RX3)] 67 ad (cellC cA cB ad) σ [.ref (ad 0), .int v] (fun r u => r = f_thinning σ v ∧ u = g_thinning σ v) := by
  refine CI_of (by decide +kernel) (Nat.le_of_ble_eq_true rfl) (by simp [Value.category]) ?_
  intro p e s m below meth c C hM hK
  refine z_iload_n C dX4_thinning_0 (pc' := 1) rfl rfl rfl ?_
  refine z_iconst C dX4_thinning_1 (pc' := 2) rfl (v := 0) (by decide) ?_
  refine z_bipush C dX4_thinning_2 (pc' := 4) rfl (v := 30) (by decide) ?_
  refine z_callS C (m_X4_within l _ _ _) stabP aw_180 aw_181 aw_27 aw_182 (nA := 3) (by decide +kernel) rfl ⟨Nat.le_of_ble_eq_true rfl, Nat.le_of_ble_eq_true rfl⟩ (rest := []) rfl (Nat.le_of_ble_eq_true rfl) ⟨Nat.zero_le _, Nat.zero_le _⟩ dX4_thinning_4 (pc' := 7) rfl (fun r_4 h_4 => ?_)
  rcases h_4 with ⟨rfl, h_4⟩ | ⟨rfl, h_4⟩
  ·
    refine z_if_ne (tgt := 12) C dX4_thinning_7 (pc' := 10) (by decide) rfl (fun _ => ?_) (fun q => absurd q (by decide))
    refine z_aload_n C dX4_thinning_12 (pc' := 13) rfl rfl rfl ?_
    refine z_get C hK (by decide) kC_0 rfl inAX4 (k := 5) (by decide) aw_150 rfl dX4_thinning_13 (pc' := 16) rfl ?_
    refine z_istore_n (L' := [.ref _, .int _, .int _]) C dX4_thinning_16 (pc' := 17) rfl rfl (by decide) (Nat.le_of_ble_eq_true rfl) rfl ?_
    refine z_aload_n C dX4_thinning_17 (pc' := 18) rfl rfl rfl ?_
    refine z_iload_n C dX4_thinning_18 (pc' := 19) rfl rfl rfl ?_
    refine z_put C hK hI AdS_in (by decide) kC_0 sC_00 oC_00 rfl inAX4 tyX4_ok nmX4 (k := 5) (by decide) aw_150 rfl (ty := .int) (by decide +kernel) rfl rfl (Nat.le_of_ble_eq_true rfl) dX4_thinning_19 (pc' := 22) rfl ?_
    refine z_iload_n C dX4_thinning_22 (pc' := 23) rfl rfl rfl ?_
    exact z_iret C hM dX4_thinning_23 (by simp [f_thinning, g_thinning, *])
  ·
    refine z_if_ne (tgt := 12) C dX4_thinning_7 (pc' := 10) (by decide) rfl (fun q => absurd q (by decide)) (fun _ => ?_)
    refine z_iconst C dX4_thinning_10 (pc' := 11) rfl (v := (-1)) (by decide) ?_
    exact z_iret C hM dX4_thinning_11 (by simp [f_thinning, g_thinning, *])
set_option maxRecDepth 100000 in
set_option maxHeartbeats 400000 in
theorem m_X5_thinning (l : Launch) {cA : ClassId} {D : va_G} {ad : Nat → Nat} (hI : Inj 17 ad) (σ : St) (v : Int32) : CI l yX5_thinning cX5_thinning 3 .int 1 22 D [(cA, .int)] 17 ad (cellR cA ad) σ [.ref (ad 0), .int v] (fun r u => r = f_thinning σ v ∧ u = g_thinning σ v) := by
  refine CI_of (by decide +kernel) (Nat.le_of_ble_eq_true rfl) (by simp [Value.category]) ?_
  intro p e s m below meth c C hM hK
  refine z_aload_n C dX5_thinning_0 (pc' := 1) rfl rfl rfl ?_
  refine z_iconst C dX5_thinning_1 (pc' := 2) rfl (v := 0) (by decide) ?_
  refine z_put C hK hI AdS_in (by decide) kR_0 sR_th oR_th rfl inAX5 tyX5_ok nmX5 (k := 0) (by decide) aw_452 rfl (ty := .int) (by decide +kernel) rfl rfl (Nat.le_of_ble_eq_true rfl) dX5_thinning_2 (pc' := 5) rfl ?_
  refine z_iload_n C dX5_thinning_5 (pc' := 6) rfl rfl rfl ?_
  refine z_iconst C dX5_thinning_6 (pc' := 7) rfl (v := 0) (by decide) ?_
  refine z_bipush C dX5_thinning_7 (pc' := 9) rfl (v := 30) (by decide) ?_
  refine z_callS C (m_X5_in l _ _ _) stabP aw_529 aw_530 aw_32 aw_531 (nA := 3) (by decide +kernel) rfl ⟨Nat.le_of_ble_eq_true rfl, Nat.le_of_ble_eq_true rfl⟩ (rest := []) rfl (Nat.le_of_ble_eq_true rfl) ⟨Nat.zero_le _, Nat.zero_le _⟩ dX5_thinning_9 (pc' := 12) rfl (fun r_9 h_9 => ?_)
  rcases h_9 with ⟨rfl, h_9⟩ | ⟨rfl, h_9⟩
  ·
    refine z_if_ne (tgt := 17) C dX5_thinning_12 (pc' := 15) (by decide) rfl (fun _ => ?_) (fun q => absurd q (by decide))
    refine z_aload_n C dX5_thinning_17 (pc' := 18) rfl rfl rfl ?_
    refine z_get C hK (by decide) kR_0 rfl inAX5 (k := 6) (by decide) aw_458 rfl dX5_thinning_18 (pc' := 21) rfl ?_
    refine z_istore_n (L' := [.ref _, .int _, .int _]) C dX5_thinning_21 (pc' := 22) rfl rfl (by decide) (Nat.le_of_ble_eq_true rfl) rfl ?_
    refine z_aload_n C dX5_thinning_22 (pc' := 23) rfl rfl rfl ?_
    refine z_iload_n C dX5_thinning_23 (pc' := 24) rfl rfl rfl ?_
    refine z_put C hK hI AdS_in (by decide) kR_0 sR_00 oR_00 rfl inAX5 tyX5_ok nmX5 (k := 6) (by decide) aw_458 rfl (ty := .int) (by decide +kernel) rfl rfl (Nat.le_of_ble_eq_true rfl) dX5_thinning_24 (pc' := 27) rfl ?_
    refine z_iload_n C dX5_thinning_27 (pc' := 28) rfl rfl rfl ?_
    exact z_iret C hM dX5_thinning_28 (by simp [f_thinning, g_thinning, *])
  ·
    refine z_if_ne (tgt := 17) C dX5_thinning_12 (pc' := 15) (by decide) rfl (fun q => absurd q (by decide)) (fun _ => ?_)
    refine z_iconst C dX5_thinning_15 (pc' := 16) rfl (v := (-1)) (by decide) ?_
    exact z_iret C hM dX5_thinning_16 (by simp [f_thinning, g_thinning, *])
set_option maxRecDepth 100000 in
set_option maxHeartbeats 400000 in
theorem m_X4_bar (l : Launch) {cA cB : ClassId} {D : va_G} {ad : Nat → Nat} (hI : Inj 67 ad) (σ : St) (v : Int32) : CI l yX4_bar cX4_bar 3 .int 1 22 D [(cA, .int), (cB, .object RX3)] 67 ad (cellC cA cB ad) σ [.ref (ad 0), .int v] (fun r u => r = f_bar σ v ∧ u = g_bar σ v) := by
  refine CI_of (by decide +kernel) (Nat.le_of_ble_eq_true rfl) (by simp [Value.category]) ?_
  intro p e s m below meth c C hM hK
  refine z_iload_n C dX4_bar_0 (pc' := 1) rfl rfl rfl ?_
  refine z_iconst C dX4_bar_1 (pc' := 2) rfl (v := 0) (by decide) ?_
  refine z_sipush C dX4_bar_2 (pc' := 5) rfl (v := 999) (by decide) ?_
  refine z_callS C (m_X4_within l _ _ _) stabP aw_180 aw_181 aw_27 aw_182 (nA := 3) (by decide +kernel) rfl ⟨Nat.le_of_ble_eq_true rfl, Nat.le_of_ble_eq_true rfl⟩ (rest := []) rfl (Nat.le_of_ble_eq_true rfl) ⟨Nat.zero_le _, Nat.zero_le _⟩ dX4_bar_5 (pc' := 8) rfl (fun r_5 h_5 => ?_)
  rcases h_5 with ⟨rfl, h_5⟩ | ⟨rfl, h_5⟩
  ·
    refine z_if_ne (tgt := 13) C dX4_bar_8 (pc' := 11) (by decide) rfl (fun _ => ?_) (fun q => absurd q (by decide))
    refine z_aload_n C dX4_bar_13 (pc' := 14) rfl rfl rfl ?_
    refine z_get C hK (by decide) kC_0 rfl inAX4 (k := 6) (by decide) aw_151 rfl dX4_bar_14 (pc' := 17) rfl ?_
    refine z_istore_n (L' := [.ref _, .int _, .int _]) C dX4_bar_17 (pc' := 18) rfl rfl (by decide) (Nat.le_of_ble_eq_true rfl) rfl ?_
    refine z_aload_n C dX4_bar_18 (pc' := 19) rfl rfl rfl ?_
    refine z_iload_n C dX4_bar_19 (pc' := 20) rfl rfl rfl ?_
    refine z_put C hK hI AdS_in (by decide) kC_0 sC_01 oC_01 rfl inAX4 tyX4_ok nmX4 (k := 6) (by decide) aw_151 rfl (ty := .int) (by decide +kernel) rfl rfl (Nat.le_of_ble_eq_true rfl) dX4_bar_20 (pc' := 23) rfl ?_
    refine z_iload_n C dX4_bar_23 (pc' := 24) rfl rfl rfl ?_
    exact z_iret C hM dX4_bar_24 (by simp [f_bar, g_bar, *])
  ·
    refine z_if_ne (tgt := 13) C dX4_bar_8 (pc' := 11) (by decide) rfl (fun q => absurd q (by decide)) (fun _ => ?_)
    refine z_iconst C dX4_bar_11 (pc' := 12) rfl (v := (-1)) (by decide) ?_
    exact z_iret C hM dX4_bar_12 (by simp [f_bar, g_bar, *])
set_option maxRecDepth 100000 in
set_option maxHeartbeats 400000 in
theorem m_X5_bar (l : Launch) {cA : ClassId} {D : va_G} {ad : Nat → Nat} (hI : Inj 17 ad) (σ : St) (v : Int32) : CI l yX5_bar cX5_bar 3 .int 1 22 D [(cA, .int)] 17 ad (cellR cA ad) σ [.ref (ad 0), .int v] (fun r u => r = f_bar σ v ∧ u = g_bar σ v) := by
  refine CI_of (by decide +kernel) (Nat.le_of_ble_eq_true rfl) (by simp [Value.category]) ?_
  intro p e s m below meth c C hM hK
  refine z_aload_n C dX5_bar_0 (pc' := 1) rfl rfl rfl ?_
  refine z_iconst C dX5_bar_1 (pc' := 2) rfl (v := 0) (by decide) ?_
  refine z_put C hK hI AdS_in (by decide) kR_0 sR_th oR_th rfl inAX5 tyX5_ok nmX5 (k := 0) (by decide) aw_452 rfl (ty := .int) (by decide +kernel) rfl rfl (Nat.le_of_ble_eq_true rfl) dX5_bar_2 (pc' := 5) rfl ?_
  refine z_iload_n C dX5_bar_5 (pc' := 6) rfl rfl rfl ?_
  refine z_iconst C dX5_bar_6 (pc' := 7) rfl (v := 0) (by decide) ?_
  refine z_sipush C dX5_bar_7 (pc' := 10) rfl (v := 999) (by decide) ?_
  refine z_callS C (m_X5_in l _ _ _) stabP aw_529 aw_530 aw_32 aw_531 (nA := 3) (by decide +kernel) rfl ⟨Nat.le_of_ble_eq_true rfl, Nat.le_of_ble_eq_true rfl⟩ (rest := []) rfl (Nat.le_of_ble_eq_true rfl) ⟨Nat.zero_le _, Nat.zero_le _⟩ dX5_bar_10 (pc' := 13) rfl (fun r_10 h_10 => ?_)
  rcases h_10 with ⟨rfl, h_10⟩ | ⟨rfl, h_10⟩
  ·
    refine z_if_ne (tgt := 18) C dX5_bar_13 (pc' := 16) (by decide) rfl (fun _ => ?_) (fun q => absurd q (by decide))
    refine z_aload_n C dX5_bar_18 (pc' := 19) rfl rfl rfl ?_
    refine z_get C hK (by decide) kR_0 rfl inAX5 (k := 22) (by decide) aw_474 rfl dX5_bar_19 (pc' := 22) rfl ?_
    refine z_istore_n (L' := [.ref _, .int _, .int _]) C dX5_bar_22 (pc' := 23) rfl rfl (by decide) (Nat.le_of_ble_eq_true rfl) rfl ?_
    refine z_aload_n C dX5_bar_23 (pc' := 24) rfl rfl rfl ?_
    refine z_iload_n C dX5_bar_24 (pc' := 25) rfl rfl rfl ?_
    refine z_put C hK hI AdS_in (by decide) kR_0 sR_01 oR_01 rfl inAX5 tyX5_ok nmX5 (k := 22) (by decide) aw_474 rfl (ty := .int) (by decide +kernel) rfl rfl (Nat.le_of_ble_eq_true rfl) dX5_bar_25 (pc' := 28) rfl ?_
    refine z_iload_n C dX5_bar_28 (pc' := 29) rfl rfl rfl ?_
    exact z_iret C hM dX5_bar_29 (by simp [f_bar, g_bar, *])
  ·
    refine z_if_ne (tgt := 18) C dX5_bar_13 (pc' := 16) (by decide) rfl (fun q => absurd q (by decide)) (fun _ => ?_)
    refine z_iconst C dX5_bar_16 (pc' := 17) rfl (v := (-1)) (by decide) ?_
    exact z_iret C hM dX5_bar_17 (by simp [f_bar, g_bar, *])
set_option maxRecDepth 100000 in
set_option maxHeartbeats 400000 in
theorem m_X4_law (l : Launch) {cA cB : ClassId} {D : va_G} {ad : Nat → Nat} (hI : Inj 67 ad) (σ : St) (w v : Int32) : CI l yX4_law cX4_law 4 .int 1 22 D [(cA, .int), (cB, .object RX3)] 67 ad (cellC cA cB ad) σ [.ref (ad 0), .int w, .int v] (fun r u => r = f_law σ w v ∧ u = g_law σ w v) := by
  refine CI_of (by decide +kernel) (Nat.le_of_ble_eq_true rfl) (by simp [Value.category]) ?_
  intro p e s m below meth c C hM hK
  refine z_iload_n C dX4_law_0 (pc' := 1) rfl rfl rfl ?_
  refine z_iconst C dX4_law_1 (pc' := 2) rfl (v := 0) (by decide) ?_
  refine z_iconst C dX4_law_2 (pc' := 3) rfl (v := 3) (by decide) ?_
  refine z_callS C (m_X4_within l _ _ _) stabP aw_180 aw_181 aw_27 aw_182 (nA := 3) (by decide +kernel) rfl ⟨Nat.le_of_ble_eq_true rfl, Nat.le_of_ble_eq_true rfl⟩ (rest := []) rfl (Nat.le_of_ble_eq_true rfl) ⟨Nat.zero_le _, Nat.zero_le _⟩ dX4_law_3 (pc' := 6) rfl (fun r_3 h_3 => ?_)
  rcases h_3 with ⟨rfl, h_3⟩ | ⟨rfl, h_3⟩
  ·
    obtain ⟨j, hj, rfl⟩ := inR_of (n := 3) (by omega) h_3
    refine z_if_eq (tgt := 20) C dX4_law_6 (pc' := 9) (by decide) rfl (fun q => absurd q (by decide)) (fun _ => ?_)
    refine z_iload_n C dX4_law_9 (pc' := 10) rfl rfl rfl ?_
    refine z_iconst C dX4_law_10 (pc' := 11) rfl (v := 0) (by decide) ?_
    refine z_sipush C dX4_law_11 (pc' := 14) rfl (v := 4000) (by decide) ?_
    refine z_callS C (m_X4_within l _ _ _) stabP aw_180 aw_181 aw_27 aw_182 (nA := 3) (by decide +kernel) rfl ⟨Nat.le_of_ble_eq_true rfl, Nat.le_of_ble_eq_true rfl⟩ (rest := []) rfl (Nat.le_of_ble_eq_true rfl) ⟨Nat.zero_le _, Nat.zero_le _⟩ dX4_law_14 (pc' := 17) rfl (fun r_14 h_14 => ?_)
    rcases h_14 with ⟨rfl, h_14⟩ | ⟨rfl, h_14⟩
    ·
      refine z_if_ne (tgt := 22) C dX4_law_17 (pc' := 20) (by decide) rfl (fun _ => ?_) (fun q => absurd q (by decide))
      refine z_aload_n C dX4_law_22 (pc' := 23) rfl rfl rfl ?_
      refine z_get C hK (by decide) kC_0 rfl inAX4 (k := 1) (by decide) aw_146 rfl dX4_law_23 (pc' := 26) rfl ?_
      refine z_get C hK (by decide) kC_3 rfl inAX0 (k := 0) (by decide) aw_51 rfl dX4_law_26 (pc' := 29) rfl ?_
      refine z_iload_n C dX4_law_29 (pc' := 30) rfl rfl rfl ?_
      refine z_iald C hK (by decide) kC_4 (t0 := 0) rfl (j := j) rfl (by omega) (by decide) rfl dX4_law_30 (pc' := 31) rfl ?_
      refine z_istore_n (L' := [.ref _, .int _, .int _, .int _]) C dX4_law_31 (pc' := 32) rfl rfl (by decide) (Nat.le_of_ble_eq_true rfl) rfl ?_
      refine z_aload_n C dX4_law_32 (pc' := 33) rfl rfl rfl ?_
      refine z_get C hK (by decide) kC_0 rfl inAX4 (k := 1) (by decide) aw_146 rfl dX4_law_33 (pc' := 36) rfl ?_
      refine z_get C hK (by decide) kC_3 rfl inAX0 (k := 0) (by decide) aw_51 rfl dX4_law_36 (pc' := 39) rfl ?_
      refine z_iload_n C dX4_law_39 (pc' := 40) rfl rfl rfl ?_
      refine z_iload_n C dX4_law_40 (pc' := 41) rfl rfl rfl ?_
      refine z_iast C hK hI AdS_in (by decide) kC_4 sC_a4 oC_a4 (t0 := 0) rfl (j := j) rfl (by omega) (by decide) dX4_law_41 (pc' := 42) rfl ?_
      refine z_iload_n C dX4_law_42 (pc' := 43) rfl rfl rfl ?_
      exact z_iret C hM dX4_law_43 (by have ej := wn_nI (k := j) (by omega); have wj := inR_nI (n := 3) hj (by omega); simp [f_law, g_law, ej, wj, *])
    ·
      refine z_if_ne (tgt := 22) C dX4_law_17 (pc' := 20) (by decide) rfl (fun q => absurd q (by decide)) (fun _ => ?_)
      refine z_iconst C dX4_law_20 (pc' := 21) rfl (v := (-1)) (by decide) ?_
      exact z_iret C hM dX4_law_21 (by simp [f_law, g_law, *])
  ·
    refine z_if_eq (tgt := 20) C dX4_law_6 (pc' := 9) (by decide) rfl (fun _ => ?_) (fun q => absurd q (by decide))
    refine z_iconst C dX4_law_20 (pc' := 21) rfl (v := (-1)) (by decide) ?_
    exact z_iret C hM dX4_law_21 (by simp [f_law, g_law, *])
set_option maxRecDepth 100000 in
set_option maxHeartbeats 400000 in
theorem m_X5_law (l : Launch) {cA : ClassId} {D : va_G} {ad : Nat → Nat} (hI : Inj 17 ad) (σ : St) (w v : Int32) : CI l yX5_law cX5_law 4 .int 1 22 D [(cA, .int)] 17 ad (cellR cA ad) σ [.ref (ad 0), .int w, .int v] (fun r u => r = f_law σ w v ∧ u = g_law σ w v) := by
  refine CI_of (by decide +kernel) (Nat.le_of_ble_eq_true rfl) (by simp [Value.category]) ?_
  intro p e s m below meth c C hM hK
  refine z_aload_n C dX5_law_0 (pc' := 1) rfl rfl rfl ?_
  refine z_iconst C dX5_law_1 (pc' := 2) rfl (v := 0) (by decide) ?_
  refine z_put C hK hI AdS_in (by decide) kR_0 sR_th oR_th rfl inAX5 tyX5_ok nmX5 (k := 0) (by decide) aw_452 rfl (ty := .int) (by decide +kernel) rfl rfl (Nat.le_of_ble_eq_true rfl) dX5_law_2 (pc' := 5) rfl ?_
  refine z_iload_n C dX5_law_5 (pc' := 6) rfl rfl rfl ?_
  refine z_iconst C dX5_law_6 (pc' := 7) rfl (v := 0) (by decide) ?_
  refine z_iconst C dX5_law_7 (pc' := 8) rfl (v := 3) (by decide) ?_
  refine z_callS C (m_X5_in l _ _ _) stabP aw_529 aw_530 aw_32 aw_531 (nA := 3) (by decide +kernel) rfl ⟨Nat.le_of_ble_eq_true rfl, Nat.le_of_ble_eq_true rfl⟩ (rest := []) rfl (Nat.le_of_ble_eq_true rfl) ⟨Nat.zero_le _, Nat.zero_le _⟩ dX5_law_8 (pc' := 11) rfl (fun r_8 h_8 => ?_)
  rcases h_8 with ⟨rfl, h_8⟩ | ⟨rfl, h_8⟩
  ·
    obtain ⟨j, hj, rfl⟩ := inR_of (n := 3) (by omega) h_8
    refine z_if_eq (tgt := 25) C dX5_law_11 (pc' := 14) (by decide) rfl (fun q => absurd q (by decide)) (fun _ => ?_)
    refine z_iload_n C dX5_law_14 (pc' := 15) rfl rfl rfl ?_
    refine z_iconst C dX5_law_15 (pc' := 16) rfl (v := 0) (by decide) ?_
    refine z_sipush C dX5_law_16 (pc' := 19) rfl (v := 4000) (by decide) ?_
    refine z_callS C (m_X5_in l _ _ _) stabP aw_529 aw_530 aw_32 aw_531 (nA := 3) (by decide +kernel) rfl ⟨Nat.le_of_ble_eq_true rfl, Nat.le_of_ble_eq_true rfl⟩ (rest := []) rfl (Nat.le_of_ble_eq_true rfl) ⟨Nat.zero_le _, Nat.zero_le _⟩ dX5_law_19 (pc' := 22) rfl (fun r_19 h_19 => ?_)
    rcases h_19 with ⟨rfl, h_19⟩ | ⟨rfl, h_19⟩
    ·
      refine z_if_ne (tgt := 27) C dX5_law_22 (pc' := 25) (by decide) rfl (fun _ => ?_) (fun q => absurd q (by decide))
      refine z_aload_n C dX5_law_27 (pc' := 28) rfl rfl rfl ?_
      refine z_get C hK (by decide) kR_0 rfl inAX5 (k := 8) (by decide) aw_460 rfl dX5_law_28 (pc' := 31) rfl ?_
      refine z_iload_n C dX5_law_31 (pc' := 32) rfl rfl rfl ?_
      refine z_iald C hK (by decide) kR_5 (t0 := 0) rfl (j := j) rfl (by omega) (by decide) rfl dX5_law_32 (pc' := 33) rfl ?_
      refine z_istore_n (L' := [.ref _, .int _, .int _, .int _]) C dX5_law_33 (pc' := 34) rfl rfl (by decide) (Nat.le_of_ble_eq_true rfl) rfl ?_
      refine z_aload_n C dX5_law_34 (pc' := 35) rfl rfl rfl ?_
      refine z_get C hK (by decide) kR_0 rfl inAX5 (k := 8) (by decide) aw_460 rfl dX5_law_35 (pc' := 38) rfl ?_
      refine z_iload_n C dX5_law_38 (pc' := 39) rfl rfl rfl ?_
      refine z_iload_n C dX5_law_39 (pc' := 40) rfl rfl rfl ?_
      refine z_iast C hK hI AdS_in (by decide) kR_5 sR_a5 oR_a5 (t0 := 0) rfl (j := j) rfl (by omega) (by decide) dX5_law_40 (pc' := 41) rfl ?_
      refine z_iload_n C dX5_law_41 (pc' := 42) rfl rfl rfl ?_
      exact z_iret C hM dX5_law_42 (by have ej := wn_nI (k := j) (by omega); have wj := inR_nI (n := 3) hj (by omega); simp [f_law, g_law, ej, wj, *])
    ·
      refine z_if_ne (tgt := 27) C dX5_law_22 (pc' := 25) (by decide) rfl (fun q => absurd q (by decide)) (fun _ => ?_)
      refine z_iconst C dX5_law_25 (pc' := 26) rfl (v := (-1)) (by decide) ?_
      exact z_iret C hM dX5_law_26 (by simp [f_law, g_law, *])
  ·
    refine z_if_eq (tgt := 25) C dX5_law_11 (pc' := 14) (by decide) rfl (fun _ => ?_) (fun q => absurd q (by decide))
    refine z_iconst C dX5_law_25 (pc' := 26) rfl (v := (-1)) (by decide) ?_
    exact z_iret C hM dX5_law_26 (by simp [f_law, g_law, *])
set_option maxRecDepth 100000 in
set_option maxHeartbeats 400000 in
theorem m_X4_sell (l : Launch) {cA cB : ClassId} {D : va_G} {ad : Nat → Nat} (hI : Inj 67 ad) (σ : St)  : CI l yX4_sell cX4_sell 1 .int 0 0 D [(cA, .int), (cB, .object RX3)] 67 ad (cellC cA cB ad) σ [.ref (ad 0)] (fun r u => r = f_sell σ  ∧ u = g_sell σ ) := by
  refine CI_of (by decide +kernel) (Nat.le_of_ble_eq_true rfl) (by simp [Value.category]) ?_
  intro p e s m below meth c C hM hK
  refine z_aload_n C dX4_sell_0 (pc' := 1) rfl rfl rfl ?_
  refine z_get C hK (by decide) kC_0 rfl inAX4 (k := 2) (by decide) aw_147 rfl dX4_sell_1 (pc' := 4) rfl ?_
  refine z_get C hK (by decide) kC_5 rfl inAX2 (k := 0) (by decide) aw_63 rfl dX4_sell_4 (pc' := 7) rfl ?_
  refine z_if_ne (tgt := 13) C dX4_sell_7 (pc' := 10) (by decide) rfl (fun c_7 => ?_) (fun c_7 => ?_)
  ·
    refine z_aload_n C dX4_sell_13 (pc' := 14) rfl rfl rfl ?_
    refine z_get C hK (by decide) kC_0 rfl inAX4 (k := 2) (by decide) aw_147 rfl dX4_sell_14 (pc' := 17) rfl ?_
    refine z_dup C dX4_sell_17 (pc' := 18) rfl rfl ?_
    refine z_get C hK (by decide) kC_5 rfl inAX2 (k := 0) (by decide) aw_63 rfl dX4_sell_18 (pc' := 21) rfl ?_
    refine z_iconst C dX4_sell_21 (pc' := 22) rfl (v := 1) (by decide) ?_
    refine z_isub C dX4_sell_22 (pc' := 23) rfl rfl ?_
    refine z_put C hK hI AdS_in (by decide) kC_5 sC_04 oC_04 rfl inAX2 tyX2_ok nmX2 (k := 0) (by decide) aw_63 rfl (ty := .int) (by decide +kernel) rfl rfl (Nat.le_of_ble_eq_true rfl) dX4_sell_23 (pc' := 26) rfl ?_
    refine z_aload_n C dX4_sell_26 (pc' := 27) rfl rfl rfl ?_
    refine z_get C hK (by decide) kC_0 rfl inAX4 (k := 2) (by decide) aw_147 rfl dX4_sell_27 (pc' := 30) rfl ?_
    refine z_get C hK (by decide) kC_5 rfl inAX2 (k := 0) (by decide) aw_63 rfl dX4_sell_30 (pc' := 33) rfl ?_
    exact z_iret C hM dX4_sell_33 (by simp [f_sell, g_sell, up2, *])
  ·
    refine z_bipush C dX4_sell_10 (pc' := 12) rfl (v := (-2)) (by decide) ?_
    exact z_iret C hM dX4_sell_12 (by simp [f_sell, g_sell, *])
set_option maxRecDepth 100000 in
set_option maxHeartbeats 400000 in
theorem m_X5_sell (l : Launch) {cA : ClassId} {D : va_G} {ad : Nat → Nat} (hI : Inj 17 ad) (σ : St)  : CI l yX5_sell cX5_sell 1 .int 0 0 D [(cA, .int)] 17 ad (cellR cA ad) σ [.ref (ad 0)] (fun r u => r = f_sell σ  ∧ u = g_sell σ ) := by
  refine CI_of (by decide +kernel) (Nat.le_of_ble_eq_true rfl) (by simp [Value.category]) ?_
  intro p e s m below meth c C hM hK
  refine z_aload_n C dX5_sell_0 (pc' := 1) rfl rfl rfl ?_
  refine z_iconst C dX5_sell_1 (pc' := 2) rfl (v := 0) (by decide) ?_
  refine z_put C hK hI AdS_in (by decide) kR_0 sR_th oR_th rfl inAX5 tyX5_ok nmX5 (k := 0) (by decide) aw_452 rfl (ty := .int) (by decide +kernel) rfl rfl (Nat.le_of_ble_eq_true rfl) dX5_sell_2 (pc' := 5) rfl ?_
  refine z_aload_n C dX5_sell_5 (pc' := 6) rfl rfl rfl ?_
  refine z_get C hK (by decide) kR_0 rfl inAX5 (k := 10) (by decide) aw_462 rfl dX5_sell_6 (pc' := 9) rfl ?_
  refine z_if_ne (tgt := 15) C dX5_sell_9 (pc' := 12) (by decide) rfl (fun c_9 => ?_) (fun c_9 => ?_)
  ·
    refine z_aload_n C dX5_sell_15 (pc' := 16) rfl rfl rfl ?_
    refine z_dup C dX5_sell_16 (pc' := 17) rfl rfl ?_
    refine z_get C hK (by decide) kR_0 rfl inAX5 (k := 10) (by decide) aw_462 rfl dX5_sell_17 (pc' := 20) rfl ?_
    refine z_iconst C dX5_sell_20 (pc' := 21) rfl (v := 1) (by decide) ?_
    refine z_isub C dX5_sell_21 (pc' := 22) rfl rfl ?_
    refine z_put C hK hI AdS_in (by decide) kR_0 sR_04 oR_04 rfl inAX5 tyX5_ok nmX5 (k := 10) (by decide) aw_462 rfl (ty := .int) (by decide +kernel) rfl rfl (Nat.le_of_ble_eq_true rfl) dX5_sell_22 (pc' := 25) rfl ?_
    refine z_aload_n C dX5_sell_25 (pc' := 26) rfl rfl rfl ?_
    refine z_get C hK (by decide) kR_0 rfl inAX5 (k := 10) (by decide) aw_462 rfl dX5_sell_26 (pc' := 29) rfl ?_
    exact z_iret C hM dX5_sell_29 (by simp [f_sell, g_sell, up2, *])
  ·
    refine z_bipush C dX5_sell_12 (pc' := 14) rfl (v := (-2)) (by decide) ?_
    exact z_iret C hM dX5_sell_14 (by simp [f_sell, g_sell, *])
set_option maxRecDepth 100000 in
set_option maxHeartbeats 400000 in
theorem m_X4_forget (l : Launch) {cA cB : ClassId} {D : va_G} {ad : Nat → Nat} (hI : Inj 67 ad) (σ : St)  : CI l yX4_forget cX4_forget 1 .int 0 0 D [(cA, .int), (cB, .object RX3)] 67 ad (cellC cA cB ad) σ [.ref (ad 0)] (fun r u => r = f_forget σ  ∧ u = g_forget σ ) := by
  refine CI_of (by decide +kernel) (Nat.le_of_ble_eq_true rfl) (by simp [Value.category]) ?_
  intro p e s m below meth c C hM hK
  refine z_aload_n C dX4_forget_0 (pc' := 1) rfl rfl rfl ?_
  refine z_get C hK (by decide) kC_0 rfl inAX4 (k := 3) (by decide) aw_148 rfl dX4_forget_1 (pc' := 4) rfl ?_
  refine z_get C hK (by decide) kC_10 rfl inAX1 (k := 0) (by decide) aw_86 rfl dX4_forget_4 (pc' := 7) rfl ?_
  refine z_if_ne (tgt := 13) C dX4_forget_7 (pc' := 10) (by decide) rfl (fun c_7 => ?_) (fun c_7 => ?_)
  ·
    refine z_aload_n C dX4_forget_13 (pc' := 14) rfl rfl rfl ?_
    refine z_get C hK (by decide) kC_0 rfl inAX4 (k := 3) (by decide) aw_148 rfl dX4_forget_14 (pc' := 17) rfl ?_
    refine z_dup C dX4_forget_17 (pc' := 18) rfl rfl ?_
    refine z_get C hK (by decide) kC_10 rfl inAX1 (k := 0) (by decide) aw_86 rfl dX4_forget_18 (pc' := 21) rfl ?_
    refine z_iconst C dX4_forget_21 (pc' := 22) rfl (v := 1) (by decide) ?_
    refine z_isub C dX4_forget_22 (pc' := 23) rfl rfl ?_
    refine z_put C hK hI AdS_in (by decide) kC_10 sC_05 oC_05 rfl inAX1 tyX1_ok nmX1 (k := 0) (by decide) aw_86 rfl (ty := .int) (by decide +kernel) rfl rfl (Nat.le_of_ble_eq_true rfl) dX4_forget_23 (pc' := 26) rfl ?_
    refine z_aload_n C dX4_forget_26 (pc' := 27) rfl rfl rfl ?_
    refine z_get C hK (by decide) kC_0 rfl inAX4 (k := 3) (by decide) aw_148 rfl dX4_forget_27 (pc' := 30) rfl ?_
    refine z_get C hK (by decide) kC_10 rfl inAX1 (k := 0) (by decide) aw_86 rfl dX4_forget_30 (pc' := 33) rfl ?_
    exact z_iret C hM dX4_forget_33 (by simp [f_forget, g_forget, up2, *])
  ·
    refine z_bipush C dX4_forget_10 (pc' := 12) rfl (v := (-2)) (by decide) ?_
    exact z_iret C hM dX4_forget_12 (by simp [f_forget, g_forget, *])
set_option maxRecDepth 100000 in
set_option maxHeartbeats 400000 in
theorem m_X5_forget (l : Launch) {cA : ClassId} {D : va_G} {ad : Nat → Nat} (hI : Inj 17 ad) (σ : St)  : CI l yX5_forget cX5_forget 1 .int 0 0 D [(cA, .int)] 17 ad (cellR cA ad) σ [.ref (ad 0)] (fun r u => r = f_forget σ  ∧ u = g_forget σ ) := by
  refine CI_of (by decide +kernel) (Nat.le_of_ble_eq_true rfl) (by simp [Value.category]) ?_
  intro p e s m below meth c C hM hK
  refine z_aload_n C dX5_forget_0 (pc' := 1) rfl rfl rfl ?_
  refine z_iconst C dX5_forget_1 (pc' := 2) rfl (v := 0) (by decide) ?_
  refine z_put C hK hI AdS_in (by decide) kR_0 sR_th oR_th rfl inAX5 tyX5_ok nmX5 (k := 0) (by decide) aw_452 rfl (ty := .int) (by decide +kernel) rfl rfl (Nat.le_of_ble_eq_true rfl) dX5_forget_2 (pc' := 5) rfl ?_
  refine z_aload_n C dX5_forget_5 (pc' := 6) rfl rfl rfl ?_
  refine z_get C hK (by decide) kR_0 rfl inAX5 (k := 14) (by decide) aw_466 rfl dX5_forget_6 (pc' := 9) rfl ?_
  refine z_if_ne (tgt := 15) C dX5_forget_9 (pc' := 12) (by decide) rfl (fun c_9 => ?_) (fun c_9 => ?_)
  ·
    refine z_aload_n C dX5_forget_15 (pc' := 16) rfl rfl rfl ?_
    refine z_dup C dX5_forget_16 (pc' := 17) rfl rfl ?_
    refine z_get C hK (by decide) kR_0 rfl inAX5 (k := 14) (by decide) aw_466 rfl dX5_forget_17 (pc' := 20) rfl ?_
    refine z_iconst C dX5_forget_20 (pc' := 21) rfl (v := 1) (by decide) ?_
    refine z_isub C dX5_forget_21 (pc' := 22) rfl rfl ?_
    refine z_put C hK hI AdS_in (by decide) kR_0 sR_05 oR_05 rfl inAX5 tyX5_ok nmX5 (k := 14) (by decide) aw_466 rfl (ty := .int) (by decide +kernel) rfl rfl (Nat.le_of_ble_eq_true rfl) dX5_forget_22 (pc' := 25) rfl ?_
    refine z_aload_n C dX5_forget_25 (pc' := 26) rfl rfl rfl ?_
    refine z_get C hK (by decide) kR_0 rfl inAX5 (k := 14) (by decide) aw_466 rfl dX5_forget_26 (pc' := 29) rfl ?_
    exact z_iret C hM dX5_forget_29 (by simp [f_forget, g_forget, up2, *])
  ·
    refine z_bipush C dX5_forget_12 (pc' := 14) rfl (v := (-2)) (by decide) ?_
    exact z_iret C hM dX5_forget_14 (by simp [f_forget, g_forget, *])
set_option maxRecDepth 100000 in
set_option maxHeartbeats 400000 in
theorem m_X4_due (l : Launch) {cA cB : ClassId} {D : va_G} {ad : Nat → Nat} (hI : Inj 67 ad) (σ : St) (w : Int32) : CI l yX4_due cX4_due 2 .int 2 42 D [(cA, .int), (cB, .object RX3)] 67 ad (cellC cA cB ad) σ [.ref (ad 0), .int w] (fun r u => r = f_due σ w ∧ u = σ) := by
  refine CI_of (by decide +kernel) (Nat.le_of_ble_eq_true rfl) (by simp [Value.category]) ?_
  intro p e s m below meth c C hM hK
  refine z_iload_n C dX4_due_0 (pc' := 1) rfl rfl rfl ?_
  refine z_callS C (m_X4_isWheel l _) stabP aw_177 aw_178 aw_27 aw_179 (nA := 1) (by decide +kernel) rfl ⟨Nat.le_of_ble_eq_true rfl, Nat.le_of_ble_eq_true rfl⟩ (rest := []) rfl (Nat.le_of_ble_eq_true rfl) ⟨Nat.zero_le _, Nat.zero_le _⟩ dX4_due_1 (pc' := 4) rfl (fun r_1 h_1 => ?_)
  rcases h_1 with ⟨rfl, h_1⟩ | ⟨rfl, h_1⟩
  ·
    obtain ⟨k, hk, rfl⟩ := isW_of h_1
    refine z_if_ne (tgt := 10) C dX4_due_4 (pc' := 7) (by decide) rfl (fun _ => ?_) (fun q => absurd q (by decide))
    refine z_aload_n C dX4_due_10 (pc' := 11) rfl rfl rfl ?_
    refine z_get C hK (by decide) kC_0 rfl inAX4 (k := 0) (by decide) aw_145 rfl dX4_due_11 (pc' := 14) rfl ?_
    refine z_iload_n C dX4_due_14 (pc' := 15) rfl rfl rfl ?_
    refine z_aald C hK (by decide) kC_1 (t0 := 1) rfl (j := k) rfl (by omega) (by decide) rfl dX4_due_15 (pc' := 16) rfl ?_
    refine z_callI C hK (m_X3_milesLeft l hI _ (k := k) (by omega)) AdS_in aw_254 aw_255 aw_256 aw_31 aw_257 (pW_lt (by omega)) (kC_W k) rfl (nA := 0) (by decide +kernel) rfl ⟨Nat.le_of_ble_eq_true rfl, Nat.le_of_ble_eq_true rfl⟩ (rest := []) rfl (Nat.le_of_ble_eq_true rfl) ⟨Nat.zero_le _, Nat.zero_le _⟩ dX4_due_16 (pc' := 19) rfl (fun r_16 u_16 h_16 => ?_)
    obtain ⟨hr_16, hu_16⟩ := h_16
    rw [hr_16, hu_16]
    exact z_iret C hM dX4_due_19 (by have ek := wn_nI (k := k) (by omega); have wk := isW_nI hk; simp [f_due, ek, wk, *])
  ·
    refine z_if_ne (tgt := 10) C dX4_due_4 (pc' := 7) (by decide) rfl (fun q => absurd q (by decide)) (fun _ => ?_)
    refine z_ldc C dX4_due_7 (pc' := 9) rfl aw_399 ?_
    exact z_iret C hM dX4_due_9 (by simp [f_due, *])
set_option maxRecDepth 100000 in
set_option maxHeartbeats 400000 in
theorem m_X5_due (l : Launch) {cA : ClassId} {D : va_G} {ad : Nat → Nat} (hI : Inj 17 ad) (σ : St) (w : Int32) : CI l yX5_due cX5_due 2 .int 2 42 D [(cA, .int)] 17 ad (cellR cA ad) σ [.ref (ad 0), .int w] (fun r u => r = f_due σ w ∧ u = σ) := by
  refine CI_of (by decide +kernel) (Nat.le_of_ble_eq_true rfl) (by simp [Value.category]) ?_
  intro p e s m below meth c C hM hK
  refine z_aload_n C dX5_due_0 (pc' := 1) rfl rfl rfl ?_
  refine z_iconst C dX5_due_1 (pc' := 2) rfl (v := 0) (by decide) ?_
  refine z_put C hK hI AdS_in (by decide) kR_0 sR_th oR_th rfl inAX5 tyX5_ok nmX5 (k := 0) (by decide) aw_452 rfl (ty := .int) (by decide +kernel) rfl rfl (Nat.le_of_ble_eq_true rfl) dX5_due_2 (pc' := 5) rfl ?_
  refine z_iload_n C dX5_due_5 (pc' := 6) rfl rfl rfl ?_
  refine z_callS C (m_X5_isWheel l _) stabP aw_526 aw_527 aw_32 aw_528 (nA := 1) (by decide +kernel) rfl ⟨Nat.le_of_ble_eq_true rfl, Nat.le_of_ble_eq_true rfl⟩ (rest := []) rfl (Nat.le_of_ble_eq_true rfl) ⟨Nat.zero_le _, Nat.zero_le _⟩ dX5_due_6 (pc' := 9) rfl (fun r_6 h_6 => ?_)
  rcases h_6 with ⟨rfl, h_6⟩ | ⟨rfl, h_6⟩
  ·
    obtain ⟨k, hk, rfl⟩ := isW_of h_6
    refine z_if_eq (tgt := 25) C dX5_due_9 (pc' := 12) (by decide) rfl (fun q => absurd q (by decide)) (fun _ => ?_)
    refine z_sipush C dX5_due_12 (pc' := 15) rfl (v := 1000) (by decide) ?_
    refine z_aload_n C dX5_due_15 (pc' := 16) rfl rfl rfl ?_
    refine z_get C hK (by decide) kR_0 rfl inAX5 (k := 5) (by decide) aw_457 rfl dX5_due_16 (pc' := 19) rfl ?_
    refine z_iload_n C dX5_due_19 (pc' := 20) rfl rfl rfl ?_
    refine z_iald C hK (by decide) kR_4 (t0 := 0) rfl (j := k) rfl (by omega) (by decide) rfl dX5_due_20 (pc' := 21) rfl ?_
    refine z_isub C dX5_due_21 (pc' := 22) rfl rfl ?_
    refine z_goto C dX5_due_22 (pc' := 27) (by decide) ?_
    exact z_iret C hM dX5_due_27 (by have ek := wn_nI (k := k) (by omega); have wk := isW_nI hk; simp [f_due, ek, wk, *])
  ·
    refine z_if_eq (tgt := 25) C dX5_due_9 (pc' := 12) (by decide) rfl (fun _ => ?_) (fun q => absurd q (by decide))
    refine z_ldc C dX5_due_25 (pc' := 27) rfl aw_633 ?_
    exact z_iret C hM dX5_due_27 (by simp [f_due, *])
set_option maxRecDepth 100000 in
set_option maxHeartbeats 400000 in
theorem m_X4_look (l : Launch) {cA cB : ClassId} {D : va_G} {ad : Nat → Nat} (hI : Inj 67 ad) (σ : St) (w : Int32) : CI l yX4_look cX4_look 3 .int 2 42 D [(cA, .int), (cB, .object RX3)] 67 ad (cellC cA cB ad) σ [.ref (ad 0), .int w] (fun r u => r = f_look σ w ∧ u = g_look σ w) := by
  refine CI_of (by decide +kernel) (Nat.le_of_ble_eq_true rfl) (by simp [Value.category]) ?_
  intro p e s m below meth c C hM hK
  refine z_iload_n C dX4_look_0 (pc' := 1) rfl rfl rfl ?_
  refine z_callS C (m_X4_isWheel l _) stabP aw_177 aw_178 aw_27 aw_179 (nA := 1) (by decide +kernel) rfl ⟨Nat.le_of_ble_eq_true rfl, Nat.le_of_ble_eq_true rfl⟩ (rest := []) rfl (Nat.le_of_ble_eq_true rfl) ⟨Nat.zero_le _, Nat.zero_le _⟩ dX4_look_1 (pc' := 4) rfl (fun r_1 h_1 => ?_)
  rcases h_1 with ⟨rfl, h_1⟩ | ⟨rfl, h_1⟩
  ·
    obtain ⟨k, hk, rfl⟩ := isW_of h_1
    refine z_if_ne (tgt := 10) C dX4_look_4 (pc' := 7) (by decide) rfl (fun _ => ?_) (fun q => absurd q (by decide))
    refine z_aload_n C dX4_look_10 (pc' := 11) rfl rfl rfl ?_
    refine z_get C hK (by decide) kC_0 rfl inAX4 (k := 0) (by decide) aw_145 rfl dX4_look_11 (pc' := 14) rfl ?_
    refine z_iload_n C dX4_look_14 (pc' := 15) rfl rfl rfl ?_
    refine z_aald C hK (by decide) kC_1 (t0 := 1) rfl (j := k) rfl (by omega) (by decide) rfl dX4_look_15 (pc' := 16) rfl ?_
    refine z_callI C hK (m_X3_milesLeft l hI _ (k := k) (by omega)) AdS_in aw_254 aw_255 aw_256 aw_31 aw_257 (pW_lt (by omega)) (kC_W k) rfl (nA := 0) (by decide +kernel) rfl ⟨Nat.le_of_ble_eq_true rfl, Nat.le_of_ble_eq_true rfl⟩ (rest := []) rfl (Nat.le_of_ble_eq_true rfl) ⟨Nat.zero_le _, Nat.zero_le _⟩ dX4_look_16 (pc' := 19) rfl (fun r_16 u_16 h_16 => ?_)
    obtain ⟨hr_16, hu_16⟩ := h_16
    rw [hr_16, hu_16]
    refine z_istore_n (L' := [.ref _, .int _, .int _]) C dX4_look_19 (pc' := 20) rfl rfl (by decide) (Nat.le_of_ble_eq_true rfl) rfl ?_
    refine z_aload_n C dX4_look_20 (pc' := 21) rfl rfl rfl ?_
    refine z_get C hK (by decide) kC_0 rfl inAX4 (k := 0) (by decide) aw_145 rfl dX4_look_21 (pc' := 24) rfl ?_
    refine z_iload_n C dX4_look_24 (pc' := 25) rfl rfl rfl ?_
    refine z_aald C hK (by decide) kC_1 (t0 := 1) rfl (j := k) rfl (by omega) (by decide) rfl dX4_look_25 (pc' := 26) rfl ?_
    refine z_iconst C dX4_look_26 (pc' := 27) rfl (v := 0) (by decide) ?_
    refine z_put C hK hI AdS_in (pW_lt (by omega)) (kC_W k) (sC_W4 k _) (cellC_upW (by decide)) rfl inAX3 tyX3_ok nmX3 (k := 3) (by decide) aw_125 rfl (ty := .int) (by decide +kernel) rfl rfl (Nat.le_of_ble_eq_true rfl) dX4_look_27 (pc' := 30) rfl ?_
    refine z_iload_n C dX4_look_30 (pc' := 31) rfl rfl rfl ?_
    exact z_iret C hM dX4_look_31 (by have ek := wn_nI (k := k) (by omega); have wk := isW_nI hk; simp [f_look, g_look, ek, wk, *])
  ·
    refine z_if_ne (tgt := 10) C dX4_look_4 (pc' := 7) (by decide) rfl (fun q => absurd q (by decide)) (fun _ => ?_)
    refine z_ldc C dX4_look_7 (pc' := 9) rfl aw_399 ?_
    exact z_iret C hM dX4_look_9 (by simp [f_look, g_look, *])
set_option maxRecDepth 100000 in
set_option maxHeartbeats 400000 in
theorem m_X5_look (l : Launch) {cA : ClassId} {D : va_G} {ad : Nat → Nat} (hI : Inj 17 ad) (σ : St) (w : Int32) : CI l yX5_look cX5_look 3 .int 2 42 D [(cA, .int)] 17 ad (cellR cA ad) σ [.ref (ad 0), .int w] (fun r u => r = f_look σ w ∧ u = g_look σ w) := by
  refine CI_of (by decide +kernel) (Nat.le_of_ble_eq_true rfl) (by simp [Value.category]) ?_
  intro p e s m below meth c C hM hK
  refine z_aload_n C dX5_look_0 (pc' := 1) rfl rfl rfl ?_
  refine z_iconst C dX5_look_1 (pc' := 2) rfl (v := 0) (by decide) ?_
  refine z_put C hK hI AdS_in (by decide) kR_0 sR_th oR_th rfl inAX5 tyX5_ok nmX5 (k := 0) (by decide) aw_452 rfl (ty := .int) (by decide +kernel) rfl rfl (Nat.le_of_ble_eq_true rfl) dX5_look_2 (pc' := 5) rfl ?_
  refine z_iload_n C dX5_look_5 (pc' := 6) rfl rfl rfl ?_
  refine z_callS C (m_X5_isWheel l _) stabP aw_526 aw_527 aw_32 aw_528 (nA := 1) (by decide +kernel) rfl ⟨Nat.le_of_ble_eq_true rfl, Nat.le_of_ble_eq_true rfl⟩ (rest := []) rfl (Nat.le_of_ble_eq_true rfl) ⟨Nat.zero_le _, Nat.zero_le _⟩ dX5_look_6 (pc' := 9) rfl (fun r_6 h_6 => ?_)
  rcases h_6 with ⟨rfl, h_6⟩ | ⟨rfl, h_6⟩
  ·
    obtain ⟨k, hk, rfl⟩ := isW_of h_6
    refine z_if_ne (tgt := 15) C dX5_look_9 (pc' := 12) (by decide) rfl (fun _ => ?_) (fun q => absurd q (by decide))
    refine z_sipush C dX5_look_15 (pc' := 18) rfl (v := 1000) (by decide) ?_
    refine z_aload_n C dX5_look_18 (pc' := 19) rfl rfl rfl ?_
    refine z_get C hK (by decide) kR_0 rfl inAX5 (k := 5) (by decide) aw_457 rfl dX5_look_19 (pc' := 22) rfl ?_
    refine z_iload_n C dX5_look_22 (pc' := 23) rfl rfl rfl ?_
    refine z_iald C hK (by decide) kR_4 (t0 := 0) rfl (j := k) rfl (by omega) (by decide) rfl dX5_look_23 (pc' := 24) rfl ?_
    refine z_isub C dX5_look_24 (pc' := 25) rfl rfl ?_
    refine z_istore_n (L' := [.ref _, .int _, .int _]) C dX5_look_25 (pc' := 26) rfl rfl (by decide) (Nat.le_of_ble_eq_true rfl) rfl ?_
    refine z_aload_n C dX5_look_26 (pc' := 27) rfl rfl rfl ?_
    refine z_get C hK (by decide) kR_0 rfl inAX5 (k := 5) (by decide) aw_457 rfl dX5_look_27 (pc' := 30) rfl ?_
    refine z_iload_n C dX5_look_30 (pc' := 31) rfl rfl rfl ?_
    refine z_iconst C dX5_look_31 (pc' := 32) rfl (v := 0) (by decide) ?_
    refine z_iast C hK hI AdS_in (by decide) kR_4 sR_a4 oR_a4 (t0 := 0) rfl (j := k) rfl (by omega) (by decide) dX5_look_32 (pc' := 33) rfl ?_
    refine z_iload_n C dX5_look_33 (pc' := 34) rfl rfl rfl ?_
    exact z_iret C hM dX5_look_34 (by have ek := wn_nI (k := k) (by omega); have wk := isW_nI hk; simp [f_look, g_look, ek, wk, *])
  ·
    refine z_if_ne (tgt := 15) C dX5_look_9 (pc' := 12) (by decide) rfl (fun q => absurd q (by decide)) (fun _ => ?_)
    refine z_ldc C dX5_look_12 (pc' := 14) rfl aw_633 ?_
    exact z_iret C hM dX5_look_14 (by simp [f_look, g_look, *])
set_option maxRecDepth 100000 in
set_option maxHeartbeats 400000 in
theorem m_X4_about (l : Launch) {cA cB : ClassId} {D : va_G} {ad : Nat → Nat} (hI : Inj 67 ad) (σ : St) (w q : Int32) : CI l yX4_about cX4_about 4 .int 2 42 D [(cA, .int), (cB, .object RX3)] 67 ad (cellC cA cB ad) σ [.ref (ad 0), .int w, .int q] (fun r u => r = f_about σ w q ∧ u = σ) := by
  refine CI_of (by decide +kernel) (Nat.le_of_ble_eq_true rfl) (by simp [Value.category]) ?_
  intro p e s m below meth c C hM hK
  refine z_iload_n C dX4_about_0 (pc' := 1) rfl rfl rfl ?_
  refine z_callS C (m_X4_isWheel l _) stabP aw_177 aw_178 aw_27 aw_179 (nA := 1) (by decide +kernel) rfl ⟨Nat.le_of_ble_eq_true rfl, Nat.le_of_ble_eq_true rfl⟩ (rest := []) rfl (Nat.le_of_ble_eq_true rfl) ⟨Nat.zero_le _, Nat.zero_le _⟩ dX4_about_1 (pc' := 4) rfl (fun r_1 h_1 => ?_)
  rcases h_1 with ⟨rfl, h_1⟩ | ⟨rfl, h_1⟩
  ·
    obtain ⟨k, hk, rfl⟩ := isW_of h_1
    refine z_if_ne (tgt := 9) C dX4_about_4 (pc' := 7) (by decide) rfl (fun _ => ?_) (fun q => absurd q (by decide))
    refine z_aload_n C dX4_about_9 (pc' := 10) rfl rfl rfl ?_
    refine z_get C hK (by decide) kC_0 rfl inAX4 (k := 0) (by decide) aw_145 rfl dX4_about_10 (pc' := 13) rfl ?_
    refine z_iload_n C dX4_about_13 (pc' := 14) rfl rfl rfl ?_
    refine z_aald C hK (by decide) kC_1 (t0 := 1) rfl (j := k) rfl (by omega) (by decide) rfl dX4_about_14 (pc' := 15) rfl ?_
    refine z_astore_n (L' := [.ref _, .int _, .int _, .ref _]) C dX4_about_15 (pc' := 16) rfl rfl (by decide) (Nat.le_of_ble_eq_true rfl) rfl ?_
    refine z_iload_n C dX4_about_16 (pc' := 17) rfl rfl rfl ?_
    rcases sw_cases (n := 7) (by omega) q with ⟨j, hj, rfl⟩ | hj
    ·
      rcases (show j = 0 ∨ j = 1 ∨ j = 2 ∨ j = 3 ∨ j = 4 ∨ j = 5 ∨ j = 6 ∨ j = 7 by omega) with rfl | rfl | rfl | rfl | rfl | rfl | rfl | rfl
      ·
        refine z_tin C dX4_about_17 (by decide) (by decide) (off := 47) (by decide) (pc' := 64) (by decide) ?_
        refine z_aload_n C dX4_about_64 (pc' := 65) rfl rfl rfl ?_
        refine z_get C hK (pW_lt (by omega)) (kC_W k) rfl inAX3 (k := 1) (by decide) aw_122 rfl dX4_about_65 (pc' := 68) rfl ?_
        exact z_iret C hM dX4_about_68 (by have w := isW_nI hk; exact ⟨by rw [f_about, if_pos ⟨w, by decide⟩, wn_nI (show k < 2 ^ 31 by omega)]; rfl, rfl⟩)
      ·
        refine z_tin C dX4_about_17 (by decide) (by decide) (off := 52) (by decide) (pc' := 69) (by decide) ?_
        refine z_aload_n C dX4_about_69 (pc' := 70) rfl rfl rfl ?_
        refine z_get C hK (pW_lt (by omega)) (kC_W k) rfl inAX3 (k := 0) (by decide) aw_120 rfl dX4_about_70 (pc' := 73) rfl ?_
        refine z_iload_n C dX4_about_73 (pc' := 74) rfl rfl rfl ?_
        refine z_iconst C dX4_about_74 (pc' := 75) rfl (v := 1) (by decide) ?_
        refine z_isub C dX4_about_75 (pc' := 76) rfl (z := 0) (by decide) ?_
        refine z_iald C hK (pD_lt (by omega)) (kC_D k) (t0 := 0) rfl (j := 0) rfl (by decide) (by decide) rfl dX4_about_76 (pc' := 77) rfl ?_
        exact z_iret C hM dX4_about_77 (by have w := isW_nI hk; exact ⟨by rw [f_about, if_pos ⟨w, by decide⟩, wn_nI (show k < 2 ^ 31 by omega)]; rfl, rfl⟩)
      ·
        refine z_tin C dX4_about_17 (by decide) (by decide) (off := 52) (by decide) (pc' := 69) (by decide) ?_
        refine z_aload_n C dX4_about_69 (pc' := 70) rfl rfl rfl ?_
        refine z_get C hK (pW_lt (by omega)) (kC_W k) rfl inAX3 (k := 0) (by decide) aw_120 rfl dX4_about_70 (pc' := 73) rfl ?_
        refine z_iload_n C dX4_about_73 (pc' := 74) rfl rfl rfl ?_
        refine z_iconst C dX4_about_74 (pc' := 75) rfl (v := 1) (by decide) ?_
        refine z_isub C dX4_about_75 (pc' := 76) rfl (z := 1) (by decide) ?_
        refine z_iald C hK (pD_lt (by omega)) (kC_D k) (t0 := 0) rfl (j := 1) rfl (by decide) (by decide) rfl dX4_about_76 (pc' := 77) rfl ?_
        exact z_iret C hM dX4_about_77 (by have w := isW_nI hk; exact ⟨by rw [f_about, if_pos ⟨w, by decide⟩, wn_nI (show k < 2 ^ 31 by omega)]; rfl, rfl⟩)
      ·
        refine z_tin C dX4_about_17 (by decide) (by decide) (off := 52) (by decide) (pc' := 69) (by decide) ?_
        refine z_aload_n C dX4_about_69 (pc' := 70) rfl rfl rfl ?_
        refine z_get C hK (pW_lt (by omega)) (kC_W k) rfl inAX3 (k := 0) (by decide) aw_120 rfl dX4_about_70 (pc' := 73) rfl ?_
        refine z_iload_n C dX4_about_73 (pc' := 74) rfl rfl rfl ?_
        refine z_iconst C dX4_about_74 (pc' := 75) rfl (v := 1) (by decide) ?_
        refine z_isub C dX4_about_75 (pc' := 76) rfl (z := 2) (by decide) ?_
        refine z_iald C hK (pD_lt (by omega)) (kC_D k) (t0 := 0) rfl (j := 2) rfl (by decide) (by decide) rfl dX4_about_76 (pc' := 77) rfl ?_
        exact z_iret C hM dX4_about_77 (by have w := isW_nI hk; exact ⟨by rw [f_about, if_pos ⟨w, by decide⟩, wn_nI (show k < 2 ^ 31 by omega)]; rfl, rfl⟩)
      ·
        refine z_tin C dX4_about_17 (by decide) (by decide) (off := 52) (by decide) (pc' := 69) (by decide) ?_
        refine z_aload_n C dX4_about_69 (pc' := 70) rfl rfl rfl ?_
        refine z_get C hK (pW_lt (by omega)) (kC_W k) rfl inAX3 (k := 0) (by decide) aw_120 rfl dX4_about_70 (pc' := 73) rfl ?_
        refine z_iload_n C dX4_about_73 (pc' := 74) rfl rfl rfl ?_
        refine z_iconst C dX4_about_74 (pc' := 75) rfl (v := 1) (by decide) ?_
        refine z_isub C dX4_about_75 (pc' := 76) rfl (z := 3) (by decide) ?_
        refine z_iald C hK (pD_lt (by omega)) (kC_D k) (t0 := 0) rfl (j := 3) rfl (by decide) (by decide) rfl dX4_about_76 (pc' := 77) rfl ?_
        exact z_iret C hM dX4_about_77 (by have w := isW_nI hk; exact ⟨by rw [f_about, if_pos ⟨w, by decide⟩, wn_nI (show k < 2 ^ 31 by omega)]; rfl, rfl⟩)
      ·
        refine z_tin C dX4_about_17 (by decide) (by decide) (off := 52) (by decide) (pc' := 69) (by decide) ?_
        refine z_aload_n C dX4_about_69 (pc' := 70) rfl rfl rfl ?_
        refine z_get C hK (pW_lt (by omega)) (kC_W k) rfl inAX3 (k := 0) (by decide) aw_120 rfl dX4_about_70 (pc' := 73) rfl ?_
        refine z_iload_n C dX4_about_73 (pc' := 74) rfl rfl rfl ?_
        refine z_iconst C dX4_about_74 (pc' := 75) rfl (v := 1) (by decide) ?_
        refine z_isub C dX4_about_75 (pc' := 76) rfl (z := 4) (by decide) ?_
        refine z_iald C hK (pD_lt (by omega)) (kC_D k) (t0 := 0) rfl (j := 4) rfl (by decide) (by decide) rfl dX4_about_76 (pc' := 77) rfl ?_
        exact z_iret C hM dX4_about_77 (by have w := isW_nI hk; exact ⟨by rw [f_about, if_pos ⟨w, by decide⟩, wn_nI (show k < 2 ^ 31 by omega)]; rfl, rfl⟩)
      ·
        refine z_tin C dX4_about_17 (by decide) (by decide) (off := 61) (by decide) (pc' := 78) (by decide) ?_
        refine z_aload_n C dX4_about_78 (pc' := 79) rfl rfl rfl ?_
        refine z_get C hK (pW_lt (by omega)) (kC_W k) rfl inAX3 (k := 2) (by decide) aw_123 rfl dX4_about_79 (pc' := 82) rfl ?_
        exact z_iret C hM dX4_about_82 (by have w := isW_nI hk; exact ⟨by rw [f_about, if_pos ⟨w, by decide⟩, wn_nI (show k < 2 ^ 31 by omega)]; rfl, rfl⟩)
      ·
        refine z_tin C dX4_about_17 (by decide) (by decide) (off := 66) (by decide) (pc' := 83) (by decide) ?_
        refine z_aload_n C dX4_about_83 (pc' := 84) rfl rfl rfl ?_
        refine z_get C hK (pW_lt (by omega)) (kC_W k) rfl inAX3 (k := 3) (by decide) aw_125 rfl dX4_about_84 (pc' := 87) rfl ?_
        exact z_iret C hM dX4_about_87 (by have w := isW_nI hk; exact ⟨by rw [f_about, if_pos ⟨w, by decide⟩, wn_nI (show k < 2 ^ 31 by omega)]; rfl, rfl⟩)
    ·
      refine z_tout C dX4_about_17 hj (pc' := 88) (by decide) ?_
      refine z_iconst C dX4_about_88 (pc' := 89) rfl (v := (-1)) (by decide) ?_
      exact z_iret C hM dX4_about_89 (by refine ⟨(if_neg fun z => ?_).symm, rfl⟩; have z2 := z.2; simp only [inR, i32_le] at z2; have e0 : (0 : Int32).toInt = 0 := rfl; have e7 : (7 : Int32).toInt = 7 := rfl; omega)
  ·
    refine z_if_ne (tgt := 9) C dX4_about_4 (pc' := 7) (by decide) rfl (fun q => absurd q (by decide)) (fun _ => ?_)
    refine z_iconst C dX4_about_7 (pc' := 8) rfl (v := (-1)) (by decide) ?_
    exact z_iret C hM dX4_about_8 (by simp [f_about, *])
set_option maxRecDepth 100000 in
set_option maxHeartbeats 400000 in
theorem m_X5_about (l : Launch) {cA : ClassId} {D : va_G} {ad : Nat → Nat} (hI : Inj 17 ad) (σ : St) (w q : Int32) : CI l yX5_about cX5_about 3 .int 2 42 D [(cA, .int)] 17 ad (cellR cA ad) σ [.ref (ad 0), .int w, .int q] (fun r u => r = f_about σ w q ∧ u = σ) := by
  refine CI_of (by decide +kernel) (Nat.le_of_ble_eq_true rfl) (by simp [Value.category]) ?_
  intro p e s m below meth c C hM hK
  refine z_aload_n C dX5_about_0 (pc' := 1) rfl rfl rfl ?_
  refine z_iconst C dX5_about_1 (pc' := 2) rfl (v := 0) (by decide) ?_
  refine z_put C hK hI AdS_in (by decide) kR_0 sR_th oR_th rfl inAX5 tyX5_ok nmX5 (k := 0) (by decide) aw_452 rfl (ty := .int) (by decide +kernel) rfl rfl (Nat.le_of_ble_eq_true rfl) dX5_about_2 (pc' := 5) rfl ?_
  refine z_iload_n C dX5_about_5 (pc' := 6) rfl rfl rfl ?_
  refine z_callS C (m_X5_isWheel l _) stabP aw_526 aw_527 aw_32 aw_528 (nA := 1) (by decide +kernel) rfl ⟨Nat.le_of_ble_eq_true rfl, Nat.le_of_ble_eq_true rfl⟩ (rest := []) rfl (Nat.le_of_ble_eq_true rfl) ⟨Nat.zero_le _, Nat.zero_le _⟩ dX5_about_6 (pc' := 9) rfl (fun r_6 h_6 => ?_)
  rcases h_6 with ⟨rfl, h_6⟩ | ⟨rfl, h_6⟩
  ·
    obtain ⟨k, hk, rfl⟩ := isW_of h_6
    refine z_if_eq (tgt := 22) C dX5_about_9 (pc' := 12) (by decide) rfl (fun q => absurd q (by decide)) (fun _ => ?_)
    refine z_iload_n C dX5_about_12 (pc' := 13) rfl rfl rfl ?_
    refine z_iconst C dX5_about_13 (pc' := 14) rfl (v := 0) (by decide) ?_
    refine z_bipush C dX5_about_14 (pc' := 16) rfl (v := 7) (by decide) ?_
    refine z_callS C (m_X5_in l _ _ _) stabP aw_529 aw_530 aw_32 aw_531 (nA := 3) (by decide +kernel) rfl ⟨Nat.le_of_ble_eq_true rfl, Nat.le_of_ble_eq_true rfl⟩ (rest := []) rfl (Nat.le_of_ble_eq_true rfl) ⟨Nat.zero_le _, Nat.zero_le _⟩ dX5_about_16 (pc' := 19) rfl (fun r_16 h_16 => ?_)
    rcases h_16 with ⟨rfl, h_16⟩ | ⟨rfl, h_16⟩
    ·
      obtain ⟨j, hj, rfl⟩ := inR_of (n := 7) (by omega) h_16
      refine z_if_ne (tgt := 24) C dX5_about_19 (pc' := 22) (by decide) rfl (fun _ => ?_) (fun q => absurd q (by decide))
      refine z_iload_n C dX5_about_24 (pc' := 25) rfl rfl rfl ?_
      refine z_if_ne (tgt := 37) C dX5_about_25 (pc' := 28) (by decide) rfl (fun c_25 => ?_) (fun c_25 => ?_)
      ·
        have n_25 : ¬ j = 0 := fun z9 => c_25 ((nI_eq0 (by omega)).mpr z9)
        refine z_iload_n C dX5_about_37 (pc' := 38) rfl rfl rfl ?_
        refine z_bipush C dX5_about_38 (pc' := 40) rfl (v := 6) (by decide) ?_
        refine z_icmp_ge (tgt := 58) C dX5_about_40 (pc' := 43) (by decide) rfl (fun c_40 => ?_) (fun c_40 => ?_)
        ·
          have n_40 : 6 ≤ j := ge_of_le (N := 6) (k := j) c_40 (by omega) (by omega)
          refine z_iload_n C dX5_about_58 (pc' := 59) rfl rfl rfl ?_
          refine z_bipush C dX5_about_59 (pc' := 61) rfl (v := 6) (by decide) ?_
          refine z_icmp_ne (tgt := 73) C dX5_about_61 (pc' := 64) (by decide) rfl (fun c_61 => ?_) (fun c_61 => ?_)
          ·
            have n_61 : ¬ j = 6 := fun z9 => c_61 ((nI_eq (a := j) (b := 6) (by omega) (by omega)).mpr z9)
            refine z_aload_n C dX5_about_73 (pc' := 74) rfl rfl rfl ?_
            refine z_get C hK (by decide) kR_0 rfl inAX5 (k := 5) (by decide) aw_457 rfl dX5_about_74 (pc' := 77) rfl ?_
            refine z_iload_n C dX5_about_77 (pc' := 78) rfl rfl rfl ?_
            refine z_iald C hK (by decide) kR_4 (t0 := 0) rfl (j := k) rfl (by omega) (by decide) rfl dX5_about_78 (pc' := 79) rfl ?_
            exact z_iret C hM dX5_about_79 (by have e := wn_nI (k := k) (by omega); have e2 := wn_nI (k := j) (by omega); have w := isW_nI hk; have w2 := inR_nI (n := 7) hj (by omega); refine ⟨?_, rfl⟩; rw [f_about, if_pos ⟨w, w2⟩, e, e2]; first | (simp [aboutN, *]; done) | (simp [aboutN, *]; intros; omega))
          ·
            have n_61 : j = 6 := (nI_eq (a := j) (b := 6) (by omega) (by omega)).mp c_61
            refine z_aload_n C dX5_about_64 (pc' := 65) rfl rfl rfl ?_
            refine z_get C hK (by decide) kR_0 rfl inAX5 (k := 4) (by decide) aw_456 rfl dX5_about_65 (pc' := 68) rfl ?_
            refine z_iload_n C dX5_about_68 (pc' := 69) rfl rfl rfl ?_
            refine z_iald C hK (by decide) kR_3 (t0 := 0) rfl (j := k) rfl (by omega) (by decide) rfl dX5_about_69 (pc' := 70) rfl ?_
            refine z_goto C dX5_about_70 (pc' := 79) (by decide) ?_
            exact z_iret C hM dX5_about_79 (by have e := wn_nI (k := k) (by omega); have e2 := wn_nI (k := j) (by omega); have w := isW_nI hk; have w2 := inR_nI (n := 7) hj (by omega); refine ⟨?_, rfl⟩; rw [f_about, if_pos ⟨w, w2⟩, e, e2]; first | (simp [aboutN, *]; done) | (simp [aboutN, *]; intros; omega))
        ·
          have n_40 : j < 6 := lt_of_nle (N := 6) (k := j) c_40 (by omega) (by omega)
          refine z_aload_n C dX5_about_43 (pc' := 44) rfl rfl rfl ?_
          refine z_get C hK (by decide) kR_0 rfl inAX5 (k := 3) (by decide) aw_455 rfl dX5_about_44 (pc' := 47) rfl ?_
          refine z_iconst C dX5_about_47 (pc' := 48) rfl (v := 5) (by decide) ?_
          refine z_iload_n C dX5_about_48 (pc' := 49) rfl rfl rfl ?_
          refine z_imul C dX5_about_49 (pc' := 50) rfl (pk_mul (5) (k)) ?_
          refine z_iload_n C dX5_about_50 (pc' := 51) rfl rfl rfl ?_
          refine z_iadd C dX5_about_51 (pc' := 52) rfl (nI_add ((5 * k)) (j)) ?_
          refine z_iconst C dX5_about_52 (pc' := 53) rfl (v := 1) (by decide) ?_
          refine z_isub C dX5_about_53 (pc' := 54) rfl (z := nI (5 * k + (j - 1))) (by rw [show (1 : Int32) = nI 1 from rfl, pk_sub (by omega)]; congr 1; omega) ?_
          refine z_iald C hK (by decide) kR_2 (t0 := 0) rfl (j := (5 * k + (j - 1))) rfl (by omega) (by decide) (rDB _ (by omega)) dX5_about_54 (pc' := 55) rfl ?_
          refine z_goto C dX5_about_55 (pc' := 79) (by decide) ?_
          exact z_iret C hM dX5_about_79 (by have e := wn_nI (k := k) (by omega); have e2 := wn_nI (k := j) (by omega); have w := isW_nI hk; have w2 := inR_nI (n := 7) hj (by omega); refine ⟨?_, rfl⟩; rw [f_about, if_pos ⟨w, w2⟩, e, e2]; first | (simp [aboutN, *]; done) | (simp [aboutN, *]; intros; omega))
      ·
        have n_25 : j = 0 := (nI_eq0 (by omega)).mp c_25
        refine z_aload_n C dX5_about_28 (pc' := 29) rfl rfl rfl ?_
        refine z_get C hK (by decide) kR_0 rfl inAX5 (k := 2) (by decide) aw_454 rfl dX5_about_29 (pc' := 32) rfl ?_
        refine z_iload_n C dX5_about_32 (pc' := 33) rfl rfl rfl ?_
        refine z_iald C hK (by decide) kR_1 (t0 := 0) rfl (j := k) rfl (by omega) (by decide) rfl dX5_about_33 (pc' := 34) rfl ?_
        refine z_goto C dX5_about_34 (pc' := 79) (by decide) ?_
        exact z_iret C hM dX5_about_79 (by have e := wn_nI (k := k) (by omega); have e2 := wn_nI (k := j) (by omega); have w := isW_nI hk; have w2 := inR_nI (n := 7) hj (by omega); refine ⟨?_, rfl⟩; rw [f_about, if_pos ⟨w, w2⟩, e, e2]; first | (simp [aboutN, *]; done) | (simp [aboutN, *]; intros; omega))
    ·
      refine z_if_ne (tgt := 24) C dX5_about_19 (pc' := 22) (by decide) rfl (fun q => absurd q (by decide)) (fun _ => ?_)
      refine z_iconst C dX5_about_22 (pc' := 23) rfl (v := (-1)) (by decide) ?_
      exact z_iret C hM dX5_about_23 (by simp [f_about, *])
  ·
    refine z_if_eq (tgt := 22) C dX5_about_9 (pc' := 12) (by decide) rfl (fun _ => ?_) (fun q => absurd q (by decide))
    refine z_iconst C dX5_about_22 (pc' := 23) rfl (v := (-1)) (by decide) ?_
    exact z_iret C hM dX5_about_23 (by simp [f_about, *])
set_option maxRecDepth 100000 in
set_option maxHeartbeats 400000 in
theorem m_X4_trace (l : Launch) {cA cB : ClassId} {D : va_G} {ad : Nat → Nat} (hI : Inj 67 ad) (σ : St)  : CL l yX4_trace cX4_trace 1 0 0 D [(cA, .int), (cB, .object RX3)] 67 ad (cellC cA cB ad) σ [.ref (ad 0)] (fun r u => r = (σ 0 3).toInt64 ∧ u = σ) := by
  refine CL_of (by decide +kernel) (Nat.le_of_ble_eq_true rfl) (by simp [Value.category]) ?_
  intro p e s m below meth c C hM hK
  refine z_aload_n C dX4_trace_0 (pc' := 1) rfl rfl rfl ?_
  refine z_get C hK (by decide) kC_0 rfl inAX4 (k := 8) (by decide) aw_153 rfl dX4_trace_1 (pc' := 4) rfl ?_
  exact z_lret C hM dX4_trace_4 ⟨rfl, rfl⟩
set_option maxRecDepth 100000 in
set_option maxHeartbeats 400000 in
theorem m_X5_trace (l : Launch) {cA : ClassId} {D : va_G} {ad : Nat → Nat} (hI : Inj 17 ad) (σ : St)  : CL l yX5_trace cX5_trace 1 0 0 D [(cA, .int)] 17 ad (cellR cA ad) σ [.ref (ad 0)] (fun r u => r = (σ 0 3).toInt64 ∧ u = σ) := by
  refine CL_of (by decide +kernel) (Nat.le_of_ble_eq_true rfl) (by simp [Value.category]) ?_
  intro p e s m below meth c C hM hK
  refine z_aload_n C dX5_trace_0 (pc' := 1) rfl rfl rfl ?_
  refine z_iconst C dX5_trace_1 (pc' := 2) rfl (v := 0) (by decide) ?_
  refine z_put C hK hI AdS_in (by decide) kR_0 sR_th oR_th rfl inAX5 tyX5_ok nmX5 (k := 0) (by decide) aw_452 rfl (ty := .int) (by decide +kernel) rfl rfl (Nat.le_of_ble_eq_true rfl) dX5_trace_2 (pc' := 5) rfl ?_
  refine z_aload_n C dX5_trace_5 (pc' := 6) rfl rfl rfl ?_
  refine z_get C hK (by decide) kR_0 rfl inAX5 (k := 1) (by decide) aw_453 rfl dX5_trace_6 (pc' := 9) rfl ?_
  exact z_lret C hM dX5_trace_9 ⟨rfl, rfl⟩
