/-! the reference's wheels -/
def gdR (f : Nat → Int32) : Nat → Int32
  | 0 => 0
  | n + 1 => if f n ≤ gdR f n then gdR f n else f n
def ldR (f : Nat → Int32) : Nat → Int32
  | 0 => 99
  | n + 1 => if ldR f n ≤ f n then ldR f n else f n
def cut1 (f : Nat → Int32) : Int32 := gdR f 5 - ldR f 5
def cut2 (f : Nat → Int32) (kd : Nat) (th : Int32) : Int32 := if kd = 0 then cut1 f else if f 0 = gdR f 5 then (if th ≤ cut1 f then cut1 f - th else 0) else cut1 f
def cutV (f : Nat → Int32) (kd : Nat) (th : Int32) : Int32 := if kd = 2 then cut2 f kd th + (cut2 f kd th - cut2 f kd th / 2 * 2) else cut2 f kd th
theorem mx_ge {a d : Int32} (h : a ≤ d) : d = mx a d := by
  unfold mx
  by_cases q : a < d
  · rw [if_pos q]
  · rw [if_neg q]
    rw [i32_le] at h; rw [i32_lt] at q
    exact Int32.toInt_inj.mp (by omega)
theorem mx_lt {a d : Int32} (h : ¬ a ≤ d) : a = mx a d := by
  unfold mx
  rw [if_neg]
  rw [i32_le] at h; rw [i32_lt]; omega
theorem mn_le {a d : Int32} (h : d ≤ a) : d = mn a d := by
  unfold mn
  by_cases q : d < a
  · rw [if_pos q]
  · rw [if_neg q]
    rw [i32_le] at h; rw [i32_lt] at q
    exact Int32.toInt_inj.mp (by omega)
theorem mn_gt {a d : Int32} (h : ¬ d ≤ a) : a = mn a d := by
  unfold mn
  rw [if_neg]
  rw [i32_le] at h; rw [i32_lt]; omega
def dueR (σ : St) (n : Int32) : Nat → Int32
  | 0 => 0
  | k + 1 => dueR σ n k + if mlS σ n (k + 1) 4 k < 1000 then 0 else 1
theorem mn5 {b : Nat} (h : b ≤ 5) : mn 5 (nI b + 1) = nI (min 5 (b + 1)) := by
  rw [nI_1]
  show mn (nI 5) (nI (b + 1)) = _
  by_cases q : b + 1 ≤ 5
  · rw [← mn_le (nI_le (b := 5) q (by omega)), Nat.min_eq_right q]
  · rw [← mn_gt (nI_ge (a := 5) (b := b + 1) (by omega) (by omega)), Nat.min_eq_left (by omega)]
theorem i32_nge {x y : Int32} (h : x ≤ y) : ¬ y < x := by rw [i32_le] at h; rw [i32_lt]; omega
set_option maxRecDepth 100000 in
set_option maxHeartbeats 400000 in
theorem m_X5_least (l : Launch) {cA : ClassId} {D : va_G} {ad : Nat → Nat} (hI : Inj 17 ad) (σ : St) {k : Nat} (hk : k < 16) : CI l yX5_least cX5_least 4 .int 0 0 D [(cA, .int)] 17 ad (cellR cA ad) σ [.ref (ad 0), .int (nI k)] (fun r u => r = ldR (σ (100 + 2 * k)) 5 ∧ u = σ) := by
  refine CI_of (by decide +kernel) (Nat.le_of_ble_eq_true rfl) (by simp [Value.category]) ?_
  intro p e s m below meth c C hM hK
  refine z_bipush C dX5_least_0 (pc' := 2) rfl (v := 99) (by decide) ?_
  refine z_istore_n (L' := [.ref _, .int _, .int _]) C dX5_least_2 (pc' := 3) rfl rfl (by decide) (Nat.le_of_ble_eq_true rfl) rfl ?_
  refine z_iconst C dX5_least_3 (pc' := 4) rfl (v := 0) (by decide) ?_
  refine z_istore_n (L' := [.ref _, .int _, .int _, .int _]) C dX5_least_4 (pc' := 5) rfl rfl (by decide) (Nat.le_of_ble_eq_true rfl) rfl ?_
  refine z_loop (τ := Nat) (fun i => 5 - i) (fun i => i ≤ 5) (fun i => σ) (fun i => [.ref (ad 0), .int (nI k), .int (ldR (σ (100 + 2 * k)) i), .int (nI i)]) 0 (by omega) rfl ⟨_, rfl⟩ ?_
  intro i hi ih5
  try dsimp only at hi ih5 ⊢
  refine z_iload_n C dX5_least_5 (pc' := 6) rfl rfl rfl ?_
  refine z_iconst C dX5_least_6 (pc' := 7) rfl (v := 5) (by decide) ?_
  refine z_icmp_ge (tgt := 45) C dX5_least_7 (pc' := 10) (by decide) rfl (fun c_7 => ?_) (fun c_7 => ?_)
  ·
    have n_7 : 5 ≤ i := ge_of_le (N := 5) (k := i) c_7 (by omega) (by omega)
    obtain rfl : i = 5 := (by omega)
    refine z_iload_n C dX5_least_45 (pc' := 46) rfl rfl rfl ?_
    exact z_iret C hM dX5_least_46 ⟨rfl, rfl⟩
  ·
    have n_7 : i < 5 := lt_of_nle (N := 5) (k := i) c_7 (by omega) (by omega)
    refine z_aload_n C dX5_least_10 (pc' := 11) rfl rfl rfl ?_
    refine z_get C hK (by decide) kR_0 rfl inAX5 (k := 3) (by decide) aw_455 rfl dX5_least_11 (pc' := 14) rfl ?_
    refine z_iconst C dX5_least_14 (pc' := 15) rfl (v := 5) (by decide) ?_
    refine z_iload_n C dX5_least_15 (pc' := 16) rfl rfl rfl ?_
    refine z_imul C dX5_least_16 (pc' := 17) rfl (pk_mul (5) (k)) ?_
    refine z_iload_n C dX5_least_17 (pc' := 18) rfl rfl rfl ?_
    refine z_iadd C dX5_least_18 (pc' := 19) rfl (nI_add ((5 * k)) (i)) ?_
    refine z_iald C hK (by decide) kR_2 (t0 := 0) rfl (j := ((5 * k) + i)) rfl (by omega) (by decide) (rDB _ (by omega)) dX5_least_19 (pc' := 20) rfl ?_
    refine z_iload_n C dX5_least_20 (pc' := 21) rfl rfl rfl ?_
    refine z_ternE (J := 38) (ldR (σ (100 + 2 * k)) (i + 1)) 2 ?_ ?_
    ·
      try dsimp only [List.drop]
      refine z_istore_n (L' := [.ref _, .int _, .int _, .int _]) C dX5_least_38 (pc' := 39) rfl rfl (by decide) (Nat.le_of_ble_eq_true rfl) rfl ?_
      refine z_iinc (L' := [.ref _, .int _, .int _, .int _]) C dX5_least_39 (pc' := 42) rfl rfl (iinc1 _) (by decide) (Nat.le_of_ble_eq_true rfl) rfl ?_
      refine z_goto C dX5_least_42 (pc' := 5) (by decide) ?_
      exact z_back 4 (ih5 (i + 1) (by omega) (by omega)) rfl rfl
    · intro hj_38
      refine z_icmp_ge (tgt := 37) C dX5_least_21 (pc' := 24) (by decide) rfl (fun c_21 => ?_) (fun c_21 => ?_)
      ·
        refine z_iload_n C dX5_least_37 (pc' := 38) rfl rfl rfl ?_
        exact hj_38 _ (by simp [ldR, *])
      ·
        refine z_aload_n C dX5_least_24 (pc' := 25) rfl rfl rfl ?_
        refine z_get C hK (by decide) kR_0 rfl inAX5 (k := 3) (by decide) aw_455 rfl dX5_least_25 (pc' := 28) rfl ?_
        refine z_iconst C dX5_least_28 (pc' := 29) rfl (v := 5) (by decide) ?_
        refine z_iload_n C dX5_least_29 (pc' := 30) rfl rfl rfl ?_
        refine z_imul C dX5_least_30 (pc' := 31) rfl (pk_mul (5) (k)) ?_
        refine z_iload_n C dX5_least_31 (pc' := 32) rfl rfl rfl ?_
        refine z_iadd C dX5_least_32 (pc' := 33) rfl (nI_add ((5 * k)) (i)) ?_
        refine z_iald C hK (by decide) kR_2 (t0 := 0) rfl (j := ((5 * k) + i)) rfl (by omega) (by decide) (rDB _ (by omega)) dX5_least_33 (pc' := 34) rfl ?_
        refine z_goto C dX5_least_34 (pc' := 38) (by decide) ?_
        exact hj_38 _ (by simp [ldR, *])
set_option maxRecDepth 100000 in
set_option maxHeartbeats 400000 in
theorem m_X5_most (l : Launch) {cA : ClassId} {D : va_G} {ad : Nat → Nat} (hI : Inj 17 ad) (σ : St) {k : Nat} (hk : k < 16) : CI l yX5_most cX5_most 4 .int 0 0 D [(cA, .int)] 17 ad (cellR cA ad) σ [.ref (ad 0), .int (nI k)] (fun r u => r = gdR (σ (100 + 2 * k)) 5 ∧ u = σ) := by
  refine CI_of (by decide +kernel) (Nat.le_of_ble_eq_true rfl) (by simp [Value.category]) ?_
  intro p e s m below meth c C hM hK
  refine z_iconst C dX5_most_0 (pc' := 1) rfl (v := 0) (by decide) ?_
  refine z_istore_n (L' := [.ref _, .int _, .int _]) C dX5_most_1 (pc' := 2) rfl rfl (by decide) (Nat.le_of_ble_eq_true rfl) rfl ?_
  refine z_iconst C dX5_most_2 (pc' := 3) rfl (v := 0) (by decide) ?_
  refine z_istore_n (L' := [.ref _, .int _, .int _, .int _]) C dX5_most_3 (pc' := 4) rfl rfl (by decide) (Nat.le_of_ble_eq_true rfl) rfl ?_
  refine z_loop (τ := Nat) (fun i => 5 - i) (fun i => i ≤ 5) (fun i => σ) (fun i => [.ref (ad 0), .int (nI k), .int (gdR (σ (100 + 2 * k)) i), .int (nI i)]) 0 (by omega) rfl ⟨_, rfl⟩ ?_
  intro i hi ih4
  try dsimp only at hi ih4 ⊢
  refine z_iload_n C dX5_most_4 (pc' := 5) rfl rfl rfl ?_
  refine z_iconst C dX5_most_5 (pc' := 6) rfl (v := 5) (by decide) ?_
  refine z_icmp_ge (tgt := 44) C dX5_most_6 (pc' := 9) (by decide) rfl (fun c_6 => ?_) (fun c_6 => ?_)
  ·
    have n_6 : 5 ≤ i := ge_of_le (N := 5) (k := i) c_6 (by omega) (by omega)
    obtain rfl : i = 5 := (by omega)
    refine z_iload_n C dX5_most_44 (pc' := 45) rfl rfl rfl ?_
    exact z_iret C hM dX5_most_45 ⟨rfl, rfl⟩
  ·
    have n_6 : i < 5 := lt_of_nle (N := 5) (k := i) c_6 (by omega) (by omega)
    refine z_aload_n C dX5_most_9 (pc' := 10) rfl rfl rfl ?_
    refine z_get C hK (by decide) kR_0 rfl inAX5 (k := 3) (by decide) aw_455 rfl dX5_most_10 (pc' := 13) rfl ?_
    refine z_iconst C dX5_most_13 (pc' := 14) rfl (v := 5) (by decide) ?_
    refine z_iload_n C dX5_most_14 (pc' := 15) rfl rfl rfl ?_
    refine z_imul C dX5_most_15 (pc' := 16) rfl (pk_mul (5) (k)) ?_
    refine z_iload_n C dX5_most_16 (pc' := 17) rfl rfl rfl ?_
    refine z_iadd C dX5_most_17 (pc' := 18) rfl (nI_add ((5 * k)) (i)) ?_
    refine z_iald C hK (by decide) kR_2 (t0 := 0) rfl (j := ((5 * k) + i)) rfl (by omega) (by decide) (rDB _ (by omega)) dX5_most_18 (pc' := 19) rfl ?_
    refine z_iload_n C dX5_most_19 (pc' := 20) rfl rfl rfl ?_
    refine z_ternE (J := 37) (gdR (σ (100 + 2 * k)) (i + 1)) 2 ?_ ?_
    ·
      try dsimp only [List.drop]
      refine z_istore_n (L' := [.ref _, .int _, .int _, .int _]) C dX5_most_37 (pc' := 38) rfl rfl (by decide) (Nat.le_of_ble_eq_true rfl) rfl ?_
      refine z_iinc (L' := [.ref _, .int _, .int _, .int _]) C dX5_most_38 (pc' := 41) rfl rfl (iinc1 _) (by decide) (Nat.le_of_ble_eq_true rfl) rfl ?_
      refine z_goto C dX5_most_41 (pc' := 4) (by decide) ?_
      exact z_back 4 (ih4 (i + 1) (by omega) (by omega)) rfl rfl
    · intro hj_37
      refine z_icmp_le (tgt := 36) C dX5_most_20 (pc' := 23) (by decide) rfl (fun c_20 => ?_) (fun c_20 => ?_)
      ·
        refine z_iload_n C dX5_most_36 (pc' := 37) rfl rfl rfl ?_
        exact hj_37 _ (by simp [gdR, *])
      ·
        refine z_aload_n C dX5_most_23 (pc' := 24) rfl rfl rfl ?_
        refine z_get C hK (by decide) kR_0 rfl inAX5 (k := 3) (by decide) aw_455 rfl dX5_most_24 (pc' := 27) rfl ?_
        refine z_iconst C dX5_most_27 (pc' := 28) rfl (v := 5) (by decide) ?_
        refine z_iload_n C dX5_most_28 (pc' := 29) rfl rfl rfl ?_
        refine z_imul C dX5_most_29 (pc' := 30) rfl (pk_mul (5) (k)) ?_
        refine z_iload_n C dX5_most_30 (pc' := 31) rfl rfl rfl ?_
        refine z_iadd C dX5_most_31 (pc' := 32) rfl (nI_add ((5 * k)) (i)) ?_
        refine z_iald C hK (by decide) kR_2 (t0 := 0) rfl (j := ((5 * k) + i)) rfl (by omega) (by decide) (rDB _ (by omega)) dX5_most_32 (pc' := 33) rfl ?_
        refine z_goto C dX5_most_33 (pc' := 37) (by decide) ?_
        exact hj_37 _ (by simp [gdR, *])
set_option maxRecDepth 100000 in
set_option maxHeartbeats 400000 in
theorem m_X5_cutOf (l : Launch) {cA : ClassId} {D : va_G} {ad : Nat → Nat} (hI : Inj 17 ad) (σ : St) {kd k : Nat} (hkd : kd ≤ 2) (hk : k < 16) : CI l yX5_cutOf cX5_cutOf 4 .int 1 23 D [(cA, .int)] 17 ad (cellR cA ad) σ [.ref (ad 0), .int (nI kd), .int (nI k)] (fun r u => r = cutV (σ (100 + 2 * k)) kd (σ 0 0) ∧ u = σ) := by
  refine CI_of (by decide +kernel) (Nat.le_of_ble_eq_true rfl) (by simp [Value.category]) ?_
  intro p e s m below meth c C hM hK
  refine z_aload_n C dX5_cutOf_0 (pc' := 1) rfl rfl rfl ?_
  refine z_iload_n C dX5_cutOf_1 (pc' := 2) rfl rfl rfl ?_
  refine z_callI C hK (m_X5_most l hI _ (k := k) (by omega)) AdS_in aw_558 aw_560 aw_18 aw_32 aw_561 (by decide) kR_0 rfl (nA := 1) (by decide +kernel) rfl ⟨Nat.le_of_ble_eq_true rfl, Nat.le_of_ble_eq_true rfl⟩ (rest := []) rfl (Nat.le_of_ble_eq_true rfl) ⟨Nat.zero_le _, Nat.zero_le _⟩ dX5_cutOf_2 (pc' := 5) rfl (fun r_2 u_2 h_2 => ?_)
  obtain ⟨hr_2, hu_2⟩ := h_2
  rw [hr_2, hu_2]
  refine z_aload_n C dX5_cutOf_5 (pc' := 6) rfl rfl rfl ?_
  refine z_iload_n C dX5_cutOf_6 (pc' := 7) rfl rfl rfl ?_
  refine z_callI C hK (m_X5_least l hI _ (k := k) (by omega)) AdS_in aw_562 aw_564 aw_19 aw_32 aw_565 (by decide) kR_0 rfl (nA := 1) (by decide +kernel) rfl ⟨Nat.le_of_ble_eq_true rfl, Nat.le_of_ble_eq_true rfl⟩ (rest := [_]) rfl (Nat.le_of_ble_eq_true rfl) ⟨Nat.zero_le _, Nat.zero_le _⟩ dX5_cutOf_7 (pc' := 10) rfl (fun r_7 u_7 h_7 => ?_)
  obtain ⟨hr_7, hu_7⟩ := h_7
  rw [hr_7, hu_7]
  refine z_isub C dX5_cutOf_10 (pc' := 11) rfl rfl ?_
  refine z_istore_n (L' := [.ref _, .int _, .int _, .int _]) C dX5_cutOf_11 (pc' := 12) rfl rfl (by decide) (Nat.le_of_ble_eq_true rfl) rfl ?_
  refine z_iload_n C dX5_cutOf_12 (pc' := 13) rfl rfl rfl ?_
  refine z_if_le (tgt := 51) C dX5_cutOf_13 (pc' := 16) (by decide) rfl (fun c_13 => ?_) (fun c_13 => ?_)
  ·
    have n_13 : kd = 0 := (nI_le0 (by omega)).mp c_13
    refine z_iload_n C dX5_cutOf_51 (pc' := 52) rfl rfl rfl ?_
    refine z_iconst C dX5_cutOf_52 (pc' := 53) rfl (v := 2) (by decide) ?_
    refine z_icmp_ne (tgt := 64) C dX5_cutOf_53 (pc' := 56) (by decide) rfl (fun c_53 => ?_) (fun c_53 => ?_)
    ·
      have n_53 : ¬ kd = 2 := fun z9 => c_53 ((nI_eq (a := kd) (b := 2) (by omega) (by omega)).mpr z9)
      refine z_iload_n C dX5_cutOf_64 (pc' := 65) rfl rfl rfl ?_
      exact z_iret C hM dX5_cutOf_65 (by first | (exfalso; omega) | (simp [cutV, cut2, cut1, *]; done) | (simp [cutV, cut2, cut1, *]; rfl) | (simp [cutV, cut2, cut1, *]; congr))
    ·
      have n_53 : kd = 2 := (nI_eq (a := kd) (b := 2) (by omega) (by omega)).mp c_53
      refine z_iload_n C dX5_cutOf_56 (pc' := 57) rfl rfl rfl ?_
      refine z_iload_n C dX5_cutOf_57 (pc' := 58) rfl rfl rfl ?_
      refine z_iconst C dX5_cutOf_58 (pc' := 59) rfl (v := 2) (by decide) ?_
      refine z_irem C dX5_cutOf_59 (pc' := 60) rfl (by decide) rfl ?_
      refine z_iadd C dX5_cutOf_60 (pc' := 61) rfl rfl ?_
      refine z_goto C dX5_cutOf_61 (pc' := 65) (by decide) ?_
      exact z_iret C hM dX5_cutOf_65 (by first | (exfalso; omega) | (simp [cutV, cut2, cut1, *]; done) | (simp [cutV, cut2, cut1, *]; rfl) | (simp [cutV, cut2, cut1, *]; congr))
  ·
    have n_13 : ¬ kd = 0 := fun z9 => c_13 ((nI_le0 (by omega)).mpr z9)
    refine z_aload_n C dX5_cutOf_16 (pc' := 17) rfl rfl rfl ?_
    refine z_get C hK (by decide) kR_0 rfl inAX5 (k := 3) (by decide) aw_455 rfl dX5_cutOf_17 (pc' := 20) rfl ?_
    refine z_iconst C dX5_cutOf_20 (pc' := 21) rfl (v := 5) (by decide) ?_
    refine z_iload_n C dX5_cutOf_21 (pc' := 22) rfl rfl rfl ?_
    refine z_imul C dX5_cutOf_22 (pc' := 23) rfl (pk_mul (5) (k)) ?_
    refine z_iald C hK (by decide) kR_2 (t0 := 0) rfl (j := (5 * k + 0)) rfl (by omega) (by decide) (rDB _ (by omega)) dX5_cutOf_23 (pc' := 24) rfl ?_
    refine z_aload_n C dX5_cutOf_24 (pc' := 25) rfl rfl rfl ?_
    refine z_iload_n C dX5_cutOf_25 (pc' := 26) rfl rfl rfl ?_
    refine z_callI C hK (m_X5_most l hI _ (k := k) (by omega)) AdS_in aw_558 aw_560 aw_18 aw_32 aw_561 (by decide) kR_0 rfl (nA := 1) (by decide +kernel) rfl ⟨Nat.le_of_ble_eq_true rfl, Nat.le_of_ble_eq_true rfl⟩ (rest := [_]) rfl (Nat.le_of_ble_eq_true rfl) ⟨Nat.zero_le _, Nat.zero_le _⟩ dX5_cutOf_26 (pc' := 29) rfl (fun r_26 u_26 h_26 => ?_)
    obtain ⟨hr_26, hu_26⟩ := h_26
    rw [hr_26, hu_26]
    refine z_icmp_ne (tgt := 51) C dX5_cutOf_29 (pc' := 32) (by decide) rfl (fun c_29 => ?_) (fun c_29 => ?_)
    ·
      refine z_iload_n C dX5_cutOf_51 (pc' := 52) rfl rfl rfl ?_
      refine z_iconst C dX5_cutOf_52 (pc' := 53) rfl (v := 2) (by decide) ?_
      refine z_icmp_ne (tgt := 64) C dX5_cutOf_53 (pc' := 56) (by decide) rfl (fun c_53 => ?_) (fun c_53 => ?_)
      ·
        have n_53 : ¬ kd = 2 := fun z9 => c_53 ((nI_eq (a := kd) (b := 2) (by omega) (by omega)).mpr z9)
        refine z_iload_n C dX5_cutOf_64 (pc' := 65) rfl rfl rfl ?_
        exact z_iret C hM dX5_cutOf_65 (by first | (exfalso; omega) | (simp [cutV, cut2, cut1, *]; done) | (simp [cutV, cut2, cut1, *]; rfl) | (simp [cutV, cut2, cut1, *]; congr))
      ·
        have n_53 : kd = 2 := (nI_eq (a := kd) (b := 2) (by omega) (by omega)).mp c_53
        refine z_iload_n C dX5_cutOf_56 (pc' := 57) rfl rfl rfl ?_
        refine z_iload_n C dX5_cutOf_57 (pc' := 58) rfl rfl rfl ?_
        refine z_iconst C dX5_cutOf_58 (pc' := 59) rfl (v := 2) (by decide) ?_
        refine z_irem C dX5_cutOf_59 (pc' := 60) rfl (by decide) rfl ?_
        refine z_iadd C dX5_cutOf_60 (pc' := 61) rfl rfl ?_
        refine z_goto C dX5_cutOf_61 (pc' := 65) (by decide) ?_
        exact z_iret C hM dX5_cutOf_65 (by first | (exfalso; omega) | (simp [cutV, cut2, cut1, *]; done) | (simp [cutV, cut2, cut1, *]; rfl) | (simp [cutV, cut2, cut1, *]; congr))
    ·
      refine z_iload_n C dX5_cutOf_32 (pc' := 33) rfl rfl rfl ?_
      refine z_aload_n C dX5_cutOf_33 (pc' := 34) rfl rfl rfl ?_
      refine z_get C hK (by decide) kR_0 rfl inAX5 (k := 6) (by decide) aw_458 rfl dX5_cutOf_34 (pc' := 37) rfl ?_
      refine z_ternE (J := 50) (if σ 0 0 ≤ gdR (σ (100 + 2 * k)) 5 - ldR (σ (100 + 2 * k)) 5 then gdR (σ (100 + 2 * k)) 5 - ldR (σ (100 + 2 * k)) 5 - σ 0 0 else 0) 2 ?_ ?_
      ·
        try dsimp only [List.drop]
        refine z_istore_n (L' := [.ref _, .int _, .int _, .int _]) C dX5_cutOf_50 (pc' := 51) rfl rfl (by decide) (Nat.le_of_ble_eq_true rfl) rfl ?_
        refine z_iload_n C dX5_cutOf_51 (pc' := 52) rfl rfl rfl ?_
        refine z_iconst C dX5_cutOf_52 (pc' := 53) rfl (v := 2) (by decide) ?_
        refine z_icmp_ne (tgt := 64) C dX5_cutOf_53 (pc' := 56) (by decide) rfl (fun c_53 => ?_) (fun c_53 => ?_)
        ·
          have n_53 : ¬ kd = 2 := fun z9 => c_53 ((nI_eq (a := kd) (b := 2) (by omega) (by omega)).mpr z9)
          refine z_iload_n C dX5_cutOf_64 (pc' := 65) rfl rfl rfl ?_
          exact z_iret C hM dX5_cutOf_65 (by first | (exfalso; omega) | (simp [cutV, cut2, cut1, *]; done) | (simp [cutV, cut2, cut1, *]; rfl) | (simp [cutV, cut2, cut1, *]; congr))
        ·
          have n_53 : kd = 2 := (nI_eq (a := kd) (b := 2) (by omega) (by omega)).mp c_53
          refine z_iload_n C dX5_cutOf_56 (pc' := 57) rfl rfl rfl ?_
          refine z_iload_n C dX5_cutOf_57 (pc' := 58) rfl rfl rfl ?_
          refine z_iconst C dX5_cutOf_58 (pc' := 59) rfl (v := 2) (by decide) ?_
          refine z_irem C dX5_cutOf_59 (pc' := 60) rfl (by decide) rfl ?_
          refine z_iadd C dX5_cutOf_60 (pc' := 61) rfl rfl ?_
          refine z_goto C dX5_cutOf_61 (pc' := 65) (by decide) ?_
          exact z_iret C hM dX5_cutOf_65 (by first | (exfalso; omega) | (simp [cutV, cut2, cut1, *]; done) | (simp [cutV, cut2, cut1, *]; rfl) | (simp [cutV, cut2, cut1, *]; congr))
      · intro hj_50
        refine z_icmp_ge (tgt := 44) C dX5_cutOf_37 (pc' := 40) (by decide) rfl (fun c_37 => ?_) (fun c_37 => ?_)
        ·
          refine z_iload_n C dX5_cutOf_44 (pc' := 45) rfl rfl rfl ?_
          refine z_aload_n C dX5_cutOf_45 (pc' := 46) rfl rfl rfl ?_
          refine z_get C hK (by decide) kR_0 rfl inAX5 (k := 6) (by decide) aw_458 rfl dX5_cutOf_46 (pc' := 49) rfl ?_
          refine z_isub C dX5_cutOf_49 (pc' := 50) rfl rfl ?_
          exact hj_50 _ (by simp [*])
        ·
          refine z_iconst C dX5_cutOf_40 (pc' := 41) rfl (v := 0) (by decide) ?_
          refine z_goto C dX5_cutOf_41 (pc' := 50) (by decide) ?_
          exact hj_50 _ (by simp [*])
set_option maxRecDepth 100000 in
set_option maxHeartbeats 400000 in
theorem m_X5_turn (l : Launch) {cA : ClassId} {D : va_G} {ad : Nat → Nat} (hI : Inj 17 ad) (σ : St) (w q : Int32) : CI l yX5_turn cX5_turn 7 .int 2 46 D [(cA, .int)] 17 ad (cellR cA ad) σ [.ref (ad 0), .int w, .int q] (fun r u => (¬ (isW w ∧ inR q 0 2) ∧ r = -1 ∧ u = σ) ∨ (∃ k kd : Nat, k < 16 ∧ kd ≤ 2 ∧ w = nI k ∧ q = nI kd ∧ ((σ 1 k - 2 * cutV (σ (100 + 2 * k)) kd (σ 0 0) < 6000 ∧ r = -2 ∧ u = σ) ∨ (¬ σ 1 k - 2 * cutV (σ (100 + 2 * k)) kd (σ 0 0) < 6000 ∧ u = g_turn σ k (cutV (σ (100 + 2 * k)) kd (σ 0 0)) (ldR (σ (100 + 2 * k)) 5) ∧ r = u 1 k)))) := by
  refine CI_of (by decide +kernel) (Nat.le_of_ble_eq_true rfl) (by simp [Value.category]) ?_
  intro p e s m below meth c C hM hK
  refine z_aload_n C dX5_turn_0 (pc' := 1) rfl rfl rfl ?_
  refine z_iconst C dX5_turn_1 (pc' := 2) rfl (v := 0) (by decide) ?_
  refine z_put C hK hI AdS_in (by decide) kR_0 sR_th oR_th rfl inAX5 tyX5_ok nmX5 (k := 0) (by decide) aw_452 rfl (ty := .int) (by decide +kernel) rfl rfl (Nat.le_of_ble_eq_true rfl) dX5_turn_2 (pc' := 5) rfl ?_
  refine z_iload_n C dX5_turn_5 (pc' := 6) rfl rfl rfl ?_
  refine z_callS C (m_X5_isWheel l _) stabP aw_526 aw_527 aw_32 aw_528 (nA := 1) (by decide +kernel) rfl ⟨Nat.le_of_ble_eq_true rfl, Nat.le_of_ble_eq_true rfl⟩ (rest := []) rfl (Nat.le_of_ble_eq_true rfl) ⟨Nat.zero_le _, Nat.zero_le _⟩ dX5_turn_6 (pc' := 9) rfl (fun r_6 h_6 => ?_)
  rcases h_6 with ⟨rfl, h_6⟩ | ⟨rfl, h_6⟩
  ·
    obtain ⟨k, hk, rfl⟩ := isW_of h_6
    refine z_if_eq (tgt := 21) C dX5_turn_9 (pc' := 12) (by decide) rfl (fun q => absurd q (by decide)) (fun _ => ?_)
    refine z_iload_n C dX5_turn_12 (pc' := 13) rfl rfl rfl ?_
    refine z_iconst C dX5_turn_13 (pc' := 14) rfl (v := 0) (by decide) ?_
    refine z_iconst C dX5_turn_14 (pc' := 15) rfl (v := 2) (by decide) ?_
    refine z_callS C (m_X5_in l _ _ _) stabP aw_529 aw_530 aw_32 aw_531 (nA := 3) (by decide +kernel) rfl ⟨Nat.le_of_ble_eq_true rfl, Nat.le_of_ble_eq_true rfl⟩ (rest := []) rfl (Nat.le_of_ble_eq_true rfl) ⟨Nat.zero_le _, Nat.zero_le _⟩ dX5_turn_15 (pc' := 18) rfl (fun r_15 h_15 => ?_)
    rcases h_15 with ⟨rfl, h_15⟩ | ⟨rfl, h_15⟩
    ·
      obtain ⟨kd, hkd, rfl⟩ := inR_of (n := 2) (by omega) h_15
      refine z_if_ne (tgt := 23) C dX5_turn_18 (pc' := 21) (by decide) rfl (fun _ => ?_) (fun q => absurd q (by decide))
      refine z_aload_n C dX5_turn_23 (pc' := 24) rfl rfl rfl ?_
      refine z_iload_n C dX5_turn_24 (pc' := 25) rfl rfl rfl ?_
      refine z_iload_n C dX5_turn_25 (pc' := 26) rfl rfl rfl ?_
      refine z_callI C hK (m_X5_cutOf l hI _ (kd := kd) (k := k) (by omega) (by omega)) AdS_in aw_554 aw_556 aw_17 aw_32 aw_557 (by decide) kR_0 rfl (nA := 2) (by decide +kernel) rfl ⟨Nat.le_of_ble_eq_true rfl, Nat.le_of_ble_eq_true rfl⟩ (rest := []) rfl (Nat.le_of_ble_eq_true rfl) ⟨Nat.zero_le _, Nat.zero_le _⟩ dX5_turn_26 (pc' := 29) rfl (fun r_26 u_26 h_26 => ?_)
      obtain ⟨hr_26, hu_26⟩ := h_26
      rw [hr_26, hu_26]
      refine z_istore_n (L' := [.ref _, .int _, .int _, .int _]) C dX5_turn_29 (pc' := 30) rfl rfl (by decide) (Nat.le_of_ble_eq_true rfl) rfl ?_
      refine z_aload_n C dX5_turn_30 (pc' := 31) rfl rfl rfl ?_
      refine z_get C hK (by decide) kR_0 rfl inAX5 (k := 2) (by decide) aw_454 rfl dX5_turn_31 (pc' := 34) rfl ?_
      refine z_iload_n C dX5_turn_34 (pc' := 35) rfl rfl rfl ?_
      refine z_iald C hK (by decide) kR_1 (t0 := 0) rfl (j := k) rfl (by omega) (by decide) rfl dX5_turn_35 (pc' := 36) rfl ?_
      refine z_iconst C dX5_turn_36 (pc' := 37) rfl (v := 2) (by decide) ?_
      refine z_iload_n C dX5_turn_37 (pc' := 38) rfl rfl rfl ?_
      refine z_imul C dX5_turn_38 (pc' := 39) rfl rfl ?_
      refine z_isub C dX5_turn_39 (pc' := 40) rfl rfl ?_
      refine z_sipush C dX5_turn_40 (pc' := 43) rfl (v := 6000) (by decide) ?_
      refine z_icmp_ge (tgt := 49) C dX5_turn_43 (pc' := 46) (by decide) rfl (fun c_43 => ?_) (fun c_43 => ?_)
      ·
        refine z_aload_n C dX5_turn_49 (pc' := 50) rfl rfl rfl ?_
        refine z_iload_n C dX5_turn_50 (pc' := 51) rfl rfl rfl ?_
        refine z_callI C hK (m_X5_least l hI _ (k := k) (by omega)) AdS_in aw_562 aw_564 aw_19 aw_32 aw_565 (by decide) kR_0 rfl (nA := 1) (by decide +kernel) rfl ⟨Nat.le_of_ble_eq_true rfl, Nat.le_of_ble_eq_true rfl⟩ (rest := []) rfl (Nat.le_of_ble_eq_true rfl) ⟨Nat.zero_le _, Nat.zero_le _⟩ dX5_turn_51 (pc' := 54) rfl (fun r_51 u_51 h_51 => ?_)
        obtain ⟨hr_51, hu_51⟩ := h_51
        rw [hr_51, hu_51]
        refine z_iload_n C dX5_turn_54 (pc' := 55) rfl rfl rfl ?_
        refine z_iadd C dX5_turn_55 (pc' := 56) rfl rfl ?_
        refine z_istore (L' := [.ref _, .int _, .int _, .int _, .int _]) C dX5_turn_56 (pc' := 58) rfl (by decide) (Nat.le_of_ble_eq_true rfl) rfl ?_
        refine z_iconst C dX5_turn_58 (pc' := 59) rfl (v := 0) (by decide) ?_
        refine z_istore (L' := [.ref _, .int _, .int _, .int _, .int _, .int _]) C dX5_turn_59 (pc' := 61) rfl (by decide) (Nat.le_of_ble_eq_true rfl) rfl ?_
        refine z_loop (τ := Nat) (fun i => 5 - i) (fun i => i ≤ 5) (fun i => tkL σ (100 + 2 * k) (ldR (σ (100 + 2 * k)) 5 + cutV (σ (100 + 2 * k)) kd (σ 0 0)) i) (fun i => [.ref (ad 0), .int (nI k), .int (nI kd), .int (cutV (σ (100 + 2 * k)) kd (σ 0 0)), .int (ldR (σ (100 + 2 * k)) 5 + cutV (σ (100 + 2 * k)) kd (σ 0 0)), .int (nI i)]) 0 (by omega) rfl ⟨_, rfl⟩ ?_
        intro i hi ih61
        try dsimp only at hi ih61 ⊢
        refine z_iload C dX5_turn_61 (pc' := 63) rfl rfl ?_
        refine z_iconst C dX5_turn_63 (pc' := 64) rfl (v := 5) (by decide) ?_
        refine z_icmp_ge (tgt := 111) C dX5_turn_64 (pc' := 67) (by decide) rfl (fun c_64 => ?_) (fun c_64 => ?_)
        ·
          have n_64 : 5 ≤ i := ge_of_le (N := 5) (k := i) c_64 (by omega) (by omega)
          obtain rfl : i = 5 := (by omega)
          refine z_aload_n C dX5_turn_111 (pc' := 112) rfl rfl rfl ?_
          refine z_get C hK (by decide) kR_0 rfl inAX5 (k := 2) (by decide) aw_454 rfl dX5_turn_112 (pc' := 115) rfl ?_
          refine z_iload_n C dX5_turn_115 (pc' := 116) rfl rfl rfl ?_
          refine z_dup2 C dX5_turn_116 (pc' := 117) rfl rfl rfl ?_
          refine z_iald C hK (by decide) kR_1 (t0 := 0) rfl (j := k) rfl (by omega) (by decide) rfl dX5_turn_117 (pc' := 118) rfl ?_
          refine z_iconst C dX5_turn_118 (pc' := 119) rfl (v := 2) (by decide) ?_
          refine z_iload_n C dX5_turn_119 (pc' := 120) rfl rfl rfl ?_
          refine z_imul C dX5_turn_120 (pc' := 121) rfl rfl ?_
          refine z_isub C dX5_turn_121 (pc' := 122) rfl rfl ?_
          refine z_iast C hK hI AdS_in (by decide) kR_1 sR_a1 oR_a1 (t0 := 0) rfl (j := k) rfl (by omega) (by decide) dX5_turn_122 (pc' := 123) rfl ?_
          refine z_aload_n C dX5_turn_123 (pc' := 124) rfl rfl rfl ?_
          refine z_get C hK (by decide) kR_0 rfl inAX5 (k := 5) (by decide) aw_457 rfl dX5_turn_124 (pc' := 127) rfl ?_
          refine z_iload_n C dX5_turn_127 (pc' := 128) rfl rfl rfl ?_
          refine z_iconst C dX5_turn_128 (pc' := 129) rfl (v := 0) (by decide) ?_
          refine z_iast C hK hI AdS_in (by decide) kR_4 sR_a4 oR_a4 (t0 := 0) rfl (j := k) rfl (by omega) (by decide) dX5_turn_129 (pc' := 130) rfl ?_
          refine z_aload_n C dX5_turn_130 (pc' := 131) rfl rfl rfl ?_
          refine z_dup C dX5_turn_131 (pc' := 132) rfl rfl ?_
          refine z_get C hK (by decide) kR_0 rfl inAX5 (k := 7) (by decide) aw_459 rfl dX5_turn_132 (pc' := 135) rfl ?_
          refine z_iconst C dX5_turn_135 (pc' := 136) rfl (v := 1) (by decide) ?_
          refine z_iadd C dX5_turn_136 (pc' := 137) rfl rfl ?_
          refine z_put C hK hI AdS_in (by decide) kR_0 sR_02 oR_02 rfl inAX5 tyX5_ok nmX5 (k := 7) (by decide) aw_459 rfl (ty := .int) (by decide +kernel) rfl rfl (Nat.le_of_ble_eq_true rfl) dX5_turn_137 (pc' := 140) rfl ?_
          refine z_aload_n C dX5_turn_140 (pc' := 141) rfl rfl rfl ?_
          refine z_get C hK (by decide) kR_0 rfl inAX5 (k := 2) (by decide) aw_454 rfl dX5_turn_141 (pc' := 144) rfl ?_
          refine z_iload_n C dX5_turn_144 (pc' := 145) rfl rfl rfl ?_
          refine z_iald C hK (by decide) kR_1 (t0 := 0) rfl (j := k) rfl (by omega) (by decide) rfl dX5_turn_145 (pc' := 146) rfl ?_
          exact z_iret C hM dX5_turn_146 (Or.inr ⟨k, kd, hk, by omega, rfl, rfl, Or.inr ⟨i32_nge c_43, rfl, rfl⟩⟩)
        ·
          have n_64 : i < 5 := lt_of_nle (N := 5) (k := i) c_64 (by omega) (by omega)
          refine z_aload_n C dX5_turn_67 (pc' := 68) rfl rfl rfl ?_
          refine z_get C hK (by decide) kR_0 rfl inAX5 (k := 3) (by decide) aw_455 rfl dX5_turn_68 (pc' := 71) rfl ?_
          refine z_iconst C dX5_turn_71 (pc' := 72) rfl (v := 5) (by decide) ?_
          refine z_iload_n C dX5_turn_72 (pc' := 73) rfl rfl rfl ?_
          refine z_imul C dX5_turn_73 (pc' := 74) rfl (pk_mul (5) (k)) ?_
          refine z_iload C dX5_turn_74 (pc' := 76) rfl rfl ?_
          refine z_iadd C dX5_turn_76 (pc' := 77) rfl (nI_add ((5 * k)) (i)) ?_
          refine z_iald C hK (by decide) kR_2 (t0 := 0) rfl (j := ((5 * k) + i)) rfl (by omega) (by decide) (rDB _ (by omega)) dX5_turn_77 (pc' := 78) rfl ?_
          refine z_iload C dX5_turn_78 (pc' := 80) rfl rfl ?_
          refine z_isub C dX5_turn_80 (pc' := 81) rfl rfl ?_
          refine z_istore (L' := [.ref _, .int _, .int _, .int _, .int _, .int _, .int _]) C dX5_turn_81 (pc' := 83) rfl (by decide) (Nat.le_of_ble_eq_true rfl) rfl ?_
          refine z_aload_n C dX5_turn_83 (pc' := 84) rfl rfl rfl ?_
          refine z_get C hK (by decide) kR_0 rfl inAX5 (k := 3) (by decide) aw_455 rfl dX5_turn_84 (pc' := 87) rfl ?_
          refine z_iconst C dX5_turn_87 (pc' := 88) rfl (v := 5) (by decide) ?_
          refine z_iload_n C dX5_turn_88 (pc' := 89) rfl rfl rfl ?_
          refine z_imul C dX5_turn_89 (pc' := 90) rfl (pk_mul (5) (k)) ?_
          refine z_iload C dX5_turn_90 (pc' := 92) rfl rfl ?_
          refine z_iadd C dX5_turn_92 (pc' := 93) rfl (nI_add ((5 * k)) (i)) ?_
          refine z_iload C dX5_turn_93 (pc' := 95) rfl rfl ?_
          refine z_ternE (J := 104) (mx 0 (tkL σ (100 + 2 * k) (ldR (σ (100 + 2 * k)) 5 + cutV (σ (100 + 2 * k)) kd (σ 0 0)) i (100 + 2 * k) i - (ldR (σ (100 + 2 * k)) 5 + cutV (σ (100 + 2 * k)) kd (σ 0 0)))) 1 ?_ ?_
          ·
            try dsimp only [List.drop]
            refine z_iast C hK hI AdS_in (by decide) kR_2 (kR_D (by omega)) (cellR_upD (by omega)) (t0 := 0) rfl (j := ((5 * k) + i)) rfl (by omega) (by decide) dX5_turn_104 (pc' := 105) rfl ?_
            refine z_iinc (L' := [.ref _, .int _, .int _, .int _, .int _, .int _, .int _]) C dX5_turn_105 (pc' := 108) rfl rfl (iinc1 _) (by decide) (Nat.le_of_ble_eq_true rfl) rfl ?_
            refine z_goto C dX5_turn_108 (pc' := 61) (by decide) ?_
            exact z_back 6 (ih61 (i + 1) (by omega) (by omega)) rfl rfl
          · intro hj_104
            refine z_if_ge (tgt := 102) C dX5_turn_95 (pc' := 98) (by decide) rfl (fun c_95 => ?_) (fun c_95 => ?_)
            ·
              refine z_iload C dX5_turn_102 (pc' := 104) rfl rfl ?_
              exact hj_104 _ (by first | exact mx_ge c_95 | exact mx_lt c_95)
            ·
              refine z_iconst C dX5_turn_98 (pc' := 99) rfl (v := 0) (by decide) ?_
              refine z_goto C dX5_turn_99 (pc' := 104) (by decide) ?_
              exact hj_104 _ (by first | exact mx_ge c_95 | exact mx_lt c_95)
      ·
        refine z_bipush C dX5_turn_46 (pc' := 48) rfl (v := (-2)) (by decide) ?_
        exact z_iret C hM dX5_turn_48 (Or.inr ⟨k, kd, hk, by omega, rfl, rfl, Or.inl ⟨by clear C hM hK; simp only [i32_le, i32_lt] at *; omega, rfl, rfl⟩⟩)
    ·
      refine z_if_ne (tgt := 23) C dX5_turn_18 (pc' := 21) (by decide) rfl (fun q => absurd q (by decide)) (fun _ => ?_)
      refine z_iconst C dX5_turn_21 (pc' := 22) rfl (v := (-1)) (by decide) ?_
      exact z_iret C hM dX5_turn_22 (Or.inl ⟨fun z => absurd z (by simp [*]), rfl, rfl⟩)
  ·
    refine z_if_eq (tgt := 21) C dX5_turn_9 (pc' := 12) (by decide) rfl (fun _ => ?_) (fun q => absurd q (by decide))
    refine z_iconst C dX5_turn_21 (pc' := 22) rfl (v := (-1)) (by decide) ?_
    exact z_iret C hM dX5_turn_22 (Or.inl ⟨fun z => absurd z (by simp [*]), rfl, rfl⟩)
set_option maxRecDepth 100000 in
set_option maxHeartbeats 400000 in
theorem m_X5_miles (l : Launch) {cA : ClassId} {D : va_G} {ad : Nat → Nat} (hI : Inj 17 ad) (σ : St) (n : Int32) : CI l yX5_miles cX5_miles 7 .int 1 22 D [(cA, .int)] 17 ad (cellR cA ad) σ [.ref (ad 0), .int n] (fun r u => (¬ inR n 1 500 ∧ r = -1 ∧ u = σ) ∨ (inR n 1 500 ∧ r = dueR σ n 16 ∧ u = mlS σ n 16)) := by
  refine CI_of (by decide +kernel) (Nat.le_of_ble_eq_true rfl) (by simp [Value.category]) ?_
  intro p e s m below meth c C hM hK
  refine z_aload_n C dX5_miles_0 (pc' := 1) rfl rfl rfl ?_
  refine z_iconst C dX5_miles_1 (pc' := 2) rfl (v := 0) (by decide) ?_
  refine z_put C hK hI AdS_in (by decide) kR_0 sR_th oR_th rfl inAX5 tyX5_ok nmX5 (k := 0) (by decide) aw_452 rfl (ty := .int) (by decide +kernel) rfl rfl (Nat.le_of_ble_eq_true rfl) dX5_miles_2 (pc' := 5) rfl ?_
  refine z_iload_n C dX5_miles_5 (pc' := 6) rfl rfl rfl ?_
  refine z_iconst C dX5_miles_6 (pc' := 7) rfl (v := 1) (by decide) ?_
  refine z_sipush C dX5_miles_7 (pc' := 10) rfl (v := 500) (by decide) ?_
  refine z_callS C (m_X5_in l _ _ _) stabP aw_529 aw_530 aw_32 aw_531 (nA := 3) (by decide +kernel) rfl ⟨Nat.le_of_ble_eq_true rfl, Nat.le_of_ble_eq_true rfl⟩ (rest := []) rfl (Nat.le_of_ble_eq_true rfl) ⟨Nat.zero_le _, Nat.zero_le _⟩ dX5_miles_10 (pc' := 13) rfl (fun r_10 h_10 => ?_)
  rcases h_10 with ⟨rfl, h_10⟩ | ⟨rfl, h_10⟩
  ·
    refine z_if_ne (tgt := 18) C dX5_miles_13 (pc' := 16) (by decide) rfl (fun _ => ?_) (fun q => absurd q (by decide))
    refine z_iconst C dX5_miles_18 (pc' := 19) rfl (v := 0) (by decide) ?_
    refine z_istore_n (L' := [.ref _, .int _, .int _]) C dX5_miles_19 (pc' := 20) rfl rfl (by decide) (Nat.le_of_ble_eq_true rfl) rfl ?_
    refine z_iconst C dX5_miles_20 (pc' := 21) rfl (v := 0) (by decide) ?_
    refine z_istore_n (L' := [.ref _, .int _, .int _, .int _]) C dX5_miles_21 (pc' := 22) rfl rfl (by decide) (Nat.le_of_ble_eq_true rfl) rfl ?_
    refine z_loop (τ := Nat) (fun w => 16 - w) (fun w => w ≤ 16) (fun w => mlS σ n w) (fun w => [.ref (ad 0), .int n, .int (dueR σ n w), .int (nI w)]) 0 (by omega) rfl ⟨_, rfl⟩ ?_
    intro w hw ih22
    try dsimp only at hw ih22 ⊢
    refine z_iload_n C dX5_miles_22 (pc' := 23) rfl rfl rfl ?_
    refine z_bipush C dX5_miles_23 (pc' := 25) rfl (v := 16) (by decide) ?_
    refine z_icmp_ge (tgt := 187) C dX5_miles_25 (pc' := 28) (by decide) rfl (fun c_25 => ?_) (fun c_25 => ?_)
    ·
      have n_25 : 16 ≤ w := ge_of_le (N := 16) (k := w) c_25 (by omega) (by omega)
      obtain rfl : w = 16 := (by omega)
      refine z_iload_n C dX5_miles_187 (pc' := 188) rfl rfl rfl ?_
      exact z_iret C hM dX5_miles_188 (Or.inr ⟨by assumption, rfl, rfl⟩)
    ·
      have n_25 : w < 16 := lt_of_nle (N := 16) (k := w) c_25 (by omega) (by omega)
      refine z_aload_n C dX5_miles_28 (pc' := 29) rfl rfl rfl ?_
      refine z_get C hK (by decide) kR_0 rfl inAX5 (k := 4) (by decide) aw_456 rfl dX5_miles_29 (pc' := 32) rfl ?_
      refine z_iload_n C dX5_miles_32 (pc' := 33) rfl rfl rfl ?_
      refine z_iald C hK (by decide) kR_3 (t0 := 0) rfl (j := w) rfl (by omega) (by decide) rfl dX5_miles_33 (pc' := 34) rfl ?_
      refine z_iload_n C dX5_miles_34 (pc' := 35) rfl rfl rfl ?_
      refine z_imul C dX5_miles_35 (pc' := 36) rfl rfl ?_
      refine z_bipush C dX5_miles_36 (pc' := 38) rfl (v := 100) (by decide) ?_
      refine z_idiv C dX5_miles_38 (pc' := 39) rfl (by decide) rfl ?_
      refine z_istore (L' := [.ref _, .int _, .int _, .int _, .int _]) C dX5_miles_39 (pc' := 41) rfl (by decide) (Nat.le_of_ble_eq_true rfl) rfl ?_
      refine z_iconst C dX5_miles_41 (pc' := 42) rfl (v := 0) (by decide) ?_
      refine z_istore (L' := [.ref _, .int _, .int _, .int _, .int _, .int _]) C dX5_miles_42 (pc' := 44) rfl (by decide) (Nat.le_of_ble_eq_true rfl) rfl ?_
      refine z_loop (τ := Nat) (fun i => 5 - i) (fun i => i ≤ 5) (fun i => rnL (mlS σ n w) (100 + 2 * w) (wornF (mlS σ n w) w n) i) (fun i => [.ref (ad 0), .int n, .int (dueR σ n w), .int (nI w), .int (wornF (mlS σ n w) w n), .int (nI i)]) 0 (by omega) rfl ⟨_, rfl⟩ ?_
      intro i hi ih44
      try dsimp only at hi ih44 ⊢
      refine z_iload C dX5_miles_44 (pc' := 46) rfl rfl ?_
      refine z_iconst C dX5_miles_46 (pc' := 47) rfl (v := 5) (by decide) ?_
      refine z_icmp_ge (tgt := 115) C dX5_miles_47 (pc' := 50) (by decide) rfl (fun c_47 => ?_) (fun c_47 => ?_)
      ·
        have n_47 : 5 ≤ i := ge_of_le (N := 5) (k := i) c_47 (by omega) (by omega)
        obtain rfl : i = 5 := (by omega)
        refine z_aload_n C dX5_miles_115 (pc' := 116) rfl rfl rfl ?_
        refine z_get C hK (by decide) kR_0 rfl inAX5 (k := 2) (by decide) aw_454 rfl dX5_miles_116 (pc' := 119) rfl ?_
        refine z_iload_n C dX5_miles_119 (pc' := 120) rfl rfl rfl ?_
        refine z_aload_n C dX5_miles_120 (pc' := 121) rfl rfl rfl ?_
        refine z_get C hK (by decide) kR_0 rfl inAX5 (k := 2) (by decide) aw_454 rfl dX5_miles_121 (pc' := 124) rfl ?_
        refine z_iload_n C dX5_miles_124 (pc' := 125) rfl rfl rfl ?_
        refine z_iald C hK (by decide) kR_1 (t0 := 0) rfl (j := w) rfl (by omega) (by decide) rfl dX5_miles_125 (pc' := 126) rfl ?_
        refine z_iload C dX5_miles_126 (pc' := 128) rfl rfl ?_
        refine z_isub C dX5_miles_128 (pc' := 129) rfl rfl ?_
        refine z_sipush C dX5_miles_129 (pc' := 132) rfl (v := 6000) (by decide) ?_
        refine z_ternE (J := 150) (mx 6000 (rn1 (mlS σ n w) w n 1 w - wornF (mlS σ n w) w n)) 2 ?_ ?_
        ·
          try dsimp only [List.drop]
          refine z_iast C hK hI AdS_in (by decide) kR_1 sR_a1 oR_a1 (t0 := 0) rfl (j := w) rfl (by omega) (by decide) dX5_miles_150 (pc' := 151) rfl ?_
          refine z_aload_n C dX5_miles_151 (pc' := 152) rfl rfl rfl ?_
          refine z_get C hK (by decide) kR_0 rfl inAX5 (k := 5) (by decide) aw_457 rfl dX5_miles_152 (pc' := 155) rfl ?_
          refine z_iload_n C dX5_miles_155 (pc' := 156) rfl rfl rfl ?_
          refine z_dup2 C dX5_miles_156 (pc' := 157) rfl rfl rfl ?_
          refine z_iald C hK (by decide) kR_4 (t0 := 0) rfl (j := w) rfl (by omega) (by decide) rfl dX5_miles_157 (pc' := 158) rfl ?_
          refine z_iload_n C dX5_miles_158 (pc' := 159) rfl rfl rfl ?_
          refine z_iadd C dX5_miles_159 (pc' := 160) rfl rfl ?_
          refine z_iast C hK hI AdS_in (by decide) kR_4 sR_a4 oR_a4 (t0 := 0) rfl (j := w) rfl (by omega) (by decide) dX5_miles_160 (pc' := 161) rfl ?_
          refine z_iload_n C dX5_miles_161 (pc' := 162) rfl rfl rfl ?_
          refine z_aload_n C dX5_miles_162 (pc' := 163) rfl rfl rfl ?_
          refine z_get C hK (by decide) kR_0 rfl inAX5 (k := 5) (by decide) aw_457 rfl dX5_miles_163 (pc' := 166) rfl ?_
          refine z_iload_n C dX5_miles_166 (pc' := 167) rfl rfl rfl ?_
          refine z_iald C hK (by decide) kR_4 (t0 := 0) rfl (j := w) rfl (by omega) (by decide) rfl dX5_miles_167 (pc' := 168) rfl ?_
          refine z_sipush C dX5_miles_168 (pc' := 171) rfl (v := 1000) (by decide) ?_
          refine z_ternE (J := 179) (if runS (mlS σ n w) w n 4 w < 1000 then 0 else 1) 2 ?_ ?_
          ·
            try dsimp only [List.drop]
            refine z_iadd C dX5_miles_179 (pc' := 180) rfl rfl ?_
            refine z_istore_n (L' := [.ref _, .int _, .int _, .int _, .int _, .int _]) C dX5_miles_180 (pc' := 181) rfl rfl (by decide) (Nat.le_of_ble_eq_true rfl) rfl ?_
            refine z_iinc (L' := [.ref _, .int _, .int _, .int _, .int _, .int _]) C dX5_miles_181 (pc' := 184) rfl rfl (iinc1 _) (by decide) (Nat.le_of_ble_eq_true rfl) rfl ?_
            refine z_goto C dX5_miles_184 (pc' := 22) (by decide) ?_
            exact z_back 4 (ih22 (w + 1) (by omega) (by omega)) rfl rfl
          · intro hj_179
            refine z_icmp_lt (tgt := 178) C dX5_miles_171 (pc' := 174) (by decide) rfl (fun c_171 => ?_) (fun c_171 => ?_)
            ·
              refine z_iconst C dX5_miles_178 (pc' := 179) rfl (v := 0) (by decide) ?_
              exact hj_179 _ (by first | exact (if_pos c_171).symm | exact (if_neg c_171).symm)
            ·
              refine z_iconst C dX5_miles_174 (pc' := 175) rfl (v := 1) (by decide) ?_
              refine z_goto C dX5_miles_175 (pc' := 179) (by decide) ?_
              exact hj_179 _ (by first | exact (if_pos c_171).symm | exact (if_neg c_171).symm)
        · intro hj_150
          refine z_icmp_ge (tgt := 141) C dX5_miles_132 (pc' := 135) (by decide) rfl (fun c_132 => ?_) (fun c_132 => ?_)
          ·
            refine z_aload_n C dX5_miles_141 (pc' := 142) rfl rfl rfl ?_
            refine z_get C hK (by decide) kR_0 rfl inAX5 (k := 2) (by decide) aw_454 rfl dX5_miles_142 (pc' := 145) rfl ?_
            refine z_iload_n C dX5_miles_145 (pc' := 146) rfl rfl rfl ?_
            refine z_iald C hK (by decide) kR_1 (t0 := 0) rfl (j := w) rfl (by omega) (by decide) rfl dX5_miles_146 (pc' := 147) rfl ?_
            refine z_iload C dX5_miles_147 (pc' := 149) rfl rfl ?_
            refine z_isub C dX5_miles_149 (pc' := 150) rfl rfl ?_
            exact hj_150 _ (by first | exact mx_ge c_132 | exact mx_lt c_132)
          ·
            refine z_sipush C dX5_miles_135 (pc' := 138) rfl (v := 6000) (by decide) ?_
            refine z_goto C dX5_miles_138 (pc' := 150) (by decide) ?_
            exact hj_150 _ (by first | exact mx_ge c_132 | exact mx_lt c_132)
      ·
        have n_47 : i < 5 := lt_of_nle (N := 5) (k := i) c_47 (by omega) (by omega)
        refine z_aload_n C dX5_miles_50 (pc' := 51) rfl rfl rfl ?_
        refine z_get C hK (by decide) kR_0 rfl inAX5 (k := 3) (by decide) aw_455 rfl dX5_miles_51 (pc' := 54) rfl ?_
        refine z_iconst C dX5_miles_54 (pc' := 55) rfl (v := 5) (by decide) ?_
        refine z_iload_n C dX5_miles_55 (pc' := 56) rfl rfl rfl ?_
        refine z_imul C dX5_miles_56 (pc' := 57) rfl (pk_mul (5) (w)) ?_
        refine z_iload C dX5_miles_57 (pc' := 59) rfl rfl ?_
        refine z_iadd C dX5_miles_59 (pc' := 60) rfl (nI_add ((5 * w)) (i)) ?_
        refine z_iald C hK (by decide) kR_2 (t0 := 0) rfl (j := ((5 * w) + i)) rfl (by omega) (by decide) (rDB _ (by omega)) dX5_miles_60 (pc' := 61) rfl ?_
        refine z_iload C dX5_miles_61 (pc' := 63) rfl rfl ?_
        refine z_ternE (J := 81) (if i = 0 ∨ i = 4 then wornF (mlS σ n w) w n / 2 else wornF (mlS σ n w) w n) 1 ?_ ?_
        ·
          try dsimp only [List.drop]
          refine z_iadd C dX5_miles_81 (pc' := 82) rfl rfl ?_
          refine z_istore (L' := [.ref _, .int _, .int _, .int _, .int _, .int _, .int _]) C dX5_miles_82 (pc' := 84) rfl (by decide) (Nat.le_of_ble_eq_true rfl) rfl ?_
          refine z_aload_n C dX5_miles_84 (pc' := 85) rfl rfl rfl ?_
          refine z_get C hK (by decide) kR_0 rfl inAX5 (k := 3) (by decide) aw_455 rfl dX5_miles_85 (pc' := 88) rfl ?_
          refine z_iconst C dX5_miles_88 (pc' := 89) rfl (v := 5) (by decide) ?_
          refine z_iload_n C dX5_miles_89 (pc' := 90) rfl rfl rfl ?_
          refine z_imul C dX5_miles_90 (pc' := 91) rfl (pk_mul (5) (w)) ?_
          refine z_iload C dX5_miles_91 (pc' := 93) rfl rfl ?_
          refine z_iadd C dX5_miles_93 (pc' := 94) rfl (nI_add ((5 * w)) (i)) ?_
          refine z_iload C dX5_miles_94 (pc' := 96) rfl rfl ?_
          refine z_bipush C dX5_miles_96 (pc' := 98) rfl (v := 99) (by decide) ?_
          refine z_ternE (J := 108) (mn 99 (rnL (mlS σ n w) (100 + 2 * w) (wornF (mlS σ n w) w n) i (100 + 2 * w) i + if i = 0 ∨ i = 4 then wornF (mlS σ n w) w n / 2 else wornF (mlS σ n w) w n)) 2 ?_ ?_
          ·
            try dsimp only [List.drop]
            refine z_iast C hK hI AdS_in (by decide) kR_2 (kR_D (by omega)) (cellR_upD (by omega)) (t0 := 0) rfl (j := ((5 * w) + i)) rfl (by omega) (by decide) dX5_miles_108 (pc' := 109) rfl ?_
            refine z_iinc (L' := [.ref _, .int _, .int _, .int _, .int _, .int _, .int _]) C dX5_miles_109 (pc' := 112) rfl rfl (iinc1 _) (by decide) (Nat.le_of_ble_eq_true rfl) rfl ?_
            refine z_goto C dX5_miles_112 (pc' := 44) (by decide) ?_
            exact z_back 6 (ih44 (i + 1) (by omega) (by omega)) rfl rfl
          · intro hj_108
            refine z_icmp_le (tgt := 106) C dX5_miles_98 (pc' := 101) (by decide) rfl (fun c_98 => ?_) (fun c_98 => ?_)
            ·
              refine z_iload C dX5_miles_106 (pc' := 108) rfl rfl ?_
              exact hj_108 _ (by first | exact mn_le c_98 | exact mn_gt c_98)
            ·
              refine z_bipush C dX5_miles_101 (pc' := 103) rfl (v := 99) (by decide) ?_
              refine z_goto C dX5_miles_103 (pc' := 108) (by decide) ?_
              exact hj_108 _ (by first | exact mn_le c_98 | exact mn_gt c_98)
        · intro hj_81
          refine z_if_eq (tgt := 72) C dX5_miles_63 (pc' := 66) (by decide) rfl (fun c_63 => ?_) (fun c_63 => ?_)
          ·
            have n_63 : i = 0 := (nI_eq0 (by omega)).mp c_63
            refine z_iload C dX5_miles_72 (pc' := 74) rfl rfl ?_
            refine z_iconst C dX5_miles_74 (pc' := 75) rfl (v := 2) (by decide) ?_
            refine z_idiv C dX5_miles_75 (pc' := 76) rfl (by decide) rfl ?_
            refine z_goto C dX5_miles_76 (pc' := 81) (by decide) ?_
            exact hj_81 _ (by simp [*])
          ·
            have n_63 : ¬ i = 0 := fun z9 => c_63 ((nI_eq0 (by omega)).mpr z9)
            refine z_iload C dX5_miles_66 (pc' := 68) rfl rfl ?_
            refine z_iconst C dX5_miles_68 (pc' := 69) rfl (v := 4) (by decide) ?_
            refine z_icmp_ne (tgt := 79) C dX5_miles_69 (pc' := 72) (by decide) rfl (fun c_69 => ?_) (fun c_69 => ?_)
            ·
              have n_69 : ¬ i = 4 := fun z9 => c_69 ((nI_eq (a := i) (b := 4) (by omega) (by omega)).mpr z9)
              refine z_iload C dX5_miles_79 (pc' := 81) rfl rfl ?_
              exact hj_81 _ (by simp [*])
            ·
              have n_69 : i = 4 := (nI_eq (a := i) (b := 4) (by omega) (by omega)).mp c_69
              refine z_iload C dX5_miles_72 (pc' := 74) rfl rfl ?_
              refine z_iconst C dX5_miles_74 (pc' := 75) rfl (v := 2) (by decide) ?_
              refine z_idiv C dX5_miles_75 (pc' := 76) rfl (by decide) rfl ?_
              refine z_goto C dX5_miles_76 (pc' := 81) (by decide) ?_
              exact hj_81 _ (by simp [*])
  ·
    refine z_if_ne (tgt := 18) C dX5_miles_13 (pc' := 16) (by decide) rfl (fun q => absurd q (by decide)) (fun _ => ?_)
    refine z_iconst C dX5_miles_16 (pc' := 17) rfl (v := (-1)) (by decide) ?_
    exact z_iret C hM dX5_miles_17 (Or.inl ⟨by assumption, rfl, rfl⟩)
set_option maxRecDepth 100000 in
set_option maxHeartbeats 400000 in
theorem m_X5_isFlat (l : Launch) {cA : ClassId} {D : va_G} {ad : Nat → Nat} (hI : Inj 17 ad) (σ : St) {k : Nat} (hk : k < 16) {p9 : Nat} (hp : p9 < 2000000) (ep : σ 11 k = nI p9) : CI l yX5_isFlat cX5_isFlat 4 .boolean 0 0 D [(cA, .int)] 17 ad (cellR cA ad) σ [.ref (ad 0), .int (nI k)] (fun r u => u = σ ∧ ((r = 1 ∧ ¬ cntB σ k (σ 0 1) (min 5 p9) < 3) ∨ (r = 0 ∧ cntB σ k (σ 0 1) (min 5 p9) < 3))) := by
  refine CI_of (by decide +kernel) (Nat.le_of_ble_eq_true rfl) (by simp [Value.category]) ?_
  intro p e s m below meth c C hM hK
  refine z_iconst C dX5_isFlat_0 (pc' := 1) rfl (v := 0) (by decide) ?_
  refine z_istore_n (L' := [.ref _, .int _, .int _]) C dX5_isFlat_1 (pc' := 2) rfl rfl (by decide) (Nat.le_of_ble_eq_true rfl) rfl ?_
  refine z_iconst C dX5_isFlat_2 (pc' := 3) rfl (v := 0) (by decide) ?_
  refine z_istore_n (L' := [.ref _, .int _, .int _, .int _]) C dX5_isFlat_3 (pc' := 4) rfl rfl (by decide) (Nat.le_of_ble_eq_true rfl) rfl ?_
  refine z_loop (τ := Nat) (fun i => 5 - i) (fun i => i ≤ 5 ∧ i ≤ p9) (fun i => σ) (fun i => [.ref (ad 0), .int (nI k), .int (cntB σ k (σ 0 1) i), .int (nI i)]) 0 ⟨by omega, by omega⟩ rfl ⟨_, rfl⟩ ?_
  intro i hi ih4
  try dsimp only at hi ih4 ⊢
  refine z_iload_n C dX5_isFlat_4 (pc' := 5) rfl rfl rfl ?_
  refine z_iconst C dX5_isFlat_5 (pc' := 6) rfl (v := 5) (by decide) ?_
  refine z_icmp_ge (tgt := 50) C dX5_isFlat_6 (pc' := 9) (by decide) rfl (fun c_6 => ?_) (fun c_6 => ?_)
  ·
    have n_6 : 5 ≤ i := ge_of_le (N := 5) (k := i) c_6 (by omega) (by omega)
    refine z_iload_n C dX5_isFlat_50 (pc' := 51) rfl rfl rfl ?_
    refine z_iconst C dX5_isFlat_51 (pc' := 52) rfl (v := 3) (by decide) ?_
    refine z_icmp_lt (tgt := 59) C dX5_isFlat_52 (pc' := 55) (by decide) rfl (fun c_52 => ?_) (fun c_52 => ?_)
    ·
      refine z_iconst C dX5_isFlat_59 (pc' := 60) rfl (v := 0) (by decide) ?_
      exact z_zret C hM dX5_isFlat_60 (by decide) ⟨rfl, Or.inr ⟨rfl, by rw [show min 5 p9 = i by omega]; assumption⟩⟩
    ·
      refine z_iconst C dX5_isFlat_55 (pc' := 56) rfl (v := 1) (by decide) ?_
      refine z_goto C dX5_isFlat_56 (pc' := 60) (by decide) ?_
      exact z_zret C hM dX5_isFlat_60 (by decide) ⟨rfl, Or.inl ⟨rfl, by rw [show min 5 p9 = i by omega]; assumption⟩⟩
  ·
    have n_6 : i < 5 := lt_of_nle (N := 5) (k := i) c_6 (by omega) (by omega)
    refine z_iload_n C dX5_isFlat_9 (pc' := 10) rfl rfl rfl ?_
    refine z_aload_n C dX5_isFlat_10 (pc' := 11) rfl rfl rfl ?_
    refine z_get C hK (by decide) kR_0 rfl inAX5 (k := 20) (by decide) aw_472 rfl dX5_isFlat_11 (pc' := 14) rfl ?_
    refine z_iload_n C dX5_isFlat_14 (pc' := 15) rfl rfl rfl ?_
    refine z_iald C hK (by decide) kR_15 (t0 := 0) rfl (j := k) rfl (by omega) (by decide) rfl dX5_isFlat_15 (pc' := 16) rfl ?_
    refine z_top (y := nI p9) ep ?_
    refine z_icmp_ge (tgt := 50) C dX5_isFlat_16 (pc' := 19) (by decide) rfl (fun c_16 => ?_) (fun c_16 => ?_)
    ·
      have n_16 : p9 ≤ i := ge_of_le (N := p9) (k := i) c_16 (by omega) (by omega)
      refine z_iload_n C dX5_isFlat_50 (pc' := 51) rfl rfl rfl ?_
      refine z_iconst C dX5_isFlat_51 (pc' := 52) rfl (v := 3) (by decide) ?_
      refine z_icmp_lt (tgt := 59) C dX5_isFlat_52 (pc' := 55) (by decide) rfl (fun c_52 => ?_) (fun c_52 => ?_)
      ·
        refine z_iconst C dX5_isFlat_59 (pc' := 60) rfl (v := 0) (by decide) ?_
        exact z_zret C hM dX5_isFlat_60 (by decide) ⟨rfl, Or.inr ⟨rfl, by rw [show min 5 p9 = i by omega]; assumption⟩⟩
      ·
        refine z_iconst C dX5_isFlat_55 (pc' := 56) rfl (v := 1) (by decide) ?_
        refine z_goto C dX5_isFlat_56 (pc' := 60) (by decide) ?_
        exact z_zret C hM dX5_isFlat_60 (by decide) ⟨rfl, Or.inl ⟨rfl, by rw [show min 5 p9 = i by omega]; assumption⟩⟩
    ·
      have n_16 : i < p9 := lt_of_nle (N := p9) (k := i) c_16 (by omega) (by omega)
      refine z_iload_n C dX5_isFlat_19 (pc' := 20) rfl rfl rfl ?_
      refine z_aload_n C dX5_isFlat_20 (pc' := 21) rfl rfl rfl ?_
      refine z_get C hK (by decide) kR_0 rfl inAX5 (k := 21) (by decide) aw_473 rfl dX5_isFlat_21 (pc' := 24) rfl ?_
      refine z_iconst C dX5_isFlat_24 (pc' := 25) rfl (v := 5) (by decide) ?_
      refine z_iload_n C dX5_isFlat_25 (pc' := 26) rfl rfl rfl ?_
      refine z_imul C dX5_isFlat_26 (pc' := 27) rfl (pk_mul (5) (k)) ?_
      refine z_iload_n C dX5_isFlat_27 (pc' := 28) rfl rfl rfl ?_
      refine z_iadd C dX5_isFlat_28 (pc' := 29) rfl (nI_add ((5 * k)) (i)) ?_
      refine z_iald C hK (by decide) kR_16 (t0 := 0) rfl (j := ((5 * k) + i)) rfl (by omega) (by decide) (rDB _ (by omega)) dX5_isFlat_29 (pc' := 30) rfl ?_
      refine z_aload_n C dX5_isFlat_30 (pc' := 31) rfl rfl rfl ?_
      refine z_get C hK (by decide) kR_0 rfl inAX5 (k := 22) (by decide) aw_474 rfl dX5_isFlat_31 (pc' := 34) rfl ?_
      refine z_ternE (J := 42) (if σ (101 + 2 * k) i < σ 0 1 then 0 else 1) 2 ?_ ?_
      ·
        try dsimp only [List.drop]
        refine z_iadd C dX5_isFlat_42 (pc' := 43) rfl rfl ?_
        refine z_istore_n (L' := [.ref _, .int _, .int _, .int _]) C dX5_isFlat_43 (pc' := 44) rfl rfl (by decide) (Nat.le_of_ble_eq_true rfl) rfl ?_
        refine z_iinc (L' := [.ref _, .int _, .int _, .int _]) C dX5_isFlat_44 (pc' := 47) rfl rfl (iinc1 _) (by decide) (Nat.le_of_ble_eq_true rfl) rfl ?_
        refine z_goto C dX5_isFlat_47 (pc' := 4) (by decide) ?_
        exact z_back 4 (ih4 (i + 1) ⟨by omega, by omega⟩ (by omega)) rfl (by simp only [List.take, cntB]; split <;> simp)
      · intro hj_42
        refine z_icmp_lt (tgt := 41) C dX5_isFlat_34 (pc' := 37) (by decide) rfl (fun c_34 => ?_) (fun c_34 => ?_)
        ·
          refine z_iconst C dX5_isFlat_41 (pc' := 42) rfl (v := 0) (by decide) ?_
          exact hj_42 _ (by simp [*])
        ·
          refine z_iconst C dX5_isFlat_37 (pc' := 38) rfl (v := 1) (by decide) ?_
          refine z_goto C dX5_isFlat_38 (pc' := 42) (by decide) ?_
          exact hj_42 _ (by simp [*])
set_option maxRecDepth 100000 in
set_option maxHeartbeats 400000 in
theorem m_X4_flatness (l : Launch) {cA cB : ClassId} {D : va_G} {ad : Nat → Nat} (hI : Inj 67 ad) (σ : St) {k : Nat} (hk : k < 16) {b : Nat} (hb5 : b ≤ 5) (eb : σ 21 k = nI b) : CI l yX4_flatness cX4_flatness 2 .int 1 23 D [(cA, .int), (cB, .object RX3)] 67 ad (cellC cA cB ad) σ [.ref (ad 0), .ref (ad (pW k))] (fun r u => r = fl σ k b ∧ u = σ) := by
  refine CI_of (by decide +kernel) (Nat.le_of_ble_eq_true rfl) (by simp [Value.category]) ?_
  intro p e s m below meth c C hM hK
  refine z_aload_n C dX4_flatness_0 (pc' := 1) rfl rfl rfl ?_
  refine z_aload_n C dX4_flatness_1 (pc' := 2) rfl rfl rfl ?_
  refine z_get C hK (by decide) kC_0 rfl inAX4 (k := 6) (by decide) aw_151 rfl dX4_flatness_2 (pc' := 5) rfl ?_
  refine z_callI C hK (m_X3_isFlat l hI _ (k := k) (by omega) (b := b) hb5 eb _) AdS_in aw_414 aw_415 aw_416 aw_31 aw_417 (pW_lt (by omega)) (kC_W k) rfl (nA := 1) (by decide +kernel) rfl ⟨Nat.le_of_ble_eq_true rfl, Nat.le_of_ble_eq_true rfl⟩ (rest := []) rfl (Nat.le_of_ble_eq_true rfl) ⟨Nat.zero_le _, Nat.zero_le _⟩ dX4_flatness_5 (pc' := 8) rfl (fun r_5 u_5 h_5 => ?_)
  obtain ⟨hu_5, h_5⟩ := h_5
  rw [hu_5]
  rcases h_5 with ⟨rfl, h_5⟩ | ⟨rfl, h_5⟩
  ·
    refine z_if_eq (tgt := 15) C dX4_flatness_8 (pc' := 11) (by decide) rfl (fun q => absurd q (by decide)) (fun _ => ?_)
    refine z_iconst C dX4_flatness_11 (pc' := 12) rfl (v := 1) (by decide) ?_
    refine z_goto C dX4_flatness_12 (pc' := 16) (by decide) ?_
    exact z_iret C hM dX4_flatness_16 ⟨by simp [fl, *], rfl⟩
  ·
    refine z_if_eq (tgt := 15) C dX4_flatness_8 (pc' := 11) (by decide) rfl (fun _ => ?_) (fun q => absurd q (by decide))
    refine z_iconst C dX4_flatness_15 (pc' := 16) rfl (v := 0) (by decide) ?_
    exact z_iret C hM dX4_flatness_16 ⟨by simp [fl, *], rfl⟩
set_option maxRecDepth 100000 in
set_option maxHeartbeats 400000 in
theorem m_X4_flatWheels (l : Launch) {cA cB : ClassId} {D : va_G} {ad : Nat → Nat} (hI : Inj 67 ad) (σ : St) (hB : okB σ) : CI l yX4_flatWheels cX4_flatWheels 3 .int 2 44 D [(cA, .int), (cB, .object RX3)] 67 ad (cellC cA cB ad) σ [.ref (ad 0)] (fun r u => r = sumF (flC σ) 16 ∧ u = σ) := by
  refine CI_of (by decide +kernel) (Nat.le_of_ble_eq_true rfl) (by simp [Value.category]) ?_
  intro p e s m below meth c C hM hK
  refine z_iconst C dX4_flatWheels_0 (pc' := 1) rfl (v := 0) (by decide) ?_
  refine z_istore_n (L' := [.ref _, .int _]) C dX4_flatWheels_1 (pc' := 2) rfl rfl (by decide) (Nat.le_of_ble_eq_true rfl) rfl ?_
  refine z_iconst C dX4_flatWheels_2 (pc' := 3) rfl (v := 0) (by decide) ?_
  refine z_istore_n (L' := [.ref _, .int _, .int _]) C dX4_flatWheels_3 (pc' := 4) rfl rfl (by decide) (Nat.le_of_ble_eq_true rfl) rfl ?_
  refine z_loop (τ := Nat) (fun i => 16 - i) (fun i => i ≤ 16) (fun i => σ) (fun i => [.ref (ad 0), .int (sumF (flC σ) i), .int (nI i)]) 0 (by omega) rfl ⟨_, rfl⟩ ?_
  intro i hi ih4
  try dsimp only at hi ih4 ⊢
  refine z_iload_n C dX4_flatWheels_4 (pc' := 5) rfl rfl rfl ?_
  refine z_bipush C dX4_flatWheels_5 (pc' := 7) rfl (v := 16) (by decide) ?_
  refine z_icmp_ge (tgt := 29) C dX4_flatWheels_7 (pc' := 10) (by decide) rfl (fun c_7 => ?_) (fun c_7 => ?_)
  ·
    have n_7 : 16 ≤ i := ge_of_le (N := 16) (k := i) c_7 (by omega) (by omega)
    obtain rfl : i = 16 := (by omega)
    refine z_iload_n C dX4_flatWheels_29 (pc' := 30) rfl rfl rfl ?_
    exact z_iret C hM dX4_flatWheels_30 ⟨rfl, rfl⟩
  ·
    have n_7 : i < 16 := lt_of_nle (N := 16) (k := i) c_7 (by omega) (by omega)
    refine z_iload_n C dX4_flatWheels_10 (pc' := 11) rfl rfl rfl ?_
    refine z_aload_n C dX4_flatWheels_11 (pc' := 12) rfl rfl rfl ?_
    refine z_aload_n C dX4_flatWheels_12 (pc' := 13) rfl rfl rfl ?_
    refine z_get C hK (by decide) kC_0 rfl inAX4 (k := 0) (by decide) aw_145 rfl dX4_flatWheels_13 (pc' := 16) rfl ?_
    refine z_iload_n C dX4_flatWheels_16 (pc' := 17) rfl rfl rfl ?_
    refine z_aald C hK (by decide) kC_1 (t0 := 1) rfl (j := i) rfl (by omega) (by decide) rfl dX4_flatWheels_17 (pc' := 18) rfl ?_
    obtain ⟨b, hb5, eb⟩ := hB i (by omega)
    refine z_callI C hK (m_X4_flatness l hI _ (k := i) (by omega) (b := b) hb5 eb) AdS_in aw_410 aw_412 aw_15 aw_27 aw_413 (by decide) kC_0 rfl (nA := 1) (by decide +kernel) rfl ⟨Nat.le_of_ble_eq_true rfl, Nat.le_of_ble_eq_true rfl⟩ (rest := [_]) rfl (Nat.le_of_ble_eq_true rfl) ⟨Nat.zero_le _, Nat.zero_le _⟩ dX4_flatWheels_18 (pc' := 21) rfl (fun r_18 u_18 h_18 => ?_)
    obtain ⟨hr_18, hu_18⟩ := h_18
    rw [hr_18, hu_18]
    refine z_iadd C dX4_flatWheels_21 (pc' := 22) rfl rfl ?_
    refine z_istore_n (L' := [.ref _, .int _, .int _]) C dX4_flatWheels_22 (pc' := 23) rfl rfl (by decide) (Nat.le_of_ble_eq_true rfl) rfl ?_
    refine z_iinc (L' := [.ref _, .int _, .int _]) C dX4_flatWheels_23 (pc' := 26) rfl rfl (iinc1 _) (by decide) (Nat.le_of_ble_eq_true rfl) rfl ?_
    refine z_goto C dX4_flatWheels_26 (pc' := 4) (by decide) ?_
    exact z_back 3 (ih4 (i + 1) (by omega) (by omega)) rfl (by simp [sumF, flC_of eb hb5])
set_option maxRecDepth 100000 in
set_option maxHeartbeats 400000 in
theorem m_X4_pass (l : Launch) {cA cB : ClassId} {D : va_G} {ad : Nat → Nat} (hI : Inj 67 ad) (σ : St) (hB : okB σ) (hO : ∀ k : Nat, k < 16 → ∃ o : Nat, o < 5 ∧ σ 22 k = nI o) (w v : Int32) : CI l yX4_pass cX4_pass 3 .int 2 44 D [(cA, .int), (cB, .object RX3)] 67 ad (cellC cA cB ad) σ [.ref (ad 0), .int w, .int v] (fun r u => (¬ (isW w ∧ inR v 0 999) ∧ r = -1 ∧ u = σ) ∨ (∃ k b o : Nat, k < 16 ∧ w = nI k ∧ inR v 0 999 ∧ b ≤ 5 ∧ σ 21 k = nI b ∧ o < 5 ∧ σ 22 k = nI o ∧ u = g_feel σ k o v ∧ r = fl u k (min 5 (b + 1)))) := by
  refine CI_of (by decide +kernel) (Nat.le_of_ble_eq_true rfl) (by simp [Value.category]) ?_
  intro p e s m below meth c C hM hK
  refine z_iload_n C dX4_pass_0 (pc' := 1) rfl rfl rfl ?_
  refine z_callS C (m_X4_isWheel l _) stabP aw_177 aw_178 aw_27 aw_179 (nA := 1) (by decide +kernel) rfl ⟨Nat.le_of_ble_eq_true rfl, Nat.le_of_ble_eq_true rfl⟩ (rest := []) rfl (Nat.le_of_ble_eq_true rfl) ⟨Nat.zero_le _, Nat.zero_le _⟩ dX4_pass_1 (pc' := 4) rfl (fun r_1 h_1 => ?_)
  rcases h_1 with ⟨rfl, h_1⟩ | ⟨rfl, h_1⟩
  ·
    obtain ⟨k, hk, rfl⟩ := isW_of h_1
    refine z_if_eq (tgt := 18) C dX4_pass_4 (pc' := 7) (by decide) rfl (fun q => absurd q (by decide)) (fun _ => ?_)
    refine z_iload_n C dX4_pass_7 (pc' := 8) rfl rfl rfl ?_
    refine z_iconst C dX4_pass_8 (pc' := 9) rfl (v := 0) (by decide) ?_
    refine z_sipush C dX4_pass_9 (pc' := 12) rfl (v := 999) (by decide) ?_
    refine z_callS C (m_X4_within l _ _ _) stabP aw_180 aw_181 aw_27 aw_182 (nA := 3) (by decide +kernel) rfl ⟨Nat.le_of_ble_eq_true rfl, Nat.le_of_ble_eq_true rfl⟩ (rest := []) rfl (Nat.le_of_ble_eq_true rfl) ⟨Nat.zero_le _, Nat.zero_le _⟩ dX4_pass_12 (pc' := 15) rfl (fun r_12 h_12 => ?_)
    rcases h_12 with ⟨rfl, h_12⟩ | ⟨rfl, h_12⟩
    ·
      refine z_if_ne (tgt := 20) C dX4_pass_15 (pc' := 18) (by decide) rfl (fun _ => ?_) (fun q => absurd q (by decide))
      obtain ⟨b, hb5, eb⟩ := hB k hk
      obtain ⟨o, ho, eo⟩ := hO k hk
      have eb2 : g_feel σ k o v 21 k = nI (min 5 (b + 1)) := by rw [g_feel, up2_s, eb, mn5 hb5]
      refine z_aload_n C dX4_pass_20 (pc' := 21) rfl rfl rfl ?_
      refine z_get C hK (by decide) kC_0 rfl inAX4 (k := 0) (by decide) aw_145 rfl dX4_pass_21 (pc' := 24) rfl ?_
      refine z_iload_n C dX4_pass_24 (pc' := 25) rfl rfl rfl ?_
      refine z_aald C hK (by decide) kC_1 (t0 := 1) rfl (j := k) rfl (by omega) (by decide) rfl dX4_pass_25 (pc' := 26) rfl ?_
      refine z_iload_n C dX4_pass_26 (pc' := 27) rfl rfl rfl ?_
      refine z_callV C hK (m_X3_feel l hI _ (k := k) (by omega) (o := o) ho eo _) AdS_in aw_406 aw_407 aw_408 aw_31 aw_409 (pW_lt (by omega)) (kC_W k) rfl (nA := 1) (by decide +kernel) rfl ⟨Nat.le_of_ble_eq_true rfl, Nat.le_of_ble_eq_true rfl⟩ (rest := []) rfl (Nat.le_of_ble_eq_true rfl) ⟨Nat.zero_le _, Nat.zero_le _⟩ dX4_pass_27 (pc' := 30) rfl (fun u_27 h_27 => ?_)
      rw [h_27]
      refine z_aload_n C dX4_pass_30 (pc' := 31) rfl rfl rfl ?_
      refine z_aload_n C dX4_pass_31 (pc' := 32) rfl rfl rfl ?_
      refine z_get C hK (by decide) kC_0 rfl inAX4 (k := 0) (by decide) aw_145 rfl dX4_pass_32 (pc' := 35) rfl ?_
      refine z_iload_n C dX4_pass_35 (pc' := 36) rfl rfl rfl ?_
      refine z_aald C hK (by decide) kC_1 (t0 := 1) rfl (j := k) rfl (by omega) (by decide) rfl dX4_pass_36 (pc' := 37) rfl ?_
      refine z_callI C hK (m_X4_flatness l hI _ (k := k) (by omega) (b := min 5 (b + 1)) (by omega) eb2) AdS_in aw_410 aw_412 aw_15 aw_27 aw_413 (by decide) kC_0 rfl (nA := 1) (by decide +kernel) rfl ⟨Nat.le_of_ble_eq_true rfl, Nat.le_of_ble_eq_true rfl⟩ (rest := []) rfl (Nat.le_of_ble_eq_true rfl) ⟨Nat.zero_le _, Nat.zero_le _⟩ dX4_pass_37 (pc' := 40) rfl (fun r_37 u_37 h_37 => ?_)
      obtain ⟨hr_37, hu_37⟩ := h_37
      rw [hr_37, hu_37]
      exact z_iret C hM dX4_pass_40 (Or.inr ⟨k, b, o, hk, rfl, by assumption, hb5, eb, ho, eo, rfl, rfl⟩)
    ·
      refine z_if_ne (tgt := 20) C dX4_pass_15 (pc' := 18) (by decide) rfl (fun q => absurd q (by decide)) (fun _ => ?_)
      refine z_iconst C dX4_pass_18 (pc' := 19) rfl (v := (-1)) (by decide) ?_
      exact z_iret C hM dX4_pass_19 (Or.inl ⟨fun z => absurd z (by simp [*]), rfl, rfl⟩)
  ·
    refine z_if_eq (tgt := 18) C dX4_pass_4 (pc' := 7) (by decide) rfl (fun _ => ?_) (fun q => absurd q (by decide))
    refine z_iconst C dX4_pass_18 (pc' := 19) rfl (v := (-1)) (by decide) ?_
    exact z_iret C hM dX4_pass_19 (Or.inl ⟨fun z => absurd z (by simp [*]), rfl, rfl⟩)
set_option maxRecDepth 100000 in
set_option maxHeartbeats 400000 in
theorem m_X4_flat (l : Launch) {cA cB : ClassId} {D : va_G} {ad : Nat → Nat} (hI : Inj 67 ad) (σ : St) (hB : okB σ) (w : Int32) : CI l yX4_flat cX4_flat 2 .int 2 44 D [(cA, .int), (cB, .object RX3)] 67 ad (cellC cA cB ad) σ [.ref (ad 0), .int w] (fun r u => r = (if isW w then flC σ (wn w) else -1) ∧ u = σ) := by
  refine CI_of (by decide +kernel) (Nat.le_of_ble_eq_true rfl) (by simp [Value.category]) ?_
  intro p e s m below meth c C hM hK
  refine z_iload_n C dX4_flat_0 (pc' := 1) rfl rfl rfl ?_
  refine z_callS C (m_X4_isWheel l _) stabP aw_177 aw_178 aw_27 aw_179 (nA := 1) (by decide +kernel) rfl ⟨Nat.le_of_ble_eq_true rfl, Nat.le_of_ble_eq_true rfl⟩ (rest := []) rfl (Nat.le_of_ble_eq_true rfl) ⟨Nat.zero_le _, Nat.zero_le _⟩ dX4_flat_1 (pc' := 4) rfl (fun r_1 h_1 => ?_)
  rcases h_1 with ⟨rfl, h_1⟩ | ⟨rfl, h_1⟩
  ·
    obtain ⟨k, hk, rfl⟩ := isW_of h_1
    refine z_if_ne (tgt := 9) C dX4_flat_4 (pc' := 7) (by decide) rfl (fun _ => ?_) (fun q => absurd q (by decide))
    obtain ⟨b, hb5, eb⟩ := hB k hk
    refine z_aload_n C dX4_flat_9 (pc' := 10) rfl rfl rfl ?_
    refine z_aload_n C dX4_flat_10 (pc' := 11) rfl rfl rfl ?_
    refine z_get C hK (by decide) kC_0 rfl inAX4 (k := 0) (by decide) aw_145 rfl dX4_flat_11 (pc' := 14) rfl ?_
    refine z_iload_n C dX4_flat_14 (pc' := 15) rfl rfl rfl ?_
    refine z_aald C hK (by decide) kC_1 (t0 := 1) rfl (j := k) rfl (by omega) (by decide) rfl dX4_flat_15 (pc' := 16) rfl ?_
    refine z_callI C hK (m_X4_flatness l hI _ (k := k) (by omega) (b := b) hb5 eb) AdS_in aw_410 aw_412 aw_15 aw_27 aw_413 (by decide) kC_0 rfl (nA := 1) (by decide +kernel) rfl ⟨Nat.le_of_ble_eq_true rfl, Nat.le_of_ble_eq_true rfl⟩ (rest := []) rfl (Nat.le_of_ble_eq_true rfl) ⟨Nat.zero_le _, Nat.zero_le _⟩ dX4_flat_16 (pc' := 19) rfl (fun r_16 u_16 h_16 => ?_)
    obtain ⟨hr_16, hu_16⟩ := h_16
    rw [hr_16, hu_16]
    exact z_iret C hM dX4_flat_19 ⟨by rw [if_pos h_1, wn_nI (show k < 2 ^ 31 by omega), flC_of eb hb5], rfl⟩
  ·
    refine z_if_ne (tgt := 9) C dX4_flat_4 (pc' := 7) (by decide) rfl (fun q => absurd q (by decide)) (fun _ => ?_)
    refine z_iconst C dX4_flat_7 (pc' := 8) rfl (v := (-1)) (by decide) ?_
    exact z_iret C hM dX4_flat_8 ⟨(if_neg h_1).symm, rfl⟩
set_option maxRecDepth 100000 in
set_option maxHeartbeats 400000 in
theorem m_X4_count (l : Launch) {cA cB : ClassId} {D : va_G} {ad : Nat → Nat} (hI : Inj 67 ad) (σ : St) (hB : okB σ) (q : Int32) : CI l yX4_count cX4_count 2 .int 3 66 D [(cA, .int), (cB, .object RX3)] 67 ad (cellC cA cB ad) σ [.ref (ad 0), .int q] (fun r u => r = f_count σ (sumF (flC σ) 16) q ∧ u = σ) := by
  refine CI_of (by decide +kernel) (Nat.le_of_ble_eq_true rfl) (by simp [Value.category]) ?_
  intro p e s m below meth c C hM hK
  refine z_iload_n C dX4_count_0 (pc' := 1) rfl rfl rfl ?_
  rcases sw_cases (n := 5) (by omega) q with ⟨j, hj, rfl⟩ | hj
  ·
    rcases (show j = 0 ∨ j = 1 ∨ j = 2 ∨ j = 3 ∨ j = 4 ∨ j = 5 by omega) with rfl | rfl | rfl | rfl | rfl | rfl
    ·
      refine z_tin C dX4_count_1 (by decide) (by decide) (off := 39) (by decide) (pc' := 40) (by decide) ?_
      refine z_aload_n C dX4_count_40 (pc' := 41) rfl rfl rfl ?_
      refine z_get C hK (by decide) kC_0 rfl inAX4 (k := 2) (by decide) aw_147 rfl dX4_count_41 (pc' := 44) rfl ?_
      refine z_get C hK (by decide) kC_5 rfl inAX2 (k := 0) (by decide) aw_63 rfl dX4_count_44 (pc' := 47) rfl ?_
      exact z_iret C hM dX4_count_47 ⟨by rw [f_count, if_pos (by decide)]; rfl, rfl⟩
    ·
      refine z_tin C dX4_count_1 (by decide) (by decide) (off := 47) (by decide) (pc' := 48) (by decide) ?_
      refine z_aload_n C dX4_count_48 (pc' := 49) rfl rfl rfl ?_
      refine z_get C hK (by decide) kC_0 rfl inAX4 (k := 3) (by decide) aw_148 rfl dX4_count_49 (pc' := 52) rfl ?_
      refine z_get C hK (by decide) kC_10 rfl inAX1 (k := 0) (by decide) aw_86 rfl dX4_count_52 (pc' := 55) rfl ?_
      exact z_iret C hM dX4_count_55 ⟨by rw [f_count, if_pos (by decide)]; rfl, rfl⟩
    ·
      refine z_tin C dX4_count_1 (by decide) (by decide) (off := 55) (by decide) (pc' := 56) (by decide) ?_
      refine z_aload_n C dX4_count_56 (pc' := 57) rfl rfl rfl ?_
      refine z_callI C hK (m_X4_flatWheels l hI _ hB) AdS_in aw_438 aw_440 aw_16 aw_27 aw_441 (by decide) kC_0 rfl (nA := 0) (by decide +kernel) rfl ⟨Nat.le_of_ble_eq_true rfl, Nat.le_of_ble_eq_true rfl⟩ (rest := []) rfl (Nat.le_of_ble_eq_true rfl) ⟨Nat.zero_le _, Nat.zero_le _⟩ dX4_count_57 (pc' := 60) rfl (fun r_57 u_57 h_57 => ?_)
      obtain ⟨hr_57, hu_57⟩ := h_57
      rw [hr_57, hu_57]
      exact z_iret C hM dX4_count_60 ⟨by rw [f_count, if_pos (by decide)]; rfl, rfl⟩
    ·
      refine z_tin C dX4_count_1 (by decide) (by decide) (off := 60) (by decide) (pc' := 61) (by decide) ?_
      refine z_aload_n C dX4_count_61 (pc' := 62) rfl rfl rfl ?_
      refine z_get C hK (by decide) kC_0 rfl inAX4 (k := 5) (by decide) aw_150 rfl dX4_count_62 (pc' := 65) rfl ?_
      exact z_iret C hM dX4_count_65 ⟨by rw [f_count, if_pos (by decide)]; rfl, rfl⟩
    ·
      refine z_tin C dX4_count_1 (by decide) (by decide) (off := 65) (by decide) (pc' := 66) (by decide) ?_
      refine z_aload_n C dX4_count_66 (pc' := 67) rfl rfl rfl ?_
      refine z_get C hK (by decide) kC_0 rfl inAX4 (k := 6) (by decide) aw_151 rfl dX4_count_67 (pc' := 70) rfl ?_
      exact z_iret C hM dX4_count_70 ⟨by rw [f_count, if_pos (by decide)]; rfl, rfl⟩
    ·
      refine z_tin C dX4_count_1 (by decide) (by decide) (off := 70) (by decide) (pc' := 71) (by decide) ?_
      refine z_aload_n C dX4_count_71 (pc' := 72) rfl rfl rfl ?_
      refine z_get C hK (by decide) kC_0 rfl inAX4 (k := 7) (by decide) aw_152 rfl dX4_count_72 (pc' := 75) rfl ?_
      exact z_iret C hM dX4_count_75 ⟨by rw [f_count, if_pos (by decide)]; rfl, rfl⟩
  ·
    refine z_tout C dX4_count_1 hj (pc' := 76) (by decide) ?_
    refine z_iconst C dX4_count_76 (pc' := 77) rfl (v := (-1)) (by decide) ?_
    exact z_iret C hM dX4_count_77 ⟨by rw [f_count, if_neg]; simp only [inR, i32_le]; have e0 : (0 : Int32).toInt = 0 := rfl; have e5 : (5 : Int32).toInt = 5 := rfl; omega, rfl⟩
set_option maxRecDepth 100000 in
set_option maxHeartbeats 400000 in
theorem m_X5_pass (l : Launch) {cA : ClassId} {D : va_G} {ad : Nat → Nat} (hI : Inj 17 ad) (σ : St) (hP : okP σ) (w v : Int32) : CI l yX5_pass cX5_pass 3 .int 2 42 D [(cA, .int)] 17 ad (cellR cA ad) σ [.ref (ad 0), .int w, .int v] (fun r u => (¬ (isW w ∧ inR v 0 999) ∧ r = -1 ∧ u = σ) ∨ (∃ k p : Nat, k < 16 ∧ w = nI k ∧ inR v 0 999 ∧ p < 1000000 ∧ σ 11 k = nI p ∧ u = up2 (up2 σ (101 + 2 * k) (p % 5) v) 11 k (nI (p + 1)) ∧ r = fl u k (min 5 (p + 1)))) := by
  refine CI_of (by decide +kernel) (Nat.le_of_ble_eq_true rfl) (by simp [Value.category]) ?_
  intro p e s m below meth c C hM hK
  refine z_aload_n C dX5_pass_0 (pc' := 1) rfl rfl rfl ?_
  refine z_iconst C dX5_pass_1 (pc' := 2) rfl (v := 0) (by decide) ?_
  refine z_put C hK hI AdS_in (by decide) kR_0 sR_th oR_th rfl inAX5 tyX5_ok nmX5 (k := 0) (by decide) aw_452 rfl (ty := .int) (by decide +kernel) rfl rfl (Nat.le_of_ble_eq_true rfl) dX5_pass_2 (pc' := 5) rfl ?_
  refine z_iload_n C dX5_pass_5 (pc' := 6) rfl rfl rfl ?_
  refine z_callS C (m_X5_isWheel l _) stabP aw_526 aw_527 aw_32 aw_528 (nA := 1) (by decide +kernel) rfl ⟨Nat.le_of_ble_eq_true rfl, Nat.le_of_ble_eq_true rfl⟩ (rest := []) rfl (Nat.le_of_ble_eq_true rfl) ⟨Nat.zero_le _, Nat.zero_le _⟩ dX5_pass_6 (pc' := 9) rfl (fun r_6 h_6 => ?_)
  rcases h_6 with ⟨rfl, h_6⟩ | ⟨rfl, h_6⟩
  ·
    obtain ⟨k, hk, rfl⟩ := isW_of h_6
    refine z_if_eq (tgt := 23) C dX5_pass_9 (pc' := 12) (by decide) rfl (fun q => absurd q (by decide)) (fun _ => ?_)
    refine z_iload_n C dX5_pass_12 (pc' := 13) rfl rfl rfl ?_
    refine z_iconst C dX5_pass_13 (pc' := 14) rfl (v := 0) (by decide) ?_
    refine z_sipush C dX5_pass_14 (pc' := 17) rfl (v := 999) (by decide) ?_
    refine z_callS C (m_X5_in l _ _ _) stabP aw_529 aw_530 aw_32 aw_531 (nA := 3) (by decide +kernel) rfl ⟨Nat.le_of_ble_eq_true rfl, Nat.le_of_ble_eq_true rfl⟩ (rest := []) rfl (Nat.le_of_ble_eq_true rfl) ⟨Nat.zero_le _, Nat.zero_le _⟩ dX5_pass_17 (pc' := 20) rfl (fun r_17 h_17 => ?_)
    rcases h_17 with ⟨rfl, h_17⟩ | ⟨rfl, h_17⟩
    ·
      refine z_if_ne (tgt := 25) C dX5_pass_20 (pc' := 23) (by decide) rfl (fun _ => ?_) (fun q => absurd q (by decide))
      obtain ⟨p9, hp, ep⟩ := hP k hk
      refine z_aload_n C dX5_pass_25 (pc' := 26) rfl rfl rfl ?_
      refine z_get C hK (by decide) kR_0 rfl inAX5 (k := 21) (by decide) aw_473 rfl dX5_pass_26 (pc' := 29) rfl ?_
      refine z_iconst C dX5_pass_29 (pc' := 30) rfl (v := 5) (by decide) ?_
      refine z_iload_n C dX5_pass_30 (pc' := 31) rfl rfl rfl ?_
      refine z_imul C dX5_pass_31 (pc' := 32) rfl (pk_mul (5) (k)) ?_
      refine z_aload_n C dX5_pass_32 (pc' := 33) rfl rfl rfl ?_
      refine z_get C hK (by decide) kR_0 rfl inAX5 (k := 20) (by decide) aw_472 rfl dX5_pass_33 (pc' := 36) rfl ?_
      refine z_iload_n C dX5_pass_36 (pc' := 37) rfl rfl rfl ?_
      refine z_iald C hK (by decide) kR_15 (t0 := 0) rfl (j := k) rfl (by omega) (by decide) rfl dX5_pass_37 (pc' := 38) rfl ?_
      refine z_top (y := nI p9) ep ?_
      refine z_iconst C dX5_pass_38 (pc' := 39) rfl (v := 5) (by decide) ?_
      refine z_irem C dX5_pass_39 (pc' := 40) rfl (by decide) (z := nI (p9 % 5)) (pk_rem (a := p9) (d := 5) (by omega) (by omega) (by omega)) ?_
      refine z_iadd C dX5_pass_40 (pc' := 41) rfl (nI_add ((5 * k)) ((p9 % 5))) ?_
      refine z_iload_n C dX5_pass_41 (pc' := 42) rfl rfl rfl ?_
      refine z_iast C hK hI AdS_in (by decide) kR_16 (kR_B (by omega)) (cellR_upB (by omega)) (t0 := 0) rfl (j := ((5 * k) + (p9 % 5))) rfl (by omega) (by decide) dX5_pass_42 (pc' := 43) rfl ?_
      refine z_aload_n C dX5_pass_43 (pc' := 44) rfl rfl rfl ?_
      refine z_get C hK (by decide) kR_0 rfl inAX5 (k := 20) (by decide) aw_472 rfl dX5_pass_44 (pc' := 47) rfl ?_
      refine z_iload_n C dX5_pass_47 (pc' := 48) rfl rfl rfl ?_
      refine z_dup2 C dX5_pass_48 (pc' := 49) rfl rfl rfl ?_
      refine z_iald C hK (by decide) kR_15 (t0 := 0) rfl (j := k) rfl (by omega) (by decide) rfl dX5_pass_49 (pc' := 50) rfl ?_
      refine z_top (y := nI p9) (by rw [up2_c _ _ _ _ (show 11 ≠ 101 + 2 * k by omega), ep]) ?_
      refine z_iconst C dX5_pass_50 (pc' := 51) rfl (v := 1) (by decide) ?_
      refine z_iadd C dX5_pass_51 (pc' := 52) rfl (nI_add (p9) (1)) ?_
      refine z_iast C hK hI AdS_in (by decide) kR_15 sR_a15 oR_a15 (t0 := 0) rfl (j := k) rfl (by omega) (by decide) dX5_pass_52 (pc' := 53) rfl ?_
      refine z_aload_n C dX5_pass_53 (pc' := 54) rfl rfl rfl ?_
      refine z_iload_n C dX5_pass_54 (pc' := 55) rfl rfl rfl ?_
      refine z_callI C hK (m_X5_isFlat l hI _ (k := k) (by omega) (p9 := p9 + 1) (by omega) (by simp [up2])) AdS_in aw_646 aw_648 aw_25 aw_32 aw_649 (by decide) kR_0 rfl (nA := 1) (by decide +kernel) rfl ⟨Nat.le_of_ble_eq_true rfl, Nat.le_of_ble_eq_true rfl⟩ (rest := []) rfl (Nat.le_of_ble_eq_true rfl) ⟨Nat.zero_le _, Nat.zero_le _⟩ dX5_pass_55 (pc' := 58) rfl (fun r_55 u_55 h_55 => ?_)
      obtain ⟨hu_55, h_55⟩ := h_55
      rw [hu_55]
      rcases h_55 with ⟨rfl, h_55⟩ | ⟨rfl, h_55⟩
      ·
        refine z_if_eq (tgt := 65) C dX5_pass_58 (pc' := 61) (by decide) rfl (fun q => absurd q (by decide)) (fun _ => ?_)
        refine z_iconst C dX5_pass_61 (pc' := 62) rfl (v := 1) (by decide) ?_
        refine z_goto C dX5_pass_62 (pc' := 66) (by decide) ?_
        exact z_iret C hM dX5_pass_66 (Or.inr ⟨k, p9, hk, rfl, by assumption, hp, ep, rfl, by simp [fl, h_55]⟩)
      ·
        refine z_if_eq (tgt := 65) C dX5_pass_58 (pc' := 61) (by decide) rfl (fun _ => ?_) (fun q => absurd q (by decide))
        refine z_iconst C dX5_pass_65 (pc' := 66) rfl (v := 0) (by decide) ?_
        exact z_iret C hM dX5_pass_66 (Or.inr ⟨k, p9, hk, rfl, by assumption, hp, ep, rfl, by simp [fl, h_55]⟩)
    ·
      refine z_if_ne (tgt := 25) C dX5_pass_20 (pc' := 23) (by decide) rfl (fun q => absurd q (by decide)) (fun _ => ?_)
      refine z_iconst C dX5_pass_23 (pc' := 24) rfl (v := (-1)) (by decide) ?_
      exact z_iret C hM dX5_pass_24 (Or.inl ⟨fun z => absurd z (by simp [*]), rfl, rfl⟩)
  ·
    refine z_if_eq (tgt := 23) C dX5_pass_9 (pc' := 12) (by decide) rfl (fun _ => ?_) (fun q => absurd q (by decide))
    refine z_iconst C dX5_pass_23 (pc' := 24) rfl (v := (-1)) (by decide) ?_
    exact z_iret C hM dX5_pass_24 (Or.inl ⟨fun z => absurd z (by simp [*]), rfl, rfl⟩)
set_option maxRecDepth 100000 in
set_option maxHeartbeats 400000 in
theorem m_X5_flat (l : Launch) {cA : ClassId} {D : va_G} {ad : Nat → Nat} (hI : Inj 17 ad) (σ : St) (hP : okP σ) (w : Int32) : CI l yX5_flat cX5_flat 2 .int 2 42 D [(cA, .int)] 17 ad (cellR cA ad) σ [.ref (ad 0), .int w] (fun r u => r = (if isW w then flR σ (wn w) else -1) ∧ u = σ) := by
  refine CI_of (by decide +kernel) (Nat.le_of_ble_eq_true rfl) (by simp [Value.category]) ?_
  intro p e s m below meth c C hM hK
  refine z_aload_n C dX5_flat_0 (pc' := 1) rfl rfl rfl ?_
  refine z_iconst C dX5_flat_1 (pc' := 2) rfl (v := 0) (by decide) ?_
  refine z_put C hK hI AdS_in (by decide) kR_0 sR_th oR_th rfl inAX5 tyX5_ok nmX5 (k := 0) (by decide) aw_452 rfl (ty := .int) (by decide +kernel) rfl rfl (Nat.le_of_ble_eq_true rfl) dX5_flat_2 (pc' := 5) rfl ?_
  refine z_iload_n C dX5_flat_5 (pc' := 6) rfl rfl rfl ?_
  refine z_callS C (m_X5_isWheel l _) stabP aw_526 aw_527 aw_32 aw_528 (nA := 1) (by decide +kernel) rfl ⟨Nat.le_of_ble_eq_true rfl, Nat.le_of_ble_eq_true rfl⟩ (rest := []) rfl (Nat.le_of_ble_eq_true rfl) ⟨Nat.zero_le _, Nat.zero_le _⟩ dX5_flat_6 (pc' := 9) rfl (fun r_6 h_6 => ?_)
  rcases h_6 with ⟨rfl, h_6⟩ | ⟨rfl, h_6⟩
  ·
    obtain ⟨k, hk, rfl⟩ := isW_of h_6
    refine z_if_ne (tgt := 16) C dX5_flat_9 (pc' := 12) (by decide) rfl (fun _ => ?_) (fun q => absurd q (by decide))
    obtain ⟨p9, hp, ep⟩ := hP k hk
    refine z_aload_n C dX5_flat_16 (pc' := 17) rfl rfl rfl ?_
    refine z_iload_n C dX5_flat_17 (pc' := 18) rfl rfl rfl ?_
    refine z_callI C hK (m_X5_isFlat l hI _ (k := k) (by omega) (p9 := p9) (by omega) ep) AdS_in aw_646 aw_648 aw_25 aw_32 aw_649 (by decide) kR_0 rfl (nA := 1) (by decide +kernel) rfl ⟨Nat.le_of_ble_eq_true rfl, Nat.le_of_ble_eq_true rfl⟩ (rest := []) rfl (Nat.le_of_ble_eq_true rfl) ⟨Nat.zero_le _, Nat.zero_le _⟩ dX5_flat_18 (pc' := 21) rfl (fun r_18 u_18 h_18 => ?_)
    obtain ⟨hu_18, h_18⟩ := h_18
    rw [hu_18]
    rcases h_18 with ⟨rfl, h_18⟩ | ⟨rfl, h_18⟩
    ·
      refine z_if_eq (tgt := 28) C dX5_flat_21 (pc' := 24) (by decide) rfl (fun q => absurd q (by decide)) (fun _ => ?_)
      refine z_iconst C dX5_flat_24 (pc' := 25) rfl (v := 1) (by decide) ?_
      refine z_goto C dX5_flat_25 (pc' := 29) (by decide) ?_
      exact z_iret C hM dX5_flat_29 ⟨by rw [if_pos h_6, wn_nI (show k < 2 ^ 31 by omega), flR_of ep hp]; simp [fl, h_18], rfl⟩
    ·
      refine z_if_eq (tgt := 28) C dX5_flat_21 (pc' := 24) (by decide) rfl (fun _ => ?_) (fun q => absurd q (by decide))
      refine z_iconst C dX5_flat_28 (pc' := 29) rfl (v := 0) (by decide) ?_
      exact z_iret C hM dX5_flat_29 ⟨by rw [if_pos h_6, wn_nI (show k < 2 ^ 31 by omega), flR_of ep hp]; simp [fl, h_18], rfl⟩
  ·
    refine z_if_ne (tgt := 16) C dX5_flat_9 (pc' := 12) (by decide) rfl (fun q => absurd q (by decide)) (fun _ => ?_)
    refine z_iconst C dX5_flat_12 (pc' := 13) rfl (v := (-1)) (by decide) ?_
    refine z_goto C dX5_flat_13 (pc' := 29) (by decide) ?_
    exact z_iret C hM dX5_flat_29 ⟨(if_neg h_6).symm, rfl⟩
set_option maxRecDepth 100000 in
set_option maxHeartbeats 400000 in
theorem m_X5_count (l : Launch) {cA : ClassId} {D : va_G} {ad : Nat → Nat} (hI : Inj 17 ad) (σ : St) (hP : okP σ) (q : Int32) : CI l yX5_count cX5_count 4 .int 1 23 D [(cA, .int)] 17 ad (cellR cA ad) σ [.ref (ad 0), .int q] (fun r u => r = f_count σ (sumF (flR σ) 16) q ∧ u = σ) := by
  refine CI_of (by decide +kernel) (Nat.le_of_ble_eq_true rfl) (by simp [Value.category]) ?_
  intro p e s m below meth c C hM hK
  refine z_aload_n C dX5_count_0 (pc' := 1) rfl rfl rfl ?_
  refine z_iconst C dX5_count_1 (pc' := 2) rfl (v := 0) (by decide) ?_
  refine z_put C hK hI AdS_in (by decide) kR_0 sR_th oR_th rfl inAX5 tyX5_ok nmX5 (k := 0) (by decide) aw_452 rfl (ty := .int) (by decide +kernel) rfl rfl (Nat.le_of_ble_eq_true rfl) dX5_count_2 (pc' := 5) rfl ?_
  refine z_iconst C dX5_count_5 (pc' := 6) rfl (v := 0) (by decide) ?_
  refine z_istore_n (L' := [.ref _, .int _, .int _]) C dX5_count_6 (pc' := 7) rfl rfl (by decide) (Nat.le_of_ble_eq_true rfl) rfl ?_
  refine z_iconst C dX5_count_7 (pc' := 8) rfl (v := 0) (by decide) ?_
  refine z_istore_n (L' := [.ref _, .int _, .int _, .int _]) C dX5_count_8 (pc' := 9) rfl rfl (by decide) (Nat.le_of_ble_eq_true rfl) rfl ?_
  refine z_loop (τ := Nat) (fun i => 16 - i) (fun i => i ≤ 16) (fun i => σ) (fun i => [.ref (ad 0), .int q, .int (sumF (flR σ) i), .int (nI i)]) 0 (by omega) rfl ⟨_, rfl⟩ ?_
  intro i hi ih9
  try dsimp only at hi ih9 ⊢
  refine z_iload_n C dX5_count_9 (pc' := 10) rfl rfl rfl ?_
  refine z_bipush C dX5_count_10 (pc' := 12) rfl (v := 16) (by decide) ?_
  refine z_icmp_ge (tgt := 37) C dX5_count_12 (pc' := 15) (by decide) rfl (fun c_12 => ?_) (fun c_12 => ?_)
  ·
    have n_12 : 16 ≤ i := ge_of_le (N := 16) (k := i) c_12 (by omega) (by omega)
    obtain rfl : i = 16 := (by omega)
    refine z_iload_n C dX5_count_37 (pc' := 38) rfl rfl rfl ?_
    rcases sw_cases (n := 5) (by omega) q with ⟨j, hj, rfl⟩ | hj
    ·
      rcases (show j = 0 ∨ j = 1 ∨ j = 2 ∨ j = 3 ∨ j = 4 ∨ j = 5 by omega) with rfl | rfl | rfl | rfl | rfl | rfl
      ·
        refine z_tin C dX5_count_38 (by decide) (by decide) (off := 38) (by decide) (pc' := 76) (by decide) ?_
        refine z_aload_n C dX5_count_76 (pc' := 77) rfl rfl rfl ?_
        refine z_get C hK (by decide) kR_0 rfl inAX5 (k := 10) (by decide) aw_462 rfl dX5_count_77 (pc' := 80) rfl ?_
        exact z_iret C hM dX5_count_80 ⟨by rw [f_count, if_pos (by decide)]; rfl, rfl⟩
      ·
        refine z_tin C dX5_count_38 (by decide) (by decide) (off := 43) (by decide) (pc' := 81) (by decide) ?_
        refine z_aload_n C dX5_count_81 (pc' := 82) rfl rfl rfl ?_
        refine z_get C hK (by decide) kR_0 rfl inAX5 (k := 14) (by decide) aw_466 rfl dX5_count_82 (pc' := 85) rfl ?_
        exact z_iret C hM dX5_count_85 ⟨by rw [f_count, if_pos (by decide)]; rfl, rfl⟩
      ·
        refine z_tin C dX5_count_38 (by decide) (by decide) (off := 48) (by decide) (pc' := 86) (by decide) ?_
        refine z_iload_n C dX5_count_86 (pc' := 87) rfl rfl rfl ?_
        exact z_iret C hM dX5_count_87 ⟨by rw [f_count, if_pos (by decide)]; rfl, rfl⟩
      ·
        refine z_tin C dX5_count_38 (by decide) (by decide) (off := 50) (by decide) (pc' := 88) (by decide) ?_
        refine z_aload_n C dX5_count_88 (pc' := 89) rfl rfl rfl ?_
        refine z_get C hK (by decide) kR_0 rfl inAX5 (k := 6) (by decide) aw_458 rfl dX5_count_89 (pc' := 92) rfl ?_
        exact z_iret C hM dX5_count_92 ⟨by rw [f_count, if_pos (by decide)]; rfl, rfl⟩
      ·
        refine z_tin C dX5_count_38 (by decide) (by decide) (off := 55) (by decide) (pc' := 93) (by decide) ?_
        refine z_aload_n C dX5_count_93 (pc' := 94) rfl rfl rfl ?_
        refine z_get C hK (by decide) kR_0 rfl inAX5 (k := 22) (by decide) aw_474 rfl dX5_count_94 (pc' := 97) rfl ?_
        exact z_iret C hM dX5_count_97 ⟨by rw [f_count, if_pos (by decide)]; rfl, rfl⟩
      ·
        refine z_tin C dX5_count_38 (by decide) (by decide) (off := 60) (by decide) (pc' := 98) (by decide) ?_
        refine z_aload_n C dX5_count_98 (pc' := 99) rfl rfl rfl ?_
        refine z_get C hK (by decide) kR_0 rfl inAX5 (k := 7) (by decide) aw_459 rfl dX5_count_99 (pc' := 102) rfl ?_
        exact z_iret C hM dX5_count_102 ⟨by rw [f_count, if_pos (by decide)]; rfl, rfl⟩
    ·
      refine z_tout C dX5_count_38 hj (pc' := 103) (by decide) ?_
      refine z_iconst C dX5_count_103 (pc' := 104) rfl (v := (-1)) (by decide) ?_
      exact z_iret C hM dX5_count_104 ⟨by rw [f_count, if_neg]; simp only [inR, i32_le]; have e0 : (0 : Int32).toInt = 0 := rfl; have e5 : (5 : Int32).toInt = 5 := rfl; omega, rfl⟩
  ·
    have n_12 : i < 16 := lt_of_nle (N := 16) (k := i) c_12 (by omega) (by omega)
    refine z_iload_n C dX5_count_15 (pc' := 16) rfl rfl rfl ?_
    refine z_aload_n C dX5_count_16 (pc' := 17) rfl rfl rfl ?_
    refine z_iload_n C dX5_count_17 (pc' := 18) rfl rfl rfl ?_
    obtain ⟨p9, hp, ep⟩ := hP i (by omega)
    refine z_callI C hK (m_X5_isFlat l hI _ (k := i) (by omega) (p9 := p9) (by omega) ep) AdS_in aw_646 aw_648 aw_25 aw_32 aw_649 (by decide) kR_0 rfl (nA := 1) (by decide +kernel) rfl ⟨Nat.le_of_ble_eq_true rfl, Nat.le_of_ble_eq_true rfl⟩ (rest := [_]) rfl (Nat.le_of_ble_eq_true rfl) ⟨Nat.zero_le _, Nat.zero_le _⟩ dX5_count_18 (pc' := 21) rfl (fun r_18 u_18 h_18 => ?_)
    obtain ⟨hu_18, h_18⟩ := h_18
    rw [hu_18]
    rcases h_18 with ⟨rfl, h_18⟩ | ⟨rfl, h_18⟩
    ·
      refine z_if_eq (tgt := 28) C dX5_count_21 (pc' := 24) (by decide) rfl (fun q => absurd q (by decide)) (fun _ => ?_)
      refine z_iconst C dX5_count_24 (pc' := 25) rfl (v := 1) (by decide) ?_
      refine z_goto C dX5_count_25 (pc' := 29) (by decide) ?_
      refine z_iadd C dX5_count_29 (pc' := 30) rfl rfl ?_
      refine z_istore_n (L' := [.ref _, .int _, .int _, .int _]) C dX5_count_30 (pc' := 31) rfl rfl (by decide) (Nat.le_of_ble_eq_true rfl) rfl ?_
      refine z_iinc (L' := [.ref _, .int _, .int _, .int _]) C dX5_count_31 (pc' := 34) rfl rfl (iinc1 _) (by decide) (Nat.le_of_ble_eq_true rfl) rfl ?_
      refine z_goto C dX5_count_34 (pc' := 9) (by decide) ?_
      exact z_back 4 (ih9 (i + 1) (by omega) (by omega)) rfl (by simp [sumF, flR_of ep hp, fl, h_18])
    ·
      refine z_if_eq (tgt := 28) C dX5_count_21 (pc' := 24) (by decide) rfl (fun _ => ?_) (fun q => absurd q (by decide))
      refine z_iconst C dX5_count_28 (pc' := 29) rfl (v := 0) (by decide) ?_
      refine z_iadd C dX5_count_29 (pc' := 30) rfl rfl ?_
      refine z_istore_n (L' := [.ref _, .int _, .int _, .int _]) C dX5_count_30 (pc' := 31) rfl rfl (by decide) (Nat.le_of_ble_eq_true rfl) rfl ?_
      refine z_iinc (L' := [.ref _, .int _, .int _, .int _]) C dX5_count_31 (pc' := 34) rfl rfl (iinc1 _) (by decide) (Nat.le_of_ble_eq_true rfl) rfl ?_
      refine z_goto C dX5_count_34 (pc' := 9) (by decide) ?_
      exact z_back 4 (ih9 (i + 1) (by omega) (by omega)) rfl (by simp [sumF, flR_of ep hp, fl, h_18])
