/-! spares: the class sorts and pairs neighbours, the reference goes through sets -/
def ins (x : Int32) : Nat → St → St
  | 0, S => up2 S 24 0 x
  | p + 1, S => if S 24 p ≤ x then up2 S 24 (p + 1) x else ins x p (up2 S 24 (p + 1) (S 24 p))
def srt (σ : St) : Nat → St
  | 0 => σ
  | i + 1 => ins (srt σ i 6 i) i (srt σ i)
theorem ins_o {c : Nat} (h : c ≠ 24) (x : Int32) : ∀ (p : Nat) (S : St), ins x p S c = S c
  | 0, S => up2_cc S 0 x h
  | p + 1, S => by
    unfold ins
    split
    · exact up2_cc S _ x h
    · rw [ins_o h x p, up2_cc S _ _ h]
theorem srt_o {σ : St} {c : Nat} (h : c ≠ 24) : ∀ i, srt σ i c = σ c
  | 0 => rfl
  | i + 1 => by rw [srt, ins_o h, srt_o h i]
def plt (σ : St) (m : Nat) (df : Int32) : St := if σ 25 m < σ 25 (m - 2) + 1 ∨ (σ 25 (m - 2) + 1 = σ 25 m ∧ σ 26 (m - 2) + df < σ 26 m) then up2 (up2 σ 25 m (σ 25 (m - 2) + 1)) 26 m (σ 26 (m - 2) + df) else σ
def pu1 (P : St) (n : Nat) : St := up2 (up2 P 25 (n + 1) (P 25 n)) 26 (n + 1) (up2 P 25 (n + 1) (P 25 n) 26 n)
def pu2 (law : Int32) (S : St) (n : Nat) : St := if 2 ≤ n + 1 ∧ S 24 n - S 24 (n - 1) ≤ law then plt S (n + 1) (S 24 n - S 24 (n - 1)) else S
def pup (S : St) (law : Int32) : Nat → St
  | 0 => S
  | n + 1 => pu2 law (pu1 (pup S law n) n) n
theorem plt_o {S : St} {c m : Nat} {df : Int32} (h : c ≠ 25) (h2 : c ≠ 26) : plt S m df c = S c := by
  unfold plt
  split
  · rw [up2_cc _ _ _ h2, up2_cc _ _ _ h]
  · rfl
theorem pup_o {S : St} {law : Int32} {c : Nat} (h : c ≠ 25) (h2 : c ≠ 26) : ∀ n, pup S law n c = S c
  | 0 => rfl
  | n + 1 => by
    rw [pup, pu2]
    split
    · rw [plt_o h h2, pu1, up2_cc _ _ _ h2, up2_cc _ _ _ h, pup_o h h2 n]
    · rw [pu1, up2_cc _ _ _ h2, up2_cc _ _ _ h, pup_o h h2 n]
theorem iincm (k : Nat) : nI (k + 1) + Int32.ofInt (-1) = nI k := (by decide : Int32.ofInt (-1) = -1) ▸ pk_m1 k
def lastF (s : Nat) : Nat → Nat
  | 0 => 0
  | k + 1 => if s / 2 ^ k % 2 = 1 then k else lastF s k
def rsF (n s : Nat) : Nat := s - 2 ^ lastF s n
def ofF (x y : Int32) : Int32 := if y ≤ x then x - y else y - x
def rst (S : St) (s rt la k : Nat) : St := if rt / 2 ^ k % 2 = 1 ∧ ofF (S 6 k) (S 6 la) ≤ S 5 0 ∧ (S 13 s < S 13 (rt - 2 ^ k) + 1 ∨ (S 13 (rt - 2 ^ k) + 1 = S 13 s ∧ S 14 (rt - 2 ^ k) + ofF (S 6 k) (S 6 la) < S 14 s)) then up2 (up2 S 13 s (S 13 (rt - 2 ^ k) + 1)) 14 s (up2 S 13 s (S 13 (rt - 2 ^ k) + 1) 14 (rt - 2 ^ k) + ofF (S 6 k) (S 6 la)) else S
def rsL (S : St) (s rt la : Nat) : Nat → St
  | 0 => S
  | k + 1 => rst (rsL S s rt la k) s rt la k
def rsB (n : Nat) (P : St) (s : Nat) : St := up2 (up2 P 13 s (P 13 (rsF n s))) 14 s (up2 P 13 s (P 13 (rsF n s)) 14 (rsF n s))
def rs1 (n : Nat) (P : St) (s : Nat) : St := rsL (rsB n P s) s (rsF n s) (lastF s n) (lastF s n)
def rsA (σ : St) (n : Nat) : Nat → St
  | 0 => up2 (up2 σ 13 0 0) 14 0 0
  | m + 1 => rs1 n (rsA σ n m) (m + 1)
theorem rst_o {S : St} {s rt la k c : Nat} (h : c ≠ 13) (h2 : c ≠ 14) : rst S s rt la k c = S c := by
  unfold rst
  split
  · rw [up2_cc _ _ _ h2, up2_cc _ _ _ h]
  · rfl
theorem rsL_o {S : St} {s rt la c : Nat} (h : c ≠ 13) (h2 : c ≠ 14) : ∀ k, rsL S s rt la k c = S c
  | 0 => rfl
  | k + 1 => by rw [rsL, rst_o h h2, rsL_o h h2 k]
theorem rsA_o {σ : St} {n c : Nat} (h : c ≠ 13) (h2 : c ≠ 14) : ∀ m, rsA σ n m c = σ c
  | 0 => by rw [rsA, up2_cc _ _ _ h2, up2_cc _ _ _ h]
  | m + 1 => by rw [rsA, rs1, rsL_o h h2, rsB, up2_cc _ _ _ h2, up2_cc _ _ _ h, rsA_o h h2 m]
theorem lastF_le (s : Nat) : ∀ k, lastF s k ≤ k - 1
  | 0 => Nat.le_refl 0
  | k + 1 => by
    have := lastF_le s k
    unfold lastF
    split <;> omega
theorem bit_some : ∀ (n s : Nat), 0 < s → s < 2 ^ n → s / 2 ^ lastF s n % 2 = 1
  | 0, s, h, h2 => by simp at h2; omega
  | n + 1, s, h, h2 => by
    unfold lastF
    split
    · assumption
    · rename_i hb
      refine bit_some n s h ?_
      have h3 : s / 2 ^ n < 2 := Nat.div_lt_of_lt_mul (by rw [Nat.pow_succ] at h2; exact h2)
      have h5 : ∀ y : Nat, y < 2 → ¬ y % 2 = 1 → y = 0 := by omega
      exact (Nat.div_eq_zero_iff.mp (h5 _ h3 hb)).resolve_left (Nat.ne_of_gt (Nat.two_pow_pos n))
theorem bit_le {x k : Nat} (h : x / 2 ^ k % 2 = 1) : 2 ^ k ≤ x := by
  rcases Nat.lt_or_ge x (2 ^ k) with q | q
  · rw [Nat.div_eq_of_lt q] at h
    simp at h
  · exact q
theorem rsF_lt {n s : Nat} (h : 0 < s) : rsF n s < s := by
  have := Nat.two_pow_pos (lastF s n)
  unfold rsF
  omega
theorem shl1 {k : Nat} (h : k ≤ 8) : (1 : Int32) <<< (nI k &&& 31) = nI (2 ^ k) := by
  rcases (show k = 0 ∨ k = 1 ∨ k = 2 ∨ k = 3 ∨ k = 4 ∨ k = 5 ∨ k = 6 ∨ k = 7 ∨ k = 8 by omega) with rfl | rfl | rfl | rfl | rfl | rfl | rfl | rfl | rfl <;> decide
theorem shrK {a k : Nat} (ha : a < 2 ^ 31) (h : k ≤ 8) : nI a >>> (nI k &&& 31) = nI (a / 2 ^ k) := by
  refine pk_shrN ha _ k ?_
  rcases (show k = 0 ∨ k = 1 ∨ k = 2 ∨ k = 3 ∨ k = 4 ∨ k = 5 ∨ k = 6 ∨ k = 7 ∨ k = 8 by omega) with rfl | rfl | rfl | rfl | rfl | rfl | rfl | rfl | rfl <;> decide
theorem and1 {a : Nat} (ha : a < 2 ^ 31) : nI a &&& 1 = nI (a % 2) := pk_andN (n := a) (by omega) 1 (by decide)
theorem div_lt31 {a k : Nat} (ha : a < 2 ^ 31) : a / 2 ^ k < 2 ^ 31 := Nat.lt_of_le_of_lt (Nat.div_le_self _ _) ha
theorem pow8 {n : Nat} (h : n ≤ 8) : 2 ^ n ≤ 256 := Nat.pow_le_pow_right (by decide) h
theorem i32_nle2 {x y : Int32} (h : ¬ y ≤ x) : x < y := by rw [i32_le] at h; rw [i32_lt]; omega
set_option maxRecDepth 100000 in
set_option maxHeartbeats 400000 in
theorem m_X2_sort (l : Launch) {cA cB : ClassId} {D : va_G} {ad : Nat → Nat} (hI : Inj 67 ad) (σ : St) {n : Nat} (hn : n ≤ 8) (e4 : σ 0 4 = nI n) : CV l yX2_sort cX2_sort 3 0 0 D [(cA, .int), (cB, .object RX3)] 67 ad (cellC cA cB ad) σ [.ref (ad 5)] (fun u => u = srt σ n) := by
  refine CV_of (by decide +kernel) (Nat.le_of_ble_eq_true rfl) (by simp [Value.category]) ?_
  intro p e s m below meth c C hM hK
  refine z_iconst C dX2_sort_0 (pc' := 1) rfl (v := 0) (by decide) ?_
  refine z_istore_n (L' := [.ref _, .int _]) C dX2_sort_1 (pc' := 2) rfl rfl (by decide) (Nat.le_of_ble_eq_true rfl) rfl ?_
  refine z_loop (τ := Nat) (fun i => n - i) (fun i => i ≤ n) (fun i => srt σ i) (fun i => [.ref (ad 5), .int (nI i)]) 0 (by omega) rfl ⟨_, rfl⟩ ?_
  intro i hi ih2
  try dsimp only at hi ih2 ⊢
  refine z_iload_n C dX2_sort_2 (pc' := 3) rfl rfl rfl ?_
  refine z_aload_n C dX2_sort_3 (pc' := 4) rfl rfl rfl ?_
  refine z_get C hK (by decide) kC_5 rfl inAX2 (k := 0) (by decide) aw_62 rfl dX2_sort_4 (pc' := 7) rfl ?_
  refine z_top (y := nI n) (by rw [srt_o (by decide), e4]) ?_
  refine z_icmp_ge (tgt := 71) C dX2_sort_7 (pc' := 10) (by decide) rfl (fun c_7 => ?_) (fun c_7 => ?_)
  ·
    have n_7 : n ≤ i := ge_of_le (N := n) (k := i) c_7 (by omega) (by omega)
    obtain rfl : i = n := (by omega)
    exact z_vret C hM dX2_sort_71 rfl
  ·
    have n_7 : i < n := lt_of_nle (N := n) (k := i) c_7 (by omega) (by omega)
    refine z_iload_n C dX2_sort_10 (pc' := 11) rfl rfl rfl ?_
    refine z_istore_n (L' := [.ref _, .int _, .int _]) C dX2_sort_11 (pc' := 12) rfl rfl (by decide) (Nat.le_of_ble_eq_true rfl) rfl ?_
    refine z_loop (τ := Nat × St) (fun t => t.1) (fun t => t.1 ≤ i ∧ ins (srt σ i 6 i) t.1 t.2 = ins (srt σ i 6 i) i (srt σ i) ∧ t.2 6 = srt σ i 6 ∧ t.2 0 = srt σ i 0) (fun t => t.2) (fun t => [.ref (ad 5), .int (nI i), .int (nI t.1)]) (i, srt σ i) ⟨Nat.le_refl _, rfl, rfl, rfl⟩ rfl ⟨_, rfl⟩ ?_
    intro ⟨j, S⟩ hj ih12
    try dsimp only at hj ih12 ⊢
    refine z_iload_n C dX2_sort_12 (pc' := 13) rfl rfl rfl ?_
    refine z_if_le (tgt := 53) C dX2_sort_13 (pc' := 16) (by decide) rfl (fun c_13 => ?_) (fun c_13 => ?_)
    ·
      have n_13 : j = 0 := (nI_le0 (by omega)).mp c_13
      refine z_aload_n C dX2_sort_53 (pc' := 54) rfl rfl rfl ?_
      refine z_get C hK (by decide) kC_5 rfl inAX2 (k := 2) (by decide) aw_65 rfl dX2_sort_54 (pc' := 57) rfl ?_
      refine z_iload_n C dX2_sort_57 (pc' := 58) rfl rfl rfl ?_
      refine z_aload_n C dX2_sort_58 (pc' := 59) rfl rfl rfl ?_
      refine z_get C hK (by decide) kC_5 rfl inAX2 (k := 1) (by decide) aw_64 rfl dX2_sort_59 (pc' := 62) rfl ?_
      refine z_iload_n C dX2_sort_62 (pc' := 63) rfl rfl rfl ?_
      refine z_iald C hK (by decide) kC_6 (t0 := 0) rfl (j := i) rfl (by omega) (by decide) rfl dX2_sort_63 (pc' := 64) rfl ?_
      refine z_iast C hK hI AdS_in (by decide) kC_7 sC_a7 oC_a7 (t0 := 0) rfl (j := j) rfl (by omega) (by decide) dX2_sort_64 (pc' := 65) rfl ?_
      refine z_iinc (L' := [.ref _, .int _, .int _]) C dX2_sort_65 (pc' := 68) rfl rfl (iinc1 _) (by decide) (Nat.le_of_ble_eq_true rfl) rfl ?_
      refine z_goto C dX2_sort_68 (pc' := 2) (by decide) ?_
      exact z_back 2 (ih2 (i + 1) (by omega) (by omega)) (by first | (show _ = ins (srt σ i 6 i) i (srt σ i); rw [← hj.2.1, ← hj.2.2.1, ins, if_pos c_30]) | (subst n_13; show _ = ins (srt σ i 6 i) i (srt σ i); rw [← hj.2.1, ← hj.2.2.1]; rfl)) rfl
    ·
      have n_13 : ¬ j = 0 := fun z9 => c_13 ((nI_le0 (by omega)).mpr z9)
      have hji := hj.1
      obtain ⟨j, rfl⟩ : ∃ q, j = q + 1 := ⟨j - 1, by omega⟩
      refine z_aload_n C dX2_sort_16 (pc' := 17) rfl rfl rfl ?_
      refine z_get C hK (by decide) kC_5 rfl inAX2 (k := 2) (by decide) aw_65 rfl dX2_sort_17 (pc' := 20) rfl ?_
      refine z_iload_n C dX2_sort_20 (pc' := 21) rfl rfl rfl ?_
      refine z_iconst C dX2_sort_21 (pc' := 22) rfl (v := 1) (by decide) ?_
      refine z_isub C dX2_sort_22 (pc' := 23) rfl (z := nI j) (nI_pred j) ?_
      refine z_iald C hK (by decide) kC_7 (t0 := 0) rfl (j := j) rfl (by have := hj.1; omega) (by decide) rfl dX2_sort_23 (pc' := 24) rfl ?_
      refine z_aload_n C dX2_sort_24 (pc' := 25) rfl rfl rfl ?_
      refine z_get C hK (by decide) kC_5 rfl inAX2 (k := 1) (by decide) aw_64 rfl dX2_sort_25 (pc' := 28) rfl ?_
      refine z_iload_n C dX2_sort_28 (pc' := 29) rfl rfl rfl ?_
      refine z_iald C hK (by decide) kC_6 (t0 := 0) rfl (j := i) rfl (by omega) (by decide) rfl dX2_sort_29 (pc' := 30) rfl ?_
      refine z_icmp_le (tgt := 53) C dX2_sort_30 (pc' := 33) (by decide) rfl (fun c_30 => ?_) (fun c_30 => ?_)
      ·
        refine z_aload_n C dX2_sort_53 (pc' := 54) rfl rfl rfl ?_
        refine z_get C hK (by decide) kC_5 rfl inAX2 (k := 2) (by decide) aw_65 rfl dX2_sort_54 (pc' := 57) rfl ?_
        refine z_iload_n C dX2_sort_57 (pc' := 58) rfl rfl rfl ?_
        refine z_aload_n C dX2_sort_58 (pc' := 59) rfl rfl rfl ?_
        refine z_get C hK (by decide) kC_5 rfl inAX2 (k := 1) (by decide) aw_64 rfl dX2_sort_59 (pc' := 62) rfl ?_
        refine z_iload_n C dX2_sort_62 (pc' := 63) rfl rfl rfl ?_
        refine z_iald C hK (by decide) kC_6 (t0 := 0) rfl (j := i) rfl (by omega) (by decide) rfl dX2_sort_63 (pc' := 64) rfl ?_
        refine z_iast C hK hI AdS_in (by decide) kC_7 sC_a7 oC_a7 (t0 := 0) rfl (j := (j + 1)) rfl (by omega) (by decide) dX2_sort_64 (pc' := 65) rfl ?_
        refine z_iinc (L' := [.ref _, .int _, .int _]) C dX2_sort_65 (pc' := 68) rfl rfl (iinc1 _) (by decide) (Nat.le_of_ble_eq_true rfl) rfl ?_
        refine z_goto C dX2_sort_68 (pc' := 2) (by decide) ?_
        exact z_back 2 (ih2 (i + 1) (by omega) (by omega)) (by first | (show _ = ins (srt σ i 6 i) i (srt σ i); rw [← hj.2.1, ← hj.2.2.1, ins, if_pos c_30]) | (subst n_13; show _ = ins (srt σ i 6 i) i (srt σ i); rw [← hj.2.1, ← hj.2.2.1]; rfl)) rfl
      ·
        refine z_aload_n C dX2_sort_33 (pc' := 34) rfl rfl rfl ?_
        refine z_get C hK (by decide) kC_5 rfl inAX2 (k := 2) (by decide) aw_65 rfl dX2_sort_34 (pc' := 37) rfl ?_
        refine z_iload_n C dX2_sort_37 (pc' := 38) rfl rfl rfl ?_
        refine z_aload_n C dX2_sort_38 (pc' := 39) rfl rfl rfl ?_
        refine z_get C hK (by decide) kC_5 rfl inAX2 (k := 2) (by decide) aw_65 rfl dX2_sort_39 (pc' := 42) rfl ?_
        refine z_iload_n C dX2_sort_42 (pc' := 43) rfl rfl rfl ?_
        refine z_iconst C dX2_sort_43 (pc' := 44) rfl (v := 1) (by decide) ?_
        refine z_isub C dX2_sort_44 (pc' := 45) rfl (z := nI j) (nI_pred j) ?_
        refine z_iald C hK (by decide) kC_7 (t0 := 0) rfl (j := j) rfl (by have := hj.1; omega) (by decide) rfl dX2_sort_45 (pc' := 46) rfl ?_
        refine z_iast C hK hI AdS_in (by decide) kC_7 sC_a7 oC_a7 (t0 := 0) rfl (j := (j + 1)) rfl (by have := hj.1; omega) (by decide) dX2_sort_46 (pc' := 47) rfl ?_
        refine z_iinc (L' := [.ref _, .int _, .int _]) C dX2_sort_47 (pc' := 50) rfl rfl (v := nI j) (iincm j) (by decide) (Nat.le_of_ble_eq_true rfl) rfl ?_
        refine z_goto C dX2_sort_50 (pc' := 12) (by decide) ?_
        exact z_back 3 (ih12 (j, up2 S 24 (j + 1) (S 24 j)) ⟨by have := hj.1; omega, by rw [← hj.2.1, ins, if_neg (by rw [← hj.2.2.1]; exact c_30)], (up2_cc S (j + 1) (S 24 j) (by decide : (6 : Nat) ≠ 24)).trans hj.2.2.1, (up2_cc S (j + 1) (S 24 j) (by decide : (0 : Nat) ≠ 24)).trans hj.2.2.2⟩ (Nat.lt_succ_self j)) rfl rfl
set_option maxRecDepth 100000 in
set_option maxHeartbeats 400000 in
theorem m_X2_pairLastTwo (l : Launch) {cA cB : ClassId} {D : va_G} {ad : Nat → Nat} (hI : Inj 67 ad) (σ : St) {t : Nat} (hm2 : 2 ≤ t) (hm8 : t ≤ 8) (df : Int32) : CV l yX2_pairLastTwo cX2_pairLastTwo 5 0 0 D [(cA, .int), (cB, .object RX3)] 67 ad (cellC cA cB ad) σ [.ref (ad 5), .int (nI t), .int df] (fun u => u = plt σ t df) := by
  refine CV_of (by decide +kernel) (Nat.le_of_ble_eq_true rfl) (by simp [Value.category]) ?_
  intro p e s m below meth c C hM hK
  refine z_aload_n C dX2_pairLastTwo_0 (pc' := 1) rfl rfl rfl ?_
  refine z_get C hK (by decide) kC_5 rfl inAX2 (k := 3) (by decide) aw_66 rfl dX2_pairLastTwo_1 (pc' := 4) rfl ?_
  refine z_iload_n C dX2_pairLastTwo_4 (pc' := 5) rfl rfl rfl ?_
  refine z_iconst C dX2_pairLastTwo_5 (pc' := 6) rfl (v := 2) (by decide) ?_
  refine z_isub C dX2_pairLastTwo_6 (pc' := 7) rfl (z := nI (t - 2)) (pk_sub (a := t) (b := 2) (by omega)) ?_
  refine z_iald C hK (by decide) kC_8 (t0 := 0) rfl (j := (t - 2)) rfl (by omega) (by decide) rfl dX2_pairLastTwo_7 (pc' := 8) rfl ?_
  refine z_iconst C dX2_pairLastTwo_8 (pc' := 9) rfl (v := 1) (by decide) ?_
  refine z_iadd C dX2_pairLastTwo_9 (pc' := 10) rfl rfl ?_
  refine z_istore_n (L' := [.ref _, .int _, .int _, .int _]) C dX2_pairLastTwo_10 (pc' := 11) rfl rfl (by decide) (Nat.le_of_ble_eq_true rfl) rfl ?_
  refine z_aload_n C dX2_pairLastTwo_11 (pc' := 12) rfl rfl rfl ?_
  refine z_get C hK (by decide) kC_5 rfl inAX2 (k := 4) (by decide) aw_67 rfl dX2_pairLastTwo_12 (pc' := 15) rfl ?_
  refine z_iload_n C dX2_pairLastTwo_15 (pc' := 16) rfl rfl rfl ?_
  refine z_iconst C dX2_pairLastTwo_16 (pc' := 17) rfl (v := 2) (by decide) ?_
  refine z_isub C dX2_pairLastTwo_17 (pc' := 18) rfl (z := nI (t - 2)) (pk_sub (a := t) (b := 2) (by omega)) ?_
  refine z_iald C hK (by decide) kC_9 (t0 := 0) rfl (j := (t - 2)) rfl (by omega) (by decide) rfl dX2_pairLastTwo_18 (pc' := 19) rfl ?_
  refine z_iload_n C dX2_pairLastTwo_19 (pc' := 20) rfl rfl rfl ?_
  refine z_iadd C dX2_pairLastTwo_20 (pc' := 21) rfl rfl ?_
  refine z_istore (L' := [.ref _, .int _, .int _, .int _, .int _]) C dX2_pairLastTwo_21 (pc' := 23) rfl (by decide) (Nat.le_of_ble_eq_true rfl) rfl ?_
  refine z_iload_n C dX2_pairLastTwo_23 (pc' := 24) rfl rfl rfl ?_
  refine z_aload_n C dX2_pairLastTwo_24 (pc' := 25) rfl rfl rfl ?_
  refine z_get C hK (by decide) kC_5 rfl inAX2 (k := 3) (by decide) aw_66 rfl dX2_pairLastTwo_25 (pc' := 28) rfl ?_
  refine z_iload_n C dX2_pairLastTwo_28 (pc' := 29) rfl rfl rfl ?_
  refine z_iald C hK (by decide) kC_8 (t0 := 0) rfl (j := t) rfl (by omega) (by decide) rfl dX2_pairLastTwo_29 (pc' := 30) rfl ?_
  refine z_icmp_gt (tgt := 54) C dX2_pairLastTwo_30 (pc' := 33) (by decide) rfl (fun c_30 => ?_) (fun c_30 => ?_)
  ·
    refine z_aload_n C dX2_pairLastTwo_54 (pc' := 55) rfl rfl rfl ?_
    refine z_get C hK (by decide) kC_5 rfl inAX2 (k := 3) (by decide) aw_66 rfl dX2_pairLastTwo_55 (pc' := 58) rfl ?_
    refine z_iload_n C dX2_pairLastTwo_58 (pc' := 59) rfl rfl rfl ?_
    refine z_iload_n C dX2_pairLastTwo_59 (pc' := 60) rfl rfl rfl ?_
    refine z_iast C hK hI AdS_in (by decide) kC_8 sC_a8 oC_a8 (t0 := 0) rfl (j := t) rfl (by omega) (by decide) dX2_pairLastTwo_60 (pc' := 61) rfl ?_
    refine z_aload_n C dX2_pairLastTwo_61 (pc' := 62) rfl rfl rfl ?_
    refine z_get C hK (by decide) kC_5 rfl inAX2 (k := 4) (by decide) aw_67 rfl dX2_pairLastTwo_62 (pc' := 65) rfl ?_
    refine z_iload_n C dX2_pairLastTwo_65 (pc' := 66) rfl rfl rfl ?_
    refine z_iload C dX2_pairLastTwo_66 (pc' := 68) rfl rfl ?_
    refine z_iast C hK hI AdS_in (by decide) kC_9 sC_a9 oC_a9 (t0 := 0) rfl (j := t) rfl (by omega) (by decide) dX2_pairLastTwo_68 (pc' := 69) rfl ?_
    exact z_vret C hM dX2_pairLastTwo_69 (by first | (rw [plt, if_pos]; exact Or.inl c_30) | (rw [plt, if_neg]; exact fun h => h.elim c_30 (fun q => c_40 q.1)) | (rw [plt, if_neg]; exact fun h => h.elim c_30 (fun q => i32_nle q.2 c_51)) | (rw [plt, if_pos]; exact Or.inr ⟨c_40, i32_nle2 c_51⟩))
  ·
    refine z_iload_n C dX2_pairLastTwo_33 (pc' := 34) rfl rfl rfl ?_
    refine z_aload_n C dX2_pairLastTwo_34 (pc' := 35) rfl rfl rfl ?_
    refine z_get C hK (by decide) kC_5 rfl inAX2 (k := 3) (by decide) aw_66 rfl dX2_pairLastTwo_35 (pc' := 38) rfl ?_
    refine z_iload_n C dX2_pairLastTwo_38 (pc' := 39) rfl rfl rfl ?_
    refine z_iald C hK (by decide) kC_8 (t0 := 0) rfl (j := t) rfl (by omega) (by decide) rfl dX2_pairLastTwo_39 (pc' := 40) rfl ?_
    refine z_icmp_ne (tgt := 69) C dX2_pairLastTwo_40 (pc' := 43) (by decide) rfl (fun c_40 => ?_) (fun c_40 => ?_)
    ·
      exact z_vret C hM dX2_pairLastTwo_69 (by first | (rw [plt, if_pos]; exact Or.inl c_30) | (rw [plt, if_neg]; exact fun h => h.elim c_30 (fun q => c_40 q.1)) | (rw [plt, if_neg]; exact fun h => h.elim c_30 (fun q => i32_nle q.2 c_51)) | (rw [plt, if_pos]; exact Or.inr ⟨c_40, i32_nle2 c_51⟩))
    ·
      refine z_iload C dX2_pairLastTwo_43 (pc' := 45) rfl rfl ?_
      refine z_aload_n C dX2_pairLastTwo_45 (pc' := 46) rfl rfl rfl ?_
      refine z_get C hK (by decide) kC_5 rfl inAX2 (k := 4) (by decide) aw_67 rfl dX2_pairLastTwo_46 (pc' := 49) rfl ?_
      refine z_iload_n C dX2_pairLastTwo_49 (pc' := 50) rfl rfl rfl ?_
      refine z_iald C hK (by decide) kC_9 (t0 := 0) rfl (j := t) rfl (by omega) (by decide) rfl dX2_pairLastTwo_50 (pc' := 51) rfl ?_
      refine z_icmp_ge (tgt := 69) C dX2_pairLastTwo_51 (pc' := 54) (by decide) rfl (fun c_51 => ?_) (fun c_51 => ?_)
      ·
        exact z_vret C hM dX2_pairLastTwo_69 (by first | (rw [plt, if_pos]; exact Or.inl c_30) | (rw [plt, if_neg]; exact fun h => h.elim c_30 (fun q => c_40 q.1)) | (rw [plt, if_neg]; exact fun h => h.elim c_30 (fun q => i32_nle q.2 c_51)) | (rw [plt, if_pos]; exact Or.inr ⟨c_40, i32_nle2 c_51⟩))
      ·
        refine z_aload_n C dX2_pairLastTwo_54 (pc' := 55) rfl rfl rfl ?_
        refine z_get C hK (by decide) kC_5 rfl inAX2 (k := 3) (by decide) aw_66 rfl dX2_pairLastTwo_55 (pc' := 58) rfl ?_
        refine z_iload_n C dX2_pairLastTwo_58 (pc' := 59) rfl rfl rfl ?_
        refine z_iload_n C dX2_pairLastTwo_59 (pc' := 60) rfl rfl rfl ?_
        refine z_iast C hK hI AdS_in (by decide) kC_8 sC_a8 oC_a8 (t0 := 0) rfl (j := t) rfl (by omega) (by decide) dX2_pairLastTwo_60 (pc' := 61) rfl ?_
        refine z_aload_n C dX2_pairLastTwo_61 (pc' := 62) rfl rfl rfl ?_
        refine z_get C hK (by decide) kC_5 rfl inAX2 (k := 4) (by decide) aw_67 rfl dX2_pairLastTwo_62 (pc' := 65) rfl ?_
        refine z_iload_n C dX2_pairLastTwo_65 (pc' := 66) rfl rfl rfl ?_
        refine z_iload C dX2_pairLastTwo_66 (pc' := 68) rfl rfl ?_
        refine z_iast C hK hI AdS_in (by decide) kC_9 sC_a9 oC_a9 (t0 := 0) rfl (j := t) rfl (by omega) (by decide) dX2_pairLastTwo_68 (pc' := 69) rfl ?_
        exact z_vret C hM dX2_pairLastTwo_69 (by first | (rw [plt, if_pos]; exact Or.inl c_30) | (rw [plt, if_neg]; exact fun h => h.elim c_30 (fun q => c_40 q.1)) | (rw [plt, if_neg]; exact fun h => h.elim c_30 (fun q => i32_nle q.2 c_51)) | (rw [plt, if_pos]; exact Or.inr ⟨c_40, i32_nle2 c_51⟩))
set_option maxRecDepth 100000 in
set_option maxHeartbeats 400000 in
theorem m_X2_pairUp (l : Launch) {cA cB : ClassId} {D : va_G} {ad : Nat → Nat} (hI : Inj 67 ad) (σ : St) {n : Nat} (hn : n ≤ 8) (e4 : σ 0 4 = nI n) (law : Int32) : CV l yX2_pairUp cX2_pairUp 3 1 24 D [(cA, .int), (cB, .object RX3)] 67 ad (cellC cA cB ad) σ [.ref (ad 5), .int law] (fun u => u = pup (srt σ n) law n) := by
  refine CV_of (by decide +kernel) (Nat.le_of_ble_eq_true rfl) (by simp [Value.category]) ?_
  intro p e s m below meth c C hM hK
  refine z_aload_n C dX2_pairUp_0 (pc' := 1) rfl rfl rfl ?_
  refine z_callV C hK (m_X2_sort l hI _ (n := n) hn e4) AdS_in aw_325 aw_327 aw_9 aw_29 aw_328 (by decide) kC_5 rfl (nA := 0) (by decide +kernel) rfl ⟨Nat.le_of_ble_eq_true rfl, Nat.le_of_ble_eq_true rfl⟩ (rest := []) rfl (Nat.le_of_ble_eq_true rfl) ⟨Nat.zero_le _, Nat.zero_le _⟩ dX2_pairUp_1 (pc' := 4) rfl (fun u_1 h_1 => ?_)
  rw [h_1]
  refine z_iconst C dX2_pairUp_4 (pc' := 5) rfl (v := 1) (by decide) ?_
  refine z_istore_n (L' := [.ref _, .int _, .int _]) C dX2_pairUp_5 (pc' := 6) rfl rfl (by decide) (Nat.le_of_ble_eq_true rfl) rfl ?_
  refine z_loop (τ := Nat) (fun q => n - q) (fun q => q ≤ n) (fun q => (pup (srt σ n) law q)) (fun q => [.ref (ad 5), .int law, .int (nI (q + 1))]) 0 (by omega) rfl ⟨_, rfl⟩ ?_
  intro q hq ih6
  try dsimp only at hq ih6 ⊢
  refine z_iload_n C dX2_pairUp_6 (pc' := 7) rfl rfl rfl ?_
  refine z_aload_n C dX2_pairUp_7 (pc' := 8) rfl rfl rfl ?_
  refine z_get C hK (by decide) kC_5 rfl inAX2 (k := 0) (by decide) aw_62 rfl dX2_pairUp_8 (pc' := 11) rfl ?_
  refine z_top (y := nI n) (by rw [pup_o (by decide) (by decide), srt_o (by decide), e4]) ?_
  refine z_icmp_gt (tgt := 96) C dX2_pairUp_11 (pc' := 14) (by decide) rfl (fun c_11 => ?_) (fun c_11 => ?_)
  ·
    have n_11 : n < (q + 1) := (nI_ltI (a := n) (b := (q + 1)) (by omega) (by omega)).mp c_11
    obtain rfl : q = n := (by omega)
    exact z_vret C hM dX2_pairUp_96 rfl
  ·
    have n_11 : ¬ n < (q + 1) := fun z9 => c_11 ((nI_ltI (a := n) (b := (q + 1)) (by omega) (by omega)).mpr z9)
    refine z_aload_n C dX2_pairUp_14 (pc' := 15) rfl rfl rfl ?_
    refine z_get C hK (by decide) kC_5 rfl inAX2 (k := 3) (by decide) aw_66 rfl dX2_pairUp_15 (pc' := 18) rfl ?_
    refine z_iload_n C dX2_pairUp_18 (pc' := 19) rfl rfl rfl ?_
    refine z_aload_n C dX2_pairUp_19 (pc' := 20) rfl rfl rfl ?_
    refine z_get C hK (by decide) kC_5 rfl inAX2 (k := 3) (by decide) aw_66 rfl dX2_pairUp_20 (pc' := 23) rfl ?_
    refine z_iload_n C dX2_pairUp_23 (pc' := 24) rfl rfl rfl ?_
    refine z_iconst C dX2_pairUp_24 (pc' := 25) rfl (v := 1) (by decide) ?_
    refine z_isub C dX2_pairUp_25 (pc' := 26) rfl (z := nI q) (nI_pred q) ?_
    refine z_iald C hK (by decide) kC_8 (t0 := 0) rfl (j := q) rfl (by omega) (by decide) rfl dX2_pairUp_26 (pc' := 27) rfl ?_
    refine z_iast C hK hI AdS_in (by decide) kC_8 sC_a8 oC_a8 (t0 := 0) rfl (j := (q + 1)) rfl (by omega) (by decide) dX2_pairUp_27 (pc' := 28) rfl ?_
    refine z_aload_n C dX2_pairUp_28 (pc' := 29) rfl rfl rfl ?_
    refine z_get C hK (by decide) kC_5 rfl inAX2 (k := 4) (by decide) aw_67 rfl dX2_pairUp_29 (pc' := 32) rfl ?_
    refine z_iload_n C dX2_pairUp_32 (pc' := 33) rfl rfl rfl ?_
    refine z_aload_n C dX2_pairUp_33 (pc' := 34) rfl rfl rfl ?_
    refine z_get C hK (by decide) kC_5 rfl inAX2 (k := 4) (by decide) aw_67 rfl dX2_pairUp_34 (pc' := 37) rfl ?_
    refine z_iload_n C dX2_pairUp_37 (pc' := 38) rfl rfl rfl ?_
    refine z_iconst C dX2_pairUp_38 (pc' := 39) rfl (v := 1) (by decide) ?_
    refine z_isub C dX2_pairUp_39 (pc' := 40) rfl (z := nI q) (nI_pred q) ?_
    refine z_iald C hK (by decide) kC_9 (t0 := 0) rfl (j := q) rfl (by omega) (by decide) rfl dX2_pairUp_40 (pc' := 41) rfl ?_
    refine z_iast C hK hI AdS_in (by decide) kC_9 sC_a9 oC_a9 (t0 := 0) rfl (j := (q + 1)) rfl (by omega) (by decide) dX2_pairUp_41 (pc' := 42) rfl ?_
    refine z_iload_n C dX2_pairUp_42 (pc' := 43) rfl rfl rfl ?_
    refine z_iconst C dX2_pairUp_43 (pc' := 44) rfl (v := 2) (by decide) ?_
    refine z_icmp_lt (tgt := 90) C dX2_pairUp_44 (pc' := 47) (by decide) rfl (fun c_44 => ?_) (fun c_44 => ?_)
    ·
      have n_44 : (q + 1) < 2 := (nI_ltI (a := (q + 1)) (b := 2) (by omega) (by omega)).mp c_44
      refine z_iinc (L' := [.ref _, .int _, .int _]) C dX2_pairUp_90 (pc' := 93) rfl rfl (iinc1 _) (by decide) (Nat.le_of_ble_eq_true rfl) rfl ?_
      refine z_goto C dX2_pairUp_93 (pc' := 6) (by decide) ?_
      exact z_back 3 (ih6 (q + 1) (by omega) (by omega)) (by first | (rw [pup, pu2, if_pos]; (try rfl); exact ⟨by omega, i32_nlt c_65⟩) | (rw [pup, pu2, if_neg]; (try rfl); exact fun h => i32_nle c_65 h.2) | (rw [pup, pu2, if_neg]; (try rfl); exact fun h => absurd h.1 (by omega))) rfl
    ·
      have n_44 : ¬ (q + 1) < 2 := fun z9 => c_44 ((nI_ltI (a := (q + 1)) (b := 2) (by omega) (by omega)).mpr z9)
      refine z_aload_n C dX2_pairUp_47 (pc' := 48) rfl rfl rfl ?_
      refine z_get C hK (by decide) kC_5 rfl inAX2 (k := 2) (by decide) aw_65 rfl dX2_pairUp_48 (pc' := 51) rfl ?_
      refine z_iload_n C dX2_pairUp_51 (pc' := 52) rfl rfl rfl ?_
      refine z_iconst C dX2_pairUp_52 (pc' := 53) rfl (v := 1) (by decide) ?_
      refine z_isub C dX2_pairUp_53 (pc' := 54) rfl (z := nI q) (nI_pred q) ?_
      refine z_iald C hK (by decide) kC_7 (t0 := 0) rfl (j := q) rfl (by omega) (by decide) rfl dX2_pairUp_54 (pc' := 55) rfl ?_
      refine z_aload_n C dX2_pairUp_55 (pc' := 56) rfl rfl rfl ?_
      refine z_get C hK (by decide) kC_5 rfl inAX2 (k := 2) (by decide) aw_65 rfl dX2_pairUp_56 (pc' := 59) rfl ?_
      refine z_iload_n C dX2_pairUp_59 (pc' := 60) rfl rfl rfl ?_
      refine z_iconst C dX2_pairUp_60 (pc' := 61) rfl (v := 2) (by decide) ?_
      refine z_isub C dX2_pairUp_61 (pc' := 62) rfl (z := nI (q - 1)) (pk_sub (a := q + 1) (b := 2) (by omega)) ?_
      refine z_iald C hK (by decide) kC_7 (t0 := 0) rfl (j := (q - 1)) rfl (by omega) (by decide) rfl dX2_pairUp_62 (pc' := 63) rfl ?_
      refine z_isub C dX2_pairUp_63 (pc' := 64) rfl rfl ?_
      refine z_iload_n C dX2_pairUp_64 (pc' := 65) rfl rfl rfl ?_
      refine z_icmp_gt (tgt := 90) C dX2_pairUp_65 (pc' := 68) (by decide) rfl (fun c_65 => ?_) (fun c_65 => ?_)
      ·
        refine z_iinc (L' := [.ref _, .int _, .int _]) C dX2_pairUp_90 (pc' := 93) rfl rfl (iinc1 _) (by decide) (Nat.le_of_ble_eq_true rfl) rfl ?_
        refine z_goto C dX2_pairUp_93 (pc' := 6) (by decide) ?_
        exact z_back 3 (ih6 (q + 1) (by omega) (by omega)) (by first | (rw [pup, pu2, if_pos]; (try rfl); exact ⟨by omega, i32_nlt c_65⟩) | (rw [pup, pu2, if_neg]; (try rfl); exact fun h => i32_nle c_65 h.2) | (rw [pup, pu2, if_neg]; (try rfl); exact fun h => absurd h.1 (by omega))) rfl
      ·
        refine z_aload_n C dX2_pairUp_68 (pc' := 69) rfl rfl rfl ?_
        refine z_iload_n C dX2_pairUp_69 (pc' := 70) rfl rfl rfl ?_
        refine z_aload_n C dX2_pairUp_70 (pc' := 71) rfl rfl rfl ?_
        refine z_get C hK (by decide) kC_5 rfl inAX2 (k := 2) (by decide) aw_65 rfl dX2_pairUp_71 (pc' := 74) rfl ?_
        refine z_iload_n C dX2_pairUp_74 (pc' := 75) rfl rfl rfl ?_
        refine z_iconst C dX2_pairUp_75 (pc' := 76) rfl (v := 1) (by decide) ?_
        refine z_isub C dX2_pairUp_76 (pc' := 77) rfl (z := nI q) (nI_pred q) ?_
        refine z_iald C hK (by decide) kC_7 (t0 := 0) rfl (j := q) rfl (by omega) (by decide) rfl dX2_pairUp_77 (pc' := 78) rfl ?_
        refine z_aload_n C dX2_pairUp_78 (pc' := 79) rfl rfl rfl ?_
        refine z_get C hK (by decide) kC_5 rfl inAX2 (k := 2) (by decide) aw_65 rfl dX2_pairUp_79 (pc' := 82) rfl ?_
        refine z_iload_n C dX2_pairUp_82 (pc' := 83) rfl rfl rfl ?_
        refine z_iconst C dX2_pairUp_83 (pc' := 84) rfl (v := 2) (by decide) ?_
        refine z_isub C dX2_pairUp_84 (pc' := 85) rfl (z := nI (q - 1)) (pk_sub (a := q + 1) (b := 2) (by omega)) ?_
        refine z_iald C hK (by decide) kC_7 (t0 := 0) rfl (j := (q - 1)) rfl (by omega) (by decide) rfl dX2_pairUp_85 (pc' := 86) rfl ?_
        refine z_isub C dX2_pairUp_86 (pc' := 87) rfl rfl ?_
        refine z_callV C hK (m_X2_pairLastTwo l hI _ (t := (q + 1)) (by omega) (by omega) _) AdS_in aw_329 aw_331 aw_10 aw_29 aw_332 (by decide) kC_5 rfl (nA := 2) (by decide +kernel) rfl ⟨Nat.le_of_ble_eq_true rfl, Nat.le_of_ble_eq_true rfl⟩ (rest := []) rfl (Nat.le_of_ble_eq_true rfl) ⟨Nat.zero_le _, Nat.zero_le _⟩ dX2_pairUp_87 (pc' := 90) rfl (fun u_87 h_87 => ?_)
        rw [h_87]
        refine z_iinc (L' := [.ref _, .int _, .int _]) C dX2_pairUp_90 (pc' := 93) rfl rfl (iinc1 _) (by decide) (Nat.le_of_ble_eq_true rfl) rfl ?_
        refine z_goto C dX2_pairUp_93 (pc' := 6) (by decide) ?_
        exact z_back 3 (ih6 (q + 1) (by omega) (by omega)) (by first | (rw [pup, pu2, if_pos]; (try rfl); exact ⟨by omega, i32_nlt c_65⟩) | (rw [pup, pu2, if_neg]; (try rfl); exact fun h => i32_nle c_65 h.2) | (rw [pup, pu2, if_neg]; (try rfl); exact fun h => absurd h.1 (by omega))) rfl
set_option maxRecDepth 100000 in
set_option maxHeartbeats 400000 in
theorem m_X2_bestPairs (l : Launch) {cA cB : ClassId} {D : va_G} {ad : Nat → Nat} (hI : Inj 67 ad) (σ : St) {n : Nat} (hn : n ≤ 8) (e4 : σ 0 4 = nI n) : CI l yX2_bestPairs cX2_bestPairs 1 .int 0 0 D [(cA, .int), (cB, .object RX3)] 67 ad (cellC cA cB ad) σ [.ref (ad 5)] (fun r u => r = σ 25 n ∧ u = σ) := by
  refine CI_of (by decide +kernel) (Nat.le_of_ble_eq_true rfl) (by simp [Value.category]) ?_
  intro p e s m below meth c C hM hK
  refine z_aload_n C dX2_bestPairs_0 (pc' := 1) rfl rfl rfl ?_
  refine z_get C hK (by decide) kC_5 rfl inAX2 (k := 3) (by decide) aw_66 rfl dX2_bestPairs_1 (pc' := 4) rfl ?_
  refine z_aload_n C dX2_bestPairs_4 (pc' := 5) rfl rfl rfl ?_
  refine z_get C hK (by decide) kC_5 rfl inAX2 (k := 0) (by decide) aw_62 rfl dX2_bestPairs_5 (pc' := 8) rfl ?_
  refine z_top (y := nI n) e4 ?_
  refine z_iald C hK (by decide) kC_8 (t0 := 0) rfl (j := n) rfl (by omega) (by decide) rfl dX2_bestPairs_8 (pc' := 9) rfl ?_
  exact z_iret C hM dX2_bestPairs_9 ⟨rfl, rfl⟩
set_option maxRecDepth 100000 in
set_option maxHeartbeats 400000 in
theorem m_X2_leastSum (l : Launch) {cA cB : ClassId} {D : va_G} {ad : Nat → Nat} (hI : Inj 67 ad) (σ : St) {n : Nat} (hn : n ≤ 8) (e4 : σ 0 4 = nI n) : CI l yX2_leastSum cX2_leastSum 1 .int 0 0 D [(cA, .int), (cB, .object RX3)] 67 ad (cellC cA cB ad) σ [.ref (ad 5)] (fun r u => r = σ 26 n ∧ u = σ) := by
  refine CI_of (by decide +kernel) (Nat.le_of_ble_eq_true rfl) (by simp [Value.category]) ?_
  intro p e s m below meth c C hM hK
  refine z_aload_n C dX2_leastSum_0 (pc' := 1) rfl rfl rfl ?_
  refine z_get C hK (by decide) kC_5 rfl inAX2 (k := 4) (by decide) aw_67 rfl dX2_leastSum_1 (pc' := 4) rfl ?_
  refine z_aload_n C dX2_leastSum_4 (pc' := 5) rfl rfl rfl ?_
  refine z_get C hK (by decide) kC_5 rfl inAX2 (k := 0) (by decide) aw_62 rfl dX2_leastSum_5 (pc' := 8) rfl ?_
  refine z_top (y := nI n) e4 ?_
  refine z_iald C hK (by decide) kC_9 (t0 := 0) rfl (j := n) rfl (by omega) (by decide) rfl dX2_leastSum_8 (pc' := 9) rfl ?_
  exact z_iret C hM dX2_leastSum_9 ⟨rfl, rfl⟩
set_option maxRecDepth 100000 in
set_option maxHeartbeats 400000 in
theorem m_X4_pairs (l : Launch) {cA cB : ClassId} {D : va_G} {ad : Nat → Nat} (hI : Inj 67 ad) (σ : St) {n : Nat} (hn : n ≤ 8) (e4 : σ 0 4 = nI n) (q : Int32) : CI l yX4_pairs cX4_pairs 2 .int 2 46 D [(cA, .int), (cB, .object RX3)] 67 ad (cellC cA cB ad) σ [.ref (ad 0), .int q] (fun r u => (¬ inR q 0 1 ∧ r = -1 ∧ u = σ) ∨ (inR q 0 1 ∧ u = pup (srt σ n) (σ 5 0) n ∧ r = if q = 0 then u 25 n else u 26 n)) := by
  refine CI_of (by decide +kernel) (Nat.le_of_ble_eq_true rfl) (by simp [Value.category]) ?_
  intro p e s m below meth c C hM hK
  refine z_iload_n C dX4_pairs_0 (pc' := 1) rfl rfl rfl ?_
  refine z_iconst C dX4_pairs_1 (pc' := 2) rfl (v := 0) (by decide) ?_
  refine z_iconst C dX4_pairs_2 (pc' := 3) rfl (v := 1) (by decide) ?_
  refine z_callS C (m_X4_within l _ _ _) stabP aw_180 aw_181 aw_27 aw_182 (nA := 3) (by decide +kernel) rfl ⟨Nat.le_of_ble_eq_true rfl, Nat.le_of_ble_eq_true rfl⟩ (rest := []) rfl (Nat.le_of_ble_eq_true rfl) ⟨Nat.zero_le _, Nat.zero_le _⟩ dX4_pairs_3 (pc' := 6) rfl (fun r_3 h_3 => ?_)
  rcases h_3 with ⟨rfl, h_3⟩ | ⟨rfl, h_3⟩
  ·
    refine z_if_ne (tgt := 11) C dX4_pairs_6 (pc' := 9) (by decide) rfl (fun _ => ?_) (fun q => absurd q (by decide))
    refine z_aload_n C dX4_pairs_11 (pc' := 12) rfl rfl rfl ?_
    refine z_get C hK (by decide) kC_0 rfl inAX4 (k := 2) (by decide) aw_147 rfl dX4_pairs_12 (pc' := 15) rfl ?_
    refine z_aload_n C dX4_pairs_15 (pc' := 16) rfl rfl rfl ?_
    refine z_get C hK (by decide) kC_0 rfl inAX4 (k := 1) (by decide) aw_146 rfl dX4_pairs_16 (pc' := 19) rfl ?_
    refine z_get C hK (by decide) kC_3 rfl inAX0 (k := 0) (by decide) aw_51 rfl dX4_pairs_19 (pc' := 22) rfl ?_
    refine z_iconst C dX4_pairs_22 (pc' := 23) rfl (v := 0) (by decide) ?_
    refine z_iald C hK (by decide) kC_4 (t0 := 0) rfl (j := 0) rfl (by decide) (by decide) rfl dX4_pairs_23 (pc' := 24) rfl ?_
    refine z_callV C hK (m_X2_pairUp l hI _ (n := n) hn e4 _) AdS_in aw_321 aw_322 aw_323 aw_29 aw_324 (by decide) kC_5 rfl (nA := 1) (by decide +kernel) rfl ⟨Nat.le_of_ble_eq_true rfl, Nat.le_of_ble_eq_true rfl⟩ (rest := []) rfl (Nat.le_of_ble_eq_true rfl) ⟨Nat.zero_le _, Nat.zero_le _⟩ dX4_pairs_24 (pc' := 27) rfl (fun u_24 h_24 => ?_)
    rw [h_24]
    refine z_iload_n C dX4_pairs_27 (pc' := 28) rfl rfl rfl ?_
    refine z_if_ne (tgt := 41) C dX4_pairs_28 (pc' := 31) (by decide) rfl (fun c_28 => ?_) (fun c_28 => ?_)
    ·
      refine z_aload_n C dX4_pairs_41 (pc' := 42) rfl rfl rfl ?_
      refine z_get C hK (by decide) kC_0 rfl inAX4 (k := 2) (by decide) aw_147 rfl dX4_pairs_42 (pc' := 45) rfl ?_
      refine z_callI C hK (m_X2_leastSum l hI _ (n := n) hn (by rw [pup_o (by decide) (by decide), srt_o (by decide), e4])) AdS_in aw_337 aw_338 aw_339 aw_29 aw_340 (by decide) kC_5 rfl (nA := 0) (by decide +kernel) rfl ⟨Nat.le_of_ble_eq_true rfl, Nat.le_of_ble_eq_true rfl⟩ (rest := []) rfl (Nat.le_of_ble_eq_true rfl) ⟨Nat.zero_le _, Nat.zero_le _⟩ dX4_pairs_45 (pc' := 48) rfl (fun r_45 u_45 h_45 => ?_)
      obtain ⟨hr_45, hu_45⟩ := h_45
      rw [hr_45, hu_45]
      exact z_iret C hM dX4_pairs_48 (Or.inr ⟨by assumption, rfl, by first | exact (if_pos c_28).symm | exact (if_neg c_28).symm⟩)
    ·
      refine z_aload_n C dX4_pairs_31 (pc' := 32) rfl rfl rfl ?_
      refine z_get C hK (by decide) kC_0 rfl inAX4 (k := 2) (by decide) aw_147 rfl dX4_pairs_32 (pc' := 35) rfl ?_
      refine z_callI C hK (m_X2_bestPairs l hI _ (n := n) hn (by rw [pup_o (by decide) (by decide), srt_o (by decide), e4])) AdS_in aw_333 aw_334 aw_335 aw_29 aw_336 (by decide) kC_5 rfl (nA := 0) (by decide +kernel) rfl ⟨Nat.le_of_ble_eq_true rfl, Nat.le_of_ble_eq_true rfl⟩ (rest := []) rfl (Nat.le_of_ble_eq_true rfl) ⟨Nat.zero_le _, Nat.zero_le _⟩ dX4_pairs_35 (pc' := 38) rfl (fun r_35 u_35 h_35 => ?_)
      obtain ⟨hr_35, hu_35⟩ := h_35
      rw [hr_35, hu_35]
      refine z_goto C dX4_pairs_38 (pc' := 48) (by decide) ?_
      exact z_iret C hM dX4_pairs_48 (Or.inr ⟨by assumption, rfl, by first | exact (if_pos c_28).symm | exact (if_neg c_28).symm⟩)
  ·
    refine z_if_ne (tgt := 11) C dX4_pairs_6 (pc' := 9) (by decide) rfl (fun q => absurd q (by decide)) (fun _ => ?_)
    refine z_iconst C dX4_pairs_9 (pc' := 10) rfl (v := (-1)) (by decide) ?_
    exact z_iret C hM dX4_pairs_10 (Or.inl ⟨by assumption, rfl, rfl⟩)
