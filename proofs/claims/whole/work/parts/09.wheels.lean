/-! cuts, turnings, miles, passes -/
def mx (x y : Int32) : Int32 := if x < y then y else x
def mn (x y : Int32) : Int32 := if y < x then y else x
def gdC (f : Nat → Int32) : Nat → Int32
  | 0 => f 0
  | n + 1 => mx (gdC f n) (f (n + 1))
def ldC (f : Nat → Int32) : Nat → Int32
  | 0 => f 0
  | n + 1 => mn (ldC f n) (f (n + 1))
def fullN (f : Nat → Int32) : Int32 := gdC f 4 - ldC f 4
def thinN (f : Nat → Int32) (th : Int32) : Int32 := if f 0 = gdC f 4 then mx 0 (fullN f - th) else fullN f
def evenN (f : Nat → Int32) (th : Int32) : Int32 := thinN f th + (thinN f th - thinN f th / 2 * 2)
def needN (f : Nat → Int32) (kd : Nat) (th : Int32) : Int32 := if kd = 0 then fullN f else if kd = 1 then thinN f th else evenN f th
def tkL (σ : St) (c : Nat) (gone : Int32) : Nat → St
  | 0 => σ
  | n + 1 => up2 (tkL σ c gone n) c n (mx 0 (tkL σ c gone n c n - gone))
def g_take (σ : St) (k : Nat) (cut lst : Int32) : St := up2 (up2 (tkL σ (100 + 2 * k) (lst + cut) 5) 1 k (tkL σ (100 + 2 * k) (lst + cut) 5 1 k - 2 * cut)) 4 k 0
def g_turn (σ : St) (k : Nat) (cut lst : Int32) : St := up2 (g_take σ k cut lst) 0 2 (g_take σ k cut lst 0 2 + 1)
def rnL (σ : St) (c : Nat) (x : Int32) : Nat → St
  | 0 => σ
  | n + 1 => up2 (rnL σ c x n) c n (mn 99 (rnL σ c x n c n + (if n = 0 ∨ n = 4 then x / 2 else x)))
def wornF (σ : St) (k : Nat) (n : Int32) : Int32 := σ 3 k * n / 100
def rn1 (σ : St) (k : Nat) (n : Int32) : St := rnL σ (100 + 2 * k) (wornF σ k n) 5
def rn2 (σ : St) (k : Nat) (n : Int32) : St := up2 (rn1 σ k n) 1 k (mx 6000 (rn1 σ k n 1 k - wornF σ k n))
def runS (σ : St) (k : Nat) (n : Int32) : St := up2 (rn2 σ k n) 4 k (rn2 σ k n 4 k + n)
def mlS (σ : St) (n : Int32) : Nat → St
  | 0 => σ
  | k + 1 => runS (mlS σ n k) k n
def dueC (σ : St) (n : Int32) : Nat → Int32
  | 0 => 0
  | k + 1 => if 0 < 1000 - mlS σ n (k + 1) 4 k then dueC σ n k else dueC σ n k + 1
def cntB (σ : St) (k : Nat) (bar : Int32) : Nat → Int32
  | 0 => 0
  | i + 1 => if σ (101 + 2 * k) i < bar then cntB σ k bar i else cntB σ k bar i + 1
def fl (σ : St) (k b : Nat) : Int32 := if cntB σ k (σ 0 1) b < 3 then 0 else 1
def sumF (g : Nat → Int32) : Nat → Int32
  | 0 => 0
  | k + 1 => sumF g k + g k
def flC (σ : St) (k : Nat) : Int32 := fl σ k (wn (σ 21 k))
def flR (σ : St) (k : Nat) : Int32 := fl σ k (min 5 (wn (σ 11 k)))
def okB (σ : St) : Prop := ∀ k : Nat, k < 16 → ∃ b : Nat, b ≤ 5 ∧ σ 21 k = nI b
def okP (σ : St) : Prop := ∀ k : Nat, k < 16 → ∃ b : Nat, b < 1000000 ∧ σ 11 k = nI b
def cntN (σ : St) (tot : Int32) (j : Nat) : Int32 := if j = 0 then σ 0 4 else if j = 1 then σ 0 5 else if j = 2 then tot else if j = 3 then σ 0 0 else if j = 4 then σ 0 1 else σ 0 2
def f_count (σ : St) (tot q : Int32) : Int32 := if inR q 0 5 then cntN σ tot (wn q) else -1
def g_feel (σ : St) (k o : Nat) (v : Int32) : St := up2 (up2 (up2 σ (101 + 2 * k) o v) 22 k (if o = 4 then 0 else nI (o + 1))) 21 k (mn 5 (σ 21 k + 1))
theorem flC_of {σ : St} {k b : Nat} (h : σ 21 k = nI b) (hb : b ≤ 5) : flC σ k = fl σ k b := by unfold flC; rw [h, wn_nI (by omega)]
theorem flR_of {σ : St} {k b : Nat} (h : σ 11 k = nI b) (hb : b < 1000000) : flR σ k = fl σ k (min 5 b) := by unfold flR; rw [h, wn_nI (by omega)]
set_option maxRecDepth 100000 in
set_option maxHeartbeats 400000 in
theorem m_X2_store (l : Launch) {cA cB : ClassId} {D : va_G} {ad : Nat → Nat} (hI : Inj 67 ad) (σ : St) {n : Nat} (hn : n < 8) (e4 : σ 0 4 = nI n) (v : Int32) : CI l yX2_store cX2_store 2 .int 0 0 D [(cA, .int), (cB, .object RX3)] 67 ad (cellC cA cB ad) σ [.ref (ad 5), .int v] (fun r u => r = nI n ∧ u = up2 (up2 σ 6 n v) 0 4 (nI n + 1)) := by
  refine CI_of (by decide +kernel) (Nat.le_of_ble_eq_true rfl) (by simp [Value.category]) ?_
  intro p e s m below meth c C hM hK
  refine z_aload_n C dX2_store_0 (pc' := 1) rfl rfl rfl ?_
  refine z_get C hK (by decide) kC_5 rfl inAX2 (k := 1) (by decide) aw_64 rfl dX2_store_1 (pc' := 4) rfl ?_
  refine z_aload_n C dX2_store_4 (pc' := 5) rfl rfl rfl ?_
  refine z_get C hK (by decide) kC_5 rfl inAX2 (k := 0) (by decide) aw_62 rfl dX2_store_5 (pc' := 8) rfl ?_
  refine z_top (y := nI n) (by simp [up2, e4]) ?_
  refine z_iload_n C dX2_store_8 (pc' := 9) rfl rfl rfl ?_
  refine z_iast C hK hI AdS_in (by decide) kC_6 sC_a6 oC_a6 (t0 := 0) rfl (j := n) rfl (by omega) (by decide) dX2_store_9 (pc' := 10) rfl ?_
  refine z_aload_n C dX2_store_10 (pc' := 11) rfl rfl rfl ?_
  refine z_dup C dX2_store_11 (pc' := 12) rfl rfl ?_
  refine z_get C hK (by decide) kC_5 rfl inAX2 (k := 0) (by decide) aw_62 rfl dX2_store_12 (pc' := 15) rfl ?_
  refine z_top (y := nI n) (by simp [up2, e4]) ?_
  refine z_iconst C dX2_store_15 (pc' := 16) rfl (v := 1) (by decide) ?_
  refine z_iadd C dX2_store_16 (pc' := 17) rfl (nI_add (n) (1)) ?_
  refine z_put C hK hI AdS_in (by decide) kC_5 sC_04 oC_04 rfl inAX2 tyX2_ok nmX2 (k := 0) (by decide) aw_62 rfl (ty := .int) (by decide +kernel) rfl rfl (Nat.le_of_ble_eq_true rfl) dX2_store_17 (pc' := 20) rfl ?_
  refine z_aload_n C dX2_store_20 (pc' := 21) rfl rfl rfl ?_
  refine z_get C hK (by decide) kC_5 rfl inAX2 (k := 0) (by decide) aw_62 rfl dX2_store_21 (pc' := 24) rfl ?_
  refine z_top (y := nI (n + 1)) (by simp [up2]) ?_
  refine z_iconst C dX2_store_24 (pc' := 25) rfl (v := 1) (by decide) ?_
  refine z_isub C dX2_store_25 (pc' := 26) rfl (z := nI n) (nI_pred n) ?_
  exact z_iret C hM dX2_store_26 (by simp [nI_1, up2])
set_option maxRecDepth 100000 in
set_option maxHeartbeats 400000 in
theorem m_X4_spare (l : Launch) {cA cB : ClassId} {D : va_G} {ad : Nat → Nat} (hI : Inj 67 ad) (σ : St) {n : Nat} (hn : n ≤ 8) (e4 : σ 0 4 = nI n) (v : Int32) : CI l yX4_spare cX4_spare 2 .int 1 22 D [(cA, .int), (cB, .object RX3)] 67 ad (cellC cA cB ad) σ [.ref (ad 0), .int v] (fun r u => r = f_spare σ v ∧ u = g_spare σ v) := by
  refine CI_of (by decide +kernel) (Nat.le_of_ble_eq_true rfl) (by simp [Value.category]) ?_
  intro p e s m below meth c C hM hK
  refine z_iload_n C dX4_spare_0 (pc' := 1) rfl rfl rfl ?_
  refine z_sipush C dX4_spare_1 (pc' := 4) rfl (v := 6000) (by decide) ?_
  refine z_sipush C dX4_spare_4 (pc' := 7) rfl (v := 9200) (by decide) ?_
  refine z_callS C (m_X4_within l _ _ _) stabP aw_180 aw_181 aw_27 aw_182 (nA := 3) (by decide +kernel) rfl ⟨Nat.le_of_ble_eq_true rfl, Nat.le_of_ble_eq_true rfl⟩ (rest := []) rfl (Nat.le_of_ble_eq_true rfl) ⟨Nat.zero_le _, Nat.zero_le _⟩ dX4_spare_7 (pc' := 10) rfl (fun r_7 h_7 => ?_)
  rcases h_7 with ⟨rfl, h_7⟩ | ⟨rfl, h_7⟩
  ·
    refine z_if_ne (tgt := 15) C dX4_spare_10 (pc' := 13) (by decide) rfl (fun _ => ?_) (fun q => absurd q (by decide))
    refine z_aload_n C dX4_spare_15 (pc' := 16) rfl rfl rfl ?_
    refine z_get C hK (by decide) kC_0 rfl inAX4 (k := 2) (by decide) aw_147 rfl dX4_spare_16 (pc' := 19) rfl ?_
    refine z_get C hK (by decide) kC_5 rfl inAX2 (k := 0) (by decide) aw_63 rfl dX4_spare_19 (pc' := 22) rfl ?_
    refine z_top (y := nI n) (by simp [up2, e4]) ?_
    refine z_bipush C dX4_spare_22 (pc' := 24) rfl (v := 8) (by decide) ?_
    refine z_icmp_ne (tgt := 30) C dX4_spare_24 (pc' := 27) (by decide) rfl (fun c_24 => ?_) (fun c_24 => ?_)
    ·
      have n_24 : ¬ n = 8 := fun z9 => c_24 ((nI_eq (a := n) (b := 8) (by omega) (by omega)).mpr z9)
      refine z_aload_n C dX4_spare_30 (pc' := 31) rfl rfl rfl ?_
      refine z_get C hK (by decide) kC_0 rfl inAX4 (k := 2) (by decide) aw_147 rfl dX4_spare_31 (pc' := 34) rfl ?_
      refine z_iload_n C dX4_spare_34 (pc' := 35) rfl rfl rfl ?_
      refine z_callI C hK (m_X2_store l hI _ (n := n) (by omega) e4 _) AdS_in aw_309 aw_310 aw_311 aw_29 aw_312 (by decide) kC_5 rfl (nA := 1) (by decide +kernel) rfl ⟨Nat.le_of_ble_eq_true rfl, Nat.le_of_ble_eq_true rfl⟩ (rest := []) rfl (Nat.le_of_ble_eq_true rfl) ⟨Nat.zero_le _, Nat.zero_le _⟩ dX4_spare_35 (pc' := 38) rfl (fun r_35 u_35 h_35 => ?_)
      obtain ⟨rfl, rfl⟩ := h_35
      exact z_iret C hM dX4_spare_38 (by have e := wn_nI (k := n) (by omega); simp [f_spare, g_spare, e, nI_1, *])
    ·
      have n_24 : n = 8 := (nI_eq (a := n) (b := 8) (by omega) (by omega)).mp c_24
      refine z_bipush C dX4_spare_27 (pc' := 29) rfl (v := (-3)) (by decide) ?_
      exact z_iret C hM dX4_spare_29 (by clear n_24; simp [f_spare, g_spare, *])
  ·
    refine z_if_ne (tgt := 15) C dX4_spare_10 (pc' := 13) (by decide) rfl (fun q => absurd q (by decide)) (fun _ => ?_)
    refine z_iconst C dX4_spare_13 (pc' := 14) rfl (v := (-1)) (by decide) ?_
    exact z_iret C hM dX4_spare_14 (by simp [f_spare, g_spare, *])
set_option maxRecDepth 100000 in
set_option maxHeartbeats 400000 in
theorem m_X5_spare (l : Launch) {cA : ClassId} {D : va_G} {ad : Nat → Nat} (hI : Inj 17 ad) (σ : St) {n : Nat} (hn : n ≤ 8) (e4 : σ 0 4 = nI n) (v : Int32) : CI l yX5_spare cX5_spare 2 .int 1 22 D [(cA, .int)] 17 ad (cellR cA ad) σ [.ref (ad 0), .int v] (fun r u => r = f_spare σ v ∧ u = g_spare σ v) := by
  refine CI_of (by decide +kernel) (Nat.le_of_ble_eq_true rfl) (by simp [Value.category]) ?_
  intro p e s m below meth c C hM hK
  refine z_aload_n C dX5_spare_0 (pc' := 1) rfl rfl rfl ?_
  refine z_iconst C dX5_spare_1 (pc' := 2) rfl (v := 0) (by decide) ?_
  refine z_put C hK hI AdS_in (by decide) kR_0 sR_th oR_th rfl inAX5 tyX5_ok nmX5 (k := 0) (by decide) aw_452 rfl (ty := .int) (by decide +kernel) rfl rfl (Nat.le_of_ble_eq_true rfl) dX5_spare_2 (pc' := 5) rfl ?_
  refine z_iload_n C dX5_spare_5 (pc' := 6) rfl rfl rfl ?_
  refine z_sipush C dX5_spare_6 (pc' := 9) rfl (v := 6000) (by decide) ?_
  refine z_sipush C dX5_spare_9 (pc' := 12) rfl (v := 9200) (by decide) ?_
  refine z_callS C (m_X5_in l _ _ _) stabP aw_529 aw_530 aw_32 aw_531 (nA := 3) (by decide +kernel) rfl ⟨Nat.le_of_ble_eq_true rfl, Nat.le_of_ble_eq_true rfl⟩ (rest := []) rfl (Nat.le_of_ble_eq_true rfl) ⟨Nat.zero_le _, Nat.zero_le _⟩ dX5_spare_12 (pc' := 15) rfl (fun r_12 h_12 => ?_)
  rcases h_12 with ⟨rfl, h_12⟩ | ⟨rfl, h_12⟩
  ·
    refine z_if_ne (tgt := 20) C dX5_spare_15 (pc' := 18) (by decide) rfl (fun _ => ?_) (fun q => absurd q (by decide))
    refine z_aload_n C dX5_spare_20 (pc' := 21) rfl rfl rfl ?_
    refine z_get C hK (by decide) kR_0 rfl inAX5 (k := 10) (by decide) aw_462 rfl dX5_spare_21 (pc' := 24) rfl ?_
    refine z_top (y := nI n) (by simp [up2, e4]) ?_
    refine z_bipush C dX5_spare_24 (pc' := 26) rfl (v := 8) (by decide) ?_
    refine z_icmp_ne (tgt := 32) C dX5_spare_26 (pc' := 29) (by decide) rfl (fun c_26 => ?_) (fun c_26 => ?_)
    ·
      have n_26 : ¬ n = 8 := fun z9 => c_26 ((nI_eq (a := n) (b := 8) (by omega) (by omega)).mpr z9)
      refine z_aload_n C dX5_spare_32 (pc' := 33) rfl rfl rfl ?_
      refine z_get C hK (by decide) kR_0 rfl inAX5 (k := 11) (by decide) aw_463 rfl dX5_spare_33 (pc' := 36) rfl ?_
      refine z_aload_n C dX5_spare_36 (pc' := 37) rfl rfl rfl ?_
      refine z_get C hK (by decide) kR_0 rfl inAX5 (k := 10) (by decide) aw_462 rfl dX5_spare_37 (pc' := 40) rfl ?_
      refine z_top (y := nI n) (by simp [up2, e4]) ?_
      refine z_iload_n C dX5_spare_40 (pc' := 41) rfl rfl rfl ?_
      refine z_iast C hK hI AdS_in (by decide) kR_7 sR_a7 oR_a7 (t0 := 0) rfl (j := n) rfl (by omega) (by decide) dX5_spare_41 (pc' := 42) rfl ?_
      refine z_aload_n C dX5_spare_42 (pc' := 43) rfl rfl rfl ?_
      refine z_dup C dX5_spare_43 (pc' := 44) rfl rfl ?_
      refine z_get C hK (by decide) kR_0 rfl inAX5 (k := 10) (by decide) aw_462 rfl dX5_spare_44 (pc' := 47) rfl ?_
      refine z_top (y := nI n) (by simp [up2, e4]) ?_
      refine z_iconst C dX5_spare_47 (pc' := 48) rfl (v := 1) (by decide) ?_
      refine z_iadd C dX5_spare_48 (pc' := 49) rfl (nI_add (n) (1)) ?_
      refine z_put C hK hI AdS_in (by decide) kR_0 sR_04 oR_04 rfl inAX5 tyX5_ok nmX5 (k := 10) (by decide) aw_462 rfl (ty := .int) (by decide +kernel) rfl rfl (Nat.le_of_ble_eq_true rfl) dX5_spare_49 (pc' := 52) rfl ?_
      refine z_aload_n C dX5_spare_52 (pc' := 53) rfl rfl rfl ?_
      refine z_get C hK (by decide) kR_0 rfl inAX5 (k := 10) (by decide) aw_462 rfl dX5_spare_53 (pc' := 56) rfl ?_
      refine z_top (y := nI (n + 1)) (by simp [up2]) ?_
      refine z_iconst C dX5_spare_56 (pc' := 57) rfl (v := 1) (by decide) ?_
      refine z_isub C dX5_spare_57 (pc' := 58) rfl (z := nI n) (nI_pred n) ?_
      exact z_iret C hM dX5_spare_58 (by have e := wn_nI (k := n) (by omega); simp [f_spare, g_spare, e, nI_1, *])
    ·
      have n_26 : n = 8 := (nI_eq (a := n) (b := 8) (by omega) (by omega)).mp c_26
      refine z_bipush C dX5_spare_29 (pc' := 31) rfl (v := (-3)) (by decide) ?_
      exact z_iret C hM dX5_spare_31 (by clear n_26; simp [f_spare, g_spare, *])
  ·
    refine z_if_ne (tgt := 20) C dX5_spare_15 (pc' := 18) (by decide) rfl (fun q => absurd q (by decide)) (fun _ => ?_)
    refine z_iconst C dX5_spare_18 (pc' := 19) rfl (v := (-1)) (by decide) ?_
    exact z_iret C hM dX5_spare_19 (by simp [f_spare, g_spare, *])
set_option maxRecDepth 100000 in
set_option maxHeartbeats 400000 in
theorem m_X1_tell (l : Launch) {cA cB : ClassId} {D : va_G} {ad : Nat → Nat} (hI : Inj 67 ad) (σ : St) {n : Nat} (hn : n < 20) (e5 : σ 0 5 = nI n) (w b v : Int32) : CV l yX1_tell cX1_tell 4 0 0 D [(cA, .int), (cB, .object RX3)] 67 ad (cellC cA cB ad) σ [.ref (ad 10), .int w, .int b, .int v] (fun u => u = up2 (up2 (up2 (up2 σ 7 n w) 8 n b) 9 n v) 0 5 (nI n + 1)) := by
  refine CV_of (by decide +kernel) (Nat.le_of_ble_eq_true rfl) (by simp [Value.category]) ?_
  intro p e s m below meth c C hM hK
  refine z_aload_n C dX1_tell_0 (pc' := 1) rfl rfl rfl ?_
  refine z_get C hK (by decide) kC_10 rfl inAX1 (k := 1) (by decide) aw_87 rfl dX1_tell_1 (pc' := 4) rfl ?_
  refine z_aload_n C dX1_tell_4 (pc' := 5) rfl rfl rfl ?_
  refine z_get C hK (by decide) kC_10 rfl inAX1 (k := 0) (by decide) aw_85 rfl dX1_tell_5 (pc' := 8) rfl ?_
  refine z_top (y := nI n) (by simp [up2, e5]) ?_
  refine z_iload_n C dX1_tell_8 (pc' := 9) rfl rfl rfl ?_
  refine z_iast C hK hI AdS_in (by decide) kC_11 sC_a11 oC_a11 (t0 := 0) rfl (j := n) rfl (by omega) (by decide) dX1_tell_9 (pc' := 10) rfl ?_
  refine z_aload_n C dX1_tell_10 (pc' := 11) rfl rfl rfl ?_
  refine z_get C hK (by decide) kC_10 rfl inAX1 (k := 2) (by decide) aw_88 rfl dX1_tell_11 (pc' := 14) rfl ?_
  refine z_aload_n C dX1_tell_14 (pc' := 15) rfl rfl rfl ?_
  refine z_get C hK (by decide) kC_10 rfl inAX1 (k := 0) (by decide) aw_85 rfl dX1_tell_15 (pc' := 18) rfl ?_
  refine z_top (y := nI n) (by simp [up2, e5]) ?_
  refine z_iload_n C dX1_tell_18 (pc' := 19) rfl rfl rfl ?_
  refine z_iast C hK hI AdS_in (by decide) kC_12 sC_a12 oC_a12 (t0 := 0) rfl (j := n) rfl (by omega) (by decide) dX1_tell_19 (pc' := 20) rfl ?_
  refine z_aload_n C dX1_tell_20 (pc' := 21) rfl rfl rfl ?_
  refine z_get C hK (by decide) kC_10 rfl inAX1 (k := 3) (by decide) aw_89 rfl dX1_tell_21 (pc' := 24) rfl ?_
  refine z_aload_n C dX1_tell_24 (pc' := 25) rfl rfl rfl ?_
  refine z_get C hK (by decide) kC_10 rfl inAX1 (k := 0) (by decide) aw_85 rfl dX1_tell_25 (pc' := 28) rfl ?_
  refine z_top (y := nI n) (by simp [up2, e5]) ?_
  refine z_iload_n C dX1_tell_28 (pc' := 29) rfl rfl rfl ?_
  refine z_iast C hK hI AdS_in (by decide) kC_13 sC_a13 oC_a13 (t0 := 0) rfl (j := n) rfl (by omega) (by decide) dX1_tell_29 (pc' := 30) rfl ?_
  refine z_aload_n C dX1_tell_30 (pc' := 31) rfl rfl rfl ?_
  refine z_dup C dX1_tell_31 (pc' := 32) rfl rfl ?_
  refine z_get C hK (by decide) kC_10 rfl inAX1 (k := 0) (by decide) aw_85 rfl dX1_tell_32 (pc' := 35) rfl ?_
  refine z_top (y := nI n) (by simp [up2, e5]) ?_
  refine z_iconst C dX1_tell_35 (pc' := 36) rfl (v := 1) (by decide) ?_
  refine z_iadd C dX1_tell_36 (pc' := 37) rfl (nI_add (n) (1)) ?_
  refine z_put C hK hI AdS_in (by decide) kC_10 sC_05 oC_05 rfl inAX1 tyX1_ok nmX1 (k := 0) (by decide) aw_85 rfl (ty := .int) (by decide +kernel) rfl rfl (Nat.le_of_ble_eq_true rfl) dX1_tell_37 (pc' := 40) rfl ?_
  exact z_vret C hM dX1_tell_40 (by simp [nI_1])
set_option maxRecDepth 100000 in
set_option maxHeartbeats 400000 in
theorem m_X4_read (l : Launch) {cA cB : ClassId} {D : va_G} {ad : Nat → Nat} (hI : Inj 67 ad) (σ : St) {n : Nat} (hn : n ≤ 20) (e5 : σ 0 5 = nI n) (w b v : Int32) : CI l yX4_read cX4_read 4 .int 2 42 D [(cA, .int), (cB, .object RX3)] 67 ad (cellC cA cB ad) σ [.ref (ad 0), .int w, .int b, .int v] (fun r u => r = f_read σ w b v ∧ u = g_read σ w b v) := by
  refine CI_of (by decide +kernel) (Nat.le_of_ble_eq_true rfl) (by simp [Value.category]) ?_
  intro p e s m below meth c C hM hK
  refine z_iload_n C dX4_read_0 (pc' := 1) rfl rfl rfl ?_
  refine z_callS C (m_X4_isWheel l _) stabP aw_177 aw_178 aw_27 aw_179 (nA := 1) (by decide +kernel) rfl ⟨Nat.le_of_ble_eq_true rfl, Nat.le_of_ble_eq_true rfl⟩ (rest := []) rfl (Nat.le_of_ble_eq_true rfl) ⟨Nat.zero_le _, Nat.zero_le _⟩ dX4_read_1 (pc' := 4) rfl (fun r_1 h_1 => ?_)
  rcases h_1 with ⟨rfl, h_1⟩ | ⟨rfl, h_1⟩
  ·
    obtain ⟨k, hk, rfl⟩ := isW_of h_1
    refine z_if_eq (tgt := 29) C dX4_read_4 (pc' := 7) (by decide) rfl (fun q => absurd q (by decide)) (fun _ => ?_)
    refine z_iload_n C dX4_read_7 (pc' := 8) rfl rfl rfl ?_
    refine z_iconst C dX4_read_8 (pc' := 9) rfl (v := 0) (by decide) ?_
    refine z_iconst C dX4_read_9 (pc' := 10) rfl (v := 1) (by decide) ?_
    refine z_callS C (m_X4_within l _ _ _) stabP aw_180 aw_181 aw_27 aw_182 (nA := 3) (by decide +kernel) rfl ⟨Nat.le_of_ble_eq_true rfl, Nat.le_of_ble_eq_true rfl⟩ (rest := []) rfl (Nat.le_of_ble_eq_true rfl) ⟨Nat.zero_le _, Nat.zero_le _⟩ dX4_read_10 (pc' := 13) rfl (fun r_10 h_10 => ?_)
    rcases h_10 with ⟨rfl, h_10⟩ | ⟨rfl, h_10⟩
    ·
      obtain ⟨j, hj, rfl⟩ := inR_of (n := 1) (by omega) h_10
      refine z_if_eq (tgt := 29) C dX4_read_13 (pc' := 16) (by decide) rfl (fun q => absurd q (by decide)) (fun _ => ?_)
      refine z_iload_n C dX4_read_16 (pc' := 17) rfl rfl rfl ?_
      refine z_sipush C dX4_read_17 (pc' := 20) rfl (v := 5000) (by decide) ?_
      refine z_sipush C dX4_read_20 (pc' := 23) rfl (v := 10000) (by decide) ?_
      refine z_callS C (m_X4_within l _ _ _) stabP aw_180 aw_181 aw_27 aw_182 (nA := 3) (by decide +kernel) rfl ⟨Nat.le_of_ble_eq_true rfl, Nat.le_of_ble_eq_true rfl⟩ (rest := []) rfl (Nat.le_of_ble_eq_true rfl) ⟨Nat.zero_le _, Nat.zero_le _⟩ dX4_read_23 (pc' := 26) rfl (fun r_23 h_23 => ?_)
      rcases h_23 with ⟨rfl, h_23⟩ | ⟨rfl, h_23⟩
      ·
        refine z_if_ne (tgt := 31) C dX4_read_26 (pc' := 29) (by decide) rfl (fun _ => ?_) (fun q => absurd q (by decide))
        refine z_aload_n C dX4_read_31 (pc' := 32) rfl rfl rfl ?_
        refine z_get C hK (by decide) kC_0 rfl inAX4 (k := 3) (by decide) aw_148 rfl dX4_read_32 (pc' := 35) rfl ?_
        refine z_get C hK (by decide) kC_10 rfl inAX1 (k := 0) (by decide) aw_86 rfl dX4_read_35 (pc' := 38) rfl ?_
        refine z_top (y := nI n) (by simp [up2, e5]) ?_
        refine z_bipush C dX4_read_38 (pc' := 40) rfl (v := 20) (by decide) ?_
        refine z_icmp_ne (tgt := 46) C dX4_read_40 (pc' := 43) (by decide) rfl (fun c_40 => ?_) (fun c_40 => ?_)
        ·
          have n_40 : ¬ n = 20 := fun z9 => c_40 ((nI_eq (a := n) (b := 20) (by omega) (by omega)).mpr z9)
          refine z_aload_n C dX4_read_46 (pc' := 47) rfl rfl rfl ?_
          refine z_get C hK (by decide) kC_0 rfl inAX4 (k := 3) (by decide) aw_148 rfl dX4_read_47 (pc' := 50) rfl ?_
          refine z_iload_n C dX4_read_50 (pc' := 51) rfl rfl rfl ?_
          refine z_iload_n C dX4_read_51 (pc' := 52) rfl rfl rfl ?_
          refine z_iload_n C dX4_read_52 (pc' := 53) rfl rfl rfl ?_
          refine z_callV C hK (m_X1_tell l hI _ (n := n) (by omega) e5 _ _ _) AdS_in aw_345 aw_346 aw_347 aw_30 aw_348 (by decide) kC_10 rfl (nA := 3) (by decide +kernel) rfl ⟨Nat.le_of_ble_eq_true rfl, Nat.le_of_ble_eq_true rfl⟩ (rest := []) rfl (Nat.le_of_ble_eq_true rfl) ⟨Nat.zero_le _, Nat.zero_le _⟩ dX4_read_53 (pc' := 56) rfl (fun u_53 h_53 => ?_)
          rw [h_53]
          refine z_aload_n C dX4_read_56 (pc' := 57) rfl rfl rfl ?_
          refine z_get C hK (by decide) kC_0 rfl inAX4 (k := 3) (by decide) aw_148 rfl dX4_read_57 (pc' := 60) rfl ?_
          refine z_get C hK (by decide) kC_10 rfl inAX1 (k := 0) (by decide) aw_86 rfl dX4_read_60 (pc' := 63) rfl ?_
          refine z_top (y := nI (n + 1)) (by simp [up2, nI_1]) ?_
          exact z_iret C hM dX4_read_63 (by have e := wn_nI (k := n) (by omega); have e2 := isW_nI hk; simp [f_read, g_read, e, e2, nI_1, up2, *])
        ·
          have n_40 : n = 20 := (nI_eq (a := n) (b := 20) (by omega) (by omega)).mp c_40
          refine z_bipush C dX4_read_43 (pc' := 45) rfl (v := (-3)) (by decide) ?_
          exact z_iret C hM dX4_read_45 (by clear n_40; simp [f_read, g_read, *])
      ·
        refine z_if_ne (tgt := 31) C dX4_read_26 (pc' := 29) (by decide) rfl (fun q => absurd q (by decide)) (fun _ => ?_)
        refine z_iconst C dX4_read_29 (pc' := 30) rfl (v := (-1)) (by decide) ?_
        exact z_iret C hM dX4_read_30 (by simp [f_read, g_read, *])
    ·
      refine z_if_eq (tgt := 29) C dX4_read_13 (pc' := 16) (by decide) rfl (fun _ => ?_) (fun q => absurd q (by decide))
      refine z_iconst C dX4_read_29 (pc' := 30) rfl (v := (-1)) (by decide) ?_
      exact z_iret C hM dX4_read_30 (by simp [f_read, g_read, *])
  ·
    refine z_if_eq (tgt := 29) C dX4_read_4 (pc' := 7) (by decide) rfl (fun _ => ?_) (fun q => absurd q (by decide))
    refine z_iconst C dX4_read_29 (pc' := 30) rfl (v := (-1)) (by decide) ?_
    exact z_iret C hM dX4_read_30 (by simp [f_read, g_read, *])
set_option maxRecDepth 100000 in
set_option maxHeartbeats 400000 in
theorem m_X5_read (l : Launch) {cA : ClassId} {D : va_G} {ad : Nat → Nat} (hI : Inj 17 ad) (σ : St) {n : Nat} (hn : n ≤ 20) (e5 : σ 0 5 = nI n) (w b v : Int32) : CI l yX5_read cX5_read 4 .int 2 42 D [(cA, .int)] 17 ad (cellR cA ad) σ [.ref (ad 0), .int w, .int b, .int v] (fun r u => r = f_read σ w b v ∧ u = g_read σ w b v) := by
  refine CI_of (by decide +kernel) (Nat.le_of_ble_eq_true rfl) (by simp [Value.category]) ?_
  intro p e s m below meth c C hM hK
  refine z_aload_n C dX5_read_0 (pc' := 1) rfl rfl rfl ?_
  refine z_iconst C dX5_read_1 (pc' := 2) rfl (v := 0) (by decide) ?_
  refine z_put C hK hI AdS_in (by decide) kR_0 sR_th oR_th rfl inAX5 tyX5_ok nmX5 (k := 0) (by decide) aw_452 rfl (ty := .int) (by decide +kernel) rfl rfl (Nat.le_of_ble_eq_true rfl) dX5_read_2 (pc' := 5) rfl ?_
  refine z_iload_n C dX5_read_5 (pc' := 6) rfl rfl rfl ?_
  refine z_callS C (m_X5_isWheel l _) stabP aw_526 aw_527 aw_32 aw_528 (nA := 1) (by decide +kernel) rfl ⟨Nat.le_of_ble_eq_true rfl, Nat.le_of_ble_eq_true rfl⟩ (rest := []) rfl (Nat.le_of_ble_eq_true rfl) ⟨Nat.zero_le _, Nat.zero_le _⟩ dX5_read_6 (pc' := 9) rfl (fun r_6 h_6 => ?_)
  rcases h_6 with ⟨rfl, h_6⟩ | ⟨rfl, h_6⟩
  ·
    obtain ⟨k, hk, rfl⟩ := isW_of h_6
    refine z_if_eq (tgt := 34) C dX5_read_9 (pc' := 12) (by decide) rfl (fun q => absurd q (by decide)) (fun _ => ?_)
    refine z_iload_n C dX5_read_12 (pc' := 13) rfl rfl rfl ?_
    refine z_iconst C dX5_read_13 (pc' := 14) rfl (v := 0) (by decide) ?_
    refine z_iconst C dX5_read_14 (pc' := 15) rfl (v := 1) (by decide) ?_
    refine z_callS C (m_X5_in l _ _ _) stabP aw_529 aw_530 aw_32 aw_531 (nA := 3) (by decide +kernel) rfl ⟨Nat.le_of_ble_eq_true rfl, Nat.le_of_ble_eq_true rfl⟩ (rest := []) rfl (Nat.le_of_ble_eq_true rfl) ⟨Nat.zero_le _, Nat.zero_le _⟩ dX5_read_15 (pc' := 18) rfl (fun r_15 h_15 => ?_)
    rcases h_15 with ⟨rfl, h_15⟩ | ⟨rfl, h_15⟩
    ·
      obtain ⟨j, hj, rfl⟩ := inR_of (n := 1) (by omega) h_15
      refine z_if_eq (tgt := 34) C dX5_read_18 (pc' := 21) (by decide) rfl (fun q => absurd q (by decide)) (fun _ => ?_)
      refine z_iload_n C dX5_read_21 (pc' := 22) rfl rfl rfl ?_
      refine z_sipush C dX5_read_22 (pc' := 25) rfl (v := 5000) (by decide) ?_
      refine z_sipush C dX5_read_25 (pc' := 28) rfl (v := 10000) (by decide) ?_
      refine z_callS C (m_X5_in l _ _ _) stabP aw_529 aw_530 aw_32 aw_531 (nA := 3) (by decide +kernel) rfl ⟨Nat.le_of_ble_eq_true rfl, Nat.le_of_ble_eq_true rfl⟩ (rest := []) rfl (Nat.le_of_ble_eq_true rfl) ⟨Nat.zero_le _, Nat.zero_le _⟩ dX5_read_28 (pc' := 31) rfl (fun r_28 h_28 => ?_)
      rcases h_28 with ⟨rfl, h_28⟩ | ⟨rfl, h_28⟩
      ·
        refine z_if_ne (tgt := 36) C dX5_read_31 (pc' := 34) (by decide) rfl (fun _ => ?_) (fun q => absurd q (by decide))
        refine z_aload_n C dX5_read_36 (pc' := 37) rfl rfl rfl ?_
        refine z_get C hK (by decide) kR_0 rfl inAX5 (k := 14) (by decide) aw_466 rfl dX5_read_37 (pc' := 40) rfl ?_
        refine z_top (y := nI n) (by simp [up2, e5]) ?_
        refine z_bipush C dX5_read_40 (pc' := 42) rfl (v := 20) (by decide) ?_
        refine z_icmp_ne (tgt := 48) C dX5_read_42 (pc' := 45) (by decide) rfl (fun c_42 => ?_) (fun c_42 => ?_)
        ·
          have n_42 : ¬ n = 20 := fun z9 => c_42 ((nI_eq (a := n) (b := 20) (by omega) (by omega)).mpr z9)
          refine z_aload_n C dX5_read_48 (pc' := 49) rfl rfl rfl ?_
          refine z_get C hK (by decide) kR_0 rfl inAX5 (k := 15) (by decide) aw_467 rfl dX5_read_49 (pc' := 52) rfl ?_
          refine z_aload_n C dX5_read_52 (pc' := 53) rfl rfl rfl ?_
          refine z_get C hK (by decide) kR_0 rfl inAX5 (k := 14) (by decide) aw_466 rfl dX5_read_53 (pc' := 56) rfl ?_
          refine z_top (y := nI n) (by simp [up2, e5]) ?_
          refine z_iload_n C dX5_read_56 (pc' := 57) rfl rfl rfl ?_
          refine z_iast C hK hI AdS_in (by decide) kR_10 sR_a10 oR_a10 (t0 := 0) rfl (j := n) rfl (by omega) (by decide) dX5_read_57 (pc' := 58) rfl ?_
          refine z_aload_n C dX5_read_58 (pc' := 59) rfl rfl rfl ?_
          refine z_get C hK (by decide) kR_0 rfl inAX5 (k := 16) (by decide) aw_468 rfl dX5_read_59 (pc' := 62) rfl ?_
          refine z_aload_n C dX5_read_62 (pc' := 63) rfl rfl rfl ?_
          refine z_get C hK (by decide) kR_0 rfl inAX5 (k := 14) (by decide) aw_466 rfl dX5_read_63 (pc' := 66) rfl ?_
          refine z_top (y := nI n) (by simp [up2, e5]) ?_
          refine z_iload_n C dX5_read_66 (pc' := 67) rfl rfl rfl ?_
          refine z_iast C hK hI AdS_in (by decide) kR_11 sR_a11 oR_a11 (t0 := 0) rfl (j := n) rfl (by omega) (by decide) dX5_read_67 (pc' := 68) rfl ?_
          refine z_aload_n C dX5_read_68 (pc' := 69) rfl rfl rfl ?_
          refine z_get C hK (by decide) kR_0 rfl inAX5 (k := 17) (by decide) aw_469 rfl dX5_read_69 (pc' := 72) rfl ?_
          refine z_aload_n C dX5_read_72 (pc' := 73) rfl rfl rfl ?_
          refine z_get C hK (by decide) kR_0 rfl inAX5 (k := 14) (by decide) aw_466 rfl dX5_read_73 (pc' := 76) rfl ?_
          refine z_top (y := nI n) (by simp [up2, e5]) ?_
          refine z_iload_n C dX5_read_76 (pc' := 77) rfl rfl rfl ?_
          refine z_iast C hK hI AdS_in (by decide) kR_12 sR_a12 oR_a12 (t0 := 0) rfl (j := n) rfl (by omega) (by decide) dX5_read_77 (pc' := 78) rfl ?_
          refine z_aload_n C dX5_read_78 (pc' := 79) rfl rfl rfl ?_
          refine z_dup C dX5_read_79 (pc' := 80) rfl rfl ?_
          refine z_get C hK (by decide) kR_0 rfl inAX5 (k := 14) (by decide) aw_466 rfl dX5_read_80 (pc' := 83) rfl ?_
          refine z_top (y := nI n) (by simp [up2, e5]) ?_
          refine z_iconst C dX5_read_83 (pc' := 84) rfl (v := 1) (by decide) ?_
          refine z_iadd C dX5_read_84 (pc' := 85) rfl (nI_add (n) (1)) ?_
          refine z_put C hK hI AdS_in (by decide) kR_0 sR_05 oR_05 rfl inAX5 tyX5_ok nmX5 (k := 14) (by decide) aw_466 rfl (ty := .int) (by decide +kernel) rfl rfl (Nat.le_of_ble_eq_true rfl) dX5_read_85 (pc' := 88) rfl ?_
          refine z_aload_n C dX5_read_88 (pc' := 89) rfl rfl rfl ?_
          refine z_get C hK (by decide) kR_0 rfl inAX5 (k := 14) (by decide) aw_466 rfl dX5_read_89 (pc' := 92) rfl ?_
          refine z_top (y := nI (n + 1)) (by simp [up2]) ?_
          exact z_iret C hM dX5_read_92 (by have e := wn_nI (k := n) (by omega); have e2 := isW_nI hk; simp [f_read, g_read, e, e2, nI_1, up2, *])
        ·
          have n_42 : n = 20 := (nI_eq (a := n) (b := 20) (by omega) (by omega)).mp c_42
          refine z_bipush C dX5_read_45 (pc' := 47) rfl (v := (-3)) (by decide) ?_
          exact z_iret C hM dX5_read_47 (by clear n_42; simp [f_read, g_read, *])
      ·
        refine z_if_ne (tgt := 36) C dX5_read_31 (pc' := 34) (by decide) rfl (fun q => absurd q (by decide)) (fun _ => ?_)
        refine z_iconst C dX5_read_34 (pc' := 35) rfl (v := (-1)) (by decide) ?_
        exact z_iret C hM dX5_read_35 (by simp [f_read, g_read, *])
    ·
      refine z_if_eq (tgt := 34) C dX5_read_18 (pc' := 21) (by decide) rfl (fun _ => ?_) (fun q => absurd q (by decide))
      refine z_iconst C dX5_read_34 (pc' := 35) rfl (v := (-1)) (by decide) ?_
      exact z_iret C hM dX5_read_35 (by simp [f_read, g_read, *])
  ·
    refine z_if_eq (tgt := 34) C dX5_read_9 (pc' := 12) (by decide) rfl (fun _ => ?_) (fun q => absurd q (by decide))
    refine z_iconst C dX5_read_34 (pc' := 35) rfl (v := (-1)) (by decide) ?_
    exact z_iret C hM dX5_read_35 (by simp [f_read, g_read, *])
set_option maxRecDepth 100000 in
set_option maxHeartbeats 400000 in
theorem m_X3_greatestDepth (l : Launch) {cA cB : ClassId} {D : va_G} {ad : Nat → Nat} (hI : Inj 67 ad) (σ : St) {k : Nat} (hk : k < 16) : CI l yX3_greatestDepth cX3_greatestDepth 3 .int 1 13 D [(cA, .int), (cB, .object RX3)] 67 ad (cellC cA cB ad) σ [.ref (ad (pW k))] (fun r u => r = gdC (σ (100 + 2 * k)) 4 ∧ u = σ) := by
  refine CI_of (by decide +kernel) (Nat.le_of_ble_eq_true rfl) (by simp [Value.category]) ?_
  intro p e s m below meth c C hM hK
  refine z_aload_n C dX3_greatestDepth_0 (pc' := 1) rfl rfl rfl ?_
  refine z_get C hK (pW_lt (by omega)) (kC_W k) rfl inAX3 (k := 0) (by decide) aw_119 rfl dX3_greatestDepth_1 (pc' := 4) rfl ?_
  refine z_iconst C dX3_greatestDepth_4 (pc' := 5) rfl (v := 0) (by decide) ?_
  refine z_iald C hK (pD_lt (by omega)) (kC_D k) (t0 := 0) rfl (j := 0) rfl (by decide) (by decide) rfl dX3_greatestDepth_5 (pc' := 6) rfl ?_
  refine z_istore_n (L' := [.ref _, .int _]) C dX3_greatestDepth_6 (pc' := 7) rfl rfl (by decide) (Nat.le_of_ble_eq_true rfl) rfl ?_
  refine z_iconst C dX3_greatestDepth_7 (pc' := 8) rfl (v := 1) (by decide) ?_
  refine z_istore_n (L' := [.ref _, .int _, .int _]) C dX3_greatestDepth_8 (pc' := 9) rfl rfl (by decide) (Nat.le_of_ble_eq_true rfl) rfl ?_
  refine z_loop (τ := Nat) (fun i => 4 - i) (fun i => i ≤ 4) (fun i => σ) (fun i => [.ref (ad (pW k)), .int (gdC (σ (100 + 2 * k)) i), .int (nI (i + 1))]) 0 (by omega) rfl ⟨_, rfl⟩ ?_
  intro i hi ih9
  try dsimp only at hi ih9 ⊢
  refine z_iload_n C dX3_greatestDepth_9 (pc' := 10) rfl rfl rfl ?_
  refine z_iconst C dX3_greatestDepth_10 (pc' := 11) rfl (v := 5) (by decide) ?_
  refine z_icmp_ge (tgt := 31) C dX3_greatestDepth_11 (pc' := 14) (by decide) rfl (fun c_11 => ?_) (fun c_11 => ?_)
  ·
    have n_11 : 5 ≤ (i + 1) := ge_of_le (N := 5) (k := (i + 1)) c_11 (by omega) (by omega)
    refine z_iload_n C dX3_greatestDepth_31 (pc' := 32) rfl rfl rfl ?_
    exact z_iret C hM dX3_greatestDepth_32 (by obtain rfl : i = 4 := (by omega); exact ⟨rfl, rfl⟩)
  ·
    have n_11 : (i + 1) < 5 := lt_of_nle (N := 5) (k := (i + 1)) c_11 (by omega) (by omega)
    refine z_iload_n C dX3_greatestDepth_14 (pc' := 15) rfl rfl rfl ?_
    refine z_aload_n C dX3_greatestDepth_15 (pc' := 16) rfl rfl rfl ?_
    refine z_get C hK (pW_lt (by omega)) (kC_W k) rfl inAX3 (k := 0) (by decide) aw_119 rfl dX3_greatestDepth_16 (pc' := 19) rfl ?_
    refine z_iload_n C dX3_greatestDepth_19 (pc' := 20) rfl rfl rfl ?_
    refine z_iald C hK (pD_lt (by omega)) (kC_D k) (t0 := 0) rfl (j := (i + 1)) rfl (by omega) (by decide) rfl dX3_greatestDepth_20 (pc' := 21) rfl ?_
    refine z_max C aw_220 aw_221 aw_33 aw_222 ⟨Nat.le_of_ble_eq_true rfl, Nat.le_of_ble_eq_true rfl⟩ ⟨Nat.zero_le _, Nat.zero_le _⟩ dX3_greatestDepth_21 (pc' := 24) rfl ?_
    refine z_istore_n (L' := [.ref _, .int _, .int _]) C dX3_greatestDepth_24 (pc' := 25) rfl rfl (by decide) (Nat.le_of_ble_eq_true rfl) rfl ?_
    refine z_iinc (L' := [.ref _, .int _, .int _]) C dX3_greatestDepth_25 (pc' := 28) rfl rfl (iinc1 _) (by decide) (Nat.le_of_ble_eq_true rfl) rfl ?_
    refine z_goto C dX3_greatestDepth_28 (pc' := 9) (by decide) ?_
    exact z_back 3 (ih9 (i + 1) (by omega) (by omega)) rfl rfl
set_option maxRecDepth 100000 in
set_option maxHeartbeats 400000 in
theorem m_X3_leastDepth (l : Launch) {cA cB : ClassId} {D : va_G} {ad : Nat → Nat} (hI : Inj 67 ad) (σ : St) {k : Nat} (hk : k < 16) : CI l yX3_leastDepth cX3_leastDepth 3 .int 1 13 D [(cA, .int), (cB, .object RX3)] 67 ad (cellC cA cB ad) σ [.ref (ad (pW k))] (fun r u => r = ldC (σ (100 + 2 * k)) 4 ∧ u = σ) := by
  refine CI_of (by decide +kernel) (Nat.le_of_ble_eq_true rfl) (by simp [Value.category]) ?_
  intro p e s m below meth c C hM hK
  refine z_aload_n C dX3_leastDepth_0 (pc' := 1) rfl rfl rfl ?_
  refine z_get C hK (pW_lt (by omega)) (kC_W k) rfl inAX3 (k := 0) (by decide) aw_119 rfl dX3_leastDepth_1 (pc' := 4) rfl ?_
  refine z_iconst C dX3_leastDepth_4 (pc' := 5) rfl (v := 0) (by decide) ?_
  refine z_iald C hK (pD_lt (by omega)) (kC_D k) (t0 := 0) rfl (j := 0) rfl (by decide) (by decide) rfl dX3_leastDepth_5 (pc' := 6) rfl ?_
  refine z_istore_n (L' := [.ref _, .int _]) C dX3_leastDepth_6 (pc' := 7) rfl rfl (by decide) (Nat.le_of_ble_eq_true rfl) rfl ?_
  refine z_iconst C dX3_leastDepth_7 (pc' := 8) rfl (v := 1) (by decide) ?_
  refine z_istore_n (L' := [.ref _, .int _, .int _]) C dX3_leastDepth_8 (pc' := 9) rfl rfl (by decide) (Nat.le_of_ble_eq_true rfl) rfl ?_
  refine z_loop (τ := Nat) (fun i => 4 - i) (fun i => i ≤ 4) (fun i => σ) (fun i => [.ref (ad (pW k)), .int (ldC (σ (100 + 2 * k)) i), .int (nI (i + 1))]) 0 (by omega) rfl ⟨_, rfl⟩ ?_
  intro i hi ih9
  try dsimp only at hi ih9 ⊢
  refine z_iload_n C dX3_leastDepth_9 (pc' := 10) rfl rfl rfl ?_
  refine z_iconst C dX3_leastDepth_10 (pc' := 11) rfl (v := 5) (by decide) ?_
  refine z_icmp_ge (tgt := 31) C dX3_leastDepth_11 (pc' := 14) (by decide) rfl (fun c_11 => ?_) (fun c_11 => ?_)
  ·
    have n_11 : 5 ≤ (i + 1) := ge_of_le (N := 5) (k := (i + 1)) c_11 (by omega) (by omega)
    refine z_iload_n C dX3_leastDepth_31 (pc' := 32) rfl rfl rfl ?_
    exact z_iret C hM dX3_leastDepth_32 (by obtain rfl : i = 4 := (by omega); exact ⟨rfl, rfl⟩)
  ·
    have n_11 : (i + 1) < 5 := lt_of_nle (N := 5) (k := (i + 1)) c_11 (by omega) (by omega)
    refine z_iload_n C dX3_leastDepth_14 (pc' := 15) rfl rfl rfl ?_
    refine z_aload_n C dX3_leastDepth_15 (pc' := 16) rfl rfl rfl ?_
    refine z_get C hK (pW_lt (by omega)) (kC_W k) rfl inAX3 (k := 0) (by decide) aw_119 rfl dX3_leastDepth_16 (pc' := 19) rfl ?_
    refine z_iload_n C dX3_leastDepth_19 (pc' := 20) rfl rfl rfl ?_
    refine z_iald C hK (pD_lt (by omega)) (kC_D k) (t0 := 0) rfl (j := (i + 1)) rfl (by omega) (by decide) rfl dX3_leastDepth_20 (pc' := 21) rfl ?_
    refine z_min C aw_227 aw_228 aw_33 aw_229 ⟨Nat.le_of_ble_eq_true rfl, Nat.le_of_ble_eq_true rfl⟩ ⟨Nat.zero_le _, Nat.zero_le _⟩ dX3_leastDepth_21 (pc' := 24) rfl ?_
    refine z_istore_n (L' := [.ref _, .int _, .int _]) C dX3_leastDepth_24 (pc' := 25) rfl rfl (by decide) (Nat.le_of_ble_eq_true rfl) rfl ?_
    refine z_iinc (L' := [.ref _, .int _, .int _]) C dX3_leastDepth_25 (pc' := 28) rfl rfl (iinc1 _) (by decide) (Nat.le_of_ble_eq_true rfl) rfl ?_
    refine z_goto C dX3_leastDepth_28 (pc' := 9) (by decide) ?_
    exact z_back 3 (ih9 (i + 1) (by omega) (by omega)) rfl rfl
set_option maxRecDepth 100000 in
set_option maxHeartbeats 400000 in
theorem m_X3_fullCut (l : Launch) {cA cB : ClassId} {D : va_G} {ad : Nat → Nat} (hI : Inj 67 ad) (σ : St) {k : Nat} (hk : k < 16) : CI l yX3_fullCut cX3_fullCut 1 .int 2 35 D [(cA, .int), (cB, .object RX3)] 67 ad (cellC cA cB ad) σ [.ref (ad (pW k))] (fun r u => r = fullN (σ (100 + 2 * k)) ∧ u = σ) := by
  refine CI_of (by decide +kernel) (Nat.le_of_ble_eq_true rfl) (by simp [Value.category]) ?_
  intro p e s m below meth c C hM hK
  refine z_aload_n C dX3_fullCut_0 (pc' := 1) rfl rfl rfl ?_
  refine z_callI C hK (m_X3_greatestDepth l hI _ (k := k) (by omega)) AdS_in aw_216 aw_218 aw_1 aw_31 aw_219 (pW_lt (by omega)) (kC_W k) rfl (nA := 0) (by decide +kernel) rfl ⟨Nat.le_of_ble_eq_true rfl, Nat.le_of_ble_eq_true rfl⟩ (rest := []) rfl (Nat.le_of_ble_eq_true rfl) ⟨Nat.zero_le _, Nat.zero_le _⟩ dX3_fullCut_1 (pc' := 4) rfl (fun r_1 u_1 h_1 => ?_)
  obtain ⟨hr_1, hu_1⟩ := h_1
  rw [hr_1, hu_1]
  refine z_aload_n C dX3_fullCut_4 (pc' := 5) rfl rfl rfl ?_
  refine z_callI C hK (m_X3_leastDepth l hI _ (k := k) (by omega)) AdS_in aw_223 aw_225 aw_2 aw_31 aw_226 (pW_lt (by omega)) (kC_W k) rfl (nA := 0) (by decide +kernel) rfl ⟨Nat.le_of_ble_eq_true rfl, Nat.le_of_ble_eq_true rfl⟩ (rest := [_]) rfl (Nat.le_of_ble_eq_true rfl) ⟨Nat.zero_le _, Nat.zero_le _⟩ dX3_fullCut_5 (pc' := 8) rfl (fun r_5 u_5 h_5 => ?_)
  obtain ⟨hr_5, hu_5⟩ := h_5
  rw [hr_5, hu_5]
  refine z_isub C dX3_fullCut_8 (pc' := 9) rfl rfl ?_
  exact z_iret C hM dX3_fullCut_9 ⟨rfl, rfl⟩
set_option maxRecDepth 100000 in
set_option maxHeartbeats 400000 in
theorem m_X3_thinCut (l : Launch) {cA cB : ClassId} {D : va_G} {ad : Nat → Nat} (hI : Inj 67 ad) (σ : St) {k : Nat} (hk : k < 16) (th : Int32) : CI l yX3_thinCut cX3_thinCut 3 .int 3 55 D [(cA, .int), (cB, .object RX3)] 67 ad (cellC cA cB ad) σ [.ref (ad (pW k)), .int th] (fun r u => r = thinN (σ (100 + 2 * k)) th ∧ u = σ) := by
  refine CI_of (by decide +kernel) (Nat.le_of_ble_eq_true rfl) (by simp [Value.category]) ?_
  intro p e s m below meth c C hM hK
  refine z_aload_n C dX3_thinCut_0 (pc' := 1) rfl rfl rfl ?_
  refine z_callI C hK (m_X3_fullCut l hI _ (k := k) (by omega)) AdS_in aw_212 aw_214 aw_0 aw_31 aw_215 (pW_lt (by omega)) (kC_W k) rfl (nA := 0) (by decide +kernel) rfl ⟨Nat.le_of_ble_eq_true rfl, Nat.le_of_ble_eq_true rfl⟩ (rest := []) rfl (Nat.le_of_ble_eq_true rfl) ⟨Nat.zero_le _, Nat.zero_le _⟩ dX3_thinCut_1 (pc' := 4) rfl (fun r_1 u_1 h_1 => ?_)
  obtain ⟨hr_1, hu_1⟩ := h_1
  rw [hr_1, hu_1]
  refine z_istore_n (L' := [.ref _, .int _, .int _]) C dX3_thinCut_4 (pc' := 5) rfl rfl (by decide) (Nat.le_of_ble_eq_true rfl) rfl ?_
  refine z_aload_n C dX3_thinCut_5 (pc' := 6) rfl rfl rfl ?_
  refine z_get C hK (pW_lt (by omega)) (kC_W k) rfl inAX3 (k := 0) (by decide) aw_119 rfl dX3_thinCut_6 (pc' := 9) rfl ?_
  refine z_iconst C dX3_thinCut_9 (pc' := 10) rfl (v := 0) (by decide) ?_
  refine z_iald C hK (pD_lt (by omega)) (kC_D k) (t0 := 0) rfl (j := 0) rfl (by decide) (by decide) rfl dX3_thinCut_10 (pc' := 11) rfl ?_
  refine z_aload_n C dX3_thinCut_11 (pc' := 12) rfl rfl rfl ?_
  refine z_callI C hK (m_X3_greatestDepth l hI _ (k := k) (by omega)) AdS_in aw_216 aw_218 aw_1 aw_31 aw_219 (pW_lt (by omega)) (kC_W k) rfl (nA := 0) (by decide +kernel) rfl ⟨Nat.le_of_ble_eq_true rfl, Nat.le_of_ble_eq_true rfl⟩ (rest := [_]) rfl (Nat.le_of_ble_eq_true rfl) ⟨Nat.zero_le _, Nat.zero_le _⟩ dX3_thinCut_12 (pc' := 15) rfl (fun r_12 u_12 h_12 => ?_)
  obtain ⟨hr_12, hu_12⟩ := h_12
  rw [hr_12, hu_12]
  refine z_icmp_ne (tgt := 28) C dX3_thinCut_15 (pc' := 18) (by decide) rfl (fun c_15 => ?_) (fun c_15 => ?_)
  ·
    refine z_iload_n C dX3_thinCut_28 (pc' := 29) rfl rfl rfl ?_
    exact z_iret C hM dX3_thinCut_29 (by simp [thinN, mx, *])
  ·
    refine z_iconst C dX3_thinCut_18 (pc' := 19) rfl (v := 0) (by decide) ?_
    refine z_iload_n C dX3_thinCut_19 (pc' := 20) rfl rfl rfl ?_
    refine z_iload_n C dX3_thinCut_20 (pc' := 21) rfl rfl rfl ?_
    refine z_isub C dX3_thinCut_21 (pc' := 22) rfl rfl ?_
    refine z_max C aw_220 aw_221 aw_33 aw_222 ⟨Nat.le_of_ble_eq_true rfl, Nat.le_of_ble_eq_true rfl⟩ ⟨Nat.zero_le _, Nat.zero_le _⟩ dX3_thinCut_22 (pc' := 25) rfl ?_
    refine z_goto C dX3_thinCut_25 (pc' := 29) (by decide) ?_
    exact z_iret C hM dX3_thinCut_29 (by simp [thinN, mx, *])
set_option maxRecDepth 100000 in
set_option maxHeartbeats 400000 in
theorem m_X3_evenCut (l : Launch) {cA cB : ClassId} {D : va_G} {ad : Nat → Nat} (hI : Inj 67 ad) (σ : St) {k : Nat} (hk : k < 16) (th : Int32) : CI l yX3_evenCut cX3_evenCut 3 .int 4 77 D [(cA, .int), (cB, .object RX3)] 67 ad (cellC cA cB ad) σ [.ref (ad (pW k)), .int th] (fun r u => r = evenN (σ (100 + 2 * k)) th ∧ u = σ) := by
  refine CI_of (by decide +kernel) (Nat.le_of_ble_eq_true rfl) (by simp [Value.category]) ?_
  intro p e s m below meth c C hM hK
  refine z_aload_n C dX3_evenCut_0 (pc' := 1) rfl rfl rfl ?_
  refine z_iload_n C dX3_evenCut_1 (pc' := 2) rfl rfl rfl ?_
  refine z_callI C hK (m_X3_thinCut l hI _ (k := k) (by omega) _) AdS_in aw_230 aw_232 aw_3 aw_31 aw_233 (pW_lt (by omega)) (kC_W k) rfl (nA := 1) (by decide +kernel) rfl ⟨Nat.le_of_ble_eq_true rfl, Nat.le_of_ble_eq_true rfl⟩ (rest := []) rfl (Nat.le_of_ble_eq_true rfl) ⟨Nat.zero_le _, Nat.zero_le _⟩ dX3_evenCut_2 (pc' := 5) rfl (fun r_2 u_2 h_2 => ?_)
  obtain ⟨hr_2, hu_2⟩ := h_2
  rw [hr_2, hu_2]
  refine z_istore_n (L' := [.ref _, .int _, .int _]) C dX3_evenCut_5 (pc' := 6) rfl rfl (by decide) (Nat.le_of_ble_eq_true rfl) rfl ?_
  refine z_iload_n C dX3_evenCut_6 (pc' := 7) rfl rfl rfl ?_
  refine z_iload_n C dX3_evenCut_7 (pc' := 8) rfl rfl rfl ?_
  refine z_iconst C dX3_evenCut_8 (pc' := 9) rfl (v := 2) (by decide) ?_
  refine z_irem C dX3_evenCut_9 (pc' := 10) rfl (by decide) rfl ?_
  refine z_iadd C dX3_evenCut_10 (pc' := 11) rfl rfl ?_
  exact z_iret C hM dX3_evenCut_11 ⟨rfl, rfl⟩
set_option maxRecDepth 100000 in
set_option maxHeartbeats 400000 in
theorem m_X3_neededCut (l : Launch) {cA cB : ClassId} {D : va_G} {ad : Nat → Nat} (hI : Inj 67 ad) (σ : St) {k : Nat} (hk : k < 16) {kd : Nat} (hkd : kd ≤ 2) (th : Int32) : CI l yX3_neededCut cX3_neededCut 3 .int 5 99 D [(cA, .int), (cB, .object RX3)] 67 ad (cellC cA cB ad) σ [.ref (ad (pW k)), .int (nI kd), .int th] (fun r u => r = needN (σ (100 + 2 * k)) kd th ∧ u = σ) := by
  refine CI_of (by decide +kernel) (Nat.le_of_ble_eq_true rfl) (by simp [Value.category]) ?_
  intro p e s m below meth c C hM hK
  refine z_iload_n C dX3_neededCut_0 (pc' := 1) rfl rfl rfl ?_
  rcases (show kd = 0 ∨ kd = 1 ∨ kd = 2 by omega) with rfl | rfl | rfl
  ·
    refine z_lkp C dX3_neededCut_1 (by decide) (off := 27) (by decide) (pc' := 28) (by decide) ?_
    refine z_aload_n C dX3_neededCut_28 (pc' := 29) rfl rfl rfl ?_
    refine z_callI C hK (m_X3_fullCut l hI _ (k := k) (by omega)) AdS_in aw_212 aw_214 aw_0 aw_31 aw_215 (pW_lt (by omega)) (kC_W k) rfl (nA := 0) (by decide +kernel) rfl ⟨Nat.le_of_ble_eq_true rfl, Nat.le_of_ble_eq_true rfl⟩ (rest := []) rfl (Nat.le_of_ble_eq_true rfl) ⟨Nat.zero_le _, Nat.zero_le _⟩ dX3_neededCut_29 (pc' := 32) rfl (fun r_29 u_29 h_29 => ?_)
    obtain ⟨hr_29, hu_29⟩ := h_29
    rw [hr_29, hu_29]
    exact z_iret C hM dX3_neededCut_32 ⟨rfl, rfl⟩
  ·
    refine z_lkp C dX3_neededCut_1 (by decide) (off := 32) (by decide) (pc' := 33) (by decide) ?_
    refine z_aload_n C dX3_neededCut_33 (pc' := 34) rfl rfl rfl ?_
    refine z_iload_n C dX3_neededCut_34 (pc' := 35) rfl rfl rfl ?_
    refine z_callI C hK (m_X3_thinCut l hI _ (k := k) (by omega) _) AdS_in aw_230 aw_232 aw_3 aw_31 aw_233 (pW_lt (by omega)) (kC_W k) rfl (nA := 1) (by decide +kernel) rfl ⟨Nat.le_of_ble_eq_true rfl, Nat.le_of_ble_eq_true rfl⟩ (rest := []) rfl (Nat.le_of_ble_eq_true rfl) ⟨Nat.zero_le _, Nat.zero_le _⟩ dX3_neededCut_35 (pc' := 38) rfl (fun r_35 u_35 h_35 => ?_)
    obtain ⟨hr_35, hu_35⟩ := h_35
    rw [hr_35, hu_35]
    exact z_iret C hM dX3_neededCut_38 ⟨rfl, rfl⟩
  ·
    refine z_lkp C dX3_neededCut_1 (by decide) (off := 38) (by decide) (pc' := 39) (by decide) ?_
    refine z_aload_n C dX3_neededCut_39 (pc' := 40) rfl rfl rfl ?_
    refine z_iload_n C dX3_neededCut_40 (pc' := 41) rfl rfl rfl ?_
    refine z_callI C hK (m_X3_evenCut l hI _ (k := k) (by omega) _) AdS_in aw_234 aw_236 aw_4 aw_31 aw_237 (pW_lt (by omega)) (kC_W k) rfl (nA := 1) (by decide +kernel) rfl ⟨Nat.le_of_ble_eq_true rfl, Nat.le_of_ble_eq_true rfl⟩ (rest := []) rfl (Nat.le_of_ble_eq_true rfl) ⟨Nat.zero_le _, Nat.zero_le _⟩ dX3_neededCut_41 (pc' := 44) rfl (fun r_41 u_41 h_41 => ?_)
    obtain ⟨hr_41, hu_41⟩ := h_41
    rw [hr_41, hu_41]
    exact z_iret C hM dX3_neededCut_44 ⟨rfl, rfl⟩
set_option maxRecDepth 100000 in
set_option maxHeartbeats 400000 in
theorem m_X3_takeOff (l : Launch) {cA cB : ClassId} {D : va_G} {ad : Nat → Nat} (hI : Inj 67 ad) (σ : St) {k : Nat} (hk : k < 16) (cut : Int32) : CV l yX3_takeOff cX3_takeOff 4 2 35 D [(cA, .int), (cB, .object RX3)] 67 ad (cellC cA cB ad) σ [.ref (ad (pW k)), .int cut] (fun u => u = g_take σ k cut (ldC (σ (100 + 2 * k)) 4)) := by
  refine CV_of (by decide +kernel) (Nat.le_of_ble_eq_true rfl) (by simp [Value.category]) ?_
  intro p e s m below meth c C hM hK
  refine z_aload_n C dX3_takeOff_0 (pc' := 1) rfl rfl rfl ?_
  refine z_callI C hK (m_X3_leastDepth l hI _ (k := k) (by omega)) AdS_in aw_223 aw_225 aw_2 aw_31 aw_226 (pW_lt (by omega)) (kC_W k) rfl (nA := 0) (by decide +kernel) rfl ⟨Nat.le_of_ble_eq_true rfl, Nat.le_of_ble_eq_true rfl⟩ (rest := []) rfl (Nat.le_of_ble_eq_true rfl) ⟨Nat.zero_le _, Nat.zero_le _⟩ dX3_takeOff_1 (pc' := 4) rfl (fun r_1 u_1 h_1 => ?_)
  obtain ⟨hr_1, hu_1⟩ := h_1
  rw [hr_1, hu_1]
  refine z_iload_n C dX3_takeOff_4 (pc' := 5) rfl rfl rfl ?_
  refine z_iadd C dX3_takeOff_5 (pc' := 6) rfl rfl ?_
  refine z_istore_n (L' := [.ref _, .int _, .int _]) C dX3_takeOff_6 (pc' := 7) rfl rfl (by decide) (Nat.le_of_ble_eq_true rfl) rfl ?_
  refine z_iconst C dX3_takeOff_7 (pc' := 8) rfl (v := 0) (by decide) ?_
  refine z_istore_n (L' := [.ref _, .int _, .int _, .int _]) C dX3_takeOff_8 (pc' := 9) rfl rfl (by decide) (Nat.le_of_ble_eq_true rfl) rfl ?_
  refine z_loop (τ := Nat) (fun i => 5 - i) (fun i => i ≤ 5) (fun i => tkL σ (100 + 2 * k) (ldC (σ (100 + 2 * k)) 4 + cut) i) (fun i => [.ref (ad (pW k)), .int cut, .int (ldC (σ (100 + 2 * k)) 4 + cut), .int (nI i)]) 0 (by omega) rfl ⟨_, rfl⟩ ?_
  intro i hi ih9
  try dsimp only at hi ih9 ⊢
  refine z_iload_n C dX3_takeOff_9 (pc' := 10) rfl rfl rfl ?_
  refine z_iconst C dX3_takeOff_10 (pc' := 11) rfl (v := 5) (by decide) ?_
  refine z_icmp_ge (tgt := 38) C dX3_takeOff_11 (pc' := 14) (by decide) rfl (fun c_11 => ?_) (fun c_11 => ?_)
  ·
    have n_11 : 5 ≤ i := ge_of_le (N := 5) (k := i) c_11 (by omega) (by omega)
    obtain rfl : i = 5 := (by omega)
    refine z_aload_n C dX3_takeOff_38 (pc' := 39) rfl rfl rfl ?_
    refine z_dup C dX3_takeOff_39 (pc' := 40) rfl rfl ?_
    refine z_get C hK (pW_lt (by omega)) (kC_W k) rfl inAX3 (k := 1) (by decide) aw_121 rfl dX3_takeOff_40 (pc' := 43) rfl ?_
    refine z_iconst C dX3_takeOff_43 (pc' := 44) rfl (v := 2) (by decide) ?_
    refine z_iload_n C dX3_takeOff_44 (pc' := 45) rfl rfl rfl ?_
    refine z_imul C dX3_takeOff_45 (pc' := 46) rfl rfl ?_
    refine z_isub C dX3_takeOff_46 (pc' := 47) rfl rfl ?_
    refine z_put C hK hI AdS_in (pW_lt (by omega)) (kC_W k) (sC_W1 k _) (cellC_upW (by decide)) rfl inAX3 tyX3_ok nmX3 (k := 1) (by decide) aw_121 rfl (ty := .int) (by decide +kernel) rfl rfl (Nat.le_of_ble_eq_true rfl) dX3_takeOff_47 (pc' := 50) rfl ?_
    refine z_aload_n C dX3_takeOff_50 (pc' := 51) rfl rfl rfl ?_
    refine z_iconst C dX3_takeOff_51 (pc' := 52) rfl (v := 0) (by decide) ?_
    refine z_put C hK hI AdS_in (pW_lt (by omega)) (kC_W k) (sC_W4 k _) (cellC_upW (by decide)) rfl inAX3 tyX3_ok nmX3 (k := 3) (by decide) aw_126 rfl (ty := .int) (by decide +kernel) rfl rfl (Nat.le_of_ble_eq_true rfl) dX3_takeOff_52 (pc' := 55) rfl ?_
    exact z_vret C hM dX3_takeOff_55 rfl
  ·
    have n_11 : i < 5 := lt_of_nle (N := 5) (k := i) c_11 (by omega) (by omega)
    refine z_aload_n C dX3_takeOff_14 (pc' := 15) rfl rfl rfl ?_
    refine z_get C hK (pW_lt (by omega)) (kC_W k) rfl inAX3 (k := 0) (by decide) aw_119 rfl dX3_takeOff_15 (pc' := 18) rfl ?_
    refine z_iload_n C dX3_takeOff_18 (pc' := 19) rfl rfl rfl ?_
    refine z_iconst C dX3_takeOff_19 (pc' := 20) rfl (v := 0) (by decide) ?_
    refine z_aload_n C dX3_takeOff_20 (pc' := 21) rfl rfl rfl ?_
    refine z_get C hK (pW_lt (by omega)) (kC_W k) rfl inAX3 (k := 0) (by decide) aw_119 rfl dX3_takeOff_21 (pc' := 24) rfl ?_
    refine z_iload_n C dX3_takeOff_24 (pc' := 25) rfl rfl rfl ?_
    refine z_iald C hK (pD_lt (by omega)) (kC_D k) (t0 := 0) rfl (j := i) rfl (by omega) (by decide) rfl dX3_takeOff_25 (pc' := 26) rfl ?_
    refine z_iload_n C dX3_takeOff_26 (pc' := 27) rfl rfl rfl ?_
    refine z_isub C dX3_takeOff_27 (pc' := 28) rfl rfl ?_
    refine z_max C aw_220 aw_221 aw_33 aw_222 ⟨Nat.le_of_ble_eq_true rfl, Nat.le_of_ble_eq_true rfl⟩ ⟨Nat.zero_le _, Nat.zero_le _⟩ dX3_takeOff_28 (pc' := 31) rfl ?_
    refine z_iast C hK hI AdS_in (pD_lt (by omega)) (kC_D k) (sC_D k _ _) (cellC_upD (by omega)) (t0 := 0) rfl (j := i) rfl (by omega) (by decide) dX3_takeOff_31 (pc' := 32) rfl ?_
    refine z_iinc (L' := [.ref _, .int _, .int _, .int _]) C dX3_takeOff_32 (pc' := 35) rfl rfl (iinc1 _) (by decide) (Nat.le_of_ble_eq_true rfl) rfl ?_
    refine z_goto C dX3_takeOff_35 (pc' := 9) (by decide) ?_
    exact z_back 4 (ih9 (i + 1) (by omega) (by omega)) rfl rfl
set_option maxRecDepth 100000 in
set_option maxHeartbeats 400000 in
theorem m_X4_turn (l : Launch) {cA cB : ClassId} {D : va_G} {ad : Nat → Nat} (hI : Inj 67 ad) (σ : St) (w q : Int32) : CI l yX4_turn cX4_turn 4 .int 6 121 D [(cA, .int), (cB, .object RX3)] 67 ad (cellC cA cB ad) σ [.ref (ad 0), .int w, .int q] (fun r u => (¬ (isW w ∧ inR q 0 2) ∧ r = -1 ∧ u = σ) ∨ (∃ k kd : Nat, k < 16 ∧ kd ≤ 2 ∧ w = nI k ∧ q = nI kd ∧ ((σ 1 k - 2 * needN (σ (100 + 2 * k)) kd (σ 0 0) < 6000 ∧ r = -2 ∧ u = σ) ∨ (¬ σ 1 k - 2 * needN (σ (100 + 2 * k)) kd (σ 0 0) < 6000 ∧ u = g_turn σ k (needN (σ (100 + 2 * k)) kd (σ 0 0)) (ldC (σ (100 + 2 * k)) 4) ∧ r = u 1 k)))) := by
  refine CI_of (by decide +kernel) (Nat.le_of_ble_eq_true rfl) (by simp [Value.category]) ?_
  intro p e s m below meth c C hM hK
  refine z_iload_n C dX4_turn_0 (pc' := 1) rfl rfl rfl ?_
  refine z_callS C (m_X4_isWheel l _) stabP aw_177 aw_178 aw_27 aw_179 (nA := 1) (by decide +kernel) rfl ⟨Nat.le_of_ble_eq_true rfl, Nat.le_of_ble_eq_true rfl⟩ (rest := []) rfl (Nat.le_of_ble_eq_true rfl) ⟨Nat.zero_le _, Nat.zero_le _⟩ dX4_turn_1 (pc' := 4) rfl (fun r_1 h_1 => ?_)
  rcases h_1 with ⟨rfl, h_1⟩ | ⟨rfl, h_1⟩
  ·
    obtain ⟨k, hk, rfl⟩ := isW_of h_1
    refine z_if_eq (tgt := 14) C dX4_turn_4 (pc' := 7) (by decide) rfl (fun q => absurd q (by decide)) (fun _ => ?_)
    refine z_iload_n C dX4_turn_7 (pc' := 8) rfl rfl rfl ?_
    refine z_callS C (m_X4_isKind l _) stabP aw_203 aw_204 aw_27 aw_205 (nA := 1) (by decide +kernel) rfl ⟨Nat.le_of_ble_eq_true rfl, Nat.le_of_ble_eq_true rfl⟩ (rest := []) rfl (Nat.le_of_ble_eq_true rfl) ⟨Nat.zero_le _, Nat.zero_le _⟩ dX4_turn_8 (pc' := 11) rfl (fun r_8 h_8 => ?_)
    rcases h_8 with ⟨rfl, h_8⟩ | ⟨rfl, h_8⟩
    ·
      obtain ⟨kd, hkd, rfl⟩ := inR_of (n := 2) (by omega) h_8
      refine z_if_ne (tgt := 16) C dX4_turn_11 (pc' := 14) (by decide) rfl (fun _ => ?_) (fun q => absurd q (by decide))
      refine z_aload_n C dX4_turn_16 (pc' := 17) rfl rfl rfl ?_
      refine z_get C hK (by decide) kC_0 rfl inAX4 (k := 0) (by decide) aw_145 rfl dX4_turn_17 (pc' := 20) rfl ?_
      refine z_iload_n C dX4_turn_20 (pc' := 21) rfl rfl rfl ?_
      refine z_aald C hK (by decide) kC_1 (t0 := 1) rfl (j := k) rfl (by omega) (by decide) rfl dX4_turn_21 (pc' := 22) rfl ?_
      refine z_iload_n C dX4_turn_22 (pc' := 23) rfl rfl rfl ?_
      refine z_aload_n C dX4_turn_23 (pc' := 24) rfl rfl rfl ?_
      refine z_get C hK (by decide) kC_0 rfl inAX4 (k := 5) (by decide) aw_150 rfl dX4_turn_24 (pc' := 27) rfl ?_
      refine z_callI C hK (m_X3_neededCut l hI _ (k := k) (by omega) (kd := kd) (by omega) _) AdS_in aw_208 aw_209 aw_210 aw_31 aw_211 (pW_lt (by omega)) (kC_W k) rfl (nA := 2) (by decide +kernel) rfl ⟨Nat.le_of_ble_eq_true rfl, Nat.le_of_ble_eq_true rfl⟩ (rest := []) rfl (Nat.le_of_ble_eq_true rfl) ⟨Nat.zero_le _, Nat.zero_le _⟩ dX4_turn_27 (pc' := 30) rfl (fun r_27 u_27 h_27 => ?_)
      obtain ⟨hr_27, hu_27⟩ := h_27
      rw [hr_27, hu_27]
      refine z_istore_n (L' := [.ref _, .int _, .int _, .int _]) C dX4_turn_30 (pc' := 31) rfl rfl (by decide) (Nat.le_of_ble_eq_true rfl) rfl ?_
      refine z_aload_n C dX4_turn_31 (pc' := 32) rfl rfl rfl ?_
      refine z_get C hK (by decide) kC_0 rfl inAX4 (k := 0) (by decide) aw_145 rfl dX4_turn_32 (pc' := 35) rfl ?_
      refine z_iload_n C dX4_turn_35 (pc' := 36) rfl rfl rfl ?_
      refine z_aald C hK (by decide) kC_1 (t0 := 1) rfl (j := k) rfl (by omega) (by decide) rfl dX4_turn_36 (pc' := 37) rfl ?_
      refine z_get C hK (pW_lt (by omega)) (kC_W k) rfl inAX3 (k := 1) (by decide) aw_122 rfl dX4_turn_37 (pc' := 40) rfl ?_
      refine z_iconst C dX4_turn_40 (pc' := 41) rfl (v := 2) (by decide) ?_
      refine z_iload_n C dX4_turn_41 (pc' := 42) rfl rfl rfl ?_
      refine z_imul C dX4_turn_42 (pc' := 43) rfl rfl ?_
      refine z_isub C dX4_turn_43 (pc' := 44) rfl rfl ?_
      refine z_sipush C dX4_turn_44 (pc' := 47) rfl (v := 6000) (by decide) ?_
      refine z_icmp_ge (tgt := 53) C dX4_turn_47 (pc' := 50) (by decide) rfl (fun c_47 => ?_) (fun c_47 => ?_)
      ·
        refine z_aload_n C dX4_turn_53 (pc' := 54) rfl rfl rfl ?_
        refine z_get C hK (by decide) kC_0 rfl inAX4 (k := 0) (by decide) aw_145 rfl dX4_turn_54 (pc' := 57) rfl ?_
        refine z_iload_n C dX4_turn_57 (pc' := 58) rfl rfl rfl ?_
        refine z_aald C hK (by decide) kC_1 (t0 := 1) rfl (j := k) rfl (by omega) (by decide) rfl dX4_turn_58 (pc' := 59) rfl ?_
        refine z_iload_n C dX4_turn_59 (pc' := 60) rfl rfl rfl ?_
        refine z_callV C hK (m_X3_takeOff l hI _ (k := k) (by omega) _) AdS_in aw_242 aw_243 aw_244 aw_31 aw_245 (pW_lt (by omega)) (kC_W k) rfl (nA := 1) (by decide +kernel) rfl ⟨Nat.le_of_ble_eq_true rfl, Nat.le_of_ble_eq_true rfl⟩ (rest := []) rfl (Nat.le_of_ble_eq_true rfl) ⟨Nat.zero_le _, Nat.zero_le _⟩ dX4_turn_60 (pc' := 63) rfl (fun u_60 h_60 => ?_)
        rw [h_60]
        refine z_aload_n C dX4_turn_63 (pc' := 64) rfl rfl rfl ?_
        refine z_dup C dX4_turn_64 (pc' := 65) rfl rfl ?_
        refine z_get C hK (by decide) kC_0 rfl inAX4 (k := 7) (by decide) aw_152 rfl dX4_turn_65 (pc' := 68) rfl ?_
        refine z_iconst C dX4_turn_68 (pc' := 69) rfl (v := 1) (by decide) ?_
        refine z_iadd C dX4_turn_69 (pc' := 70) rfl rfl ?_
        refine z_put C hK hI AdS_in (by decide) kC_0 sC_02 oC_02 rfl inAX4 tyX4_ok nmX4 (k := 7) (by decide) aw_152 rfl (ty := .int) (by decide +kernel) rfl rfl (Nat.le_of_ble_eq_true rfl) dX4_turn_70 (pc' := 73) rfl ?_
        refine z_aload_n C dX4_turn_73 (pc' := 74) rfl rfl rfl ?_
        refine z_get C hK (by decide) kC_0 rfl inAX4 (k := 0) (by decide) aw_145 rfl dX4_turn_74 (pc' := 77) rfl ?_
        refine z_iload_n C dX4_turn_77 (pc' := 78) rfl rfl rfl ?_
        refine z_aald C hK (by decide) kC_1 (t0 := 1) rfl (j := k) rfl (by omega) (by decide) rfl dX4_turn_78 (pc' := 79) rfl ?_
        refine z_get C hK (pW_lt (by omega)) (kC_W k) rfl inAX3 (k := 1) (by decide) aw_122 rfl dX4_turn_79 (pc' := 82) rfl ?_
        exact z_iret C hM dX4_turn_82 (Or.inr ⟨k, kd, hk, by omega, rfl, rfl, Or.inr ⟨by simp only [i32_le, i32_lt] at *; omega, rfl, rfl⟩⟩)
      ·
        refine z_bipush C dX4_turn_50 (pc' := 52) rfl (v := (-2)) (by decide) ?_
        exact z_iret C hM dX4_turn_52 (Or.inr ⟨k, kd, hk, by omega, rfl, rfl, Or.inl ⟨by simp only [i32_le, i32_lt] at *; omega, rfl, rfl⟩⟩)
    ·
      refine z_if_ne (tgt := 16) C dX4_turn_11 (pc' := 14) (by decide) rfl (fun q => absurd q (by decide)) (fun _ => ?_)
      refine z_iconst C dX4_turn_14 (pc' := 15) rfl (v := (-1)) (by decide) ?_
      exact z_iret C hM dX4_turn_15 (Or.inl ⟨fun z => absurd z (by simp [*]), rfl, rfl⟩)
  ·
    refine z_if_eq (tgt := 14) C dX4_turn_4 (pc' := 7) (by decide) rfl (fun _ => ?_) (fun q => absurd q (by decide))
    refine z_iconst C dX4_turn_14 (pc' := 15) rfl (v := (-1)) (by decide) ?_
    exact z_iret C hM dX4_turn_15 (Or.inl ⟨fun z => absurd z (by simp [*]), rfl, rfl⟩)
set_option maxRecDepth 100000 in
set_option maxHeartbeats 400000 in
theorem m_X3_run (l : Launch) {cA cB : ClassId} {D : va_G} {ad : Nat → Nat} (hI : Inj 67 ad) (σ : St) {k : Nat} (hk : k < 16) (n : Int32) : CV l yX3_run cX3_run 5 1 15 D [(cA, .int), (cB, .object RX3)] 67 ad (cellC cA cB ad) σ [.ref (ad (pW k)), .int n] (fun u => u = runS σ k n) := by
  refine CV_of (by decide +kernel) (Nat.le_of_ble_eq_true rfl) (by simp [Value.category]) ?_
  intro p e s m below meth c C hM hK
  refine z_aload_n C dX3_run_0 (pc' := 1) rfl rfl rfl ?_
  refine z_get C hK (pW_lt (by omega)) (kC_W k) rfl inAX3 (k := 2) (by decide) aw_124 rfl dX3_run_1 (pc' := 4) rfl ?_
  refine z_iload_n C dX3_run_4 (pc' := 5) rfl rfl rfl ?_
  refine z_imul C dX3_run_5 (pc' := 6) rfl rfl ?_
  refine z_bipush C dX3_run_6 (pc' := 8) rfl (v := 100) (by decide) ?_
  refine z_idiv C dX3_run_8 (pc' := 9) rfl (by decide) rfl ?_
  refine z_istore_n (L' := [.ref _, .int _, .int _]) C dX3_run_9 (pc' := 10) rfl rfl (by decide) (Nat.le_of_ble_eq_true rfl) rfl ?_
  refine z_iconst C dX3_run_10 (pc' := 11) rfl (v := 0) (by decide) ?_
  refine z_istore_n (L' := [.ref _, .int _, .int _, .int _]) C dX3_run_11 (pc' := 12) rfl rfl (by decide) (Nat.le_of_ble_eq_true rfl) rfl ?_
  refine z_loop (τ := Nat) (fun i => 5 - i) (fun i => i ≤ 5) (fun i => rnL σ (100 + 2 * k) (wornF σ k n) i) (fun i => [.ref (ad (pW k)), .int n, .int (wornF σ k n), .int (nI i)]) 0 (by omega) rfl ⟨_, rfl⟩ ?_
  intro i hi ih12
  try dsimp only at hi ih12 ⊢
  refine z_iload_n C dX3_run_12 (pc' := 13) rfl rfl rfl ?_
  refine z_iconst C dX3_run_13 (pc' := 14) rfl (v := 5) (by decide) ?_
  refine z_icmp_ge (tgt := 69) C dX3_run_14 (pc' := 17) (by decide) rfl (fun c_14 => ?_) (fun c_14 => ?_)
  ·
    have n_14 : 5 ≤ i := ge_of_le (N := 5) (k := i) c_14 (by omega) (by omega)
    obtain rfl : i = 5 := (by omega)
    refine z_aload_n C dX3_run_69 (pc' := 70) rfl rfl rfl ?_
    refine z_sipush C dX3_run_70 (pc' := 73) rfl (v := 6000) (by decide) ?_
    refine z_aload_n C dX3_run_73 (pc' := 74) rfl rfl rfl ?_
    refine z_get C hK (pW_lt (by omega)) (kC_W k) rfl inAX3 (k := 1) (by decide) aw_121 rfl dX3_run_74 (pc' := 77) rfl ?_
    refine z_iload_n C dX3_run_77 (pc' := 78) rfl rfl rfl ?_
    refine z_isub C dX3_run_78 (pc' := 79) rfl rfl ?_
    refine z_max C aw_220 aw_221 aw_33 aw_222 ⟨Nat.le_of_ble_eq_true rfl, Nat.le_of_ble_eq_true rfl⟩ ⟨Nat.zero_le _, Nat.zero_le _⟩ dX3_run_79 (pc' := 82) rfl ?_
    refine z_put C hK hI AdS_in (pW_lt (by omega)) (kC_W k) (sC_W1 k _) (cellC_upW (by decide)) rfl inAX3 tyX3_ok nmX3 (k := 1) (by decide) aw_121 rfl (ty := .int) (by decide +kernel) rfl rfl (Nat.le_of_ble_eq_true rfl) dX3_run_82 (pc' := 85) rfl ?_
    refine z_aload_n C dX3_run_85 (pc' := 86) rfl rfl rfl ?_
    refine z_dup C dX3_run_86 (pc' := 87) rfl rfl ?_
    refine z_get C hK (pW_lt (by omega)) (kC_W k) rfl inAX3 (k := 3) (by decide) aw_126 rfl dX3_run_87 (pc' := 90) rfl ?_
    refine z_iload_n C dX3_run_90 (pc' := 91) rfl rfl rfl ?_
    refine z_iadd C dX3_run_91 (pc' := 92) rfl rfl ?_
    refine z_put C hK hI AdS_in (pW_lt (by omega)) (kC_W k) (sC_W4 k _) (cellC_upW (by decide)) rfl inAX3 tyX3_ok nmX3 (k := 3) (by decide) aw_126 rfl (ty := .int) (by decide +kernel) rfl rfl (Nat.le_of_ble_eq_true rfl) dX3_run_92 (pc' := 95) rfl ?_
    exact z_vret C hM dX3_run_95 rfl
  ·
    have n_14 : i < 5 := lt_of_nle (N := 5) (k := i) c_14 (by omega) (by omega)
    refine z_iload_n C dX3_run_17 (pc' := 18) rfl rfl rfl ?_
    refine z_tern (J := 31) (P := fun v => v = if i = 0 ∨ i = 4 then 1 else 0) 1 ?_ ?_
    · intro b hb
      try dsimp only [List.drop]
      refine z_istore (L' := [.ref _, .int _, .int _, .int _, .int _]) C dX3_run_31 (pc' := 33) rfl (by decide) (Nat.le_of_ble_eq_true rfl) rfl ?_
      refine z_aload_n C dX3_run_33 (pc' := 34) rfl rfl rfl ?_
      refine z_get C hK (pW_lt (by omega)) (kC_W k) rfl inAX3 (k := 0) (by decide) aw_119 rfl dX3_run_34 (pc' := 37) rfl ?_
      refine z_iload_n C dX3_run_37 (pc' := 38) rfl rfl rfl ?_
      refine z_bipush C dX3_run_38 (pc' := 40) rfl (v := 99) (by decide) ?_
      refine z_aload_n C dX3_run_40 (pc' := 41) rfl rfl rfl ?_
      refine z_get C hK (pW_lt (by omega)) (kC_W k) rfl inAX3 (k := 0) (by decide) aw_119 rfl dX3_run_41 (pc' := 44) rfl ?_
      refine z_iload_n C dX3_run_44 (pc' := 45) rfl rfl rfl ?_
      refine z_iald C hK (pD_lt (by omega)) (kC_D k) (t0 := 0) rfl (j := i) rfl (by omega) (by decide) rfl dX3_run_45 (pc' := 46) rfl ?_
      refine z_iload C dX3_run_46 (pc' := 48) rfl rfl ?_
      refine z_tern (J := 58) (P := fun v => v = if i = 0 ∨ i = 4 then wornF σ k n / 2 else wornF σ k n) 1 ?_ ?_
      · intro x hx
        try dsimp only [List.drop]
        refine z_iadd C dX3_run_58 (pc' := 59) rfl rfl ?_
        refine z_min C aw_227 aw_228 aw_33 aw_229 ⟨Nat.le_of_ble_eq_true rfl, Nat.le_of_ble_eq_true rfl⟩ ⟨Nat.zero_le _, Nat.zero_le _⟩ dX3_run_59 (pc' := 62) rfl ?_
        refine z_iast C hK hI AdS_in (pD_lt (by omega)) (kC_D k) (sC_D k _ _) (cellC_upD (by omega)) (t0 := 0) rfl (j := i) rfl (by omega) (by decide) dX3_run_62 (pc' := 63) rfl ?_
        refine z_iinc (L' := [.ref _, .int _, .int _, .int _, .int _]) C dX3_run_63 (pc' := 66) rfl rfl (iinc1 _) (by decide) (Nat.le_of_ble_eq_true rfl) rfl ?_
        refine z_goto C dX3_run_66 (pc' := 12) (by decide) ?_
        exact z_back 4 (ih12 (i + 1) (by omega) (by omega)) (by simp only [rnL, mn, hx]) rfl
      · intro hj_58
        refine z_if_eq (tgt := 57) C dX3_run_48 (pc' := 51) (by decide) rfl (fun c_48 => ?_) (fun c_48 => ?_)
        ·
          refine z_iload_n C dX3_run_57 (pc' := 58) rfl rfl rfl ?_
          exact hj_58 _ (by subst hb; by_cases q : i = 0 ∨ i = 4 <;> simp_all)
        ·
          refine z_iload_n C dX3_run_51 (pc' := 52) rfl rfl rfl ?_
          refine z_iconst C dX3_run_52 (pc' := 53) rfl (v := 2) (by decide) ?_
          refine z_idiv C dX3_run_53 (pc' := 54) rfl (by decide) rfl ?_
          refine z_goto C dX3_run_54 (pc' := 58) (by decide) ?_
          exact hj_58 _ (by subst hb; by_cases q : i = 0 ∨ i = 4 <;> simp_all)
    · intro hj_31
      refine z_if_eq (tgt := 26) C dX3_run_18 (pc' := 21) (by decide) rfl (fun c_18 => ?_) (fun c_18 => ?_)
      ·
        have n_18 : i = 0 := (nI_eq0 (by omega)).mp c_18
        refine z_iconst C dX3_run_26 (pc' := 27) rfl (v := 1) (by decide) ?_
        refine z_goto C dX3_run_27 (pc' := 31) (by decide) ?_
        exact hj_31 _ (by simp [*])
      ·
        have n_18 : ¬ i = 0 := fun z9 => c_18 ((nI_eq0 (by omega)).mpr z9)
        refine z_iload_n C dX3_run_21 (pc' := 22) rfl rfl rfl ?_
        refine z_iconst C dX3_run_22 (pc' := 23) rfl (v := 4) (by decide) ?_
        refine z_icmp_ne (tgt := 30) C dX3_run_23 (pc' := 26) (by decide) rfl (fun c_23 => ?_) (fun c_23 => ?_)
        ·
          have n_23 : ¬ i = 4 := fun z9 => c_23 ((nI_eq (a := i) (b := 4) (by omega) (by omega)).mpr z9)
          refine z_iconst C dX3_run_30 (pc' := 31) rfl (v := 0) (by decide) ?_
          exact hj_31 _ (by simp [*])
        ·
          have n_23 : i = 4 := (nI_eq (a := i) (b := 4) (by omega) (by omega)).mp c_23
          refine z_iconst C dX3_run_26 (pc' := 27) rfl (v := 1) (by decide) ?_
          refine z_goto C dX3_run_27 (pc' := 31) (by decide) ?_
          exact hj_31 _ (by simp [*])
set_option maxRecDepth 100000 in
set_option maxHeartbeats 400000 in
theorem m_X4_miles (l : Launch) {cA cB : ClassId} {D : va_G} {ad : Nat → Nat} (hI : Inj 67 ad) (σ : St) (n : Int32) : CI l yX4_miles cX4_miles 4 .int 2 39 D [(cA, .int), (cB, .object RX3)] 67 ad (cellC cA cB ad) σ [.ref (ad 0), .int n] (fun r u => (¬ inR n 1 500 ∧ r = -1 ∧ u = σ) ∨ (inR n 1 500 ∧ r = dueC σ n 16 ∧ u = mlS σ n 16)) := by
  refine CI_of (by decide +kernel) (Nat.le_of_ble_eq_true rfl) (by simp [Value.category]) ?_
  intro p e s m below meth c C hM hK
  refine z_iload_n C dX4_miles_0 (pc' := 1) rfl rfl rfl ?_
  refine z_iconst C dX4_miles_1 (pc' := 2) rfl (v := 1) (by decide) ?_
  refine z_sipush C dX4_miles_2 (pc' := 5) rfl (v := 500) (by decide) ?_
  refine z_callS C (m_X4_within l _ _ _) stabP aw_180 aw_181 aw_27 aw_182 (nA := 3) (by decide +kernel) rfl ⟨Nat.le_of_ble_eq_true rfl, Nat.le_of_ble_eq_true rfl⟩ (rest := []) rfl (Nat.le_of_ble_eq_true rfl) ⟨Nat.zero_le _, Nat.zero_le _⟩ dX4_miles_5 (pc' := 8) rfl (fun r_5 h_5 => ?_)
  rcases h_5 with ⟨rfl, h_5⟩ | ⟨rfl, h_5⟩
  ·
    refine z_if_ne (tgt := 13) C dX4_miles_8 (pc' := 11) (by decide) rfl (fun _ => ?_) (fun q => absurd q (by decide))
    refine z_iconst C dX4_miles_13 (pc' := 14) rfl (v := 0) (by decide) ?_
    refine z_istore_n (L' := [.ref _, .int _, .int _]) C dX4_miles_14 (pc' := 15) rfl rfl (by decide) (Nat.le_of_ble_eq_true rfl) rfl ?_
    refine z_iconst C dX4_miles_15 (pc' := 16) rfl (v := 0) (by decide) ?_
    refine z_istore_n (L' := [.ref _, .int _, .int _, .int _]) C dX4_miles_16 (pc' := 17) rfl rfl (by decide) (Nat.le_of_ble_eq_true rfl) rfl ?_
    refine z_loop (τ := Nat) (fun i => 16 - i) (fun i => i ≤ 16) (fun i => mlS σ n i) (fun i => [.ref (ad 0), .int n, .int (dueC σ n i), .int (nI i)]) 0 (by omega) rfl ⟨_, rfl⟩ ?_
    intro i hi ih17
    try dsimp only at hi ih17 ⊢
    refine z_iload_n C dX4_miles_17 (pc' := 18) rfl rfl rfl ?_
    refine z_bipush C dX4_miles_18 (pc' := 20) rfl (v := 16) (by decide) ?_
    refine z_icmp_ge (tgt := 54) C dX4_miles_20 (pc' := 23) (by decide) rfl (fun c_20 => ?_) (fun c_20 => ?_)
    ·
      have n_20 : 16 ≤ i := ge_of_le (N := 16) (k := i) c_20 (by omega) (by omega)
      refine z_iload_n C dX4_miles_54 (pc' := 55) rfl rfl rfl ?_
      exact z_iret C hM dX4_miles_55 (by obtain rfl : i = 16 := (by omega); exact Or.inr ⟨by assumption, rfl, rfl⟩)
    ·
      have n_20 : i < 16 := lt_of_nle (N := 16) (k := i) c_20 (by omega) (by omega)
      refine z_aload_n C dX4_miles_23 (pc' := 24) rfl rfl rfl ?_
      refine z_get C hK (by decide) kC_0 rfl inAX4 (k := 0) (by decide) aw_145 rfl dX4_miles_24 (pc' := 27) rfl ?_
      refine z_iload_n C dX4_miles_27 (pc' := 28) rfl rfl rfl ?_
      refine z_aald C hK (by decide) kC_1 (t0 := 1) rfl (j := i) rfl (by omega) (by decide) rfl dX4_miles_28 (pc' := 29) rfl ?_
      refine z_iload_n C dX4_miles_29 (pc' := 30) rfl rfl rfl ?_
      refine z_callV C hK (m_X3_run l hI _ (k := i) (by omega) _) AdS_in aw_250 aw_251 aw_252 aw_31 aw_253 (pW_lt (by omega)) (kC_W i) rfl (nA := 1) (by decide +kernel) rfl ⟨Nat.le_of_ble_eq_true rfl, Nat.le_of_ble_eq_true rfl⟩ (rest := []) rfl (Nat.le_of_ble_eq_true rfl) ⟨Nat.zero_le _, Nat.zero_le _⟩ dX4_miles_30 (pc' := 33) rfl (fun u_30 h_30 => ?_)
      rw [h_30]
      refine z_aload_n C dX4_miles_33 (pc' := 34) rfl rfl rfl ?_
      refine z_get C hK (by decide) kC_0 rfl inAX4 (k := 0) (by decide) aw_145 rfl dX4_miles_34 (pc' := 37) rfl ?_
      refine z_iload_n C dX4_miles_37 (pc' := 38) rfl rfl rfl ?_
      refine z_aald C hK (by decide) kC_1 (t0 := 1) rfl (j := i) rfl (by omega) (by decide) rfl dX4_miles_38 (pc' := 39) rfl ?_
      refine z_callI C hK (m_X3_milesLeft l hI _ (k := i) (by omega)) AdS_in aw_254 aw_255 aw_256 aw_31 aw_257 (pW_lt (by omega)) (kC_W i) rfl (nA := 0) (by decide +kernel) rfl ⟨Nat.le_of_ble_eq_true rfl, Nat.le_of_ble_eq_true rfl⟩ (rest := []) rfl (Nat.le_of_ble_eq_true rfl) ⟨Nat.zero_le _, Nat.zero_le _⟩ dX4_miles_39 (pc' := 42) rfl (fun r_39 u_39 h_39 => ?_)
      obtain ⟨hr_39, hu_39⟩ := h_39
      rw [hr_39, hu_39]
      refine z_if_gt (tgt := 48) C dX4_miles_42 (pc' := 45) (by decide) rfl (fun c_42 => ?_) (fun c_42 => ?_)
      ·
        refine z_iinc (L' := [.ref _, .int _, .int _, .int _]) C dX4_miles_48 (pc' := 51) rfl rfl (iinc1 _) (by decide) (Nat.le_of_ble_eq_true rfl) rfl ?_
        refine z_goto C dX4_miles_51 (pc' := 17) (by decide) ?_
        exact z_back 4 (ih17 (i + 1) (by omega) (by omega)) rfl (by simp [dueC, mlS, *])
      ·
        refine z_iinc (L' := [.ref _, .int _, .int _, .int _]) C dX4_miles_45 (pc' := 48) rfl rfl (iincx _) (by decide) (Nat.le_of_ble_eq_true rfl) rfl ?_
        refine z_iinc (L' := [.ref _, .int _, .int _, .int _]) C dX4_miles_48 (pc' := 51) rfl rfl (iinc1 _) (by decide) (Nat.le_of_ble_eq_true rfl) rfl ?_
        refine z_goto C dX4_miles_51 (pc' := 17) (by decide) ?_
        exact z_back 4 (ih17 (i + 1) (by omega) (by omega)) rfl (by simp [dueC, mlS, *])
  ·
    refine z_if_ne (tgt := 13) C dX4_miles_8 (pc' := 11) (by decide) rfl (fun q => absurd q (by decide)) (fun _ => ?_)
    refine z_iconst C dX4_miles_11 (pc' := 12) rfl (v := (-1)) (by decide) ?_
    exact z_iret C hM dX4_miles_12 (Or.inl ⟨by assumption, rfl, rfl⟩)
set_option maxRecDepth 100000 in
set_option maxHeartbeats 400000 in
theorem m_X3_feel (l : Launch) {cA cB : ClassId} {D : va_G} {ad : Nat → Nat} (hI : Inj 67 ad) (σ : St) {k : Nat} (hk : k < 16) {o : Nat} (ho : o < 5) (eo : σ 22 k = nI o) (v : Int32) : CV l yX3_feel cX3_feel 2 1 14 D [(cA, .int), (cB, .object RX3)] 67 ad (cellC cA cB ad) σ [.ref (ad (pW k)), .int v] (fun u => u = g_feel σ k o v) := by
  refine CV_of (by decide +kernel) (Nat.le_of_ble_eq_true rfl) (by simp [Value.category]) ?_
  intro p e s m below meth c C hM hK
  refine z_aload_n C dX3_feel_0 (pc' := 1) rfl rfl rfl ?_
  refine z_get C hK (pW_lt (by omega)) (kC_W k) rfl inAX3 (k := 4) (by decide) aw_127 rfl dX3_feel_1 (pc' := 4) rfl ?_
  refine z_aload_n C dX3_feel_4 (pc' := 5) rfl rfl rfl ?_
  refine z_get C hK (pW_lt (by omega)) (kC_W k) rfl inAX3 (k := 6) (by decide) aw_129 rfl dX3_feel_5 (pc' := 8) rfl ?_
  refine z_top (y := nI o) (by simp only [up2_c _ _ _ _ (show 22 ≠ 101 + 2 * k by omega), eo]) ?_
  refine z_iload_n C dX3_feel_8 (pc' := 9) rfl rfl rfl ?_
  refine z_iast C hK hI AdS_in (pB_lt (by omega)) (kC_B k) (sC_B k _ _) (cellC_upB (by omega)) (t0 := 0) rfl (j := o) rfl (by omega) (by decide) dX3_feel_9 (pc' := 10) rfl ?_
  refine z_aload_n C dX3_feel_10 (pc' := 11) rfl rfl rfl ?_
  refine z_aload_n C dX3_feel_11 (pc' := 12) rfl rfl rfl ?_
  refine z_get C hK (pW_lt (by omega)) (kC_W k) rfl inAX3 (k := 6) (by decide) aw_129 rfl dX3_feel_12 (pc' := 15) rfl ?_
  refine z_top (y := nI o) (by simp only [up2_c _ _ _ _ (show 22 ≠ 101 + 2 * k by omega), eo]) ?_
  refine z_iconst C dX3_feel_15 (pc' := 16) rfl (v := 4) (by decide) ?_
  refine z_tern (J := 29) (P := fun v => v = if o = 4 then 0 else nI (o + 1)) 2 ?_ ?_
  · intro x hx
    try dsimp only [List.drop]
    refine z_put C hK hI AdS_in (pW_lt (by omega)) (kC_W k) (sC_W22 k _) (cellC_upW (by decide)) rfl inAX3 tyX3_ok nmX3 (k := 6) (by decide) aw_129 rfl (ty := .int) (by decide +kernel) rfl rfl (Nat.le_of_ble_eq_true rfl) dX3_feel_29 (pc' := 32) rfl ?_
    refine z_aload_n C dX3_feel_32 (pc' := 33) rfl rfl rfl ?_
    refine z_iconst C dX3_feel_33 (pc' := 34) rfl (v := 5) (by decide) ?_
    refine z_aload_n C dX3_feel_34 (pc' := 35) rfl rfl rfl ?_
    refine z_get C hK (pW_lt (by omega)) (kC_W k) rfl inAX3 (k := 5) (by decide) aw_128 rfl dX3_feel_35 (pc' := 38) rfl ?_
    refine z_iconst C dX3_feel_38 (pc' := 39) rfl (v := 1) (by decide) ?_
    refine z_iadd C dX3_feel_39 (pc' := 40) rfl rfl ?_
    refine z_min C aw_227 aw_228 aw_33 aw_229 ⟨Nat.le_of_ble_eq_true rfl, Nat.le_of_ble_eq_true rfl⟩ ⟨Nat.zero_le _, Nat.zero_le _⟩ dX3_feel_40 (pc' := 43) rfl ?_
    refine z_put C hK hI AdS_in (pW_lt (by omega)) (kC_W k) (sC_W21 k _) (cellC_upW (by decide)) rfl inAX3 tyX3_ok nmX3 (k := 5) (by decide) aw_128 rfl (ty := .int) (by decide +kernel) rfl rfl (Nat.le_of_ble_eq_true rfl) dX3_feel_43 (pc' := 46) rfl ?_
    exact z_vret C hM dX3_feel_46 (by simp only [g_feel, mn, hx]; rw [up2_c _ _ _ _ (show 21 ≠ 22 by decide), up2_c _ _ _ _ (show 21 ≠ 101 + 2 * k by omega)])
  · intro hj_29
    refine z_icmp_ne (tgt := 23) C dX3_feel_16 (pc' := 19) (by decide) rfl (fun c_16 => ?_) (fun c_16 => ?_)
    ·
      have n_16 : ¬ o = 4 := fun z9 => c_16 ((nI_eq (a := o) (b := 4) (by omega) (by omega)).mpr z9)
      refine z_aload_n C dX3_feel_23 (pc' := 24) rfl rfl rfl ?_
      refine z_get C hK (pW_lt (by omega)) (kC_W k) rfl inAX3 (k := 6) (by decide) aw_129 rfl dX3_feel_24 (pc' := 27) rfl ?_
      refine z_top (y := nI o) (by simp only [up2_c _ _ _ _ (show 22 ≠ 101 + 2 * k by omega), eo]) ?_
      refine z_iconst C dX3_feel_27 (pc' := 28) rfl (v := 1) (by decide) ?_
      refine z_iadd C dX3_feel_28 (pc' := 29) rfl (nI_add (o) (1)) ?_
      exact hj_29 _ (by simp [*])
    ·
      have n_16 : o = 4 := (nI_eq (a := o) (b := 4) (by omega) (by omega)).mp c_16
      refine z_iconst C dX3_feel_19 (pc' := 20) rfl (v := 0) (by decide) ?_
      refine z_goto C dX3_feel_20 (pc' := 29) (by decide) ?_
      exact hj_29 _ (by simp [*])
set_option maxRecDepth 100000 in
set_option maxHeartbeats 400000 in
theorem m_X3_isFlat (l : Launch) {cA cB : ClassId} {D : va_G} {ad : Nat → Nat} (hI : Inj 67 ad) (σ : St) {k : Nat} (hk : k < 16) {b : Nat} (hb5 : b ≤ 5) (eb : σ 21 k = nI b) (v : Int32) : CI l yX3_isFlat cX3_isFlat 4 .boolean 0 0 D [(cA, .int), (cB, .object RX3)] 67 ad (cellC cA cB ad) σ [.ref (ad (pW k)), .int v] (fun r u => u = σ ∧ ((r = 1 ∧ ¬ cntB σ k v b < 3) ∨ (r = 0 ∧ cntB σ k v b < 3))) := by
  refine CI_of (by decide +kernel) (Nat.le_of_ble_eq_true rfl) (by simp [Value.category]) ?_
  intro p e s m below meth c C hM hK
  refine z_iconst C dX3_isFlat_0 (pc' := 1) rfl (v := 0) (by decide) ?_
  refine z_istore_n (L' := [.ref _, .int _, .int _]) C dX3_isFlat_1 (pc' := 2) rfl rfl (by decide) (Nat.le_of_ble_eq_true rfl) rfl ?_
  refine z_iconst C dX3_isFlat_2 (pc' := 3) rfl (v := 0) (by decide) ?_
  refine z_istore_n (L' := [.ref _, .int _, .int _, .int _]) C dX3_isFlat_3 (pc' := 4) rfl rfl (by decide) (Nat.le_of_ble_eq_true rfl) rfl ?_
  refine z_loop (τ := Nat) (fun i => b - i) (fun i => i ≤ b) (fun i => σ) (fun i => [.ref (ad (pW k)), .int v, .int (cntB σ k v i), .int (nI i)]) 0 (by omega) rfl ⟨_, rfl⟩ ?_
  intro i hi ih4
  try dsimp only at hi ih4 ⊢
  refine z_iload_n C dX3_isFlat_4 (pc' := 5) rfl rfl rfl ?_
  refine z_aload_n C dX3_isFlat_5 (pc' := 6) rfl rfl rfl ?_
  refine z_get C hK (pW_lt (by omega)) (kC_W k) rfl inAX3 (k := 5) (by decide) aw_128 rfl dX3_isFlat_6 (pc' := 9) rfl ?_
  refine z_top (y := nI b) eb ?_
  refine z_icmp_ge (tgt := 31) C dX3_isFlat_9 (pc' := 12) (by decide) rfl (fun c_9 => ?_) (fun c_9 => ?_)
  ·
    have n_9 : b ≤ i := ge_of_le (N := b) (k := i) c_9 (by omega) (by omega)
    obtain rfl : i = b := (by omega)
    refine z_iload_n C dX3_isFlat_31 (pc' := 32) rfl rfl rfl ?_
    refine z_iconst C dX3_isFlat_32 (pc' := 33) rfl (v := 3) (by decide) ?_
    refine z_icmp_lt (tgt := 40) C dX3_isFlat_33 (pc' := 36) (by decide) rfl (fun c_33 => ?_) (fun c_33 => ?_)
    ·
      refine z_iconst C dX3_isFlat_40 (pc' := 41) rfl (v := 0) (by decide) ?_
      exact z_zret C hM dX3_isFlat_41 (by decide) ⟨rfl, Or.inr ⟨rfl, by assumption⟩⟩
    ·
      refine z_iconst C dX3_isFlat_36 (pc' := 37) rfl (v := 1) (by decide) ?_
      refine z_goto C dX3_isFlat_37 (pc' := 41) (by decide) ?_
      exact z_zret C hM dX3_isFlat_41 (by decide) ⟨rfl, Or.inl ⟨rfl, by assumption⟩⟩
  ·
    have n_9 : i < b := lt_of_nle (N := b) (k := i) c_9 (by omega) (by omega)
    refine z_aload_n C dX3_isFlat_12 (pc' := 13) rfl rfl rfl ?_
    refine z_get C hK (pW_lt (by omega)) (kC_W k) rfl inAX3 (k := 4) (by decide) aw_127 rfl dX3_isFlat_13 (pc' := 16) rfl ?_
    refine z_iload_n C dX3_isFlat_16 (pc' := 17) rfl rfl rfl ?_
    refine z_iald C hK (pB_lt (by omega)) (kC_B k) (t0 := 0) rfl (j := i) rfl (by omega) (by decide) rfl dX3_isFlat_17 (pc' := 18) rfl ?_
    refine z_iload_n C dX3_isFlat_18 (pc' := 19) rfl rfl rfl ?_
    refine z_icmp_lt (tgt := 25) C dX3_isFlat_19 (pc' := 22) (by decide) rfl (fun c_19 => ?_) (fun c_19 => ?_)
    ·
      refine z_iinc (L' := [.ref _, .int _, .int _, .int _]) C dX3_isFlat_25 (pc' := 28) rfl rfl (iinc1 _) (by decide) (Nat.le_of_ble_eq_true rfl) rfl ?_
      refine z_goto C dX3_isFlat_28 (pc' := 4) (by decide) ?_
      exact z_back 4 (ih4 (i + 1) (by omega) (by omega)) rfl (by simp [cntB, *])
    ·
      refine z_iinc (L' := [.ref _, .int _, .int _, .int _]) C dX3_isFlat_22 (pc' := 25) rfl rfl (iincx _) (by decide) (Nat.le_of_ble_eq_true rfl) rfl ?_
      refine z_iinc (L' := [.ref _, .int _, .int _, .int _]) C dX3_isFlat_25 (pc' := 28) rfl rfl (iinc1 _) (by decide) (Nat.le_of_ble_eq_true rfl) rfl ?_
      refine z_goto C dX3_isFlat_28 (pc' := 4) (by decide) ?_
      exact z_back 4 (ih4 (i + 1) (by omega) (by omega)) rfl (by simp [cntB, *])
