/-! readings: the reference -/
def hR1 (σ : St) : Nat → St
  | 0 => σ
  | w + 1 => up2 (up2 (hR1 σ w) 15 w (-100000)) 16 w 100000
def hR2 (T : St) : Nat → St
  | 0 => T
  | i + 1 => if hR2 T i 8 i = 0 then narF (hR2 T i) 15 16 i (wn (T 7 i)) 2 else hR2 T i
theorem hR1_o {σ : St} {c : Nat} (h : c ≠ 15) (h2 : c ≠ 16) : ∀ w, hR1 σ w c = σ c
  | 0 => rfl
  | w + 1 => by rw [hR1, up2_cc _ _ _ h2, up2_cc _ _ _ h, hR1_o h h2 w]
theorem hR2_o {T : St} {c : Nat} (h : c ≠ 15) (h2 : c ≠ 16) : ∀ i, hR2 T i c = T c
  | 0 => rfl
  | i + 1 => by
    rw [hR2]
    split
    · rw [narF_o h h2, hR2_o h h2 i]
    · rw [hR2_o h h2 i]
theorem mx_le {x y : Int32} (h : y ≤ x) : x = mx x y := by
  unfold mx
  rw [if_neg]
  rw [i32_le] at h; rw [i32_lt]; omega
theorem mx_gt {x y : Int32} (h : ¬ y ≤ x) : y = mx x y := by
  unfold mx
  rw [if_pos]
  rw [i32_le] at h; rw [i32_lt]; omega
theorem mn_le2 {x y : Int32} (h : x ≤ y) : x = mn x y := by
  unfold mn
  rw [if_neg]
  rw [i32_le] at h; rw [i32_lt]; omega
theorem mn_gt2 {x y : Int32} (h : ¬ x ≤ y) : y = mn x y := by
  unfold mn
  rw [if_pos]
  rw [i32_le] at h; rw [i32_lt]; omega
def hiF (S : St) : Nat → Int32
  | 0 => 1
  | w + 1 => hiF S w &&& if S 15 w ≤ S 16 w then 1 else 0
theorem hi01 (S : St) : ∀ w, (hiF S w = 1 ∧ ∀ j, j < w → S 15 j ≤ S 16 j) ∨ (hiF S w = 0 ∧ ¬ ∀ j, j < w → S 15 j ≤ S 16 j)
  | 0 => Or.inl ⟨rfl, fun j h => absurd h (by omega)⟩
  | w + 1 => by
    unfold hiF
    by_cases q : S 15 w ≤ S 16 w
    · rw [if_pos q]
      rcases hi01 S w with ⟨h1, h2⟩ | ⟨h1, h2⟩
      · refine Or.inl ⟨by rw [h1]; decide, fun j hj => ?_⟩
        rcases Nat.lt_or_ge j w with z | z
        · exact h2 j z
        · exact (show j = w by omega) ▸ q
      · exact Or.inr ⟨by rw [h1]; decide, fun z => h2 fun j hj => z j (by omega)⟩
    · rw [if_neg q]
      refine Or.inr ⟨?_, fun z => q (z w (by omega))⟩
      rcases hi01 S w with ⟨h1, h2⟩ | ⟨h1, h2⟩ <;> rw [h1] <;> decide
def agR (S : St) (w : Nat) (o s : Int32) : Nat → Int32
  | 0 => 0
  | j + 1 => agR S w o s j + if S 7 j = nI w ∧ S 8 j = 1 ∧ inR (S 9 j - o - s) (-5) 5 then 1 else 0
def rS1 (S : St) (w : Nat) (o : Int32) (j : Nat) : Int32 := if S 9 j - o + 5 ≤ S 16 w then S 9 j - o + 5 else S 16 w
def rN1 (S : St) (w : Nat) (o : Int32) (n j : Nat) : Int32 := if S 15 w ≤ rS1 S w o j then agR S w o (rS1 S w o j) n else 0
def rIn (S : St) (w : Nat) (o : Int32) (n : Nat) : Nat → Int32 × Int32
  | 0 => (0, 0)
  | j + 1 => if S 7 j = nI w ∧ S 8 j = 1 then ((if rN1 S w o n j ≤ (rIn S w o n j).1 then (rIn S w o n j).1 else rN1 S w o n j), (rIn S w o n j).2 + 1) else rIn S w o n j
def rOut (S : St) (o : Int32) (n : Nat) : Nat → Int32
  | 0 => 0
  | w + 1 => rOut S o n w + ((rIn S w o n n).2 - (rIn S w o n n).1)
def oO (t : Nat) : Int32 := nI t - 200
def oFn (S : St) (n t : Nat) : Int32 := rOut S (oO t) n 16
def oF1 (S : St) (n : Nat) : Nat → Int32
  | 0 => -1000000
  | t + 1 => if oFn S n t = 0 then (if oF1 S n t = -1000000 then oO t else oF1 S n t) else oF1 S n t
def oF2 (S : St) (n : Nat) : Nat → Int32
  | 0 => -1000000
  | t + 1 => if oFn S n t = 0 then oO t else oF2 S n t
def oF3 (S : St) (n : Nat) : Nat → Int32
  | 0 => 0
  | t + 1 => if oFn S n t = 0 then oF3 S n t + 1 else oF3 S n t
def oF4 (S : St) (n : Nat) : Nat → Int32
  | 0 => -9
  | t + 1 => if oF4 S n t = -9 then oFn S n t else if oF4 S n t ≤ oFn S n t then oF4 S n t else oFn S n t
theorem oO_s {t : Nat} (ht : t < 1000) : oO t + Int32.ofInt 1 = oO (t + 1) := by
  have h := pk_sub_toInt (a := t) (b := 200) (by omega) (by omega)
  have h2 := pk_sub_toInt (a := t + 1) (b := 200) (by omega) (by omega)
  have e : (oO t).toInt = (t : Int) - 200 := h
  have e2 : (oO (t + 1)).toInt = ((t + 1 : Nat) : Int) - 200 := h2
  refine Int32.toInt_inj.mp ?_
  rw [Int32.toInt_add, e, e2, show (Int32.ofInt 1).toInt = 1 by decide]
  rw [Int.bmod_eq_of_le (by omega) (by omega)]
  omega
theorem oO_le {t : Nat} (ht : t < 1000) : ¬ (200 : Int32) < oO t ↔ t ≤ 400 := by
  have h := pk_sub_toInt (a := t) (b := 200) (by omega) (by omega)
  have e : (oO t).toInt = (t : Int) - 200 := h
  rw [i32_lt, e, show (200 : Int32).toInt = 200 from rfl]
  omega
set_option maxRecDepth 100000 in
set_option maxHeartbeats 400000 in
theorem m_X5_hands (l : Launch) {cA : ClassId} {D : va_G} {ad : Nat → Nat} (hI : Inj 17 ad) (σ : St) {n : Nat} (hn : n ≤ 20) (e5 : σ 0 5 = nI n) (hT : okT σ n) : CI l yX5_hands cX5_hands 3 .boolean 0 0 D [(cA, .int)] 17 ad (cellR cA ad) σ [.ref (ad 0)] (fun r u => u = hR2 (hR1 σ 16) n ∧ ((r = 1 ∧ okH u 15 16) ∨ (r = 0 ∧ ¬ okH u 15 16))) := by
  refine CI_of (by decide +kernel) (Nat.le_of_ble_eq_true rfl) (by simp [Value.category]) ?_
  intro p e s m below meth c C hM hK
  refine z_iconst C dX5_hands_0 (pc' := 1) rfl (v := 0) (by decide) ?_
  refine z_istore_n (L' := [.ref _, .int _]) C dX5_hands_1 (pc' := 2) rfl rfl (by decide) (Nat.le_of_ble_eq_true rfl) rfl ?_
  refine z_loop (τ := Nat) (fun i => 16 - i) (fun i => i ≤ 16) (fun i => hR1 σ i) (fun i => [.ref (ad 0), .int (nI i)]) 0 (by omega) rfl ⟨_, rfl⟩ ?_
  intro i hi ih2
  try dsimp only at hi ih2 ⊢
  refine z_iload_n C dX5_hands_2 (pc' := 3) rfl rfl rfl ?_
  refine z_bipush C dX5_hands_3 (pc' := 5) rfl (v := 16) (by decide) ?_
  refine z_icmp_ge (tgt := 30) C dX5_hands_5 (pc' := 8) (by decide) rfl (fun c_5 => ?_) (fun c_5 => ?_)
  ·
    have n_5 : 16 ≤ i := ge_of_le (N := 16) (k := i) c_5 (by omega) (by omega)
    obtain rfl : i = 16 := (by omega)
    refine z_iconst C dX5_hands_30 (pc' := 31) rfl (v := 0) (by decide) ?_
    refine z_istore_n (L' := [.ref _, .int _]) C dX5_hands_31 (pc' := 32) rfl rfl (by decide) (Nat.le_of_ble_eq_true rfl) rfl ?_
    refine z_loop (τ := Nat) (fun i => n - i) (fun i => i ≤ n) (fun i => hR2 (hR1 σ 16) i) (fun i => [.ref (ad 0), .int (nI i)]) 0 (by omega) rfl ⟨_, rfl⟩ ?_
    intro i hi ih32
    try dsimp only at hi ih32 ⊢
    refine z_iload_n C dX5_hands_32 (pc' := 33) rfl rfl rfl ?_
    refine z_aload_n C dX5_hands_33 (pc' := 34) rfl rfl rfl ?_
    refine z_get C hK (by decide) kR_0 rfl inAX5 (k := 14) (by decide) aw_466 rfl dX5_hands_34 (pc' := 37) rfl ?_
    refine z_top (y := nI n) (by rw [hR2_o (by decide) (by decide), hR1_o (by decide) (by decide), e5]) ?_
    refine z_icmp_ge (tgt := 142) C dX5_hands_37 (pc' := 40) (by decide) rfl (fun c_37 => ?_) (fun c_37 => ?_)
    ·
      have n_37 : n ≤ i := ge_of_le (N := n) (k := i) c_37 (by omega) (by omega)
      obtain rfl : n = i := (by omega)
      refine z_iconst C dX5_hands_142 (pc' := 143) rfl (v := 1) (by decide) ?_
      refine z_istore_n (L' := [.ref _, .int _]) C dX5_hands_143 (pc' := 144) rfl rfl (by decide) (Nat.le_of_ble_eq_true rfl) rfl ?_
      refine z_iconst C dX5_hands_144 (pc' := 145) rfl (v := 0) (by decide) ?_
      refine z_istore_n (L' := [.ref _, .int _, .int _]) C dX5_hands_145 (pc' := 146) rfl rfl (by decide) (Nat.le_of_ble_eq_true rfl) rfl ?_
      refine z_loop (τ := Nat) (fun w => 16 - w) (fun w => w ≤ 16) (fun w => hR2 (hR1 σ 16) n) (fun w => [.ref (ad 0), .int (hiF (hR2 (hR1 σ 16) n) w), .int (nI w)]) 0 (by omega) rfl ⟨_, rfl⟩ ?_
      intro w hw ih146
      try dsimp only at hw ih146 ⊢
      refine z_iload_n C dX5_hands_146 (pc' := 147) rfl rfl rfl ?_
      refine z_bipush C dX5_hands_147 (pc' := 149) rfl (v := 16) (by decide) ?_
      refine z_icmp_ge (tgt := 181) C dX5_hands_149 (pc' := 152) (by decide) rfl (fun c_149 => ?_) (fun c_149 => ?_)
      ·
        have n_149 : 16 ≤ w := ge_of_le (N := 16) (k := w) c_149 (by omega) (by omega)
        obtain rfl : w = 16 := (by omega)
        refine z_iload_n C dX5_hands_181 (pc' := 182) rfl rfl rfl ?_
        exact z_zret C hM dX5_hands_182 (by rcases hi01 (hR2 (hR1 σ 16) n) 16 with h | h; exact Or.inr h.1; exact Or.inl h.1) ⟨rfl, hi01 (hR2 (hR1 σ 16) n) 16⟩
      ·
        have n_149 : w < 16 := lt_of_nle (N := 16) (k := w) c_149 (by omega) (by omega)
        refine z_iload_n C dX5_hands_152 (pc' := 153) rfl rfl rfl ?_
        refine z_aload_n C dX5_hands_153 (pc' := 154) rfl rfl rfl ?_
        refine z_get C hK (by decide) kR_0 rfl inAX5 (k := 18) (by decide) aw_470 rfl dX5_hands_154 (pc' := 157) rfl ?_
        refine z_iload_n C dX5_hands_157 (pc' := 158) rfl rfl rfl ?_
        refine z_iald C hK (by decide) kR_13 (t0 := 0) rfl (j := w) rfl (by omega) (by decide) rfl dX5_hands_158 (pc' := 159) rfl ?_
        refine z_aload_n C dX5_hands_159 (pc' := 160) rfl rfl rfl ?_
        refine z_get C hK (by decide) kR_0 rfl inAX5 (k := 19) (by decide) aw_471 rfl dX5_hands_160 (pc' := 163) rfl ?_
        refine z_iload_n C dX5_hands_163 (pc' := 164) rfl rfl rfl ?_
        refine z_iald C hK (by decide) kR_14 (t0 := 0) rfl (j := w) rfl (by omega) (by decide) rfl dX5_hands_164 (pc' := 165) rfl ?_
        refine z_ternE (J := 173) (if hR2 (hR1 σ 16) n 15 w ≤ hR2 (hR1 σ 16) n 16 w then 1 else 0) 2 ?_ ?_
        ·
          try dsimp only [List.drop]
          refine z_iand C dX5_hands_173 (pc' := 174) rfl rfl ?_
          refine z_istore_n (L' := [.ref _, .int _, .int _]) C dX5_hands_174 (pc' := 175) rfl rfl (by decide) (Nat.le_of_ble_eq_true rfl) rfl ?_
          refine z_iinc (L' := [.ref _, .int _, .int _]) C dX5_hands_175 (pc' := 178) rfl rfl (iinc1 _) (by decide) (Nat.le_of_ble_eq_true rfl) rfl ?_
          refine z_goto C dX5_hands_178 (pc' := 146) (by decide) ?_
          exact z_back 3 (ih146 (w + 1) (by omega) (by omega)) rfl rfl
        · intro hj_173
          refine z_icmp_gt (tgt := 172) C dX5_hands_165 (pc' := 168) (by decide) rfl (fun c_165 => ?_) (fun c_165 => ?_)
          ·
            refine z_iconst C dX5_hands_172 (pc' := 173) rfl (v := 0) (by decide) ?_
            exact hj_173 _ (by first | exact (if_pos (i32_nlt c_165)).symm | exact (if_neg (i32_nle c_165)).symm)
          ·
            refine z_iconst C dX5_hands_168 (pc' := 169) rfl (v := 1) (by decide) ?_
            refine z_goto C dX5_hands_169 (pc' := 173) (by decide) ?_
            exact hj_173 _ (by first | exact (if_pos (i32_nlt c_165)).symm | exact (if_neg (i32_nle c_165)).symm)
    ·
      have n_37 : i < n := lt_of_nle (N := n) (k := i) c_37 (by omega) (by omega)
      refine z_aload_n C dX5_hands_40 (pc' := 41) rfl rfl rfl ?_
      refine z_get C hK (by decide) kR_0 rfl inAX5 (k := 16) (by decide) aw_468 rfl dX5_hands_41 (pc' := 44) rfl ?_
      refine z_iload_n C dX5_hands_44 (pc' := 45) rfl rfl rfl ?_
      refine z_iald C hK (by decide) kR_11 (t0 := 0) rfl (j := i) rfl (by omega) (by decide) rfl dX5_hands_45 (pc' := 46) rfl ?_
      refine z_if_ne (tgt := 136) C dX5_hands_46 (pc' := 49) (by decide) rfl (fun c_46 => ?_) (fun c_46 => ?_)
      ·
        refine z_iinc (L' := [.ref _, .int _]) C dX5_hands_136 (pc' := 139) rfl rfl (iinc1 _) (by decide) (Nat.le_of_ble_eq_true rfl) rfl ?_
        refine z_goto C dX5_hands_139 (pc' := 32) (by decide) ?_
        exact z_back 2 (ih32 (i + 1) (by omega) (by omega)) (by rw [hR2]; first | (rw [if_pos c_46, show wn ((hR1 σ 16) 7 i) = w from (by rw [hR1_o (by decide) (by decide)]; exact wn_of ew hw)]; rfl) | rw [if_neg c_46]) rfl
      ·
        obtain ⟨w, hw, ew⟩ := hT i (by omega)
        have ew2 : (hR2 (hR1 σ 16) i) 7 i = nI w := (congrFun (hR2_o (by decide) (by decide) i) i).trans ((congrFun (hR1_o (by decide) (by decide) 16) i).trans ew)
        refine z_aload_n C dX5_hands_49 (pc' := 50) rfl rfl rfl ?_
        refine z_get C hK (by decide) kR_0 rfl inAX5 (k := 15) (by decide) aw_467 rfl dX5_hands_50 (pc' := 53) rfl ?_
        refine z_iload_n C dX5_hands_53 (pc' := 54) rfl rfl rfl ?_
        refine z_iald C hK (by decide) kR_10 (t0 := 0) rfl (j := i) rfl (by omega) (by decide) rfl dX5_hands_54 (pc' := 55) rfl ?_
        refine z_top (y := nI w) ew2 ?_
        refine z_istore_n (L' := [.ref _, .int _, .int _]) C dX5_hands_55 (pc' := 56) rfl rfl (by decide) (Nat.le_of_ble_eq_true rfl) rfl ?_
        refine z_aload_n C dX5_hands_56 (pc' := 57) rfl rfl rfl ?_
        refine z_get C hK (by decide) kR_0 rfl inAX5 (k := 18) (by decide) aw_470 rfl dX5_hands_57 (pc' := 60) rfl ?_
        refine z_iload_n C dX5_hands_60 (pc' := 61) rfl rfl rfl ?_
        refine z_aload_n C dX5_hands_61 (pc' := 62) rfl rfl rfl ?_
        refine z_get C hK (by decide) kR_0 rfl inAX5 (k := 17) (by decide) aw_469 rfl dX5_hands_62 (pc' := 65) rfl ?_
        refine z_iload_n C dX5_hands_65 (pc' := 66) rfl rfl rfl ?_
        refine z_iald C hK (by decide) kR_12 (t0 := 0) rfl (j := i) rfl (by omega) (by decide) rfl dX5_hands_66 (pc' := 67) rfl ?_
        refine z_iconst C dX5_hands_67 (pc' := 68) rfl (v := 2) (by decide) ?_
        refine z_isub C dX5_hands_68 (pc' := 69) rfl rfl ?_
        refine z_aload_n C dX5_hands_69 (pc' := 70) rfl rfl rfl ?_
        refine z_get C hK (by decide) kR_0 rfl inAX5 (k := 18) (by decide) aw_470 rfl dX5_hands_70 (pc' := 73) rfl ?_
        refine z_iload_n C dX5_hands_73 (pc' := 74) rfl rfl rfl ?_
        refine z_iald C hK (by decide) kR_13 (t0 := 0) rfl (j := w) rfl (by omega) (by decide) rfl dX5_hands_74 (pc' := 75) rfl ?_
        refine z_ternE (J := 95) (mx ((hR2 (hR1 σ 16) i) 15 w) ((hR2 (hR1 σ 16) i) 9 i - 2)) 2 ?_ ?_
        ·
          try dsimp only [List.drop]
          refine z_iast C hK hI AdS_in (by decide) kR_13 sR_a13 oR_a13 (t0 := 0) rfl (j := w) rfl (by omega) (by decide) dX5_hands_95 (pc' := 96) rfl ?_
          refine z_aload_n C dX5_hands_96 (pc' := 97) rfl rfl rfl ?_
          refine z_get C hK (by decide) kR_0 rfl inAX5 (k := 19) (by decide) aw_471 rfl dX5_hands_97 (pc' := 100) rfl ?_
          refine z_iload_n C dX5_hands_100 (pc' := 101) rfl rfl rfl ?_
          refine z_aload_n C dX5_hands_101 (pc' := 102) rfl rfl rfl ?_
          refine z_get C hK (by decide) kR_0 rfl inAX5 (k := 17) (by decide) aw_469 rfl dX5_hands_102 (pc' := 105) rfl ?_
          refine z_iload_n C dX5_hands_105 (pc' := 106) rfl rfl rfl ?_
          refine z_iald C hK (by decide) kR_12 (t0 := 0) rfl (j := i) rfl (by omega) (by decide) rfl dX5_hands_106 (pc' := 107) rfl ?_
          refine z_iconst C dX5_hands_107 (pc' := 108) rfl (v := 2) (by decide) ?_
          refine z_iadd C dX5_hands_108 (pc' := 109) rfl rfl ?_
          refine z_aload_n C dX5_hands_109 (pc' := 110) rfl rfl rfl ?_
          refine z_get C hK (by decide) kR_0 rfl inAX5 (k := 19) (by decide) aw_471 rfl dX5_hands_110 (pc' := 113) rfl ?_
          refine z_iload_n C dX5_hands_113 (pc' := 114) rfl rfl rfl ?_
          refine z_iald C hK (by decide) kR_14 (t0 := 0) rfl (j := w) rfl (by omega) (by decide) rfl dX5_hands_114 (pc' := 115) rfl ?_
          refine z_ternE (J := 135) (mn (up2 (hR2 (hR1 σ 16) i) 15 w (mx ((hR2 (hR1 σ 16) i) 15 w) ((hR2 (hR1 σ 16) i) 9 i - 2)) 16 w) (up2 (hR2 (hR1 σ 16) i) 15 w (mx ((hR2 (hR1 σ 16) i) 15 w) ((hR2 (hR1 σ 16) i) 9 i - 2)) 9 i + 2)) 2 ?_ ?_
          ·
            try dsimp only [List.drop]
            refine z_iast C hK hI AdS_in (by decide) kR_14 sR_a14 oR_a14 (t0 := 0) rfl (j := w) rfl (by omega) (by decide) dX5_hands_135 (pc' := 136) rfl ?_
            refine z_iinc (L' := [.ref _, .int _, .int _]) C dX5_hands_136 (pc' := 139) rfl rfl (iinc1 _) (by decide) (Nat.le_of_ble_eq_true rfl) rfl ?_
            refine z_goto C dX5_hands_139 (pc' := 32) (by decide) ?_
            exact z_back 2 (ih32 (i + 1) (by omega) (by omega)) (by rw [hR2]; first | (rw [if_pos c_46, show wn ((hR1 σ 16) 7 i) = w from (by rw [hR1_o (by decide) (by decide)]; exact wn_of ew hw)]; rfl) | rw [if_neg c_46]) rfl
          · intro hj_135
            refine z_icmp_ge (tgt := 129) C dX5_hands_115 (pc' := 118) (by decide) rfl (fun c_115 => ?_) (fun c_115 => ?_)
            ·
              refine z_aload_n C dX5_hands_129 (pc' := 130) rfl rfl rfl ?_
              refine z_get C hK (by decide) kR_0 rfl inAX5 (k := 19) (by decide) aw_471 rfl dX5_hands_130 (pc' := 133) rfl ?_
              refine z_iload_n C dX5_hands_133 (pc' := 134) rfl rfl rfl ?_
              refine z_iald C hK (by decide) kR_14 (t0 := 0) rfl (j := w) rfl (by omega) (by decide) rfl dX5_hands_134 (pc' := 135) rfl ?_
              exact hj_135 _ (by first | exact mn_le2 c_115 | exact mn_gt2 c_115)
            ·
              refine z_aload_n C dX5_hands_118 (pc' := 119) rfl rfl rfl ?_
              refine z_get C hK (by decide) kR_0 rfl inAX5 (k := 17) (by decide) aw_469 rfl dX5_hands_119 (pc' := 122) rfl ?_
              refine z_iload_n C dX5_hands_122 (pc' := 123) rfl rfl rfl ?_
              refine z_iald C hK (by decide) kR_12 (t0 := 0) rfl (j := i) rfl (by omega) (by decide) rfl dX5_hands_123 (pc' := 124) rfl ?_
              refine z_iconst C dX5_hands_124 (pc' := 125) rfl (v := 2) (by decide) ?_
              refine z_iadd C dX5_hands_125 (pc' := 126) rfl rfl ?_
              refine z_goto C dX5_hands_126 (pc' := 135) (by decide) ?_
              exact hj_135 _ (by first | exact mn_le2 c_115 | exact mn_gt2 c_115)
        · intro hj_95
          refine z_icmp_le (tgt := 89) C dX5_hands_75 (pc' := 78) (by decide) rfl (fun c_75 => ?_) (fun c_75 => ?_)
          ·
            refine z_aload_n C dX5_hands_89 (pc' := 90) rfl rfl rfl ?_
            refine z_get C hK (by decide) kR_0 rfl inAX5 (k := 18) (by decide) aw_470 rfl dX5_hands_90 (pc' := 93) rfl ?_
            refine z_iload_n C dX5_hands_93 (pc' := 94) rfl rfl rfl ?_
            refine z_iald C hK (by decide) kR_13 (t0 := 0) rfl (j := w) rfl (by omega) (by decide) rfl dX5_hands_94 (pc' := 95) rfl ?_
            exact hj_95 _ (by first | exact mx_le c_75 | exact mx_gt c_75)
          ·
            refine z_aload_n C dX5_hands_78 (pc' := 79) rfl rfl rfl ?_
            refine z_get C hK (by decide) kR_0 rfl inAX5 (k := 17) (by decide) aw_469 rfl dX5_hands_79 (pc' := 82) rfl ?_
            refine z_iload_n C dX5_hands_82 (pc' := 83) rfl rfl rfl ?_
            refine z_iald C hK (by decide) kR_12 (t0 := 0) rfl (j := i) rfl (by omega) (by decide) rfl dX5_hands_83 (pc' := 84) rfl ?_
            refine z_iconst C dX5_hands_84 (pc' := 85) rfl (v := 2) (by decide) ?_
            refine z_isub C dX5_hands_85 (pc' := 86) rfl rfl ?_
            refine z_goto C dX5_hands_86 (pc' := 95) (by decide) ?_
            exact hj_95 _ (by first | exact mx_le c_75 | exact mx_gt c_75)
  ·
    have n_5 : i < 16 := lt_of_nle (N := 16) (k := i) c_5 (by omega) (by omega)
    refine z_aload_n C dX5_hands_8 (pc' := 9) rfl rfl rfl ?_
    refine z_get C hK (by decide) kR_0 rfl inAX5 (k := 18) (by decide) aw_470 rfl dX5_hands_9 (pc' := 12) rfl ?_
    refine z_iload_n C dX5_hands_12 (pc' := 13) rfl rfl rfl ?_
    refine z_ldc C dX5_hands_13 (pc' := 15) rfl aw_631 ?_
    refine z_iast C hK hI AdS_in (by decide) kR_13 sR_a13 oR_a13 (t0 := 0) rfl (j := i) rfl (by omega) (by decide) dX5_hands_15 (pc' := 16) rfl ?_
    refine z_aload_n C dX5_hands_16 (pc' := 17) rfl rfl rfl ?_
    refine z_get C hK (by decide) kR_0 rfl inAX5 (k := 19) (by decide) aw_471 rfl dX5_hands_17 (pc' := 20) rfl ?_
    refine z_iload_n C dX5_hands_20 (pc' := 21) rfl rfl rfl ?_
    refine z_ldc C dX5_hands_21 (pc' := 23) rfl aw_632 ?_
    refine z_iast C hK hI AdS_in (by decide) kR_14 sR_a14 oR_a14 (t0 := 0) rfl (j := i) rfl (by omega) (by decide) dX5_hands_23 (pc' := 24) rfl ?_
    refine z_iinc (L' := [.ref _, .int _]) C dX5_hands_24 (pc' := 27) rfl rfl (iinc1 _) (by decide) (Nat.le_of_ble_eq_true rfl) rfl ?_
    refine z_goto C dX5_hands_27 (pc' := 2) (by decide) ?_
    exact z_back 2 (ih2 (i + 1) (by omega) (by omega)) rfl rfl
set_option maxRecDepth 100000 in
set_option maxHeartbeats 400000 in
theorem m_X5_agree (l : Launch) {cA : ClassId} {D : va_G} {ad : Nat → Nat} (hI : Inj 17 ad) (σ : St) {n : Nat} (hn : n ≤ 20) (e5 : σ 0 5 = nI n) {w : Nat} (hw : w < 16) (o s1 : Int32) : CI l yX5_agree cX5_agree 6 .int 1 22 D [(cA, .int)] 17 ad (cellR cA ad) σ [.ref (ad 0), .int (nI w), .int o, .int s1] (fun r u => r = agR σ w o s1 n ∧ u = σ) := by
  refine CI_of (by decide +kernel) (Nat.le_of_ble_eq_true rfl) (by simp [Value.category]) ?_
  intro p e s m below meth c C hM hK
  refine z_iconst C dX5_agree_0 (pc' := 1) rfl (v := 0) (by decide) ?_
  refine z_istore (L' := [.ref _, .int _, .int _, .int _, .int _]) C dX5_agree_1 (pc' := 3) rfl (by decide) (Nat.le_of_ble_eq_true rfl) rfl ?_
  refine z_iconst C dX5_agree_3 (pc' := 4) rfl (v := 0) (by decide) ?_
  refine z_istore (L' := [.ref _, .int _, .int _, .int _, .int _, .int _]) C dX5_agree_4 (pc' := 6) rfl (by decide) (Nat.le_of_ble_eq_true rfl) rfl ?_
  refine z_loop (τ := Nat) (fun j => n - j) (fun j => j ≤ n) (fun j => σ) (fun j => [.ref (ad 0), .int (nI w), .int o, .int s1, .int (agR σ w o s1 j), .int (nI j)]) 0 (by omega) rfl ⟨_, rfl⟩ ?_
  intro j hj ih6
  try dsimp only at hj ih6 ⊢
  refine z_iload C dX5_agree_6 (pc' := 8) rfl rfl ?_
  refine z_aload_n C dX5_agree_8 (pc' := 9) rfl rfl rfl ?_
  refine z_get C hK (by decide) kR_0 rfl inAX5 (k := 14) (by decide) aw_466 rfl dX5_agree_9 (pc' := 12) rfl ?_
  refine z_top (y := nI n) e5 ?_
  refine z_icmp_ge (tgt := 73) C dX5_agree_12 (pc' := 15) (by decide) rfl (fun c_12 => ?_) (fun c_12 => ?_)
  ·
    have n_12 : n ≤ j := ge_of_le (N := n) (k := j) c_12 (by omega) (by omega)
    obtain rfl : n = j := (by omega)
    refine z_iload C dX5_agree_73 (pc' := 75) rfl rfl ?_
    exact z_iret C hM dX5_agree_75 ⟨rfl, rfl⟩
  ·
    have n_12 : j < n := lt_of_nle (N := n) (k := j) c_12 (by omega) (by omega)
    refine z_iload C dX5_agree_15 (pc' := 17) rfl rfl ?_
    refine z_aload_n C dX5_agree_17 (pc' := 18) rfl rfl rfl ?_
    refine z_get C hK (by decide) kR_0 rfl inAX5 (k := 15) (by decide) aw_467 rfl dX5_agree_18 (pc' := 21) rfl ?_
    refine z_iload C dX5_agree_21 (pc' := 23) rfl rfl ?_
    refine z_iald C hK (by decide) kR_10 (t0 := 0) rfl (j := j) rfl (by omega) (by decide) rfl dX5_agree_23 (pc' := 24) rfl ?_
    refine z_iload_n C dX5_agree_24 (pc' := 25) rfl rfl rfl ?_
    refine z_icmp_ne (tgt := 63) C dX5_agree_25 (pc' := 28) (by decide) rfl (fun c_25 => ?_) (fun c_25 => ?_)
    ·
      refine z_iconst C dX5_agree_63 (pc' := 64) rfl (v := 0) (by decide) ?_
      refine z_iadd C dX5_agree_64 (pc' := 65) rfl rfl ?_
      refine z_istore (L' := [.ref _, .int _, .int _, .int _, .int _, .int _]) C dX5_agree_65 (pc' := 67) rfl (by decide) (Nat.le_of_ble_eq_true rfl) rfl ?_
      refine z_iinc (L' := [.ref _, .int _, .int _, .int _, .int _, .int _]) C dX5_agree_67 (pc' := 70) rfl rfl (iinc1 _) (by decide) (Nat.le_of_ble_eq_true rfl) rfl ?_
      refine z_goto C dX5_agree_70 (pc' := 6) (by decide) ?_
      exact z_back 6 (ih6 (j + 1) (by omega) (by omega)) rfl (by simp only [List.take, agR]; first | (rw [if_pos]; exact ⟨c_25, c_36, h_53⟩) | (rw [if_neg]; exact fun q => h_53 q.2.2) | (rw [if_neg]; exact fun q => c_36 q.2.1) | (rw [if_neg]; exact fun q => c_25 q.1))
    ·
      refine z_aload_n C dX5_agree_28 (pc' := 29) rfl rfl rfl ?_
      refine z_get C hK (by decide) kR_0 rfl inAX5 (k := 16) (by decide) aw_468 rfl dX5_agree_29 (pc' := 32) rfl ?_
      refine z_iload C dX5_agree_32 (pc' := 34) rfl rfl ?_
      refine z_iald C hK (by decide) kR_11 (t0 := 0) rfl (j := j) rfl (by omega) (by decide) rfl dX5_agree_34 (pc' := 35) rfl ?_
      refine z_iconst C dX5_agree_35 (pc' := 36) rfl (v := 1) (by decide) ?_
      refine z_icmp_ne (tgt := 63) C dX5_agree_36 (pc' := 39) (by decide) rfl (fun c_36 => ?_) (fun c_36 => ?_)
      ·
        refine z_iconst C dX5_agree_63 (pc' := 64) rfl (v := 0) (by decide) ?_
        refine z_iadd C dX5_agree_64 (pc' := 65) rfl rfl ?_
        refine z_istore (L' := [.ref _, .int _, .int _, .int _, .int _, .int _]) C dX5_agree_65 (pc' := 67) rfl (by decide) (Nat.le_of_ble_eq_true rfl) rfl ?_
        refine z_iinc (L' := [.ref _, .int _, .int _, .int _, .int _, .int _]) C dX5_agree_67 (pc' := 70) rfl rfl (iinc1 _) (by decide) (Nat.le_of_ble_eq_true rfl) rfl ?_
        refine z_goto C dX5_agree_70 (pc' := 6) (by decide) ?_
        exact z_back 6 (ih6 (j + 1) (by omega) (by omega)) rfl (by simp only [List.take, agR]; first | (rw [if_pos]; exact ⟨c_25, c_36, h_53⟩) | (rw [if_neg]; exact fun q => h_53 q.2.2) | (rw [if_neg]; exact fun q => c_36 q.2.1) | (rw [if_neg]; exact fun q => c_25 q.1))
      ·
        refine z_aload_n C dX5_agree_39 (pc' := 40) rfl rfl rfl ?_
        refine z_get C hK (by decide) kR_0 rfl inAX5 (k := 17) (by decide) aw_469 rfl dX5_agree_40 (pc' := 43) rfl ?_
        refine z_iload C dX5_agree_43 (pc' := 45) rfl rfl ?_
        refine z_iald C hK (by decide) kR_12 (t0 := 0) rfl (j := j) rfl (by omega) (by decide) rfl dX5_agree_45 (pc' := 46) rfl ?_
        refine z_iload_n C dX5_agree_46 (pc' := 47) rfl rfl rfl ?_
        refine z_isub C dX5_agree_47 (pc' := 48) rfl rfl ?_
        refine z_iload_n C dX5_agree_48 (pc' := 49) rfl rfl rfl ?_
        refine z_isub C dX5_agree_49 (pc' := 50) rfl rfl ?_
        refine z_bipush C dX5_agree_50 (pc' := 52) rfl (v := (-5)) (by decide) ?_
        refine z_iconst C dX5_agree_52 (pc' := 53) rfl (v := 5) (by decide) ?_
        refine z_callS C (m_X5_in l _ _ _) stabP aw_529 aw_530 aw_32 aw_531 (nA := 3) (by decide +kernel) rfl ⟨Nat.le_of_ble_eq_true rfl, Nat.le_of_ble_eq_true rfl⟩ (rest := [_]) rfl (Nat.le_of_ble_eq_true rfl) ⟨Nat.zero_le _, Nat.zero_le _⟩ dX5_agree_53 (pc' := 56) rfl (fun r_53 h_53 => ?_)
        rcases h_53 with ⟨rfl, h_53⟩ | ⟨rfl, h_53⟩
        ·
          refine z_if_eq (tgt := 63) C dX5_agree_56 (pc' := 59) (by decide) rfl (fun q => absurd q (by decide)) (fun _ => ?_)
          refine z_iconst C dX5_agree_59 (pc' := 60) rfl (v := 1) (by decide) ?_
          refine z_goto C dX5_agree_60 (pc' := 64) (by decide) ?_
          refine z_iadd C dX5_agree_64 (pc' := 65) rfl rfl ?_
          refine z_istore (L' := [.ref _, .int _, .int _, .int _, .int _, .int _]) C dX5_agree_65 (pc' := 67) rfl (by decide) (Nat.le_of_ble_eq_true rfl) rfl ?_
          refine z_iinc (L' := [.ref _, .int _, .int _, .int _, .int _, .int _]) C dX5_agree_67 (pc' := 70) rfl rfl (iinc1 _) (by decide) (Nat.le_of_ble_eq_true rfl) rfl ?_
          refine z_goto C dX5_agree_70 (pc' := 6) (by decide) ?_
          exact z_back 6 (ih6 (j + 1) (by omega) (by omega)) rfl (by simp only [List.take, agR]; first | (rw [if_pos]; exact ⟨c_25, c_36, h_53⟩) | (rw [if_neg]; exact fun q => h_53 q.2.2) | (rw [if_neg]; exact fun q => c_36 q.2.1) | (rw [if_neg]; exact fun q => c_25 q.1))
        ·
          refine z_if_eq (tgt := 63) C dX5_agree_56 (pc' := 59) (by decide) rfl (fun _ => ?_) (fun q => absurd q (by decide))
          refine z_iconst C dX5_agree_63 (pc' := 64) rfl (v := 0) (by decide) ?_
          refine z_iadd C dX5_agree_64 (pc' := 65) rfl rfl ?_
          refine z_istore (L' := [.ref _, .int _, .int _, .int _, .int _, .int _]) C dX5_agree_65 (pc' := 67) rfl (by decide) (Nat.le_of_ble_eq_true rfl) rfl ?_
          refine z_iinc (L' := [.ref _, .int _, .int _, .int _, .int _, .int _]) C dX5_agree_67 (pc' := 70) rfl rfl (iinc1 _) (by decide) (Nat.le_of_ble_eq_true rfl) rfl ?_
          refine z_goto C dX5_agree_70 (pc' := 6) (by decide) ?_
          exact z_back 6 (ih6 (j + 1) (by omega) (by omega)) rfl (by simp only [List.take, agR]; first | (rw [if_pos]; exact ⟨c_25, c_36, h_53⟩) | (rw [if_neg]; exact fun q => h_53 q.2.2) | (rw [if_neg]; exact fun q => c_36 q.2.1) | (rw [if_neg]; exact fun q => c_25 q.1))
set_option maxRecDepth 100000 in
set_option maxHeartbeats 400000 in
theorem m_X5_leftOut (l : Launch) {cA : ClassId} {D : va_G} {ad : Nat → Nat} (hI : Inj 17 ad) (σ : St) {n : Nat} (hn : n ≤ 20) (e5 : σ 0 5 = nI n) (o : Int32) : CI l yX5_leftOut cX5_leftOut 9 .int 2 47 D [(cA, .int)] 17 ad (cellR cA ad) σ [.ref (ad 0), .int o] (fun r u => r = rOut σ o n 16 ∧ u = σ) := by
  refine CI_of (by decide +kernel) (Nat.le_of_ble_eq_true rfl) (by simp [Value.category]) ?_
  intro p e s m below meth c C hM hK
  refine z_iconst C dX5_leftOut_0 (pc' := 1) rfl (v := 0) (by decide) ?_
  refine z_istore_n (L' := [.ref _, .int _, .int _]) C dX5_leftOut_1 (pc' := 2) rfl rfl (by decide) (Nat.le_of_ble_eq_true rfl) rfl ?_
  refine z_iconst C dX5_leftOut_2 (pc' := 3) rfl (v := 0) (by decide) ?_
  refine z_istore_n (L' := [.ref _, .int _, .int _, .int _]) C dX5_leftOut_3 (pc' := 4) rfl rfl (by decide) (Nat.le_of_ble_eq_true rfl) rfl ?_
  refine z_loop (τ := Nat) (fun w => 16 - w) (fun w => w ≤ 16) (fun w => σ) (fun w => [.ref (ad 0), .int o, .int (rOut σ o n w), .int (nI w)]) 0 (by omega) rfl ⟨_, rfl⟩ ?_
  intro w hw ih4
  try dsimp only at hw ih4 ⊢
  refine z_iload_n C dX5_leftOut_4 (pc' := 5) rfl rfl rfl ?_
  refine z_bipush C dX5_leftOut_5 (pc' := 7) rfl (v := 16) (by decide) ?_
  refine z_icmp_ge (tgt := 151) C dX5_leftOut_7 (pc' := 10) (by decide) rfl (fun c_7 => ?_) (fun c_7 => ?_)
  ·
    have n_7 : 16 ≤ w := ge_of_le (N := 16) (k := w) c_7 (by omega) (by omega)
    obtain rfl : w = 16 := (by omega)
    refine z_iload_n C dX5_leftOut_151 (pc' := 152) rfl rfl rfl ?_
    exact z_iret C hM dX5_leftOut_152 ⟨rfl, rfl⟩
  ·
    have n_7 : w < 16 := lt_of_nle (N := 16) (k := w) c_7 (by omega) (by omega)
    refine z_iconst C dX5_leftOut_10 (pc' := 11) rfl (v := 0) (by decide) ?_
    refine z_istore (L' := [.ref _, .int _, .int _, .int _, .int _]) C dX5_leftOut_11 (pc' := 13) rfl (by decide) (Nat.le_of_ble_eq_true rfl) rfl ?_
    refine z_iconst C dX5_leftOut_13 (pc' := 14) rfl (v := 0) (by decide) ?_
    refine z_istore (L' := [.ref _, .int _, .int _, .int _, .int _, .int _]) C dX5_leftOut_14 (pc' := 16) rfl (by decide) (Nat.le_of_ble_eq_true rfl) rfl ?_
    refine z_iconst C dX5_leftOut_16 (pc' := 17) rfl (v := 0) (by decide) ?_
    refine z_istore (L' := [.ref _, .int _, .int _, .int _, .int _, .int _, .int _]) C dX5_leftOut_17 (pc' := 19) rfl (by decide) (Nat.le_of_ble_eq_true rfl) rfl ?_
    refine z_loop (τ := Nat) (fun j => n - j) (fun j => j ≤ n) (fun j => σ) (fun j => [.ref (ad 0), .int o, .int (rOut σ o n w), .int (nI w), .int (rIn σ w o n j).1, .int (rIn σ w o n j).2, .int (nI j)]) 0 (by omega) rfl ⟨_, rfl⟩ ?_
    intro j hj ih19
    try dsimp only at hj ih19 ⊢
    refine z_iload C dX5_leftOut_19 (pc' := 21) rfl rfl ?_
    refine z_aload_n C dX5_leftOut_21 (pc' := 22) rfl rfl rfl ?_
    refine z_get C hK (by decide) kR_0 rfl inAX5 (k := 14) (by decide) aw_466 rfl dX5_leftOut_22 (pc' := 25) rfl ?_
    refine z_top (y := nI n) e5 ?_
    refine z_icmp_ge (tgt := 137) C dX5_leftOut_25 (pc' := 28) (by decide) rfl (fun c_25 => ?_) (fun c_25 => ?_)
    ·
      have n_25 : n ≤ j := ge_of_le (N := n) (k := j) c_25 (by omega) (by omega)
      obtain rfl : n = j := (by omega)
      refine z_iload_n C dX5_leftOut_137 (pc' := 138) rfl rfl rfl ?_
      refine z_iload C dX5_leftOut_138 (pc' := 140) rfl rfl ?_
      refine z_iload C dX5_leftOut_140 (pc' := 142) rfl rfl ?_
      refine z_isub C dX5_leftOut_142 (pc' := 143) rfl rfl ?_
      refine z_iadd C dX5_leftOut_143 (pc' := 144) rfl rfl ?_
      refine z_istore_n (L' := [.ref _, .int _, .int _, .int _, .int _, .int _, .int _]) C dX5_leftOut_144 (pc' := 145) rfl rfl (by decide) (Nat.le_of_ble_eq_true rfl) rfl ?_
      refine z_iinc (L' := [.ref _, .int _, .int _, .int _, .int _, .int _, .int _]) C dX5_leftOut_145 (pc' := 148) rfl rfl (iinc1 _) (by decide) (Nat.le_of_ble_eq_true rfl) rfl ?_
      refine z_goto C dX5_leftOut_148 (pc' := 4) (by decide) ?_
      exact z_back 4 (ih4 (w + 1) (by omega) (by omega)) rfl rfl
    ·
      have n_25 : j < n := lt_of_nle (N := n) (k := j) c_25 (by omega) (by omega)
      refine z_aload_n C dX5_leftOut_28 (pc' := 29) rfl rfl rfl ?_
      refine z_get C hK (by decide) kR_0 rfl inAX5 (k := 15) (by decide) aw_467 rfl dX5_leftOut_29 (pc' := 32) rfl ?_
      refine z_iload C dX5_leftOut_32 (pc' := 34) rfl rfl ?_
      refine z_iald C hK (by decide) kR_10 (t0 := 0) rfl (j := j) rfl (by omega) (by decide) rfl dX5_leftOut_34 (pc' := 35) rfl ?_
      refine z_iload_n C dX5_leftOut_35 (pc' := 36) rfl rfl rfl ?_
      refine z_icmp_ne (tgt := 131) C dX5_leftOut_36 (pc' := 39) (by decide) rfl (fun c_36 => ?_) (fun c_36 => ?_)
      ·
        refine z_iinc (L' := [.ref _, .int _, .int _, .int _, .int _, .int _, .int _]) C dX5_leftOut_131 (pc' := 134) rfl rfl (iinc1 _) (by decide) (Nat.le_of_ble_eq_true rfl) rfl ?_
        refine z_goto C dX5_leftOut_134 (pc' := 19) (by decide) ?_
        exact z_back 7 (ih19 (j + 1) (by omega) (by omega)) rfl (by simp only [List.take]; first | (rw [show rIn σ w o n (j + 1) = _ from if_pos ⟨c_36, c_47⟩]; done) | (rw [show rIn σ w o n (j + 1) = _ from if_pos ⟨c_36, c_47⟩]; rfl) | (rw [show rIn σ w o n (j + 1) = rIn σ w o n j from if_neg (fun q => c_47 q.2)]; done) | (rw [show rIn σ w o n (j + 1) = rIn σ w o n j from if_neg (fun q => c_36 q.1)]; done))
      ·
        refine z_aload_n C dX5_leftOut_39 (pc' := 40) rfl rfl rfl ?_
        refine z_get C hK (by decide) kR_0 rfl inAX5 (k := 16) (by decide) aw_468 rfl dX5_leftOut_40 (pc' := 43) rfl ?_
        refine z_iload C dX5_leftOut_43 (pc' := 45) rfl rfl ?_
        refine z_iald C hK (by decide) kR_11 (t0 := 0) rfl (j := j) rfl (by omega) (by decide) rfl dX5_leftOut_45 (pc' := 46) rfl ?_
        refine z_iconst C dX5_leftOut_46 (pc' := 47) rfl (v := 1) (by decide) ?_
        refine z_icmp_ne (tgt := 131) C dX5_leftOut_47 (pc' := 50) (by decide) rfl (fun c_47 => ?_) (fun c_47 => ?_)
        ·
          refine z_iinc (L' := [.ref _, .int _, .int _, .int _, .int _, .int _, .int _]) C dX5_leftOut_131 (pc' := 134) rfl rfl (iinc1 _) (by decide) (Nat.le_of_ble_eq_true rfl) rfl ?_
          refine z_goto C dX5_leftOut_134 (pc' := 19) (by decide) ?_
          exact z_back 7 (ih19 (j + 1) (by omega) (by omega)) rfl (by simp only [List.take]; first | (rw [show rIn σ w o n (j + 1) = _ from if_pos ⟨c_36, c_47⟩]; done) | (rw [show rIn σ w o n (j + 1) = _ from if_pos ⟨c_36, c_47⟩]; rfl) | (rw [show rIn σ w o n (j + 1) = rIn σ w o n j from if_neg (fun q => c_47 q.2)]; done) | (rw [show rIn σ w o n (j + 1) = rIn σ w o n j from if_neg (fun q => c_36 q.1)]; done))
        ·
          refine z_iinc (L' := [.ref _, .int _, .int _, .int _, .int _, .int _, .int _]) C dX5_leftOut_50 (pc' := 53) rfl rfl (iincx _) (by decide) (Nat.le_of_ble_eq_true rfl) rfl ?_
          refine z_aload_n C dX5_leftOut_53 (pc' := 54) rfl rfl rfl ?_
          refine z_get C hK (by decide) kR_0 rfl inAX5 (k := 17) (by decide) aw_469 rfl dX5_leftOut_54 (pc' := 57) rfl ?_
          refine z_iload C dX5_leftOut_57 (pc' := 59) rfl rfl ?_
          refine z_iald C hK (by decide) kR_12 (t0 := 0) rfl (j := j) rfl (by omega) (by decide) rfl dX5_leftOut_59 (pc' := 60) rfl ?_
          refine z_iload_n C dX5_leftOut_60 (pc' := 61) rfl rfl rfl ?_
          refine z_isub C dX5_leftOut_61 (pc' := 62) rfl rfl ?_
          refine z_iconst C dX5_leftOut_62 (pc' := 63) rfl (v := 5) (by decide) ?_
          refine z_iadd C dX5_leftOut_63 (pc' := 64) rfl rfl ?_
          refine z_istore (L' := [.ref _, .int _, .int _, .int _, .int _, .int _, .int _, .int _]) C dX5_leftOut_64 (pc' := 66) rfl (by decide) (Nat.le_of_ble_eq_true rfl) rfl ?_
          refine z_iload C dX5_leftOut_66 (pc' := 68) rfl rfl ?_
          refine z_aload_n C dX5_leftOut_68 (pc' := 69) rfl rfl rfl ?_
          refine z_get C hK (by decide) kR_0 rfl inAX5 (k := 19) (by decide) aw_471 rfl dX5_leftOut_69 (pc' := 72) rfl ?_
          refine z_iload_n C dX5_leftOut_72 (pc' := 73) rfl rfl rfl ?_
          refine z_iald C hK (by decide) kR_14 (t0 := 0) rfl (j := w) rfl (by omega) (by decide) rfl dX5_leftOut_73 (pc' := 74) rfl ?_
          refine z_ternE (J := 88) (rS1 σ w o j) 2 ?_ ?_
          ·
            try dsimp only [List.drop]
            refine z_istore (L' := [.ref _, .int _, .int _, .int _, .int _, .int _, .int _, .int _]) C dX5_leftOut_88 (pc' := 90) rfl (by decide) (Nat.le_of_ble_eq_true rfl) rfl ?_
            refine z_iload C dX5_leftOut_90 (pc' := 92) rfl rfl ?_
            refine z_aload_n C dX5_leftOut_92 (pc' := 93) rfl rfl rfl ?_
            refine z_get C hK (by decide) kR_0 rfl inAX5 (k := 18) (by decide) aw_470 rfl dX5_leftOut_93 (pc' := 96) rfl ?_
            refine z_iload_n C dX5_leftOut_96 (pc' := 97) rfl rfl rfl ?_
            refine z_iald C hK (by decide) kR_13 (t0 := 0) rfl (j := w) rfl (by omega) (by decide) rfl dX5_leftOut_97 (pc' := 98) rfl ?_
            refine z_ternE (J := 113) (rN1 σ w o n j) 2 ?_ ?_
            ·
              try dsimp only [List.drop]
              refine z_istore (L' := [.ref _, .int _, .int _, .int _, .int _, .int _, .int _, .int _, .int _]) C dX5_leftOut_113 (pc' := 115) rfl (by decide) (Nat.le_of_ble_eq_true rfl) rfl ?_
              refine z_iload C dX5_leftOut_115 (pc' := 117) rfl rfl ?_
              refine z_iload C dX5_leftOut_117 (pc' := 119) rfl rfl ?_
              refine z_ternE (J := 129) (if rN1 σ w o n j ≤ (rIn σ w o n j).1 then (rIn σ w o n j).1 else rN1 σ w o n j) 2 ?_ ?_
              ·
                try dsimp only [List.drop]
                refine z_istore (L' := [.ref _, .int _, .int _, .int _, .int _, .int _, .int _, .int _, .int _]) C dX5_leftOut_129 (pc' := 131) rfl (by decide) (Nat.le_of_ble_eq_true rfl) rfl ?_
                refine z_iinc (L' := [.ref _, .int _, .int _, .int _, .int _, .int _, .int _, .int _, .int _]) C dX5_leftOut_131 (pc' := 134) rfl rfl (iinc1 _) (by decide) (Nat.le_of_ble_eq_true rfl) rfl ?_
                refine z_goto C dX5_leftOut_134 (pc' := 19) (by decide) ?_
                exact z_back 7 (ih19 (j + 1) (by omega) (by omega)) rfl (by simp only [List.take]; first | (rw [show rIn σ w o n (j + 1) = _ from if_pos ⟨c_36, c_47⟩]; done) | (rw [show rIn σ w o n (j + 1) = _ from if_pos ⟨c_36, c_47⟩]; rfl) | (rw [show rIn σ w o n (j + 1) = rIn σ w o n j from if_neg (fun q => c_47 q.2)]; done) | (rw [show rIn σ w o n (j + 1) = rIn σ w o n j from if_neg (fun q => c_36 q.1)]; done))
              · intro hj_129
                refine z_icmp_le (tgt := 127) C dX5_leftOut_119 (pc' := 122) (by decide) rfl (fun c_119 => ?_) (fun c_119 => ?_)
                ·
                  refine z_iload C dX5_leftOut_127 (pc' := 129) rfl rfl ?_
                  exact hj_129 _ (by first | exact (if_pos c_119).symm | exact (if_neg c_119).symm)
                ·
                  refine z_iload C dX5_leftOut_122 (pc' := 124) rfl rfl ?_
                  refine z_goto C dX5_leftOut_124 (pc' := 129) (by decide) ?_
                  exact hj_129 _ (by first | exact (if_pos c_119).symm | exact (if_neg c_119).symm)
            · intro hj_113
              refine z_icmp_ge (tgt := 105) C dX5_leftOut_98 (pc' := 101) (by decide) rfl (fun c_98 => ?_) (fun c_98 => ?_)
              ·
                refine z_aload_n C dX5_leftOut_105 (pc' := 106) rfl rfl rfl ?_
                refine z_iload_n C dX5_leftOut_106 (pc' := 107) rfl rfl rfl ?_
                refine z_iload_n C dX5_leftOut_107 (pc' := 108) rfl rfl rfl ?_
                refine z_iload C dX5_leftOut_108 (pc' := 110) rfl rfl ?_
                refine z_callI C hK (m_X5_agree l hI _ (n := n) hn e5 (w := w) (by omega) _ _) AdS_in aw_638 aw_640 aw_24 aw_32 aw_641 (by decide) kR_0 rfl (nA := 3) (by decide +kernel) rfl ⟨Nat.le_of_ble_eq_true rfl, Nat.le_of_ble_eq_true rfl⟩ (rest := []) rfl (Nat.le_of_ble_eq_true rfl) ⟨Nat.zero_le _, Nat.zero_le _⟩ dX5_leftOut_110 (pc' := 113) rfl (fun r_110 u_110 h_110 => ?_)
                obtain ⟨hr_110, hu_110⟩ := h_110
                rw [hr_110, hu_110]
                exact hj_113 _ (by first | exact (if_neg c_98).symm | exact (if_pos c_98).symm)
              ·
                refine z_iconst C dX5_leftOut_101 (pc' := 102) rfl (v := 0) (by decide) ?_
                refine z_goto C dX5_leftOut_102 (pc' := 113) (by decide) ?_
                exact hj_113 _ (by first | exact (if_neg c_98).symm | exact (if_pos c_98).symm)
          · intro hj_88
            refine z_icmp_le (tgt := 86) C dX5_leftOut_74 (pc' := 77) (by decide) rfl (fun c_74 => ?_) (fun c_74 => ?_)
            ·
              refine z_iload C dX5_leftOut_86 (pc' := 88) rfl rfl ?_
              exact hj_88 _ (by first | exact (if_pos c_74).symm | exact (if_neg c_74).symm)
            ·
              refine z_aload_n C dX5_leftOut_77 (pc' := 78) rfl rfl rfl ?_
              refine z_get C hK (by decide) kR_0 rfl inAX5 (k := 19) (by decide) aw_471 rfl dX5_leftOut_78 (pc' := 81) rfl ?_
              refine z_iload_n C dX5_leftOut_81 (pc' := 82) rfl rfl rfl ?_
              refine z_iald C hK (by decide) kR_14 (t0 := 0) rfl (j := w) rfl (by omega) (by decide) rfl dX5_leftOut_82 (pc' := 83) rfl ?_
              refine z_goto C dX5_leftOut_83 (pc' := 88) (by decide) ?_
              exact hj_88 _ (by first | exact (if_pos c_74).symm | exact (if_neg c_74).symm)
set_option maxRecDepth 100000 in
set_option maxHeartbeats 400000 in
theorem m_X5_offset (l : Launch) {cA : ClassId} {D : va_G} {ad : Nat → Nat} (hI : Inj 17 ad) (σ : St) {n : Nat} (hn : n ≤ 20) (e5 : σ 0 5 = nI n) (hT : okT σ n) (q : Int32) : CI l yX5_offset cX5_offset 9 .int 3 75 D [(cA, .int)] 17 ad (cellR cA ad) σ [.ref (ad 0), .int q] (fun r u => (¬ inR q 0 3 ∧ r = -999999 ∧ u = σ) ∨ (inR q 0 3 ∧ u = (hR2 (hR1 σ 16) n) ∧ ∃ T : Nat, ((okH (hR2 (hR1 σ 16) n) 15 16 ∧ T = 401) ∨ (¬ okH (hR2 (hR1 σ 16) n) 15 16 ∧ T = 0)) ∧ r = if q = 0 then oF1 (hR2 (hR1 σ 16) n) n T else if q = 1 then oF2 (hR2 (hR1 σ 16) n) n T else if q = 2 then oF3 (hR2 (hR1 σ 16) n) n T else oF4 (hR2 (hR1 σ 16) n) n T)) := by
  refine CI_of (by decide +kernel) (Nat.le_of_ble_eq_true rfl) (by simp [Value.category]) ?_
  intro p e s m below meth c C hM hK
  refine z_aload_n C dX5_offset_0 (pc' := 1) rfl rfl rfl ?_
  refine z_iconst C dX5_offset_1 (pc' := 2) rfl (v := 0) (by decide) ?_
  refine z_put C hK hI AdS_in (by decide) kR_0 sR_th oR_th rfl inAX5 tyX5_ok nmX5 (k := 0) (by decide) aw_452 rfl (ty := .int) (by decide +kernel) rfl rfl (Nat.le_of_ble_eq_true rfl) dX5_offset_2 (pc' := 5) rfl ?_
  refine z_iload_n C dX5_offset_5 (pc' := 6) rfl rfl rfl ?_
  refine z_iconst C dX5_offset_6 (pc' := 7) rfl (v := 0) (by decide) ?_
  refine z_iconst C dX5_offset_7 (pc' := 8) rfl (v := 3) (by decide) ?_
  refine z_callS C (m_X5_in l _ _ _) stabP aw_529 aw_530 aw_32 aw_531 (nA := 3) (by decide +kernel) rfl ⟨Nat.le_of_ble_eq_true rfl, Nat.le_of_ble_eq_true rfl⟩ (rest := []) rfl (Nat.le_of_ble_eq_true rfl) ⟨Nat.zero_le _, Nat.zero_le _⟩ dX5_offset_8 (pc' := 11) rfl (fun r_8 h_8 => ?_)
  rcases h_8 with ⟨rfl, h_8⟩ | ⟨rfl, h_8⟩
  ·
    refine z_if_ne (tgt := 17) C dX5_offset_11 (pc' := 14) (by decide) rfl (fun _ => ?_) (fun q => absurd q (by decide))
    refine z_aload_n C dX5_offset_17 (pc' := 18) rfl rfl rfl ?_
    refine z_callI C hK (m_X5_hands l hI _ (n := n) hn e5 hT) AdS_in aw_627 aw_629 aw_22 aw_32 aw_630 (by decide) kR_0 rfl (nA := 0) (by decide +kernel) rfl ⟨Nat.le_of_ble_eq_true rfl, Nat.le_of_ble_eq_true rfl⟩ (rest := []) rfl (Nat.le_of_ble_eq_true rfl) ⟨Nat.zero_le _, Nat.zero_le _⟩ dX5_offset_18 (pc' := 21) rfl (fun r_18 u_18 h_18 => ?_)
    obtain ⟨hu_18, h_18⟩ := h_18
    subst hu_18
    rcases h_18 with ⟨rfl, h_18⟩ | ⟨rfl, h_18⟩
    ·
      refine z_istore_n (L' := [.ref _, .int _, .int _]) C dX5_offset_21 (pc' := 22) rfl rfl (by decide) (Nat.le_of_ble_eq_true rfl) rfl ?_
      refine z_ldc C dX5_offset_22 (pc' := 24) rfl aw_633 ?_
      refine z_istore_n (L' := [.ref _, .int _, .int _, .int _]) C dX5_offset_24 (pc' := 25) rfl rfl (by decide) (Nat.le_of_ble_eq_true rfl) rfl ?_
      refine z_ldc C dX5_offset_25 (pc' := 27) rfl aw_633 ?_
      refine z_istore (L' := [.ref _, .int _, .int _, .int _, .int _]) C dX5_offset_27 (pc' := 29) rfl (by decide) (Nat.le_of_ble_eq_true rfl) rfl ?_
      refine z_iconst C dX5_offset_29 (pc' := 30) rfl (v := 0) (by decide) ?_
      refine z_istore (L' := [.ref _, .int _, .int _, .int _, .int _, .int _]) C dX5_offset_30 (pc' := 32) rfl (by decide) (Nat.le_of_ble_eq_true rfl) rfl ?_
      refine z_bipush C dX5_offset_32 (pc' := 34) rfl (v := (-9)) (by decide) ?_
      refine z_istore (L' := [.ref _, .int _, .int _, .int _, .int _, .int _, .int _]) C dX5_offset_34 (pc' := 36) rfl (by decide) (Nat.le_of_ble_eq_true rfl) rfl ?_
      refine z_sipush C dX5_offset_36 (pc' := 39) rfl (v := (-200)) (by decide) ?_
      refine z_istore (L' := [.ref _, .int _, .int _, .int _, .int _, .int _, .int _, .int _]) C dX5_offset_39 (pc' := 41) rfl (by decide) (Nat.le_of_ble_eq_true rfl) rfl ?_
      refine z_loop (τ := Nat) (fun t => 401 - t) (fun t => t ≤ 401) (fun t => (hR2 (hR1 σ 16) n)) (fun t => [.ref (ad 0), .int q, .int 1, .int (oF1 (hR2 (hR1 σ 16) n) n t), .int (oF2 (hR2 (hR1 σ 16) n) n t), .int (oF3 (hR2 (hR1 σ 16) n) n t), .int (oF4 (hR2 (hR1 σ 16) n) n t), .int (oO t)]) 0 (by omega) rfl ⟨_, rfl⟩ ?_
      intro t ht ih41
      try dsimp only at ht ih41 ⊢
      refine z_iload C dX5_offset_41 (pc' := 43) rfl rfl ?_
      refine z_sipush C dX5_offset_43 (pc' := 46) rfl (v := 200) (by decide) ?_
      refine z_icmp_gt (tgt := 115) C dX5_offset_46 (pc' := 49) (by decide) rfl (fun c_46 => ?_) (fun c_46 => ?_)
      ·
        have h4 : ¬ t ≤ 400 := fun z => (oO_le (by omega)).mpr z c_46
        refine z_iload_n C dX5_offset_115 (pc' := 116) rfl rfl rfl ?_
        refine z_if_ne (tgt := 123) C dX5_offset_116 (pc' := 119) (by decide) rfl (fun c_116 => ?_) (fun c_116 => ?_)
        ·
          refine z_iload_n C dX5_offset_123 (pc' := 124) rfl rfl rfl ?_
          refine z_iconst C dX5_offset_124 (pc' := 125) rfl (v := 1) (by decide) ?_
          refine z_icmp_ne (tgt := 133) C dX5_offset_125 (pc' := 128) (by decide) rfl (fun c_125 => ?_) (fun c_125 => ?_)
          ·
            refine z_iload_n C dX5_offset_133 (pc' := 134) rfl rfl rfl ?_
            refine z_iconst C dX5_offset_134 (pc' := 135) rfl (v := 2) (by decide) ?_
            refine z_icmp_ne (tgt := 143) C dX5_offset_135 (pc' := 138) (by decide) rfl (fun c_135 => ?_) (fun c_135 => ?_)
            ·
              refine z_iload C dX5_offset_143 (pc' := 145) rfl rfl ?_
              exact z_iret C hM dX5_offset_145 (Or.inr ⟨by assumption, rfl, t, by first | exact Or.inl ⟨h_18, by omega⟩ | exact Or.inr ⟨h_18, by omega⟩, by first | exact (if_pos c_116).symm | rw [if_neg c_116, if_pos c_125] | rw [if_neg c_116, if_neg c_125, if_pos c_135] | rw [if_neg c_116, if_neg c_125, if_neg c_135]⟩)
            ·
              refine z_iload C dX5_offset_138 (pc' := 140) rfl rfl ?_
              refine z_goto C dX5_offset_140 (pc' := 145) (by decide) ?_
              exact z_iret C hM dX5_offset_145 (Or.inr ⟨by assumption, rfl, t, by first | exact Or.inl ⟨h_18, by omega⟩ | exact Or.inr ⟨h_18, by omega⟩, by first | exact (if_pos c_116).symm | rw [if_neg c_116, if_pos c_125] | rw [if_neg c_116, if_neg c_125, if_pos c_135] | rw [if_neg c_116, if_neg c_125, if_neg c_135]⟩)
          ·
            refine z_iload C dX5_offset_128 (pc' := 130) rfl rfl ?_
            refine z_goto C dX5_offset_130 (pc' := 145) (by decide) ?_
            exact z_iret C hM dX5_offset_145 (Or.inr ⟨by assumption, rfl, t, by first | exact Or.inl ⟨h_18, by omega⟩ | exact Or.inr ⟨h_18, by omega⟩, by first | exact (if_pos c_116).symm | rw [if_neg c_116, if_pos c_125] | rw [if_neg c_116, if_neg c_125, if_pos c_135] | rw [if_neg c_116, if_neg c_125, if_neg c_135]⟩)
        ·
          refine z_iload_n C dX5_offset_119 (pc' := 120) rfl rfl rfl ?_
          refine z_goto C dX5_offset_120 (pc' := 145) (by decide) ?_
          exact z_iret C hM dX5_offset_145 (Or.inr ⟨by assumption, rfl, t, by first | exact Or.inl ⟨h_18, by omega⟩ | exact Or.inr ⟨h_18, by omega⟩, by first | exact (if_pos c_116).symm | rw [if_neg c_116, if_pos c_125] | rw [if_neg c_116, if_neg c_125, if_pos c_135] | rw [if_neg c_116, if_neg c_125, if_neg c_135]⟩)
      ·
        have h4 : t ≤ 400 := (oO_le (by omega)).mp c_46
        refine z_iload_n C dX5_offset_49 (pc' := 50) rfl rfl rfl ?_
        refine z_if_eq (tgt := 115) C dX5_offset_50 (pc' := 53) (by decide) rfl (fun q => absurd q (by decide)) (fun _ => ?_)
        refine z_aload_n C dX5_offset_53 (pc' := 54) rfl rfl rfl ?_
        refine z_iload C dX5_offset_54 (pc' := 56) rfl rfl ?_
        refine z_callI C hK (m_X5_leftOut l hI _ (n := n) hn (by rw [hR2_o (by decide) (by decide), hR1_o (by decide) (by decide), e5]) _) AdS_in aw_634 aw_636 aw_23 aw_32 aw_637 (by decide) kR_0 rfl (nA := 1) (by decide +kernel) rfl ⟨Nat.le_of_ble_eq_true rfl, Nat.le_of_ble_eq_true rfl⟩ (rest := []) rfl (Nat.le_of_ble_eq_true rfl) ⟨Nat.zero_le _, Nat.zero_le _⟩ dX5_offset_56 (pc' := 59) rfl (fun r_56 u_56 h_56 => ?_)
        obtain ⟨hr_56, hu_56⟩ := h_56
        rw [hr_56, hu_56]
        refine z_top (y := oFn (hR2 (hR1 σ 16) n) n t) rfl ?_
        refine z_istore (L' := [.ref _, .int _, .int _, .int _, .int _, .int _, .int _, .int _, .int _]) C dX5_offset_59 (pc' := 61) rfl (by decide) (Nat.le_of_ble_eq_true rfl) rfl ?_
        refine z_iload C dX5_offset_61 (pc' := 63) rfl rfl ?_
        refine z_if_ne (tgt := 86) C dX5_offset_63 (pc' := 66) (by decide) rfl (fun c_63 => ?_) (fun c_63 => ?_)
        ·
          refine z_iload C dX5_offset_86 (pc' := 88) rfl rfl ?_
          refine z_bipush C dX5_offset_88 (pc' := 90) rfl (v := (-9)) (by decide) ?_
          refine z_ternE (J := 107) (if oF4 (hR2 (hR1 σ 16) n) n t = -9 then oFn (hR2 (hR1 σ 16) n) n t else if oF4 (hR2 (hR1 σ 16) n) n t ≤ oFn (hR2 (hR1 σ 16) n) n t then oF4 (hR2 (hR1 σ 16) n) n t else oFn (hR2 (hR1 σ 16) n) n t) 2 ?_ ?_
          ·
            try dsimp only [List.drop]
            refine z_istore (L' := [.ref _, .int _, .int _, .int _, .int _, .int _, .int _, .int _, .int _]) C dX5_offset_107 (pc' := 109) rfl (by decide) (Nat.le_of_ble_eq_true rfl) rfl ?_
            refine z_iinc (L' := [.ref _, .int _, .int _, .int _, .int _, .int _, .int _, .int _, .int _]) C dX5_offset_109 (pc' := 112) rfl rfl (v := oO (t + 1)) (oO_s (by omega)) (by decide) (Nat.le_of_ble_eq_true rfl) rfl ?_
            refine z_goto C dX5_offset_112 (pc' := 41) (by decide) ?_
            exact z_back 8 (ih41 (t + 1) (by omega) (by omega)) rfl (by first | (simp only [List.take, oF1, oF2, oF3, oF4, if_pos c_63]; done) | (simp only [List.take, oF1, oF2, oF3, oF4, if_neg c_63]; done))
          · intro hj_107
            refine z_icmp_eq (tgt := 100) C dX5_offset_90 (pc' := 93) (by decide) rfl (fun c_90 => ?_) (fun c_90 => ?_)
            ·
              refine z_iload C dX5_offset_100 (pc' := 102) rfl rfl ?_
              refine z_goto C dX5_offset_102 (pc' := 107) (by decide) ?_
              exact hj_107 _ (by first | exact (if_pos c_90).symm | rw [if_neg c_90, if_pos c_97] | rw [if_neg c_90, if_neg c_97])
            ·
              refine z_iload C dX5_offset_93 (pc' := 95) rfl rfl ?_
              refine z_iload C dX5_offset_95 (pc' := 97) rfl rfl ?_
              refine z_icmp_ge (tgt := 105) C dX5_offset_97 (pc' := 100) (by decide) rfl (fun c_97 => ?_) (fun c_97 => ?_)
              ·
                refine z_iload C dX5_offset_105 (pc' := 107) rfl rfl ?_
                exact hj_107 _ (by first | exact (if_pos c_90).symm | rw [if_neg c_90, if_pos c_97] | rw [if_neg c_90, if_neg c_97])
              ·
                refine z_iload C dX5_offset_100 (pc' := 102) rfl rfl ?_
                refine z_goto C dX5_offset_102 (pc' := 107) (by decide) ?_
                exact hj_107 _ (by first | exact (if_pos c_90).symm | rw [if_neg c_90, if_pos c_97] | rw [if_neg c_90, if_neg c_97])
        ·
          refine z_iload_n C dX5_offset_66 (pc' := 67) rfl rfl rfl ?_
          refine z_ldc C dX5_offset_67 (pc' := 69) rfl aw_633 ?_
          refine z_ternE (J := 78) (if oF1 (hR2 (hR1 σ 16) n) n t = -1000000 then oO t else oF1 (hR2 (hR1 σ 16) n) n t) 2 ?_ ?_
          ·
            try dsimp only [List.drop]
            refine z_istore_n (L' := [.ref _, .int _, .int _, .int _, .int _, .int _, .int _, .int _, .int _]) C dX5_offset_78 (pc' := 79) rfl rfl (by decide) (Nat.le_of_ble_eq_true rfl) rfl ?_
            refine z_iload C dX5_offset_79 (pc' := 81) rfl rfl ?_
            refine z_istore (L' := [.ref _, .int _, .int _, .int _, .int _, .int _, .int _, .int _, .int _]) C dX5_offset_81 (pc' := 83) rfl (by decide) (Nat.le_of_ble_eq_true rfl) rfl ?_
            refine z_iinc (L' := [.ref _, .int _, .int _, .int _, .int _, .int _, .int _, .int _, .int _]) C dX5_offset_83 (pc' := 86) rfl rfl (iincx _) (by decide) (Nat.le_of_ble_eq_true rfl) rfl ?_
            refine z_iload C dX5_offset_86 (pc' := 88) rfl rfl ?_
            refine z_bipush C dX5_offset_88 (pc' := 90) rfl (v := (-9)) (by decide) ?_
            refine z_ternE (J := 107) (if oF4 (hR2 (hR1 σ 16) n) n t = -9 then oFn (hR2 (hR1 σ 16) n) n t else if oF4 (hR2 (hR1 σ 16) n) n t ≤ oFn (hR2 (hR1 σ 16) n) n t then oF4 (hR2 (hR1 σ 16) n) n t else oFn (hR2 (hR1 σ 16) n) n t) 2 ?_ ?_
            ·
              try dsimp only [List.drop]
              refine z_istore (L' := [.ref _, .int _, .int _, .int _, .int _, .int _, .int _, .int _, .int _]) C dX5_offset_107 (pc' := 109) rfl (by decide) (Nat.le_of_ble_eq_true rfl) rfl ?_
              refine z_iinc (L' := [.ref _, .int _, .int _, .int _, .int _, .int _, .int _, .int _, .int _]) C dX5_offset_109 (pc' := 112) rfl rfl (v := oO (t + 1)) (oO_s (by omega)) (by decide) (Nat.le_of_ble_eq_true rfl) rfl ?_
              refine z_goto C dX5_offset_112 (pc' := 41) (by decide) ?_
              exact z_back 8 (ih41 (t + 1) (by omega) (by omega)) rfl (by first | (simp only [List.take, oF1, oF2, oF3, oF4, if_pos c_63]; done) | (simp only [List.take, oF1, oF2, oF3, oF4, if_neg c_63]; done))
            · intro hj_107
              refine z_icmp_eq (tgt := 100) C dX5_offset_90 (pc' := 93) (by decide) rfl (fun c_90 => ?_) (fun c_90 => ?_)
              ·
                refine z_iload C dX5_offset_100 (pc' := 102) rfl rfl ?_
                refine z_goto C dX5_offset_102 (pc' := 107) (by decide) ?_
                exact hj_107 _ (by first | exact (if_pos c_90).symm | rw [if_neg c_90, if_pos c_97] | rw [if_neg c_90, if_neg c_97])
              ·
                refine z_iload C dX5_offset_93 (pc' := 95) rfl rfl ?_
                refine z_iload C dX5_offset_95 (pc' := 97) rfl rfl ?_
                refine z_icmp_ge (tgt := 105) C dX5_offset_97 (pc' := 100) (by decide) rfl (fun c_97 => ?_) (fun c_97 => ?_)
                ·
                  refine z_iload C dX5_offset_105 (pc' := 107) rfl rfl ?_
                  exact hj_107 _ (by first | exact (if_pos c_90).symm | rw [if_neg c_90, if_pos c_97] | rw [if_neg c_90, if_neg c_97])
                ·
                  refine z_iload C dX5_offset_100 (pc' := 102) rfl rfl ?_
                  refine z_goto C dX5_offset_102 (pc' := 107) (by decide) ?_
                  exact hj_107 _ (by first | exact (if_pos c_90).symm | rw [if_neg c_90, if_pos c_97] | rw [if_neg c_90, if_neg c_97])
          · intro hj_78
            refine z_icmp_ne (tgt := 77) C dX5_offset_69 (pc' := 72) (by decide) rfl (fun c_69 => ?_) (fun c_69 => ?_)
            ·
              refine z_iload_n C dX5_offset_77 (pc' := 78) rfl rfl rfl ?_
              exact hj_78 _ (by first | exact (if_neg c_69).symm | exact (if_pos c_69).symm)
            ·
              refine z_iload C dX5_offset_72 (pc' := 74) rfl rfl ?_
              refine z_goto C dX5_offset_74 (pc' := 78) (by decide) ?_
              exact hj_78 _ (by first | exact (if_neg c_69).symm | exact (if_pos c_69).symm)
    ·
      refine z_istore_n (L' := [.ref _, .int _, .int _]) C dX5_offset_21 (pc' := 22) rfl rfl (by decide) (Nat.le_of_ble_eq_true rfl) rfl ?_
      refine z_ldc C dX5_offset_22 (pc' := 24) rfl aw_633 ?_
      refine z_istore_n (L' := [.ref _, .int _, .int _, .int _]) C dX5_offset_24 (pc' := 25) rfl rfl (by decide) (Nat.le_of_ble_eq_true rfl) rfl ?_
      refine z_ldc C dX5_offset_25 (pc' := 27) rfl aw_633 ?_
      refine z_istore (L' := [.ref _, .int _, .int _, .int _, .int _]) C dX5_offset_27 (pc' := 29) rfl (by decide) (Nat.le_of_ble_eq_true rfl) rfl ?_
      refine z_iconst C dX5_offset_29 (pc' := 30) rfl (v := 0) (by decide) ?_
      refine z_istore (L' := [.ref _, .int _, .int _, .int _, .int _, .int _]) C dX5_offset_30 (pc' := 32) rfl (by decide) (Nat.le_of_ble_eq_true rfl) rfl ?_
      refine z_bipush C dX5_offset_32 (pc' := 34) rfl (v := (-9)) (by decide) ?_
      refine z_istore (L' := [.ref _, .int _, .int _, .int _, .int _, .int _, .int _]) C dX5_offset_34 (pc' := 36) rfl (by decide) (Nat.le_of_ble_eq_true rfl) rfl ?_
      refine z_sipush C dX5_offset_36 (pc' := 39) rfl (v := (-200)) (by decide) ?_
      refine z_istore (L' := [.ref _, .int _, .int _, .int _, .int _, .int _, .int _, .int _]) C dX5_offset_39 (pc' := 41) rfl (by decide) (Nat.le_of_ble_eq_true rfl) rfl ?_
      refine z_loop (τ := Nat) (fun t => 401 - t) (fun t => t = 0) (fun t => (hR2 (hR1 σ 16) n)) (fun t => [.ref (ad 0), .int q, .int 0, .int (oF1 (hR2 (hR1 σ 16) n) n t), .int (oF2 (hR2 (hR1 σ 16) n) n t), .int (oF3 (hR2 (hR1 σ 16) n) n t), .int (oF4 (hR2 (hR1 σ 16) n) n t), .int (oO t)]) 0 (by omega) rfl ⟨_, rfl⟩ ?_
      intro t ht ih41
      try dsimp only at ht ih41 ⊢
      refine z_iload C dX5_offset_41 (pc' := 43) rfl rfl ?_
      refine z_sipush C dX5_offset_43 (pc' := 46) rfl (v := 200) (by decide) ?_
      refine z_icmp_gt (tgt := 115) C dX5_offset_46 (pc' := 49) (by decide) rfl (fun c_46 => ?_) (fun c_46 => ?_)
      ·
        have h4 : ¬ t ≤ 400 := fun z => (oO_le (by omega)).mpr z c_46
        refine z_iload_n C dX5_offset_115 (pc' := 116) rfl rfl rfl ?_
        refine z_if_ne (tgt := 123) C dX5_offset_116 (pc' := 119) (by decide) rfl (fun c_116 => ?_) (fun c_116 => ?_)
        ·
          refine z_iload_n C dX5_offset_123 (pc' := 124) rfl rfl rfl ?_
          refine z_iconst C dX5_offset_124 (pc' := 125) rfl (v := 1) (by decide) ?_
          refine z_icmp_ne (tgt := 133) C dX5_offset_125 (pc' := 128) (by decide) rfl (fun c_125 => ?_) (fun c_125 => ?_)
          ·
            refine z_iload_n C dX5_offset_133 (pc' := 134) rfl rfl rfl ?_
            refine z_iconst C dX5_offset_134 (pc' := 135) rfl (v := 2) (by decide) ?_
            refine z_icmp_ne (tgt := 143) C dX5_offset_135 (pc' := 138) (by decide) rfl (fun c_135 => ?_) (fun c_135 => ?_)
            ·
              refine z_iload C dX5_offset_143 (pc' := 145) rfl rfl ?_
              exact z_iret C hM dX5_offset_145 (Or.inr ⟨by assumption, rfl, t, by first | exact Or.inl ⟨h_18, by omega⟩ | exact Or.inr ⟨h_18, by omega⟩, by first | exact (if_pos c_116).symm | rw [if_neg c_116, if_pos c_125] | rw [if_neg c_116, if_neg c_125, if_pos c_135] | rw [if_neg c_116, if_neg c_125, if_neg c_135]⟩)
            ·
              refine z_iload C dX5_offset_138 (pc' := 140) rfl rfl ?_
              refine z_goto C dX5_offset_140 (pc' := 145) (by decide) ?_
              exact z_iret C hM dX5_offset_145 (Or.inr ⟨by assumption, rfl, t, by first | exact Or.inl ⟨h_18, by omega⟩ | exact Or.inr ⟨h_18, by omega⟩, by first | exact (if_pos c_116).symm | rw [if_neg c_116, if_pos c_125] | rw [if_neg c_116, if_neg c_125, if_pos c_135] | rw [if_neg c_116, if_neg c_125, if_neg c_135]⟩)
          ·
            refine z_iload C dX5_offset_128 (pc' := 130) rfl rfl ?_
            refine z_goto C dX5_offset_130 (pc' := 145) (by decide) ?_
            exact z_iret C hM dX5_offset_145 (Or.inr ⟨by assumption, rfl, t, by first | exact Or.inl ⟨h_18, by omega⟩ | exact Or.inr ⟨h_18, by omega⟩, by first | exact (if_pos c_116).symm | rw [if_neg c_116, if_pos c_125] | rw [if_neg c_116, if_neg c_125, if_pos c_135] | rw [if_neg c_116, if_neg c_125, if_neg c_135]⟩)
        ·
          refine z_iload_n C dX5_offset_119 (pc' := 120) rfl rfl rfl ?_
          refine z_goto C dX5_offset_120 (pc' := 145) (by decide) ?_
          exact z_iret C hM dX5_offset_145 (Or.inr ⟨by assumption, rfl, t, by first | exact Or.inl ⟨h_18, by omega⟩ | exact Or.inr ⟨h_18, by omega⟩, by first | exact (if_pos c_116).symm | rw [if_neg c_116, if_pos c_125] | rw [if_neg c_116, if_neg c_125, if_pos c_135] | rw [if_neg c_116, if_neg c_125, if_neg c_135]⟩)
      ·
        have h4 : t ≤ 400 := (oO_le (by omega)).mp c_46
        refine z_iload_n C dX5_offset_49 (pc' := 50) rfl rfl rfl ?_
        refine z_if_eq (tgt := 115) C dX5_offset_50 (pc' := 53) (by decide) rfl (fun _ => ?_) (fun q => absurd q (by decide))
        refine z_iload_n C dX5_offset_115 (pc' := 116) rfl rfl rfl ?_
        refine z_if_ne (tgt := 123) C dX5_offset_116 (pc' := 119) (by decide) rfl (fun c_116 => ?_) (fun c_116 => ?_)
        ·
          refine z_iload_n C dX5_offset_123 (pc' := 124) rfl rfl rfl ?_
          refine z_iconst C dX5_offset_124 (pc' := 125) rfl (v := 1) (by decide) ?_
          refine z_icmp_ne (tgt := 133) C dX5_offset_125 (pc' := 128) (by decide) rfl (fun c_125 => ?_) (fun c_125 => ?_)
          ·
            refine z_iload_n C dX5_offset_133 (pc' := 134) rfl rfl rfl ?_
            refine z_iconst C dX5_offset_134 (pc' := 135) rfl (v := 2) (by decide) ?_
            refine z_icmp_ne (tgt := 143) C dX5_offset_135 (pc' := 138) (by decide) rfl (fun c_135 => ?_) (fun c_135 => ?_)
            ·
              refine z_iload C dX5_offset_143 (pc' := 145) rfl rfl ?_
              exact z_iret C hM dX5_offset_145 (Or.inr ⟨by assumption, rfl, t, by first | exact Or.inl ⟨h_18, by omega⟩ | exact Or.inr ⟨h_18, by omega⟩, by first | exact (if_pos c_116).symm | rw [if_neg c_116, if_pos c_125] | rw [if_neg c_116, if_neg c_125, if_pos c_135] | rw [if_neg c_116, if_neg c_125, if_neg c_135]⟩)
            ·
              refine z_iload C dX5_offset_138 (pc' := 140) rfl rfl ?_
              refine z_goto C dX5_offset_140 (pc' := 145) (by decide) ?_
              exact z_iret C hM dX5_offset_145 (Or.inr ⟨by assumption, rfl, t, by first | exact Or.inl ⟨h_18, by omega⟩ | exact Or.inr ⟨h_18, by omega⟩, by first | exact (if_pos c_116).symm | rw [if_neg c_116, if_pos c_125] | rw [if_neg c_116, if_neg c_125, if_pos c_135] | rw [if_neg c_116, if_neg c_125, if_neg c_135]⟩)
          ·
            refine z_iload C dX5_offset_128 (pc' := 130) rfl rfl ?_
            refine z_goto C dX5_offset_130 (pc' := 145) (by decide) ?_
            exact z_iret C hM dX5_offset_145 (Or.inr ⟨by assumption, rfl, t, by first | exact Or.inl ⟨h_18, by omega⟩ | exact Or.inr ⟨h_18, by omega⟩, by first | exact (if_pos c_116).symm | rw [if_neg c_116, if_pos c_125] | rw [if_neg c_116, if_neg c_125, if_pos c_135] | rw [if_neg c_116, if_neg c_125, if_neg c_135]⟩)
        ·
          refine z_iload_n C dX5_offset_119 (pc' := 120) rfl rfl rfl ?_
          refine z_goto C dX5_offset_120 (pc' := 145) (by decide) ?_
          exact z_iret C hM dX5_offset_145 (Or.inr ⟨by assumption, rfl, t, by first | exact Or.inl ⟨h_18, by omega⟩ | exact Or.inr ⟨h_18, by omega⟩, by first | exact (if_pos c_116).symm | rw [if_neg c_116, if_pos c_125] | rw [if_neg c_116, if_neg c_125, if_pos c_135] | rw [if_neg c_116, if_neg c_125, if_neg c_135]⟩)
  ·
    refine z_if_ne (tgt := 17) C dX5_offset_11 (pc' := 14) (by decide) rfl (fun q => absurd q (by decide)) (fun _ => ?_)
    refine z_ldc C dX5_offset_14 (pc' := 16) rfl aw_626 ?_
    exact z_iret C hM dX5_offset_16 (Or.inl ⟨by assumption, rfl, rfl⟩)
