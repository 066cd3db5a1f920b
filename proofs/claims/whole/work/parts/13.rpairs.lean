
set_option maxRecDepth 100000 in
set_option maxHeartbeats 400000 in
theorem m_X5_pairs (l : Launch) {cA : ClassId} {D : va_G} {ad : Nat → Nat} (hI : Inj 17 ad) (σ : St) {n : Nat} (hn : n ≤ 8) (e4 : σ 0 4 = nI n) (q : Int32) : CI l yX5_pairs cX5_pairs 8 .int 1 22 D [(cA, .int)] 17 ad (cellR cA ad) σ [.ref (ad 0), .int q] (fun r u => (¬ inR q 0 1 ∧ r = -1 ∧ u = σ) ∨ (inR q 0 1 ∧ u = rsA σ n (2 ^ n - 1) ∧ r = if q = 0 then u 13 (2 ^ n - 1) else u 14 (2 ^ n - 1))) := by
  refine CI_of (by decide +kernel) (Nat.le_of_ble_eq_true rfl) (by simp [Value.category]) ?_
  intro p e s m below meth c C hM hK
  obtain ⟨M, hMn⟩ : ∃ M, M = 2 ^ n := ⟨_, rfl⟩
  have hM8 : M ≤ 256 := hMn ▸ pow8 hn
  have hM1 : 1 ≤ M := hMn ▸ Nat.two_pow_pos n
  refine z_aload_n C dX5_pairs_0 (pc' := 1) rfl rfl rfl ?_
  refine z_iconst C dX5_pairs_1 (pc' := 2) rfl (v := 0) (by decide) ?_
  refine z_put C hK hI AdS_in (by decide) kR_0 sR_th oR_th rfl inAX5 tyX5_ok nmX5 (k := 0) (by decide) aw_452 rfl (ty := .int) (by decide +kernel) rfl rfl (Nat.le_of_ble_eq_true rfl) dX5_pairs_2 (pc' := 5) rfl ?_
  refine z_iload_n C dX5_pairs_5 (pc' := 6) rfl rfl rfl ?_
  refine z_iconst C dX5_pairs_6 (pc' := 7) rfl (v := 0) (by decide) ?_
  refine z_iconst C dX5_pairs_7 (pc' := 8) rfl (v := 1) (by decide) ?_
  refine z_callS C (m_X5_in l _ _ _) stabP aw_529 aw_530 aw_32 aw_531 (nA := 3) (by decide +kernel) rfl ⟨Nat.le_of_ble_eq_true rfl, Nat.le_of_ble_eq_true rfl⟩ (rest := []) rfl (Nat.le_of_ble_eq_true rfl) ⟨Nat.zero_le _, Nat.zero_le _⟩ dX5_pairs_8 (pc' := 11) rfl (fun r_8 h_8 => ?_)
  rcases h_8 with ⟨rfl, h_8⟩ | ⟨rfl, h_8⟩
  ·
    refine z_if_ne (tgt := 16) C dX5_pairs_11 (pc' := 14) (by decide) rfl (fun _ => ?_) (fun q => absurd q (by decide))
    refine z_aload_n C dX5_pairs_16 (pc' := 17) rfl rfl rfl ?_
    refine z_get C hK (by decide) kR_0 rfl inAX5 (k := 12) (by decide) aw_464 rfl dX5_pairs_17 (pc' := 20) rfl ?_
    refine z_iconst C dX5_pairs_20 (pc' := 21) rfl (v := 0) (by decide) ?_
    refine z_iconst C dX5_pairs_21 (pc' := 22) rfl (v := 0) (by decide) ?_
    refine z_iast C hK hI AdS_in (by decide) kR_8 sR_a8 oR_a8 (t0 := 0) rfl (j := 0) rfl (by decide) (by decide) dX5_pairs_22 (pc' := 23) rfl ?_
    refine z_aload_n C dX5_pairs_23 (pc' := 24) rfl rfl rfl ?_
    refine z_get C hK (by decide) kR_0 rfl inAX5 (k := 13) (by decide) aw_465 rfl dX5_pairs_24 (pc' := 27) rfl ?_
    refine z_iconst C dX5_pairs_27 (pc' := 28) rfl (v := 0) (by decide) ?_
    refine z_iconst C dX5_pairs_28 (pc' := 29) rfl (v := 0) (by decide) ?_
    refine z_iast C hK hI AdS_in (by decide) kR_9 sR_a9 oR_a9 (t0 := 0) rfl (j := 0) rfl (by decide) (by decide) dX5_pairs_29 (pc' := 30) rfl ?_
    refine z_iconst C dX5_pairs_30 (pc' := 31) rfl (v := 1) (by decide) ?_
    refine z_istore_n (L' := [.ref _, .int _, .int _]) C dX5_pairs_31 (pc' := 32) rfl rfl (by decide) (Nat.le_of_ble_eq_true rfl) rfl ?_
    refine z_loop (τ := Nat) (fun g => M - g) (fun g => g + 1 ≤ M) (fun g => rsA σ n g) (fun g => [.ref (ad 0), .int q, .int (nI (g + 1))]) 0 (by omega) rfl ⟨_, rfl⟩ ?_
    intro g hg ih32
    try dsimp only at hg ih32 ⊢
    refine z_iload_n C dX5_pairs_32 (pc' := 33) rfl rfl rfl ?_
    refine z_iconst C dX5_pairs_33 (pc' := 34) rfl (v := 1) (by decide) ?_
    refine z_aload_n C dX5_pairs_34 (pc' := 35) rfl rfl rfl ?_
    refine z_get C hK (by decide) kR_0 rfl inAX5 (k := 10) (by decide) aw_462 rfl dX5_pairs_35 (pc' := 38) rfl ?_
    refine z_top (y := nI n) (by rw [rsA_o (by decide) (by decide), e4]) ?_
    refine z_ishl C dX5_pairs_38 (pc' := 39) rfl (z := nI M) (by rw [shl1 hn, hMn]) ?_
    refine z_icmp_ge (tgt := 299) C dX5_pairs_39 (pc' := 42) (by decide) rfl (fun c_39 => ?_) (fun c_39 => ?_)
    ·
      have n_39 : M ≤ (g + 1) := ge_of_le (N := M) (k := (g + 1)) c_39 (by omega) (by omega)
      obtain rfl : g = M - 1 := (by omega)
      refine z_iconst C dX5_pairs_299 (pc' := 300) rfl (v := 1) (by decide) ?_
      refine z_aload_n C dX5_pairs_300 (pc' := 301) rfl rfl rfl ?_
      refine z_get C hK (by decide) kR_0 rfl inAX5 (k := 10) (by decide) aw_462 rfl dX5_pairs_301 (pc' := 304) rfl ?_
      refine z_top (y := nI n) (by rw [rsA_o (by decide) (by decide), e4]) ?_
      refine z_ishl C dX5_pairs_304 (pc' := 305) rfl (z := nI M) (by rw [shl1 hn, hMn]) ?_
      refine z_iconst C dX5_pairs_305 (pc' := 306) rfl (v := 1) (by decide) ?_
      refine z_isub C dX5_pairs_306 (pc' := 307) rfl (z := nI (M - 1)) (pk_sub (a := M) (b := 1) (by omega)) ?_
      refine z_istore_n (L' := [.ref _, .int _, .int _]) C dX5_pairs_307 (pc' := 308) rfl rfl (by decide) (Nat.le_of_ble_eq_true rfl) rfl ?_
      refine z_iload_n C dX5_pairs_308 (pc' := 309) rfl rfl rfl ?_
      refine z_if_ne (tgt := 321) C dX5_pairs_309 (pc' := 312) (by decide) rfl (fun c_309 => ?_) (fun c_309 => ?_)
      ·
        refine z_aload_n C dX5_pairs_321 (pc' := 322) rfl rfl rfl ?_
        refine z_get C hK (by decide) kR_0 rfl inAX5 (k := 13) (by decide) aw_465 rfl dX5_pairs_322 (pc' := 325) rfl ?_
        refine z_iload_n C dX5_pairs_325 (pc' := 326) rfl rfl rfl ?_
        refine z_iald C hK (by decide) kR_9 (t0 := 0) rfl (j := (M - 1)) rfl (by omega) (by decide) rfl dX5_pairs_326 (pc' := 327) rfl ?_
        exact z_iret C hM dX5_pairs_327 (Or.inr ⟨by assumption, by rw [hMn], by rw [← hMn]; first | exact (if_pos c_309).symm | exact (if_neg c_309).symm⟩)
      ·
        refine z_aload_n C dX5_pairs_312 (pc' := 313) rfl rfl rfl ?_
        refine z_get C hK (by decide) kR_0 rfl inAX5 (k := 12) (by decide) aw_464 rfl dX5_pairs_313 (pc' := 316) rfl ?_
        refine z_iload_n C dX5_pairs_316 (pc' := 317) rfl rfl rfl ?_
        refine z_iald C hK (by decide) kR_8 (t0 := 0) rfl (j := (M - 1)) rfl (by omega) (by decide) rfl dX5_pairs_317 (pc' := 318) rfl ?_
        refine z_goto C dX5_pairs_318 (pc' := 327) (by decide) ?_
        exact z_iret C hM dX5_pairs_327 (Or.inr ⟨by assumption, by rw [hMn], by rw [← hMn]; first | exact (if_pos c_309).symm | exact (if_neg c_309).symm⟩)
    ·
      have n_39 : (g + 1) < M := lt_of_nle (N := M) (k := (g + 1)) c_39 (by omega) (by omega)
      have hs : 0 < g + 1 := Nat.succ_pos g
      have hbit := bit_some n (g + 1) hs (by rw [← hMn]; omega)
      have hla := lastF_le (g + 1) n
      have hrt := rsF_lt (n := n) hs
      have hn1 : 1 ≤ n := by rcases Nat.eq_zero_or_pos n with z | z; (subst z; simp at hMn; omega); exact z
      refine z_iconst C dX5_pairs_42 (pc' := 43) rfl (v := 0) (by decide) ?_
      refine z_istore_n (L' := [.ref _, .int _, .int _, .int _]) C dX5_pairs_43 (pc' := 44) rfl rfl (by decide) (Nat.le_of_ble_eq_true rfl) rfl ?_
      refine z_iconst C dX5_pairs_44 (pc' := 45) rfl (v := 0) (by decide) ?_
      refine z_istore (L' := [.ref _, .int _, .int _, .int _, .int _]) C dX5_pairs_45 (pc' := 47) rfl (by decide) (Nat.le_of_ble_eq_true rfl) rfl ?_
      refine z_loop (τ := Nat) (fun k => n - k) (fun k => k ≤ n) (fun k => rsA σ n g) (fun k => [.ref (ad 0), .int q, .int (nI (g + 1)), .int (nI (lastF (g + 1) k)), .int (nI k)]) 0 (by omega) rfl ⟨_, rfl⟩ ?_
      intro k hk ih47
      try dsimp only at hk ih47 ⊢
      refine z_iload C dX5_pairs_47 (pc' := 49) rfl rfl ?_
      refine z_aload_n C dX5_pairs_49 (pc' := 50) rfl rfl rfl ?_
      refine z_get C hK (by decide) kR_0 rfl inAX5 (k := 10) (by decide) aw_462 rfl dX5_pairs_50 (pc' := 53) rfl ?_
      refine z_top (y := nI n) (by rw [rsA_o (by decide) (by decide), e4]) ?_
      refine z_icmp_ge (tgt := 79) C dX5_pairs_53 (pc' := 56) (by decide) rfl (fun c_53 => ?_) (fun c_53 => ?_)
      ·
        have n_53 : n ≤ k := ge_of_le (N := n) (k := k) c_53 (by omega) (by omega)
        obtain rfl : n = k := (by omega)
        refine z_iload_n C dX5_pairs_79 (pc' := 80) rfl rfl rfl ?_
        refine z_iconst C dX5_pairs_80 (pc' := 81) rfl (v := 1) (by decide) ?_
        refine z_iload_n C dX5_pairs_81 (pc' := 82) rfl rfl rfl ?_
        refine z_ishl C dX5_pairs_82 (pc' := 83) rfl (z := nI (2 ^ (lastF (g + 1) n))) (shl1 (by omega)) ?_
        refine z_isub C dX5_pairs_83 (pc' := 84) rfl (z := nI (rsF n (g + 1))) (pk_sub (bit_le hbit)) ?_
        refine z_istore (L' := [.ref _, .int _, .int _, .int _, .int _]) C dX5_pairs_84 (pc' := 86) rfl (by decide) (Nat.le_of_ble_eq_true rfl) rfl ?_
        refine z_aload_n C dX5_pairs_86 (pc' := 87) rfl rfl rfl ?_
        refine z_get C hK (by decide) kR_0 rfl inAX5 (k := 12) (by decide) aw_464 rfl dX5_pairs_87 (pc' := 90) rfl ?_
        refine z_iload_n C dX5_pairs_90 (pc' := 91) rfl rfl rfl ?_
        refine z_aload_n C dX5_pairs_91 (pc' := 92) rfl rfl rfl ?_
        refine z_get C hK (by decide) kR_0 rfl inAX5 (k := 12) (by decide) aw_464 rfl dX5_pairs_92 (pc' := 95) rfl ?_
        refine z_iload C dX5_pairs_95 (pc' := 97) rfl rfl ?_
        refine z_iald C hK (by decide) kR_8 (t0 := 0) rfl (j := (rsF n (g + 1))) rfl (by omega) (by decide) rfl dX5_pairs_97 (pc' := 98) rfl ?_
        refine z_iast C hK hI AdS_in (by decide) kR_8 sR_a8 oR_a8 (t0 := 0) rfl (j := (g + 1)) rfl (by omega) (by decide) dX5_pairs_98 (pc' := 99) rfl ?_
        refine z_aload_n C dX5_pairs_99 (pc' := 100) rfl rfl rfl ?_
        refine z_get C hK (by decide) kR_0 rfl inAX5 (k := 13) (by decide) aw_465 rfl dX5_pairs_100 (pc' := 103) rfl ?_
        refine z_iload_n C dX5_pairs_103 (pc' := 104) rfl rfl rfl ?_
        refine z_aload_n C dX5_pairs_104 (pc' := 105) rfl rfl rfl ?_
        refine z_get C hK (by decide) kR_0 rfl inAX5 (k := 13) (by decide) aw_465 rfl dX5_pairs_105 (pc' := 108) rfl ?_
        refine z_iload C dX5_pairs_108 (pc' := 110) rfl rfl ?_
        refine z_iald C hK (by decide) kR_9 (t0 := 0) rfl (j := (rsF n (g + 1))) rfl (by omega) (by decide) rfl dX5_pairs_110 (pc' := 111) rfl ?_
        refine z_iast C hK hI AdS_in (by decide) kR_9 sR_a9 oR_a9 (t0 := 0) rfl (j := (g + 1)) rfl (by omega) (by decide) dX5_pairs_111 (pc' := 112) rfl ?_
        refine z_iconst C dX5_pairs_112 (pc' := 113) rfl (v := 0) (by decide) ?_
        refine z_istore (L' := [.ref _, .int _, .int _, .int _, .int _, .int _]) C dX5_pairs_113 (pc' := 115) rfl (by decide) (Nat.le_of_ble_eq_true rfl) rfl ?_
        refine z_loop (τ := Nat) (fun k => (lastF (g + 1) n) - k) (fun k => k ≤ (lastF (g + 1) n)) (fun k => rsL (rsB n (rsA σ n g) (g + 1)) (g + 1) (rsF n (g + 1)) (lastF (g + 1) n) k) (fun k => [.ref (ad 0), .int q, .int (nI (g + 1)), .int (nI (lastF (g + 1) n)), .int (nI (rsF n (g + 1))), .int (nI k)]) 0 (Nat.zero_le _) rfl ⟨_, rfl⟩ ?_
        intro k hk ih115
        try dsimp only at hk ih115 ⊢
        refine z_iload C dX5_pairs_115 (pc' := 117) rfl rfl ?_
        refine z_iload_n C dX5_pairs_117 (pc' := 118) rfl rfl rfl ?_
        refine z_icmp_ge (tgt := 293) C dX5_pairs_118 (pc' := 121) (by decide) rfl (fun c_118 => ?_) (fun c_118 => ?_)
        ·
          have n_118 : (lastF (g + 1) n) ≤ k := ge_of_le (N := (lastF (g + 1) n)) (k := k) c_118 (by omega) (by omega)
          obtain rfl : k = (lastF (g + 1) n) := (by omega)
          refine z_iinc (L' := [.ref _, .int _, .int _, .int _, .int _, .int _]) C dX5_pairs_293 (pc' := 296) rfl rfl (iinc1 _) (by decide) (Nat.le_of_ble_eq_true rfl) rfl ?_
          refine z_goto C dX5_pairs_296 (pc' := 32) (by decide) ?_
          exact z_back 3 (ih32 (g + 1) (by omega) (by omega)) rfl rfl
        ·
          have n_118 : k < (lastF (g + 1) n) := lt_of_nle (N := (lastF (g + 1) n)) (k := k) c_118 (by omega) (by omega)
          refine z_aload_n C dX5_pairs_121 (pc' := 122) rfl rfl rfl ?_
          refine z_get C hK (by decide) kR_0 rfl inAX5 (k := 11) (by decide) aw_463 rfl dX5_pairs_122 (pc' := 125) rfl ?_
          refine z_iload C dX5_pairs_125 (pc' := 127) rfl rfl ?_
          refine z_iald C hK (by decide) kR_7 (t0 := 0) rfl (j := k) rfl (by omega) (by decide) rfl dX5_pairs_127 (pc' := 128) rfl ?_
          refine z_aload_n C dX5_pairs_128 (pc' := 129) rfl rfl rfl ?_
          refine z_get C hK (by decide) kR_0 rfl inAX5 (k := 11) (by decide) aw_463 rfl dX5_pairs_129 (pc' := 132) rfl ?_
          refine z_iload_n C dX5_pairs_132 (pc' := 133) rfl rfl rfl ?_
          refine z_iald C hK (by decide) kR_7 (t0 := 0) rfl (j := (lastF (g + 1) n)) rfl (by omega) (by decide) rfl dX5_pairs_133 (pc' := 134) rfl ?_
          refine z_ternE (J := 168) (ofF (rsL (rsB n (rsA σ n g) (g + 1)) (g + 1) (rsF n (g + 1)) (lastF (g + 1) n) k 6 k) (rsL (rsB n (rsA σ n g) (g + 1)) (g + 1) (rsF n (g + 1)) (lastF (g + 1) n) k 6 (lastF (g + 1) n))) 2 ?_ ?_
          ·
            try dsimp only [List.drop]
            refine z_istore (L' := [.ref _, .int _, .int _, .int _, .int _, .int _, .int _]) C dX5_pairs_168 (pc' := 170) rfl (by decide) (Nat.le_of_ble_eq_true rfl) rfl ?_
            refine z_iload C dX5_pairs_170 (pc' := 172) rfl rfl ?_
            refine z_iconst C dX5_pairs_172 (pc' := 173) rfl (v := 1) (by decide) ?_
            refine z_iload C dX5_pairs_173 (pc' := 175) rfl rfl ?_
            refine z_ishl C dX5_pairs_175 (pc' := 176) rfl (z := nI (2 ^ k)) (shl1 (by omega)) ?_
            refine z_isub C dX5_pairs_176 (pc' := 177) rfl rfl ?_
            refine z_istore (L' := [.ref _, .int _, .int _, .int _, .int _, .int _, .int _, .int _]) C dX5_pairs_177 (pc' := 179) rfl (by decide) (Nat.le_of_ble_eq_true rfl) rfl ?_
            refine z_iload C dX5_pairs_179 (pc' := 181) rfl rfl ?_
            refine z_iload C dX5_pairs_181 (pc' := 183) rfl rfl ?_
            refine z_ishr C dX5_pairs_183 (pc' := 184) rfl (z := nI ((rsF n (g + 1)) / 2 ^ k)) (shrK (by omega) (by omega)) ?_
            refine z_iconst C dX5_pairs_184 (pc' := 185) rfl (v := 1) (by decide) ?_
            refine z_iand C dX5_pairs_185 (pc' := 186) rfl (z := nI ((rsF n (g + 1)) / 2 ^ k % 2)) (and1 (div_lt31 (by omega))) ?_
            refine z_iconst C dX5_pairs_186 (pc' := 187) rfl (v := 1) (by decide) ?_
            refine z_icmp_ne (tgt := 287) C dX5_pairs_187 (pc' := 190) (by decide) rfl (fun c_187 => ?_) (fun c_187 => ?_)
            ·
              have n_187 : ¬ ((rsF n (g + 1)) / 2 ^ k % 2) = 1 := fun z9 => c_187 ((nI_eq (a := ((rsF n (g + 1)) / 2 ^ k % 2)) (b := 1) (by omega) (by omega)).mpr z9)
              refine z_iinc (L' := [.ref _, .int _, .int _, .int _, .int _, .int _, .int _, .int _]) C dX5_pairs_287 (pc' := 290) rfl rfl (iinc1 _) (by decide) (Nat.le_of_ble_eq_true rfl) rfl ?_
              refine z_goto C dX5_pairs_290 (pc' := 115) (by decide) ?_
              exact z_back 6 (ih115 (k + 1) (by omega) (by omega)) (by first | (rw [rsL, rst, if_neg]; (try rfl); exact (fun h => n_187 h.1)) | (rw [rsL, rst, if_neg]; (try rfl); exact (fun h => i32_nle c_198 h.2.1)) | (rw [rsL, rst, if_pos]; (try rfl); exact ⟨n_187, i32_nlt c_198, Or.inl c_216⟩) | (rw [rsL, rst, if_neg]; (try rfl); exact (fun h => h.2.2.elim c_216 (fun q => c_234 q.1))) | (rw [rsL, rst, if_neg]; (try rfl); exact (fun h => h.2.2.elim c_216 (fun q => i32_nle q.2 c_253))) | (rw [rsL, rst, if_pos]; (try rfl); exact ⟨n_187, i32_nlt c_198, Or.inr ⟨c_234, i32_nle2 c_253⟩⟩)) rfl
            ·
              have n_187 : ((rsF n (g + 1)) / 2 ^ k % 2) = 1 := (nI_eq (a := ((rsF n (g + 1)) / 2 ^ k % 2)) (b := 1) (by omega) (by omega)).mp c_187
              refine z_iload C dX5_pairs_190 (pc' := 192) rfl rfl ?_
              refine z_aload_n C dX5_pairs_192 (pc' := 193) rfl rfl rfl ?_
              refine z_get C hK (by decide) kR_0 rfl inAX5 (k := 8) (by decide) aw_460 rfl dX5_pairs_193 (pc' := 196) rfl ?_
              refine z_iconst C dX5_pairs_196 (pc' := 197) rfl (v := 0) (by decide) ?_
              refine z_iald C hK (by decide) kR_5 (t0 := 0) rfl (j := 0) rfl (by decide) (by decide) rfl dX5_pairs_197 (pc' := 198) rfl ?_
              refine z_icmp_gt (tgt := 287) C dX5_pairs_198 (pc' := 201) (by decide) rfl (fun c_198 => ?_) (fun c_198 => ?_)
              ·
                refine z_iinc (L' := [.ref _, .int _, .int _, .int _, .int _, .int _, .int _, .int _]) C dX5_pairs_287 (pc' := 290) rfl rfl (iinc1 _) (by decide) (Nat.le_of_ble_eq_true rfl) rfl ?_
                refine z_goto C dX5_pairs_290 (pc' := 115) (by decide) ?_
                exact z_back 6 (ih115 (k + 1) (by omega) (by omega)) (by first | (rw [rsL, rst, if_neg]; (try rfl); exact (fun h => n_187 h.1)) | (rw [rsL, rst, if_neg]; (try rfl); exact (fun h => i32_nle c_198 h.2.1)) | (rw [rsL, rst, if_pos]; (try rfl); exact ⟨n_187, i32_nlt c_198, Or.inl c_216⟩) | (rw [rsL, rst, if_neg]; (try rfl); exact (fun h => h.2.2.elim c_216 (fun q => c_234 q.1))) | (rw [rsL, rst, if_neg]; (try rfl); exact (fun h => h.2.2.elim c_216 (fun q => i32_nle q.2 c_253))) | (rw [rsL, rst, if_pos]; (try rfl); exact ⟨n_187, i32_nlt c_198, Or.inr ⟨c_234, i32_nle2 c_253⟩⟩)) rfl
              ·
                refine z_aload_n C dX5_pairs_201 (pc' := 202) rfl rfl rfl ?_
                refine z_get C hK (by decide) kR_0 rfl inAX5 (k := 12) (by decide) aw_464 rfl dX5_pairs_202 (pc' := 205) rfl ?_
                refine z_iload C dX5_pairs_205 (pc' := 207) rfl rfl ?_
                refine z_iald C hK (by decide) kR_8 (t0 := 0) rfl (j := ((rsF n (g + 1)) - 2 ^ k)) (pk_sub (bit_le n_187)) (Nat.lt_of_le_of_lt (Nat.sub_le _ _) (by omega)) (by decide) rfl dX5_pairs_207 (pc' := 208) rfl ?_
                refine z_iconst C dX5_pairs_208 (pc' := 209) rfl (v := 1) (by decide) ?_
                refine z_iadd C dX5_pairs_209 (pc' := 210) rfl rfl ?_
                refine z_aload_n C dX5_pairs_210 (pc' := 211) rfl rfl rfl ?_
                refine z_get C hK (by decide) kR_0 rfl inAX5 (k := 12) (by decide) aw_464 rfl dX5_pairs_211 (pc' := 214) rfl ?_
                refine z_iload_n C dX5_pairs_214 (pc' := 215) rfl rfl rfl ?_
                refine z_iald C hK (by decide) kR_8 (t0 := 0) rfl (j := (g + 1)) rfl (by omega) (by decide) rfl dX5_pairs_215 (pc' := 216) rfl ?_
                refine z_icmp_gt (tgt := 256) C dX5_pairs_216 (pc' := 219) (by decide) rfl (fun c_216 => ?_) (fun c_216 => ?_)
                ·
                  refine z_aload_n C dX5_pairs_256 (pc' := 257) rfl rfl rfl ?_
                  refine z_get C hK (by decide) kR_0 rfl inAX5 (k := 12) (by decide) aw_464 rfl dX5_pairs_257 (pc' := 260) rfl ?_
                  refine z_iload_n C dX5_pairs_260 (pc' := 261) rfl rfl rfl ?_
                  refine z_aload_n C dX5_pairs_261 (pc' := 262) rfl rfl rfl ?_
                  refine z_get C hK (by decide) kR_0 rfl inAX5 (k := 12) (by decide) aw_464 rfl dX5_pairs_262 (pc' := 265) rfl ?_
                  refine z_iload C dX5_pairs_265 (pc' := 267) rfl rfl ?_
                  refine z_iald C hK (by decide) kR_8 (t0 := 0) rfl (j := ((rsF n (g + 1)) - 2 ^ k)) (pk_sub (bit_le n_187)) (Nat.lt_of_le_of_lt (Nat.sub_le _ _) (by omega)) (by decide) rfl dX5_pairs_267 (pc' := 268) rfl ?_
                  refine z_iconst C dX5_pairs_268 (pc' := 269) rfl (v := 1) (by decide) ?_
                  refine z_iadd C dX5_pairs_269 (pc' := 270) rfl rfl ?_
                  refine z_iast C hK hI AdS_in (by decide) kR_8 sR_a8 oR_a8 (t0 := 0) rfl (j := (g + 1)) rfl (by omega) (by decide) dX5_pairs_270 (pc' := 271) rfl ?_
                  refine z_aload_n C dX5_pairs_271 (pc' := 272) rfl rfl rfl ?_
                  refine z_get C hK (by decide) kR_0 rfl inAX5 (k := 13) (by decide) aw_465 rfl dX5_pairs_272 (pc' := 275) rfl ?_
                  refine z_iload_n C dX5_pairs_275 (pc' := 276) rfl rfl rfl ?_
                  refine z_aload_n C dX5_pairs_276 (pc' := 277) rfl rfl rfl ?_
                  refine z_get C hK (by decide) kR_0 rfl inAX5 (k := 13) (by decide) aw_465 rfl dX5_pairs_277 (pc' := 280) rfl ?_
                  refine z_iload C dX5_pairs_280 (pc' := 282) rfl rfl ?_
                  refine z_iald C hK (by decide) kR_9 (t0 := 0) rfl (j := ((rsF n (g + 1)) - 2 ^ k)) (pk_sub (bit_le n_187)) (Nat.lt_of_le_of_lt (Nat.sub_le _ _) (by omega)) (by decide) rfl dX5_pairs_282 (pc' := 283) rfl ?_
                  refine z_iload C dX5_pairs_283 (pc' := 285) rfl rfl ?_
                  refine z_iadd C dX5_pairs_285 (pc' := 286) rfl rfl ?_
                  refine z_iast C hK hI AdS_in (by decide) kR_9 sR_a9 oR_a9 (t0 := 0) rfl (j := (g + 1)) rfl (by omega) (by decide) dX5_pairs_286 (pc' := 287) rfl ?_
                  refine z_iinc (L' := [.ref _, .int _, .int _, .int _, .int _, .int _, .int _, .int _]) C dX5_pairs_287 (pc' := 290) rfl rfl (iinc1 _) (by decide) (Nat.le_of_ble_eq_true rfl) rfl ?_
                  refine z_goto C dX5_pairs_290 (pc' := 115) (by decide) ?_
                  exact z_back 6 (ih115 (k + 1) (by omega) (by omega)) (by first | (rw [rsL, rst, if_neg]; (try rfl); exact (fun h => n_187 h.1)) | (rw [rsL, rst, if_neg]; (try rfl); exact (fun h => i32_nle c_198 h.2.1)) | (rw [rsL, rst, if_pos]; (try rfl); exact ⟨n_187, i32_nlt c_198, Or.inl c_216⟩) | (rw [rsL, rst, if_neg]; (try rfl); exact (fun h => h.2.2.elim c_216 (fun q => c_234 q.1))) | (rw [rsL, rst, if_neg]; (try rfl); exact (fun h => h.2.2.elim c_216 (fun q => i32_nle q.2 c_253))) | (rw [rsL, rst, if_pos]; (try rfl); exact ⟨n_187, i32_nlt c_198, Or.inr ⟨c_234, i32_nle2 c_253⟩⟩)) rfl
                ·
                  refine z_aload_n C dX5_pairs_219 (pc' := 220) rfl rfl rfl ?_
                  refine z_get C hK (by decide) kR_0 rfl inAX5 (k := 12) (by decide) aw_464 rfl dX5_pairs_220 (pc' := 223) rfl ?_
                  refine z_iload C dX5_pairs_223 (pc' := 225) rfl rfl ?_
                  refine z_iald C hK (by decide) kR_8 (t0 := 0) rfl (j := ((rsF n (g + 1)) - 2 ^ k)) (pk_sub (bit_le n_187)) (Nat.lt_of_le_of_lt (Nat.sub_le _ _) (by omega)) (by decide) rfl dX5_pairs_225 (pc' := 226) rfl ?_
                  refine z_iconst C dX5_pairs_226 (pc' := 227) rfl (v := 1) (by decide) ?_
                  refine z_iadd C dX5_pairs_227 (pc' := 228) rfl rfl ?_
                  refine z_aload_n C dX5_pairs_228 (pc' := 229) rfl rfl rfl ?_
                  refine z_get C hK (by decide) kR_0 rfl inAX5 (k := 12) (by decide) aw_464 rfl dX5_pairs_229 (pc' := 232) rfl ?_
                  refine z_iload_n C dX5_pairs_232 (pc' := 233) rfl rfl rfl ?_
                  refine z_iald C hK (by decide) kR_8 (t0 := 0) rfl (j := (g + 1)) rfl (by omega) (by decide) rfl dX5_pairs_233 (pc' := 234) rfl ?_
                  refine z_icmp_ne (tgt := 287) C dX5_pairs_234 (pc' := 237) (by decide) rfl (fun c_234 => ?_) (fun c_234 => ?_)
                  ·
                    refine z_iinc (L' := [.ref _, .int _, .int _, .int _, .int _, .int _, .int _, .int _]) C dX5_pairs_287 (pc' := 290) rfl rfl (iinc1 _) (by decide) (Nat.le_of_ble_eq_true rfl) rfl ?_
                    refine z_goto C dX5_pairs_290 (pc' := 115) (by decide) ?_
                    exact z_back 6 (ih115 (k + 1) (by omega) (by omega)) (by first | (rw [rsL, rst, if_neg]; (try rfl); exact (fun h => n_187 h.1)) | (rw [rsL, rst, if_neg]; (try rfl); exact (fun h => i32_nle c_198 h.2.1)) | (rw [rsL, rst, if_pos]; (try rfl); exact ⟨n_187, i32_nlt c_198, Or.inl c_216⟩) | (rw [rsL, rst, if_neg]; (try rfl); exact (fun h => h.2.2.elim c_216 (fun q => c_234 q.1))) | (rw [rsL, rst, if_neg]; (try rfl); exact (fun h => h.2.2.elim c_216 (fun q => i32_nle q.2 c_253))) | (rw [rsL, rst, if_pos]; (try rfl); exact ⟨n_187, i32_nlt c_198, Or.inr ⟨c_234, i32_nle2 c_253⟩⟩)) rfl
                  ·
                    refine z_aload_n C dX5_pairs_237 (pc' := 238) rfl rfl rfl ?_
                    refine z_get C hK (by decide) kR_0 rfl inAX5 (k := 13) (by decide) aw_465 rfl dX5_pairs_238 (pc' := 241) rfl ?_
                    refine z_iload C dX5_pairs_241 (pc' := 243) rfl rfl ?_
                    refine z_iald C hK (by decide) kR_9 (t0 := 0) rfl (j := ((rsF n (g + 1)) - 2 ^ k)) (pk_sub (bit_le n_187)) (Nat.lt_of_le_of_lt (Nat.sub_le _ _) (by omega)) (by decide) rfl dX5_pairs_243 (pc' := 244) rfl ?_
                    refine z_iload C dX5_pairs_244 (pc' := 246) rfl rfl ?_
                    refine z_iadd C dX5_pairs_246 (pc' := 247) rfl rfl ?_
                    refine z_aload_n C dX5_pairs_247 (pc' := 248) rfl rfl rfl ?_
                    refine z_get C hK (by decide) kR_0 rfl inAX5 (k := 13) (by decide) aw_465 rfl dX5_pairs_248 (pc' := 251) rfl ?_
                    refine z_iload_n C dX5_pairs_251 (pc' := 252) rfl rfl rfl ?_
                    refine z_iald C hK (by decide) kR_9 (t0 := 0) rfl (j := (g + 1)) rfl (by omega) (by decide) rfl dX5_pairs_252 (pc' := 253) rfl ?_
                    refine z_icmp_ge (tgt := 287) C dX5_pairs_253 (pc' := 256) (by decide) rfl (fun c_253 => ?_) (fun c_253 => ?_)
                    ·
                      refine z_iinc (L' := [.ref _, .int _, .int _, .int _, .int _, .int _, .int _, .int _]) C dX5_pairs_287 (pc' := 290) rfl rfl (iinc1 _) (by decide) (Nat.le_of_ble_eq_true rfl) rfl ?_
                      refine z_goto C dX5_pairs_290 (pc' := 115) (by decide) ?_
                      exact z_back 6 (ih115 (k + 1) (by omega) (by omega)) (by first | (rw [rsL, rst, if_neg]; (try rfl); exact (fun h => n_187 h.1)) | (rw [rsL, rst, if_neg]; (try rfl); exact (fun h => i32_nle c_198 h.2.1)) | (rw [rsL, rst, if_pos]; (try rfl); exact ⟨n_187, i32_nlt c_198, Or.inl c_216⟩) | (rw [rsL, rst, if_neg]; (try rfl); exact (fun h => h.2.2.elim c_216 (fun q => c_234 q.1))) | (rw [rsL, rst, if_neg]; (try rfl); exact (fun h => h.2.2.elim c_216 (fun q => i32_nle q.2 c_253))) | (rw [rsL, rst, if_pos]; (try rfl); exact ⟨n_187, i32_nlt c_198, Or.inr ⟨c_234, i32_nle2 c_253⟩⟩)) rfl
                    ·
                      refine z_aload_n C dX5_pairs_256 (pc' := 257) rfl rfl rfl ?_
                      refine z_get C hK (by decide) kR_0 rfl inAX5 (k := 12) (by decide) aw_464 rfl dX5_pairs_257 (pc' := 260) rfl ?_
                      refine z_iload_n C dX5_pairs_260 (pc' := 261) rfl rfl rfl ?_
                      refine z_aload_n C dX5_pairs_261 (pc' := 262) rfl rfl rfl ?_
                      refine z_get C hK (by decide) kR_0 rfl inAX5 (k := 12) (by decide) aw_464 rfl dX5_pairs_262 (pc' := 265) rfl ?_
                      refine z_iload C dX5_pairs_265 (pc' := 267) rfl rfl ?_
                      refine z_iald C hK (by decide) kR_8 (t0 := 0) rfl (j := ((rsF n (g + 1)) - 2 ^ k)) (pk_sub (bit_le n_187)) (Nat.lt_of_le_of_lt (Nat.sub_le _ _) (by omega)) (by decide) rfl dX5_pairs_267 (pc' := 268) rfl ?_
                      refine z_iconst C dX5_pairs_268 (pc' := 269) rfl (v := 1) (by decide) ?_
                      refine z_iadd C dX5_pairs_269 (pc' := 270) rfl rfl ?_
                      refine z_iast C hK hI AdS_in (by decide) kR_8 sR_a8 oR_a8 (t0 := 0) rfl (j := (g + 1)) rfl (by omega) (by decide) dX5_pairs_270 (pc' := 271) rfl ?_
                      refine z_aload_n C dX5_pairs_271 (pc' := 272) rfl rfl rfl ?_
                      refine z_get C hK (by decide) kR_0 rfl inAX5 (k := 13) (by decide) aw_465 rfl dX5_pairs_272 (pc' := 275) rfl ?_
                      refine z_iload_n C dX5_pairs_275 (pc' := 276) rfl rfl rfl ?_
                      refine z_aload_n C dX5_pairs_276 (pc' := 277) rfl rfl rfl ?_
                      refine z_get C hK (by decide) kR_0 rfl inAX5 (k := 13) (by decide) aw_465 rfl dX5_pairs_277 (pc' := 280) rfl ?_
                      refine z_iload C dX5_pairs_280 (pc' := 282) rfl rfl ?_
                      refine z_iald C hK (by decide) kR_9 (t0 := 0) rfl (j := ((rsF n (g + 1)) - 2 ^ k)) (pk_sub (bit_le n_187)) (Nat.lt_of_le_of_lt (Nat.sub_le _ _) (by omega)) (by decide) rfl dX5_pairs_282 (pc' := 283) rfl ?_
                      refine z_iload C dX5_pairs_283 (pc' := 285) rfl rfl ?_
                      refine z_iadd C dX5_pairs_285 (pc' := 286) rfl rfl ?_
                      refine z_iast C hK hI AdS_in (by decide) kR_9 sR_a9 oR_a9 (t0 := 0) rfl (j := (g + 1)) rfl (by omega) (by decide) dX5_pairs_286 (pc' := 287) rfl ?_
                      refine z_iinc (L' := [.ref _, .int _, .int _, .int _, .int _, .int _, .int _, .int _]) C dX5_pairs_287 (pc' := 290) rfl rfl (iinc1 _) (by decide) (Nat.le_of_ble_eq_true rfl) rfl ?_
                      refine z_goto C dX5_pairs_290 (pc' := 115) (by decide) ?_
                      exact z_back 6 (ih115 (k + 1) (by omega) (by omega)) (by first | (rw [rsL, rst, if_neg]; (try rfl); exact (fun h => n_187 h.1)) | (rw [rsL, rst, if_neg]; (try rfl); exact (fun h => i32_nle c_198 h.2.1)) | (rw [rsL, rst, if_pos]; (try rfl); exact ⟨n_187, i32_nlt c_198, Or.inl c_216⟩) | (rw [rsL, rst, if_neg]; (try rfl); exact (fun h => h.2.2.elim c_216 (fun q => c_234 q.1))) | (rw [rsL, rst, if_neg]; (try rfl); exact (fun h => h.2.2.elim c_216 (fun q => i32_nle q.2 c_253))) | (rw [rsL, rst, if_pos]; (try rfl); exact ⟨n_187, i32_nlt c_198, Or.inr ⟨c_234, i32_nle2 c_253⟩⟩)) rfl
          · intro hj_168
            refine z_icmp_ge (tgt := 154) C dX5_pairs_134 (pc' := 137) (by decide) rfl (fun c_134 => ?_) (fun c_134 => ?_)
            ·
              refine z_aload_n C dX5_pairs_154 (pc' := 155) rfl rfl rfl ?_
              refine z_get C hK (by decide) kR_0 rfl inAX5 (k := 11) (by decide) aw_463 rfl dX5_pairs_155 (pc' := 158) rfl ?_
              refine z_iload C dX5_pairs_158 (pc' := 160) rfl rfl ?_
              refine z_iald C hK (by decide) kR_7 (t0 := 0) rfl (j := k) rfl (by omega) (by decide) rfl dX5_pairs_160 (pc' := 161) rfl ?_
              refine z_aload_n C dX5_pairs_161 (pc' := 162) rfl rfl rfl ?_
              refine z_get C hK (by decide) kR_0 rfl inAX5 (k := 11) (by decide) aw_463 rfl dX5_pairs_162 (pc' := 165) rfl ?_
              refine z_iload_n C dX5_pairs_165 (pc' := 166) rfl rfl rfl ?_
              refine z_iald C hK (by decide) kR_7 (t0 := 0) rfl (j := (lastF (g + 1) n)) rfl (by omega) (by decide) rfl dX5_pairs_166 (pc' := 167) rfl ?_
              refine z_isub C dX5_pairs_167 (pc' := 168) rfl rfl ?_
              exact hj_168 _ (by first | exact (if_pos c_134).symm | exact (if_neg c_134).symm)
            ·
              refine z_aload_n C dX5_pairs_137 (pc' := 138) rfl rfl rfl ?_
              refine z_get C hK (by decide) kR_0 rfl inAX5 (k := 11) (by decide) aw_463 rfl dX5_pairs_138 (pc' := 141) rfl ?_
              refine z_iload_n C dX5_pairs_141 (pc' := 142) rfl rfl rfl ?_
              refine z_iald C hK (by decide) kR_7 (t0 := 0) rfl (j := (lastF (g + 1) n)) rfl (by omega) (by decide) rfl dX5_pairs_142 (pc' := 143) rfl ?_
              refine z_aload_n C dX5_pairs_143 (pc' := 144) rfl rfl rfl ?_
              refine z_get C hK (by decide) kR_0 rfl inAX5 (k := 11) (by decide) aw_463 rfl dX5_pairs_144 (pc' := 147) rfl ?_
              refine z_iload C dX5_pairs_147 (pc' := 149) rfl rfl ?_
              refine z_iald C hK (by decide) kR_7 (t0 := 0) rfl (j := k) rfl (by omega) (by decide) rfl dX5_pairs_149 (pc' := 150) rfl ?_
              refine z_isub C dX5_pairs_150 (pc' := 151) rfl rfl ?_
              refine z_goto C dX5_pairs_151 (pc' := 168) (by decide) ?_
              exact hj_168 _ (by first | exact (if_pos c_134).symm | exact (if_neg c_134).symm)
      ·
        have n_53 : k < n := lt_of_nle (N := n) (k := k) c_53 (by omega) (by omega)
        refine z_iload_n C dX5_pairs_56 (pc' := 57) rfl rfl rfl ?_
        refine z_iload C dX5_pairs_57 (pc' := 59) rfl rfl ?_
        refine z_ishr C dX5_pairs_59 (pc' := 60) rfl (z := nI ((g + 1) / 2 ^ k)) (shrK (by omega) (by omega)) ?_
        refine z_iconst C dX5_pairs_60 (pc' := 61) rfl (v := 1) (by decide) ?_
        refine z_iand C dX5_pairs_61 (pc' := 62) rfl (z := nI ((g + 1) / 2 ^ k % 2)) (and1 (div_lt31 (by omega))) ?_
        refine z_iconst C dX5_pairs_62 (pc' := 63) rfl (v := 1) (by decide) ?_
        refine z_ternE (J := 72) (nI (lastF (g + 1) (k + 1))) 2 ?_ ?_
        ·
          try dsimp only [List.drop]
          refine z_istore_n (L' := [.ref _, .int _, .int _, .int _, .int _]) C dX5_pairs_72 (pc' := 73) rfl rfl (by decide) (Nat.le_of_ble_eq_true rfl) rfl ?_
          refine z_iinc (L' := [.ref _, .int _, .int _, .int _, .int _]) C dX5_pairs_73 (pc' := 76) rfl rfl (iinc1 _) (by decide) (Nat.le_of_ble_eq_true rfl) rfl ?_
          refine z_goto C dX5_pairs_76 (pc' := 47) (by decide) ?_
          exact z_back 5 (ih47 (k + 1) (by omega) (by omega)) rfl rfl
        · intro hj_72
          refine z_icmp_ne (tgt := 71) C dX5_pairs_63 (pc' := 66) (by decide) rfl (fun c_63 => ?_) (fun c_63 => ?_)
          ·
            have n_63 : ¬ ((g + 1) / 2 ^ k % 2) = 1 := fun z9 => c_63 ((nI_eq (a := ((g + 1) / 2 ^ k % 2)) (b := 1) (by omega) (by omega)).mpr z9)
            refine z_iload_n C dX5_pairs_71 (pc' := 72) rfl rfl rfl ?_
            exact hj_72 _ (by simp [lastF, n_63])
          ·
            have n_63 : ((g + 1) / 2 ^ k % 2) = 1 := (nI_eq (a := ((g + 1) / 2 ^ k % 2)) (b := 1) (by omega) (by omega)).mp c_63
            refine z_iload C dX5_pairs_66 (pc' := 68) rfl rfl ?_
            refine z_goto C dX5_pairs_68 (pc' := 72) (by decide) ?_
            exact hj_72 _ (by simp [lastF, n_63])
  ·
    refine z_if_ne (tgt := 16) C dX5_pairs_11 (pc' := 14) (by decide) rfl (fun q => absurd q (by decide)) (fun _ => ?_)
    refine z_iconst C dX5_pairs_14 (pc' := 15) rfl (v := (-1)) (by decide) ?_
    exact z_iret C hM dX5_pairs_15 (Or.inl ⟨by assumption, rfl, rfl⟩)
