/-! constructors -/
def szL : Nat → Nat → Int32
  | 0 => fun _ => 0
  | i + 1 => upd (szL i) i 9000
set_option maxRecDepth 100000 in
set_option maxHeartbeats 1000000 in
theorem m_X0_init (l : Launch) {cA cB : ClassId} {D : va_G} (h0 : Nat) : CK l yX0_init cX0_init 1 1 12 1 4 D [(cA, .int), (cB, .object RX3)] h0 (fun _ => True) [.inr (0, [.null])] ([.inr (0, [.ref (h0 + 1)]), .inl (cA, 4, .inl (upd (upd (upd (upd (fun _ => 0) 0 10) 1 40) 2 80) 3 4000))]) := by
  refine CK_of (by decide +kernel) (Nat.le_of_ble_eq_true rfl) rfl ?_
  intro p e s m below meth c C hM hK hX hnm hsz
  refine z_aload_n C dX0_init_0 (pc' := 1) rfl rfl rfl ?_
  refine k_objInit C aw_49 aw_40 aw_41 dX0_init_1 (pc' := 4) rfl (Nat.le_of_ble_eq_true rfl) (Nat.le_of_ble_eq_true rfl) ?_
  refine z_aload_n C dX0_init_4 (pc' := 5) rfl rfl rfl ?_
  refine z_iconst C dX0_init_5 (pc' := 6) rfl (v := 4) (by decide) ?_
  refine k_newa C hK hsz rfl (N := 4) (q := h0 + 1) aw_55 rfl (by decide) (Nat.le_of_ble_eq_true rfl) (Nat.le_of_ble_eq_true rfl) rfl dX0_init_6 (pc' := 8) rfl ?_
  refine k_cs (cs' := [.inr (0, [.null]), .inl (cA, 4, .inl (fun _ => 0))]) rfl ?_
  refine z_dup C dX0_init_8 (pc' := 9) rfl rfl ?_
  refine z_iconst C dX0_init_9 (pc' := 10) rfl (v := 0) (by decide) ?_
  refine z_bipush C dX0_init_10 (pc' := 12) rfl (v := 10) (by decide) ?_
  refine k_iast C hK (fun _ h => h) (i := 1) rfl rfl rfl (j := 0) rfl (by decide) (by decide) dX0_init_12 (pc' := 13) rfl ?_
  refine k_cs (cs' := [.inr (0, [.null]), .inl (cA, 4, .inl (upd (fun _ => 0) 0 10))]) rfl ?_
  refine z_dup C dX0_init_13 (pc' := 14) rfl rfl ?_
  refine z_iconst C dX0_init_14 (pc' := 15) rfl (v := 1) (by decide) ?_
  refine z_bipush C dX0_init_15 (pc' := 17) rfl (v := 40) (by decide) ?_
  refine k_iast C hK (fun _ h => h) (i := 1) rfl rfl rfl (j := 1) rfl (by decide) (by decide) dX0_init_17 (pc' := 18) rfl ?_
  refine k_cs (cs' := [.inr (0, [.null]), .inl (cA, 4, .inl (upd (upd (fun _ => 0) 0 10) 1 40))]) rfl ?_
  refine z_dup C dX0_init_18 (pc' := 19) rfl rfl ?_
  refine z_iconst C dX0_init_19 (pc' := 20) rfl (v := 2) (by decide) ?_
  refine z_bipush C dX0_init_20 (pc' := 22) rfl (v := 80) (by decide) ?_
  refine k_iast C hK (fun _ h => h) (i := 1) rfl rfl rfl (j := 2) rfl (by decide) (by decide) dX0_init_22 (pc' := 23) rfl ?_
  refine k_cs (cs' := [.inr (0, [.null]), .inl (cA, 4, .inl (upd (upd (upd (fun _ => 0) 0 10) 1 40) 2 80))]) rfl ?_
  refine z_dup C dX0_init_23 (pc' := 24) rfl rfl ?_
  refine z_iconst C dX0_init_24 (pc' := 25) rfl (v := 3) (by decide) ?_
  refine z_sipush C dX0_init_25 (pc' := 28) rfl (v := 4000) (by decide) ?_
  refine k_iast C hK (fun _ h => h) (i := 1) rfl rfl rfl (j := 3) rfl (by decide) (by decide) dX0_init_28 (pc' := 29) rfl ?_
  refine k_cs (cs' := [.inr (0, [.null]), .inl (cA, 4, .inl (upd (upd (upd (upd (fun _ => 0) 0 10) 1 40) 2 80) 3 4000))]) rfl ?_
  refine k_put C hK (fun _ h => h) (i := 0) rfl rfl rfl inAX0 tyX0_ok nmX0 (k := 0) (by decide) aw_50 (Or.inr ⟨rfl, hnm, rfl⟩) (ty := (.array .int)) (by decide +kernel) rfl rfl (Nat.le_of_ble_eq_true rfl) dX0_init_29 (pc' := 32) rfl ?_
  refine k_cs (cs' := [.inr (0, [.ref (h0 + 1)]), .inl (cA, 4, .inl (upd (upd (upd (upd (fun _ => 0) 0 10) 1 40) 2 80) 3 4000))]) rfl ?_
  exact k_vret C hM dX0_init_32 rfl
set_option maxRecDepth 100000 in
set_option maxHeartbeats 1000000 in
theorem m_X1_init (l : Launch) {cA cB : ClassId} {D : va_G} (h0 : Nat) : CK l yX1_init cX1_init 1 1 12 8 140 D [(cA, .int), (cB, .object RX3)] h0 (fun _ => True) [.inr (1, [.int 0, .null, .null, .null, .null, .null, .null, .null, .null])] ([.inr (1, [.int 0, .ref (h0 + 1), .ref (h0 + 2), .ref (h0 + 3), .ref (h0 + 4), .ref (h0 + 5), .ref (h0 + 6), .ref (h0 + 7), .ref (h0 + 8)]), .inl (cA, 20, .inl (fun _ => 0)), .inl (cA, 20, .inl (fun _ => 0)), .inl (cA, 20, .inl (fun _ => 0)), .inl (cA, 16, .inl (fun _ => 0)), .inl (cA, 16, .inl (fun _ => 0)), .inl (cA, 16, .inl (fun _ => 0)), .inl (cA, 16, .inl (fun _ => 0)), .inl (cA, 16, .inl (fun _ => 0))]) := by
  refine CK_of (by decide +kernel) (Nat.le_of_ble_eq_true rfl) rfl ?_
  intro p e s m below meth c C hM hK hX hnm hsz
  refine z_aload_n C dX1_init_0 (pc' := 1) rfl rfl rfl ?_
  refine k_objInit C aw_84 aw_40 aw_41 dX1_init_1 (pc' := 4) rfl (Nat.le_of_ble_eq_true rfl) (Nat.le_of_ble_eq_true rfl) ?_
  refine z_aload_n C dX1_init_4 (pc' := 5) rfl rfl rfl ?_
  refine z_bipush C dX1_init_5 (pc' := 7) rfl (v := 20) (by decide) ?_
  refine k_newa C hK hsz rfl (N := 20) (q := h0 + 1) aw_55 rfl (by decide) (Nat.le_of_ble_eq_true rfl) (Nat.le_of_ble_eq_true rfl) rfl dX1_init_7 (pc' := 9) rfl ?_
  refine k_cs (cs' := [.inr (1, [.int 0, .null, .null, .null, .null, .null, .null, .null, .null]), .inl (cA, 20, .inl (fun _ => 0))]) rfl ?_
  refine k_put C hK (fun _ h => h) (i := 0) rfl rfl rfl inAX1 tyX1_ok nmX1 (k := 1) (by decide) aw_87 (Or.inr ⟨rfl, hnm, rfl⟩) (ty := (.array .int)) (by decide +kernel) rfl rfl (Nat.le_of_ble_eq_true rfl) dX1_init_9 (pc' := 12) rfl ?_
  refine k_cs (cs' := [.inr (1, [.int 0, .ref (h0 + 1), .null, .null, .null, .null, .null, .null, .null]), .inl (cA, 20, .inl (fun _ => 0))]) rfl ?_
  refine z_aload_n C dX1_init_12 (pc' := 13) rfl rfl rfl ?_
  refine z_bipush C dX1_init_13 (pc' := 15) rfl (v := 20) (by decide) ?_
  refine k_newa C hK hsz rfl (N := 20) (q := h0 + 2) aw_55 rfl (by decide) (Nat.le_of_ble_eq_true rfl) (Nat.le_of_ble_eq_true rfl) rfl dX1_init_15 (pc' := 17) rfl ?_
  refine k_cs (cs' := [.inr (1, [.int 0, .ref (h0 + 1), .null, .null, .null, .null, .null, .null, .null]), .inl (cA, 20, .inl (fun _ => 0)), .inl (cA, 20, .inl (fun _ => 0))]) rfl ?_
  refine k_put C hK (fun _ h => h) (i := 0) rfl rfl rfl inAX1 tyX1_ok nmX1 (k := 2) (by decide) aw_88 (Or.inr ⟨rfl, hnm, rfl⟩) (ty := (.array .int)) (by decide +kernel) rfl rfl (Nat.le_of_ble_eq_true rfl) dX1_init_17 (pc' := 20) rfl ?_
  refine k_cs (cs' := [.inr (1, [.int 0, .ref (h0 + 1), .ref (h0 + 2), .null, .null, .null, .null, .null, .null]), .inl (cA, 20, .inl (fun _ => 0)), .inl (cA, 20, .inl (fun _ => 0))]) rfl ?_
  refine z_aload_n C dX1_init_20 (pc' := 21) rfl rfl rfl ?_
  refine z_bipush C dX1_init_21 (pc' := 23) rfl (v := 20) (by decide) ?_
  refine k_newa C hK hsz rfl (N := 20) (q := h0 + 3) aw_55 rfl (by decide) (Nat.le_of_ble_eq_true rfl) (Nat.le_of_ble_eq_true rfl) rfl dX1_init_23 (pc' := 25) rfl ?_
  refine k_cs (cs' := [.inr (1, [.int 0, .ref (h0 + 1), .ref (h0 + 2), .null, .null, .null, .null, .null, .null]), .inl (cA, 20, .inl (fun _ => 0)), .inl (cA, 20, .inl (fun _ => 0)), .inl (cA, 20, .inl (fun _ => 0))]) rfl ?_
  refine k_put C hK (fun _ h => h) (i := 0) rfl rfl rfl inAX1 tyX1_ok nmX1 (k := 3) (by decide) aw_89 (Or.inr ⟨rfl, hnm, rfl⟩) (ty := (.array .int)) (by decide +kernel) rfl rfl (Nat.le_of_ble_eq_true rfl) dX1_init_25 (pc' := 28) rfl ?_
  refine k_cs (cs' := [.inr (1, [.int 0, .ref (h0 + 1), .ref (h0 + 2), .ref (h0 + 3), .null, .null, .null, .null, .null]), .inl (cA, 20, .inl (fun _ => 0)), .inl (cA, 20, .inl (fun _ => 0)), .inl (cA, 20, .inl (fun _ => 0))]) rfl ?_
  refine z_aload_n C dX1_init_28 (pc' := 29) rfl rfl rfl ?_
  refine z_bipush C dX1_init_29 (pc' := 31) rfl (v := 16) (by decide) ?_
  refine k_newa C hK hsz rfl (N := 16) (q := h0 + 4) aw_55 rfl (by decide) (Nat.le_of_ble_eq_true rfl) (Nat.le_of_ble_eq_true rfl) rfl dX1_init_31 (pc' := 33) rfl ?_
  refine k_cs (cs' := [.inr (1, [.int 0, .ref (h0 + 1), .ref (h0 + 2), .ref (h0 + 3), .null, .null, .null, .null, .null]), .inl (cA, 20, .inl (fun _ => 0)), .inl (cA, 20, .inl (fun _ => 0)), .inl (cA, 20, .inl (fun _ => 0)), .inl (cA, 16, .inl (fun _ => 0))]) rfl ?_
  refine k_put C hK (fun _ h => h) (i := 0) rfl rfl rfl inAX1 tyX1_ok nmX1 (k := 4) (by decide) aw_90 (Or.inr ⟨rfl, hnm, rfl⟩) (ty := (.array .int)) (by decide +kernel) rfl rfl (Nat.le_of_ble_eq_true rfl) dX1_init_33 (pc' := 36) rfl ?_
  refine k_cs (cs' := [.inr (1, [.int 0, .ref (h0 + 1), .ref (h0 + 2), .ref (h0 + 3), .ref (h0 + 4), .null, .null, .null, .null]), .inl (cA, 20, .inl (fun _ => 0)), .inl (cA, 20, .inl (fun _ => 0)), .inl (cA, 20, .inl (fun _ => 0)), .inl (cA, 16, .inl (fun _ => 0))]) rfl ?_
  refine z_aload_n C dX1_init_36 (pc' := 37) rfl rfl rfl ?_
  refine z_bipush C dX1_init_37 (pc' := 39) rfl (v := 16) (by decide) ?_
  refine k_newa C hK hsz rfl (N := 16) (q := h0 + 5) aw_55 rfl (by decide) (Nat.le_of_ble_eq_true rfl) (Nat.le_of_ble_eq_true rfl) rfl dX1_init_39 (pc' := 41) rfl ?_
  refine k_cs (cs' := [.inr (1, [.int 0, .ref (h0 + 1), .ref (h0 + 2), .ref (h0 + 3), .ref (h0 + 4), .null, .null, .null, .null]), .inl (cA, 20, .inl (fun _ => 0)), .inl (cA, 20, .inl (fun _ => 0)), .inl (cA, 20, .inl (fun _ => 0)), .inl (cA, 16, .inl (fun _ => 0)), .inl (cA, 16, .inl (fun _ => 0))]) rfl ?_
  refine k_put C hK (fun _ h => h) (i := 0) rfl rfl rfl inAX1 tyX1_ok nmX1 (k := 5) (by decide) aw_91 (Or.inr ⟨rfl, hnm, rfl⟩) (ty := (.array .int)) (by decide +kernel) rfl rfl (Nat.le_of_ble_eq_true rfl) dX1_init_41 (pc' := 44) rfl ?_
  refine k_cs (cs' := [.inr (1, [.int 0, .ref (h0 + 1), .ref (h0 + 2), .ref (h0 + 3), .ref (h0 + 4), .ref (h0 + 5), .null, .null, .null]), .inl (cA, 20, .inl (fun _ => 0)), .inl (cA, 20, .inl (fun _ => 0)), .inl (cA, 20, .inl (fun _ => 0)), .inl (cA, 16, .inl (fun _ => 0)), .inl (cA, 16, .inl (fun _ => 0))]) rfl ?_
  refine z_aload_n C dX1_init_44 (pc' := 45) rfl rfl rfl ?_
  refine z_bipush C dX1_init_45 (pc' := 47) rfl (v := 16) (by decide) ?_
  refine k_newa C hK hsz rfl (N := 16) (q := h0 + 6) aw_55 rfl (by decide) (Nat.le_of_ble_eq_true rfl) (Nat.le_of_ble_eq_true rfl) rfl dX1_init_47 (pc' := 49) rfl ?_
  refine k_cs (cs' := [.inr (1, [.int 0, .ref (h0 + 1), .ref (h0 + 2), .ref (h0 + 3), .ref (h0 + 4), .ref (h0 + 5), .null, .null, .null]), .inl (cA, 20, .inl (fun _ => 0)), .inl (cA, 20, .inl (fun _ => 0)), .inl (cA, 20, .inl (fun _ => 0)), .inl (cA, 16, .inl (fun _ => 0)), .inl (cA, 16, .inl (fun _ => 0)), .inl (cA, 16, .inl (fun _ => 0))]) rfl ?_
  refine k_put C hK (fun _ h => h) (i := 0) rfl rfl rfl inAX1 tyX1_ok nmX1 (k := 6) (by decide) aw_92 (Or.inr ⟨rfl, hnm, rfl⟩) (ty := (.array .int)) (by decide +kernel) rfl rfl (Nat.le_of_ble_eq_true rfl) dX1_init_49 (pc' := 52) rfl ?_
  refine k_cs (cs' := [.inr (1, [.int 0, .ref (h0 + 1), .ref (h0 + 2), .ref (h0 + 3), .ref (h0 + 4), .ref (h0 + 5), .ref (h0 + 6), .null, .null]), .inl (cA, 20, .inl (fun _ => 0)), .inl (cA, 20, .inl (fun _ => 0)), .inl (cA, 20, .inl (fun _ => 0)), .inl (cA, 16, .inl (fun _ => 0)), .inl (cA, 16, .inl (fun _ => 0)), .inl (cA, 16, .inl (fun _ => 0))]) rfl ?_
  refine z_aload_n C dX1_init_52 (pc' := 53) rfl rfl rfl ?_
  refine z_bipush C dX1_init_53 (pc' := 55) rfl (v := 16) (by decide) ?_
  refine k_newa C hK hsz rfl (N := 16) (q := h0 + 7) aw_55 rfl (by decide) (Nat.le_of_ble_eq_true rfl) (Nat.le_of_ble_eq_true rfl) rfl dX1_init_55 (pc' := 57) rfl ?_
  refine k_cs (cs' := [.inr (1, [.int 0, .ref (h0 + 1), .ref (h0 + 2), .ref (h0 + 3), .ref (h0 + 4), .ref (h0 + 5), .ref (h0 + 6), .null, .null]), .inl (cA, 20, .inl (fun _ => 0)), .inl (cA, 20, .inl (fun _ => 0)), .inl (cA, 20, .inl (fun _ => 0)), .inl (cA, 16, .inl (fun _ => 0)), .inl (cA, 16, .inl (fun _ => 0)), .inl (cA, 16, .inl (fun _ => 0)), .inl (cA, 16, .inl (fun _ => 0))]) rfl ?_
  refine k_put C hK (fun _ h => h) (i := 0) rfl rfl rfl inAX1 tyX1_ok nmX1 (k := 7) (by decide) aw_93 (Or.inr ⟨rfl, hnm, rfl⟩) (ty := (.array .int)) (by decide +kernel) rfl rfl (Nat.le_of_ble_eq_true rfl) dX1_init_57 (pc' := 60) rfl ?_
  refine k_cs (cs' := [.inr (1, [.int 0, .ref (h0 + 1), .ref (h0 + 2), .ref (h0 + 3), .ref (h0 + 4), .ref (h0 + 5), .ref (h0 + 6), .ref (h0 + 7), .null]), .inl (cA, 20, .inl (fun _ => 0)), .inl (cA, 20, .inl (fun _ => 0)), .inl (cA, 20, .inl (fun _ => 0)), .inl (cA, 16, .inl (fun _ => 0)), .inl (cA, 16, .inl (fun _ => 0)), .inl (cA, 16, .inl (fun _ => 0)), .inl (cA, 16, .inl (fun _ => 0))]) rfl ?_
  refine z_aload_n C dX1_init_60 (pc' := 61) rfl rfl rfl ?_
  refine z_bipush C dX1_init_61 (pc' := 63) rfl (v := 16) (by decide) ?_
  refine k_newa C hK hsz rfl (N := 16) (q := h0 + 8) aw_55 rfl (by decide) (Nat.le_of_ble_eq_true rfl) (Nat.le_of_ble_eq_true rfl) rfl dX1_init_63 (pc' := 65) rfl ?_
  refine k_cs (cs' := [.inr (1, [.int 0, .ref (h0 + 1), .ref (h0 + 2), .ref (h0 + 3), .ref (h0 + 4), .ref (h0 + 5), .ref (h0 + 6), .ref (h0 + 7), .null]), .inl (cA, 20, .inl (fun _ => 0)), .inl (cA, 20, .inl (fun _ => 0)), .inl (cA, 20, .inl (fun _ => 0)), .inl (cA, 16, .inl (fun _ => 0)), .inl (cA, 16, .inl (fun _ => 0)), .inl (cA, 16, .inl (fun _ => 0)), .inl (cA, 16, .inl (fun _ => 0)), .inl (cA, 16, .inl (fun _ => 0))]) rfl ?_
  refine k_put C hK (fun _ h => h) (i := 0) rfl rfl rfl inAX1 tyX1_ok nmX1 (k := 8) (by decide) aw_94 (Or.inr ⟨rfl, hnm, rfl⟩) (ty := (.array .int)) (by decide +kernel) rfl rfl (Nat.le_of_ble_eq_true rfl) dX1_init_65 (pc' := 68) rfl ?_
  refine k_cs (cs' := [.inr (1, [.int 0, .ref (h0 + 1), .ref (h0 + 2), .ref (h0 + 3), .ref (h0 + 4), .ref (h0 + 5), .ref (h0 + 6), .ref (h0 + 7), .ref (h0 + 8)]), .inl (cA, 20, .inl (fun _ => 0)), .inl (cA, 20, .inl (fun _ => 0)), .inl (cA, 20, .inl (fun _ => 0)), .inl (cA, 16, .inl (fun _ => 0)), .inl (cA, 16, .inl (fun _ => 0)), .inl (cA, 16, .inl (fun _ => 0)), .inl (cA, 16, .inl (fun _ => 0)), .inl (cA, 16, .inl (fun _ => 0))]) rfl ?_
  exact k_vret C hM dX1_init_68 rfl
set_option maxRecDepth 100000 in
set_option maxHeartbeats 1000000 in
theorem m_X2_init (l : Launch) {cA cB : ClassId} {D : va_G} (h0 : Nat) : CK l yX2_init cX2_init 1 1 12 4 34 D [(cA, .int), (cB, .object RX3)] h0 (fun _ => True) [.inr (2, [.int 0, .null, .null, .null, .null])] ([.inr (2, [.int 0, .ref (h0 + 1), .ref (h0 + 2), .ref (h0 + 3), .ref (h0 + 4)]), .inl (cA, 8, .inl (fun _ => 0)), .inl (cA, 8, .inl (fun _ => 0)), .inl (cA, 9, .inl (fun _ => 0)), .inl (cA, 9, .inl (fun _ => 0))]) := by
  refine CK_of (by decide +kernel) (Nat.le_of_ble_eq_true rfl) rfl ?_
  intro p e s m below meth c C hM hK hX hnm hsz
  refine z_aload_n C dX2_init_0 (pc' := 1) rfl rfl rfl ?_
  refine k_objInit C aw_61 aw_40 aw_41 dX2_init_1 (pc' := 4) rfl (Nat.le_of_ble_eq_true rfl) (Nat.le_of_ble_eq_true rfl) ?_
  refine z_aload_n C dX2_init_4 (pc' := 5) rfl rfl rfl ?_
  refine z_bipush C dX2_init_5 (pc' := 7) rfl (v := 8) (by decide) ?_
  refine k_newa C hK hsz rfl (N := 8) (q := h0 + 1) aw_55 rfl (by decide) (Nat.le_of_ble_eq_true rfl) (Nat.le_of_ble_eq_true rfl) rfl dX2_init_7 (pc' := 9) rfl ?_
  refine k_cs (cs' := [.inr (2, [.int 0, .null, .null, .null, .null]), .inl (cA, 8, .inl (fun _ => 0))]) rfl ?_
  refine k_put C hK (fun _ h => h) (i := 0) rfl rfl rfl inAX2 tyX2_ok nmX2 (k := 1) (by decide) aw_64 (Or.inr ⟨rfl, hnm, rfl⟩) (ty := (.array .int)) (by decide +kernel) rfl rfl (Nat.le_of_ble_eq_true rfl) dX2_init_9 (pc' := 12) rfl ?_
  refine k_cs (cs' := [.inr (2, [.int 0, .ref (h0 + 1), .null, .null, .null]), .inl (cA, 8, .inl (fun _ => 0))]) rfl ?_
  refine z_aload_n C dX2_init_12 (pc' := 13) rfl rfl rfl ?_
  refine z_bipush C dX2_init_13 (pc' := 15) rfl (v := 8) (by decide) ?_
  refine k_newa C hK hsz rfl (N := 8) (q := h0 + 2) aw_55 rfl (by decide) (Nat.le_of_ble_eq_true rfl) (Nat.le_of_ble_eq_true rfl) rfl dX2_init_15 (pc' := 17) rfl ?_
  refine k_cs (cs' := [.inr (2, [.int 0, .ref (h0 + 1), .null, .null, .null]), .inl (cA, 8, .inl (fun _ => 0)), .inl (cA, 8, .inl (fun _ => 0))]) rfl ?_
  refine k_put C hK (fun _ h => h) (i := 0) rfl rfl rfl inAX2 tyX2_ok nmX2 (k := 2) (by decide) aw_65 (Or.inr ⟨rfl, hnm, rfl⟩) (ty := (.array .int)) (by decide +kernel) rfl rfl (Nat.le_of_ble_eq_true rfl) dX2_init_17 (pc' := 20) rfl ?_
  refine k_cs (cs' := [.inr (2, [.int 0, .ref (h0 + 1), .ref (h0 + 2), .null, .null]), .inl (cA, 8, .inl (fun _ => 0)), .inl (cA, 8, .inl (fun _ => 0))]) rfl ?_
  refine z_aload_n C dX2_init_20 (pc' := 21) rfl rfl rfl ?_
  refine z_bipush C dX2_init_21 (pc' := 23) rfl (v := 9) (by decide) ?_
  refine k_newa C hK hsz rfl (N := 9) (q := h0 + 3) aw_55 rfl (by decide) (Nat.le_of_ble_eq_true rfl) (Nat.le_of_ble_eq_true rfl) rfl dX2_init_23 (pc' := 25) rfl ?_
  refine k_cs (cs' := [.inr (2, [.int 0, .ref (h0 + 1), .ref (h0 + 2), .null, .null]), .inl (cA, 8, .inl (fun _ => 0)), .inl (cA, 8, .inl (fun _ => 0)), .inl (cA, 9, .inl (fun _ => 0))]) rfl ?_
  refine k_put C hK (fun _ h => h) (i := 0) rfl rfl rfl inAX2 tyX2_ok nmX2 (k := 3) (by decide) aw_66 (Or.inr ⟨rfl, hnm, rfl⟩) (ty := (.array .int)) (by decide +kernel) rfl rfl (Nat.le_of_ble_eq_true rfl) dX2_init_25 (pc' := 28) rfl ?_
  refine k_cs (cs' := [.inr (2, [.int 0, .ref (h0 + 1), .ref (h0 + 2), .ref (h0 + 3), .null]), .inl (cA, 8, .inl (fun _ => 0)), .inl (cA, 8, .inl (fun _ => 0)), .inl (cA, 9, .inl (fun _ => 0))]) rfl ?_
  refine z_aload_n C dX2_init_28 (pc' := 29) rfl rfl rfl ?_
  refine z_bipush C dX2_init_29 (pc' := 31) rfl (v := 9) (by decide) ?_
  refine k_newa C hK hsz rfl (N := 9) (q := h0 + 4) aw_55 rfl (by decide) (Nat.le_of_ble_eq_true rfl) (Nat.le_of_ble_eq_true rfl) rfl dX2_init_31 (pc' := 33) rfl ?_
  refine k_cs (cs' := [.inr (2, [.int 0, .ref (h0 + 1), .ref (h0 + 2), .ref (h0 + 3), .null]), .inl (cA, 8, .inl (fun _ => 0)), .inl (cA, 8, .inl (fun _ => 0)), .inl (cA, 9, .inl (fun _ => 0)), .inl (cA, 9, .inl (fun _ => 0))]) rfl ?_
  refine k_put C hK (fun _ h => h) (i := 0) rfl rfl rfl inAX2 tyX2_ok nmX2 (k := 4) (by decide) aw_67 (Or.inr ⟨rfl, hnm, rfl⟩) (ty := (.array .int)) (by decide +kernel) rfl rfl (Nat.le_of_ble_eq_true rfl) dX2_init_33 (pc' := 36) rfl ?_
  refine k_cs (cs' := [.inr (2, [.int 0, .ref (h0 + 1), .ref (h0 + 2), .ref (h0 + 3), .ref (h0 + 4)]), .inl (cA, 8, .inl (fun _ => 0)), .inl (cA, 8, .inl (fun _ => 0)), .inl (cA, 9, .inl (fun _ => 0)), .inl (cA, 9, .inl (fun _ => 0))]) rfl ?_
  exact k_vret C hM dX2_init_36 rfl
set_option maxRecDepth 100000 in
set_option maxHeartbeats 1000000 in
theorem m_X3_init (l : Launch) {cA cB : ClassId} {D : va_G} (h0 : Nat) : CK l yX3_init cX3_init 1 1 12 2 10 D [(cA, .int), (cB, .object RX3)] h0 (fun _ => True) [.inr (3, [.null, .int 0, .int 0, .int 0, .null, .int 0, .int 0])] ([.inr (3, [.ref (h0 + 1), .int 9000, .int 0, .int 0, .ref (h0 + 2), .int 0, .int 0]), .inl (cA, 5, .inl (fun _ => 0)), .inl (cA, 5, .inl (fun _ => 0))]) := by
  refine CK_of (by decide +kernel) (Nat.le_of_ble_eq_true rfl) rfl ?_
  intro p e s m below meth c C hM hK hX hnm hsz
  refine z_aload_n C dX3_init_0 (pc' := 1) rfl rfl rfl ?_
  refine k_objInit C aw_118 aw_40 aw_41 dX3_init_1 (pc' := 4) rfl (Nat.le_of_ble_eq_true rfl) (Nat.le_of_ble_eq_true rfl) ?_
  refine z_aload_n C dX3_init_4 (pc' := 5) rfl rfl rfl ?_
  refine z_iconst C dX3_init_5 (pc' := 6) rfl (v := 5) (by decide) ?_
  refine k_newa C hK hsz rfl (N := 5) (q := h0 + 1) aw_55 rfl (by decide) (Nat.le_of_ble_eq_true rfl) (Nat.le_of_ble_eq_true rfl) rfl dX3_init_6 (pc' := 8) rfl ?_
  refine k_cs (cs' := [.inr (3, [.null, .int 0, .int 0, .int 0, .null, .int 0, .int 0]), .inl (cA, 5, .inl (fun _ => 0))]) rfl ?_
  refine k_put C hK (fun _ h => h) (i := 0) rfl rfl rfl inAX3 tyX3_ok nmX3 (k := 0) (by decide) aw_119 (Or.inr ⟨rfl, hnm, rfl⟩) (ty := (.array .int)) (by decide +kernel) rfl rfl (Nat.le_of_ble_eq_true rfl) dX3_init_8 (pc' := 11) rfl ?_
  refine k_cs (cs' := [.inr (3, [.ref (h0 + 1), .int 0, .int 0, .int 0, .null, .int 0, .int 0]), .inl (cA, 5, .inl (fun _ => 0))]) rfl ?_
  refine z_aload_n C dX3_init_11 (pc' := 12) rfl rfl rfl ?_
  refine z_sipush C dX3_init_12 (pc' := 15) rfl (v := 9000) (by decide) ?_
  refine k_put C hK (fun _ h => h) (i := 0) rfl rfl rfl inAX3 tyX3_ok nmX3 (k := 1) (by decide) aw_121 (Or.inl rfl) (ty := .int) (by decide +kernel) rfl rfl (Nat.le_of_ble_eq_true rfl) dX3_init_15 (pc' := 18) rfl ?_
  refine k_cs (cs' := [.inr (3, [.ref (h0 + 1), .int 9000, .int 0, .int 0, .null, .int 0, .int 0]), .inl (cA, 5, .inl (fun _ => 0))]) rfl ?_
  refine z_aload_n C dX3_init_18 (pc' := 19) rfl rfl rfl ?_
  refine z_iconst C dX3_init_19 (pc' := 20) rfl (v := 5) (by decide) ?_
  refine k_newa C hK hsz rfl (N := 5) (q := h0 + 2) aw_55 rfl (by decide) (Nat.le_of_ble_eq_true rfl) (Nat.le_of_ble_eq_true rfl) rfl dX3_init_20 (pc' := 22) rfl ?_
  refine k_cs (cs' := [.inr (3, [.ref (h0 + 1), .int 9000, .int 0, .int 0, .null, .int 0, .int 0]), .inl (cA, 5, .inl (fun _ => 0)), .inl (cA, 5, .inl (fun _ => 0))]) rfl ?_
  refine k_put C hK (fun _ h => h) (i := 0) rfl rfl rfl inAX3 tyX3_ok nmX3 (k := 4) (by decide) aw_127 (Or.inr ⟨rfl, hnm, rfl⟩) (ty := (.array .int)) (by decide +kernel) rfl rfl (Nat.le_of_ble_eq_true rfl) dX3_init_22 (pc' := 25) rfl ?_
  refine k_cs (cs' := [.inr (3, [.ref (h0 + 1), .int 9000, .int 0, .int 0, .ref (h0 + 2), .int 0, .int 0]), .inl (cA, 5, .inl (fun _ => 0)), .inl (cA, 5, .inl (fun _ => 0))]) rfl ?_
  exact k_vret C hM dX3_init_25 rfl
set_option maxRecDepth 100000 in
set_option maxHeartbeats 1000000 in
theorem m_X5_init (l : Launch) {cA : ClassId} {D : va_G} (h0 : Nat) : CK l yX5_init cX5_init 2 1 12 16 856 D [(cA, .int)] h0 (fun _ => True) [.inr (5, [.int 0, .long 0, .null, .null, .null, .null, .int 0, .int 0, .null, .null, .int 0, .null, .null, .null, .int 0, .null, .null, .null, .null, .null, .null, .null, .int 0])] ([.inr (5, [.int 0, .long 0, .ref (h0 + 1), .ref (h0 + 2), .ref (h0 + 3), .ref (h0 + 4), .int 6, .int 0, .ref (h0 + 5), .ref (h0 + 6), .int 0, .ref (h0 + 7), .ref (h0 + 8), .ref (h0 + 9), .int 0, .ref (h0 + 10), .ref (h0 + 11), .ref (h0 + 12), .ref (h0 + 13), .ref (h0 + 14), .ref (h0 + 15), .ref (h0 + 16), .int 500]), .inl (cA, 16, .inl (szL 16)), .inl (cA, 80, .inl (fun _ => 0)), .inl (cA, 16, .inl (fun _ => 0)), .inl (cA, 16, .inl (fun _ => 0)), .inl (cA, 4, .inl (upd (upd (upd (upd (fun _ => 0) 0 10) 1 40) 2 80) 3 4000)), .inl (cA, 16, .inl (fun _ => 0)), .inl (cA, 8, .inl (fun _ => 0)), .inl (cA, 256, .inl (fun _ => 0)), .inl (cA, 256, .inl (fun _ => 0)), .inl (cA, 20, .inl (fun _ => 0)), .inl (cA, 20, .inl (fun _ => 0)), .inl (cA, 20, .inl (fun _ => 0)), .inl (cA, 16, .inl (fun _ => 0)), .inl (cA, 16, .inl (fun _ => 0)), .inl (cA, 16, .inl (fun _ => 0)), .inl (cA, 80, .inl (fun _ => 0))]) := by
  refine CK_of (by decide +kernel) (Nat.le_of_ble_eq_true rfl) rfl ?_
  intro p e s m below meth c C hM hK hX hnm hsz
  refine z_aload_n C dX5_init_0 (pc' := 1) rfl rfl rfl ?_
  refine k_objInit C aw_451 aw_40 aw_41 dX5_init_1 (pc' := 4) rfl (Nat.le_of_ble_eq_true rfl) (Nat.le_of_ble_eq_true rfl) ?_
  refine z_aload_n C dX5_init_4 (pc' := 5) rfl rfl rfl ?_
  refine z_bipush C dX5_init_5 (pc' := 7) rfl (v := 16) (by decide) ?_
  refine k_newa C hK hsz rfl (N := 16) (q := h0 + 1) aw_55 rfl (by decide) (Nat.le_of_ble_eq_true rfl) (Nat.le_of_ble_eq_true rfl) rfl dX5_init_7 (pc' := 9) rfl ?_
  refine k_cs (cs' := [.inr (5, [.int 0, .long 0, .null, .null, .null, .null, .int 0, .int 0, .null, .null, .int 0, .null, .null, .null, .int 0, .null, .null, .null, .null, .null, .null, .null, .int 0]), .inl (cA, 16, .inl (fun _ => 0))]) rfl ?_
  refine k_put C hK (fun _ h => h) (i := 0) rfl rfl rfl inAX5 tyX5_ok nmX5 (k := 2) (by decide) aw_454 (Or.inr ⟨rfl, hnm, rfl⟩) (ty := (.array .int)) (by decide +kernel) rfl rfl (Nat.le_of_ble_eq_true rfl) dX5_init_9 (pc' := 12) rfl ?_
  refine k_cs (cs' := [.inr (5, [.int 0, .long 0, .ref (h0 + 1), .null, .null, .null, .int 0, .int 0, .null, .null, .int 0, .null, .null, .null, .int 0, .null, .null, .null, .null, .null, .null, .null, .int 0]), .inl (cA, 16, .inl (fun _ => 0))]) rfl ?_
  refine z_aload_n C dX5_init_12 (pc' := 13) rfl rfl rfl ?_
  refine z_bipush C dX5_init_13 (pc' := 15) rfl (v := 80) (by decide) ?_
  refine k_newa C hK hsz rfl (N := 80) (q := h0 + 2) aw_55 rfl (by decide) (Nat.le_of_ble_eq_true rfl) (Nat.le_of_ble_eq_true rfl) rfl dX5_init_15 (pc' := 17) rfl ?_
  refine k_cs (cs' := [.inr (5, [.int 0, .long 0, .ref (h0 + 1), .null, .null, .null, .int 0, .int 0, .null, .null, .int 0, .null, .null, .null, .int 0, .null, .null, .null, .null, .null, .null, .null, .int 0]), .inl (cA, 16, .inl (fun _ => 0)), .inl (cA, 80, .inl (fun _ => 0))]) rfl ?_
  refine k_put C hK (fun _ h => h) (i := 0) rfl rfl rfl inAX5 tyX5_ok nmX5 (k := 3) (by decide) aw_455 (Or.inr ⟨rfl, hnm, rfl⟩) (ty := (.array .int)) (by decide +kernel) rfl rfl (Nat.le_of_ble_eq_true rfl) dX5_init_17 (pc' := 20) rfl ?_
  refine k_cs (cs' := [.inr (5, [.int 0, .long 0, .ref (h0 + 1), .ref (h0 + 2), .null, .null, .int 0, .int 0, .null, .null, .int 0, .null, .null, .null, .int 0, .null, .null, .null, .null, .null, .null, .null, .int 0]), .inl (cA, 16, .inl (fun _ => 0)), .inl (cA, 80, .inl (fun _ => 0))]) rfl ?_
  refine z_aload_n C dX5_init_20 (pc' := 21) rfl rfl rfl ?_
  refine z_bipush C dX5_init_21 (pc' := 23) rfl (v := 16) (by decide) ?_
  refine k_newa C hK hsz rfl (N := 16) (q := h0 + 3) aw_55 rfl (by decide) (Nat.le_of_ble_eq_true rfl) (Nat.le_of_ble_eq_true rfl) rfl dX5_init_23 (pc' := 25) rfl ?_
  refine k_cs (cs' := [.inr (5, [.int 0, .long 0, .ref (h0 + 1), .ref (h0 + 2), .null, .null, .int 0, .int 0, .null, .null, .int 0, .null, .null, .null, .int 0, .null, .null, .null, .null, .null, .null, .null, .int 0]), .inl (cA, 16, .inl (fun _ => 0)), .inl (cA, 80, .inl (fun _ => 0)), .inl (cA, 16, .inl (fun _ => 0))]) rfl ?_
  refine k_put C hK (fun _ h => h) (i := 0) rfl rfl rfl inAX5 tyX5_ok nmX5 (k := 4) (by decide) aw_456 (Or.inr ⟨rfl, hnm, rfl⟩) (ty := (.array .int)) (by decide +kernel) rfl rfl (Nat.le_of_ble_eq_true rfl) dX5_init_25 (pc' := 28) rfl ?_
  refine k_cs (cs' := [.inr (5, [.int 0, .long 0, .ref (h0 + 1), .ref (h0 + 2), .ref (h0 + 3), .null, .int 0, .int 0, .null, .null, .int 0, .null, .null, .null, .int 0, .null, .null, .null, .null, .null, .null, .null, .int 0]), .inl (cA, 16, .inl (fun _ => 0)), .inl (cA, 80, .inl (fun _ => 0)), .inl (cA, 16, .inl (fun _ => 0))]) rfl ?_
  refine z_aload_n C dX5_init_28 (pc' := 29) rfl rfl rfl ?_
  refine z_bipush C dX5_init_29 (pc' := 31) rfl (v := 16) (by decide) ?_
  refine k_newa C hK hsz rfl (N := 16) (q := h0 + 4) aw_55 rfl (by decide) (Nat.le_of_ble_eq_true rfl) (Nat.le_of_ble_eq_true rfl) rfl dX5_init_31 (pc' := 33) rfl ?_
  refine k_cs (cs' := [.inr (5, [.int 0, .long 0, .ref (h0 + 1), .ref (h0 + 2), .ref (h0 + 3), .null, .int 0, .int 0, .null, .null, .int 0, .null, .null, .null, .int 0, .null, .null, .null, .null, .null, .null, .null, .int 0]), .inl (cA, 16, .inl (fun _ => 0)), .inl (cA, 80, .inl (fun _ => 0)), .inl (cA, 16, .inl (fun _ => 0)), .inl (cA, 16, .inl (fun _ => 0))]) rfl ?_
  refine k_put C hK (fun _ h => h) (i := 0) rfl rfl rfl inAX5 tyX5_ok nmX5 (k := 5) (by decide) aw_457 (Or.inr ⟨rfl, hnm, rfl⟩) (ty := (.array .int)) (by decide +kernel) rfl rfl (Nat.le_of_ble_eq_true rfl) dX5_init_33 (pc' := 36) rfl ?_
  refine k_cs (cs' := [.inr (5, [.int 0, .long 0, .ref (h0 + 1), .ref (h0 + 2), .ref (h0 + 3), .ref (h0 + 4), .int 0, .int 0, .null, .null, .int 0, .null, .null, .null, .int 0, .null, .null, .null, .null, .null, .null, .null, .int 0]), .inl (cA, 16, .inl (fun _ => 0)), .inl (cA, 80, .inl (fun _ => 0)), .inl (cA, 16, .inl (fun _ => 0)), .inl (cA, 16, .inl (fun _ => 0))]) rfl ?_
  refine z_aload_n C dX5_init_36 (pc' := 37) rfl rfl rfl ?_
  refine z_bipush C dX5_init_37 (pc' := 39) rfl (v := 6) (by decide) ?_
  refine k_put C hK (fun _ h => h) (i := 0) rfl rfl rfl inAX5 tyX5_ok nmX5 (k := 6) (by decide) aw_458 (Or.inl rfl) (ty := .int) (by decide +kernel) rfl rfl (Nat.le_of_ble_eq_true rfl) dX5_init_39 (pc' := 42) rfl ?_
  refine k_cs (cs' := [.inr (5, [.int 0, .long 0, .ref (h0 + 1), .ref (h0 + 2), .ref (h0 + 3), .ref (h0 + 4), .int 6, .int 0, .null, .null, .int 0, .null, .null, .null, .int 0, .null, .null, .null, .null, .null, .null, .null, .int 0]), .inl (cA, 16, .inl (fun _ => 0)), .inl (cA, 80, .inl (fun _ => 0)), .inl (cA, 16, .inl (fun _ => 0)), .inl (cA, 16, .inl (fun _ => 0))]) rfl ?_
  refine z_aload_n C dX5_init_42 (pc' := 43) rfl rfl rfl ?_
  refine z_iconst C dX5_init_43 (pc' := 44) rfl (v := 4) (by decide) ?_
  refine k_newa C hK hsz rfl (N := 4) (q := h0 + 5) aw_55 rfl (by decide) (Nat.le_of_ble_eq_true rfl) (Nat.le_of_ble_eq_true rfl) rfl dX5_init_44 (pc' := 46) rfl ?_
  refine k_cs (cs' := [.inr (5, [.int 0, .long 0, .ref (h0 + 1), .ref (h0 + 2), .ref (h0 + 3), .ref (h0 + 4), .int 6, .int 0, .null, .null, .int 0, .null, .null, .null, .int 0, .null, .null, .null, .null, .null, .null, .null, .int 0]), .inl (cA, 16, .inl (fun _ => 0)), .inl (cA, 80, .inl (fun _ => 0)), .inl (cA, 16, .inl (fun _ => 0)), .inl (cA, 16, .inl (fun _ => 0)), .inl (cA, 4, .inl (fun _ => 0))]) rfl ?_
  refine k_put C hK (fun _ h => h) (i := 0) rfl rfl rfl inAX5 tyX5_ok nmX5 (k := 8) (by decide) aw_460 (Or.inr ⟨rfl, hnm, rfl⟩) (ty := (.array .int)) (by decide +kernel) rfl rfl (Nat.le_of_ble_eq_true rfl) dX5_init_46 (pc' := 49) rfl ?_
  refine k_cs (cs' := [.inr (5, [.int 0, .long 0, .ref (h0 + 1), .ref (h0 + 2), .ref (h0 + 3), .ref (h0 + 4), .int 6, .int 0, .ref (h0 + 5), .null, .int 0, .null, .null, .null, .int 0, .null, .null, .null, .null, .null, .null, .null, .int 0]), .inl (cA, 16, .inl (fun _ => 0)), .inl (cA, 80, .inl (fun _ => 0)), .inl (cA, 16, .inl (fun _ => 0)), .inl (cA, 16, .inl (fun _ => 0)), .inl (cA, 4, .inl (fun _ => 0))]) rfl ?_
  refine z_aload_n C dX5_init_49 (pc' := 50) rfl rfl rfl ?_
  refine z_bipush C dX5_init_50 (pc' := 52) rfl (v := 16) (by decide) ?_
  refine k_newa C hK hsz rfl (N := 16) (q := h0 + 6) aw_55 rfl (by decide) (Nat.le_of_ble_eq_true rfl) (Nat.le_of_ble_eq_true rfl) rfl dX5_init_52 (pc' := 54) rfl ?_
  refine k_cs (cs' := [.inr (5, [.int 0, .long 0, .ref (h0 + 1), .ref (h0 + 2), .ref (h0 + 3), .ref (h0 + 4), .int 6, .int 0, .ref (h0 + 5), .null, .int 0, .null, .null, .null, .int 0, .null, .null, .null, .null, .null, .null, .null, .int 0]), .inl (cA, 16, .inl (fun _ => 0)), .inl (cA, 80, .inl (fun _ => 0)), .inl (cA, 16, .inl (fun _ => 0)), .inl (cA, 16, .inl (fun _ => 0)), .inl (cA, 4, .inl (fun _ => 0)), .inl (cA, 16, .inl (fun _ => 0))]) rfl ?_
  refine k_put C hK (fun _ h => h) (i := 0) rfl rfl rfl inAX5 tyX5_ok nmX5 (k := 9) (by decide) aw_461 (Or.inr ⟨rfl, hnm, rfl⟩) (ty := (.array .int)) (by decide +kernel) rfl rfl (Nat.le_of_ble_eq_true rfl) dX5_init_54 (pc' := 57) rfl ?_
  refine k_cs (cs' := [.inr (5, [.int 0, .long 0, .ref (h0 + 1), .ref (h0 + 2), .ref (h0 + 3), .ref (h0 + 4), .int 6, .int 0, .ref (h0 + 5), .ref (h0 + 6), .int 0, .null, .null, .null, .int 0, .null, .null, .null, .null, .null, .null, .null, .int 0]), .inl (cA, 16, .inl (fun _ => 0)), .inl (cA, 80, .inl (fun _ => 0)), .inl (cA, 16, .inl (fun _ => 0)), .inl (cA, 16, .inl (fun _ => 0)), .inl (cA, 4, .inl (fun _ => 0)), .inl (cA, 16, .inl (fun _ => 0))]) rfl ?_
  refine z_aload_n C dX5_init_57 (pc' := 58) rfl rfl rfl ?_
  refine z_bipush C dX5_init_58 (pc' := 60) rfl (v := 8) (by decide) ?_
  refine k_newa C hK hsz rfl (N := 8) (q := h0 + 7) aw_55 rfl (by decide) (Nat.le_of_ble_eq_true rfl) (Nat.le_of_ble_eq_true rfl) rfl dX5_init_60 (pc' := 62) rfl ?_
  refine k_cs (cs' := [.inr (5, [.int 0, .long 0, .ref (h0 + 1), .ref (h0 + 2), .ref (h0 + 3), .ref (h0 + 4), .int 6, .int 0, .ref (h0 + 5), .ref (h0 + 6), .int 0, .null, .null, .null, .int 0, .null, .null, .null, .null, .null, .null, .null, .int 0]), .inl (cA, 16, .inl (fun _ => 0)), .inl (cA, 80, .inl (fun _ => 0)), .inl (cA, 16, .inl (fun _ => 0)), .inl (cA, 16, .inl (fun _ => 0)), .inl (cA, 4, .inl (fun _ => 0)), .inl (cA, 16, .inl (fun _ => 0)), .inl (cA, 8, .inl (fun _ => 0))]) rfl ?_
  refine k_put C hK (fun _ h => h) (i := 0) rfl rfl rfl inAX5 tyX5_ok nmX5 (k := 11) (by decide) aw_463 (Or.inr ⟨rfl, hnm, rfl⟩) (ty := (.array .int)) (by decide +kernel) rfl rfl (Nat.le_of_ble_eq_true rfl) dX5_init_62 (pc' := 65) rfl ?_
  refine k_cs (cs' := [.inr (5, [.int 0, .long 0, .ref (h0 + 1), .ref (h0 + 2), .ref (h0 + 3), .ref (h0 + 4), .int 6, .int 0, .ref (h0 + 5), .ref (h0 + 6), .int 0, .ref (h0 + 7), .null, .null, .int 0, .null, .null, .null, .null, .null, .null, .null, .int 0]), .inl (cA, 16, .inl (fun _ => 0)), .inl (cA, 80, .inl (fun _ => 0)), .inl (cA, 16, .inl (fun _ => 0)), .inl (cA, 16, .inl (fun _ => 0)), .inl (cA, 4, .inl (fun _ => 0)), .inl (cA, 16, .inl (fun _ => 0)), .inl (cA, 8, .inl (fun _ => 0))]) rfl ?_
  refine z_aload_n C dX5_init_65 (pc' := 66) rfl rfl rfl ?_
  refine z_sipush C dX5_init_66 (pc' := 69) rfl (v := 256) (by decide) ?_
  refine k_newa C hK hsz rfl (N := 256) (q := h0 + 8) aw_55 rfl (by decide) (Nat.le_of_ble_eq_true rfl) (Nat.le_of_ble_eq_true rfl) rfl dX5_init_69 (pc' := 71) rfl ?_
  refine k_cs (cs' := [.inr (5, [.int 0, .long 0, .ref (h0 + 1), .ref (h0 + 2), .ref (h0 + 3), .ref (h0 + 4), .int 6, .int 0, .ref (h0 + 5), .ref (h0 + 6), .int 0, .ref (h0 + 7), .null, .null, .int 0, .null, .null, .null, .null, .null, .null, .null, .int 0]), .inl (cA, 16, .inl (fun _ => 0)), .inl (cA, 80, .inl (fun _ => 0)), .inl (cA, 16, .inl (fun _ => 0)), .inl (cA, 16, .inl (fun _ => 0)), .inl (cA, 4, .inl (fun _ => 0)), .inl (cA, 16, .inl (fun _ => 0)), .inl (cA, 8, .inl (fun _ => 0)), .inl (cA, 256, .inl (fun _ => 0))]) rfl ?_
  refine k_put C hK (fun _ h => h) (i := 0) rfl rfl rfl inAX5 tyX5_ok nmX5 (k := 12) (by decide) aw_464 (Or.inr ⟨rfl, hnm, rfl⟩) (ty := (.array .int)) (by decide +kernel) rfl rfl (Nat.le_of_ble_eq_true rfl) dX5_init_71 (pc' := 74) rfl ?_
  refine k_cs (cs' := [.inr (5, [.int 0, .long 0, .ref (h0 + 1), .ref (h0 + 2), .ref (h0 + 3), .ref (h0 + 4), .int 6, .int 0, .ref (h0 + 5), .ref (h0 + 6), .int 0, .ref (h0 + 7), .ref (h0 + 8), .null, .int 0, .null, .null, .null, .null, .null, .null, .null, .int 0]), .inl (cA, 16, .inl (fun _ => 0)), .inl (cA, 80, .inl (fun _ => 0)), .inl (cA, 16, .inl (fun _ => 0)), .inl (cA, 16, .inl (fun _ => 0)), .inl (cA, 4, .inl (fun _ => 0)), .inl (cA, 16, .inl (fun _ => 0)), .inl (cA, 8, .inl (fun _ => 0)), .inl (cA, 256, .inl (fun _ => 0))]) rfl ?_
  refine z_aload_n C dX5_init_74 (pc' := 75) rfl rfl rfl ?_
  refine z_sipush C dX5_init_75 (pc' := 78) rfl (v := 256) (by decide) ?_
  refine k_newa C hK hsz rfl (N := 256) (q := h0 + 9) aw_55 rfl (by decide) (Nat.le_of_ble_eq_true rfl) (Nat.le_of_ble_eq_true rfl) rfl dX5_init_78 (pc' := 80) rfl ?_
  refine k_cs (cs' := [.inr (5, [.int 0, .long 0, .ref (h0 + 1), .ref (h0 + 2), .ref (h0 + 3), .ref (h0 + 4), .int 6, .int 0, .ref (h0 + 5), .ref (h0 + 6), .int 0, .ref (h0 + 7), .ref (h0 + 8), .null, .int 0, .null, .null, .null, .null, .null, .null, .null, .int 0]), .inl (cA, 16, .inl (fun _ => 0)), .inl (cA, 80, .inl (fun _ => 0)), .inl (cA, 16, .inl (fun _ => 0)), .inl (cA, 16, .inl (fun _ => 0)), .inl (cA, 4, .inl (fun _ => 0)), .inl (cA, 16, .inl (fun _ => 0)), .inl (cA, 8, .inl (fun _ => 0)), .inl (cA, 256, .inl (fun _ => 0)), .inl (cA, 256, .inl (fun _ => 0))]) rfl ?_
  refine k_put C hK (fun _ h => h) (i := 0) rfl rfl rfl inAX5 tyX5_ok nmX5 (k := 13) (by decide) aw_465 (Or.inr ⟨rfl, hnm, rfl⟩) (ty := (.array .int)) (by decide +kernel) rfl rfl (Nat.le_of_ble_eq_true rfl) dX5_init_80 (pc' := 83) rfl ?_
  refine k_cs (cs' := [.inr (5, [.int 0, .long 0, .ref (h0 + 1), .ref (h0 + 2), .ref (h0 + 3), .ref (h0 + 4), .int 6, .int 0, .ref (h0 + 5), .ref (h0 + 6), .int 0, .ref (h0 + 7), .ref (h0 + 8), .ref (h0 + 9), .int 0, .null, .null, .null, .null, .null, .null, .null, .int 0]), .inl (cA, 16, .inl (fun _ => 0)), .inl (cA, 80, .inl (fun _ => 0)), .inl (cA, 16, .inl (fun _ => 0)), .inl (cA, 16, .inl (fun _ => 0)), .inl (cA, 4, .inl (fun _ => 0)), .inl (cA, 16, .inl (fun _ => 0)), .inl (cA, 8, .inl (fun _ => 0)), .inl (cA, 256, .inl (fun _ => 0)), .inl (cA, 256, .inl (fun _ => 0))]) rfl ?_
  refine z_aload_n C dX5_init_83 (pc' := 84) rfl rfl rfl ?_
  refine z_bipush C dX5_init_84 (pc' := 86) rfl (v := 20) (by decide) ?_
  refine k_newa C hK hsz rfl (N := 20) (q := h0 + 10) aw_55 rfl (by decide) (Nat.le_of_ble_eq_true rfl) (Nat.le_of_ble_eq_true rfl) rfl dX5_init_86 (pc' := 88) rfl ?_
  refine k_cs (cs' := [.inr (5, [.int 0, .long 0, .ref (h0 + 1), .ref (h0 + 2), .ref (h0 + 3), .ref (h0 + 4), .int 6, .int 0, .ref (h0 + 5), .ref (h0 + 6), .int 0, .ref (h0 + 7), .ref (h0 + 8), .ref (h0 + 9), .int 0, .null, .null, .null, .null, .null, .null, .null, .int 0]), .inl (cA, 16, .inl (fun _ => 0)), .inl (cA, 80, .inl (fun _ => 0)), .inl (cA, 16, .inl (fun _ => 0)), .inl (cA, 16, .inl (fun _ => 0)), .inl (cA, 4, .inl (fun _ => 0)), .inl (cA, 16, .inl (fun _ => 0)), .inl (cA, 8, .inl (fun _ => 0)), .inl (cA, 256, .inl (fun _ => 0)), .inl (cA, 256, .inl (fun _ => 0)), .inl (cA, 20, .inl (fun _ => 0))]) rfl ?_
  refine k_put C hK (fun _ h => h) (i := 0) rfl rfl rfl inAX5 tyX5_ok nmX5 (k := 15) (by decide) aw_467 (Or.inr ⟨rfl, hnm, rfl⟩) (ty := (.array .int)) (by decide +kernel) rfl rfl (Nat.le_of_ble_eq_true rfl) dX5_init_88 (pc' := 91) rfl ?_
  refine k_cs (cs' := [.inr (5, [.int 0, .long 0, .ref (h0 + 1), .ref (h0 + 2), .ref (h0 + 3), .ref (h0 + 4), .int 6, .int 0, .ref (h0 + 5), .ref (h0 + 6), .int 0, .ref (h0 + 7), .ref (h0 + 8), .ref (h0 + 9), .int 0, .ref (h0 + 10), .null, .null, .null, .null, .null, .null, .int 0]), .inl (cA, 16, .inl (fun _ => 0)), .inl (cA, 80, .inl (fun _ => 0)), .inl (cA, 16, .inl (fun _ => 0)), .inl (cA, 16, .inl (fun _ => 0)), .inl (cA, 4, .inl (fun _ => 0)), .inl (cA, 16, .inl (fun _ => 0)), .inl (cA, 8, .inl (fun _ => 0)), .inl (cA, 256, .inl (fun _ => 0)), .inl (cA, 256, .inl (fun _ => 0)), .inl (cA, 20, .inl (fun _ => 0))]) rfl ?_
  refine z_aload_n C dX5_init_91 (pc' := 92) rfl rfl rfl ?_
  refine z_bipush C dX5_init_92 (pc' := 94) rfl (v := 20) (by decide) ?_
  refine k_newa C hK hsz rfl (N := 20) (q := h0 + 11) aw_55 rfl (by decide) (Nat.le_of_ble_eq_true rfl) (Nat.le_of_ble_eq_true rfl) rfl dX5_init_94 (pc' := 96) rfl ?_
  refine k_cs (cs' := [.inr (5, [.int 0, .long 0, .ref (h0 + 1), .ref (h0 + 2), .ref (h0 + 3), .ref (h0 + 4), .int 6, .int 0, .ref (h0 + 5), .ref (h0 + 6), .int 0, .ref (h0 + 7), .ref (h0 + 8), .ref (h0 + 9), .int 0, .ref (h0 + 10), .null, .null, .null, .null, .null, .null, .int 0]), .inl (cA, 16, .inl (fun _ => 0)), .inl (cA, 80, .inl (fun _ => 0)), .inl (cA, 16, .inl (fun _ => 0)), .inl (cA, 16, .inl (fun _ => 0)), .inl (cA, 4, .inl (fun _ => 0)), .inl (cA, 16, .inl (fun _ => 0)), .inl (cA, 8, .inl (fun _ => 0)), .inl (cA, 256, .inl (fun _ => 0)), .inl (cA, 256, .inl (fun _ => 0)), .inl (cA, 20, .inl (fun _ => 0)), .inl (cA, 20, .inl (fun _ => 0))]) rfl ?_
  refine k_put C hK (fun _ h => h) (i := 0) rfl rfl rfl inAX5 tyX5_ok nmX5 (k := 16) (by decide) aw_468 (Or.inr ⟨rfl, hnm, rfl⟩) (ty := (.array .int)) (by decide +kernel) rfl rfl (Nat.le_of_ble_eq_true rfl) dX5_init_96 (pc' := 99) rfl ?_
  refine k_cs (cs' := [.inr (5, [.int 0, .long 0, .ref (h0 + 1), .ref (h0 + 2), .ref (h0 + 3), .ref (h0 + 4), .int 6, .int 0, .ref (h0 + 5), .ref (h0 + 6), .int 0, .ref (h0 + 7), .ref (h0 + 8), .ref (h0 + 9), .int 0, .ref (h0 + 10), .ref (h0 + 11), .null, .null, .null, .null, .null, .int 0]), .inl (cA, 16, .inl (fun _ => 0)), .inl (cA, 80, .inl (fun _ => 0)), .inl (cA, 16, .inl (fun _ => 0)), .inl (cA, 16, .inl (fun _ => 0)), .inl (cA, 4, .inl (fun _ => 0)), .inl (cA, 16, .inl (fun _ => 0)), .inl (cA, 8, .inl (fun _ => 0)), .inl (cA, 256, .inl (fun _ => 0)), .inl (cA, 256, .inl (fun _ => 0)), .inl (cA, 20, .inl (fun _ => 0)), .inl (cA, 20, .inl (fun _ => 0))]) rfl ?_
  refine z_aload_n C dX5_init_99 (pc' := 100) rfl rfl rfl ?_
  refine z_bipush C dX5_init_100 (pc' := 102) rfl (v := 20) (by decide) ?_
  refine k_newa C hK hsz rfl (N := 20) (q := h0 + 12) aw_55 rfl (by decide) (Nat.le_of_ble_eq_true rfl) (Nat.le_of_ble_eq_true rfl) rfl dX5_init_102 (pc' := 104) rfl ?_
  refine k_cs (cs' := [.inr (5, [.int 0, .long 0, .ref (h0 + 1), .ref (h0 + 2), .ref (h0 + 3), .ref (h0 + 4), .int 6, .int 0, .ref (h0 + 5), .ref (h0 + 6), .int 0, .ref (h0 + 7), .ref (h0 + 8), .ref (h0 + 9), .int 0, .ref (h0 + 10), .ref (h0 + 11), .null, .null, .null, .null, .null, .int 0]), .inl (cA, 16, .inl (fun _ => 0)), .inl (cA, 80, .inl (fun _ => 0)), .inl (cA, 16, .inl (fun _ => 0)), .inl (cA, 16, .inl (fun _ => 0)), .inl (cA, 4, .inl (fun _ => 0)), .inl (cA, 16, .inl (fun _ => 0)), .inl (cA, 8, .inl (fun _ => 0)), .inl (cA, 256, .inl (fun _ => 0)), .inl (cA, 256, .inl (fun _ => 0)), .inl (cA, 20, .inl (fun _ => 0)), .inl (cA, 20, .inl (fun _ => 0)), .inl (cA, 20, .inl (fun _ => 0))]) rfl ?_
  refine k_put C hK (fun _ h => h) (i := 0) rfl rfl rfl inAX5 tyX5_ok nmX5 (k := 17) (by decide) aw_469 (Or.inr ⟨rfl, hnm, rfl⟩) (ty := (.array .int)) (by decide +kernel) rfl rfl (Nat.le_of_ble_eq_true rfl) dX5_init_104 (pc' := 107) rfl ?_
  refine k_cs (cs' := [.inr (5, [.int 0, .long 0, .ref (h0 + 1), .ref (h0 + 2), .ref (h0 + 3), .ref (h0 + 4), .int 6, .int 0, .ref (h0 + 5), .ref (h0 + 6), .int 0, .ref (h0 + 7), .ref (h0 + 8), .ref (h0 + 9), .int 0, .ref (h0 + 10), .ref (h0 + 11), .ref (h0 + 12), .null, .null, .null, .null, .int 0]), .inl (cA, 16, .inl (fun _ => 0)), .inl (cA, 80, .inl (fun _ => 0)), .inl (cA, 16, .inl (fun _ => 0)), .inl (cA, 16, .inl (fun _ => 0)), .inl (cA, 4, .inl (fun _ => 0)), .inl (cA, 16, .inl (fun _ => 0)), .inl (cA, 8, .inl (fun _ => 0)), .inl (cA, 256, .inl (fun _ => 0)), .inl (cA, 256, .inl (fun _ => 0)), .inl (cA, 20, .inl (fun _ => 0)), .inl (cA, 20, .inl (fun _ => 0)), .inl (cA, 20, .inl (fun _ => 0))]) rfl ?_
  refine z_aload_n C dX5_init_107 (pc' := 108) rfl rfl rfl ?_
  refine z_bipush C dX5_init_108 (pc' := 110) rfl (v := 16) (by decide) ?_
  refine k_newa C hK hsz rfl (N := 16) (q := h0 + 13) aw_55 rfl (by decide) (Nat.le_of_ble_eq_true rfl) (Nat.le_of_ble_eq_true rfl) rfl dX5_init_110 (pc' := 112) rfl ?_
  refine k_cs (cs' := [.inr (5, [.int 0, .long 0, .ref (h0 + 1), .ref (h0 + 2), .ref (h0 + 3), .ref (h0 + 4), .int 6, .int 0, .ref (h0 + 5), .ref (h0 + 6), .int 0, .ref (h0 + 7), .ref (h0 + 8), .ref (h0 + 9), .int 0, .ref (h0 + 10), .ref (h0 + 11), .ref (h0 + 12), .null, .null, .null, .null, .int 0]), .inl (cA, 16, .inl (fun _ => 0)), .inl (cA, 80, .inl (fun _ => 0)), .inl (cA, 16, .inl (fun _ => 0)), .inl (cA, 16, .inl (fun _ => 0)), .inl (cA, 4, .inl (fun _ => 0)), .inl (cA, 16, .inl (fun _ => 0)), .inl (cA, 8, .inl (fun _ => 0)), .inl (cA, 256, .inl (fun _ => 0)), .inl (cA, 256, .inl (fun _ => 0)), .inl (cA, 20, .inl (fun _ => 0)), .inl (cA, 20, .inl (fun _ => 0)), .inl (cA, 20, .inl (fun _ => 0)), .inl (cA, 16, .inl (fun _ => 0))]) rfl ?_
  refine k_put C hK (fun _ h => h) (i := 0) rfl rfl rfl inAX5 tyX5_ok nmX5 (k := 18) (by decide) aw_470 (Or.inr ⟨rfl, hnm, rfl⟩) (ty := (.array .int)) (by decide +kernel) rfl rfl (Nat.le_of_ble_eq_true rfl) dX5_init_112 (pc' := 115) rfl ?_
  refine k_cs (cs' := [.inr (5, [.int 0, .long 0, .ref (h0 + 1), .ref (h0 + 2), .ref (h0 + 3), .ref (h0 + 4), .int 6, .int 0, .ref (h0 + 5), .ref (h0 + 6), .int 0, .ref (h0 + 7), .ref (h0 + 8), .ref (h0 + 9), .int 0, .ref (h0 + 10), .ref (h0 + 11), .ref (h0 + 12), .ref (h0 + 13), .null, .null, .null, .int 0]), .inl (cA, 16, .inl (fun _ => 0)), .inl (cA, 80, .inl (fun _ => 0)), .inl (cA, 16, .inl (fun _ => 0)), .inl (cA, 16, .inl (fun _ => 0)), .inl (cA, 4, .inl (fun _ => 0)), .inl (cA, 16, .inl (fun _ => 0)), .inl (cA, 8, .inl (fun _ => 0)), .inl (cA, 256, .inl (fun _ => 0)), .inl (cA, 256, .inl (fun _ => 0)), .inl (cA, 20, .inl (fun _ => 0)), .inl (cA, 20, .inl (fun _ => 0)), .inl (cA, 20, .inl (fun _ => 0)), .inl (cA, 16, .inl (fun _ => 0))]) rfl ?_
  refine z_aload_n C dX5_init_115 (pc' := 116) rfl rfl rfl ?_
  refine z_bipush C dX5_init_116 (pc' := 118) rfl (v := 16) (by decide) ?_
  refine k_newa C hK hsz rfl (N := 16) (q := h0 + 14) aw_55 rfl (by decide) (Nat.le_of_ble_eq_true rfl) (Nat.le_of_ble_eq_true rfl) rfl dX5_init_118 (pc' := 120) rfl ?_
  refine k_cs (cs' := [.inr (5, [.int 0, .long 0, .ref (h0 + 1), .ref (h0 + 2), .ref (h0 + 3), .ref (h0 + 4), .int 6, .int 0, .ref (h0 + 5), .ref (h0 + 6), .int 0, .ref (h0 + 7), .ref (h0 + 8), .ref (h0 + 9), .int 0, .ref (h0 + 10), .ref (h0 + 11), .ref (h0 + 12), .ref (h0 + 13), .null, .null, .null, .int 0]), .inl (cA, 16, .inl (fun _ => 0)), .inl (cA, 80, .inl (fun _ => 0)), .inl (cA, 16, .inl (fun _ => 0)), .inl (cA, 16, .inl (fun _ => 0)), .inl (cA, 4, .inl (fun _ => 0)), .inl (cA, 16, .inl (fun _ => 0)), .inl (cA, 8, .inl (fun _ => 0)), .inl (cA, 256, .inl (fun _ => 0)), .inl (cA, 256, .inl (fun _ => 0)), .inl (cA, 20, .inl (fun _ => 0)), .inl (cA, 20, .inl (fun _ => 0)), .inl (cA, 20, .inl (fun _ => 0)), .inl (cA, 16, .inl (fun _ => 0)), .inl (cA, 16, .inl (fun _ => 0))]) rfl ?_
  refine k_put C hK (fun _ h => h) (i := 0) rfl rfl rfl inAX5 tyX5_ok nmX5 (k := 19) (by decide) aw_471 (Or.inr ⟨rfl, hnm, rfl⟩) (ty := (.array .int)) (by decide +kernel) rfl rfl (Nat.le_of_ble_eq_true rfl) dX5_init_120 (pc' := 123) rfl ?_
  refine k_cs (cs' := [.inr (5, [.int 0, .long 0, .ref (h0 + 1), .ref (h0 + 2), .ref (h0 + 3), .ref (h0 + 4), .int 6, .int 0, .ref (h0 + 5), .ref (h0 + 6), .int 0, .ref (h0 + 7), .ref (h0 + 8), .ref (h0 + 9), .int 0, .ref (h0 + 10), .ref (h0 + 11), .ref (h0 + 12), .ref (h0 + 13), .ref (h0 + 14), .null, .null, .int 0]), .inl (cA, 16, .inl (fun _ => 0)), .inl (cA, 80, .inl (fun _ => 0)), .inl (cA, 16, .inl (fun _ => 0)), .inl (cA, 16, .inl (fun _ => 0)), .inl (cA, 4, .inl (fun _ => 0)), .inl (cA, 16, .inl (fun _ => 0)), .inl (cA, 8, .inl (fun _ => 0)), .inl (cA, 256, .inl (fun _ => 0)), .inl (cA, 256, .inl (fun _ => 0)), .inl (cA, 20, .inl (fun _ => 0)), .inl (cA, 20, .inl (fun _ => 0)), .inl (cA, 20, .inl (fun _ => 0)), .inl (cA, 16, .inl (fun _ => 0)), .inl (cA, 16, .inl (fun _ => 0))]) rfl ?_
  refine z_aload_n C dX5_init_123 (pc' := 124) rfl rfl rfl ?_
  refine z_bipush C dX5_init_124 (pc' := 126) rfl (v := 16) (by decide) ?_
  refine k_newa C hK hsz rfl (N := 16) (q := h0 + 15) aw_55 rfl (by decide) (Nat.le_of_ble_eq_true rfl) (Nat.le_of_ble_eq_true rfl) rfl dX5_init_126 (pc' := 128) rfl ?_
  refine k_cs (cs' := [.inr (5, [.int 0, .long 0, .ref (h0 + 1), .ref (h0 + 2), .ref (h0 + 3), .ref (h0 + 4), .int 6, .int 0, .ref (h0 + 5), .ref (h0 + 6), .int 0, .ref (h0 + 7), .ref (h0 + 8), .ref (h0 + 9), .int 0, .ref (h0 + 10), .ref (h0 + 11), .ref (h0 + 12), .ref (h0 + 13), .ref (h0 + 14), .null, .null, .int 0]), .inl (cA, 16, .inl (fun _ => 0)), .inl (cA, 80, .inl (fun _ => 0)), .inl (cA, 16, .inl (fun _ => 0)), .inl (cA, 16, .inl (fun _ => 0)), .inl (cA, 4, .inl (fun _ => 0)), .inl (cA, 16, .inl (fun _ => 0)), .inl (cA, 8, .inl (fun _ => 0)), .inl (cA, 256, .inl (fun _ => 0)), .inl (cA, 256, .inl (fun _ => 0)), .inl (cA, 20, .inl (fun _ => 0)), .inl (cA, 20, .inl (fun _ => 0)), .inl (cA, 20, .inl (fun _ => 0)), .inl (cA, 16, .inl (fun _ => 0)), .inl (cA, 16, .inl (fun _ => 0)), .inl (cA, 16, .inl (fun _ => 0))]) rfl ?_
  refine k_put C hK (fun _ h => h) (i := 0) rfl rfl rfl inAX5 tyX5_ok nmX5 (k := 20) (by decide) aw_472 (Or.inr ⟨rfl, hnm, rfl⟩) (ty := (.array .int)) (by decide +kernel) rfl rfl (Nat.le_of_ble_eq_true rfl) dX5_init_128 (pc' := 131) rfl ?_
  refine k_cs (cs' := [.inr (5, [.int 0, .long 0, .ref (h0 + 1), .ref (h0 + 2), .ref (h0 + 3), .ref (h0 + 4), .int 6, .int 0, .ref (h0 + 5), .ref (h0 + 6), .int 0, .ref (h0 + 7), .ref (h0 + 8), .ref (h0 + 9), .int 0, .ref (h0 + 10), .ref (h0 + 11), .ref (h0 + 12), .ref (h0 + 13), .ref (h0 + 14), .ref (h0 + 15), .null, .int 0]), .inl (cA, 16, .inl (fun _ => 0)), .inl (cA, 80, .inl (fun _ => 0)), .inl (cA, 16, .inl (fun _ => 0)), .inl (cA, 16, .inl (fun _ => 0)), .inl (cA, 4, .inl (fun _ => 0)), .inl (cA, 16, .inl (fun _ => 0)), .inl (cA, 8, .inl (fun _ => 0)), .inl (cA, 256, .inl (fun _ => 0)), .inl (cA, 256, .inl (fun _ => 0)), .inl (cA, 20, .inl (fun _ => 0)), .inl (cA, 20, .inl (fun _ => 0)), .inl (cA, 20, .inl (fun _ => 0)), .inl (cA, 16, .inl (fun _ => 0)), .inl (cA, 16, .inl (fun _ => 0)), .inl (cA, 16, .inl (fun _ => 0))]) rfl ?_
  refine z_aload_n C dX5_init_131 (pc' := 132) rfl rfl rfl ?_
  refine z_bipush C dX5_init_132 (pc' := 134) rfl (v := 80) (by decide) ?_
  refine k_newa C hK hsz rfl (N := 80) (q := h0 + 16) aw_55 rfl (by decide) (Nat.le_of_ble_eq_true rfl) (Nat.le_of_ble_eq_true rfl) rfl dX5_init_134 (pc' := 136) rfl ?_
  refine k_cs (cs' := [.inr (5, [.int 0, .long 0, .ref (h0 + 1), .ref (h0 + 2), .ref (h0 + 3), .ref (h0 + 4), .int 6, .int 0, .ref (h0 + 5), .ref (h0 + 6), .int 0, .ref (h0 + 7), .ref (h0 + 8), .ref (h0 + 9), .int 0, .ref (h0 + 10), .ref (h0 + 11), .ref (h0 + 12), .ref (h0 + 13), .ref (h0 + 14), .ref (h0 + 15), .null, .int 0]), .inl (cA, 16, .inl (fun _ => 0)), .inl (cA, 80, .inl (fun _ => 0)), .inl (cA, 16, .inl (fun _ => 0)), .inl (cA, 16, .inl (fun _ => 0)), .inl (cA, 4, .inl (fun _ => 0)), .inl (cA, 16, .inl (fun _ => 0)), .inl (cA, 8, .inl (fun _ => 0)), .inl (cA, 256, .inl (fun _ => 0)), .inl (cA, 256, .inl (fun _ => 0)), .inl (cA, 20, .inl (fun _ => 0)), .inl (cA, 20, .inl (fun _ => 0)), .inl (cA, 20, .inl (fun _ => 0)), .inl (cA, 16, .inl (fun _ => 0)), .inl (cA, 16, .inl (fun _ => 0)), .inl (cA, 16, .inl (fun _ => 0)), .inl (cA, 80, .inl (fun _ => 0))]) rfl ?_
  refine k_put C hK (fun _ h => h) (i := 0) rfl rfl rfl inAX5 tyX5_ok nmX5 (k := 21) (by decide) aw_473 (Or.inr ⟨rfl, hnm, rfl⟩) (ty := (.array .int)) (by decide +kernel) rfl rfl (Nat.le_of_ble_eq_true rfl) dX5_init_136 (pc' := 139) rfl ?_
  refine k_cs (cs' := [.inr (5, [.int 0, .long 0, .ref (h0 + 1), .ref (h0 + 2), .ref (h0 + 3), .ref (h0 + 4), .int 6, .int 0, .ref (h0 + 5), .ref (h0 + 6), .int 0, .ref (h0 + 7), .ref (h0 + 8), .ref (h0 + 9), .int 0, .ref (h0 + 10), .ref (h0 + 11), .ref (h0 + 12), .ref (h0 + 13), .ref (h0 + 14), .ref (h0 + 15), .ref (h0 + 16), .int 0]), .inl (cA, 16, .inl (fun _ => 0)), .inl (cA, 80, .inl (fun _ => 0)), .inl (cA, 16, .inl (fun _ => 0)), .inl (cA, 16, .inl (fun _ => 0)), .inl (cA, 4, .inl (fun _ => 0)), .inl (cA, 16, .inl (fun _ => 0)), .inl (cA, 8, .inl (fun _ => 0)), .inl (cA, 256, .inl (fun _ => 0)), .inl (cA, 256, .inl (fun _ => 0)), .inl (cA, 20, .inl (fun _ => 0)), .inl (cA, 20, .inl (fun _ => 0)), .inl (cA, 20, .inl (fun _ => 0)), .inl (cA, 16, .inl (fun _ => 0)), .inl (cA, 16, .inl (fun _ => 0)), .inl (cA, 16, .inl (fun _ => 0)), .inl (cA, 80, .inl (fun _ => 0))]) rfl ?_
  refine z_aload_n C dX5_init_139 (pc' := 140) rfl rfl rfl ?_
  refine z_sipush C dX5_init_140 (pc' := 143) rfl (v := 500) (by decide) ?_
  refine k_put C hK (fun _ h => h) (i := 0) rfl rfl rfl inAX5 tyX5_ok nmX5 (k := 22) (by decide) aw_474 (Or.inl rfl) (ty := .int) (by decide +kernel) rfl rfl (Nat.le_of_ble_eq_true rfl) dX5_init_143 (pc' := 146) rfl ?_
  refine k_cs (cs' := [.inr (5, [.int 0, .long 0, .ref (h0 + 1), .ref (h0 + 2), .ref (h0 + 3), .ref (h0 + 4), .int 6, .int 0, .ref (h0 + 5), .ref (h0 + 6), .int 0, .ref (h0 + 7), .ref (h0 + 8), .ref (h0 + 9), .int 0, .ref (h0 + 10), .ref (h0 + 11), .ref (h0 + 12), .ref (h0 + 13), .ref (h0 + 14), .ref (h0 + 15), .ref (h0 + 16), .int 500]), .inl (cA, 16, .inl (fun _ => 0)), .inl (cA, 80, .inl (fun _ => 0)), .inl (cA, 16, .inl (fun _ => 0)), .inl (cA, 16, .inl (fun _ => 0)), .inl (cA, 4, .inl (fun _ => 0)), .inl (cA, 16, .inl (fun _ => 0)), .inl (cA, 8, .inl (fun _ => 0)), .inl (cA, 256, .inl (fun _ => 0)), .inl (cA, 256, .inl (fun _ => 0)), .inl (cA, 20, .inl (fun _ => 0)), .inl (cA, 20, .inl (fun _ => 0)), .inl (cA, 20, .inl (fun _ => 0)), .inl (cA, 16, .inl (fun _ => 0)), .inl (cA, 16, .inl (fun _ => 0)), .inl (cA, 16, .inl (fun _ => 0)), .inl (cA, 80, .inl (fun _ => 0))]) rfl ?_
  refine z_iconst C dX5_init_146 (pc' := 147) rfl (v := 0) (by decide) ?_
  refine z_istore_n (L' := [.ref _, .int _]) C dX5_init_147 (pc' := 148) rfl rfl (by decide) (Nat.le_of_ble_eq_true rfl) rfl ?_
  refine k_loop (τ := Nat) (fun i => 16 - i) (fun i => i ≤ 16) (fun i => [.inr (5, [.int 0, .long 0, .ref (h0 + 1), .ref (h0 + 2), .ref (h0 + 3), .ref (h0 + 4), .int 6, .int 0, .ref (h0 + 5), .ref (h0 + 6), .int 0, .ref (h0 + 7), .ref (h0 + 8), .ref (h0 + 9), .int 0, .ref (h0 + 10), .ref (h0 + 11), .ref (h0 + 12), .ref (h0 + 13), .ref (h0 + 14), .ref (h0 + 15), .ref (h0 + 16), .int 500]), .inl (cA, 16, .inl (szL i)), .inl (cA, 80, .inl (fun _ => 0)), .inl (cA, 16, .inl (fun _ => 0)), .inl (cA, 16, .inl (fun _ => 0)), .inl (cA, 4, .inl (fun _ => 0)), .inl (cA, 16, .inl (fun _ => 0)), .inl (cA, 8, .inl (fun _ => 0)), .inl (cA, 256, .inl (fun _ => 0)), .inl (cA, 256, .inl (fun _ => 0)), .inl (cA, 20, .inl (fun _ => 0)), .inl (cA, 20, .inl (fun _ => 0)), .inl (cA, 20, .inl (fun _ => 0)), .inl (cA, 16, .inl (fun _ => 0)), .inl (cA, 16, .inl (fun _ => 0)), .inl (cA, 16, .inl (fun _ => 0)), .inl (cA, 80, .inl (fun _ => 0))]) (fun _ => 16) (fun _ => 856) (fun i => [.ref h0, .int (nI i)]) 0 (by omega) rfl rfl rfl ⟨_, rfl⟩ ?_
  intro i hi ih
  try dsimp only at hi ih ⊢
  refine z_iload_n C dX5_init_148 (pc' := 149) rfl rfl rfl ?_
  refine z_bipush C dX5_init_149 (pc' := 151) rfl (v := 16) (by decide) ?_
  refine z_icmp_ge (tgt := 169) C dX5_init_151 (pc' := 154) (by decide) rfl (fun c_151 => ?_) (fun c_151 => ?_)
  ·
    have n_151 : 16 ≤ i := ge_of_le (N := 16) (k := i) c_151 (by omega) (by omega)
    obtain rfl : i = 16 := (by omega)
    refine z_aload_n C dX5_init_169 (pc' := 170) rfl rfl rfl ?_
    refine k_get C hK (i := 0) rfl rfl rfl inAX5 (k := 8) (by decide) aw_460 rfl dX5_init_170 (pc' := 173) rfl ?_
    refine z_iconst C dX5_init_173 (pc' := 174) rfl (v := 0) (by decide) ?_
    refine z_bipush C dX5_init_174 (pc' := 176) rfl (v := 10) (by decide) ?_
    refine k_iast C hK (fun _ h => h) (i := 5) rfl rfl rfl (j := 0) rfl (by decide) (by decide) dX5_init_176 (pc' := 177) rfl ?_
    refine k_cs (cs' := [.inr (5, [.int 0, .long 0, .ref (h0 + 1), .ref (h0 + 2), .ref (h0 + 3), .ref (h0 + 4), .int 6, .int 0, .ref (h0 + 5), .ref (h0 + 6), .int 0, .ref (h0 + 7), .ref (h0 + 8), .ref (h0 + 9), .int 0, .ref (h0 + 10), .ref (h0 + 11), .ref (h0 + 12), .ref (h0 + 13), .ref (h0 + 14), .ref (h0 + 15), .ref (h0 + 16), .int 500]), .inl (cA, 16, .inl (szL 16)), .inl (cA, 80, .inl (fun _ => 0)), .inl (cA, 16, .inl (fun _ => 0)), .inl (cA, 16, .inl (fun _ => 0)), .inl (cA, 4, .inl (upd (fun _ => 0) 0 10)), .inl (cA, 16, .inl (fun _ => 0)), .inl (cA, 8, .inl (fun _ => 0)), .inl (cA, 256, .inl (fun _ => 0)), .inl (cA, 256, .inl (fun _ => 0)), .inl (cA, 20, .inl (fun _ => 0)), .inl (cA, 20, .inl (fun _ => 0)), .inl (cA, 20, .inl (fun _ => 0)), .inl (cA, 16, .inl (fun _ => 0)), .inl (cA, 16, .inl (fun _ => 0)), .inl (cA, 16, .inl (fun _ => 0)), .inl (cA, 80, .inl (fun _ => 0))]) rfl ?_
    refine z_aload_n C dX5_init_177 (pc' := 178) rfl rfl rfl ?_
    refine k_get C hK (i := 0) rfl rfl rfl inAX5 (k := 8) (by decide) aw_460 rfl dX5_init_178 (pc' := 181) rfl ?_
    refine z_iconst C dX5_init_181 (pc' := 182) rfl (v := 1) (by decide) ?_
    refine z_bipush C dX5_init_182 (pc' := 184) rfl (v := 40) (by decide) ?_
    refine k_iast C hK (fun _ h => h) (i := 5) rfl rfl rfl (j := 1) rfl (by decide) (by decide) dX5_init_184 (pc' := 185) rfl ?_
    refine k_cs (cs' := [.inr (5, [.int 0, .long 0, .ref (h0 + 1), .ref (h0 + 2), .ref (h0 + 3), .ref (h0 + 4), .int 6, .int 0, .ref (h0 + 5), .ref (h0 + 6), .int 0, .ref (h0 + 7), .ref (h0 + 8), .ref (h0 + 9), .int 0, .ref (h0 + 10), .ref (h0 + 11), .ref (h0 + 12), .ref (h0 + 13), .ref (h0 + 14), .ref (h0 + 15), .ref (h0 + 16), .int 500]), .inl (cA, 16, .inl (szL 16)), .inl (cA, 80, .inl (fun _ => 0)), .inl (cA, 16, .inl (fun _ => 0)), .inl (cA, 16, .inl (fun _ => 0)), .inl (cA, 4, .inl (upd (upd (fun _ => 0) 0 10) 1 40)), .inl (cA, 16, .inl (fun _ => 0)), .inl (cA, 8, .inl (fun _ => 0)), .inl (cA, 256, .inl (fun _ => 0)), .inl (cA, 256, .inl (fun _ => 0)), .inl (cA, 20, .inl (fun _ => 0)), .inl (cA, 20, .inl (fun _ => 0)), .inl (cA, 20, .inl (fun _ => 0)), .inl (cA, 16, .inl (fun _ => 0)), .inl (cA, 16, .inl (fun _ => 0)), .inl (cA, 16, .inl (fun _ => 0)), .inl (cA, 80, .inl (fun _ => 0))]) rfl ?_
    refine z_aload_n C dX5_init_185 (pc' := 186) rfl rfl rfl ?_
    refine k_get C hK (i := 0) rfl rfl rfl inAX5 (k := 8) (by decide) aw_460 rfl dX5_init_186 (pc' := 189) rfl ?_
    refine z_iconst C dX5_init_189 (pc' := 190) rfl (v := 2) (by decide) ?_
    refine z_bipush C dX5_init_190 (pc' := 192) rfl (v := 80) (by decide) ?_
    refine k_iast C hK (fun _ h => h) (i := 5) rfl rfl rfl (j := 2) rfl (by decide) (by decide) dX5_init_192 (pc' := 193) rfl ?_
    refine k_cs (cs' := [.inr (5, [.int 0, .long 0, .ref (h0 + 1), .ref (h0 + 2), .ref (h0 + 3), .ref (h0 + 4), .int 6, .int 0, .ref (h0 + 5), .ref (h0 + 6), .int 0, .ref (h0 + 7), .ref (h0 + 8), .ref (h0 + 9), .int 0, .ref (h0 + 10), .ref (h0 + 11), .ref (h0 + 12), .ref (h0 + 13), .ref (h0 + 14), .ref (h0 + 15), .ref (h0 + 16), .int 500]), .inl (cA, 16, .inl (szL 16)), .inl (cA, 80, .inl (fun _ => 0)), .inl (cA, 16, .inl (fun _ => 0)), .inl (cA, 16, .inl (fun _ => 0)), .inl (cA, 4, .inl (upd (upd (upd (fun _ => 0) 0 10) 1 40) 2 80)), .inl (cA, 16, .inl (fun _ => 0)), .inl (cA, 8, .inl (fun _ => 0)), .inl (cA, 256, .inl (fun _ => 0)), .inl (cA, 256, .inl (fun _ => 0)), .inl (cA, 20, .inl (fun _ => 0)), .inl (cA, 20, .inl (fun _ => 0)), .inl (cA, 20, .inl (fun _ => 0)), .inl (cA, 16, .inl (fun _ => 0)), .inl (cA, 16, .inl (fun _ => 0)), .inl (cA, 16, .inl (fun _ => 0)), .inl (cA, 80, .inl (fun _ => 0))]) rfl ?_
    refine z_aload_n C dX5_init_193 (pc' := 194) rfl rfl rfl ?_
    refine k_get C hK (i := 0) rfl rfl rfl inAX5 (k := 8) (by decide) aw_460 rfl dX5_init_194 (pc' := 197) rfl ?_
    refine z_iconst C dX5_init_197 (pc' := 198) rfl (v := 3) (by decide) ?_
    refine z_sipush C dX5_init_198 (pc' := 201) rfl (v := 4000) (by decide) ?_
    refine k_iast C hK (fun _ h => h) (i := 5) rfl rfl rfl (j := 3) rfl (by decide) (by decide) dX5_init_201 (pc' := 202) rfl ?_
    refine k_cs (cs' := [.inr (5, [.int 0, .long 0, .ref (h0 + 1), .ref (h0 + 2), .ref (h0 + 3), .ref (h0 + 4), .int 6, .int 0, .ref (h0 + 5), .ref (h0 + 6), .int 0, .ref (h0 + 7), .ref (h0 + 8), .ref (h0 + 9), .int 0, .ref (h0 + 10), .ref (h0 + 11), .ref (h0 + 12), .ref (h0 + 13), .ref (h0 + 14), .ref (h0 + 15), .ref (h0 + 16), .int 500]), .inl (cA, 16, .inl (szL 16)), .inl (cA, 80, .inl (fun _ => 0)), .inl (cA, 16, .inl (fun _ => 0)), .inl (cA, 16, .inl (fun _ => 0)), .inl (cA, 4, .inl (upd (upd (upd (upd (fun _ => 0) 0 10) 1 40) 2 80) 3 4000)), .inl (cA, 16, .inl (fun _ => 0)), .inl (cA, 8, .inl (fun _ => 0)), .inl (cA, 256, .inl (fun _ => 0)), .inl (cA, 256, .inl (fun _ => 0)), .inl (cA, 20, .inl (fun _ => 0)), .inl (cA, 20, .inl (fun _ => 0)), .inl (cA, 20, .inl (fun _ => 0)), .inl (cA, 16, .inl (fun _ => 0)), .inl (cA, 16, .inl (fun _ => 0)), .inl (cA, 16, .inl (fun _ => 0)), .inl (cA, 80, .inl (fun _ => 0))]) rfl ?_
    exact k_vret C hM dX5_init_202 rfl
  ·
    have n_151 : i < 16 := lt_of_nle (N := 16) (k := i) c_151 (by omega) (by omega)
    refine z_aload_n C dX5_init_154 (pc' := 155) rfl rfl rfl ?_
    refine k_get C hK (i := 0) rfl rfl rfl inAX5 (k := 2) (by decide) aw_454 rfl dX5_init_155 (pc' := 158) rfl ?_
    refine z_iload_n C dX5_init_158 (pc' := 159) rfl rfl rfl ?_
    refine z_sipush C dX5_init_159 (pc' := 162) rfl (v := 9000) (by decide) ?_
    refine k_iast C hK (fun _ h => h) (i := 1) rfl rfl rfl (j := i) rfl (by omega) (by decide) dX5_init_162 (pc' := 163) rfl ?_
    refine z_iinc (L' := [.ref _, .int _]) C dX5_init_163 (pc' := 166) rfl rfl (iinc1 _) (by decide) (Nat.le_of_ble_eq_true rfl) rfl ?_
    refine z_goto C dX5_init_166 (pc' := 148) (by decide) ?_
    exact k_to (ih (i + 1) (by omega) (by omega)) rfl rfl rfl ⟨[], rfl⟩
