/-! offsets: both sides answer the same -/
theorem LN_congr {f g z : Nat → Int32} {n : Nat} {lo hi lo' hi' : Nat → Int} {o : Int} (h : ∀ w, w < 16 → lo w = lo' w ∧ hi w = hi' w) : LN f g z n lo hi o = LN f g z n lo' hi' o := by
  unfold LN
  exact sn_congr fun w hw => by rw [(h w hw).1, (h w hw).2]
theorem LN_n {f g z : Nat → Int32} {n : Nat} {lo hi : Nat → Int} {o : Int} (hf : ∀ j, j < n → ∃ w : Nat, w < 16 ∧ f j = nI w) (hlh : ∀ w, w < 16 → lo w ≤ hi w) : LN f g z n lo hi o ≤ n := by
  unfold LN
  have k := sn_sub (c := fun w => cN f g w n) (b := fun w => mbx f g w (vC f g z w n (lo w + o) (hi w + o)) n) (n := 16) fun w hw => Bst_le (Bst_C (by have := hlh w hw; omega))
  rw [k.2]
  have := tot_n (f := f) (g := g) (n := n) hf
  omega
theorem sn_mono {f g : Nat → Nat} {n : Nat} (h : ∀ j, j < n → f j ≤ g j) : snN f n ≤ snN g n := by
  induction n with
  | zero => exact Nat.le_refl _
  | succ n ih =>
    have i := ih fun j hj => h j (by omega)
    have := h n (by omega)
    unfold snN; omega
/-- down to an offset that the class tries, nothing that agreed is lost -/
theorem LN_down {f g z : Nat → Int32} {n : Nat} {lo hi : Nat → Int} {o o' : Int} (hlh : ∀ w, w < 16 → lo w ≤ hi w) (hle : o' ≤ o) (hc : ∀ j, j < n → ∀ w, w < 16 → rd f g w j → (z j).toInt - 5 - hi w ≤ o → (z j).toInt - 5 - hi w ≤ o') : LN f g z n lo hi o' ≤ LN f g z n lo hi o := by
  unfold LN
  refine sn_mono fun w hw => ?_
  have l := hlh w hw
  have B := Bst_C (f := f) (g := g) (z := z) (w := w) (n := n) (a := lo w + o) (b := hi w + o) (by omega)
  have B' := Bst_C (f := f) (g := g) (z := z) (w := w) (n := n) (a := lo w + o') (b := hi w + o') (by omega)
  have : mbx f g w (vC f g z w n (lo w + o) (hi w + o)) n ≤ mbx f g w (vC f g z w n (lo w + o') (hi w + o')) n := by
    rcases B.1 with q | ⟨x, x1, x2, x3⟩
    · omega
    · rw [← x3]
      refine Nat.le_trans (cA_mono (y := min x (hi w + o')) fun j hj ha => ?_) (B'.2 (min x (hi w + o')) (by omega) (by omega))
      have e := ha.2
      have k := hc j hj w hw ha.1 (by omega)
      exact ⟨ha.1, by omega, by omega⟩
  omega
theorem cand {f g z : Nat → Int32} {n : Nat} {hi : Nat → Int} (hf : ∀ j, j < n → ∃ w : Nat, w < 16 ∧ f j = nI w) {o : Int} (ho : -200 ≤ o) : ∃ o', -200 ≤ o' ∧ o' ≤ o ∧ (o' = -200 ∨ ∃ j, j < n ∧ ∃ w, w < 16 ∧ rd f g w j ∧ o' = (z j).toInt - 5 - hi w) ∧ ∀ j, j < n → ∀ w, w < 16 → rd f g w j → (z j).toInt - 5 - hi w ≤ o → (z j).toInt - 5 - hi w ≤ o' := by
  induction n with
  | zero => exact ⟨-200, by omega, ho, Or.inl rfl, fun j hj => absurd hj (Nat.not_lt_zero _)⟩
  | succ n ih =>
    obtain ⟨o', a1, a2, a3, a4⟩ := ih fun j hj => hf j (by omega)
    obtain ⟨w0, b1, b2⟩ := hf n (by omega)
    have one : ∀ w, w < 16 → rd f g w n → w = w0 := fun w hw hr => (nI_eq (by omega) (by omega)).mp (hr.1.symm.trans b2)
    by_cases q : g n = 1 ∧ (z n).toInt - 5 - hi w0 ≤ o ∧ o' < (z n).toInt - 5 - hi w0
    · refine ⟨(z n).toInt - 5 - hi w0, by omega, q.2.1, Or.inr ⟨n, by omega, w0, b1, ⟨b2, q.1⟩, rfl⟩, fun j hj w hw hr hl => ?_⟩
      by_cases r : j = n
      · subst r
        rw [one w hw hr]; exact Int.le_refl _
      · have := a4 j (by omega) w hw hr hl
        omega
    · refine ⟨o', a1, a2, ?_, fun j hj w hw hr hl => ?_⟩
      · rcases a3 with c | ⟨j, j1, c⟩
        · exact Or.inl c
        · exact Or.inr ⟨j, by omega, c⟩
      · by_cases r : j = n
        · subst r
          have e := one w hw hr
          subst e
          rcases Int.lt_or_le o' ((z j).toInt - 5 - hi w) with y | y
          · exact absurd ⟨hr.2, hl, y⟩ q
          · exact y
        · exact a4 j (by omega) w hw hr hl
theorem nI_min {a b : Nat} (ha : a < 1000) (hb : b < 1000) : mn (nI a) (nI b) = nI (min a b) := by
  rw [i_eq, t_mn, nI_toInt (by omega), nI_toInt (by omega), nI_toInt (by omega)]; omega
/-- what the class tries -/
theorem fw_s {S : St} {n : Nat} (h : RD S n) (hb : bd S 27 28) (hok : okH S 27 28) {i : Nat} (hi : i ≤ n) : ∃ o : Int, -200 ≤ o ∧ o ≤ 200 ∧ (fwF S n i).2 = nI (LN (S 7) (S 8) (S 9) n (iI S 27) (iI S 28) o) ∧ LN (S 7) (S 8) (S 9) n (iI S 27) (iI S 28) o ≤ LN (S 7) (S 8) (S 9) n (iI S 27) (iI S 28) (-200) ∧ ∀ j, j < i → ∀ w, w < 16 → rd (S 7) (S 8) w j → -200 ≤ (S 9 j).toInt - 5 - iI S 28 w → (S 9 j).toInt - 5 - iI S 28 w ≤ 200 → LN (S 7) (S 8) (S 9) n (iI S 27) (iI S 28) o ≤ LN (S 7) (S 8) (S 9) n (iI S 27) (iI S 28) ((S 9 j).toInt - 5 - iI S 28 w) := by
  have m2 : (-200 : Int32).toInt = -200 := rfl
  have p2 : (200 : Int32).toInt = 200 := rfl
  have hlh : ∀ w, w < 16 → iI S 27 w ≤ iI S 28 w := fun w hw => by have := hok w hw; rw [i32_le] at this; exact this
  have bnd : ∀ o, LN (S 7) (S 8) (S 9) n (iI S 27) (iI S 28) o ≤ n := fun o => LN_n h.2.1 hlh
  have hn := h.1
  induction i with
  | zero =>
    refine ⟨-200, by omega, by omega, ?_, Nat.le_refl _, fun j hj => absurd hj (Nat.not_lt_zero _)⟩
    show lo1 S (-200) n = _
    rw [lo1_s h hb hok (by unfold rg; rw [m2]; omega), m2]
  | succ i ih =>
    obtain ⟨o, o1, o2, o3, o4, o5⟩ := ih (by omega)
    obtain ⟨w, a, b⟩ := h.2.1 i (by omega)
    have e : ∀ c, c ≠ 31 → (fwF S n i).1 c = S c := fun c hc => fwF_o hc i
    unfold fwF
    generalize hX : fwF S n i = X at *
    have e7 := e 7 (by decide)
    have e8 := e 8 (by decide)
    have e9 := e 9 (by decide)
    have e27 := e 27 (by decide)
    have e28 := e 28 (by decide)
    have ew : wn (S 7 i) = w := by rw [b]; exact wn_nI (by omega)
    rw [ew]
    have z := h.2.2.2 i (by omega)
    have hbw := (hb w a).2
    unfold rg at z hbw
    have f1 : (X.1 9 i - 5).toInt = (S 9 i).toInt - 5 := by rw [e9, t_sub] <;> rw [show (5 : Int32).toInt = 5 from rfl] <;> omega
    have f2 : (X.1 9 i - 5 - X.1 28 w).toInt = (S 9 i).toInt - 5 - iI S 28 w := by
      rw [t_sub (by rw [f1, e28]; omega) (by rw [f1, e28]; omega), f1, e28]; rfl
    have one : ∀ v, v < 16 → rd (S 7) (S 8) v i → v = w := fun v hv hr => (nI_eq (by omega) (by omega)).mp (hr.1.symm.trans b)
    generalize X.1 9 i - 5 - X.1 28 w = cd at *
    by_cases q : X.1 8 i = 1 ∧ -200 ≤ cd ∧ cd ≤ 200
    · rw [if_pos q]
      obtain ⟨q1, q2, q3⟩ := q
      rw [i32_le, m2] at q2
      rw [i32_le, p2] at q3
      have g1 : lo1 X.1 cd n = nI (LN (S 7) (S 8) (S 9) n (iI S 27) (iI S 28) cd.toInt) := by
        have k := lo1_s (S := X.1) (n := n) (h.of e7 e8 e9) (fun v hv => by rw [e27, e28]; exact hb v hv) (fun v hv => by rw [e27, e28]; exact hok v hv) (o := cd) ⟨q2, q3⟩
        have k27 : iI X.1 27 = iI S 27 := by funext v; unfold iI; rw [e27]
        have k28 : iI X.1 28 = iI S 28 := by funext v; unfold iI; rw [e28]
        rw [e7, e8, e9, k27, k28] at k; exact k
      have b1 := bnd o
      have b2 := bnd cd.toInt
      have m : (mlF X.1 cd n n, mn X.2 (lo1 X.1 cd n)).2 = nI (min (LN (S 7) (S 8) (S 9) n (iI S 27) (iI S 28) o) (LN (S 7) (S 8) (S 9) n (iI S 27) (iI S 28) cd.toInt)) := by
        show mn X.2 (lo1 X.1 cd n) = _
        rw [o3, g1]; exact nI_min (by omega) (by omega)
      rw [m]
      by_cases r : LN (S 7) (S 8) (S 9) n (iI S 27) (iI S 28) o ≤ LN (S 7) (S 8) (S 9) n (iI S 27) (iI S 28) cd.toInt
      · refine ⟨o, o1, o2, by rw [Nat.min_eq_left r], o4, fun j hj v hv hr h1 h2 => ?_⟩
        by_cases s : j = i
        · subst s
          have ev := one v hv hr
          subst ev
          rw [← f2]; exact r
        · exact o5 j (by omega) v hv hr h1 h2
      · refine ⟨cd.toInt, q2, q3, by rw [Nat.min_eq_right (by omega)], by omega, fun j hj v hv hr h1 h2 => ?_⟩
        by_cases s : j = i
        · subst s
          have ev := one v hv hr
          subst ev
          rw [← f2]; exact Nat.le_refl _
        · have := o5 j (by omega) v hv hr h1 h2
          omega
    · rw [if_neg q]
      refine ⟨o, o1, o2, o3, o4, fun j hj v hv hr h1 h2 => ?_⟩
      by_cases s : j = i
      · subst s
        have ev := one v hv hr
        subst ev
        rw [← f2] at h1 h2
        exact absurd ⟨by rw [e8]; exact hr.2, by rw [i32_le, m2]; exact h1, by rw [i32_le, p2]; exact h2⟩ q
      · exact o5 j (by omega) v hv hr h1 h2
theorem st_offset {t : Nat} {σ τ : St} (h : RB t σ τ) {n : Nat} (hn : n ≤ 20) (e5 : σ 0 5 = nI n) (q : Int32) {r1 r2 : Int32} {u1 u2 : St} (h1 : (fun r u => (¬ inR q 0 3 ∧ r = -999999 ∧ u = σ) ∨ (q = 3 ∧ ((¬ okH (fb2 (fb1 σ 16) n) 27 28 ∧ r = -9 ∧ u = (fb2 (fb1 σ 16) n)) ∨ (okH (fb2 (fb1 σ 16) n) 27 28 ∧ r = (fwF (fb2 (fb1 σ 16) n) n n).2 ∧ u = (fwF (fb2 (fb1 σ 16) n) n n).1))) ∨ (inR q 0 3 ∧ ¬ q = 3 ∧ u = (fb2 (fb1 σ 16) n) ∧ ∃ ag : Int32, ((¬ (okH (fb2 (fb1 σ 16) n) 27 28 ∧ okH (fb2 (fb1 σ 16) n) 29 30) ∧ ag = 0) ∨ ((okH (fb2 (fb1 σ 16) n) 27 28 ∧ okH (fb2 (fb1 σ 16) n) 29 30) ∧ ag = mx 0 (goO (fb2 (fb1 σ 16) n) 16 - loO (fb2 (fb1 σ 16) n) 16 + 1))) ∧ r = if q = 2 then ag else if ag = 0 then -1000000 else if q = 0 then loO (fb2 (fb1 σ 16) n) 16 else goO (fb2 (fb1 σ 16) n) 16)) r1 u1) (h2 : (fun r u => (¬ inR q 0 3 ∧ r = -999999 ∧ u = τ) ∨ (inR q 0 3 ∧ u = (hR2 (hR1 τ 16) n) ∧ ∃ T : Nat, ((okH (hR2 (hR1 τ 16) n) 15 16 ∧ T = 401) ∨ (¬ okH (hR2 (hR1 τ 16) n) 15 16 ∧ T = 0)) ∧ r = if q = 0 then oF1 (hR2 (hR1 τ 16) n) n T else if q = 1 then oF2 (hR2 (hR1 τ 16) n) n T else if q = 2 then oF3 (hR2 (hR1 τ 16) n) n T else oF4 (hR2 (hR1 τ 16) n) n T)) r2 u2) (ht : t < 600) : r1 = r2 ∧ RB (t + 1) u1 u2 := by
  have h' := rb_skip h ht
  have m2 : (-200 : Int32).toInt = -200 := rfl
  obtain ⟨n', hn', e5', h7, h8, h9⟩ := h.2.2.2.1
  have hnn : n' = n := (nI_eq (by omega) (by omega)).mp (e5'.symm.trans e5)
  subst hnn
  have hRD : RD σ n' := ⟨hn', h7, h8, h9⟩
  have fbo : ∀ c, c ≠ 27 → c ≠ 28 → c ≠ 29 → c ≠ 30 → fb2 (fb1 σ 16) n' c = σ c := fun c a b d e => by rw [fb2_o a b d e, fb1_o a b d e]
  have hro : ∀ c, c ≠ 15 → c ≠ 16 → hR2 (hR1 τ 16) n' c = τ c := fun c a b => by rw [hR2_o a b, hR1_o a b]
  have hRT : RD (fb1 σ 16) n' := hRD.of (fb1_o (by decide) (by decide) (by decide) (by decide) 16) (fb1_o (by decide) (by decide) (by decide) (by decide) 16) (fb1_o (by decide) (by decide) (by decide) (by decide) 16)
  have F := fb_s hRT (fun w hw => fb1_at hw) (Nat.le_refl n')
  have HE := hands_eq (U := hR1 τ 16) hRT (by rw [hR1_o (by decide) (by decide), fb1_o (by decide) (by decide) (by decide) (by decide)]; exact h.e (by simp [shc])) (by rw [hR1_o (by decide) (by decide), fb1_o (by decide) (by decide) (by decide) (by decide)]; exact h.e (by simp [shc])) (by rw [hR1_o (by decide) (by decide), fb1_o (by decide) (by decide) (by decide) (by decide)]; exact h.e (by simp [shc])) (fun w hw => by
    obtain ⟨a, b, _⟩ := fb1_at (σ := σ) hw
    obtain ⟨c, d⟩ := hR1_at (σ := τ) hw
    rw [a, b, c, d]; exact ⟨rfl, rfl⟩) (Nat.le_refl n')
  rw [fb1_o (by decide) (by decide) (by decide) (by decide), fb1_o (by decide) (by decide) (by decide) (by decide), fb1_o (by decide) (by decide) (by decide) (by decide)] at F
  -- frames
  have fr1 : ∀ u w : St, (∀ c, c ≠ 27 → c ≠ 28 → c ≠ 29 → c ≠ 30 → c ≠ 31 → u c = σ c) → (∀ c, c ≠ 15 → c ≠ 16 → w c = τ c) → RB (t + 1) u w := fun u w hu hw => h'.frame (fun k hk => by unfold shc at hk; exact hu k (by omega) (by omega) (by omega) (by omega) (by omega)) (by rw [hu 25 (by decide) (by decide) (by decide) (by decide) (by decide)]) (by rw [hu 26 (by decide) (by decide) (by decide) (by decide) (by decide)]) (fun k hk => by unfold shc at hk; exact hw k (by omega) (by omega))
  have B7 := fbo 7 (by decide) (by decide) (by decide) (by decide)
  have B8 := fbo 8 (by decide) (by decide) (by decide) (by decide)
  have B9 := fbo 9 (by decide) (by decide) (by decide) (by decide)
  have H7 := (hro 7 (by decide) (by decide)).trans (h.e (k := 7) (by simp [shc]))
  have H8 := (hro 8 (by decide) (by decide)).trans (h.e (k := 8) (by simp [shc]))
  have H9 := (hro 9 (by decide) (by decide)).trans (h.e (k := 9) (by simp [shc]))
  generalize hB : fb2 (fb1 σ 16) n' = B at *
  generalize hH : hR2 (hR1 τ 16) n' = H at *
  have RDB : RD B n' := hRD.of B7 B8 B9
  have RDH : RD H n' := hRD.of H7 H8 H9
  have bdB : bd B 27 28 := fun w hw => (F w hw).1
  have bdH : bd H 15 16 := fun w hw => by rw [(HE w hw).1, (HE w hw).2]; exact (F w hw).1
  have okE : okH H 15 16 ↔ okH B 27 28 := ⟨fun k w hw => by rw [← (HE w hw).1, ← (HE w hw).2]; exact k w hw, fun k w hw => by rw [(HE w hw).1, (HE w hw).2]; exact k w hw⟩
  have fwo : ∀ c, c ≠ 27 → c ≠ 28 → c ≠ 29 → c ≠ 30 → c ≠ 31 → (fwF B n' n').1 c = σ c := fun c a b d e g => (fwF_o g n').trans (fbo c a b d e)
  have fbo' : ∀ c, c ≠ 27 → c ≠ 28 → c ≠ 29 → c ≠ 30 → c ≠ 31 → B c = σ c := fun c a b d e _ => fbo c a b d e
  rcases h2 with ⟨n2, a2, b2⟩ | ⟨n2, b2, T, hT, a2⟩
  · rcases h1 with ⟨n1, a1, b1⟩ | ⟨n1, _⟩ | ⟨n1, _⟩
    · subst a1; subst b1; subst a2; subst b2; exact ⟨rfl, h'⟩
    · exact absurd (by subst n1; decide) n2
    · exact absurd n1 n2
  · by_cases okb : ¬ okH B 27 28
    · -- hands contradict each other
      have T0 : T = 0 := (hT.resolve_left fun x => okb (okE.mp x.1)).2
      subst T0
      rcases h1 with ⟨n1, a1, b1⟩ | ⟨n1, c1⟩ | ⟨n1, nq, b1, ag, hag, a1⟩
      · exact absurd n2 n1
      · obtain ⟨_, a1, b1⟩ := c1.resolve_right fun x => okb x.1
        refine ⟨?_, ?_⟩
        · rw [a1, a2, n1]; rfl
        · rw [b1, b2]; exact fr1 B H fbo' hro
      · have ag0 : ag = 0 := (hag.resolve_right fun x => okb x.1.1).2
        refine ⟨?_, by rw [b1, b2]; exact fr1 B H fbo' hro⟩
        rw [a1, a2, ag0]
        by_cases q2 : q = 2
        · subst q2; rfl
        · by_cases q0 : q = 0
          · subst q0; rfl
          · have q1 : q = 1 := by
              have z := inR_rg (x := 0) (y := 3) rfl rfl n1
              rw [i_eq] at nq q2 q0 ⊢
              have k3 : (3 : Int32).toInt = 3 := rfl
              have k2 : (2 : Int32).toInt = 2 := rfl
              have k1 : (1 : Int32).toInt = 1 := rfl
              have k0 : (0 : Int32).toInt = 0 := rfl
              unfold rg at z; omega
            subst q1; rfl
    · have okb : okH B 27 28 := Classical.byContradiction okb
      have okh := okE.mpr okb
      have T1 : T = 401 := (hT.resolve_right fun x => x.1 okh).2
      subst T1
      have hlh : ∀ w, w < 16 → iI B 27 w ≤ iI B 28 w := fun w hw => by have := okb w hw; rw [i32_le] at this; exact this
      -- the reference at each offset
      have OF : ∀ t, t < 401 → oFn H n' t = nI (LN (σ 7) (σ 8) (σ 9) n' (iI B 27) (iI B 28) ((t : Int) - 200)) := fun t ht => by
        have eo := oO_t (t := t) (by omega)
        have k := rOut_s RDH bdH okh (o := oO t) (by unfold rg; rw [eo]; omega)
        rw [eo, H7, H8, H9] at k
        rw [LN_congr (lo' := iI B 27) (hi' := iI B 28) fun w hw => ⟨by unfold iI; rw [(HE w hw).1], by unfold iI; rw [(HE w hw).2]⟩] at k
        exact k
      have LB : ∀ o, LN (σ 7) (σ 8) (σ 9) n' (iI B 27) (iI B 28) o ≤ 20 := fun o => Nat.le_trans (LN_n h7 hlh) hn'
      rcases h1 with ⟨n1, a1, b1⟩ | ⟨n1, c1⟩ | ⟨n1, nq, b1, ag, hag, a1⟩
      · exact absurd n2 n1
      · -- the fewest
        obtain ⟨_, a1, b1⟩ := c1.resolve_left fun x => x.1 okb
        refine ⟨?_, by rw [b1, b2]; exact fr1 _ H fwo hro⟩
        have a2' : r2 = oF4 H n' 401 := by
          rw [n1, if_neg (by decide), if_neg (by decide), if_neg (by decide)] at a2
          exact a2
        rw [a1, a2']
        rcases oF4_s (H := H) (n := n') (F := fun t => LN (σ 7) (σ 8) (σ 9) n' (iI B 27) (iI B 28) ((t : Int) - 200)) (T := 401) (Nat.le_refl _) (fun t ht => ⟨OF t ht, LB _⟩) with z | ⟨t1, x1, x2, x3⟩
        · exact absurd z (by decide)
        obtain ⟨o, o1, o2, o3, o4, o5⟩ := fw_s RDB bdB okb (Nat.le_refl n')
        rw [B7, B8, B9] at o3 o4 o5
        rw [o3, x2]
        have le1 := x3 (o + 200).toNat (by omega)
        have e1 : (((o + 200).toNat : Nat) : Int) - 200 = o := by omega
        rw [e1] at le1
        obtain ⟨o', c1, c2, c3, c4⟩ := cand (f := σ 7) (g := σ 8) (z := σ 9) (n := n') (hi := iI B 28) h7 (o := (t1 : Int) - 200) (by omega)
        have dn := LN_down (f := σ 7) (g := σ 8) (z := σ 9) (n := n') (lo := iI B 27) (hi := iI B 28) hlh c2 c4
        have le2 : LN (σ 7) (σ 8) (σ 9) n' (iI B 27) (iI B 28) o ≤ LN (σ 7) (σ 8) (σ 9) n' (iI B 27) (iI B 28) o' := by
          rcases c3 with d | ⟨j, j1, w, w1, w2, w3⟩
          · rw [d]; exact o4
          · rw [w3]; exact o5 j j1 w w1 w2 (by omega) (by omega)
        exact congrArg nI (show LN (σ 7) (σ 8) (σ 9) n' (iI B 27) (iI B 28) o = LN (σ 7) (σ 8) (σ 9) n' (iI B 27) (iI B 28) ((t1 : Int) - 200) by omega)
      · -- the least, the greatest, how many
        refine ⟨?_, by rw [b1, b2]; exact fr1 B H fbo' hro⟩
        have l29 : ∀ w, w < 16 → rg (B 29 w) (-100000) 100000 ∧ rg (B 30 w) (-100000) 100000 := fun w hw => by
          obtain ⟨_, k1, k2⟩ := F w hw
          refine ⟨⟨((k1 _).mp (Int.le_refl _)).1, (k1 _).mpr ⟨by omega, fun j hj _ => by have := h9 j hj; unfold rg at this; omega⟩⟩, ⟨(k2 _).mpr ⟨by omega, fun j hj _ => by have := h9 j hj; unfold rg at this; omega⟩, ((k2 _).mp (Int.le_refl _)).1⟩⟩
        obtain ⟨L1, L2⟩ := lo_s (S := B) (fun w hw => by have a := l29 w hw; have b := bdB w hw; unfold rg at a b ⊢; omega) (Nat.le_refl 16)
        obtain ⟨G1, G2⟩ := go_s (S := B) (fun w hw => by have a := l29 w hw; have b := bdB w hw; unfold rg at a b ⊢; omega) (Nat.le_refl 16)
        have lm := ((L1 _).mp (Int.le_refl _)).1
        have gm := ((G1 _).mp (Int.le_refl _)).1
        have Z : ∀ t, t < 401 → (oFn H n' t = 0 ↔ okH B 29 30 ∧ (loO B 16).toInt ≤ (t : Int) - 200 ∧ (t : Int) - 200 ≤ (goO B 16).toInt) := fun t ht => by
          have lb := LB ((t : Int) - 200)
          rw [OF t ht, nI_eq0 (by omega), L1, G1]
          unfold LN
          rw [sn_zero]
          refine ⟨fun k => ?_, fun k w hw => ?_⟩
          · have k' : ∀ w, w < 16 → iI B 29 w ≤ iI B 30 w ∧ iI B 29 w - iI B 28 w ≤ (t : Int) - 200 ∧ (t : Int) - 200 ≤ iI B 30 w - iI B 27 w := fun w hw => (agw (rL := iI B 29 w) (rH := iI B 30 w) (bdB w hw).1 (bdB w hw).2 (hlh w hw) (by omega) h9 (F w hw).2.1 (F w hw).2.2).mp (k w hw)
            exact ⟨fun w hw => by rw [i32_le]; exact (k' w hw).1, ⟨by omega, fun w hw => (k' w hw).2.1⟩, by omega, fun w hw => (k' w hw).2.2⟩
          · exact (agw (rL := iI B 29 w) (rH := iI B 30 w) (bdB w hw).1 (bdB w hw).2 (hlh w hw) (by omega) h9 (F w hw).2.1 (F w hw).2.2).mpr ⟨by have := k.1 w hw; rw [i32_le] at this; exact this, k.2.1.2 w hw, k.2.2.2 w hw⟩
        have one : (1 : Int32).toInt = 1 := rfl
        have ex : ∃ A Q : Nat, A < 1000 ∧ (∀ t, t < 401 → (oFn H n' t = 0 ↔ A ≤ t ∧ t < Q)) ∧ ((Q ≤ A ∧ ag = 0) ∨ (A < Q ∧ Q ≤ 401 ∧ (loO B 16).toInt = (A : Int) - 200 ∧ (goO B 16).toInt = (Q : Int) - 201 ∧ ag = nI (Q - A))) := by
          rcases hag with ⟨k1, k2⟩ | ⟨k1, k2⟩
          · exact ⟨0, 0, by omega, fun t ht => ⟨fun y => absurd ⟨okb, ((Z t ht).mp y).1⟩ k1, fun y => absurd y.2 (Nat.not_lt_zero _)⟩, Or.inl ⟨Nat.le_refl _, k2⟩⟩
          · have ea : ag.toInt = max 0 ((goO B 16).toInt - (loO B 16).toInt + 1) := by
              rw [k2, t_mx, t_add (by rw [t_sub (by omega) (by omega), one]; omega) (by rw [t_sub (by omega) (by omega), one]; omega), t_sub (by omega) (by omega), one]; rfl
            by_cases y : (loO B 16).toInt ≤ (goO B 16).toInt
            · refine ⟨((loO B 16).toInt + 200).toNat, ((goO B 16).toInt + 201).toNat, by omega, fun t ht => ?_, Or.inr ⟨by omega, by omega, by omega, by omega, ?_⟩⟩
              · rw [Z t ht]
                exact ⟨fun x => by have := x.2; omega, fun x => ⟨k1.2, by omega, by omega⟩⟩
              · rw [i_eq, ea, nI_toInt (by omega)]; omega
            · refine ⟨0, 0, by omega, fun t ht => ⟨fun x => ?_, fun x => absurd x.2 (Nat.not_lt_zero _)⟩, Or.inl ⟨Nat.le_refl _, ?_⟩⟩
              · have := ((Z t ht).mp x).2; omega
              · rw [i_eq, ea, show (0 : Int32).toInt = 0 from rfl]; omega
        obtain ⟨A, Q, hA, hP, hx⟩ := ex
        obtain ⟨f3, f1, f2⟩ := oF_s (H := H) (n := n') (A := A) (Q := Q) hA (T := 401) (Nat.le_refl _) hP
        rw [a1, a2, f1, f2, f3]
        rcases hx with ⟨x1, x2⟩ | ⟨x1, x2, x3, x4, x5⟩
        · rw [x2, if_pos rfl, if_neg (show ¬ A < min 401 Q by omega), if_neg (show ¬ A < min 401 Q by omega), show min 401 Q - A = 0 by omega]
          by_cases q2 : q = 2
          · subst q2; rfl
          · by_cases q0 : q = 0
            · subst q0; rfl
            · have q1 : q = 1 := by
                have z := inR_rg (x := 0) (y := 3) rfl rfl n1
                rw [i_eq] at nq q2 q0 ⊢
                have k3 : (3 : Int32).toInt = 3 := rfl
                have k2 : (2 : Int32).toInt = 2 := rfl
                have k0 : (0 : Int32).toInt = 0 := rfl
                unfold rg at z; omega
              subst q1; rfl
        · have agn : ¬ ag = 0 := fun y => by
            rw [x5, nI_eq0 (by omega)] at y; omega
          have g1 : loO B 16 = oO A := by rw [i_eq, oO_t hA]; exact x3
          have g2 : goO B 16 = oO (Q - 1) := by rw [i_eq, oO_t (by omega)]; omega
          rw [if_neg agn, if_pos (show A < min 401 Q by omega), if_pos (show A < min 401 Q by omega), show min 401 Q = Q by omega, g1, g2, x5]
          by_cases q2 : q = 2
          · subst q2; rfl
          · by_cases q0 : q = 0
            · subst q0; rfl
            · have q1 : q = 1 := by
                have z := inR_rg (x := 0) (y := 3) rfl rfl n1
                rw [i_eq] at nq q2 q0 ⊢
                have k3 : (3 : Int32).toInt = 3 := rfl
                have k2 : (2 : Int32).toInt = 2 := rfl
                have k0 : (0 : Int32).toInt = 0 := rfl
                unfold rg at z; omega
              subst q1; rfl
