/-! cuts, turnings, miles -/
theorem t_ge (x y : Int32) : (if y ≤ x then x else y).toInt = max x.toInt y.toInt := by
  by_cases h : y ≤ x
  · rw [if_pos h]; rw [i32_le] at h; omega
  · rw [if_neg h]; rw [i32_le] at h; omega
theorem t_le (x y : Int32) : (if x ≤ y then x else y).toInt = min x.toInt y.toInt := by
  by_cases h : x ≤ y
  · rw [if_pos h]; rw [i32_le] at h; omega
  · rw [if_neg h]; rw [i32_le] at h; omega
theorem gdR_s (f : Nat → Int32) (n : Nat) : (gdR f (n + 1)).toInt = max (gdR f n).toInt (f n).toInt := t_ge _ _
theorem ldR_s (f : Nat → Int32) (n : Nat) : (ldR f (n + 1)).toInt = min (ldR f n).toInt (f n).toInt := t_le _ _
theorem gd_eq {f : Nat → Int32} (h : ∀ j, j < 5 → rg (f j) 0 99) : gdC f 4 = gdR f 5 := by
  have a0 := h 0 (by omega); have a1 := h 1 (by omega); have a2 := h 2 (by omega); have a3 := h 3 (by omega); have a4 := h 4 (by omega)
  unfold rg at a0 a1 a2 a3 a4
  rw [i_eq]; rw [gdR_s, gdR_s, gdR_s, gdR_s, gdR_s, show (gdR f 0).toInt = 0 from rfl]; simp only [gdC, t_mx, Nat.zero_add, Nat.reduceAdd]; omega
theorem ld_eq {f : Nat → Int32} (h : ∀ j, j < 5 → rg (f j) 0 99) : ldC f 4 = ldR f 5 := by
  have a0 := h 0 (by omega); have a1 := h 1 (by omega); have a2 := h 2 (by omega); have a3 := h 3 (by omega); have a4 := h 4 (by omega)
  unfold rg at a0 a1 a2 a3 a4
  have e : (99 : Int32).toInt = 99 := rfl
  rw [i_eq]; rw [ldR_s, ldR_s, ldR_s, ldR_s, ldR_s, show (ldR f 0).toInt = 99 from rfl]; simp only [ldC, t_mn, Nat.zero_add, Nat.reduceAdd]; omega
theorem gd_rg {f : Nat → Int32} (h : ∀ j, j < 5 → rg (f j) 0 99) : rg (gdC f 4) 0 99 ∧ rg (ldC f 4) 0 99 ∧ (ldC f 4).toInt ≤ (gdC f 4).toInt := by
  have a0 := h 0 (by omega); have a1 := h 1 (by omega); have a2 := h 2 (by omega); have a3 := h 3 (by omega); have a4 := h 4 (by omega)
  unfold rg at a0 a1 a2 a3 a4
  unfold rg
  simp only [gdC, ldC, t_mx, t_mn, Nat.zero_add, Nat.reduceAdd]; omega
theorem full_rg {f : Nat → Int32} (h : ∀ j, j < 5 → rg (f j) 0 99) : rg (fullN f) 0 99 := by
  obtain ⟨⟨a, b⟩, ⟨c, d⟩, e⟩ := gd_rg h
  unfold fullN rg; rw [t_sub (by omega) (by omega)]; omega
theorem thin_rg {f : Nat → Int32} {th : Int32} (h : ∀ j, j < 5 → rg (f j) 0 99) (ht : rg th 0 30) : rg (thinN f th) 0 99 := by
  have a := full_rg h
  unfold rg at a ht
  unfold thinN
  by_cases c : f 0 = gdC f 4
  · rw [if_pos c]; unfold rg; rw [t_mx, t_sub (by omega) (by omega), Int32.toInt_zero]; omega
  · rw [if_neg c]; exact a
theorem rem2 {x : Int32} (h : rg x 0 99) : ∃ n, n ≤ 99 ∧ x = nI n ∧ x - x / 2 * 2 = nI (n % 2) := by
  obtain ⟨n, a, b⟩ := nI_ofR (x := x) (n := 99) (by rw [i32_le, Int32.toInt_zero]; exact h.1) (by rw [i32_le]; exact h.2) (by omega)
  exact ⟨n, a, b, by rw [b]; exact pk_rem (d := 2) (by omega) (by omega) (by omega)⟩
theorem even_rg {f : Nat → Int32} {th : Int32} (h : ∀ j, j < 5 → rg (f j) 0 99) (ht : rg th 0 30) : rg (evenN f th) 0 100 := by
  obtain ⟨n, a, b, c⟩ := rem2 (thin_rg h ht)
  unfold evenN; rw [c, b, nI_add]; unfold rg; rw [nI_toInt (by omega)]; omega
theorem need_rg {f : Nat → Int32} {kd : Nat} {th : Int32} (h : ∀ j, j < 5 → rg (f j) 0 99) (ht : rg th 0 30) : rg (needN f kd th) 0 100 := by
  unfold needN
  by_cases c : kd = 0
  · rw [if_pos c]; have := full_rg h; exact ⟨this.1, by have := this.2; omega⟩
  · rw [if_neg c]
    by_cases d : kd = 1
    · rw [if_pos d]; have := thin_rg h ht; exact ⟨this.1, by have := this.2; omega⟩
    · rw [if_neg d]; exact even_rg h ht
theorem cut2_eq {f : Nat → Int32} {kd : Nat} {th : Int32} (h : ∀ j, j < 5 → rg (f j) 0 99) (ht : rg th 0 30) (hk : kd ≠ 0) : cut2 f kd th = thinN f th := by
  have a := full_rg h
  unfold cut2 thinN cut1
  rw [if_neg hk, ← gd_eq h, ← ld_eq h]
  show (if f 0 = gdC f 4 then (if th ≤ fullN f then fullN f - th else 0) else fullN f) = _
  by_cases c : f 0 = gdC f 4
  · rw [if_pos c, if_pos c]
    unfold rg at a ht
    by_cases d : th ≤ fullN f
    · rw [if_pos d, i_eq, t_mx, t_sub (by omega) (by omega), Int32.toInt_zero]; rw [i32_le] at d; omega
    · rw [if_neg d, i_eq, t_mx, t_sub (by omega) (by omega), Int32.toInt_zero]; rw [i32_le] at d; omega
  · rw [if_neg c, if_neg c]
theorem need_eq {f : Nat → Int32} {kd : Nat} {th : Int32} (h : ∀ j, j < 5 → rg (f j) 0 99) (ht : rg th 0 30) (hk : kd ≤ 2) : needN f kd th = cutV f kd th := by
  rcases (show kd = 0 ∨ kd = 1 ∨ kd = 2 by omega) with q | q | q <;> subst q
  · unfold needN cutV; rw [if_pos rfl, if_neg (by decide)]
    unfold cut2; rw [if_pos rfl]; unfold cut1; rw [← gd_eq h, ← ld_eq h]; rfl
  · unfold needN cutV; rw [if_neg (by decide), if_pos rfl, if_neg (by decide), cut2_eq h ht (by decide)]
  · unfold needN cutV; rw [if_neg (by decide), if_neg (by decide), if_pos rfl, cut2_eq h ht (by decide)]; rfl
theorem RB.wh {T : Nat} {σ τ : St} (h : RB T σ τ) {k : Nat} (hk : k < 16) : rg (σ 1 k) 6000 9200 ∧ rg (σ 3 k) 0 20 ∧ rg (σ 4 k) 0 (500 * T) ∧ ∀ j, j < 5 → rg (σ (100 + 2 * k) j) 0 99 := h.2.2.2.2.2.1 k hk
theorem RB.th {T : Nat} {σ τ : St} (h : RB T σ τ) : rg (σ 0 0) 0 30 := h.2.2.2.2.2.2.2.1.2.2.2
theorem kd_in {q : Int32} {kd : Nat} (hk : kd ≤ 2) (e : q = nI kd) : inR q 0 2 := e ▸ inR_nI (n := 2) hk (by omega)
theorem st_cut {t : Nat} {σ τ : St} (h : RB t σ τ) {z : Nat} (hz : z < 1000000) (e3 : σ 0 3 = nI z) (q w : Int32) {r1 r2 : Int32} {u1 u2 : St} (h1 : (fun r u => (¬ (inR q 0 2 ∧ isW w) ∧ r = -1 ∧ u = σ) ∨ (∃ k kd : Nat, k < 16 ∧ kd ≤ 2 ∧ w = nI k ∧ q = nI kd ∧ u = up2 σ 0 3 (nI (z + tk kd)) ∧ r = needN (σ (100 + 2 * k)) kd (σ 0 0))) r1 u1) (h2 : (fun r u => (¬ (inR q 0 2 ∧ isW w) ∧ r = -1 ∧ u = τ) ∨ (∃ k kd : Nat, k < 16 ∧ kd ≤ 2 ∧ w = nI k ∧ q = nI kd ∧ u = up2 τ 0 3 (nI (z + tk kd)) ∧ r = cutV (τ (100 + 2 * k)) kd (τ 0 0))) r2 u2) (ht : t < 600) : r1 = r2 ∧ RB (t + 1) u1 u2 := by
  have h' := rb_skip h ht
  have e0 := h.e (k := 0) (by simp [shc])
  obtain ⟨z', hz1, hz2⟩ := h.2.2.2.2.1
  have hT := h.1
  have hzz : z' = z := (nI_eq (by omega) (by omega)).mp (hz2.symm.trans e3)
  subst hzz
  rcases h1 with ⟨n1, a1, b1⟩ | ⟨k, kd, hk, hkd, ew, eq, b1, a1⟩ <;> rcases h2 with ⟨n2, a2, b2⟩ | ⟨k2, kd2, hk2, hkd2, ew2, eq2, b2, a2⟩
  · subst a1; subst b1; subst a2; subst b2; exact ⟨rfl, h'⟩
  · exact absurd ⟨kd_in hkd2 eq2, ew2 ▸ isW_nI hk2⟩ n1
  · exact absurd ⟨kd_in hkd eq, ew ▸ isW_nI hk⟩ n2
  · have ek : k2 = k := (nI_eq (by omega) (by omega)).mp (ew2.symm.trans ew)
    have ekd : kd2 = kd := (nI_eq (by omega) (by omega)).mp (eq2.symm.trans eq)
    subst ek; subst ekd
    have htk : tk kd2 ≤ 111 := by unfold tk; split; omega; split <;> omega
    refine ⟨?_, ?_⟩
    · rw [a1, a2, e0, h.e (k := 100 + 2 * k2) (by simp [shc])]; exact need_eq (h.wh hk).2.2.2 h.th hkd
    · rw [b1, b2]; exact up_03 h' _ ⟨_, by omega, rfl⟩
theorem tk_c (σ : St) {c c' : Nat} (g : Int32) (n j : Nat) (hc : c' ≠ c) : tkL σ c g n c' j = σ c' j := by
  induction n with
  | zero => rfl
  | succ n ih => show up2 _ _ _ _ c' j = _; rw [up2_c _ _ _ _ hc]; exact ih
theorem tk_rb {T : Nat} {σ τ : St} (h : RB T σ τ) {k : Nat} (hk : k < 16) {g : Int32} (hg : rg g 0 300) {n : Nat} (hn : n ≤ 5) : RB T (tkL σ (100 + 2 * k) g n) (tkL τ (100 + 2 * k) g n) := by
  induction n with
  | zero => exact h
  | succ n ih =>
    have ih := ih (by omega)
    have e := ih.e (k := 100 + 2 * k) (by simp [shc])
    show RB T (up2 _ _ _ _) (up2 _ _ _ _)
    rw [e]
    refine up_D ih _ _ _ ?_
    have a := (ih.wh hk).2.2.2 n (by omega)
    unfold rg at a hg ⊢
    rw [t_mx, t_sub (by omega) (by omega), Int32.toInt_zero]; omega
theorem turn_rb {T : Nat} {σ τ : St} (h : RB T σ τ) {k : Nat} (hk : k < 16) {cut l : Int32} (hc : rg cut 0 100) (hl : rg l 0 99) (hs : ¬ σ 1 k - 2 * cut < 6000) : RB T (g_turn σ k cut l) (g_turn τ k cut l) ∧ g_turn σ k cut l 1 k = g_turn τ k cut l 1 k := by
  have hg : rg (l + cut) 0 300 := by unfold rg at hc hl ⊢; rw [t_add (by omega) (by omega)]; omega
  have h1 := tk_rb h hk hg (n := 5) (by omega)
  have e2 : (2 * cut).toInt = 2 * cut.toInt := by
    unfold rg at hc; rw [t_mul] <;> rw [show (2 : Int32).toInt = 2 from rfl] <;> omega
  have h2 := up_1 h1 k (σ 1 k - 2 * cut) (by
    have a := (h.wh hk).1
    rw [i32_lt, show (6000 : Int32).toInt = 6000 from rfl] at hs
    unfold rg at a hc ⊢
    rw [t_sub (by omega) (by omega)] at hs ⊢
    omega)
  have h3 := up_4 h2 k 0 ⟨by show (0:Int) ≤ 0; omega, by show (0:Int) ≤ _; omega⟩
  have e0 := h3.e (k := 0) (by simp [shc])
  have h4 := up_02 h3 (up2 (up2 (tkL σ (100 + 2 * k) (l + cut) 5) 1 k (σ 1 k - 2 * cut)) 4 k 0 0 2 + 1)
  have e1 := h.e (k := 1) (by simp [shc])
  have x1 : g_turn σ k cut l = up2 (up2 (up2 (tkL σ (100 + 2 * k) (l + cut) 5) 1 k (σ 1 k - 2 * cut)) 4 k 0) 0 2 (up2 (up2 (tkL σ (100 + 2 * k) (l + cut) 5) 1 k (σ 1 k - 2 * cut)) 4 k 0 0 2 + 1) := by
    unfold g_turn g_take; rw [tk_c _ _ _ _ (by omega)]
  have x2 : g_turn τ k cut l = up2 (up2 (up2 (tkL τ (100 + 2 * k) (l + cut) 5) 1 k (σ 1 k - 2 * cut)) 4 k 0) 0 2 (up2 (up2 (tkL σ (100 + 2 * k) (l + cut) 5) 1 k (σ 1 k - 2 * cut)) 4 k 0 0 2 + 1) := by
    unfold g_turn g_take; rw [tk_c _ _ _ _ (by omega), e1, e0]
  rw [x1, x2]
  exact ⟨h4, (congrFun (h4.re 1 (by simp [shc])) k)⟩
theorem st_turn {t : Nat} {σ τ : St} (h : RB t σ τ)  (w q : Int32) {r1 r2 : Int32} {u1 u2 : St} (h1 : (fun r u => (¬ (isW w ∧ inR q 0 2) ∧ r = -1 ∧ u = σ) ∨ (∃ k kd : Nat, k < 16 ∧ kd ≤ 2 ∧ w = nI k ∧ q = nI kd ∧ ((σ 1 k - 2 * needN (σ (100 + 2 * k)) kd (σ 0 0) < 6000 ∧ r = -2 ∧ u = σ) ∨ (¬ σ 1 k - 2 * needN (σ (100 + 2 * k)) kd (σ 0 0) < 6000 ∧ u = g_turn σ k (needN (σ (100 + 2 * k)) kd (σ 0 0)) (ldC (σ (100 + 2 * k)) 4) ∧ r = u 1 k)))) r1 u1) (h2 : (fun r u => (¬ (isW w ∧ inR q 0 2) ∧ r = -1 ∧ u = τ) ∨ (∃ k kd : Nat, k < 16 ∧ kd ≤ 2 ∧ w = nI k ∧ q = nI kd ∧ ((τ 1 k - 2 * cutV (τ (100 + 2 * k)) kd (τ 0 0) < 6000 ∧ r = -2 ∧ u = τ) ∨ (¬ τ 1 k - 2 * cutV (τ (100 + 2 * k)) kd (τ 0 0) < 6000 ∧ u = g_turn τ k (cutV (τ (100 + 2 * k)) kd (τ 0 0)) (ldR (τ (100 + 2 * k)) 5) ∧ r = u 1 k)))) r2 u2) (ht : t < 600) : r1 = r2 ∧ RB (t + 1) u1 u2 := by
  have h' := rb_skip h ht
  have e0 := h.e (k := 0) (by simp [shc])
  have e1 := h.e (k := 1) (by simp [shc])
  rcases h1 with ⟨n1, a1, b1⟩ | ⟨k, kd, hk, hkd, ew, eq, b1⟩ <;> rcases h2 with ⟨n2, a2, b2⟩ | ⟨k2, kd2, hk2, hkd2, ew2, eq2, b2⟩
  · subst a1; subst b1; subst a2; subst b2; exact ⟨rfl, h'⟩
  · exact absurd ⟨ew2 ▸ isW_nI hk2, kd_in hkd2 eq2⟩ n1
  · exact absurd ⟨ew ▸ isW_nI hk, kd_in hkd eq⟩ n2
  · have ek : k2 = k := (nI_eq (by omega) (by omega)).mp (ew2.symm.trans ew)
    have ekd : kd2 = kd := (nI_eq (by omega) (by omega)).mp (eq2.symm.trans eq)
    subst ek; subst ekd
    rw [e0, e1, h.e (k := 100 + 2 * k2) (by simp [shc]), ← need_eq (h.wh hk).2.2.2 h.th hkd, ← ld_eq (h.wh hk).2.2.2] at b2
    rcases b1 with ⟨c1, a1, b1⟩ | ⟨c1, b1, a1⟩ <;> rcases b2 with ⟨c2, a2, b2⟩ | ⟨c2, b2, a2⟩
    · subst a1; subst b1; subst a2; subst b2; exact ⟨rfl, h'⟩
    · exact absurd c1 c2
    · exact absurd c2 c1
    · obtain ⟨x, y⟩ := turn_rb h' hk (need_rg (kd := kd2) (h.wh hk).2.2.2 h.th) (gd_rg (h.wh hk).2.2.2).2.1 c1
      rw [a1, a2, b1, b2]; exact ⟨y, x⟩
