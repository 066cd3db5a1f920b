/-! miles -/
theorem worn_n {T : Nat} {σ τ : St} (h : RB T σ τ) {k : Nat} (hk : k < 16) {n : Int32} (hn : rg n 1 500) : ∃ x, x ≤ 100 ∧ wornF σ k n = nI x := by
  obtain ⟨_, w3, _, _⟩ := h.wh hk
  obtain ⟨a, a1, a2⟩ := nI_ofR (x := σ 3 k) (n := 20) (by rw [i32_le, Int32.toInt_zero]; exact w3.1) (by rw [i32_le]; exact w3.2) (by omega)
  obtain ⟨b, b1, b2⟩ := nI_ofR (x := n) (n := 500) (by rw [i32_le, Int32.toInt_zero]; have := hn.1; omega) (by rw [i32_le]; exact hn.2) (by omega)
  have hab : a * b ≤ 20 * 500 := Nat.mul_le_mul a1 b1
  refine ⟨a * b / 100, by omega, ?_⟩
  unfold wornF
  rw [a2, b2, pk_mul]
  exact pk_div (d := 100) (by omega) (by omega) (by omega)
theorem rn_rb {T : Nat} {σ τ : St} (h : RB T σ τ) {k : Nat} (hk : k < 16) {x : Nat} (hx : x ≤ 100) {n : Nat} (hn : n ≤ 5) : RB T (rnL σ (100 + 2 * k) (nI x) n) (rnL τ (100 + 2 * k) (nI x) n) := by
  induction n with
  | zero => exact h
  | succ n ih =>
    have ih := ih (by omega)
    have e := ih.e (k := 100 + 2 * k) (by simp [shc])
    show RB T (up2 _ _ _ _) (up2 _ _ _ _)
    rw [e]
    refine up_D ih _ _ _ ?_
    have a := (ih.wh hk).2.2.2 n (by omega)
    have hd : ∃ y, y ≤ 100 ∧ (if n = 0 ∨ n = 4 then nI x / 2 else nI x) = nI y := by
      by_cases c : n = 0 ∨ n = 4
      · rw [if_pos c]; exact ⟨x / 2, by omega, pk_div (d := 2) (by omega) (by omega) (by omega)⟩
      · rw [if_neg c]; exact ⟨x, hx, rfl⟩
    obtain ⟨y, hy, ey⟩ := hd
    rw [ey]
    have e1 := nI_toInt (n := y) (by omega)
    unfold rg at a ⊢
    rw [t_mn, t_add (by omega) (by omega), show (99 : Int32).toInt = 99 from rfl]; omega
theorem rn_c (σ : St) {c c' : Nat} (g : Int32) (n j : Nat) (hc : c' ≠ c) : rnL σ c g n c' j = σ c' j := by
  induction n with
  | zero => rfl
  | succ n ih => show up2 _ _ _ _ c' j = _; rw [up2_c _ _ _ _ hc]; exact ih
theorem run_rb {T : Nat} {σ τ : St} (h : RB (T + 1) σ τ) {k : Nat} (hk : k < 16) {n : Int32} (hn : rg n 1 500) (h4 : rg (σ 4 k) 0 (500 * T)) (hT : T < 600) : RB (T + 1) (runS σ k n) (runS τ k n) ∧ ∀ j, j ≠ k → runS σ k n 4 j = σ 4 j := by
  obtain ⟨x, hx, ex⟩ := worn_n h hk hn
  have ex' : wornF τ k n = nI x := by rw [← ex]; unfold wornF; rw [h.e (k := 3) (by simp [shc])]
  have h1 := rn_rb h hk hx (n := 5) (by omega)
  have w1 := (h.wh hk).1
  have nx := nI_toInt (n := x) (by omega)
  have h2 := up_1 h1 k (mx 6000 (σ 1 k - nI x)) (by
    unfold rg at w1 ⊢
    rw [t_mx, t_sub (by omega) (by omega), show (6000 : Int32).toInt = 6000 from rfl]; omega)
  have h3 := up_4 h2 k (σ 4 k + n) (by
    unfold rg at h4 hn ⊢
    rw [t_add (by omega) (by omega)]; omega)
  have x1 : runS σ k n = up2 (up2 (rnL σ (100 + 2 * k) (nI x) 5) 1 k (mx 6000 (σ 1 k - nI x))) 4 k (σ 4 k + n) := by
    unfold runS rn2 rn1; rw [ex, rn_c _ _ _ _ (by omega), up2_c _ _ _ _ (by decide), rn_c _ _ _ _ (by omega)]
  have x2 : runS τ k n = up2 (up2 (rnL τ (100 + 2 * k) (nI x) 5) 1 k (mx 6000 (σ 1 k - nI x))) 4 k (σ 4 k + n) := by
    unfold runS rn2 rn1; rw [ex', rn_c _ _ _ _ (by omega), up2_c _ _ _ _ (by decide), rn_c _ _ _ _ (by omega), h.e (k := 1) (by simp [shc]), h.e (k := 4) (by simp [shc])]
  rw [x1, x2]
  refine ⟨h3, fun j hj => ?_⟩
  rw [up2_k _ _ _ hj, up2_c _ _ _ _ (by decide), rn_c _ _ _ _ (by omega)]
theorem ml_rb {T : Nat} {σ τ : St} (h : RB T σ τ) {n : Int32} (hn : rg n 1 500) (hT : T < 600) {k : Nat} (hk : k ≤ 16) : RB (T + 1) (mlS σ n k) (mlS τ n k) ∧ ∀ j, k ≤ j → j < 16 → rg (mlS σ n k 4 j) 0 (500 * T) := by
  induction k with
  | zero => exact ⟨rb_skip h hT, fun j _ hj => (h.wh hj).2.2.1⟩
  | succ k ih =>
    obtain ⟨i1, i2⟩ := ih (by omega)
    obtain ⟨r1, r2⟩ := run_rb i1 (by omega) hn (i2 k (Nat.le_refl _) (by omega)) hT
    exact ⟨r1, fun j h1 h2 => by show rg (runS (mlS σ n k) k n 4 j) _ _; rw [r2 j (by omega)]; exact i2 j (by omega) h2⟩
theorem due_eq {T : Nat} {σ τ : St} (h : RB T σ τ) {n : Int32} (hn : rg n 1 500) (hT : T < 600) {k : Nat} (hk : k ≤ 16) : dueC σ n k = dueR τ n k := by
  induction k with
  | zero => rfl
  | succ k ih =>
    have ih := ih (by omega)
    have hr := (ml_rb h hn hT (k := k + 1) hk).1
    have w := (hr.wh (k := k) (by omega)).2.2.1
    unfold dueC dueR
    rw [hr.e (k := 4) (by simp [shc]), ih]
    have e : (0 : Int32) < 1000 - mlS σ n (k + 1) 4 k ↔ mlS σ n (k + 1) 4 k < 1000 := by
      unfold rg at w
      rw [i32_lt, i32_lt, t_sub (by rw [show (1000 : Int32).toInt = 1000 from rfl]; omega) (by rw [show (1000 : Int32).toInt = 1000 from rfl]; omega), show (1000 : Int32).toInt = 1000 from rfl, Int32.toInt_zero]; omega
    by_cases c : mlS σ n (k + 1) 4 k < 1000
    · rw [if_pos (e.mpr c), if_pos c, Int32.add_zero]
    · rw [if_neg (fun q => c (e.mp q)), if_neg c]
theorem st_miles {t : Nat} {σ τ : St} (h : RB t σ τ)  (n : Int32) {r1 r2 : Int32} {u1 u2 : St} (h1 : (fun r u => (¬ inR n 1 500 ∧ r = -1 ∧ u = σ) ∨ (inR n 1 500 ∧ r = dueC σ n 16 ∧ u = mlS σ n 16)) r1 u1) (h2 : (fun r u => (¬ inR n 1 500 ∧ r = -1 ∧ u = τ) ∨ (inR n 1 500 ∧ r = dueR τ n 16 ∧ u = mlS τ n 16)) r2 u2) (ht : t < 600) : r1 = r2 ∧ RB (t + 1) u1 u2 := by
  rcases h1 with ⟨n1, a1, b1⟩ | ⟨n1, a1, b1⟩ <;> rcases h2 with ⟨n2, a2, b2⟩ | ⟨n2, a2, b2⟩
  · subst a1; subst b1; subst a2; subst b2; exact ⟨rfl, rb_skip h ht⟩
  · exact absurd n2 n1
  · exact absurd n1 n2
  · have hn : rg n 1 500 := inR_rg rfl rfl n1
    rw [a1, a2, b1, b2]
    exact ⟨due_eq h hn ht (Nat.le_refl _), (ml_rb h hn ht (Nat.le_refl _)).1⟩
/-! broken -/
theorem sumF_congr {f g : Nat → Int32} {n : Nat} (h : ∀ i, i < n → f i = g i) : sumF f n = sumF g n := by
  induction n with
  | zero => rfl
  | succ n ih => show _ + _ = _ + _; rw [ih (fun i hi => h i (by omega)), h n (by omega)]
theorem sumF_add (f g : Nat → Int32) (n : Nat) : sumF (fun i => f i + g i) n = sumF f n + sumF g n := by
  induction n with
  | zero => rfl
  | succ n ih => show sumF (fun i => f i + g i) n + (f n + g n) = (sumF f n + f n) + (sumF g n + g n); rw [ih]; ac_rfl
theorem tri_eq (q : Nat → Nat → Int32) (h0 : ∀ a, q a a = 0) (N : Nat) : sumF (fun a => sumF (fun i => q a (a + 1 + i) + q (a + 1 + i) a) (N - 1 - a)) N = sumF (fun a => sumF (q a) N) N := by
  induction N with
  | zero => rfl
  | succ N ih =>
    show sumF (fun a => sumF (fun i => q a (a + 1 + i) + q (a + 1 + i) a) (N + 1 - 1 - a)) N + sumF (fun i => q N (N + 1 + i) + q (N + 1 + i) N) (N + 1 - 1 - N) = sumF (fun a => sumF (q a) N + q a N) N + (sumF (q N) N + q N N)
    have r : sumF (fun a => sumF (q a) N + q a N) N = sumF (fun a => sumF (q a) N) N + sumF (fun a => q a N) N := sumF_add _ _ _
    rw [show N + 1 - 1 - N = 0 by omega, h0 N, r]
    have e : sumF (fun a => sumF (fun i => q a (a + 1 + i) + q (a + 1 + i) a) (N + 1 - 1 - a)) N = sumF (fun a => sumF (fun i => q a (a + 1 + i) + q (a + 1 + i) a) (N - 1 - a) + (q a N + q N a)) N := by
      refine sumF_congr fun a ha => ?_
      obtain ⟨m, rfl⟩ : ∃ m, N = a + 1 + m := ⟨N - a - 1, by omega⟩
      rw [show a + 1 + m + 1 - 1 - a = m + 1 by omega, show a + 1 + m - 1 - a = m by omega]
      rfl
    rw [e, sumF_add, ih, sumF_add]
    show _ + (sumF (fun a => q a N) N + sumF (q N) N) + 0 = _
    rw [Int32.add_zero, Int32.add_zero]; ac_rfl
def brQ (f g : Nat → Int32) (a b : Nat) : Int32 := if f a - f b ≤ lawF g a b ∨ a = b then 0 else 1
theorem rbO_s (f g : Nat → Int32) (N : Nat) : rbO f g N = sumF (fun a => sumF (brQ f g a) 16) N := by
  have hi : ∀ a acc n, rbI f g a acc n = acc + sumF (brQ f g a) n := by
    intro a acc n
    induction n with
    | zero => exact (Int32.add_zero _).symm
    | succ n ih => show rbI f g a acc n + brQ f g a n = acc + (sumF (brQ f g a) n + brQ f g a n); rw [ih]; ac_rfl
  induction N with
  | zero => rfl
  | succ N ih => show rbI f g N (rbO f g N) 16 = _ + _; rw [hi, ih]
theorem lawF_rg {g : Nat → Int32} (hg : ∀ a, a < 4 → rg (g a) 0 4000) (a b : Nat) : rg (lawF g a b) 0 4000 := by
  unfold lawF
  split; exact hg 0 (by omega); split; exact hg 1 (by omega); split; exact hg 2 (by omega); exact hg 3 (by omega)
theorem lawF_sym (g : Nat → Int32) (a b : Nat) : lawF g a b = lawF g b a := by
  unfold lawF
  simp only [eq_comm (a := a / 2) (b := b / 2), eq_comm (a := a / 4) (b := b / 4), eq_comm (a := a / 8) (b := b / 8)]
theorem t_ab {x : Int32} (h : -2147483648 < x.toInt) : (ab x).toInt = if 0 ≤ x.toInt then x.toInt else - x.toInt := by
  unfold ab
  by_cases c : 0 ≤ x
  · rw [if_pos c]; rw [i32_le, Int32.toInt_zero] at c; rw [if_pos c]
  · rw [if_neg c]; rw [i32_le, Int32.toInt_zero] at c; rw [if_neg c]
    have := Int32.toInt_lt x
    rw [t_sub (by rw [Int32.toInt_zero]; omega) (by rw [Int32.toInt_zero]; omega), Int32.toInt_zero]; omega
theorem brO_s {f g : Nat → Int32} (hf : ∀ a, a < 16 → rg (f a) 6000 9200) (hg : ∀ a, a < 4 → rg (g a) 0 4000) (N : Nat) (hN : N ≤ 16) : brO f g N = sumF (fun a => sumF (fun i => brQ f g a (a + 1 + i) + brQ f g (a + 1 + i) a) (15 - a)) N := by
  have hi : ∀ a acc n, a + 1 + n ≤ 16 → brI f g a acc n = acc + sumF (fun i => brQ f g a (a + 1 + i) + brQ f g (a + 1 + i) a) n := by
    intro a acc n
    induction n with
    | zero => intro _; exact (Int32.add_zero _).symm
    | succ n ih =>
      intro hn
      have fa := hf a (by omega)
      have fb := hf (a + 1 + n) (by omega)
      have L := lawF_rg hg a (a + 1 + n)
      show (if _ then brI f g a acc n else brI f g a acc n + 1) = acc + (sumF (fun i => brQ f g a (a + 1 + i) + brQ f g (a + 1 + i) a) n + (brQ f g a (a + 1 + n) + brQ f g (a + 1 + n) a))
      rw [ih (by omega), ← Int32.add_assoc]
      generalize acc + sumF _ n = A
      unfold brQ
      rw [lawF_sym g (a + 1 + n) a]
      unfold rg at fa fb L
      have d1 : (f a - f (a + 1 + n)).toInt = (f a).toInt - (f (a + 1 + n)).toInt := t_sub (by omega) (by omega)
      have d2 : (f (a + 1 + n) - f a).toInt = (f (a + 1 + n)).toInt - (f a).toInt := t_sub (by omega) (by omega)
      have d3 := t_ab (x := f a - f (a + 1 + n)) (by omega)
      have hne : a ≠ a + 1 + n := by omega
      have hne2 : ¬ a + 1 + n = a := by omega
      simp only [hne, hne2, or_false]
      by_cases c1 : f a - f (a + 1 + n) ≤ lawF g a (a + 1 + n) <;> by_cases c2 : f (a + 1 + n) - f a ≤ lawF g a (a + 1 + n)
      · rw [if_pos c1, if_pos c2, if_pos]
        · exact (Int32.add_zero A).symm
        · rw [i32_le] at c1 c2 ⊢; rw [d3]; split <;> omega
      · rw [if_pos c1, if_neg c2, if_neg]
        · rfl
        · rw [i32_le] at c1 c2 ⊢; rw [d3]; split <;> omega
      · rw [if_neg c1, if_pos c2, if_neg]
        · rfl
        · rw [i32_le] at c1 c2 ⊢; rw [d3]; split <;> omega
      · exfalso; rw [i32_le] at c1 c2; omega
  induction N with
  | zero => rfl
  | succ N ih => show brI f g N (brO f g N) (15 - N) = _ + _; rw [hi _ _ _ (by omega), ih (by omega)]
theorem br_eq {f g : Nat → Int32} (hf : ∀ a, a < 16 → rg (f a) 6000 9200) (hg : ∀ a, a < 4 → rg (g a) 0 4000) : brO f g 16 = rbO f g 16 := by
  rw [brO_s hf hg 16 (Nat.le_refl _), rbO_s]
  exact tri_eq (brQ f g) (fun a => by unfold brQ; exact if_pos (Or.inr rfl)) 16
theorem cp_at (σ : St) (c n j : Nat) (hc : c ≠ 1) : cpL σ c n c j = if j < n then σ 1 j else σ c j := by
  induction n with
  | zero => rfl
  | succ n ih =>
    have e1 : ∀ m, cpL σ c m 1 = σ 1 := by
      intro m
      induction m with
      | zero => rfl
      | succ m im => show up2 _ _ _ _ 1 = _; rw [up2_cc _ _ _ (by omega)]; exact im
    show up2 _ _ _ _ c j = _
    by_cases q : j = n
    · subst q; rw [up2_s, e1, if_pos (by omega)]
    · rw [up2_k _ _ _ q, ih]
      by_cases r : j < n
      · rw [if_pos r, if_pos (by omega)]
      · rw [if_neg r, if_neg (by omega)]
theorem cp_c (σ : St) (c n k : Nat) (hk : k ≠ c) : cpL σ c n k = σ k := by
  induction n with
  | zero => rfl
  | succ n ih => show up2 _ _ _ _ k = _; rw [up2_cc _ _ _ hk]; exact ih
theorem brO_congr {f f' g : Nat → Int32} (h : ∀ j, j < 16 → f j = f' j) (N : Nat) (hN : N ≤ 16) : brO f g N = brO f' g N := by
  have hi : ∀ a acc n, a < 16 → a + 1 + n ≤ 16 → brI f g a acc n = brI f' g a acc n := by
    intro a acc n ha
    induction n with
    | zero => intro _; rfl
    | succ n ih => intro hn; unfold brI; rw [ih (by omega), h a ha, h (a + 1 + n) (by omega)]
  induction N with
  | zero => rfl
  | succ N ih => show brI f g N (brO f g N) (15 - N) = brI f' g N (brO f' g N) (15 - N); rw [ih (by omega), hi _ _ _ (by omega) (by omega)]
theorem RB.law {T : Nat} {σ τ : St} (h : RB T σ τ) : ∀ a, a < 4 → rg (σ 5 a) 0 4000 := h.2.2.2.2.2.2.1
theorem st_broken {t : Nat} {σ τ : St} (h : RB t σ τ)   {r1 r2 : Int32} {u1 u2 : St} (h1 : (fun r u => u = cpL σ 23 16 ∧ r = brO (u 23) (u 5) 16) r1 u1) (h2 : (fun r u => r = rbO (τ 1) (τ 5) 16 ∧ u = τ) r2 u2) (ht : t < 600) : r1 = r2 ∧ RB (t + 1) u1 u2 := by
  obtain ⟨rfl, rfl⟩ := h1; obtain ⟨rfl, rfl⟩ := h2
  have h' := rb_skip h ht
  refine ⟨?_, h'.frame (fun k hk => cp_c _ _ _ _ (by unfold shc at hk; omega)) (congrFun (cp_c _ _ _ _ (by decide)) 0) (congrFun (cp_c _ _ _ _ (by decide)) 0) (fun _ _ => rfl)⟩
  rw [h.e (k := 1) (by simp [shc]), h.e (k := 5) (by simp [shc]), cp_c σ 23 16 5 (by decide)]
  rw [brO_congr (f := cpL σ 23 16 23) (f' := σ 1) (fun j hj => by rw [cp_at _ _ _ _ (by decide), if_pos hj]) 16 (Nat.le_refl _)]
  exact br_eq (fun a ha => (h.wh ha).1) h.law
/-! flats -/
theorem RB.ip {T : Nat} {σ τ : St} (h : RB T σ τ) {k : Nat} (hk : k < 16) : ∃ q, q ≤ T ∧ τ 11 k = nI q ∧ σ 21 k = nI (min 5 q) ∧ σ 22 k = nI (q % 5) := h.2.2.2.2.2.2.2.2 k hk
theorem cntB_congr {σ τ : St} {k : Nat} (h : σ (101 + 2 * k) = τ (101 + 2 * k)) (x : Int32) (n : Nat) : cntB σ k x n = cntB τ k x n := by
  induction n with
  | zero => rfl
  | succ n ih => unfold cntB; rw [ih, h]
theorem fl_congr {T : Nat} {σ τ : St} (h : RB T σ τ) (k n : Nat) : fl σ k n = fl τ k n := by
  unfold fl; rw [h.e (k := 0) (by simp [shc]), cntB_congr (h.re (101 + 2 * k) (by simp [shc]; omega))]
theorem fl_eq {T : Nat} {σ τ : St} (h : RB T σ τ) {k : Nat} (hk : k < 16) : flC σ k = flR τ k := by
  obtain ⟨q, a, b, c, d⟩ := h.ip hk
  have hT := h.1
  unfold flC flR; rw [b, c, wn_nI (by omega), wn_nI (by omega)]; exact fl_congr h k _
theorem st_flat {t : Nat} {σ τ : St} (h : RB t σ τ)  (w : Int32) {r1 r2 : Int32} {u1 u2 : St} (h1 : (fun r u => r = (if isW w then flC σ (wn w) else -1) ∧ u = σ) r1 u1) (h2 : (fun r u => r = (if isW w then flR τ (wn w) else -1) ∧ u = τ) r2 u2) (ht : t < 600) : r1 = r2 ∧ RB (t + 1) u1 u2 := by
  obtain ⟨rfl, rfl⟩ := h1; obtain ⟨rfl, rfl⟩ := h2
  refine ⟨?_, rb_skip h ht⟩
  by_cases c : isW w
  · rw [if_pos c, if_pos c]; exact fl_eq h (isW_wn c).1
  · rw [if_neg c, if_neg c]
theorem st_count {t : Nat} {σ τ : St} (h : RB t σ τ)  (q : Int32) {r1 r2 : Int32} {u1 u2 : St} (h1 : (fun r u => r = f_count σ (sumF (flC σ) 16) q ∧ u = σ) r1 u1) (h2 : (fun r u => r = f_count τ (sumF (flR τ) 16) q ∧ u = τ) r2 u2) (ht : t < 600) : r1 = r2 ∧ RB (t + 1) u1 u2 := by
  obtain ⟨rfl, rfl⟩ := h1; obtain ⟨rfl, rfl⟩ := h2
  refine ⟨?_, rb_skip h ht⟩
  unfold f_count cntN
  rw [h.e (k := 0) (by simp [shc]), sumF_congr (n := 16) (fun i hi => fl_eq h hi)]
theorem pass_rb {t : Nat} {σ τ : St} (h : RB t σ τ) (ht : t < 600) {k q : Nat} (hk : k < 16) (hq : q ≤ t) (e1 : τ 11 k = nI q) (e2 : σ 21 k = nI (min 5 q)) (e3 : σ 22 k = nI (q % 5)) (v : Int32) : RB (t + 1) (g_feel σ k (q % 5) v) (up2 (up2 τ (101 + 2 * k) (q % 5) v) 11 k (nI (q + 1))) := by
  have h' := up_B (rb_skip h ht) (q % 5) v k
  have hz : mn 5 (up2 (up2 σ (101 + 2 * k) (q % 5) v) 22 k (if q % 5 = 4 then 0 else nI (q % 5 + 1)) 21 k + 1) = nI (min 5 (q + 1)) := by
    rw [up2_c _ _ _ _ (by decide), up2_c _ _ _ _ (by omega), e2, nI_1, i_eq, t_mn, nI_toInt (by omega), nI_toInt (by omega), show (5 : Int32).toInt = 5 from rfl]; omega
  have hzs : mn 5 (σ 21 k + 1) = nI (min 5 (q + 1)) := by
    rw [e2, nI_1, i_eq, t_mn, nI_toInt (by omega), nI_toInt (by omega), show (5 : Int32).toInt = 5 from rfl]; omega
  unfold g_feel
  rw [hzs]
  obtain ⟨hT, h0, h4, h5, h3, hW, hL, hS, hP⟩ := h'
  refine ⟨hT, ((h0.l (by simp [shc])).l (by simp [shc])).r (by simp [shc]), h4, h5, h3, fun j hj => ?_, hL, hS, fun j hj => ?_⟩
  · obtain ⟨a, b, c, d⟩ := hW j hj
    exact ⟨a, b, c, fun i hi => by rw [up2_c _ _ _ _ (by omega), up2_c _ _ _ _ (by omega)]; exact d i hi⟩
  by_cases c : j = k
  · subst c
    refine ⟨q + 1, by omega, up2_s _ _ _ _, up2_s _ _ _ _, ?_⟩
    rw [up2_c _ _ _ _ (by decide), up2_s]
    by_cases d : q % 5 = 4
    · rw [if_pos d, show (q + 1) % 5 = 0 by omega]; rfl
    · rw [if_neg d, show (q + 1) % 5 = q % 5 + 1 by omega]
  · obtain ⟨q', a, b, c', d⟩ := hP j hj
    refine ⟨q', a, ?_, ?_, ?_⟩
    · rw [up2_k _ _ _ c]; exact b
    · rw [up2_k _ _ _ c, up2_c _ _ _ _ (by decide)]; exact c'
    · rw [up2_c _ _ _ _ (by decide), up2_k _ _ _ c]; exact d
theorem st_pass {t : Nat} {σ τ : St} (h : RB t σ τ)  (w v : Int32) {r1 r2 : Int32} {u1 u2 : St} (h1 : (fun r u => (¬ (isW w ∧ inR v 0 999) ∧ r = -1 ∧ u = σ) ∨ (∃ k b o : Nat, k < 16 ∧ w = nI k ∧ inR v 0 999 ∧ b ≤ 5 ∧ σ 21 k = nI b ∧ o < 5 ∧ σ 22 k = nI o ∧ u = g_feel σ k o v ∧ r = fl u k (min 5 (b + 1)))) r1 u1) (h2 : (fun r u => (¬ (isW w ∧ inR v 0 999) ∧ r = -1 ∧ u = τ) ∨ (∃ k p : Nat, k < 16 ∧ w = nI k ∧ inR v 0 999 ∧ p < 1000000 ∧ τ 11 k = nI p ∧ u = up2 (up2 τ (101 + 2 * k) (p % 5) v) 11 k (nI (p + 1)) ∧ r = fl u k (min 5 (p + 1)))) r2 u2) (ht : t < 600) : r1 = r2 ∧ RB (t + 1) u1 u2 := by
  have h' := rb_skip h ht
  rcases h1 with ⟨n1, a1, b1⟩ | ⟨k, b, o, hk, ew, hv, hb, eb, ho, eo, b1, a1⟩ <;> rcases h2 with ⟨n2, a2, b2⟩ | ⟨k2, p, hk2, ew2, hv2, hp, ep, b2, a2⟩
  · subst a1; subst b1; subst a2; subst b2; exact ⟨rfl, h'⟩
  · exact absurd ⟨ew2 ▸ isW_nI hk2, hv2⟩ n1
  · exact absurd ⟨ew ▸ isW_nI hk, hv⟩ n2
  · have ek : k2 = k := (nI_eq (by omega) (by omega)).mp (ew2.symm.trans ew)
    subst ek
    obtain ⟨q, x1, x2, x3, x4⟩ := h.ip hk
    have hT := h.1
    have ep' : p = q := (nI_eq (by omega) (by omega)).mp (ep.symm.trans x2)
    have eb' : b = min 5 q := (nI_eq (by omega) (by omega)).mp (eb.symm.trans x3)
    have eo' : o = q % 5 := (nI_eq (by omega) (by omega)).mp (eo.symm.trans x4)
    subst ep'; subst eb'; subst eo'
    have R := pass_rb h ht hk x1 x2 x3 x4 v
    rw [← b1, ← b2] at R
    refine ⟨?_, R⟩
    rw [a1, a2, show min 5 (min 5 p + 1) = min 5 (p + 1) by omega]; exact fl_congr R _ _
