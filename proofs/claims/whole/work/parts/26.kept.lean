/-! both sides keep the same sizes -/
def RLx (g : Nat → Int32) (x y : St × Int32) : Prop := OKx 23 g x ∧ OKx 12 g y ∧ (∀ j, j < 16 → x.1 23 j = y.1 12 j) ∧ x.2 = y.2
theorem rl_step {g : Nat → Int32} (hg : ∀ a, a < 4 → rg (g a) 0 4000) {x y : St × Int32} (h : RLx g x y) {a b : Nat} (ha : a < 16) (hb : b < 16) : RLx g (lst 23 false a b x) (lst 12 true a b y) := by
  obtain ⟨h1, h2, h3, h4⟩ := h
  refine ⟨(lst_ok (by decide) hg h1 ha hb).1, (lst_ok (by decide) hg h2 ha hb).1, ?_⟩
  have ea := h3 a ha
  have eb := h3 b hb
  rcases lst_cases (by decide) hg (z := false) h1 ha hb with ⟨e, q⟩ | ⟨q, e, v⟩ <;> rcases lst_cases (by decide) hg (z := true) h2 ha hb with ⟨e', q'⟩ | ⟨q', e', v'⟩
  · rw [e, e']; exact ⟨h3, h4⟩
  · rw [ea, eb] at q; omega
  · rw [ea, eb] at q; omega
  · rw [e, e']
    refine ⟨fun j hj => ?_, rfl⟩
    show up2 x.1 23 a _ 23 j = up2 y.1 12 a _ 12 j
    by_cases w : j = a
    · subst w; rw [up2_s, up2_s, eb]
    · rw [up2_k _ _ _ w, up2_k _ _ _ w]; exact h3 j hj
theorem rl_B {g : Nat → Int32} (hg : ∀ a, a < 4 → rg (g a) 0 4000) {x y : St × Int32} (h : RLx g x y) {a : Nat} (ha : a < 16) {n : Nat} (hn : n ≤ 16) : RLx g (loB 23 false a x n) (loB 12 true a y n) := by
  induction n with
  | zero => exact h
  | succ n ih => exact rl_step hg (ih (by omega)) ha (by omega)
theorem rl_A {g : Nat → Int32} (hg : ∀ a, a < 4 → rg (g a) 0 4000) {x y : St × Int32} (h : RLx g x y) {n : Nat} (hn : n ≤ 16) : RLx g (loA 23 false x n) (loA 12 true y n) := by
  induction n with
  | zero => exact h
  | succ n ih => exact rl_B hg (ih (by omega)) (by omega) (Nat.le_refl _)
theorem cp_ok {T : Nat} {σ τ : St} (h : RB T σ τ) : OKx 23 (σ 5) (cpL σ 23 16, 1) ∧ OKx 12 (σ 5) (cpL τ 12 16, 1) ∧ ∀ j, j < 16 → cpL σ 23 16 23 j = cpL τ 12 16 12 j := by
  have e1 := h.e (k := 1) (by simp [shc])
  refine ⟨⟨cp_c _ _ _ _ (by decide), fun j hj => ?_⟩, ⟨(cp_c _ _ _ _ (by decide)).trans (h.e (k := 5) (by simp [shc])), fun j hj => ?_⟩, fun j hj => ?_⟩
  · show rg (cpL σ 23 16 23 j) _ _
    rw [cp_at _ _ _ _ (by decide), if_pos hj]; exact (h.wh hj).1
  · show rg (cpL τ 12 16 12 j) _ _
    rw [cp_at _ _ _ _ (by decide), if_pos hj, e1]; exact (h.wh hj).1
  · rw [cp_at _ _ _ _ (by decide), cp_at _ _ _ _ (by decide), if_pos hj, if_pos hj, e1]
theorem lw_rel {T : Nat} {σ τ : St} (h : RB T σ τ) (i : Nat) : RLx (σ 5) (lwS 23 false (cpL σ 23 16) i) (lwS 12 true (cpL τ 12 16) i) := by
  obtain ⟨c1, c2, c3⟩ := cp_ok h
  induction i with
  | zero => exact ⟨c1, c2, c3, rfl⟩
  | succ i ih =>
    rw [lwS_s, lwS_s]
    exact rl_A h.law (x := ((lwS 23 false (cpL σ 23 16) i).1, 0)) (y := ((lwS 12 true (cpL τ 12 16) i).1, 0)) ⟨ih.1, ih.2.1, ih.2.2.1, rfl⟩ (Nat.le_refl _)
theorem fix_ex {t : Nat} {σ τ : St} (h : RB t σ τ) : ∃ N, (lwS 12 true (cpL τ 12 16) N).2 = 0 := lw_ex (g := σ 5) (by decide) h.law (cp_ok h).2.1
theorem kept_eq {t : Nat} {σ τ u w : St} (h : RB t σ τ) (h1 : KC σ u) (h2 : KR τ w) : (∀ j, j < 16 → u 23 j = w 12 j) ∧ RB t u w ∧ ∀ j, j < 16 → rg (u 23 j) 6000 9200 := by
  obtain ⟨c1, c2, c3⟩ := cp_ok h
  obtain ⟨i, hi, eu, hz⟩ := h1
  obtain ⟨i', ew, hz'⟩ := h2
  have r := lw_rel h i
  have ok1 := lw_ok (by decide) h.law (z := false) c1 i
  have ok2 := lw_ok (by decide) h.law (z := true) c2 i'
  have fin : (lwS 12 true (cpL τ 12 16) i).1 = (lwS 12 true (cpL τ 12 16) i').1 := by
    rcases hz with hz | hz
    · rw [r.2.2.2] at hz
      exact lw_same (g := σ 5) (by decide) h.law c2 hz hz'
    · rw [hz]
      exact (lw_stop (g := σ 5) (by decide) h.law c2 (lw_clo (by decide) h.law c2) hz').symm
  have fu : ∀ k, k ≠ 23 → u k = σ k := fun k hk => by rw [eu, ok1.2 k hk]; exact cp_c _ _ _ _ hk
  have fw : ∀ k, k ≠ 12 → w k = τ k := fun k hk => by rw [ew, ok2.2 k hk]; exact cp_c _ _ _ _ hk
  refine ⟨fun j hj => ?_, h.frame (fun k hk => fu k (by unfold shc at hk; omega)) (by rw [fu 25 (by decide)]) (by rw [fu 26 (by decide)]) (fun k hk => fw k (by unfold shc at hk; omega)), fun j hj => ?_⟩
  · rw [eu, ew, r.2.2.1 j hj, fin]
  · rw [eu]; exact ok1.1.2 j hj
theorem st_kept {t : Nat} {σ τ : St} (h : RB t σ τ)  (w : Int32) {r1 r2 : Int32} {u1 u2 : St} (h1 : (fun r u => (¬ isW w ∧ r = -1 ∧ u = σ) ∨ (∃ k : Nat, k < 16 ∧ w = nI k ∧ KC σ u ∧ r = u 23 k)) r1 u1) (h2 : (fun r u => (¬ isW w ∧ r = -1 ∧ u = τ) ∨ (∃ k : Nat, k < 16 ∧ w = nI k ∧ KR τ u ∧ r = u 12 k)) r2 u2) (ht : t < 600) : r1 = r2 ∧ RB (t + 1) u1 u2 := by
  have h' := rb_skip h ht
  rcases h1 with ⟨n1, a1, b1⟩ | ⟨k, hk, ew, b1, a1⟩ <;> rcases h2 with ⟨n2, a2, b2⟩ | ⟨k2, hk2, ew2, b2, a2⟩
  · subst a1; subst b1; subst a2; subst b2; exact ⟨rfl, h'⟩
  · exact absurd (ew2 ▸ isW_nI hk2) n1
  · exact absurd (ew ▸ isW_nI hk) n2
  · have ek : k2 = k := (nI_eq (by omega) (by omega)).mp (ew2.symm.trans ew)
    subst ek
    obtain ⟨x, y, _⟩ := kept_eq h' b1 b2
    exact ⟨by rw [a1, a2]; exact x _ hk, y⟩
theorem stL_eq {t : Nat} {u w : St} (h : RB t u w) (he : ∀ j, j < 16 → u 23 j = w 12 j) {n : Nat} (hn : n ≤ 16) : stL u 23 n = stL w 12 n := by
  induction n with
  | zero => rfl
  | succ n ih => unfold stL; rw [ih (by omega), he n (by omega), h.e (k := 1) (by simp [shc])]
theorem st_steel {t : Nat} {σ τ : St} (h : RB t σ τ)   {r1 r2 : Int32} {u1 u2 : St} (h1 : (fun r u => KC σ u ∧ r = stL u 23 16) r1 u1) (h2 : (fun r u => KR τ u ∧ r = stL u 12 16) r2 u2) (ht : t < 600) : r1 = r2 ∧ RB (t + 1) u1 u2 := by
  obtain ⟨b1, a1⟩ := h1
  obtain ⟨b2, a2⟩ := h2
  obtain ⟨x, y, _⟩ := kept_eq (rb_skip h ht) b1 b2
  exact ⟨by rw [a1, a2]; exact stL_eq y x (Nat.le_refl _), y⟩
theorem ev_c (u : St) (c n k : Nat) (hk : k ≠ 1) : evL u c n k = u k := by
  induction n with
  | zero => rfl
  | succ n ih => show up2 _ _ _ _ k = _; rw [up2_cc _ _ _ hk]; exact ih
theorem ev_rb {t : Nat} {u w : St} (h : RB t u w) (he : ∀ j, j < 16 → u 23 j = w 12 j) (hr : ∀ j, j < 16 → rg (u 23 j) 6000 9200) {n : Nat} (hn : n ≤ 16) : RB t (evL u 23 n) (evL w 12 n) := by
  induction n with
  | zero => exact h
  | succ n ih =>
    show RB t (up2 _ _ _ _) (up2 _ _ _ _)
    rw [ev_c _ _ _ _ (by decide), ev_c _ _ _ _ (by decide), ← he n (by omega)]
    exact up_1 (ih (by omega)) _ _ (hr n (by omega))
theorem ec_eq {t : Nat} {u w : St} (h : RB t u w) (he : ∀ j, j < 16 → u 23 j = w 12 j) (hr : ∀ j, j < 16 → rg (u 23 j) 6000 9200) {n : Nat} (hn : n ≤ 16) : ecC u 23 n = ecR w 12 n := by
  induction n with
  | zero => rfl
  | succ n ih =>
    unfold ecC ecR
    rw [ih (by omega), (ev_rb h he hr (n := n) (by omega)).e (k := 1) (by simp [shc]), ev_c u 23 n 23 (by decide), ev_c w 12 n 12 (by decide), he n (by omega)]
    by_cases q : evL u 23 n 1 n ≤ w 12 n
    · rw [if_pos q, if_pos q, Int32.add_zero]
    · rw [if_neg q, if_neg q]
theorem st_even {t : Nat} {σ τ : St} (h : RB t σ τ)   {r1 r2 : Int32} {u1 u2 : St} (h1 : (fun r u => ∃ v, KC σ v ∧ u = evL v 23 16 ∧ r = ecC v 23 16) r1 u1) (h2 : (fun r u => ∃ v, KR τ v ∧ u = evL v 12 16 ∧ r = ecR v 12 16) r2 u2) (ht : t < 600) : r1 = r2 ∧ RB (t + 1) u1 u2 := by
  obtain ⟨v1, b1, c1, a1⟩ := h1
  obtain ⟨v2, b2, c2, a2⟩ := h2
  obtain ⟨x, y, z⟩ := kept_eq (rb_skip h ht) b1 b2
  rw [a1, a2, c1, c2]
  exact ⟨ec_eq y x z (Nat.le_refl _), ev_rb y x z (Nat.le_refl _)⟩
