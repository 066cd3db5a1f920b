/-! numbers -/
theorem t_add {a b : Int32} (h1 : -2147483648 ≤ a.toInt + b.toInt) (h2 : a.toInt + b.toInt < 2147483648) : (a + b).toInt = a.toInt + b.toInt := by
  rw [Int32.toInt_add]; exact Int.bmod_eq_of_le (by simpa using h1) (by simpa using h2)
theorem t_sub {a b : Int32} (h1 : -2147483648 ≤ a.toInt - b.toInt) (h2 : a.toInt - b.toInt < 2147483648) : (a - b).toInt = a.toInt - b.toInt := by
  rw [Int32.toInt_sub]; exact Int.bmod_eq_of_le (by simpa using h1) (by simpa using h2)
theorem t_mul {a b : Int32} (h1 : -2147483648 ≤ a.toInt * b.toInt) (h2 : a.toInt * b.toInt < 2147483648) : (a * b).toInt = a.toInt * b.toInt := by
  rw [Int32.toInt_mul]; exact Int.bmod_eq_of_le (by simpa using h1) (by simpa using h2)
theorem i_eq {a b : Int32} : a = b ↔ a.toInt = b.toInt := Int32.toInt_inj.symm
theorem t_mx (a b : Int32) : (mx a b).toInt = max a.toInt b.toInt := by
  unfold mx; by_cases h : a < b
  · rw [if_pos h]; rw [i32_lt] at h; omega
  · rw [if_neg h]; rw [i32_lt] at h; omega
theorem t_mn (a b : Int32) : (mn a b).toInt = min a.toInt b.toInt := by
  unfold mn; by_cases h : b < a
  · rw [if_pos h]; rw [i32_lt] at h; omega
  · rw [if_neg h]; rw [i32_lt] at h; omega
theorem inR_rg {v a b : Int32} {x y : Int} (hx : a.toInt = x) (hy : b.toInt = y) (h : inR v a b) : rg v x y := ⟨by have := h.1; rw [i32_le] at this; omega, by have := h.2; rw [i32_le] at this; omega⟩
theorem isW_wn {w : Int32} (h : isW w) : wn w < 16 ∧ w = nI (wn w) := by
  obtain ⟨k, hk, e⟩ := isW_of h
  subst e
  rw [wn_nI (by omega)]; exact ⟨hk, rfl⟩
/-! what an update leaves -/
theorem up2_ne {f : St} {i k a b : Nat} {v : Int32} (h : ¬ (a = i ∧ b = k)) : up2 f i k v a b = f a b := if_neg h
theorem RE.up {σ τ : St} (h : RE σ τ) (a b : Nat) (v : Int32) : RE (up2 σ a b v) (up2 τ a b v) := fun k hk => by
  funext j; unfold up2; rw [h k hk]
theorem RE.l {σ τ : St} (h : RE σ τ) {a b : Nat} {v : Int32} (ha : ¬ shc a) : RE (up2 σ a b v) τ := fun k hk => by
  have hne : k ≠ a := fun q => ha (q ▸ hk)
  rw [up2_cc _ _ _ hne, h k hk]
theorem RE.r {σ τ : St} (h : RE σ τ) {a b : Nat} {v : Int32} (ha : ¬ shc a) : RE σ (up2 τ a b v) := fun k hk => by
  have hne : k ≠ a := fun q => ha (q ▸ hk)
  rw [up2_cc _ _ _ hne, h k hk]
theorem RB.frame {T : Nat} {σ τ u w : St} (h : RB T σ τ) (hu : ∀ k, shc k ∨ k = 21 ∨ k = 22 → u k = σ k) (h25 : u 25 0 = σ 25 0) (h26 : u 26 0 = σ 26 0) (hw : ∀ k, shc k ∨ k = 11 → w k = τ k) : RB T u w := by
  obtain ⟨hT, h0, ⟨n4, h41, h42⟩, ⟨n5, h51, h52, h53, h54, h55⟩, ⟨z, h31, h32⟩, hW, hL, ⟨hS1, hS2, hS3, hS4⟩, hP⟩ := h
  have s0 := hu 0 (Or.inl (by simp [shc]))
  have s7 := hu 7 (Or.inl (by simp [shc]))
  have s8 := hu 8 (Or.inl (by simp [shc]))
  have s9 := hu 9 (Or.inl (by simp [shc]))
  refine ⟨hT, fun k hk => ?_, ⟨n4, h41, by rw [s0]; exact h42⟩, ⟨n5, h51, by rw [s0]; exact h52, okT_of h53 s7, by rw [s8]; exact h54, by rw [s9]; exact h55⟩, ⟨z, h31, by rw [s0]; exact h32⟩, fun k hk => ?_, fun a ha => ?_, ⟨fun j hj => ?_, by rw [h25]; exact hS2, by rw [h26]; exact hS3, by rw [s0]; exact hS4⟩, fun k hk => ?_⟩
  · rw [hu k (Or.inl hk), hw k (Or.inl hk)]; exact h0 k hk
  · rw [hu 1 (Or.inl (by simp [shc])), hu 3 (Or.inl (by simp [shc])), hu 4 (Or.inl (by simp [shc])), hu (100 + 2 * k) (Or.inl (by simp [shc]))]; exact hW k hk
  · rw [hu 5 (Or.inl (by simp [shc]))]; exact hL a ha
  · rw [hu 6 (Or.inl (by simp [shc]))]; exact hS1 j hj
  · rw [hu 21 (Or.inr (Or.inl rfl)), hu 22 (Or.inr (Or.inr rfl)), hw 11 (Or.inr rfl)]; exact hP k hk
theorem rb_skip {t : Nat} {σ τ : St} (h : RB t σ τ) (ht : t < 600) : RB (t + 1) σ τ := by
  obtain ⟨hT, h0, h4, h5, ⟨z, h31, h32⟩, hW, hL, hS, hP⟩ := h
  refine ⟨by omega, h0, h4, h5, ⟨z, by omega, h32⟩, fun k hk => ?_, hL, hS, fun k hk => ?_⟩
  · obtain ⟨a, b, c, d⟩ := hW k hk
    exact ⟨a, b, ⟨c.1, by have := c.2; omega⟩, d⟩
  · obtain ⟨q, a, b⟩ := hP k hk
    exact ⟨q, by omega, b⟩
theorem rb_up {T : Nat} {σ τ : St} (h : RB T σ τ) (a b : Nat) (v : Int32)
    (u1 : a = 1 → rg v 6000 9200) (u3 : a = 3 → rg v 0 20) (u4 : a = 4 → rg v 0 (500 * T)) (uD : ∀ k, a = 100 + 2 * k → rg v 0 99) (u5 : a = 5 → rg v 0 4000) (u6 : a = 6 → rg v 0 9200)
    (u00 : a = 0 → b = 0 → rg v 0 30) (u03 : a = 0 → b = 3 → ∃ z, z ≤ 111 * T ∧ v = nI z) (u04 : a = 0 → b = 4 → ∃ n, n ≤ 8 ∧ v = nI n) (u05 : a = 0 → b ≠ 5) (un : a ≠ 7 ∧ a ≠ 8 ∧ a ≠ 9 ∧ a ≠ 25 ∧ a ≠ 26 ∧ a ≠ 21 ∧ a ≠ 22 ∧ a ≠ 11) : RB T (up2 σ a b v) (up2 τ a b v) := by
  obtain ⟨hT, h0, ⟨n4, h41, h42⟩, ⟨n5, h51, h52, h53, h54, h55⟩, ⟨z, h31, h32⟩, hW, hL, ⟨hS1, hS2, hS3, hS4⟩, hP⟩ := h
  refine ⟨hT, h0.up a b v, ?_, ⟨n5, h51, by rw [up2_ne (fun q => u05 q.1.symm q.2.symm)]; exact h52, okT_of h53 (up2_cc _ _ _ (by omega)), by rw [up2_cc _ _ _ (by omega)]; exact h54, by rw [up2_cc _ _ _ (by omega)]; exact h55⟩, ?_, fun k hk => ?_, fun j hj => ?_, ⟨fun j hj => ?_, by rw [up2_cc _ _ _ (by omega)]; exact hS2, by rw [up2_cc _ _ _ (by omega)]; exact hS3, ?_⟩, fun k hk => ?_⟩
  · by_cases q : 0 = a ∧ 4 = b
    · obtain ⟨n, x, y⟩ := u04 q.1.symm q.2.symm
      exact ⟨n, x, by rw [← q.1, ← q.2, up2_s]; exact y⟩
    · exact ⟨n4, h41, by rw [up2_ne q]; exact h42⟩
  · by_cases q : 0 = a ∧ 3 = b
    · obtain ⟨n, x, y⟩ := u03 q.1.symm q.2.symm
      exact ⟨n, x, by rw [← q.1, ← q.2, up2_s]; exact y⟩
    · exact ⟨z, h31, by rw [up2_ne q]; exact h32⟩
  · obtain ⟨w1, w3, w4, wD⟩ := hW k hk
    refine ⟨?_, ?_, ?_, fun j hj => ?_⟩
    · by_cases q : 1 = a ∧ k = b
      · rw [← q.1, ← q.2, up2_s]; exact u1 q.1.symm
      · rw [up2_ne q]; exact w1
    · by_cases q : 3 = a ∧ k = b
      · rw [← q.1, ← q.2, up2_s]; exact u3 q.1.symm
      · rw [up2_ne q]; exact w3
    · by_cases q : 4 = a ∧ k = b
      · rw [← q.1, ← q.2, up2_s]; exact u4 q.1.symm
      · rw [up2_ne q]; exact w4
    · by_cases q : 100 + 2 * k = a ∧ j = b
      · rw [← q.1, ← q.2, up2_s]; exact uD k q.1.symm
      · rw [up2_ne q]; exact wD j hj
  · by_cases q : 5 = a ∧ j = b
    · rw [← q.1, ← q.2, up2_s]; exact u5 q.1.symm
    · rw [up2_ne q]; exact hL j hj
  · by_cases q : 6 = a ∧ j = b
    · rw [← q.1, ← q.2, up2_s]; exact u6 q.1.symm
    · rw [up2_ne q]; exact hS1 j hj
  · by_cases q : 0 = a ∧ 0 = b
    · rw [← q.1, ← q.2, up2_s]; exact u00 q.1.symm q.2.symm
    · rw [up2_ne q]; exact hS4
  · rw [up2_cc _ _ _ (by omega), up2_cc _ _ _ (by omega), up2_cc _ _ _ (by omega)]; exact hP k hk
theorem up_1 {T : Nat} {σ τ : St} (h : RB T σ τ) (b : Nat) (v : Int32) (hv : rg v 6000 9200) : RB T (up2 σ 1 b v) (up2 τ 1 b v) := by
  apply rb_up h <;> first | exact fun _ => hv | (intros; omega) | omega
theorem up_3 {T : Nat} {σ τ : St} (h : RB T σ τ) (b : Nat) (v : Int32) (hv : rg v 0 20) : RB T (up2 σ 3 b v) (up2 τ 3 b v) := by
  apply rb_up h <;> first | exact fun _ => hv | (intros; omega) | omega
theorem up_4 {T : Nat} {σ τ : St} (h : RB T σ τ) (b : Nat) (v : Int32) (hv : rg v 0 (500 * T)) : RB T (up2 σ 4 b v) (up2 τ 4 b v) := by
  apply rb_up h <;> first | exact fun _ => hv | (intros; omega) | omega
theorem up_5 {T : Nat} {σ τ : St} (h : RB T σ τ) (b : Nat) (v : Int32) (hv : rg v 0 4000) : RB T (up2 σ 5 b v) (up2 τ 5 b v) := by
  apply rb_up h <;> first | exact fun _ => hv | (intros; omega) | omega
theorem up_6 {T : Nat} {σ τ : St} (h : RB T σ τ) (b : Nat) (v : Int32) (hv : rg v 0 9200) : RB T (up2 σ 6 b v) (up2 τ 6 b v) := by
  apply rb_up h <;> first | exact fun _ => hv | (intros; omega) | omega
theorem up_D {T : Nat} {σ τ : St} (h : RB T σ τ) (b : Nat) (v : Int32) (k : Nat) (hv : rg v 0 99) : RB T (up2 σ (100 + 2 * k) b v) (up2 τ (100 + 2 * k) b v) := by
  apply rb_up h <;> first | exact fun _ _ => hv | (intros; omega) | omega
theorem up_B {T : Nat} {σ τ : St} (h : RB T σ τ) (b : Nat) (v : Int32) (k : Nat) : RB T (up2 σ (101 + 2 * k) b v) (up2 τ (101 + 2 * k) b v) := by
  apply rb_up h <;> first | (intros; omega) | omega
theorem up_00 {T : Nat} {σ τ : St} (h : RB T σ τ) (v : Int32) (hv : rg v 0 30) : RB T (up2 σ 0 0 v) (up2 τ 0 0 v) := by
  apply rb_up h <;> first | exact fun _ _ => hv | (intros; omega) | omega
theorem up_01 {T : Nat} {σ τ : St} (h : RB T σ τ) (v : Int32) : RB T (up2 σ 0 1 v) (up2 τ 0 1 v) := by
  apply rb_up h <;> first | (intros; omega) | omega
theorem up_02 {T : Nat} {σ τ : St} (h : RB T σ τ) (v : Int32) : RB T (up2 σ 0 2 v) (up2 τ 0 2 v) := by
  apply rb_up h <;> first | (intros; omega) | omega
theorem up_03 {T : Nat} {σ τ : St} (h : RB T σ τ) (v : Int32) (hv : ∃ z, z ≤ 111 * T ∧ v = nI z) : RB T (up2 σ 0 3 v) (up2 τ 0 3 v) := by
  apply rb_up h <;> first | exact fun _ _ => hv | (intros; omega) | omega
theorem up_04 {T : Nat} {σ τ : St} (h : RB T σ τ) (v : Int32) (hv : ∃ n, n ≤ 8 ∧ v = nI n) : RB T (up2 σ 0 4 v) (up2 τ 0 4 v) := by
  apply rb_up h <;> first | exact fun _ _ => hv | (intros; omega) | omega
theorem RB.l {T : Nat} {σ τ : St} (h : RB T σ τ) {a b : Nat} {v : Int32} (ha : 23 ≤ a ∧ a < 100 ∧ a ≠ 25 ∧ a ≠ 26) : RB T (up2 σ a b v) τ :=
  h.frame (fun k hk => up2_cc _ _ _ (by unfold shc at hk; omega)) (congrFun (up2_cc σ b v (by omega : 25 ≠ a)) 0) (congrFun (up2_cc σ b v (by omega : 26 ≠ a)) 0) (fun _ _ => rfl)
theorem RB.r {T : Nat} {σ τ : St} (h : RB T σ τ) {a b : Nat} {v : Int32} (ha : 12 ≤ a ∧ a < 100) : RB T σ (up2 τ a b v) :=
  h.frame (fun k hk => rfl) rfl rfl (fun k hk => up2_cc _ _ _ (by unfold shc at hk; omega))
theorem RB.e {T : Nat} {σ τ : St} (h : RB T σ τ) {k : Nat} (hk : shc k) : τ k = σ k := (h.re k hk).symm
