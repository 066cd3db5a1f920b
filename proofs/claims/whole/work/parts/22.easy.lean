theorem up_05 {T : Nat} {σ τ : St} (h : RB T σ τ) (v : Int32) (hv : ∃ n, n ≤ 20 ∧ v = nI n ∧ okT σ n ∧ (∀ j, j < n → σ 8 j = 0 ∨ σ 8 j = 1) ∧ ∀ j, j < n → rg (σ 9 j) 5000 10000) : RB T (up2 σ 0 5 v) (up2 τ 0 5 v) := by
  obtain ⟨hT, h0, ⟨n4, h41, h42⟩, _, ⟨z, h31, h32⟩, hW, hL, ⟨hS1, hS2, hS3, hS4⟩, hP⟩ := h
  obtain ⟨n, a1, a2, a3, a4, a5⟩ := hv
  refine ⟨hT, h0.up _ _ _, ⟨n4, h41, by rw [up2_k _ _ _ (by decide)]; exact h42⟩, ⟨n, a1, by rw [up2_s]; exact a2, a3, a4, a5⟩, ⟨z, h31, by rw [up2_k _ _ _ (by decide)]; exact h32⟩, fun k hk => ?_, hL, ⟨hS1, hS2, hS3, by rw [up2_k _ _ _ (by decide)]; exact hS4⟩, hP⟩
  rw [up2_cc _ _ _ (by decide), up2_cc _ _ _ (by decide), up2_cc _ _ _ (by decide), up2_cc _ _ _ (show 100 + 2 * k ≠ 0 by omega)]; exact hW k hk
theorem up_789 {T : Nat} {σ τ : St} (h : RB T σ τ) (a b : Nat) (v : Int32) (ha : a = 7 ∨ a = 8 ∨ a = 9) (hb : ∃ n, n ≤ b ∧ n ≤ 20 ∧ σ 0 5 = nI n) : RB T (up2 σ a b v) (up2 τ a b v) := by
  obtain ⟨hT, h0, ⟨n4, h41, h42⟩, ⟨n5, h51, h52, h53, h54, h55⟩, ⟨z, h31, h32⟩, hW, hL, ⟨hS1, hS2, hS3, hS4⟩, hP⟩ := h
  obtain ⟨n, a1, a2, a3⟩ := hb
  have hnn : n5 = n := (nI_eq (by omega) (by omega)).mp (h52.symm.trans a3)
  subst hnn
  refine ⟨hT, h0.up _ _ _, ⟨n4, h41, by rw [up2_cc _ _ _ (by omega)]; exact h42⟩, ⟨n5, h51, by rw [up2_cc _ _ _ (by omega)]; exact h52, fun i hi => ?_, fun i hi => ?_, fun i hi => ?_⟩, ⟨z, h31, by rw [up2_cc _ _ _ (by omega)]; exact h32⟩, fun k hk => ?_, by rw [IL, up2_cc _ _ _ (by omega)]; exact hL, ⟨by rw [up2_cc _ _ _ (by omega)]; exact hS1, by rw [up2_cc _ _ _ (by omega)]; exact hS2, by rw [up2_cc _ _ _ (by omega)]; exact hS3, by rw [up2_cc _ _ _ (by omega)]; exact hS4⟩, fun k hk => ?_⟩
  · rw [up2_ne (by omega)]; exact h53 i hi
  · rw [up2_ne (by omega)]; exact h54 i hi
  · rw [up2_ne (by omega)]; exact h55 i hi
  · rw [up2_cc _ _ _ (by omega), up2_cc _ _ _ (by omega), up2_cc _ _ _ (by omega), up2_cc _ _ _ (show 100 + 2 * k ≠ a by omega)]; exact hW k hk
  · rw [up2_cc _ _ _ (by omega), up2_cc _ _ _ (by omega), up2_cc _ _ _ (by omega)]; exact hP k hk
theorem st_size {t : Nat} {σ τ : St} (h : RB t σ τ)  (w v : Int32) {r1 r2 : Int32} {u1 u2 : St} (h1 : (fun r u => r = f_size σ w v ∧ u = g_size σ w v) r1 u1) (h2 : (fun r u => r = f_size τ w v ∧ u = g_size τ w v) r2 u2) (ht : t < 600) : r1 = r2 ∧ RB (t + 1) u1 u2 := by
  obtain ⟨rfl, rfl⟩ := h1; obtain ⟨rfl, rfl⟩ := h2
  have e1 := h.e (k := 1) (by simp [shc])
  have h' := rb_skip h ht
  unfold f_size g_size
  by_cases c : isW w ∧ inR v 6000 9200
  · simp only [if_pos c, e1]; exact ⟨trivial, up_1 h' _ _ (inR_rg rfl rfl c.2)⟩
  · simp only [if_neg c]; exact ⟨trivial, h'⟩
theorem st_wear {t : Nat} {σ τ : St} (h : RB t σ τ)  (w v : Int32) {r1 r2 : Int32} {u1 u2 : St} (h1 : (fun r u => r = f_wear σ w v ∧ u = g_wear σ w v) r1 u1) (h2 : (fun r u => r = f_wear τ w v ∧ u = g_wear τ w v) r2 u2) (ht : t < 600) : r1 = r2 ∧ RB (t + 1) u1 u2 := by
  obtain ⟨rfl, rfl⟩ := h1; obtain ⟨rfl, rfl⟩ := h2
  have e3 := h.e (k := 3) (by simp [shc])
  have h' := rb_skip h ht
  unfold f_wear g_wear
  by_cases c : isW w ∧ inR v 0 20
  · simp only [if_pos c, e3]; exact ⟨trivial, up_3 h' _ _ (inR_rg rfl rfl c.2)⟩
  · simp only [if_neg c]; exact ⟨trivial, h'⟩
theorem st_depth {t : Nat} {σ τ : St} (h : RB t σ τ)  (w i v : Int32) {r1 r2 : Int32} {u1 u2 : St} (h1 : (fun r u => r = f_depth σ w i v ∧ u = g_depth σ w i v) r1 u1) (h2 : (fun r u => r = f_depth τ w i v ∧ u = g_depth τ w i v) r2 u2) (ht : t < 600) : r1 = r2 ∧ RB (t + 1) u1 u2 := by
  obtain ⟨rfl, rfl⟩ := h1; obtain ⟨rfl, rfl⟩ := h2
  have h' := rb_skip h ht
  unfold f_depth g_depth
  by_cases c : isW w ∧ inR i 0 4 ∧ inR v 0 99
  · simp only [if_pos c, h.e (k := 100 + 2 * wn w) (by simp [shc])]; exact ⟨trivial, up_D h' _ _ _ (inR_rg rfl rfl c.2.2)⟩
  · simp only [if_neg c]; exact ⟨trivial, h'⟩
theorem st_thinning {t : Nat} {σ τ : St} (h : RB t σ τ)  (v : Int32) {r1 r2 : Int32} {u1 u2 : St} (h1 : (fun r u => r = f_thinning σ v ∧ u = g_thinning σ v) r1 u1) (h2 : (fun r u => r = f_thinning τ v ∧ u = g_thinning τ v) r2 u2) (ht : t < 600) : r1 = r2 ∧ RB (t + 1) u1 u2 := by
  obtain ⟨rfl, rfl⟩ := h1; obtain ⟨rfl, rfl⟩ := h2
  have e0 := h.e (k := 0) (by simp [shc])
  have h' := rb_skip h ht
  unfold f_thinning g_thinning
  by_cases c : inR v 0 30
  · simp only [if_pos c, e0]; exact ⟨trivial, up_00 h' _ (inR_rg rfl rfl c)⟩
  · simp only [if_neg c]; exact ⟨trivial, h'⟩
theorem st_bar {t : Nat} {σ τ : St} (h : RB t σ τ)  (v : Int32) {r1 r2 : Int32} {u1 u2 : St} (h1 : (fun r u => r = f_bar σ v ∧ u = g_bar σ v) r1 u1) (h2 : (fun r u => r = f_bar τ v ∧ u = g_bar τ v) r2 u2) (ht : t < 600) : r1 = r2 ∧ RB (t + 1) u1 u2 := by
  obtain ⟨rfl, rfl⟩ := h1; obtain ⟨rfl, rfl⟩ := h2
  have e0 := h.e (k := 0) (by simp [shc])
  have h' := rb_skip h ht
  unfold f_bar g_bar
  by_cases c : inR v 0 999
  · simp only [if_pos c, e0]; exact ⟨trivial, up_01 h' _⟩
  · simp only [if_neg c]; exact ⟨trivial, h'⟩
theorem st_law {t : Nat} {σ τ : St} (h : RB t σ τ)  (w v : Int32) {r1 r2 : Int32} {u1 u2 : St} (h1 : (fun r u => r = f_law σ w v ∧ u = g_law σ w v) r1 u1) (h2 : (fun r u => r = f_law τ w v ∧ u = g_law τ w v) r2 u2) (ht : t < 600) : r1 = r2 ∧ RB (t + 1) u1 u2 := by
  obtain ⟨rfl, rfl⟩ := h1; obtain ⟨rfl, rfl⟩ := h2
  have e5 := h.e (k := 5) (by simp [shc])
  have h' := rb_skip h ht
  unfold f_law g_law
  by_cases c : inR w 0 3 ∧ inR v 0 4000
  · simp only [if_pos c, e5]; exact ⟨trivial, up_5 h' _ _ (inR_rg rfl rfl c.2)⟩
  · simp only [if_neg c]; exact ⟨trivial, h'⟩
theorem st_look {t : Nat} {σ τ : St} (h : RB t σ τ)  (w : Int32) {r1 r2 : Int32} {u1 u2 : St} (h1 : (fun r u => r = f_look σ w ∧ u = g_look σ w) r1 u1) (h2 : (fun r u => r = f_look τ w ∧ u = g_look τ w) r2 u2) (ht : t < 600) : r1 = r2 ∧ RB (t + 1) u1 u2 := by
  obtain ⟨rfl, rfl⟩ := h1; obtain ⟨rfl, rfl⟩ := h2
  have e4 := h.e (k := 4) (by simp [shc])
  have h' := rb_skip h ht
  unfold f_look g_look
  by_cases c : isW w
  · simp only [if_pos c, e4]; exact ⟨trivial, up_4 h' _ _ ⟨by show (0:Int) ≤ 0; omega, by show (0:Int) ≤ _; omega⟩⟩
  · simp only [if_neg c]; exact ⟨trivial, h'⟩
theorem st_due {t : Nat} {σ τ : St} (h : RB t σ τ)  (w : Int32) {r1 r2 : Int32} {u1 u2 : St} (h1 : (fun r u => r = f_due σ w ∧ u = σ) r1 u1) (h2 : (fun r u => r = f_due τ w ∧ u = τ) r2 u2) (ht : t < 600) : r1 = r2 ∧ RB (t + 1) u1 u2 := by
  obtain ⟨rfl, rfl⟩ := h1; obtain ⟨rfl, rfl⟩ := h2
  have e4 := h.e (k := 4) (by simp [shc])
  unfold f_due
  rw [e4]; exact ⟨rfl, rb_skip h ht⟩
theorem st_trace {t : Nat} {σ τ : St} (h : RB t σ τ)   {r1 r2 : Int64} {u1 u2 : St} (h1 : (fun r u => r = (σ 0 3).toInt64 ∧ u = σ) r1 u1) (h2 : (fun r u => r = (τ 0 3).toInt64 ∧ u = τ) r2 u2) (ht : t < 600) : r1 = r2 ∧ RB (t + 1) u1 u2 := by
  obtain ⟨rfl, rfl⟩ := h1; obtain ⟨rfl, rfl⟩ := h2
  have e0 := h.e (k := 0) (by simp [shc])
  rw [e0]; exact ⟨rfl, rb_skip h ht⟩
theorem st_about {t : Nat} {σ τ : St} (h : RB t σ τ)  (w q : Int32) {r1 r2 : Int32} {u1 u2 : St} (h1 : (fun r u => r = f_about σ w q ∧ u = σ) r1 u1) (h2 : (fun r u => r = f_about τ w q ∧ u = τ) r2 u2) (ht : t < 600) : r1 = r2 ∧ RB (t + 1) u1 u2 := by
  obtain ⟨rfl, rfl⟩ := h1; obtain ⟨rfl, rfl⟩ := h2
  have e1 := h.e (k := 1) (by simp [shc])
  have e3 := h.e (k := 3) (by simp [shc])
  have e4 := h.e (k := 4) (by simp [shc])
  have eD := h.e (k := 100 + 2 * wn w) (by simp [shc])
  unfold f_about aboutN
  rw [e1, e3, e4, eD]; exact ⟨rfl, rb_skip h ht⟩
theorem st_spare {t : Nat} {σ τ : St} (h : RB t σ τ) {n : Nat} (hn : n ≤ 8) (e4 : σ 0 4 = nI n) (v : Int32) {r1 r2 : Int32} {u1 u2 : St} (h1 : (fun r u => r = f_spare σ v ∧ u = g_spare σ v) r1 u1) (h2 : (fun r u => r = f_spare τ v ∧ u = g_spare τ v) r2 u2) (ht : t < 600) : r1 = r2 ∧ RB (t + 1) u1 u2 := by
  obtain ⟨rfl, rfl⟩ := h1; obtain ⟨rfl, rfl⟩ := h2
  have h' := rb_skip h ht
  have e0 := h.e (k := 0) (by simp [shc])
  unfold f_spare g_spare
  simp only [e0, e4, wn_nI (show n < 2 ^ 31 by omega)]
  refine ⟨trivial, ?_⟩
  by_cases c : inR v 6000 9200 ∧ ¬ nI n = 8
  · rw [if_pos c, if_pos c]
    have hn8 : n ≠ 8 := fun q => c.2 (by rw [q]; rfl)
    have hv : rg v 6000 9200 := inR_rg rfl rfl c.1
    exact up_04 (up_6 h' _ _ ⟨by have := hv.1; omega, hv.2⟩) _ ⟨n + 1, by omega, nI_1 n⟩
  · rw [if_neg c, if_neg c]; exact h'
theorem st_sell {t : Nat} {σ τ : St} (h : RB t σ τ)   {r1 r2 : Int32} {u1 u2 : St} (h1 : (fun r u => r = f_sell σ  ∧ u = g_sell σ ) r1 u1) (h2 : (fun r u => r = f_sell τ  ∧ u = g_sell τ ) r2 u2) (ht : t < 600) : r1 = r2 ∧ RB (t + 1) u1 u2 := by
  obtain ⟨rfl, rfl⟩ := h1; obtain ⟨rfl, rfl⟩ := h2
  have h' := rb_skip h ht
  have e0 := h.e (k := 0) (by simp [shc])
  obtain ⟨n, hn, e4, _⟩ := h.e4
  unfold f_sell g_sell
  simp only [e0]
  refine ⟨trivial, ?_⟩
  by_cases c : σ 0 4 = 0
  · rw [if_pos c, if_pos c]; exact h'
  · rw [if_neg c, if_neg c]
    rcases n with _ | n
    · exact absurd e4 c
    · exact up_04 h' _ ⟨n, by omega, by rw [e4]; exact nI_pred n⟩
theorem st_forget {t : Nat} {σ τ : St} (h : RB t σ τ)   {r1 r2 : Int32} {u1 u2 : St} (h1 : (fun r u => r = f_forget σ  ∧ u = g_forget σ ) r1 u1) (h2 : (fun r u => r = f_forget τ  ∧ u = g_forget τ ) r2 u2) (ht : t < 600) : r1 = r2 ∧ RB (t + 1) u1 u2 := by
  obtain ⟨rfl, rfl⟩ := h1; obtain ⟨rfl, rfl⟩ := h2
  have h' := rb_skip h ht
  have e0 := h.e (k := 0) (by simp [shc])
  obtain ⟨n, hn, e5, h7, h8, h9⟩ := h.2.2.2.1
  unfold f_forget g_forget
  simp only [e0]
  refine ⟨trivial, ?_⟩
  by_cases c : σ 0 5 = 0
  · rw [if_pos c, if_pos c]; exact h'
  · rw [if_neg c, if_neg c]
    rcases n with _ | n
    · exact absurd e5 c
    · exact up_05 h' _ ⟨n, by omega, by rw [e5]; exact nI_pred n, fun i hi => h7 i (by omega), fun i hi => h8 i (by omega), fun i hi => h9 i (by omega)⟩
theorem st_read {t : Nat} {σ τ : St} (h : RB t σ τ) {n : Nat} (hn : n ≤ 20) (e5 : σ 0 5 = nI n) (w b v : Int32) {r1 r2 : Int32} {u1 u2 : St} (h1 : (fun r u => r = f_read σ w b v ∧ u = g_read σ w b v) r1 u1) (h2 : (fun r u => r = f_read τ w b v ∧ u = g_read τ w b v) r2 u2) (ht : t < 600) : r1 = r2 ∧ RB (t + 1) u1 u2 := by
  obtain ⟨rfl, rfl⟩ := h1; obtain ⟨rfl, rfl⟩ := h2
  have h' := rb_skip h ht
  have e0 := h.e (k := 0) (by simp [shc])
  obtain ⟨n', hn', e5', h7, h8, h9⟩ := h.2.2.2.1
  have hnn : n' = n := (nI_eq (by omega) (by omega)).mp (e5'.symm.trans e5)
  subst hnn
  unfold f_read g_read
  simp only [e0, e5, wn_nI (show n' < 2 ^ 31 by omega)]
  refine ⟨trivial, ?_⟩
  by_cases c : (isW w ∧ inR b 0 1 ∧ inR v 5000 10000) ∧ ¬ nI n' = 20
  · rw [if_pos c, if_pos c]
    have hn8 : n' ≠ 20 := fun q => c.2 (by rw [q]; rfl)
    have hv : rg v 5000 10000 := inR_rg rfl rfl c.1.2.2
    have hb : rg b 0 1 := inR_rg rfl rfl c.1.2.1
    obtain ⟨k, hk, ek⟩ := isW_of c.1.1
    have A := up_789 (up_789 (up_789 h' 7 n' w (Or.inl rfl) ⟨n', Nat.le_refl _, hn', e5⟩) 8 n' b (Or.inr (Or.inl rfl)) ⟨n', Nat.le_refl _, hn', by rw [up2_cc _ _ _ (by decide)]; exact e5⟩) 9 n' v (Or.inr (Or.inr rfl)) ⟨n', Nat.le_refl _, hn', by rw [up2_cc _ _ _ (by decide), up2_cc _ _ _ (by decide)]; exact e5⟩
    refine up_05 A _ ⟨n' + 1, by omega, nI_1 n', fun i hi => ?_, fun i hi => ?_, fun i hi => ?_⟩
    · rw [up2_cc _ _ _ (by decide), up2_cc _ _ _ (by decide)]
      by_cases q : i = n'
      · subst q; exact ⟨k, hk, by rw [up2_s]; exact ek⟩
      · obtain ⟨w', x, y⟩ := h7 i (by omega)
        exact ⟨w', x, by rw [up2_k _ _ _ q]; exact y⟩
    · rw [up2_cc _ _ _ (by decide)]
      by_cases q : i = n'
      · subst q; rw [up2_s, i_eq, i_eq, show (0 : Int32).toInt = 0 from rfl, show (1 : Int32).toInt = 1 from rfl]; have := hb.1; have := hb.2; omega
      · rw [up2_k _ _ _ q, up2_cc _ _ _ (by decide)]; exact h8 i (by omega)
    · by_cases q : i = n'
      · subst q; rw [up2_s]; exact hv
      · rw [up2_k _ _ _ q, up2_cc _ _ _ (by decide), up2_cc _ _ _ (by decide)]; exact h9 i (by omega)
  · rw [if_neg c, if_neg c]; exact h'
