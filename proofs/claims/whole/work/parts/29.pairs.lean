/-! pairs: the class's row of sorted neighbours -/
def lsN (g : Nat → Int) : Nat → List Int
  | 0 => []
  | k + 1 => g k :: lsN g k
theorem ls_0 (g : Nat → Int) : lsN g 0 = [] := rfl
theorem ls_1 (g : Nat → Int) (n : Nat) : lsN g (n + 1) = g n :: lsN g n := rfl
def gS (S : St) (j : Nat) : Int := (S 24 j).toInt
theorem ls_congr {g g' : Nat → Int} {n : Nat} (h : ∀ j, j < n → g j = g' j) : lsN g n = lsN g' n := by
  induction n with
  | zero => rfl
  | succ n ih => unfold lsN; rw [ih fun j hj => h j (by omega), h n (by omega)]
theorem ls_ex {g : Nat → Int} {y : Int} {n : Nat} (h : 0 < ct y (lsN g n)) : ∃ k, k < n ∧ g k = y := by
  induction n with
  | zero => exact absurd h (Nat.lt_irrefl 0)
  | succ n ih =>
    unfold lsN at h
    rw [ct_c] at h
    by_cases q : g n = y
    · exact ⟨n, by omega, q⟩
    · rw [ix_n q] at h
      obtain ⟨k, a, b⟩ := ih h
      exact ⟨k, by omega, b⟩
def srd (S : St) (n : Nat) : Prop := ∀ i j, i ≤ j → j < n → gS S i ≤ gS S j
theorem gS_s (S : St) (k : Nat) (x : Int32) : gS (up2 S 24 k x) k = x.toInt := by unfold gS; rw [up2_s]
theorem gS_k (S : St) {k j : Nat} (x : Int32) (h : j ≠ k) : gS (up2 S 24 k x) j = gS S j := by unfold gS; rw [up2_k _ _ _ h]
theorem ins_s (x : Int32) : ∀ (p : Nat) (S : St), srd S p →
    srd (ins x p S) (p + 1) ∧ Eh (lsN (gS (ins x p S)) (p + 1)) (x.toInt :: lsN (gS S) p) ∧ (∀ j, p < j → gS (ins x p S) j = gS S j) ∧ ∀ B, x.toInt ≤ B → (∀ i, i < p → gS S i ≤ B) → ∀ j, j ≤ p → gS (ins x p S) j ≤ B
  | 0, S, _ => by
    unfold ins
    refine ⟨fun i j h1 h2 => ?_, fun v => ?_, fun j hj => gS_k _ _ (by omega), fun B hB _ j hj => ?_⟩
    · have e1 : i = 0 := by omega
      have e2 : j = 0 := by omega
      rw [e1, e2]; exact Int.le_refl _
    · show ct v (gS (up2 S 24 0 x) 0 :: []) = ct v (x.toInt :: [])
      rw [gS_s]
    · have e2 : j = 0 := by omega
      rw [e2, gS_s]; exact hB
  | p + 1, S, hS => by
    unfold ins
    by_cases c : S 24 p ≤ x
    · rw [if_pos c]
      rw [i32_le] at c
      refine ⟨fun i j h1 h2 => ?_, fun v => ?_, fun j hj => gS_k _ _ (by omega), fun B hB hi j hj => ?_⟩
      · by_cases q : j = p + 1
        · by_cases r : i = p + 1
          · rw [q, r]; exact Int.le_refl _
          · rw [q, gS_s, gS_k _ _ r]
            exact Int.le_trans (hS i p (by omega) (by omega)) c
        · rw [gS_k _ _ q, gS_k _ _ (by omega)]
          exact hS i j h1 (by omega)
      · show ct v (gS (up2 S 24 (p + 1) x) (p + 1) :: lsN (gS (up2 S 24 (p + 1) x)) (p + 1)) = _
        rw [gS_s, ls_congr (g := gS (up2 S 24 (p + 1) x)) (g' := gS S) fun j hj => gS_k _ _ (by omega)]
      · by_cases q : j = p + 1
        · rw [q, gS_s]; exact hB
        · rw [gS_k _ _ q]; exact hi j (by omega)
    · rw [if_neg c]
      rw [i32_le] at c
      have hS1 : srd (up2 S 24 (p + 1) (S 24 p)) p := fun i j h1 h2 => by
        rw [gS_k _ _ (by omega), gS_k _ _ (by omega)]; exact hS i j h1 (by omega)
      obtain ⟨i1, i2, i3, i4⟩ := ins_s x p _ hS1
      have top : gS (ins x p (up2 S 24 (p + 1) (S 24 p))) (p + 1) = gS S p := by rw [i3 _ (Nat.lt_succ_self p), gS_s]; rfl
      have bnd : ∀ j, j ≤ p → gS (ins x p (up2 S 24 (p + 1) (S 24 p))) j ≤ gS S p := i4 (gS S p) (by show x.toInt ≤ (S 24 p).toInt; omega) fun i hi => by
        rw [gS_k _ _ (by omega)]; exact hS i p (by omega) (by omega)
      have e0 : lsN (gS (up2 S 24 (p + 1) (S 24 p))) p = lsN (gS S) p := ls_congr fun j hj => gS_k _ _ (by omega)
      rw [e0] at i2
      refine ⟨fun i j h1 h2 => ?_, fun v => ?_, fun j hj => ?_, fun B hB hi j hj => ?_⟩
      · by_cases q : j = p + 1
        · by_cases r : i = p + 1
          · rw [q, r]; exact Int.le_refl _
          · rw [q, top]; exact bnd i (by omega)
        · exact i1 i j h1 (by omega)
      · have a := i2 v
        show ct v (gS (ins x p (up2 S 24 (p + 1) (S 24 p))) (p + 1) :: lsN (gS (ins x p (up2 S 24 (p + 1) (S 24 p)))) (p + 1)) = ct v (x.toInt :: gS S p :: lsN (gS S) p)
        rw [top]
        simp only [ct_c] at a ⊢; omega
      · rw [i3 j (by omega), gS_k _ _ (by omega)]
      · by_cases q : j = p + 1
        · rw [q, top]; exact hi p (by omega)
        · exact Int.le_trans (bnd j (by omega)) (hi p (by omega))
theorem srt_6 (σ : St) (n : Nat) : srt σ n 6 n = σ 6 n := congrFun (srt_o (by decide) n) n
theorem srt_n (σ : St) (n : Nat) : srt σ (n + 1) = ins (σ 6 n) n (srt σ n) := congrArg (fun x => ins x n (srt σ n)) (srt_6 σ n)
theorem srt_a (σ : St) (n : Nat) : srd (srt σ n) n := by
  induction n with
  | zero => exact fun i j _ h => absurd h (Nat.not_lt_zero _)
  | succ n ih => rw [srt_n]; exact (ins_s (σ 6 n) n (srt σ n) ih).1
theorem srt_b (σ : St) (n : Nat) : Eh (lsN (gS (srt σ n)) n) (lsN (fun j => (σ 6 j).toInt) n) := by
  induction n with
  | zero => intro v; rw [ls_0, ls_0]
  | succ n ih =>
    rw [srt_n]
    intro v
    have p1 := (ins_s (σ 6 n) n (srt σ n) (srt_a σ n)).2.1 v
    have p2 := ih v
    rw [p1]
    rw [ls_1 (fun j => (σ 6 j).toInt) n, ct_c, ct_c, p2]
theorem srt_c (σ : St) {B : Int} (n : Nat) (h : ∀ j, j < n → (σ 6 j).toInt ≤ B) : ∀ j, j < n → gS (srt σ n) j ≤ B := by
  induction n with
  | zero => exact fun j h => absurd h (Nat.not_lt_zero _)
  | succ n ih =>
    rw [srt_n]
    exact fun j hj => (ins_s (σ 6 n) n (srt σ n) (srt_a σ n)).2.2.2 B (h n (Nat.lt_succ_self n)) (ih fun j hj => h j (Nat.lt_succ_of_lt hj)) j (Nat.le_of_lt_succ hj)
theorem srt_lo (σ : St) {n : Nat} {B : Int} (h : ∀ j, j < n → B ≤ (σ 6 j).toInt) {j : Nat} (hj : j < n) : B ≤ gS (srt σ n) j := by
  have e := srt_b σ n
  have pos : ∀ (g : Nat → Int) (m : Nat), j < m → 0 < ct (g j) (lsN g m) := by
    intro g m
    induction m with
    | zero => intro q; exact absurd q (Nat.not_lt_zero _)
    | succ m ih =>
      intro q
      unfold lsN
      rw [ct_c]
      by_cases r : j = m
      · subst r; rw [ix_s]; omega
      · have := ih (by omega); omega
  have p1 := pos (gS (srt σ n)) n hj
  rw [e] at p1
  obtain ⟨k, k1, k2⟩ := ls_ex p1
  rw [← k2]; exact h k k1
/-- one more neighbour -/
def pok (L : Int) (g : Nat → Int) (S : St) (r : Nat) : Prop := rok S 25 26 r ∧ Opt L (lsN g r) (VS S 25 26 r)
theorem pok_of {L : Int} {g : Nat → Int} {S S' : St} {r : Nat} (h : pok L g S r) (e1 : S' 25 r = S 25 r) (e2 : S' 26 r = S 26 r) : pok L g S' r := by
  unfold pok rok VS at h ⊢; rw [e1, e2]; exact h
theorem pu_s {P : St} {law : Int32} {n : Nat} {L : Int} (hn : n + 1 ≤ 8) (hlaw : rg law 0 4000) (hL : law.toInt = L) (hr : ∀ j, j < n + 1 → rg (P 24 j) 0 9200) (hs : srd P (n + 1)) (h : ∀ r, r ≤ n → pok L (gS P) P r) : (∀ r, r ≤ n → pu2 law (pu1 P n) n 25 r = P 25 r ∧ pu2 law (pu1 P n) n 26 r = P 26 r) ∧ pok L (gS P) (pu2 law (pu1 P n) n) (n + 1) := by
  have b1 : ∀ r, r ≠ n + 1 → pu1 P n 25 r = P 25 r ∧ pu1 P n 26 r = P 26 r := fun r hr => ⟨by unfold pu1; rw [up2_c _ _ _ _ (by decide), up2_k _ _ _ hr], by unfold pu1; rw [up2_k _ _ _ hr, up2_c _ _ _ _ (by decide)]⟩
  have b2 : pu1 P n 25 (n + 1) = P 25 n := by unfold pu1; rw [up2_c _ _ _ _ (by decide), up2_s]
  have b3 : pu1 P n 26 (n + 1) = P 26 n := by unfold pu1; rw [up2_s, up2_c _ _ _ _ (by decide)]
  have b4 : pu1 P n 24 = P 24 := by unfold pu1; rw [up2_cc _ _ _ (by decide), up2_cc _ _ _ (by decide)]
  generalize pu1 P n = S at *
  have hVb : VS S 25 26 (n + 1) = VS P 25 26 n := by unfold VS; rw [b2, b3]
  have hz : rok S 25 26 (n + 1) := by
    have := (h n (Nat.le_refl _)).1
    unfold rok rg at this ⊢; rw [b2, b3]; omega
  have o1 : Opt L (lsN (gS P) n) (VS S 25 26 (n + 1)) := by rw [hVb]; exact (h n (Nat.le_refl _)).2
  rcases n with _ | n
  · have e : pu2 law S 0 = S := by unfold pu2; exact if_neg fun q => absurd q.1 (by decide)
    rw [e]
    refine ⟨fun r hr => b1 r (by omega), hz, ?_⟩
    have z := Opt_un o1 (Opt_nil L) (fun _ => rfl)
    rw [z]; exact Opt_one L _
  · have o2 : Opt L (lsN (gS P) n) (VS S 25 26 n) := by
      have e : VS S 25 26 n = VS P 25 26 n := by unfold VS; rw [(b1 n (by omega)).1, (b1 n (by omega)).2]
      rw [e]; exact (h n (by omega)).2
    have hn2 : rok S 25 26 n := by
      have := (h n (by omega)).1
      unfold rok at this ⊢; rw [(b1 n (by omega)).1, (b1 n (by omega)).2]; exact this
    have hzx : gS P n ≤ gS P (n + 1) := hs n (n + 1) (by omega) (by omega)
    have near := Opt_near (L := L) (x := gS P (n + 1)) (z := gS P n) (l2 := lsN (gS P) n) hzx (fun y hy => by
      obtain ⟨k, k1, k2⟩ := ls_ex hy
      rw [← k2]; exact hs k n (by omega) (by omega)) o1 o2
    have x1 := hr (n + 1) (by omega)
    have x0 := hr n (by omega)
    have ed : (P 24 (n + 1) - P 24 n).toInt = gS P (n + 1) - gS P n := by
      unfold rg at x1 x0; unfold gS; exact t_sub (by omega) (by omega)
    show (∀ r, r ≤ n + 1 → pu2 law S (n + 1) 25 r = P 25 r ∧ pu2 law S (n + 1) 26 r = P 26 r) ∧ rok (pu2 law S (n + 1)) 25 26 (n + 1 + 1) ∧ Opt L (gS P (n + 1) :: gS P n :: lsN (gS P) n) (VS (pu2 law S (n + 1)) 25 26 (n + 1 + 1))
    have e2 : pu2 law S (n + 1) = if 2 ≤ n + 1 + 1 ∧ P 24 (n + 1) - P 24 n ≤ law then plt S (n + 1 + 1) (P 24 (n + 1) - P 24 n) else S := by
      unfold pu2; rw [b4]; rfl
    generalize hd : P 24 (n + 1) - P 24 n = d at *
    by_cases c : d ≤ law
    · rw [if_pos ⟨by omega, c⟩] at e2
      rw [i32_le, hL, ed] at c
      have hdr : rg d 0 4000 := by unfold rg at hlaw ⊢; omega
      obtain ⟨⟨e3, e4⟩, e5⟩ := bet (s := n + 1 + 1) (r := n) (by omega) (by omega) hz.1 hz.2 hn2.1 hn2.2 hdr
      have e6 : plt S (n + 1 + 1) d = if S 25 (n + 1 + 1) < S 25 n + 1 ∨ (S 25 n + 1 = S 25 (n + 1 + 1) ∧ S 26 n + d < S 26 (n + 1 + 1)) then up2 (up2 S 25 (n + 1 + 1) (S 25 n + 1)) 26 (n + 1 + 1) (S 26 n + d) else S := rfl
      rw [e6] at e2
      by_cases q : S 25 (n + 1 + 1) < S 25 n + 1 ∨ (S 25 n + 1 = S 25 (n + 1 + 1) ∧ S 26 n + d < S 26 (n + 1 + 1))
      · rw [if_pos q] at e2
        have q' := e5.mp q
        have a1 : pu2 law S (n + 1) 25 (n + 1 + 1) = S 25 n + 1 := by rw [e2, up2_c _ _ _ _ (by decide), up2_s]
        have a2 : pu2 law S (n + 1) 26 (n + 1 + 1) = S 26 n + d := by rw [e2, up2_s]
        have v : VS (pu2 law S (n + 1)) 25 26 (n + 1 + 1) = VS S 25 26 n + (10000000 - (gS P (n + 1) - gS P n)) := by
          unfold VS; rw [a1, a2, e3, e4, ed]; omega
        refine ⟨fun r hr => ⟨by rw [e2, up2_c _ _ _ _ (by decide), up2_k _ _ _ (by omega)]; exact (b1 r (by omega)).1, by rw [e2, up2_k _ _ _ (by omega), up2_c _ _ _ _ (by decide)]; exact (b1 r (by omega)).2⟩, ⟨?_, ?_⟩, ?_⟩
        · rw [a1]; have := hn2.1; unfold rg at this ⊢; rw [e3]; omega
        · rw [a2]; have := hn2.2; unfold rg at this hdr ⊢; rw [e4]; omega
        · rw [if_pos ⟨c, by unfold VS; rw [ed] at q'; exact q'⟩] at near
          rw [v]; exact near
      · rw [if_neg q] at e2
        rw [e2]
        refine ⟨fun r hr => b1 r (by omega), hz, ?_⟩
        rw [if_neg fun w => q (e5.mpr (by rw [ed]; exact w.2))] at near
        exact near
    · rw [if_neg fun w => c w.2] at e2
      rw [i32_le, hL, ed] at c
      rw [e2]
      refine ⟨fun r hr => b1 r (by omega), hz, ?_⟩
      rw [if_neg fun w => c w.1] at near
      exact near
theorem pup_s {S : St} {law : Int32} {n : Nat} {L : Int} (hn : n ≤ 8) (hlaw : rg law 0 4000) (hL : law.toInt = L) (hr : ∀ j, j < n → rg (S 24 j) 0 9200) (hs : srd S n) (h0 : S 25 0 = 0 ∧ S 26 0 = 0) {m : Nat} (hm : m ≤ n) : (∀ r, r ≤ m → pok L (gS S) (pup S law m) r) ∧ pup S law m 25 0 = 0 ∧ pup S law m 26 0 = 0 := by
  induction m with
  | zero =>
    refine ⟨fun r hr => ?_, h0.1, h0.2⟩
    have hr0 : r = 0 := by omega
    subst hr0
    have z : (0 : Int32).toInt = 0 := rfl
    refine ⟨⟨by show rg (S 25 0) _ _; rw [h0.1]; unfold rg; rw [z]; omega, by show rg (S 26 0) _ _; rw [h0.2]; unfold rg; rw [z]; omega⟩, ?_⟩
    have e4 : VS (pup S law 0) 25 26 0 = 0 := by show 10000000 * (S 25 0).toInt - (S 26 0).toInt = 0; rw [h0.1, h0.2, z]; omega
    rw [e4]; exact Opt_nil L
  | succ m ih =>
    obtain ⟨i1, i2, i3⟩ := ih (by omega)
    have e24 : pup S law m 24 = S 24 := pup_o (by decide) (by decide) m
    have eg : gS (pup S law m) = gS S := by funext j; unfold gS; rw [e24]
    have hs' : srd (pup S law m) (m + 1) := fun i j a b => by rw [eg]; exact hs i j a (by omega)
    have k := pu_s (P := pup S law m) (law := law) (n := m) (L := L) (by omega) hlaw hL (fun j hj => by rw [e24]; exact hr j (by omega)) hs' (by rw [eg]; exact i1)
    rw [eg] at k
    show (∀ r, r ≤ m + 1 → pok L (gS S) (pu2 law (pu1 (pup S law m) m) m) r) ∧ pu2 law (pu1 (pup S law m) m) m 25 0 = 0 ∧ pu2 law (pu1 (pup S law m) m) m 26 0 = 0
    refine ⟨fun r hr => ?_, ((k.1 0 (Nat.zero_le _)).1).trans i2, ((k.1 0 (Nat.zero_le _)).2).trans i3⟩
    by_cases q : r = m + 1
    · subst q; exact k.2
    · exact pok_of (i1 r (by omega)) (k.1 r (by omega)).1 (k.1 r (by omega)).2
theorem all_bt : ∀ n, n < 9 → ∀ k, k < n → (2 ^ n - 1) / 2 ^ k % 2 = 1 := by decide +kernel
theorem hp_all (f : Nat → Int) {n s : Nat} : ∀ {m : Nat}, m ≤ n → (∀ k, k < n → s / 2 ^ k % 2 = 1) → hpM f s m = lsN f m
  | 0, _, _ => rfl
  | m + 1, h, hb => by
    unfold hpM lsN
    rw [if_pos (hb m (by omega)), hp_all f (m := m) (by omega) hb]
theorem RB.sp {T : Nat} {σ τ : St} (h : RB T σ τ) : (∀ j, j < 8 → rg (σ 6 j) 0 9200) ∧ σ 25 0 = 0 ∧ σ 26 0 = 0 := ⟨h.2.2.2.2.2.2.2.1.1, h.2.2.2.2.2.2.2.1.2.1, h.2.2.2.2.2.2.2.1.2.2.1⟩
theorem st_pairs {t : Nat} {σ τ : St} (h : RB t σ τ) {n : Nat} (hn : n ≤ 8) (e4 : σ 0 4 = nI n) (q : Int32) {r1 r2 : Int32} {u1 u2 : St} (h1 : (fun r u => (¬ inR q 0 1 ∧ r = -1 ∧ u = σ) ∨ (inR q 0 1 ∧ u = pup (srt σ n) (σ 5 0) n ∧ r = if q = 0 then u 25 n else u 26 n)) r1 u1) (h2 : (fun r u => (¬ inR q 0 1 ∧ r = -1 ∧ u = τ) ∨ (inR q 0 1 ∧ u = rsA τ n (2 ^ n - 1) ∧ r = if q = 0 then u 13 (2 ^ n - 1) else u 14 (2 ^ n - 1))) r2 u2) (ht : t < 600) : r1 = r2 ∧ RB (t + 1) u1 u2 := by
  have h' := rb_skip h ht
  rcases h1 with ⟨n1, a1, b1⟩ | ⟨n1, b1, a1⟩ <;> rcases h2 with ⟨n2, a2, b2⟩ | ⟨n2, b2, a2⟩
  · subst a1; subst b1; subst a2; subst b2; exact ⟨rfl, h'⟩
  · exact absurd n2 n1
  · exact absurd n1 n2
  · obtain ⟨s6, s25, s26⟩ := h.sp
    have l5 := h.law 0 (by omega)
    have e6 := h.e (k := 6) (by simp [shc])
    have e5 := h.e (k := 5) (by simp [shc])
    have p0 := Nat.two_pow_pos n
    have R := rsA_s (σ := τ) (n := n) (f := fun j => (σ 6 j).toInt) (L := (σ 5 0).toInt) hn (fun k hk => by rw [e6]; exact s6 k (by omega)) (by rw [e5]; exact l5) (by rw [e5]) (fun k _ => by rw [e6]) (m := 2 ^ n - 1) (by omega) (2 ^ n - 1) (Nat.le_refl _)
    have q1 := srt_a σ n
    have q2 := srt_b σ n
    have hr : ∀ j, j < n → rg (srt σ n 24 j) 0 9200 := fun j hj => ⟨srt_lo σ (fun j hj => (s6 j (by omega)).1) hj, srt_c σ n (fun j hj => (s6 j (by omega)).2) j hj⟩
    have K := pup_s (S := srt σ n) (law := σ 5 0) (n := n) (L := (σ 5 0).toInt) hn l5 rfl hr q1 ⟨by rw [srt_o (by decide)]; exact s25, by rw [srt_o (by decide)]; exact s26⟩ (m := n) (Nat.le_refl _)
    have k := K.1 n (Nat.le_refl _)
    rw [← b1] at K k
    rw [← b2] at R
    have eh : Eh (lsN (gS (srt σ n)) n) (hpM (fun j => (σ 6 j).toInt) (2 ^ n - 1) n) := fun v => by
      rw [hp_all _ (Nat.le_refl n) (all_bt n (by omega))]; exact q2 v
    have hv := Opt_un k.2 R.2 eh
    have hp8 : 2 ^ n ≤ 2 ^ 8 := Nat.pow_le_pow_right (by decide) hn
    have hm : 2 ^ n - 1 ≤ 255 := by omega
    have v1 := k.1
    have v2 := R.1
    generalize 2 ^ n - 1 = M at *
    have f1 : u1 25 n = u2 13 M ∧ u1 26 n = u2 14 M := by
      unfold VS at hv
      unfold rok rg at v1 v2
      rw [i_eq, i_eq]; omega
    refine ⟨by rw [a1, a2, f1.1, f1.2], h'.frame (fun k hk => ?_) ?_ ?_ (fun k hk => ?_)⟩
    · rw [b1, pup_o (by unfold shc at hk; omega) (by unfold shc at hk; omega), srt_o (by unfold shc at hk; omega)]
    · rw [K.2.1, s25]
    · rw [K.2.2, s26]
    · rw [b2, rsA_o (by unfold shc at hk; omega) (by unfold shc at hk; omega)]
