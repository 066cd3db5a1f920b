/-! the bounds that readings set, on both sides -/
theorem RD.of {S T : St} {n : Nat} (h : RD S n) (e7 : T 7 = S 7) (e8 : T 8 = S 8) (e9 : T 9 = S 9) : RD T n := by
  unfold RD at h ⊢; rw [e8, e9]; exact ⟨h.1, okT_of h.2.1 e7, h.2.2⟩
theorem nar_x {S : St} {x y i w : Nat} {g : Int32} (hxy : x ≠ y) (v : Nat) : narF S x y i w g x v = if v = w then mx (S x w) (S 9 i - g) else S x v := by
  unfold narF
  rw [up2_c _ _ _ _ hxy]
  by_cases q : v = w
  · subst q; rw [up2_s, if_pos rfl]
  · rw [up2_k _ _ _ q, if_neg q]
theorem nar_y {S : St} {x y i w : Nat} {g : Int32} (hxy : x ≠ y) (h9 : 9 ≠ x) (v : Nat) : narF S x y i w g y v = if v = w then mn (S y w) (S 9 i + g) else S y v := by
  unfold narF
  rw [up2_c _ _ _ _ (Ne.symm hxy), up2_c _ _ _ _ h9]
  by_cases q : v = w
  · subst q; rw [up2_s, if_pos rfl]
  · rw [up2_k _ _ _ q, up2_c _ _ _ _ (Ne.symm hxy), if_neg q]
theorem fb1_at {σ : St} {k w : Nat} (h : w < k) : fb1 σ k 27 w = -100000 ∧ fb1 σ k 28 w = 100000 ∧ fb1 σ k 29 w = -100000 ∧ fb1 σ k 30 w = 100000 := by
  induction k with
  | zero => exact absurd h (Nat.not_lt_zero _)
  | succ k ih =>
    unfold fb1
    by_cases q : w = k
    · subst q
      refine ⟨?_, ?_, ?_, up2_s _ _ _ _⟩
      · rw [up2_c _ _ _ _ (by decide), up2_c _ _ _ _ (by decide), up2_c _ _ _ _ (by decide), up2_s]
      · rw [up2_c _ _ _ _ (by decide), up2_c _ _ _ _ (by decide), up2_s]
      · rw [up2_c _ _ _ _ (by decide), up2_s]
    · obtain ⟨a, b, c, d⟩ := ih (by omega)
      refine ⟨?_, ?_, ?_, ?_⟩
      · rw [up2_c _ _ _ _ (by decide), up2_c _ _ _ _ (by decide), up2_c _ _ _ _ (by decide), up2_k _ _ _ q]; exact a
      · rw [up2_c _ _ _ _ (by decide), up2_c _ _ _ _ (by decide), up2_k _ _ _ q, up2_c _ _ _ _ (by decide)]; exact b
      · rw [up2_c _ _ _ _ (by decide), up2_k _ _ _ q, up2_c _ _ _ _ (by decide), up2_c _ _ _ _ (by decide)]; exact c
      · rw [up2_k _ _ _ q, up2_c _ _ _ _ (by decide), up2_c _ _ _ _ (by decide), up2_c _ _ _ _ (by decide)]; exact d
theorem hR1_at {σ : St} {k w : Nat} (h : w < k) : hR1 σ k 15 w = -100000 ∧ hR1 σ k 16 w = 100000 := by
  induction k with
  | zero => exact absurd h (Nat.not_lt_zero _)
  | succ k ih =>
    unfold hR1
    by_cases q : w = k
    · subst q
      exact ⟨by rw [up2_c _ _ _ _ (by decide), up2_s], up2_s _ _ _ _⟩
    · obtain ⟨a, b⟩ := ih (by omega)
      exact ⟨by rw [up2_c _ _ _ _ (by decide), up2_k _ _ _ q]; exact a, by rw [up2_k _ _ _ q, up2_c _ _ _ _ (by decide)]; exact b⟩
def rlI (f g z : Nat → Int32) (w i : Nat) (y : Int) : Prop := ∀ x : Int, y ≤ x ↔ -100000 ≤ x ∧ ∀ j, j < i → rd f g w j → (z j).toInt - 5 ≤ x
def rhI (f g z : Nat → Int32) (w i : Nat) (y : Int) : Prop := ∀ x : Int, x ≤ y ↔ x ≤ 100000 ∧ ∀ j, j < i → rd f g w j → x ≤ (z j).toInt + 5
theorem fb_s {T : St} {n : Nat} (h : RD T n) (h0 : ∀ w, w < 16 → T 27 w = -100000 ∧ T 28 w = 100000 ∧ T 29 w = -100000 ∧ T 30 w = 100000) {i : Nat} (hi : i ≤ n) :
    ∀ w, w < 16 → (rg (fb2 T i 27 w) (-100000) 9998 ∧ rg (fb2 T i 28 w) 4998 100000) ∧ rlI (T 7) (T 8) (T 9) w i (fb2 T i 29 w).toInt ∧ rhI (T 7) (T 8) (T 9) w i (fb2 T i 30 w).toInt := by
  obtain ⟨hn, hT, h8, h9⟩ := h
  have m1 : (-100000 : Int32).toInt = -100000 := rfl
  have m2 : (100000 : Int32).toInt = 100000 := rfl
  induction i with
  | zero =>
    intro w hw
    obtain ⟨a, b, c, d⟩ := h0 w hw
    refine ⟨⟨?_, ?_⟩, fun x => ?_, fun x => ?_⟩
    · show rg (T 27 w) _ _; rw [a]; unfold rg; rw [m1]; omega
    · show rg (T 28 w) _ _; rw [b]; unfold rg; rw [m2]; omega
    · show (T 29 w).toInt ≤ x ↔ _
      rw [c, m1]; exact ⟨fun q => ⟨q, fun j hj => absurd hj (Nat.not_lt_zero _)⟩, fun q => q.1⟩
    · show x ≤ (T 30 w).toInt ↔ _
      rw [d, m2]; exact ⟨fun q => ⟨q, fun j hj => absurd hj (Nat.not_lt_zero _)⟩, fun q => q.1⟩
  | succ i ih =>
    have ih := ih (by omega)
    obtain ⟨wi, a, b⟩ := hT i (by omega)
    have z := h9 i (by omega)
    have e8 : fb2 T i 8 = T 8 := fb2_o (by decide) (by decide) (by decide) (by decide) i
    have e9 : fb2 T i 9 = T 9 := fb2_o (by decide) (by decide) (by decide) (by decide) i
    unfold fb2
    generalize fb2 T i = S at *
    have ew : wn (T 7 i) = wi := by rw [b]; exact wn_nI (by omega)
    rw [ew]
    unfold rg at z
    intro w hw
    obtain ⟨⟨i1, i2⟩, i3, i4⟩ := ih w hw
    by_cases q : T 8 i = 0
    · rw [if_pos (by rw [e8]; exact q)]
      have nr : ¬ rd (T 7) (T 8) w i := fun x => absurd (q.symm.trans x.2) (by decide)
      have e2 : (S 9 i - 2).toInt = (T 9 i).toInt - 2 := by rw [e9, t_sub] <;> rw [show (2 : Int32).toInt = 2 from rfl] <;> omega
      have e3 : (S 9 i + 2).toInt = (T 9 i).toInt + 2 := by rw [e9, t_add] <;> rw [show (2 : Int32).toInt = 2 from rfl] <;> omega
      refine ⟨⟨?_, ?_⟩, fun x => ?_, fun x => ?_⟩
      · rw [nar_x (by decide)]
        by_cases r : w = wi
        · subst r; rw [if_pos rfl]; unfold rg at i1 ⊢; rw [t_mx, e2]; omega
        · rw [if_neg r]; exact i1
      · rw [nar_y (by decide) (by decide)]
        by_cases r : w = wi
        · subst r; rw [if_pos rfl]; unfold rg at i2 ⊢; rw [t_mn, e3]; omega
        · rw [if_neg r]; exact i2
      · rw [narF_o (c := 29) (by decide) (by decide)]
        refine (i3 x).trans ⟨fun k => ⟨k.1, fun j hj hr => ?_⟩, fun k => ⟨k.1, fun j hj hr => k.2 j (by omega) hr⟩⟩
        by_cases s : j = i
        · subst s; exact absurd hr nr
        · exact k.2 j (by omega) hr
      · rw [narF_o (c := 30) (by decide) (by decide)]
        refine (i4 x).trans ⟨fun k => ⟨k.1, fun j hj hr => ?_⟩, fun k => ⟨k.1, fun j hj hr => k.2 j (by omega) hr⟩⟩
        by_cases s : j = i
        · subst s; exact absurd hr nr
        · exact k.2 j (by omega) hr
    · rw [if_neg (by rw [e8]; exact q)]
      have q1 : T 8 i = 1 := (h8 i (by omega)).resolve_left q
      have e2 : (S 9 i - 5).toInt = (T 9 i).toInt - 5 := by rw [e9, t_sub] <;> rw [show (5 : Int32).toInt = 5 from rfl] <;> omega
      have e3 : (S 9 i + 5).toInt = (T 9 i).toInt + 5 := by rw [e9, t_add] <;> rw [show (5 : Int32).toInt = 5 from rfl] <;> omega
      refine ⟨⟨by rw [narF_o (c := 27) (by decide) (by decide)]; exact i1, by rw [narF_o (c := 28) (by decide) (by decide)]; exact i2⟩, fun x => ?_, fun x => ?_⟩
      · rw [nar_x (by decide)]
        by_cases r : w = wi
        · subst r
          rw [if_pos rfl, t_mx, e2]
          have k := i3 x
          refine ⟨fun y => ?_, fun y => ?_⟩
          · have k1 := k.mp (by omega)
            refine ⟨k1.1, fun j hj hr => ?_⟩
            by_cases s : j = i
            · subst s; omega
            · exact k1.2 j (by omega) hr
          · have k1 := k.mpr ⟨y.1, fun j hj hr => y.2 j (by omega) hr⟩
            have k2 := y.2 i (by omega) ⟨b, q1⟩
            omega
        · rw [if_neg r]
          have nr : ¬ rd (T 7) (T 8) w i := fun x => r ((nI_eq (by omega) (by omega)).mp (x.1.symm.trans b))
          refine (i3 x).trans ⟨fun k => ⟨k.1, fun j hj hr => ?_⟩, fun k => ⟨k.1, fun j hj hr => k.2 j (by omega) hr⟩⟩
          by_cases s : j = i
          · subst s; exact absurd hr nr
          · exact k.2 j (by omega) hr
      · rw [nar_y (by decide) (by decide)]
        by_cases r : w = wi
        · subst r
          rw [if_pos rfl, t_mn, e3]
          have k := i4 x
          refine ⟨fun y => ?_, fun y => ?_⟩
          · have k1 := k.mp (by omega)
            refine ⟨k1.1, fun j hj hr => ?_⟩
            by_cases s : j = i
            · subst s; omega
            · exact k1.2 j (by omega) hr
          · have k1 := k.mpr ⟨y.1, fun j hj hr => y.2 j (by omega) hr⟩
            have k2 := y.2 i (by omega) ⟨b, q1⟩
            omega
        · rw [if_neg r]
          have nr : ¬ rd (T 7) (T 8) w i := fun x => r ((nI_eq (by omega) (by omega)).mp (x.1.symm.trans b))
          refine (i4 x).trans ⟨fun k => ⟨k.1, fun j hj hr => ?_⟩, fun k => ⟨k.1, fun j hj hr => k.2 j (by omega) hr⟩⟩
          by_cases s : j = i
          · subst s; exact absurd hr nr
          · exact k.2 j (by omega) hr
/-- hands set the same bounds on both sides -/
theorem hands_eq {T U : St} {n : Nat} (h : RD T n) (e7 : U 7 = T 7) (e8 : U 8 = T 8) (e9 : U 9 = T 9) (h0 : ∀ w, w < 16 → U 15 w = T 27 w ∧ U 16 w = T 28 w) {i : Nat} (hi : i ≤ n) : ∀ w, w < 16 → hR2 U i 15 w = fb2 T i 27 w ∧ hR2 U i 16 w = fb2 T i 28 w := by
  induction i with
  | zero => exact h0
  | succ i ih =>
    have ih := ih (by omega)
    obtain ⟨wi, a, b⟩ := h.2.1 i (by omega)
    have f8 : fb2 T i 8 = T 8 := fb2_o (by decide) (by decide) (by decide) (by decide) i
    have f9 : fb2 T i 9 = T 9 := fb2_o (by decide) (by decide) (by decide) (by decide) i
    have g8 : hR2 U i 8 = T 8 := (hR2_o (by decide) (by decide) i).trans e8
    have g9 : hR2 U i 9 = T 9 := (hR2_o (by decide) (by decide) i).trans e9
    intro w hw
    have i1 := ih w hw
    have i2 := ih wi a
    unfold hR2 fb2
    generalize hR2 U i = V at *
    generalize fb2 T i = S at *
    have ew : wn (T 7 i) = wi := by rw [b]; exact wn_nI (by omega)
    rw [e7, ew, g8, f8]
    by_cases q : T 8 i = 0
    · rw [if_pos q, if_pos q, nar_x (by decide), nar_x (by decide), nar_y (by decide) (by decide), nar_y (by decide) (by decide), f9, g9, i1.1, i1.2, i2.1, i2.2]
      exact ⟨rfl, rfl⟩
    · rw [if_neg q, if_neg q, narF_o (c := 27) (by decide) (by decide), narF_o (c := 28) (by decide) (by decide)]
      exact i1
/-! the offsets that agree -/
theorem sn_zero {f : Nat → Nat} {n : Nat} : snN f n = 0 ↔ ∀ j, j < n → f j = 0 := by
  induction n with
  | zero => exact ⟨fun _ j hj => absurd hj (Nat.not_lt_zero _), fun _ => rfl⟩
  | succ n ih =>
    have e : snN f (n + 1) = snN f n + f n := rfl
    rw [e]
    refine ⟨fun h j hj => ?_, fun h => ?_⟩
    · by_cases q : j = n
      · subst q; omega
      · exact ih.mp (by omega) j (by omega)
    · have a := ih.mpr fun j hj => h j (by omega)
      have b := h n (by omega)
      omega
theorem agw {f g z : Nat → Int32} {w n : Nat} {lo hi rL rH o : Int} (hlo : -100000 ≤ lo ∧ lo ≤ 9998) (hhi : 4998 ≤ hi ∧ hi ≤ 100000) (hlh : lo ≤ hi) (ho : -200 ≤ o ∧ o ≤ 200) (hz : ∀ j, j < n → rg (z j) 5000 10000) (hL : rlI f g z w n rL) (hH : rhI f g z w n rH) :
    cN f g w n - mbx f g w (vC f g z w n (lo + o) (hi + o)) n = 0 ↔ rL ≤ rH ∧ rL - hi ≤ o ∧ o ≤ rH - lo := by
  have B := Bst_C (f := f) (g := g) (z := z) (w := w) (n := n) (a := lo + o) (b := hi + o) (by omega)
  generalize mbx f g w (vC f g z w n (lo + o) (hi + o)) n = v at *
  have le := Bst_le B
  refine ⟨fun h => ?_, fun h => ?_⟩
  · have hv : v = cN f g w n := by omega
    have ex : ∃ x, lo + o ≤ x ∧ x ≤ hi + o ∧ ∀ j, j < n → rd f g w j → agr f g z w x j := by
      rcases B.1 with q | ⟨x, x1, x2, x3⟩
      · exact ⟨lo + o, by omega, by omega, cA_full (Nat.le_antisymm (cA_le ..) (by omega))⟩
      · exact ⟨x, x1, x2, cA_full (x3.trans hv)⟩
    obtain ⟨x, x1, x2, x3⟩ := ex
    have k0 : -100000 ≤ rH := (hH _).mpr ⟨by omega, fun j hj hr => by have := hz j hj; unfold rg at this; omega⟩
    have k1 : rL ≤ rH := (hL rH).mpr ⟨k0, fun j hj hr => (hH _).mpr ⟨by have := hz j hj; unfold rg at this; omega, fun i hi' hr' => by
      have a := (x3 j hj hr).2; have b := (x3 i hi' hr').2; omega⟩⟩
    have k2 : rL ≤ hi + o := (hL _).mpr ⟨by omega, fun j hj hr => by have a := (x3 j hj hr).2; omega⟩
    have k3 : lo + o ≤ rH := (hH _).mpr ⟨by omega, fun j hj hr => by have a := (x3 j hj hr).2; omega⟩
    omega
  · obtain ⟨h1, h2, h3⟩ := h
    have k1 := (hL (max (lo + o) rL)).mp (by omega)
    have k2 := (hH (max (lo + o) rL)).mp (by omega)
    have := B.2 (max (lo + o) rL) (by omega) (by omega)
    rw [cA_all (x := max (lo + o) rL) fun j hj hr => ⟨hr, by have := k2.2 j hj hr; omega, by have := k1.2 j hj hr; omega⟩] at this
    omega
theorem lo_s {S : St} (h : ∀ w, w < 16 → rg (S 29 w) (-200000) 200000 ∧ rg (S 28 w) (-200000) 200000) {k : Nat} (hk : k ≤ 16) : (∀ x : Int, (loO S k).toInt ≤ x ↔ -200 ≤ x ∧ ∀ w, w < k → iI S 29 w - iI S 28 w ≤ x) ∧ (loO S k).toInt ≤ 400000 := by
  induction k with
  | zero => exact ⟨fun x => ⟨fun q => ⟨q, fun w hw => absurd hw (Nat.not_lt_zero _)⟩, fun q => q.1⟩, by rw [show (loO S 0).toInt = -200 from rfl]; omega⟩
  | succ k ih =>
    obtain ⟨i1, i2⟩ := ih (by omega)
    obtain ⟨a, b⟩ := h k (by omega)
    unfold rg at a b
    have e : (loO S (k + 1)).toInt = max (loO S k).toInt (iI S 29 k - iI S 28 k) := by
      show (mx _ _).toInt = _
      rw [t_mx, t_sub (by omega) (by omega)]; rfl
    rw [e]
    refine ⟨fun x => ⟨fun q => ?_, fun q => ?_⟩, by unfold iI; omega⟩
    · have j := (i1 x).mp (by omega)
      refine ⟨j.1, fun w hw => ?_⟩
      by_cases r : w = k
      · subst r; omega
      · exact j.2 w (by omega)
    · have j := (i1 x).mpr ⟨q.1, fun w hw => q.2 w (by omega)⟩
      have := q.2 k (by omega)
      omega
theorem go_s {S : St} (h : ∀ w, w < 16 → rg (S 30 w) (-200000) 200000 ∧ rg (S 27 w) (-200000) 200000) {k : Nat} (hk : k ≤ 16) : (∀ x : Int, x ≤ (goO S k).toInt ↔ x ≤ 200 ∧ ∀ w, w < k → x ≤ iI S 30 w - iI S 27 w) ∧ -400000 ≤ (goO S k).toInt := by
  induction k with
  | zero => exact ⟨fun x => ⟨fun q => ⟨q, fun w hw => absurd hw (Nat.not_lt_zero _)⟩, fun q => q.1⟩, by rw [show (goO S 0).toInt = 200 from rfl]; omega⟩
  | succ k ih =>
    obtain ⟨i1, i2⟩ := ih (by omega)
    obtain ⟨a, b⟩ := h k (by omega)
    unfold rg at a b
    have e : (goO S (k + 1)).toInt = min (goO S k).toInt (iI S 30 k - iI S 27 k) := by
      show (mn _ _).toInt = _
      rw [t_mn, t_sub (by omega) (by omega)]; rfl
    rw [e]
    refine ⟨fun x => ⟨fun q => ?_, fun q => ?_⟩, by unfold iI; omega⟩
    · have j := (i1 x).mp (by omega)
      refine ⟨j.1, fun w hw => ?_⟩
      by_cases r : w = k
      · subst r; omega
      · exact j.2 w (by omega)
    · have j := (i1 x).mpr ⟨q.1, fun w hw => q.2 w (by omega)⟩
      have := q.2 k (by omega)
      omega
theorem oO_t {t : Nat} (ht : t < 1000) : (oO t).toInt = (t : Int) - 200 := pk_sub_toInt (a := t) (b := 200) (by omega) (by omega)
/-- the reference's walk over all offsets: the first, the last, how many -/
theorem oF_s {H : St} {n A Q : Nat} (hA : A < 1000) {T : Nat} (hT : T ≤ 401) (hP : ∀ t, t < T → (oFn H n t = 0 ↔ A ≤ t ∧ t < Q)) : oF3 H n T = nI (min T Q - A) ∧ oF1 H n T = (if A < min T Q then oO A else -1000000) ∧ oF2 H n T = (if A < min T Q then oO (min T Q - 1) else -1000000) := by
  induction T with
  | zero => exact ⟨by rw [show min 0 Q - A = 0 by omega]; rfl, by rw [if_neg (by omega)]; rfl, by rw [if_neg (by omega)]; rfl⟩
  | succ T ih =>
    obtain ⟨i1, i2, i3⟩ := ih (by omega) fun t ht => hP t (by omega)
    have hp := hP T (by omega)
    have nA : oO A ≠ -1000000 := fun q => by
      rw [i_eq, oO_t hA, show (-1000000 : Int32).toInt = -1000000 from rfl] at q; omega
    unfold oF3 oF1 oF2
    by_cases q : oFn H n T = 0
    · have hq := hp.mp q
      rw [if_pos q, if_pos q, if_pos q, i1, i2, if_pos (show A < min (T + 1) Q by omega), if_pos (show A < min (T + 1) Q by omega), nI_1]
      refine ⟨by rw [show min T Q - A + 1 = min (T + 1) Q - A by omega], ?_, by rw [show min (T + 1) Q - 1 = T by omega]⟩
      by_cases r : A < min T Q
      · rw [if_pos r, if_neg nA]
      · rw [if_neg r, if_pos rfl, show T = A by omega]
    · have hq : ¬ (A ≤ T ∧ T < Q) := fun x => q (hp.mpr x)
      rw [if_neg q, if_neg q, if_neg q, i1, i2, i3]
      refine ⟨by rw [show min T Q - A = min (T + 1) Q - A by omega], ?_, ?_⟩
      · by_cases r : A < min T Q
        · rw [if_pos r, if_pos (by omega)]
        · rw [if_neg r, if_neg (by omega)]
      · by_cases r : A < min T Q
        · rw [if_pos r, if_pos (by omega), show min (T + 1) Q = min T Q by omega]
        · rw [if_neg r, if_neg (by omega)]
/-- its least number left out -/
theorem oF4_s {H : St} {n : Nat} {F : Nat → Nat} {T : Nat} (hT : T ≤ 401) (hF : ∀ t, t < T → oFn H n t = nI (F t) ∧ F t ≤ 20) : T = 0 ∨ ∃ t, t < T ∧ oF4 H n T = nI (F t) ∧ ∀ u, u < T → F t ≤ F u := by
  induction T with
  | zero => exact Or.inl rfl
  | succ T ih =>
    right
    obtain ⟨e, b⟩ := hF T (by omega)
    rcases ih (by omega) fun t ht => hF t (by omega) with q | ⟨t, t1, t2, t3⟩
    · subst q
      refine ⟨0, by omega, ?_, fun u hu => by rw [show u = 0 by omega]; exact Nat.le_refl _⟩
      show (if (-9 : Int32) = -9 then oFn H n 0 else _) = _
      rw [if_pos rfl, e]
    · have bt := (hF t (by omega)).2
      have n9 : nI (F t) ≠ -9 := fun q => by
        rw [i_eq, nI_toInt (by omega), show (-9 : Int32).toInt = -9 from rfl] at q; omega
      unfold oF4
      rw [t2, e, if_neg n9]
      by_cases r : F t ≤ F T
      · rw [if_pos ((nI_leI (by omega) (by omega)).mpr r)]
        refine ⟨t, by omega, rfl, fun u hu => ?_⟩
        by_cases s : u = T
        · subst s; exact r
        · exact t3 u (by omega)
      · rw [if_neg fun x => r ((nI_leI (by omega) (by omega)).mp x)]
        refine ⟨T, by omega, rfl, fun u hu => ?_⟩
        by_cases s : u = T
        · subst s; exact Nat.le_refl _
        · have := t3 u (by omega); omega
