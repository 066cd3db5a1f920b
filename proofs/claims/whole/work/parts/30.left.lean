/-! readings left out at an offset: both sides count the same -/
abbrev rd (f g : Nat → Int32) (w j : Nat) : Prop := f j = nI w ∧ g j = 1
abbrev agr (f g z : Nat → Int32) (w : Nat) (x : Int) (j : Nat) : Prop := (f j = nI w ∧ g j = 1) ∧ x - 5 ≤ (z j).toInt ∧ (z j).toInt ≤ x + 5
/-- how many readings of a wheel agree with x (on the reader's own scale) -/
def cA (f g z : Nat → Int32) (w : Nat) (x : Int) : Nat → Nat
  | 0 => 0
  | j + 1 => cA f g z w x j + if agr f g z w x j then 1 else 0
def cN (f g : Nat → Int32) (w : Nat) : Nat → Nat
  | 0 => 0
  | j + 1 => cN f g w j + if rd f g w j then 1 else 0
def mbx (f g : Nat → Int32) (w : Nat) (val : Nat → Nat) : Nat → Nat
  | 0 => 0
  | j + 1 => if rd f g w j then max (mbx f g w val j) (val j) else mbx f g w val j
def snN (f : Nat → Nat) : Nat → Nat
  | 0 => 0
  | w + 1 => snN f w + f w
theorem cN_n (f g : Nat → Int32) (w n : Nat) : cN f g w n ≤ n := by
  induction n with
  | zero => exact Nat.le_refl _
  | succ n ih => unfold cN; split <;> omega
theorem cA_le (f g z : Nat → Int32) (w : Nat) (x : Int) (n : Nat) : cA f g z w x n ≤ cN f g w n := by
  induction n with
  | zero => exact Nat.le_refl _
  | succ n ih =>
    unfold cA cN
    by_cases q : agr f g z w x n
    · rw [if_pos q, if_pos q.1]; omega
    · rw [if_neg q]; split <;> omega
theorem cA_mono {f g z : Nat → Int32} {w : Nat} {x y : Int} {n : Nat} (h : ∀ j, j < n → agr f g z w x j → agr f g z w y j) : cA f g z w x n ≤ cA f g z w y n := by
  induction n with
  | zero => exact Nat.le_refl _
  | succ n ih =>
    have i := ih fun j hj => h j (by omega)
    unfold cA
    by_cases q : agr f g z w x n
    · rw [if_pos q, if_pos (h n (by omega) q)]; omega
    · rw [if_neg q]; split <;> omega
theorem cA_all {f g z : Nat → Int32} {w : Nat} {x : Int} {n : Nat} (h : ∀ j, j < n → rd f g w j → agr f g z w x j) : cA f g z w x n = cN f g w n := by
  induction n with
  | zero => rfl
  | succ n ih =>
    have i := ih fun j hj => h j (by omega)
    unfold cA cN
    by_cases q : rd f g w n
    · rw [if_pos q, if_pos (h n (by omega) q), i]
    · rw [if_neg q, if_neg fun r : agr f g z w x n => q r.1, i]
theorem cA_full {f g z : Nat → Int32} {w : Nat} {x : Int} {n : Nat} (h : cA f g z w x n = cN f g w n) : ∀ j, j < n → rd f g w j → agr f g z w x j := by
  induction n with
  | zero => intro j hj; exact absurd hj (Nat.not_lt_zero _)
  | succ n ih =>
    intro j hj hr
    have le := cA_le f g z w x n
    unfold cA cN at h
    by_cases q : agr f g z w x n
    · rw [if_pos q, if_pos q.1] at h
      by_cases r : j = n
      · subst r; exact q
      · exact ih (by omega) j (by omega) hr
    · rw [if_neg q] at h
      by_cases r : rd f g w n
      · rw [if_pos r] at h; omega
      · rw [if_neg r] at h
        by_cases s : j = n
        · subst s; exact absurd hr r
        · exact ih (by omega) j (by omega) hr
/-- of those that agree, the one with the greatest m -/
theorem ag_ext {f g z : Nat → Int32} {w : Nat} {x : Int} (m : Nat → Int) {n : Nat} (h : 0 < cA f g z w x n) : ∃ j, j < n ∧ agr f g z w x j ∧ ∀ k, k < n → agr f g z w x k → m k ≤ m j := by
  have key : ∀ n, (∀ k, k < n → ¬ agr f g z w x k) ∨ ∃ j, j < n ∧ agr f g z w x j ∧ ∀ k, k < n → agr f g z w x k → m k ≤ m j := by
    intro n
    induction n with
    | zero => exact Or.inl fun k hk => absurd hk (Nat.not_lt_zero _)
    | succ n ih =>
      by_cases q : agr f g z w x n
      · right
        rcases ih with i | ⟨j, j1, j2, j3⟩
        · refine ⟨n, by omega, q, fun k hk ha => ?_⟩
          by_cases r : k = n
          · subst r; exact Int.le_refl _
          · exact absurd ha (i k (by omega))
        · by_cases s : m j ≤ m n
          · refine ⟨n, by omega, q, fun k hk ha => ?_⟩
            by_cases r : k = n
            · subst r; exact Int.le_refl _
            · have := j3 k (by omega) ha; omega
          · refine ⟨j, by omega, j2, fun k hk ha => ?_⟩
            by_cases r : k = n
            · subst r; omega
            · exact j3 k (by omega) ha
      · rcases ih with i | ⟨j, j1, j2, j3⟩
        · left
          intro k hk
          by_cases r : k = n
          · subst r; exact q
          · exact i k (by omega)
        · right
          refine ⟨j, by omega, j2, fun k hk ha => ?_⟩
          by_cases r : k = n
          · subst r; exact absurd ha q
          · exact j3 k (by omega) ha
  rcases key n with i | i
  · exfalso
    have z0 : ∀ n, (∀ k, k < n → ¬ agr f g z w x k) → cA f g z w x n = 0 := by
      intro n
      induction n with
      | zero => intro _; rfl
      | succ n ih => intro q; unfold cA; rw [ih fun k hk => q k (by omega), if_neg (q n (by omega))]
    have := z0 n i; omega
  · exact i
theorem mb_at {f g : Nat → Int32} {w : Nat} {val : Nat → Nat} {n : Nat} : mbx f g w val n = 0 ∨ ∃ j, j < n ∧ rd f g w j ∧ mbx f g w val n = val j := by
  induction n with
  | zero => exact Or.inl rfl
  | succ n ih =>
    unfold mbx
    by_cases q : rd f g w n
    · rw [if_pos q]
      by_cases s : val n ≤ mbx f g w val n
      · rw [Nat.max_eq_left s]
        rcases ih with i | ⟨j, a, b, c⟩
        · exact Or.inl i
        · exact Or.inr ⟨j, by omega, b, c⟩
      · rw [Nat.max_eq_right (by omega)]
        exact Or.inr ⟨n, by omega, q, rfl⟩
    · rw [if_neg q]
      rcases ih with i | ⟨j, a, b, c⟩
      · exact Or.inl i
      · exact Or.inr ⟨j, by omega, b, c⟩
theorem mb_ge {f g : Nat → Int32} {w : Nat} {val : Nat → Nat} {n : Nat} : ∀ j, j < n → rd f g w j → val j ≤ mbx f g w val n := by
  induction n with
  | zero => intro j hj; exact absurd hj (Nat.not_lt_zero _)
  | succ n ih =>
    intro j hj hr
    unfold mbx
    by_cases s : j = n
    · subst s; rw [if_pos hr]; exact Nat.le_max_right _ _
    · have := ih j (by omega) hr
      split
      · exact Nat.le_trans this (Nat.le_max_left _ _)
      · exact this
theorem mb_n {f g : Nat → Int32} {w : Nat} {val : Nat → Nat} {n N : Nat} (h : ∀ j, val j ≤ N) : mbx f g w val n ≤ N := by
  rcases mb_at (f := f) (g := g) (w := w) (val := val) (n := n) with i | ⟨j, _, _, e⟩
  · omega
  · rw [e]; exact h j
/-- v is the best that a size from a to b comes to -/
def Bst (f g z : Nat → Int32) (w n : Nat) (a b : Int) (v : Nat) : Prop := (v = 0 ∨ ∃ x, a ≤ x ∧ x ≤ b ∧ cA f g z w x n = v) ∧ ∀ x, a ≤ x → x ≤ b → cA f g z w x n ≤ v
theorem Bst_un {f g z : Nat → Int32} {w n : Nat} {a b : Int} {u v : Nat} (h : Bst f g z w n a b u) (h' : Bst f g z w n a b v) : u = v := by
  have le : ∀ {u v : Nat}, Bst f g z w n a b u → Bst f g z w n a b v → u ≤ v := by
    intro u v h1 h2
    rcases h1.1 with q | ⟨x, x1, x2, x3⟩
    · omega
    · rw [← x3]; exact h2.2 x x1 x2
  exact Nat.le_antisymm (le h h') (le h' h)
theorem Bst_le {f g z : Nat → Int32} {w n : Nat} {a b : Int} {v : Nat} (h : Bst f g z w n a b v) : v ≤ cN f g w n := by
  rcases h.1 with q | ⟨x, _, _, q⟩
  · omega
  · rw [← q]; exact cA_le ..
def vC (f g z : Nat → Int32) (w n : Nat) (a b : Int) (j : Nat) : Nat := cA f g z w (max a (min b ((z j).toInt - 5))) n
def vR (f g z : Nat → Int32) (w n : Nat) (a b : Int) (j : Nat) : Nat := if a ≤ min ((z j).toInt + 5) b then cA f g z w (min ((z j).toInt + 5) b) n else 0
theorem Bst_C {f g z : Nat → Int32} {w n : Nat} {a b : Int} (hab : a ≤ b) : Bst f g z w n a b (mbx f g w (vC f g z w n a b) n) := by
  refine ⟨?_, fun x h1 h2 => ?_⟩
  · rcases mb_at (f := f) (g := g) (w := w) (val := vC f g z w n a b) (n := n) with i | ⟨j, _, _, e⟩
    · exact Or.inl i
    · exact Or.inr ⟨max a (min b ((z j).toInt - 5)), by omega, by omega, e.symm⟩
  · rcases Nat.eq_zero_or_pos (cA f g z w x n) with q | q
    · omega
    · obtain ⟨j, j1, j2, j3⟩ := ag_ext (fun k => (z k).toInt) q
      refine Nat.le_trans (cA_mono (y := max a (min b ((z j).toInt - 5))) fun k hk ha => ?_) (mb_ge (val := vC f g z w n a b) j j1 j2.1)
      have e := j3 k hk ha
      have e1 := ha.2
      have e2 := j2.2
      exact ⟨ha.1, by omega, by omega⟩
theorem Bst_R {f g z : Nat → Int32} {w n : Nat} {a b : Int} : Bst f g z w n a b (mbx f g w (vR f g z w n a b) n) := by
  refine ⟨?_, fun x h1 h2 => ?_⟩
  · rcases mb_at (f := f) (g := g) (w := w) (val := vR f g z w n a b) (n := n) with i | ⟨j, _, _, e⟩
    · exact Or.inl i
    · by_cases c : a ≤ min ((z j).toInt + 5) b
      · refine Or.inr ⟨min ((z j).toInt + 5) b, c, by omega, ?_⟩
        rw [e]; unfold vR; rw [if_pos c]
      · left; rw [e]; unfold vR; rw [if_neg c]
  · rcases Nat.eq_zero_or_pos (cA f g z w x n) with q | q
    · omega
    · obtain ⟨j, j1, j2, j3⟩ := ag_ext (fun k => - (z k).toInt) q
      have e2 := j2.2
      have c : a ≤ min ((z j).toInt + 5) b := by omega
      have ev : vR f g z w n a b j = cA f g z w (min ((z j).toInt + 5) b) n := if_pos c
      refine Nat.le_trans (cA_mono (y := min ((z j).toInt + 5) b) fun k hk ha => ?_) (ev ▸ mb_ge (val := vR f g z w n a b) j j1 j2.1)
      have e := j3 k hk ha
      have e1 := ha.2
      exact ⟨ha.1, by omega, by omega⟩
/-! sums -/
theorem sn_congr {f g : Nat → Nat} {n : Nat} (h : ∀ j, j < n → f j = g j) : snN f n = snN g n := by
  induction n with
  | zero => rfl
  | succ n ih => unfold snN; rw [ih fun j hj => h j (by omega), h n (by omega)]
theorem sn_sub {c b : Nat → Nat} {n : Nat} (h : ∀ j, j < n → b j ≤ c j) : snN b n ≤ snN c n ∧ snN (fun j => c j - b j) n = snN c n - snN b n := by
  induction n with
  | zero => exact ⟨Nat.le_refl _, rfl⟩
  | succ n ih =>
    obtain ⟨i1, i2⟩ := ih fun j hj => h j (by omega)
    have := h n (by omega)
    unfold snN
    rw [i2]; omega
theorem sn_one {f : Nat → Nat} {w0 d : Nat} {n : Nat} : snN (fun w => f w + if w = w0 then d else 0) n = snN f n + if w0 < n then d else 0 := by
  induction n with
  | zero => rfl
  | succ n ih =>
    unfold snN
    rw [ih]
    by_cases q : n = w0
    · rw [if_pos q, if_neg (by omega), if_pos (by omega)]; omega
    · rw [if_neg q]
      by_cases r : w0 < n
      · rw [if_pos r, if_pos (by omega)]; omega
      · rw [if_neg r, if_neg (by omega)]; omega
/-- all that are left out at an offset -/
def LN (f g z : Nat → Int32) (n : Nat) (lo hi : Nat → Int) (o : Int) : Nat := snN (fun w => cN f g w n - mbx f g w (vC f g z w n (lo w + o) (hi w + o)) n) 16
theorem tot_s {f g : Nat → Int32} {n w0 : Nat} (hf : f n = nI w0) (hw : w0 < 16) : snN (fun w => cN f g w (n + 1)) 16 = snN (fun w => cN f g w n) 16 + if g n = 1 then 1 else 0 := by
  have e : snN (fun w => cN f g w (n + 1)) 16 = snN (fun w => cN f g w n + if w = w0 then (if g n = 1 then 1 else 0) else 0) 16 := by
    refine sn_congr fun w hw' => ?_
    show cN f g w n + (if rd f g w n then 1 else 0) = _
    by_cases q : w = w0
    · subst q
      by_cases r : g n = 1
      · rw [if_pos ⟨hf, r⟩, if_pos rfl, if_pos r]
      · rw [if_neg fun x : rd f g w n => r x.2, if_pos rfl, if_neg r]
    · rw [if_neg q, if_neg fun x : rd f g w n => q ((nI_eq (by omega) (by omega)).mp (x.1.symm.trans hf))]
  rw [e, sn_one, if_pos hw]
theorem tot_n {f g : Nat → Int32} {n : Nat} (hf : ∀ j, j < n → ∃ w : Nat, w < 16 ∧ f j = nI w) : snN (fun w => cN f g w n) 16 ≤ n := by
  induction n with
  | zero => exact Nat.le_refl _
  | succ n ih =>
    obtain ⟨w, a, b⟩ := hf n (by omega)
    have i := ih fun j hj => hf j (by omega)
    rw [tot_s b a]; split <;> omega
theorem mc_s {S : St} {n : Nat} (hT : okT S n) : mcF S n = nI (snN (fun w => cN (S 7) (S 8) w n) 16) := by
  induction n with
  | zero => rfl
  | succ n ih =>
    obtain ⟨w, a, b⟩ := hT n (by omega)
    rw [tot_s b a]
    unfold mcF
    rw [ih fun j hj => hT j (by omega)]
    by_cases q : S 8 n = 1
    · rw [if_pos q, if_pos q, nI_1]
    · rw [if_neg q, if_neg q, Nat.add_zero]
theorem lf_s {T : St} {B : Nat → Nat} {k N : Nat} (hB : ∀ w, w < k → T 31 w = nI (B w)) (hN : snN B k ≤ N) : lfF T (nI N) k = nI (N - snN B k) := by
  induction k with
  | zero => rfl
  | succ k ih =>
    have e : snN B (k + 1) = snN B k + B k := rfl
    unfold lfF
    rw [ih (fun w hw => hB w (by omega)) (by omega), hB k (by omega), pk_sub (by omega), e, Nat.sub_sub]
/-! the class at an offset -/
theorem agL_s {S : St} {n w : Nat} {h : Int32} (hn : n ≤ 20) (hz : ∀ j, j < n → rg (S 9 j) 5000 10000) (hh : rg h (-300000) 300000) : agL S w h n = nI (cA (S 7) (S 8) (S 9) w h.toInt n) := by
  induction n with
  | zero => rfl
  | succ n ih =>
    have i := ih (by omega) fun j hj => hz j (by omega)
    have z := hz n (by omega)
    unfold agL cA
    rw [i]
    unfold rg at z hh
    have e1 : (S 9 n - h).toInt = (S 9 n).toInt - h.toInt := t_sub (by omega) (by omega)
    have e2 := t_ab (x := S 9 n - h) (by omega)
    have e3 : ab (S 9 n - h) ≤ 5 ↔ h.toInt - 5 ≤ (S 9 n).toInt ∧ (S 9 n).toInt ≤ h.toInt + 5 := by
      rw [i32_le, e2, e1, show (5 : Int32).toInt = 5 from rfl]; split <;> omega
    by_cases q : agr (S 7) (S 8) (S 9) w h.toInt n
    · rw [if_pos q, if_pos ⟨q.1.2, q.1.1, e3.mpr q.2⟩, nI_1]
    · rw [if_neg q, if_neg fun r : S 8 n = 1 ∧ S 7 n = nI w ∧ ab (S 9 n - h) ≤ 5 => q ⟨⟨r.2.1, r.1⟩, e3.mp r.2.2⟩, Nat.add_zero]
theorem zf_at {σ : St} {k w : Nat} (h : w < k) : zf σ k 31 w = 0 := by
  induction k with
  | zero => exact absurd h (Nat.not_lt_zero _)
  | succ k ih =>
    unfold zf
    by_cases q : w = k
    · subst q; rw [up2_s]
    · rw [up2_k _ _ _ q]; exact ih (by omega)
/-- the readings and the hands' bounds, as the class has them -/
def RD (S : St) (n : Nat) : Prop := n ≤ 20 ∧ okT S n ∧ (∀ j, j < n → S 8 j = 0 ∨ S 8 j = 1) ∧ ∀ j, j < n → rg (S 9 j) 5000 10000
def bd (S : St) (a b : Nat) : Prop := ∀ w : Nat, w < 16 → rg (S a w) (-100000) 9998 ∧ rg (S b w) 4998 100000
def iI (S : St) (a w : Nat) : Int := (S a w).toInt
theorem nI_max {a b : Nat} (ha : a < 1000) (hb : b < 1000) : mx (nI a) (nI b) = nI (max a b) := by
  rw [i_eq, t_mx, nI_toInt (by omega), nI_toInt (by omega), nI_toInt (by omega)]; omega
theorem ml_s {S : St} {n : Nat} (h : RD S n) (hb : bd S 27 28) {o : Int32} (ho : rg o (-200) 200) {i : Nat} (hi : i ≤ n) {w : Nat} (hw : w < 16) : mlF S o n i 31 w = nI (mbx (S 7) (S 8) w (vC (S 7) (S 8) (S 9) w n (iI S 27 w + o.toInt) (iI S 28 w + o.toInt)) i) := by
  obtain ⟨hn, hT, h8, h9⟩ := h
  induction i with
  | zero => exact zf_at hw
  | succ i ih =>
    have ih := ih (by omega)
    obtain ⟨wi, a, b⟩ := hT i (by omega)
    have e : ∀ c, c ≠ 31 → mlF S o n i c = S c := fun c hc => mlF_o hc i
    have e7 := e 7 (by decide)
    have e8 := e 8 (by decide)
    have e9 := e 9 (by decide)
    have e27 := e 27 (by decide)
    have e28 := e 28 (by decide)
    unfold mlF mbx
    generalize hT' : mlF S o n i = T at *
    have ew : wn (S 7 i) = wi := by rw [b]; exact wn_nI (by omega)
    rw [ew]
    by_cases q : S 8 i = 1
    · rw [if_pos (by rw [e8]; exact q)]
      unfold ml1
      by_cases r : w = wi
      · subst r
        rw [up2_s, if_pos ⟨b, q⟩, ih]
        have hbw := hb w hw
        have z := h9 i (by omega)
        unfold rg at hbw z ho
        have x1 : (T 9 i - 5).toInt = (S 9 i).toInt - 5 := by rw [e9, t_sub] <;> rw [show (5 : Int32).toInt = 5 from rfl] <;> omega
        have x2 : (T 27 w + o).toInt = iI S 27 w + o.toInt := by rw [e27]; exact t_add (by omega) (by omega)
        have x3 : (T 28 w + o).toInt = iI S 28 w + o.toInt := by rw [e28]; exact t_add (by omega) (by omega)
        have x4 : (shF T w o (T 9 i - 5)).toInt = max (iI S 27 w + o.toInt) (min (iI S 28 w + o.toInt) ((S 9 i).toInt - 5)) := by unfold shF; rw [t_mx, t_mn, x1, x2, x3]
        have x5 : rg (shF T w o (T 9 i - 5)) (-300000) 300000 := by unfold rg; rw [x4]; unfold iI; omega
        have x6 : agF T o i w n = nI (vC (S 7) (S 8) (S 9) w n (iI S 27 w + o.toInt) (iI S 28 w + o.toInt) i) := by
          unfold agF vC
          rw [agL_s hn (by rw [e9]; exact h9) x5, x4, e7, e8, e9]
        have c1 : ∀ j, vC (S 7) (S 8) (S 9) w n (iI S 27 w + o.toInt) (iI S 28 w + o.toInt) j ≤ 20 := fun j => Nat.le_trans (cA_le ..) (Nat.le_trans (cN_n ..) hn)
        rw [x6]
        have c2 := c1 i
        have c3 := mb_n (f := S 7) (g := S 8) (w := w) (n := i) c1
        exact nI_max (by omega) (by omega)
      · rw [up2_k _ _ _ r, if_neg fun x : rd (S 7) (S 8) w i => r ((nI_eq (by omega) (by omega)).mp (x.1.symm.trans b)), ih]
    · rw [if_neg (by rw [e8]; exact q), if_neg fun x : rd (S 7) (S 8) w i => q x.2, ih]
theorem lo1_s {S : St} {n : Nat} (h : RD S n) (hb : bd S 27 28) (hok : okH S 27 28) {o : Int32} (ho : rg o (-200) 200) : lo1 S o n = nI (LN (S 7) (S 8) (S 9) n (iI S 27) (iI S 28) o.toInt) := by
  unfold lo1 LN
  rw [mc_s h.2.1]
  have key := sn_sub (c := fun w => cN (S 7) (S 8) w n) (b := fun w => mbx (S 7) (S 8) w (vC (S 7) (S 8) (S 9) w n (iI S 27 w + o.toInt) (iI S 28 w + o.toInt)) n) (n := 16) fun w hw => Bst_le (Bst_C (by have := hok w hw; rw [i32_le] at this; unfold iI; omega))
  rw [key.2]
  exact lf_s (fun w hw => ml_s h hb ho (Nat.le_refl _) hw) key.1
/-! the reference at an offset -/
theorem agR_s {S : St} {n w : Nat} {o s : Int32} (hz : ∀ j, j < n → rg (S 9 j) 5000 10000) (ho : rg o (-200) 200) (hs : rg s (-300000) 300000) : agR S w o s n = nI (cA (S 7) (S 8) (S 9) w (s.toInt + o.toInt) n) := by
  induction n with
  | zero => rfl
  | succ n ih =>
    have i := ih fun j hj => hz j (by omega)
    have z := hz n (by omega)
    unfold agR cA
    rw [i]
    unfold rg at z hs ho
    have e1 : (S 9 n - o).toInt = (S 9 n).toInt - o.toInt := t_sub (by omega) (by omega)
    have e2 : (S 9 n - o - s).toInt = (S 9 n).toInt - o.toInt - s.toInt := by rw [t_sub (by omega) (by omega), e1]
    have e3 : inR (S 9 n - o - s) (-5) 5 ↔ s.toInt + o.toInt - 5 ≤ (S 9 n).toInt ∧ (S 9 n).toInt ≤ s.toInt + o.toInt + 5 := by
      show ((-5 : Int32) ≤ _ ∧ _ ≤ (5 : Int32)) ↔ _
      rw [i32_le, i32_le, e2, show (5 : Int32).toInt = 5 from rfl, show (-5 : Int32).toInt = -5 from rfl]; omega
    by_cases q : agr (S 7) (S 8) (S 9) w (s.toInt + o.toInt) n
    · rw [if_pos q, if_pos ⟨q.1.1, q.1.2, e3.mpr q.2⟩, nI_1]
    · rw [if_neg q, if_neg fun r : S 7 n = nI w ∧ S 8 n = 1 ∧ inR (S 9 n - o - s) (-5) 5 => q ⟨⟨r.1, r.2.1⟩, e3.mp r.2.2⟩, Nat.add_zero]
      exact Int32.add_zero _
theorem rN_s {S : St} {n : Nat} (h : RD S n) (hb : bd S 15 16) {o : Int32} (ho : rg o (-200) 200) {w : Nat} (hw : w < 16) {j : Nat} (hj : j < n) : rN1 S w o n j = nI (vR (S 7) (S 8) (S 9) w n (iI S 15 w + o.toInt) (iI S 16 w + o.toInt) j) := by
  obtain ⟨hn, hT, h8, h9⟩ := h
  have hbw := hb w hw
  have z := h9 j hj
  have ho' := ho
  unfold rg at hbw z ho'
  have e1 : (S 9 j - o).toInt = (S 9 j).toInt - o.toInt := t_sub (by omega) (by omega)
  have e2 : (S 9 j - o + 5).toInt = (S 9 j).toInt - o.toInt + 5 := by rw [t_add] <;> rw [show (5 : Int32).toInt = 5 from rfl] <;> omega
  have e3 : (rS1 S w o j).toInt = min ((S 9 j).toInt - o.toInt + 5) (iI S 16 w) := by
    unfold rS1; rw [t_le, e2]; rfl
  have e4 : rg (rS1 S w o j) (-300000) 300000 := by unfold rg; rw [e3]; unfold iI; omega
  have e5 : (rS1 S w o j).toInt + o.toInt = min ((S 9 j).toInt + 5) (iI S 16 w + o.toInt) := by rw [e3]; omega
  have e6 : S 15 w ≤ rS1 S w o j ↔ iI S 15 w + o.toInt ≤ min ((S 9 j).toInt + 5) (iI S 16 w + o.toInt) := by
    rw [i32_le, ← e5]; unfold iI; omega
  unfold rN1 vR
  by_cases q : S 15 w ≤ rS1 S w o j
  · rw [if_pos q, if_pos (e6.mp q), agR_s h9 ho e4, e5]
  · rw [if_neg q, if_neg fun x => q (e6.mpr x)]; rfl
theorem rIn_s {S : St} {n : Nat} (h : RD S n) (hb : bd S 15 16) {o : Int32} (ho : rg o (-200) 200) {w : Nat} (hw : w < 16) {j : Nat} (hj : j ≤ n) : rIn S w o n j = (nI (mbx (S 7) (S 8) w (vR (S 7) (S 8) (S 9) w n (iI S 15 w + o.toInt) (iI S 16 w + o.toInt)) j), nI (cN (S 7) (S 8) w j)) := by
  have hn := h.1
  induction j with
  | zero => rfl
  | succ j ih =>
    have c1 : ∀ i, vR (S 7) (S 8) (S 9) w n (iI S 15 w + o.toInt) (iI S 16 w + o.toInt) i ≤ 20 := fun i => by
      unfold vR
      split
      · exact Nat.le_trans (cA_le ..) (Nat.le_trans (cN_n ..) hn)
      · omega
    have c2 := c1 j
    have c3 := mb_n (f := S 7) (g := S 8) (w := w) (n := j) c1
    unfold rIn mbx cN
    rw [ih (by omega), rN_s h hb ho hw (j := j) (by omega)]
    by_cases q : S 7 j = nI w ∧ S 8 j = 1
    · rw [if_pos q, if_pos q, if_pos q]
      refine Prod.ext ?_ (nI_1 _)
      show (if nI (vR (S 7) (S 8) (S 9) w n (iI S 15 w + o.toInt) (iI S 16 w + o.toInt) j) ≤ nI (mbx (S 7) (S 8) w (vR (S 7) (S 8) (S 9) w n (iI S 15 w + o.toInt) (iI S 16 w + o.toInt)) j) then nI (mbx (S 7) (S 8) w (vR (S 7) (S 8) (S 9) w n (iI S 15 w + o.toInt) (iI S 16 w + o.toInt)) j) else nI (vR (S 7) (S 8) (S 9) w n (iI S 15 w + o.toInt) (iI S 16 w + o.toInt) j)) = nI (max _ _)
      rw [i_eq, t_ge, nI_toInt (by omega), nI_toInt (by omega), nI_toInt (by omega)]; omega
    · rw [if_neg q, if_neg q, if_neg q]; rfl
theorem rOut_s {S : St} {n : Nat} (h : RD S n) (hb : bd S 15 16) (hok : okH S 15 16) {o : Int32} (ho : rg o (-200) 200) : rOut S o n 16 = nI (LN (S 7) (S 8) (S 9) n (iI S 15) (iI S 16) o.toInt) := by
  have key : ∀ k, k ≤ 16 → rOut S o n k = nI (snN (fun w => cN (S 7) (S 8) w n - mbx (S 7) (S 8) w (vC (S 7) (S 8) (S 9) w n (iI S 15 w + o.toInt) (iI S 16 w + o.toInt)) n) k) := by
    intro k
    induction k with
    | zero => intro _; rfl
    | succ k ih =>
      intro hk
      have hC := Bst_C (f := S 7) (g := S 8) (z := S 9) (w := k) (n := n) (a := iI S 15 k + o.toInt) (b := iI S 16 k + o.toInt) (by have := hok k (by omega); rw [i32_le] at this; unfold iI; omega)
      have hu := Bst_un (Bst_R (f := S 7) (g := S 8) (z := S 9) (w := k) (n := n) (a := iI S 15 k + o.toInt) (b := iI S 16 k + o.toInt)) hC
      unfold rOut snN
      rw [ih (by omega), rIn_s h hb ho (w := k) (by omega) (Nat.le_refl n), hu]
      show _ + (nI (cN (S 7) (S 8) k n) - nI _) = _
      rw [pk_sub (Bst_le hC), nI_add]
  exact key 16 (Nat.le_refl _)
