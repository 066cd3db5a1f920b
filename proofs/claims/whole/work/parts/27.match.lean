/-! pairs: what a choice of pairs out of a heap of numbers is worth -/
def dI (x y : Int) : Int := if y ≤ x then x - y else y - x
def ix (x v : Int) : Nat := if x = v then 1 else 0
def ct (v : Int) : List Int → Nat
  | [] => 0
  | x :: l => ct v l + ix x v
/-- the same heap -/
def Eh (l l' : List Int) : Prop := ∀ v, ct v l = ct v l'
theorem ct_c (v x : Int) (l : List Int) : ct v (x :: l) = ct v l + ix x v := rfl
theorem ix_s (x : Int) : ix x x = 1 := if_pos rfl
theorem ix_n {x v : Int} (h : x ≠ v) : ix x v = 0 := if_neg h
theorem ct_ex {y : Int} : ∀ {l : List Int}, 0 < ct y l → ∃ l', Eh l (y :: l')
  | [], h => absurd h (Nat.lt_irrefl 0)
  | x :: l, h => by
    by_cases q : x = y
    · subst q; exact ⟨l, fun _ => rfl⟩
    · rw [ct_c, ix_n q] at h
      obtain ⟨l', e⟩ := ct_ex (l := l) h
      refine ⟨x :: l', fun v => ?_⟩
      have := e v
      simp only [ct_c] at this ⊢; omega
theorem dI_c (x y : Int) : dI x y = dI y x := by unfold dI; split <;> split <;> omega
def Mt (L : Int) (l : List Int) (s : Int) : Prop := ∀ P : List Int → Int → Prop, P [] 0 → (∀ x l s, P l s → P (x :: l) s) → (∀ x y l s, dI x y ≤ L → P l s → P (x :: y :: l) (s + (10000000 - dI x y))) → (∀ l l' s, Eh l l' → P l s → P l' s) → P l s
theorem Mt_nil (L : Int) : Mt L [] 0 := fun P h1 _ _ _ => h1
theorem Mt_skip {L : Int} {l : List Int} {s : Int} (h : Mt L l s) (x : Int) : Mt L (x :: l) s := fun P h1 h2 h3 h4 => h2 _ _ _ (h P h1 h2 h3 h4)
theorem Mt_pair {L : Int} {l : List Int} {s : Int} (h : Mt L l s) {x y : Int} (hd : dI x y ≤ L) : Mt L (x :: y :: l) (s + (10000000 - dI x y)) := fun P h1 h2 h3 h4 => h3 _ _ _ _ hd (h P h1 h2 h3 h4)
theorem Mt_perm {L : Int} {l l' : List Int} {s : Int} (h : Mt L l s) (he : Eh l l') : Mt L l' s := fun P h1 h2 h3 h4 => h4 _ _ _ he (h P h1 h2 h3 h4)
theorem Mt_inv {L : Int} {l0 : List Int} {s : Int} (h : Mt L l0 s) : ∀ x l, Eh l0 (x :: l) → Mt L l s ∨ ∃ y l', Eh l (y :: l') ∧ dI x y ≤ L ∧ ∃ s', Mt L l' s' ∧ s = s' + (10000000 - dI x y) := by
  refine (h (fun l0 s => Mt L l0 s ∧ ∀ x l, Eh l0 (x :: l) → Mt L l s ∨ ∃ y l', Eh l (y :: l') ∧ dI x y ≤ L ∧ ∃ s', Mt L l' s' ∧ s = s' + (10000000 - dI x y)) ?_ ?_ ?_ ?_).2
  · refine ⟨Mt_nil L, fun x l e => ?_⟩
    have := e x
    rw [ct_c, ix_s] at this
    exact absurd this (by show ¬ 0 = ct x l + 1; omega)
  · intro z l1 s ⟨i1, i2⟩
    refine ⟨Mt_skip i1 z, fun x l e => ?_⟩
    by_cases q : z = x
    · subst q
      exact Or.inl (Mt_perm i1 fun v => by have := e v; simp only [ct_c] at this; omega)
    · have hx := e x
      rw [ct_c, ct_c, ix_s, ix_n q] at hx
      obtain ⟨l1', e1⟩ := ct_ex (y := x) (l := l1) (by omega)
      have el : Eh (z :: l1') l := fun v => by have a := e v; have b := e1 v; simp only [ct_c] at a b ⊢; omega
      rcases i2 x l1' e1 with r | ⟨y, l', r1, r2, s', r3, r4⟩
      · exact Or.inl (Mt_perm (Mt_skip r z) el)
      · exact Or.inr ⟨y, z :: l', fun v => by have a := el v; have b := r1 v; simp only [ct_c] at a b ⊢; omega, r2, s', Mt_skip r3 z, r4⟩
  · intro z1 z2 l1 s hd ⟨i1, i2⟩
    refine ⟨Mt_pair i1 hd, fun x l e => ?_⟩
    by_cases q : z1 = x
    · subst q
      exact Or.inr ⟨z2, l1, fun v => by have := e v; simp only [ct_c] at this ⊢; omega, hd, s, i1, rfl⟩
    · by_cases q2 : z2 = x
      · subst q2
        exact Or.inr ⟨z1, l1, fun v => by have := e v; simp only [ct_c] at this ⊢; omega, dI_c z1 z2 ▸ hd, s, i1, by rw [dI_c z2 z1]⟩
      · have hx := e x
        rw [ct_c, ct_c, ct_c, ix_s, ix_n q, ix_n q2] at hx
        obtain ⟨l1', e1⟩ := ct_ex (y := x) (l := l1) (by omega)
        have el : Eh (z1 :: z2 :: l1') l := fun v => by have a := e v; have b := e1 v; simp only [ct_c] at a b ⊢; omega
        rcases i2 x l1' e1 with r | ⟨y, l', r1, r2, s', r3, r4⟩
        · exact Or.inl (Mt_perm (Mt_pair r hd) el)
        · exact Or.inr ⟨y, z1 :: z2 :: l', fun v => by have a := el v; have b := r1 v; simp only [ct_c] at a b ⊢; omega, r2, _, Mt_pair r3 hd, by rw [r4]; omega⟩
  · intro l1 l2 s e12 ⟨i1, i2⟩
    exact ⟨Mt_perm i1 e12, fun x l e => i2 x l fun v => (e12 v).trans (e v)⟩
/-- the best that a heap is worth -/
def Opt (L : Int) (l : List Int) (v : Int) : Prop := Mt L l v ∧ ∀ s, Mt L l s → s ≤ v
theorem Opt_un {L : Int} {l l' : List Int} {v v' : Int} (h : Opt L l v) (h' : Opt L l' v') (e : Eh l l') : v = v' := by
  have a := h'.2 v (Mt_perm h.1 e)
  have b := h.2 v' (Mt_perm h'.1 fun x => (e x).symm)
  omega
theorem Opt_nil (L : Int) : Opt L [] 0 := by
  refine ⟨Mt_nil L, fun s h => ?_⟩
  refine (h (fun l s => Mt L l s ∧ ((∀ v, ct v l = 0) → s ≤ 0)) ⟨Mt_nil L, fun _ => Int.le_refl _⟩ ?_ ?_ ?_).2 (fun _ => rfl)
  · intro x l s ⟨i1, i2⟩
    exact ⟨Mt_skip i1 x, fun q => by have := q x; rw [ct_c, ix_s] at this; omega⟩
  · intro x y l s hd ⟨i1, i2⟩
    exact ⟨Mt_pair i1 hd, fun q => by have := q x; rw [ct_c, ix_s] at this; omega⟩
  · intro l l' s e ⟨i1, i2⟩
    exact ⟨Mt_perm i1 e, fun q => i2 fun v => (e v).trans (q v)⟩
theorem Opt_one (L x : Int) : Opt L [x] 0 := by
  refine ⟨Mt_skip (Mt_nil L) x, fun s h => ?_⟩
  rcases Mt_inv h x [] (fun _ => rfl) with r | ⟨y, l', r, _⟩
  · exact (Opt_nil L).2 s r
  · have := r y; rw [ct_c, ix_s] at this; exact absurd this (by show ¬ 0 = ct y l' + 1; omega)
/-- in a sorted heap the greatest is paired with its neighbour, or not at all -/
theorem Opt_near {L : Int} {x z : Int} {l2 : List Int} {a b : Int} (hz : z ≤ x) (hall : ∀ y, 0 < ct y l2 → y ≤ z) (h1 : Opt L (z :: l2) a) (h2 : Opt L l2 b) :
    Opt L (x :: z :: l2) (if x - z ≤ L ∧ a < b + (10000000 - (x - z)) then b + (10000000 - (x - z)) else a) := by
  have dxz : dI x z = x - z := by unfold dI; rw [if_pos hz]
  have up : ∀ s, Mt L (x :: z :: l2) s → s ≤ a ∨ (x - z ≤ L ∧ s ≤ b + (10000000 - (x - z))) := by
    intro s h
    rcases Mt_inv h x (z :: l2) (fun _ => rfl) with r | ⟨y, l', r1, r2, s', r3, r4⟩
    · exact Or.inl (h1.2 s r)
    · right
      by_cases q : z = y
      · subst q
        have := h2.2 s' (Mt_perm r3 fun v => by have := r1 v; simp only [ct_c] at this; omega)
        rw [dxz] at r2 r4
        exact ⟨r2, by omega⟩
      · have hy := r1 y
        rw [ct_c, ct_c, ix_s, ix_n q] at hy
        have hyz := hall y (by omega)
        have hzl := r1 z
        rw [ct_c, ct_c, ix_s, ix_n (Ne.symm q)] at hzl
        obtain ⟨l3, e3⟩ := ct_ex (y := z) (l := l') (by omega)
        have el : Eh l2 (y :: l3) := fun v => by have p1 := r1 v; have p2 := e3 v; simp only [ct_c] at p1 p2 ⊢; omega
        have dxy : dI x y = x - y := by unfold dI; rw [if_pos (by omega)]
        rw [dxy] at r2 r4
        refine ⟨by omega, ?_⟩
        rcases Mt_inv r3 z l3 e3 with w | ⟨u, l4, w1, w2, s3, w3, w4⟩
        · have := h2.2 s' (Mt_perm (Mt_skip w y) fun v => (el v).symm)
          omega
        · have huz := hall u (by have p1 := el u; have p2 := w1 u; simp only [ct_c] at p1 p2; rw [ix_s] at p2; omega)
          have dzu : dI z u = z - u := by unfold dI; rw [if_pos huz]
          rw [dzu] at w2 w4
          have dyu : dI y u ≤ L ∧ dI y u ≤ z - y + (z - u) ∧ (x - z) + dI y u ≤ (x - y) + (z - u) := by unfold dI; split <;> omega
          have := h2.2 _ (Mt_perm (Mt_pair w3 dyu.1) (l' := l2) fun v => by have p1 := el v; have p2 := w1 v; simp only [ct_c] at p1 p2 ⊢; omega)
          omega
  by_cases c : x - z ≤ L ∧ a < b + (10000000 - (x - z))
  · rw [if_pos c]
    refine ⟨?_, fun s h => ?_⟩
    · have := Mt_pair h2.1 (x := x) (y := z) (by rw [dxz]; exact c.1)
      rw [dxz] at this; exact this
    · rcases up s h with r | r <;> omega
  · rw [if_neg c]
    refine ⟨Mt_skip h1.1 x, fun s h => ?_⟩
    rcases up s h with r | r
    · exact r
    · rcases Int.lt_or_le a (b + (10000000 - (x - z))) with w | w
      · exact absurd ⟨r.1, w⟩ c
      · omega
