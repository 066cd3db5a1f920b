/-! sizes kept: the rounds of lowering -/
def OKx (c : Nat) (g : Nat → Int32) (x : St × Int32) : Prop := x.1 5 = g ∧ ∀ j, j < 16 → rg (x.1 c j) 6000 9200
theorem lst_cases {c : Nat} {z : Bool} {g : Nat → Int32} (hc : c ≠ 5) (hg : ∀ a, a < 4 → rg (g a) 0 4000) {x : St × Int32} (h : OKx c g x) {a b : Nat} (ha : a < 16) (hb : b < 16) :
    (lst c z a b x = x ∧ (x.1 c a).toInt ≤ (x.1 c b).toInt + (lawF g a b).toInt) ∨ ((x.1 c b).toInt + (lawF g a b).toInt < (x.1 c a).toInt ∧ lst c z a b x = (up2 x.1 c a (x.1 c b + lawF g a b), 1) ∧ (x.1 c b + lawF g a b).toInt = (x.1 c b).toInt + (lawF g a b).toInt) := by
  obtain ⟨h5, hr⟩ := h
  have fa := hr a ha
  have fb := hr b hb
  have L := lawF_rg hg a b
  unfold rg at fa fb L
  have e : (x.1 c b + lawF g a b).toInt = (x.1 c b).toInt + (lawF g a b).toInt := t_add (by omega) (by omega)
  unfold lst
  rw [h5]
  by_cases q : (z = true ∧ a = b) ∨ x.1 c a ≤ x.1 c b + lawF g a b
  · rw [if_pos q]
    refine Or.inl ⟨rfl, ?_⟩
    rcases q with q | q
    · rw [q.2] at fa ⊢; rw [q.2] at L; omega
    · rw [i32_le, e] at q; exact q
  · rw [if_neg q]
    refine Or.inr ⟨?_, rfl, e⟩
    have q2 : ¬ x.1 c a ≤ x.1 c b + lawF g a b := fun w => q (Or.inr w)
    rw [i32_le, e] at q2; omega
theorem lst_ok {c : Nat} {z : Bool} {g : Nat → Int32} (hc : c ≠ 5) (hg : ∀ a, a < 4 → rg (g a) 0 4000) {x : St × Int32} (h : OKx c g x) {a b : Nat} (ha : a < 16) (hb : b < 16) : OKx c g (lst c z a b x) ∧ (∀ k, k ≠ c → (lst c z a b x).1 k = x.1 k) ∧ ((lst c z a b x).2 = 0 → lst c z a b x = x) := by
  rcases lst_cases hc hg (z := z) h ha hb with ⟨e, _⟩ | ⟨q, e, v⟩
  · rw [e]; exact ⟨h, fun _ _ => rfl, fun _ => rfl⟩
  · rw [e]
    refine ⟨⟨by show up2 x.1 c a _ 5 = g; rw [up2_cc _ _ _ (Ne.symm hc)]; exact h.1, fun j hj => ?_⟩, fun k hk => up2_cc _ _ _ hk, fun w => absurd w (show ¬ (1 : Int32) = 0 by decide)⟩
    show rg (up2 x.1 c a _ c j) _ _
    by_cases w : j = a
    · subst w; rw [up2_s]
      have fa := h.2 j ha
      have fb := h.2 b hb
      have L := lawF_rg hg j b
      unfold rg at fa fb L ⊢; omega
    · rw [up2_k _ _ _ w]; exact h.2 j hj
/-- what every step keeps, the round keeps -/
theorem loB_ind {c : Nat} {z : Bool} {g : Nat → Int32} (hc : c ≠ 5) (hg : ∀ a, a < 4 → rg (g a) 0 4000) (P : St × Int32 → Prop) {x : St × Int32} (hx : OKx c g x) (hP : P x) {a : Nat} (ha : a < 16) (step : ∀ y b, b < 16 → OKx c g y → P y → P (lst c z a b y)) {n : Nat} (hn : n ≤ 16) : OKx c g (loB c z a x n) ∧ P (loB c z a x n) := by
  induction n with
  | zero => exact ⟨hx, hP⟩
  | succ n ih =>
    obtain ⟨i1, i2⟩ := ih (by omega)
    exact ⟨(lst_ok hc hg i1 ha (by omega)).1, step _ _ (by omega) i1 i2⟩
theorem loA_ind {c : Nat} {z : Bool} {g : Nat → Int32} (hc : c ≠ 5) (hg : ∀ a, a < 4 → rg (g a) 0 4000) (P : St × Int32 → Prop) {x : St × Int32} (hx : OKx c g x) (hP : P x) (step : ∀ y a b, a < 16 → b < 16 → OKx c g y → P y → P (lst c z a b y)) {n : Nat} (hn : n ≤ 16) : OKx c g (loA c z x n) ∧ P (loA c z x n) := by
  induction n with
  | zero => exact ⟨hx, hP⟩
  | succ n ih =>
    obtain ⟨i1, i2⟩ := ih (by omega)
    exact loB_ind hc hg P i1 i2 (by omega) (fun y b hb h1 h2 => step y n b (by omega) hb h1 h2) (Nat.le_refl _)
theorem loB_zero {c : Nat} {z : Bool} {g : Nat → Int32} (hc : c ≠ 5) (hg : ∀ a, a < 4 → rg (g a) 0 4000) {x : St × Int32} (hx : OKx c g x) {a : Nat} (ha : a < 16) {n : Nat} (hn : n ≤ 16) (h0 : (loB c z a x n).2 = 0) : loB c z a x n = x := by
  induction n with
  | zero => rfl
  | succ n ih =>
    have ok := (loB_ind hc hg (z := z) (fun _ => True) hx trivial ha (fun _ _ _ _ _ => trivial) (n := n) (by omega)).1
    have e := (lst_ok hc hg (z := z) ok ha (b := n) (by omega)).2.2 h0
    have e' : loB c z a x (n + 1) = loB c z a x n := e
    rw [e'] at h0 ⊢
    exact ih (by omega) h0
theorem loA_zero {c : Nat} {z : Bool} {g : Nat → Int32} (hc : c ≠ 5) (hg : ∀ a, a < 4 → rg (g a) 0 4000) {x : St × Int32} (hx : OKx c g x) {n : Nat} (hn : n ≤ 16) (h0 : (loA c z x n).2 = 0) : loA c z x n = x := by
  induction n with
  | zero => rfl
  | succ n ih =>
    have ok := (loA_ind hc hg (z := z) (fun _ => True) hx trivial (fun _ _ _ _ _ _ _ => trivial) (n := n) (by omega)).1
    have e' : loA c z x (n + 1) = loA c z x n := loB_zero hc hg ok (by omega) (Nat.le_refl _) h0
    rw [e'] at h0 ⊢
    exact ih (by omega) h0
/-- nothing to lower -/
def clo (c : Nat) (g : Nat → Int32) (σ : St) : Prop := ∀ a b, a < 16 → b < 16 → (σ c a).toInt ≤ (σ c b).toInt + (lawF g a b).toInt
theorem loA_clo {c : Nat} {z : Bool} {g : Nat → Int32} (hc : c ≠ 5) (hg : ∀ a, a < 4 → rg (g a) 0 4000) {x : St × Int32} (hx : OKx c g x) (h : clo c g x.1) {n : Nat} (hn : n ≤ 16) : loA c z x n = x := by
  refine (loA_ind hc hg (z := z) (fun y => y = x) hx rfl (fun y a b ha hb hy e => ?_) hn).2
  subst e
  rcases lst_cases hc hg (z := z) hy ha hb with ⟨e, _⟩ | ⟨q, _, _⟩
  · exact e
  · have := h a b ha hb; omega
/-- the settled ones: none is lowered any more -/
def stl (c : Nat) (g : Nat → Int32) (S : Nat → Bool) (σ : St) : Prop := (∀ a b, a < 16 → b < 16 → S b = true → (σ c a).toInt ≤ (σ c b).toInt + (lawF g a b).toInt) ∧ ∀ a b, a < 16 → b < 16 → S a = true → S b = false → (σ c a).toInt ≤ (σ c b).toInt
def stl2 (c : Nat) (g : Nat → Int32) (S : Nat → Bool) (d : Nat) (v : Int) (σ : St) : Prop := stl c g S σ ∧ (σ c d).toInt = v ∧ (∀ b, b < 16 → S b = false → v ≤ (σ c b).toInt) ∧ ∀ a, a < 16 → S a = true → (σ c a).toInt ≤ v
theorem stl_step {c : Nat} {z : Bool} {g : Nat → Int32} (hc : c ≠ 5) (hg : ∀ a, a < 4 → rg (g a) 0 4000) {S : Nat → Bool} {d : Nat} {v : Int} {y : St × Int32} (hy : OKx c g y) (h : stl2 c g S d v y.1) {a b : Nat} (ha : a < 16) (hb : b < 16) :
    stl2 c g S d v (lst c z a b y).1 ∧ (∀ j, j < 16 → ((lst c z a b y).1 c j).toInt ≤ (y.1 c j).toInt) ∧ ((b = d) → ((lst c z a b y).1 c a).toInt ≤ v + (lawF g a d).toInt) := by
  rcases lst_cases hc hg (z := z) hy ha hb with ⟨e, q⟩ | ⟨q, e, w⟩
  · rw [e]
    exact ⟨h, fun _ _ => Int.le_refl _, fun r => by subst r; rw [← h.2.1]; exact q⟩
  · rw [e]
    obtain ⟨⟨h1, h2⟩, h3, h4, h5⟩ := h
    have L := lawF_rg hg a b
    unfold rg at L
    have hSb : S b = false := by
      cases r : S b with
      | false => rfl
      | true => have := h1 a b ha hb r; omega
    have hbv := h4 b hb hSb
    have hSa : S a = false := by
      cases r : S a with
      | false => rfl
      | true => have := h5 a ha r; omega
    have had : a ≠ d := by intro r; subst r; omega
    have hle : ∀ j, j < 16 → (up2 y.1 c a (y.1 c b + lawF g a b) c j).toInt ≤ (y.1 c j).toInt := fun j hj => by
      by_cases r : j = a
      · subst r; rw [up2_s]; omega
      · rw [up2_k _ _ _ r]; exact Int.le_refl _
    have hS : ∀ j, S j = true → up2 y.1 c a (y.1 c b + lawF g a b) c j = y.1 c j := fun j hj => up2_k _ _ _ (by intro r; subst r; rw [hSa] at hj; exact absurd hj (by decide))
    have hge : ∀ j, j < 16 → S j = false → v ≤ (up2 y.1 c a (y.1 c b + lawF g a b) c j).toInt := fun j hj hs => by
      by_cases r : j = a
      · subst r; rw [up2_s]; omega
      · rw [up2_k _ _ _ r]; exact h4 j hj hs
    refine ⟨⟨⟨fun i j hi hj hs => ?_, fun i j hi hj hs hs2 => ?_⟩, ?_, hge, fun j hj hs => ?_⟩, hle, fun r => ?_⟩
    · show (up2 y.1 c a _ c i).toInt ≤ (up2 y.1 c a _ c j).toInt + _
      rw [hS j hs]; have := hle i hi; have := h1 i j hi hj hs; omega
    · show (up2 y.1 c a _ c i).toInt ≤ (up2 y.1 c a _ c j).toInt
      rw [hS i hs]; have := hge j hj hs2; have := h5 i hi hs; omega
    · show (up2 y.1 c a _ c d).toInt = v
      rw [up2_k _ _ _ (Ne.symm had)]; exact h3
    · show (up2 y.1 c a _ c j).toInt ≤ v
      rw [hS j hs]; exact h5 j hj hs
    · subst r
      show (up2 y.1 c a _ c a).toInt ≤ _
      rw [up2_s, w, h3]; exact Int.le_refl _
theorem stl_round {c : Nat} {z : Bool} {g : Nat → Int32} (hc : c ≠ 5) (hg : ∀ a, a < 4 → rg (g a) 0 4000) {S : Nat → Bool} {d : Nat} (hd : d < 16) (hSd : S d = false) {x : St × Int32} (hx : OKx c g x) (h : stl c g S x.1) (hmin : ∀ b, b < 16 → S b = false → (x.1 c d).toInt ≤ (x.1 c b).toInt) : stl c g (fun j => S j || j == d) (loA c z x 16).1 := by
  have hv : ∃ v, (x.1 c d).toInt = v := ⟨_, rfl⟩
  obtain ⟨v, ev⟩ := hv
  have h0 : stl2 c g S d v x.1 := ⟨h, ev, fun b hb hs => ev ▸ hmin b hb hs, fun a ha hs => ev ▸ h.2 a d ha hd hs hSd⟩
  -- within a row
  have row : ∀ (a : Nat) (y : St × Int32), a < 16 → OKx c g y → stl2 c g S d v y.1 → ∀ n, n ≤ 16 → OKx c g (loB c z a y n) ∧ stl2 c g S d v (loB c z a y n).1 ∧ (∀ j, j < 16 → ((loB c z a y n).1 c j).toInt ≤ (y.1 c j).toInt) ∧ (d < n → ((loB c z a y n).1 c a).toInt ≤ v + (lawF g a d).toInt) := by
    intro a y ha hy hs n
    induction n with
    | zero => intro _; exact ⟨hy, hs, fun _ _ => Int.le_refl _, fun q => absurd q (Nat.not_lt_zero _)⟩
    | succ n ih =>
      intro hn
      obtain ⟨i1, i2, i3, i4⟩ := ih (by omega)
      obtain ⟨s1, s2, s3⟩ := stl_step hc hg (z := z) i1 i2 ha (b := n) (by omega)
      refine ⟨(lst_ok hc hg i1 ha (by omega)).1, s1, fun j hj => Int.le_trans (s2 j hj) (i3 j hj), fun q => ?_⟩
      by_cases r : n = d
      · exact s3 r
      · exact Int.le_trans (s2 a ha) (i4 (by omega))
  have all : ∀ n, n ≤ 16 → OKx c g (loA c z x n) ∧ stl2 c g S d v (loA c z x n).1 ∧ ∀ a, a < n → ((loA c z x n).1 c a).toInt ≤ v + (lawF g a d).toInt := by
    intro n
    induction n with
    | zero => intro _; exact ⟨hx, h0, fun a q => absurd q (Nat.not_lt_zero _)⟩
    | succ n ih =>
      intro hn
      obtain ⟨i1, i2, i3⟩ := ih (by omega)
      obtain ⟨r1, r2, r3, r4⟩ := row n _ (by omega) i1 i2 16 (Nat.le_refl _)
      refine ⟨r1, r2, fun a ha => ?_⟩
      by_cases q : a = n
      · subst q; exact r4 hd
      · exact Int.le_trans (r3 a (by omega)) (i3 a (by omega))
  obtain ⟨_, ⟨⟨f1, f2⟩, f3, f4, f5⟩, f6⟩ := all 16 (Nat.le_refl _)
  refine ⟨fun a b ha hb hs => ?_, fun a b ha hb hs hs2 => ?_⟩
  · rcases Bool.or_eq_true_iff.mp hs with q | q
    · exact f1 a b ha hb q
    · have : b = d := by simpa using q
      subst this; rw [f3]; exact f6 a ha
  · have hb2 : S b = false := by
      cases r : S b with
      | false => rfl
      | true =>
        have hs3 : (S b || b == d) = false := hs2
        rw [r] at hs3; exact absurd hs3 (by simp)
    rcases Bool.or_eq_true_iff.mp hs with q | q
    · exact f2 a b ha hb q hb2
    · have : a = d := by simpa using q
      subst this; rw [f3]; exact f4 b hb hb2

def cnS (S : Nat → Bool) : Nat → Nat
  | 0 => 0
  | n + 1 => cnS S n + if S n = true then 1 else 0
theorem cnS_le (S : Nat → Bool) (n : Nat) : cnS S n ≤ n := by
  induction n with
  | zero => exact Nat.le_refl _
  | succ n ih => unfold cnS; split <;> omega
theorem cnS_all {S : Nat → Bool} {n : Nat} (h : n ≤ cnS S n) : ∀ a, a < n → S a = true := by
  induction n with
  | zero => intro a ha; omega
  | succ n ih =>
    intro a ha
    have := cnS_le S n
    unfold cnS at h
    by_cases q : S n = true
    · rw [if_pos q] at h
      by_cases r : a = n
      · subst r; exact q
      · exact ih (by omega) a (by omega)
    · rw [if_neg q] at h; omega
theorem cnS_add {S : Nat → Bool} {d n : Nat} (hd : d < n) (hS : S d = false) : cnS (fun j => S j || j == d) n = cnS S n + 1 := by
  have key : ∀ m, cnS (fun j => S j || j == d) m = cnS S m + if d < m then 1 else 0 := by
    intro m
    induction m with
    | zero => rfl
    | succ m ih =>
      unfold cnS
      rw [ih]
      by_cases q : m = d
      · subst q; simp [hS]
      · have : (m == d) = false := by simpa using q
        rw [this, Bool.or_false]
        by_cases r : d < m
        · rw [if_pos r, if_pos (show d < m + 1 by omega)]; omega
        · rw [if_neg r, if_neg (show ¬ d < m + 1 by omega)]; omega
  rw [key, if_pos hd]
theorem arg_min (S : Nat → Bool) (f : Nat → Int) (n : Nat) : (∀ a, a < n → S a = true) ∨ ∃ d, d < n ∧ S d = false ∧ ∀ b, b < n → S b = false → f d ≤ f b := by
  induction n with
  | zero => exact Or.inl fun a ha => absurd ha (Nat.not_lt_zero _)
  | succ n ih =>
    cases q : S n with
    | true =>
      rcases ih with h | ⟨d, h1, h2, h3⟩
      · left; intro a ha
        by_cases r : a = n
        · subst r; exact q
        · exact h a (by omega)
      · right; refine ⟨d, by omega, h2, fun b hb hs => h3 b ?_ hs⟩
        by_cases r : b = n
        · subst r; rw [q] at hs; exact absurd hs (by decide)
        · omega
    | false =>
      right
      rcases ih with h | ⟨d, h1, h2, h3⟩
      · refine ⟨n, by omega, q, fun b hb hs => ?_⟩
        by_cases r : b = n
        · subst r; exact Int.le_refl _
        · rw [h b (by omega)] at hs; exact absurd hs (by decide)
      · by_cases w : f d ≤ f n
        · refine ⟨d, by omega, h2, fun b hb hs => ?_⟩
          by_cases r : b = n
          · subst r; exact w
          · exact h3 b (by omega) hs
        · refine ⟨n, by omega, q, fun b hb hs => ?_⟩
          by_cases r : b = n
          · subst r; exact Int.le_refl _
          · have := h3 b (by omega) hs; omega
theorem lwS_s (c : Nat) (z : Bool) (σ : St) (i : Nat) : lwS c z σ (i + 1) = loA c z ((lwS c z σ i).1, 0) 16 := rfl
theorem lw_ok {c : Nat} {z : Bool} {g : Nat → Int32} (hc : c ≠ 5) (hg : ∀ a, a < 4 → rg (g a) 0 4000) {σ : St} (h : OKx c g (σ, 1)) (i : Nat) : OKx c g (lwS c z σ i) ∧ ∀ k, k ≠ c → (lwS c z σ i).1 k = σ k := by
  induction i with
  | zero => exact ⟨h, fun _ _ => rfl⟩
  | succ i ih =>
    refine loA_ind hc hg (z := z) (fun y => ∀ k, k ≠ c → y.1 k = σ k) (x := ((lwS c z σ i).1, 0)) ih.1 ih.2 (fun y a b ha hb hy e k hk => ?_) (Nat.le_refl _)
    rw [(lst_ok hc hg hy ha hb).2.1 k hk]; exact e k hk
theorem lw_zero {c : Nat} {z : Bool} {g : Nat → Int32} (hc : c ≠ 5) (hg : ∀ a, a < 4 → rg (g a) 0 4000) {σ : St} (h : OKx c g (σ, 1)) {i : Nat} (h0 : (lwS c z σ i).2 = 0) : ∀ j, lwS c z σ (i + j) = lwS c z σ i := by
  intro j
  induction j with
  | zero => rfl
  | succ j ih =>
    rw [show i + (j + 1) = i + j + 1 from rfl, lwS_s, ih]
    rcases i with _ | i
    · exact absurd h0 (show ¬ (1 : Int32) = 0 by decide)
    · rw [lwS_s] at h0
      have e : lwS c z σ (i + 1) = ((lwS c z σ i).1, 0) := (lwS_s c z σ i).trans (loA_zero hc hg (x := ((lwS c z σ i).1, 0)) (lw_ok hc hg h i).1 (Nat.le_refl _) h0)
      rw [e]
      exact (lwS_s c z σ i).symm.trans e
theorem lw_stl {c : Nat} {z : Bool} {g : Nat → Int32} (hc : c ≠ 5) (hg : ∀ a, a < 4 → rg (g a) 0 4000) {σ : St} (h : OKx c g (σ, 1)) (i : Nat) : ∃ S : Nat → Bool, min i 16 ≤ cnS S 16 ∧ stl c g S (lwS c z σ i).1 := by
  induction i with
  | zero => exact ⟨fun _ => false, by simp, fun a b _ _ q => absurd (show false = true from q) (by decide), fun a b _ _ q => absurd (show false = true from q) (by decide)⟩
  | succ i ih =>
    obtain ⟨S, h1, h2⟩ := ih
    have ok : OKx c g ((lwS c z σ i).1, (0 : Int32)) := (lw_ok hc hg h i).1
    rcases arg_min S (fun j => ((lwS c z σ i).1 c j).toInt) 16 with q | ⟨d, d1, d2, d3⟩
    · refine ⟨S, ?_, ?_⟩
      · have : ∀ n, n ≤ 16 → cnS S n = n := by
          intro n
          induction n with
          | zero => intro _; rfl
          | succ n im => intro hn; unfold cnS; rw [im (by omega), if_pos (q n (by omega))]
        rw [this 16 (Nat.le_refl _)]; omega
      · have cl : clo c g (lwS c z σ i).1 := fun a b ha hb => h2.1 a b ha hb (q b hb)
        have e : lwS c z σ (i + 1) = ((lwS c z σ i).1, 0) := loA_clo hc hg ok cl (Nat.le_refl _)
        rw [e]; exact h2
    · refine ⟨fun j => S j || j == d, ?_, stl_round hc hg d1 d2 ok h2 d3⟩
      rw [cnS_add d1 d2]; omega
theorem lw_clo {c : Nat} {z : Bool} {g : Nat → Int32} (hc : c ≠ 5) (hg : ∀ a, a < 4 → rg (g a) 0 4000) {σ : St} (h : OKx c g (σ, 1)) : clo c g (lwS c z σ 16).1 := by
  obtain ⟨S, h1, h2⟩ := lw_stl hc hg (z := z) h 16
  exact fun a b ha hb => h2.1 a b ha hb (cnS_all (by omega) b hb)
theorem lw_next {c : Nat} {z : Bool} {g : Nat → Int32} (hc : c ≠ 5) (hg : ∀ a, a < 4 → rg (g a) 0 4000) {σ : St} (h : OKx c g (σ, 1)) {m : Nat} (hm : clo c g (lwS c z σ m).1) : lwS c z σ (m + 1) = ((lwS c z σ m).1, 0) := by
  rw [lwS_s]
  exact loA_clo hc hg (x := ((lwS c z σ m).1, 0)) (lw_ok hc hg h m).1 hm (Nat.le_refl _)
theorem lw_stop {c : Nat} {z : Bool} {g : Nat → Int32} (hc : c ≠ 5) (hg : ∀ a, a < 4 → rg (g a) 0 4000) {σ : St} (h : OKx c g (σ, 1)) {m : Nat} (hm : clo c g (lwS c z σ m).1) {i : Nat} (hi : (lwS c z σ i).2 = 0) : (lwS c z σ i).1 = (lwS c z σ m).1 := by
  have s := lw_next hc hg h hm
  have a := lw_zero hc hg h (i := m + 1) (by rw [s]) i
  have b := lw_zero hc hg h hi (m + 1)
  rw [← b, Nat.add_comm i (m + 1), a, s]
theorem lw_ex {c : Nat} {z : Bool} {g : Nat → Int32} (hc : c ≠ 5) (hg : ∀ a, a < 4 → rg (g a) 0 4000) {σ : St} (h : OKx c g (σ, 1)) : ∃ N, (lwS c z σ N).2 = 0 :=
  ⟨_, congrArg Prod.snd (lw_next hc hg h (lw_clo hc hg h))⟩
theorem lw_same {c : Nat} {z : Bool} {g : Nat → Int32} (hc : c ≠ 5) (hg : ∀ a, a < 4 → rg (g a) 0 4000) {σ : St} (h : OKx c g (σ, 1)) {i j : Nat} (hi : (lwS c z σ i).2 = 0) (hj : (lwS c z σ j).2 = 0) : (lwS c z σ i).1 = (lwS c z σ j).1 :=
  (lw_stop hc hg h (lw_clo hc hg h) hi).trans (lw_stop hc hg h (lw_clo hc hg h) hj).symm
