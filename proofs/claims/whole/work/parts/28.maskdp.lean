/-! pairs: the reference's table over sets of spares -/
def hpM (f : Nat → Int) (s : Nat) : Nat → List Int
  | 0 => []
  | k + 1 => if s / 2 ^ k % 2 = 1 then f k :: hpM f s k else hpM f s k
theorem bt_sub {s k : Nat} (h : s / 2 ^ k % 2 = 1) : 2 ^ k ≤ s ∧ (s - 2 ^ k) / 2 ^ k % 2 = 0 ∧ ∀ j, j ≠ k → (s - 2 ^ k) / 2 ^ j % 2 = s / 2 ^ j % 2 := by
  have hle : 2 ^ k ≤ s := by
    rcases Nat.lt_or_ge s (2 ^ k) with q | q
    · rw [Nat.div_eq_of_lt q] at h; exact absurd h (by decide)
    · exact q
  obtain ⟨x, rfl⟩ : ∃ x, s = x + 2 ^ k := ⟨s - 2 ^ k, by omega⟩
  have e0 : (x + 2 ^ k) / 2 ^ k = x / 2 ^ k + 1 := Nat.add_div_right _ (Nat.two_pow_pos k)
  rw [e0] at h
  rw [Nat.add_sub_cancel]
  refine ⟨hle, by omega, fun j hj => ?_⟩
  rcases Nat.lt_or_gt_of_ne hj with q | q
  · obtain ⟨m, rfl⟩ : ∃ m, k = j + 1 + m := ⟨k - j - 1, by omega⟩
    have e1 : 2 ^ (j + 1 + m) = 2 ^ j * (2 * 2 ^ m) := by rw [Nat.pow_add, Nat.pow_succ, Nat.mul_assoc]
    have e2 : (x + 2 ^ (j + 1 + m)) / 2 ^ j = 2 * 2 ^ m + x / 2 ^ j := by
      rw [e1, Nat.add_comm]; exact Nat.mul_add_div (Nat.two_pow_pos j) _ _
    rw [e2]; omega
  · obtain ⟨m, rfl⟩ : ∃ m, j = k + 1 + m := ⟨j - k - 1, by omega⟩
    have e1 : 2 ^ (k + 1 + m) = 2 ^ k * (2 * 2 ^ m) := by rw [Nat.pow_add, Nat.pow_succ, Nat.mul_assoc]
    rw [e1, ← Nat.div_div_eq_div_mul, ← Nat.div_div_eq_div_mul, ← Nat.div_div_eq_div_mul, ← Nat.div_div_eq_div_mul, e0]
    have e3 : (x / 2 ^ k + 1) / 2 = x / 2 ^ k / 2 := by omega
    rw [e3]
theorem lt_bt {s k : Nat} (h : s < 2 ^ k) : ∀ j, k ≤ j → s / 2 ^ j % 2 = 0 := fun j hj => by
  rw [Nat.div_eq_of_lt (Nat.lt_of_lt_of_le h (Nat.pow_le_pow_right (by decide) hj))]
theorem hp_cut {f : Nat → Int} {s m : Nat} (h : s < 2 ^ m) (j : Nat) : hpM f s (m + j) = hpM f s m := by
  induction j with
  | zero => rfl
  | succ j ih =>
    show (if s / 2 ^ (m + j) % 2 = 1 then _ else _) = _
    rw [lt_bt h (m + j) (by omega), if_neg (by decide)]; exact ih
theorem hp_congr {f : Nat → Int} {s s' n : Nat} (h : ∀ k, k < n → s / 2 ^ k % 2 = s' / 2 ^ k % 2) : hpM f s n = hpM f s' n := by
  induction n with
  | zero => rfl
  | succ n ih => unfold hpM; rw [ih fun k hk => h k (by omega), h n (by omega)]
theorem hp_rm {f : Nat → Int} {s k n : Nat} (h : s / 2 ^ k % 2 = 1) (hk : k < n) : Eh (hpM f s n) (f k :: hpM f (s - 2 ^ k) n) := by
  obtain ⟨_, b1, b2⟩ := bt_sub h
  induction n with
  | zero => omega
  | succ n ih =>
    intro v
    by_cases q : k = n
    · subst q
      have e1 : hpM f s (k + 1) = f k :: hpM f s k := if_pos h
      have e2 : hpM f (s - 2 ^ k) (k + 1) = hpM f (s - 2 ^ k) k := if_neg (by omega)
      rw [e1, e2, hp_congr (f := f) (s := s - 2 ^ k) (s' := s) (n := k) fun j hj => b2 j (by omega)]
    · have i := ih (by omega) v
      have hb := b2 n (fun z => q z.symm)
      unfold hpM
      rw [hb]
      by_cases r : s / 2 ^ n % 2 = 1
      · rw [if_pos r, if_pos r]; simp only [ct_c] at i ⊢; omega
      · rw [if_neg r, if_neg r]; exact i
theorem hp_ex {f : Nat → Int} {s : Nat} {y : Int} {n : Nat} (h : 0 < ct y (hpM f s n)) : ∃ k, k < n ∧ s / 2 ^ k % 2 = 1 ∧ f k = y := by
  induction n with
  | zero => exact absurd h (Nat.lt_irrefl 0)
  | succ n ih =>
    unfold hpM at h
    by_cases r : s / 2 ^ n % 2 = 1
    · rw [if_pos r, ct_c] at h
      by_cases q : f n = y
      · exact ⟨n, by omega, r, q⟩
      · rw [ix_n q] at h
        obtain ⟨k, a, b, c⟩ := ih h
        exact ⟨k, by omega, b, c⟩
    · rw [if_neg r] at h
      obtain ⟨k, a, b, c⟩ := ih h
      exact ⟨k, by omega, b, c⟩
theorem last_lt : ∀ (n s : Nat), 0 < s → s < 2 ^ n → lastF s n < n ∧ s < 2 ^ (lastF s n + 1)
  | 0, s, h, h2 => by simp at h2; omega
  | n + 1, s, h, h2 => by
    unfold lastF
    split
    · exact ⟨by omega, h2⟩
    · rename_i hb
      have h3 : s / 2 ^ n < 2 := Nat.div_lt_of_lt_mul (by rw [Nat.pow_succ] at h2; exact h2)
      have hy : ∀ y : Nat, y < 2 → ¬ y % 2 = 1 → y = 0 := by omega
      have h4 : s / 2 ^ n = 0 := hy _ h3 hb
      have h5 : s < 2 ^ n := (Nat.div_eq_zero_iff.mp h4).resolve_left (Nat.ne_of_gt (Nat.two_pow_pos n))
      obtain ⟨a, b⟩ := last_lt n s h h5
      exact ⟨by omega, b⟩
/-- what is taken off: the last one, and the rest under it -/
theorem hp_last {f : Nat → Int} {s n : Nat} (h : 0 < s) (h2 : s < 2 ^ n) : rsF n s < s ∧ rsF n s < 2 ^ lastF s n ∧ lastF s n < n ∧ hpM f s n = f (lastF s n) :: hpM f (rsF n s) n := by
  obtain ⟨a, b⟩ := last_lt n s h h2
  have hb := bit_some n s h h2
  obtain ⟨c1, c2, c3⟩ := bt_sub hb
  unfold rsF
  generalize lastF s n = la at *
  have hp := Nat.two_pow_pos la
  have hlt : s - 2 ^ la < 2 ^ la := by rw [Nat.pow_succ] at b; omega
  refine ⟨by omega, hlt, a, ?_⟩
  obtain ⟨j, rfl⟩ : ∃ j, n = la + 1 + j := ⟨n - la - 1, by omega⟩
  rw [hp_cut b j, show la + 1 + j = la + (1 + j) by omega, hp_cut hlt (1 + j)]
  have e1 : hpM f s (la + 1) = f la :: hpM f s la := if_pos hb
  rw [e1, hp_congr (f := f) (s := s) (s' := s - 2 ^ la) (n := la) fun j hj => (c3 j (by omega)).symm]
/-- a row of the table: how many, their sum; together one number -/
def VS (S : St) (a b r : Nat) : Int := 10000000 * (S a r).toInt - (S b r).toInt
def rok (S : St) (a b r : Nat) : Prop := rg (S a r) 0 r ∧ rg (S b r) 0 (4000 * r)
theorem t_of {x y : Int32} (hx : rg x 0 9200) (hy : rg y 0 9200) : (ofF x y).toInt = dI y.toInt x.toInt := by
  unfold rg at hx hy
  unfold ofF dI
  by_cases c : y ≤ x
  · rw [if_pos c, t_sub (by omega) (by omega)]; rw [i32_le] at c; split <;> omega
  · rw [if_neg c, t_sub (by omega) (by omega)]; rw [i32_le] at c; split <;> omega
/-- the better of two -/
theorem bet {p q u v d : Int32} {r s : Nat} (hs : s < 256) (hr : r < s) (hp : rg p 0 s) (hq : rg q 0 (4000 * s)) (hu : rg u 0 r) (hv : rg v 0 (4000 * r)) (hd : rg d 0 4000) :
    ((u + 1).toInt = u.toInt + 1 ∧ (v + d).toInt = v.toInt + d.toInt) ∧ (p < u + 1 ∨ (u + 1 = p ∧ v + d < q) ↔ 10000000 * p.toInt - q.toInt < 10000000 * u.toInt - v.toInt + (10000000 - d.toInt)) := by
  unfold rg at hp hq hu hv hd
  have one : (1 : Int32).toInt = 1 := rfl
  have e1 : (u + 1).toInt = u.toInt + 1 := by rw [t_add (by omega) (by omega), one]
  have e2 : (v + d).toInt = v.toInt + d.toInt := t_add (by omega) (by omega)
  refine ⟨⟨e1, e2⟩, ?_⟩
  rw [i32_lt, i32_lt, i_eq, e1, e2]; omega
/-- one partner tried -/
theorem rst_s {S : St} {s rt la k : Nat} {f : Nat → Int} {L : Int} (hs : s < 256) (hrt : rt < s) (h6 : rg (S 6 k) 0 9200 ∧ rg (S 6 la) 0 9200) (h5 : rg (S 5 0) 0 4000) (hL : (S 5 0).toInt = L) (hfk : (S 6 k).toInt = f k) (hfl : (S 6 la).toInt = f la) (hz : rok S 13 14 s) (hc : rt / 2 ^ k % 2 = 1 → rok S 13 14 (rt - 2 ^ k)) :
    (∀ r, r ≠ s → rst S s rt la k 13 r = S 13 r ∧ rst S s rt la k 14 r = S 14 r) ∧ rok (rst S s rt la k) 13 14 s ∧ VS S 13 14 s ≤ VS (rst S s rt la k) 13 14 s ∧
    (rt / 2 ^ k % 2 = 1 → dI (f la) (f k) ≤ L → VS S 13 14 (rt - 2 ^ k) + (10000000 - dI (f la) (f k)) ≤ VS (rst S s rt la k) 13 14 s) ∧
    (VS (rst S s rt la k) 13 14 s = VS S 13 14 s ∨ (rt / 2 ^ k % 2 = 1 ∧ dI (f la) (f k) ≤ L ∧ VS (rst S s rt la k) 13 14 s = VS S 13 14 (rt - 2 ^ k) + (10000000 - dI (f la) (f k)))) := by
  have ed : (ofF (S 6 k) (S 6 la)).toInt = dI (f la) (f k) := by rw [t_of h6.1 h6.2, hfk, hfl]
  have ec : ofF (S 6 k) (S 6 la) ≤ S 5 0 ↔ dI (f la) (f k) ≤ L := by rw [i32_le, ed, hL]
  have dn : 0 ≤ dI (f la) (f k) := by unfold dI; split <;> omega
  generalize hd : ofF (S 6 k) (S 6 la) = d at *
  by_cases hb : rt / 2 ^ k % 2 = 1
  · by_cases hl : dI (f la) (f k) ≤ L
    · have hx := hc hb
      have hdr : rg d 0 4000 := by unfold rg at h5 ⊢; omega
      have hp := Nat.two_pow_pos k
      have hlt : rt - 2 ^ k < s := by omega
      obtain ⟨⟨e1, e2⟩, e3⟩ := bet hs hlt hz.1 hz.2 hx.1 hx.2 hdr
      by_cases hq : S 13 s < S 13 (rt - 2 ^ k) + 1 ∨ (S 13 (rt - 2 ^ k) + 1 = S 13 s ∧ S 14 (rt - 2 ^ k) + d < S 14 s)
      · have e : rst S s rt la k = up2 (up2 S 13 s (S 13 (rt - 2 ^ k) + 1)) 14 s (up2 S 13 s (S 13 (rt - 2 ^ k) + 1) 14 (rt - 2 ^ k) + d) := by
          unfold rst; rw [hd]; exact if_pos ⟨hb, ec.mpr hl, hq⟩
        have a1 : rst S s rt la k 13 s = S 13 (rt - 2 ^ k) + 1 := by rw [e, up2_c _ _ _ _ (by decide), up2_s]
        have a2 : rst S s rt la k 14 s = S 14 (rt - 2 ^ k) + d := by rw [e, up2_s, up2_c _ _ _ _ (by decide)]
        have hq' := e3.mp hq
        have v : VS (rst S s rt la k) 13 14 s = VS S 13 14 (rt - 2 ^ k) + (10000000 - dI (f la) (f k)) := by
          unfold VS; rw [a1, a2, e1, e2, ed]; omega
        refine ⟨fun r hr => ⟨by rw [e, up2_c _ _ _ _ (by decide), up2_k _ _ _ hr], by rw [e, up2_k _ _ _ hr, up2_c _ _ _ _ (by decide)]⟩, ⟨?_, ?_⟩, ?_, fun _ _ => by rw [v]; exact Int.le_refl _, Or.inr ⟨hb, hl, v⟩⟩
        · rw [a1]; have := hx.1; unfold rg at this ⊢; rw [e1]; omega
        · rw [a2]; have := hx.2; unfold rg at this hdr ⊢; rw [e2]; omega
        · rw [v]; unfold VS; rw [← ed]; omega
      · have e : rst S s rt la k = S := by unfold rst; rw [hd]; exact if_neg fun z => hq z.2.2
        rw [e]
        refine ⟨fun _ _ => ⟨rfl, rfl⟩, hz, Int.le_refl _, fun _ _ => ?_, Or.inl rfl⟩
        have hq' : ¬ _ := fun z => hq (e3.mpr z)
        unfold VS; rw [← ed]; omega
    · have e : rst S s rt la k = S := by unfold rst; rw [hd]; exact if_neg fun z => hl (ec.mp z.2.1)
      rw [e]
      exact ⟨fun _ _ => ⟨rfl, rfl⟩, hz, Int.le_refl _, fun _ z => absurd z hl, Or.inl rfl⟩
  · have e : rst S s rt la k = S := by unfold rst; exact if_neg fun z => hb z.1
    rw [e]
    exact ⟨fun _ _ => ⟨rfl, rfl⟩, hz, Int.le_refl _, fun z => absurd z hb, Or.inl rfl⟩
/-- all partners tried -/
theorem rsL_s {S : St} {s rt la : Nat} {f : Nat → Int} {L : Int} (hs : s < 256) (hrt : rt < s) (h6 : ∀ k, k ≤ la → rg (S 6 k) 0 9200) (h5 : rg (S 5 0) 0 4000) (hL : (S 5 0).toInt = L) (hf : ∀ k, k ≤ la → (S 6 k).toInt = f k) (hz : rok S 13 14 s) (hc : ∀ r, r < s → rok S 13 14 r) {n : Nat} (hn : n ≤ la) :
    (∀ r, r ≠ s → rsL S s rt la n 13 r = S 13 r ∧ rsL S s rt la n 14 r = S 14 r) ∧ rok (rsL S s rt la n) 13 14 s ∧ VS S 13 14 s ≤ VS (rsL S s rt la n) 13 14 s ∧
    (∀ k, k < n → rt / 2 ^ k % 2 = 1 → dI (f la) (f k) ≤ L → VS S 13 14 (rt - 2 ^ k) + (10000000 - dI (f la) (f k)) ≤ VS (rsL S s rt la n) 13 14 s) ∧
    (VS (rsL S s rt la n) 13 14 s = VS S 13 14 s ∨ ∃ k, k < n ∧ rt / 2 ^ k % 2 = 1 ∧ dI (f la) (f k) ≤ L ∧ VS (rsL S s rt la n) 13 14 s = VS S 13 14 (rt - 2 ^ k) + (10000000 - dI (f la) (f k))) := by
  induction n with
  | zero => exact ⟨fun _ _ => ⟨rfl, rfl⟩, hz, Int.le_refl _, fun k hk => absurd hk (Nat.not_lt_zero _), Or.inl rfl⟩
  | succ n ih =>
    obtain ⟨i1, i2, i3, i4, i5⟩ := ih (by omega)
    have e6 : rsL S s rt la n 6 = S 6 := rsL_o (by decide) (by decide) n
    have e5 : rsL S s rt la n 5 = S 5 := rsL_o (by decide) (by decide) n
    have hp := Nat.two_pow_pos n
    have hne : rt - 2 ^ n ≠ s := by omega
    have hV : VS (rsL S s rt la n) 13 14 (rt - 2 ^ n) = VS S 13 14 (rt - 2 ^ n) := by unfold VS; rw [(i1 _ hne).1, (i1 _ hne).2]
    obtain ⟨j1, j2, j3, j4, j5⟩ := rst_s (S := rsL S s rt la n) (s := s) (rt := rt) (la := la) (k := n) (f := f) (L := L) hs hrt (by rw [e6]; exact ⟨h6 n (by omega), h6 la (Nat.le_refl _)⟩) (by rw [e5]; exact h5) (by rw [e5]; exact hL) (by rw [e6]; exact hf n (by omega)) (by rw [e6]; exact hf la (Nat.le_refl _)) i2 (fun _ => by unfold rok; rw [(i1 _ hne).1, (i1 _ hne).2]; exact hc _ (by omega))
    rw [hV] at j4 j5
    show (∀ r, r ≠ s → rst (rsL S s rt la n) s rt la n 13 r = S 13 r ∧ rst (rsL S s rt la n) s rt la n 14 r = S 14 r) ∧ rok (rst (rsL S s rt la n) s rt la n) 13 14 s ∧ VS S 13 14 s ≤ VS (rst (rsL S s rt la n) s rt la n) 13 14 s ∧ (∀ k, k < n + 1 → rt / 2 ^ k % 2 = 1 → dI (f la) (f k) ≤ L → VS S 13 14 (rt - 2 ^ k) + (10000000 - dI (f la) (f k)) ≤ VS (rst (rsL S s rt la n) s rt la n) 13 14 s) ∧ (VS (rst (rsL S s rt la n) s rt la n) 13 14 s = VS S 13 14 s ∨ ∃ k, k < n + 1 ∧ rt / 2 ^ k % 2 = 1 ∧ dI (f la) (f k) ≤ L ∧ VS (rst (rsL S s rt la n) s rt la n) 13 14 s = VS S 13 14 (rt - 2 ^ k) + (10000000 - dI (f la) (f k)))
    refine ⟨fun r hr => ⟨(j1 r hr).1.trans (i1 r hr).1, (j1 r hr).2.trans (i1 r hr).2⟩, j2, Int.le_trans i3 j3, fun k hk hb hl => ?_, ?_⟩
    · by_cases q : k = n
      · subst q; exact j4 hb hl
      · exact Int.le_trans (i4 k (by omega) hb hl) j3
    · rcases j5 with j | ⟨a, b, c⟩
      · rw [j]
        rcases i5 with i | ⟨k, a, b, c, d⟩
        · exact Or.inl i
        · exact Or.inr ⟨k, by omega, b, c, d⟩
      · exact Or.inr ⟨n, by omega, a, b, c⟩
def tok (L : Int) (f : Nat → Int) (n : Nat) (S : St) (r : Nat) : Prop := rok S 13 14 r ∧ Opt L (hpM f r n) (VS S 13 14 r)
theorem tok_of {L : Int} {f : Nat → Int} {n : Nat} {S S' : St} {r : Nat} (h : tok L f n S r) (e1 : S' 13 r = S 13 r) (e2 : S' 14 r = S 14 r) : tok L f n S' r := by
  unfold tok rok VS at h ⊢; rw [e1, e2]; exact h
/-- one more row -/
theorem rs1_s {P : St} {n m : Nat} {f : Nat → Int} {L : Int} (hn : n ≤ 8) (hm : m + 1 < 2 ^ n) (h6 : ∀ k, k < n → rg (P 6 k) 0 9200) (h5 : rg (P 5 0) 0 4000) (hL : (P 5 0).toInt = L) (hf : ∀ k, k < n → (P 6 k).toInt = f k) (h : ∀ r, r ≤ m → tok L f n P r) : ∀ r, r ≤ m + 1 → tok L f n (rs1 n P (m + 1)) r := by
  have h256 : 2 ^ n ≤ 2 ^ 8 := Nat.pow_le_pow_right (by decide) hn
  obtain ⟨a1, a2, a3, a4⟩ := hp_last (f := f) (s := m + 1) (n := n) (by omega) hm
  have eB : rs1 n P (m + 1) = rsL (rsB n P (m + 1)) (m + 1) (rsF n (m + 1)) (lastF (m + 1) n) (lastF (m + 1) n) := rfl
  rw [eB]
  unfold rsB
  have hnb := fun (k : Nat) (hb : rsF n (m + 1) / 2 ^ k % 2 = 1) => bt_sub hb
  generalize hla : lastF (m + 1) n = la at *
  generalize hrt : rsF n (m + 1) = rt at *
  have b1 : ∀ r, r ≠ m + 1 → up2 (up2 P 13 (m + 1) (P 13 rt)) 14 (m + 1) (up2 P 13 (m + 1) (P 13 rt) 14 rt) 13 r = P 13 r ∧ up2 (up2 P 13 (m + 1) (P 13 rt)) 14 (m + 1) (up2 P 13 (m + 1) (P 13 rt) 14 rt) 14 r = P 14 r := fun r hr => ⟨by rw [up2_c _ _ _ _ (by decide), up2_k _ _ _ hr], by rw [up2_k _ _ _ hr, up2_c _ _ _ _ (by decide)]⟩
  have b2 : up2 (up2 P 13 (m + 1) (P 13 rt)) 14 (m + 1) (up2 P 13 (m + 1) (P 13 rt) 14 rt) 13 (m + 1) = P 13 rt := by rw [up2_c _ _ _ _ (by decide), up2_s]
  have b3 : up2 (up2 P 13 (m + 1) (P 13 rt)) 14 (m + 1) (up2 P 13 (m + 1) (P 13 rt) 14 rt) 14 (m + 1) = P 14 rt := by rw [up2_s, up2_c _ _ _ _ (by decide)]
  have b4 : ∀ c, c ≠ 13 → c ≠ 14 → up2 (up2 P 13 (m + 1) (P 13 rt)) 14 (m + 1) (up2 P 13 (m + 1) (P 13 rt) 14 rt) c = P c := fun c h1 h2 => by rw [up2_cc _ _ _ h2, up2_cc _ _ _ h1]
  generalize up2 (up2 P 13 (m + 1) (P 13 rt)) 14 (m + 1) (up2 P 13 (m + 1) (P 13 rt) 14 rt) = S at *
  have hB : ∀ r, r ≤ m → tok L f n S r := fun r hr => tok_of (h r hr) (b1 r (by omega)).1 (b1 r (by omega)).2
  have hVb : VS S 13 14 (m + 1) = VS S 13 14 rt := by unfold VS; rw [b2, b3, (b1 rt (by omega)).1, (b1 rt (by omega)).2]
  have hz : rok S 13 14 (m + 1) := by
    have := (h rt (by omega)).1
    unfold rok rg at this ⊢; rw [b2, b3]; omega
  obtain ⟨c1, c2, c3, c4, c5⟩ := rsL_s (S := S) (s := m + 1) (rt := rt) (la := la) (f := f) (L := L) (n := la) (by omega) a1 (fun k hk => by rw [b4 6 (by decide) (by decide)]; exact h6 k (by omega)) (by rw [b4 5 (by decide) (by decide)]; exact h5) (by rw [b4 5 (by decide) (by decide)]; exact hL) (fun k hk => by rw [b4 6 (by decide) (by decide)]; exact hf k (by omega)) hz (fun r hr => (hB r (by omega)).1) (Nat.le_refl _)
  generalize rsL S (m + 1) rt la la = T at *
  intro r hr
  by_cases q : r ≠ m + 1
  · exact tok_of (hB r (by omega)) (c1 r q).1 (c1 r q).2
  have q : r = m + 1 := by omega
  subst q
  have nb : ∀ k, rt / 2 ^ k % 2 = 1 → k < la := fun k hb => by
    rcases Nat.lt_or_ge k la with w | w
    · exact w
    · have := lt_bt a2 k w; omega
  rw [hVb] at c3 c5
  refine ⟨c2, ?_⟩
  rw [a4]
  have oR : Opt L (hpM f rt n) (VS S 13 14 rt) := (hB rt (by omega)).2
  refine ⟨?_, fun s' hs' => ?_⟩
  · rcases c5 with c | ⟨k, k1, k2, k3, k4⟩
    · rw [c]; exact Mt_skip oR.1 _
    · rw [k4]
      have hp := Nat.two_pow_pos k
      have ok : Opt L (hpM f (rt - 2 ^ k) n) (VS S 13 14 (rt - 2 ^ k)) := (hB _ (by omega)).2
      refine Mt_perm (Mt_pair ok.1 k3) fun v => ?_
      have := hp_rm (f := f) (n := n) k2 (by omega) v
      simp only [ct_c] at this ⊢; omega
  · rcases Mt_inv hs' (f la) (hpM f rt n) (fun _ => rfl) with w | ⟨y, l', w1, w2, s3, w3, w4⟩
    · exact Int.le_trans (oR.2 s' w) c3
    · have hy := w1 y
      rw [ct_c, ix_s] at hy
      obtain ⟨k, k1, k2, k3⟩ := hp_ex (f := f) (s := rt) (n := n) (y := y) (by omega)
      have hkl := nb k k2
      have hp := Nat.two_pow_pos k
      have ok : Opt L (hpM f (rt - 2 ^ k) n) (VS S 13 14 (rt - 2 ^ k)) := (hB _ (by omega)).2
      have e := ok.2 s3 (Mt_perm w3 fun v => by
        have p1 := hp_rm (f := f) (n := n) k2 (by omega) v
        have p2 := w1 v
        rw [k3] at p1
        simp only [ct_c] at p1 p2; omega)
      rw [← k3] at w2 w4
      have := c4 k hkl k2 w2
      omega
theorem rsA_s {σ : St} {n : Nat} {f : Nat → Int} {L : Int} (hn : n ≤ 8) (h6 : ∀ k, k < n → rg (σ 6 k) 0 9200) (h5 : rg (σ 5 0) 0 4000) (hL : (σ 5 0).toInt = L) (hf : ∀ k, k < n → (σ 6 k).toInt = f k) {m : Nat} (hm : m < 2 ^ n) : ∀ r, r ≤ m → tok L f n (rsA σ n m) r := by
  induction m with
  | zero =>
    intro r hr
    have hr0 : r = 0 := by omega
    subst hr0
    have e1 : rsA σ n 0 13 0 = 0 := by show up2 (up2 σ 13 0 0) 14 0 0 13 0 = 0; rw [up2_c _ _ _ _ (by decide), up2_s]
    have e2 : rsA σ n 0 14 0 = 0 := by show up2 (up2 σ 13 0 0) 14 0 0 14 0 = 0; rw [up2_s]
    have z : (0 : Int32).toInt = 0 := rfl
    refine ⟨⟨by rw [e1]; unfold rg; rw [z]; omega, by rw [e2]; unfold rg; rw [z]; omega⟩, ?_⟩
    have e3 : hpM f 0 n = [] := by
      have := hp_cut (f := f) (s := 0) (m := 0) (by decide) n
      rw [Nat.zero_add] at this; exact this
    have e4 : VS (rsA σ n 0) 13 14 0 = 0 := by unfold VS; rw [e1, e2, z]; omega
    rw [e3, e4]; exact Opt_nil L
  | succ m ih =>
    have ih := ih (by omega)
    show ∀ r, r ≤ m + 1 → tok L f n (rs1 n (rsA σ n m) (m + 1)) r
    have e6 : rsA σ n m 6 = σ 6 := rsA_o (by decide) (by decide) m
    have e5 : rsA σ n m 5 = σ 5 := rsA_o (by decide) (by decide) m
    exact rs1_s hn hm (by rw [e6]; exact h6) (by rw [e5]; exact h5) (by rw [e5]; exact hL) (by rw [e6]; exact hf) ih
