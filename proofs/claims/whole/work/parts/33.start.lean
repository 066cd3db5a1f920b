/-! the start: two new objects hold the same -/
def st0 : St := fun a => if a = 0 then (fun b => if b = 0 then 6 else if b = 1 then 500 else 0) else if a = 1 then szL 16 else if a = 5 then upd (upd (upd (upd (fun _ => 0) 0 10) 1 40) 2 80) 3 4000 else fun _ => 0
theorem st0_z {a : Nat} (h : a ≠ 0 ∧ a ≠ 1 ∧ a ≠ 5) : st0 a = fun _ => 0 := by unfold st0; rw [if_neg h.1, if_neg h.2.1, if_neg h.2.2]
theorem szL_at {n j : Nat} (h : j < n) : szL n j = 9000 := by
  induction n with
  | zero => exact absurd h (Nat.not_lt_zero _)
  | succ n ih =>
    show upd (szL n) n 9000 j = 9000
    by_cases q : j = n
    · subst q; exact pk_us
    · rw [pk_un q]; exact ih (by omega)
theorem rb0 : RB 0 st0 st0 := by
  have z : (0 : Int32).toInt = 0 := rfl
  refine ⟨by omega, fun _ _ => rfl, ⟨0, by omega, nI_0.symm⟩, ⟨0, by omega, nI_0.symm, fun i hi => absurd hi (Nat.not_lt_zero _), fun i hi => absurd hi (Nat.not_lt_zero _), fun i hi => absurd hi (Nat.not_lt_zero _)⟩, ⟨0, by omega, nI_0.symm⟩, fun k hk => ⟨?_, ?_, ?_, fun j hj => ?_⟩, fun a ha => ?_, ⟨fun j hj => ?_, ?_, ?_, ?_⟩, fun k hk => ⟨0, by omega, ?_, ?_, ?_⟩⟩
  · show rg (szL 16 k) _ _
    rw [szL_at hk]; unfold rg; rw [show (9000 : Int32).toInt = 9000 from rfl]; omega
  · rw [st0_z ⟨by omega, by omega, by omega⟩]; unfold rg; rw [z]; omega
  · rw [st0_z ⟨by omega, by omega, by omega⟩]; unfold rg; rw [z]; omega
  · rw [st0_z ⟨by omega, by omega, by omega⟩]; unfold rg; rw [z]; omega
  · show rg (upd (upd (upd (upd (fun _ => 0) 0 10) 1 40) 2 80) 3 4000 a) _ _
    unfold rg
    rcases (show a = 0 ∨ a = 1 ∨ a = 2 ∨ a = 3 by omega) with rfl | rfl | rfl | rfl
    · rw [pk_un (by decide), pk_un (by decide), pk_un (by decide), pk_us, show (10 : Int32).toInt = 10 from rfl]; omega
    · rw [pk_un (by decide), pk_un (by decide), pk_us, show (40 : Int32).toInt = 40 from rfl]; omega
    · rw [pk_un (by decide), pk_us, show (80 : Int32).toInt = 80 from rfl]; omega
    · rw [pk_us, show (4000 : Int32).toInt = 4000 from rfl]; omega
  · rw [st0_z ⟨by omega, by omega, by omega⟩]; unfold rg; rw [z]; omega
  · rw [st0_z ⟨by omega, by omega, by omega⟩]
  · rw [st0_z ⟨by omega, by omega, by omega⟩]
  · show rg 6 _ _
    unfold rg; rw [show (6 : Int32).toInt = 6 from rfl]; omega
  · rw [st0_z ⟨by omega, by omega, by omega⟩]; exact nI_0.symm
  · rw [st0_z ⟨by omega, by omega, by omega⟩]; exact nI_0.symm
  · rw [st0_z ⟨by omega, by omega, by omega⟩]; exact nI_0.symm
/-! where the cells lie -/
def aCf (h0 i : Nat) : Nat := h0 + (if i = 2 then 18 else if 3 ≤ i ∧ i < 19 then i - 1 else i)
def aRf (h0 j : Nat) : Nat := h0 + (67 + j)
theorem aC_lo {h0 i : Nat} (h : i < 2 ∨ 19 ≤ i) : aCf h0 i = h0 + i := by unfold aCf; rw [if_neg (by omega), if_neg (by omega)]
theorem aC_2 (h0 : Nat) : aCf h0 2 = h0 + 18 := by unfold aCf; rw [if_pos rfl]
theorem aC_mid {h0 i : Nat} (h : 3 ≤ i ∧ i < 19) : aCf h0 i = h0 + (i - 1) := by unfold aCf; rw [if_neg (by omega), if_pos h]
theorem aC_cases (h0 i : Nat) : (i = 2 ∧ aCf h0 i = h0 + 18) ∨ (3 ≤ i ∧ i < 19 ∧ aCf h0 i = h0 + (i - 1)) ∨ ((i < 2 ∨ 19 ≤ i) ∧ aCf h0 i = h0 + i) := by
  by_cases h : i = 2
  · exact Or.inl ⟨h, h ▸ aC_2 h0⟩
  · by_cases g : 3 ≤ i ∧ i < 19
    · exact Or.inr (Or.inl ⟨g.1, g.2, aC_mid g⟩)
    · exact Or.inr (Or.inr ⟨by omega, aC_lo (by omega)⟩)
theorem aC_inj (h0 : Nat) : Inj 67 (aCf h0) := fun i j _ _ h => by
  rcases aC_cases h0 i with a | a | a <;> rcases aC_cases h0 j with b | b | b <;> omega
theorem aR_inj (h0 : Nat) : Inj 17 (aRf h0) := fun i j _ _ h => by unfold aRf at h; omega
theorem aC_in {h0 i : Nat} (hi : i < 67) : h0 ≤ aCf h0 i ∧ aCf h0 i < h0 + 67 := by
  rcases aC_cases h0 i with a | a | a <;> omega
theorem aCR (h0 : Nat) : ∀ i j, i < 67 → j < 17 → aCf h0 i ≠ aRf h0 j := fun i j hi _ h => by
  have := aC_in (h0 := h0) hi
  unfold aRf at h; omega
def B19 (cA cB : ClassId) (h0 : Nat) : List va_E := [.inr (4, [.ref (h0 + 1), .ref (h0 + 2), .ref (h0 + 4), .ref (h0 + 9), .ref (h0 + 18), .int 6, .int 500, .int 0, .long 0]), .inl (cB, 16, .inr (.inr (.inr (.inr (whF h0 16))))), .inr (0, [.ref ((h0 + 2) + 1)]), .inl (cA, 4, .inl (upd (upd (upd (upd (fun _ => 0) 0 10) 1 40) 2 80) 3 4000)), .inr (2, [.int 0, .ref ((h0 + 4) + 1), .ref ((h0 + 4) + 2), .ref ((h0 + 4) + 3), .ref ((h0 + 4) + 4)]), .inl (cA, 8, .inl (fun _ => 0)), .inl (cA, 8, .inl (fun _ => 0)), .inl (cA, 9, .inl (fun _ => 0)), .inl (cA, 9, .inl (fun _ => 0)), .inr (1, [.int 0, .ref ((h0 + 9) + 1), .ref ((h0 + 9) + 2), .ref ((h0 + 9) + 3), .ref ((h0 + 9) + 4), .ref ((h0 + 9) + 5), .ref ((h0 + 9) + 6), .ref ((h0 + 9) + 7), .ref ((h0 + 9) + 8)]), .inl (cA, 20, .inl (fun _ => 0)), .inl (cA, 20, .inl (fun _ => 0)), .inl (cA, 20, .inl (fun _ => 0)), .inl (cA, 16, .inl (fun _ => 0)), .inl (cA, 16, .inl (fun _ => 0)), .inl (cA, 16, .inl (fun _ => 0)), .inl (cA, 16, .inl (fun _ => 0)), .inl (cA, 16, .inl (fun _ => 0)), .inl (cA, 16, .inl (fun _ => 0))]
def P5 (cA : ClassId) (q : Nat) : List va_E := [.inr (5, [.int 0, .long 0, .ref (q + 1), .ref (q + 2), .ref (q + 3), .ref (q + 4), .int 6, .int 0, .ref (q + 5), .ref (q + 6), .int 0, .ref (q + 7), .ref (q + 8), .ref (q + 9), .int 0, .ref (q + 10), .ref (q + 11), .ref (q + 12), .ref (q + 13), .ref (q + 14), .ref (q + 15), .ref (q + 16), .int 500]), .inl (cA, 16, .inl (szL 16)), .inl (cA, 80, .inl (fun _ => 0)), .inl (cA, 16, .inl (fun _ => 0)), .inl (cA, 16, .inl (fun _ => 0)), .inl (cA, 4, .inl (upd (upd (upd (upd (fun _ => 0) 0 10) 1 40) 2 80) 3 4000)), .inl (cA, 16, .inl (fun _ => 0)), .inl (cA, 8, .inl (fun _ => 0)), .inl (cA, 256, .inl (fun _ => 0)), .inl (cA, 256, .inl (fun _ => 0)), .inl (cA, 20, .inl (fun _ => 0)), .inl (cA, 20, .inl (fun _ => 0)), .inl (cA, 20, .inl (fun _ => 0)), .inl (cA, 16, .inl (fun _ => 0)), .inl (cA, 16, .inl (fun _ => 0)), .inl (cA, 16, .inl (fun _ => 0)), .inl (cA, 80, .inl (fun _ => 0))]
theorem blk_lo {cA cB : ClassId} {h0 i : Nat} {x : va_E} {W P : List va_E} (h : (B19 cA cB h0)[i]? = some x) : ((B19 cA cB h0 ++ W) ++ P)[i]? = some x := by
  have hl := (List.getElem?_eq_some_iff.mp h).1
  rw [List.getElem?_append_left (by rw [List.length_append]; omega), List.getElem?_append_left hl]; exact h
theorem blk_hi {cA cB : ClassId} {h0 i : Nat} {x : va_E} {W P : List va_E} (h : W[i]? = some x) : ((B19 cA cB h0 ++ W) ++ P)[19 + i]? = some x := by
  have hl := (List.getElem?_eq_some_iff.mp h).1
  have e : (B19 cA cB h0).length = 19 := rfl
  rw [List.getElem?_append_left (by rw [List.length_append, e]; omega), List.getElem?_append_right (by omega), e, Nat.add_sub_cancel_left]; exact h
theorem whL_at (cA : ClassId) (h0 : Nat) {K j : Nat} (h : j < K) : (whL cA h0 K)[3 * j]? = some (.inr (3, [.ref ((h0 + (19 + 3 * j)) + 1), .int 9000, .int 0, .int 0, .ref ((h0 + (19 + 3 * j)) + 2), .int 0, .int 0])) ∧ (whL cA h0 K)[3 * j + 1]? = some (.inl (cA, 5, .inl (fun _ => 0))) ∧ (whL cA h0 K)[3 * j + 2]? = some (.inl (cA, 5, .inl (fun _ => 0))) := by
  induction K with
  | zero => exact absurd h (Nat.not_lt_zero _)
  | succ K ih =>
    have e := whL_len cA h0 K
    by_cases q : j = K
    · subst q
      unfold whL
      rw [List.getElem?_append_right (by omega), List.getElem?_append_right (by omega), List.getElem?_append_right (by omega), e, Nat.sub_self, Nat.add_sub_cancel_left, Nat.add_sub_cancel_left]
      exact ⟨rfl, rfl, rfl⟩
    · have i := ih (by omega)
      unfold whL
      rw [List.getElem?_append_left (by omega), List.getElem?_append_left (by omega), List.getElem?_append_left (by omega)]; exact i
theorem whF_at (h0 : Nat) {K j : Nat} (h : j < K) : whF h0 K j = some (h0 + (19 + 3 * j)) := by
  induction K with
  | zero => exact absurd h (Nat.not_lt_zero _)
  | succ K ih =>
    show (if j = K then some (h0 + (19 + 3 * K)) else whF h0 K j) = _
    by_cases q : j = K
    · subst q; rw [if_pos rfl]
    · rw [if_neg q]; exact ih (by omega)
theorem arrV_congr {cA : ClassId} {N : Nat} {f g : Nat → Value} (h : ∀ j, j < N → f j = g j) : arrV cA N f = arrV cA N g := by
  have e : (fun j : Fin N => f j.val) = fun j => g j.val := funext fun j => h j.val j.isLt
  unfold arrV; rw [e]
theorem pC_1 (cA : ClassId) {h0 : Nat} {cB : ClassId} {D : va_G} {H : Heap} (h : va_at D vwCl (h0 + 1, .inl (cB, 16, .inr (.inr (.inr (.inr (whF h0 16)))))) H) : va_at D vwCl (aCf h0 1, cellC cA cB (aCf h0) 1 st0) H := by
  rw [kC_1, aC_lo (by decide)]
  have h' : H[h0 + 1]? = some (vp_cell cB (16, .inr (.inr (.inr (.inr (whF h0 16)))))) := h
  show H[h0 + 1]? = some (vp_cell cB (16, .inr (.inr (.inr (.inr (fun j => some (aCf h0 (pW j))))))))
  rw [h', vp_cell_q, vp_cell_q]
  refine congrArg some (arrV_congr fun j hj => ?_)
  rw [whF_at h0 hj, aC_lo (by unfold pW; omega)]
  unfold pW
  rw [show h0 + (19 + 3 * j) = h0 + (3 * j + 19) by omega]
set_option maxRecDepth 10000 in
theorem pC {D : va_G} {cA cB : ClassId} {h0 : Nat} {P : List va_E} {H : Heap} (h : PK D h0 ((B19 cA cB h0 ++ whL cA h0 16) ++ P) H) : PV D 67 (aCf h0) (cellC cA cB (aCf h0)) st0 H := by
  have L : ∀ i x, (B19 cA cB h0)[i]? = some x → va_at D vwCl (h0 + i, x) H := fun i x hx => h.2 i x (blk_lo hx)
  intro k q hq
  obtain ⟨hk, rfl⟩ := wv_of hq
  by_cases h19 : k < 19
  · rcases (show k = 0 ∨ k = 1 ∨ k = 2 ∨ k = 3 ∨ k = 4 ∨ k = 5 ∨ k = 6 ∨ k = 7 ∨ k = 8 ∨ k = 9 ∨ k = 10 ∨ k = 11 ∨ k = 12 ∨ k = 13 ∨ k = 14 ∨ k = 15 ∨ k = 16 ∨ k = 17 ∨ k = 18 by omega) with rfl | rfl | rfl | rfl | rfl | rfl | rfl | rfl | rfl | rfl | rfl | rfl | rfl | rfl | rfl | rfl | rfl | rfl | rfl
    · exact L 0 _ rfl
    · exact pC_1 cA (L 1 _ rfl)
    · exact L 18 _ rfl
    · exact L 2 _ rfl
    · exact L 3 _ rfl
    · exact L 4 _ rfl
    · exact L 5 _ rfl
    · exact L 6 _ rfl
    · exact L 7 _ rfl
    · exact L 8 _ rfl
    · exact L 9 _ rfl
    · exact L 10 _ rfl
    · exact L 11 _ rfl
    · exact L 12 _ rfl
    · exact L 13 _ rfl
    · exact L 14 _ rfl
    · exact L 15 _ rfl
    · exact L 16 _ rfl
    · exact L 17 _ rfl
  · obtain ⟨j, hj, e⟩ : ∃ j, j < 16 ∧ (k = pW j ∨ k = pD j ∨ k = pB j) := ⟨(k - 19) / 3, by omega, by unfold pW pD pB; omega⟩
    obtain ⟨w1, w2, w3⟩ := whL_at cA h0 hj
    have aW : aCf h0 (pW j) = h0 + (19 + 3 * j) := by rw [aC_lo (by unfold pW; omega)]; unfold pW; omega
    have aD : aCf h0 (pD j) = h0 + (19 + 3 * j) + 1 := by rw [aC_lo (by unfold pD; omega)]; unfold pD; omega
    have aB : aCf h0 (pB j) = h0 + (19 + 3 * j) + 2 := by rw [aC_lo (by unfold pB; omega)]; unfold pB; omega
    rcases e with rfl | rfl | rfl
    · have x := h.2 (19 + 3 * j) _ (blk_hi w1)
      rw [kC_W, aW, aD, aB, show st0 1 j = 9000 from szL_at hj]
      exact x
    · have x := h.2 (19 + (3 * j + 1)) _ (blk_hi w2)
      rw [kC_D, aD, st0_z ⟨by omega, by omega, by omega⟩]
      exact x
    · have x := h.2 (19 + (3 * j + 2)) _ (blk_hi w3)
      rw [kC_B, aB, st0_z ⟨by omega, by omega, by omega⟩]
      exact x
set_option maxRecDepth 10000 in
theorem pR {D : va_G} {cA : ClassId} {h0 : Nat} {F : List va_E} {H : Heap} (hF : F.length = 67) (h : PK D h0 (F ++ P5 cA (h0 + 67)) H) : PV D 17 (aRf h0) (cellR cA (aRf h0)) st0 H := by
  have L : ∀ i x, (P5 cA (h0 + 67))[i]? = some x → va_at D vwCl (h0 + (67 + i), x) H := fun i x hx => h.2 (67 + i) x (by rw [List.getElem?_append_right (by omega), hF, Nat.add_sub_cancel_left]; exact hx)
  intro k q hq
  obtain ⟨hk, rfl⟩ := wv_of hq
  have e2 : (fun j => st0 (100 + 2 * (j / 5)) (j % 5)) = fun _ => (0 : Int32) := by funext j; rw [st0_z ⟨by omega, by omega, by omega⟩]
  have e16 : (fun j => st0 (101 + 2 * (j / 5)) (j % 5)) = fun _ => (0 : Int32) := by funext j; rw [st0_z ⟨by omega, by omega, by omega⟩]
  rcases (show k = 0 ∨ k = 1 ∨ k = 2 ∨ k = 3 ∨ k = 4 ∨ k = 5 ∨ k = 6 ∨ k = 7 ∨ k = 8 ∨ k = 9 ∨ k = 10 ∨ k = 11 ∨ k = 12 ∨ k = 13 ∨ k = 14 ∨ k = 15 ∨ k = 16 by omega) with rfl | rfl | rfl | rfl | rfl | rfl | rfl | rfl | rfl | rfl | rfl | rfl | rfl | rfl | rfl | rfl | rfl
  · exact L 0 _ rfl
  · exact L 1 _ rfl
  · rw [kR_2, e2]; exact L 2 _ rfl
  · exact L 3 _ rfl
  · exact L 4 _ rfl
  · exact L 5 _ rfl
  · exact L 6 _ rfl
  · exact L 7 _ rfl
  · exact L 8 _ rfl
  · exact L 9 _ rfl
  · exact L 10 _ rfl
  · exact L 11 _ rfl
  · exact L 12 _ rfl
  · exact L 13 _ rfl
  · exact L 14 _ rfl
  · exact L 15 _ rfl
  · rw [kR_16, e16]; exact L 16 _ rfl
