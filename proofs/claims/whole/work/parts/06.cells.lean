/-! THE CLASS'S CELLS: 0 the shop, 1 its wheels, 2 sizes, 3 Laws, 4 apart, 5 Spares, 6 .. 9 its arrays, 10 Readings, 11 .. 18 its arrays, 19 + 3 k the wheels, with depths and blows behind each.
The state: 0 numbers (0 thinning, 1 bar, 2 turnings, 3 trace, 4 spares, 5 readings), 1 sizes, 3 wear, 4 road, 5 laws, 6 spares, 7 wheels told, 8 by whom, 9 sizes told, 100 + 2 k depths, 101 + 2 k blows; 11 passes (the reference), 21 blowsKept, 22 oldestBlow (the class); rows used again: 12 .. 16 (the reference), 23 .. 31 (the class) -/
def pW (k : Nat) : Nat := 3 * k + 19
def pD (k : Nat) : Nat := 3 * k + 20
def pB (k : Nat) : Nat := 3 * k + 21
def fixC (cA cB : ClassId) (ad : Nat → Nat) (i : Nat) (σ : St) : va_E := match i with
  | 0 => .inr (4, [.ref (ad 1), .ref (ad 3), .ref (ad 5), .ref (ad 10), .ref (ad 2), .int (σ 0 0), .int (σ 0 1), .int (σ 0 2), .long (σ 0 3).toInt64])
  | 1 => .inl (cB, 16, .inr (.inr (.inr (.inr (fun j => some (ad (pW j)))))))
  | 2 => .inl (cA, 16, .inl (σ 23))
  | 3 => .inr (0, [.ref (ad 4)])
  | 4 => .inl (cA, 4, .inl (σ 5))
  | 5 => .inr (2, [.int (σ 0 4), .ref (ad 6), .ref (ad 7), .ref (ad 8), .ref (ad 9)])
  | 6 => .inl (cA, 8, .inl (σ 6))
  | 7 => .inl (cA, 8, .inl (σ 24))
  | 8 => .inl (cA, 9, .inl (σ 25))
  | 9 => .inl (cA, 9, .inl (σ 26))
  | 10 => .inr (1, [.int (σ 0 5), .ref (ad 11), .ref (ad 12), .ref (ad 13), .ref (ad 14), .ref (ad 15), .ref (ad 16), .ref (ad 17), .ref (ad 18)])
  | 11 => .inl (cA, 20, .inl (σ 7))
  | 12 => .inl (cA, 20, .inl (σ 8))
  | 13 => .inl (cA, 20, .inl (σ 9))
  | 14 => .inl (cA, 16, .inl (σ 27))
  | 15 => .inl (cA, 16, .inl (σ 28))
  | 16 => .inl (cA, 16, .inl (σ 29))
  | 17 => .inl (cA, 16, .inl (σ 30))
  | 18 => .inl (cA, 16, .inl (σ 31))
  | _ => .inl (cA, 0, .inl fun _ => 0)
def cellC (cA cB : ClassId) (ad : Nat → Nat) (i : Nat) (σ : St) : va_E :=
  if i < 19 then fixC cA cB ad i σ else if (i - 19) % 3 = 0 then .inr (3, [.ref (ad (pD ((i - 19) / 3))), .int (σ 1 ((i - 19) / 3)), .int (σ 3 ((i - 19) / 3)), .int (σ 4 ((i - 19) / 3)), .ref (ad (pB ((i - 19) / 3))), .int (σ 21 ((i - 19) / 3)), .int (σ 22 ((i - 19) / 3))])
  else if (i - 19) % 3 = 1 then .inl (cA, 5, .inl (σ (100 + 2 * ((i - 19) / 3)))) else .inl (cA, 5, .inl (σ (101 + 2 * ((i - 19) / 3))))
section KC
variable {cA cB : ClassId} {ad : Nat → Nat} {σ : St}
theorem kC_W (k : Nat) : cellC cA cB ad (pW k) σ = .inr (3, [.ref (ad (pD k)), .int (σ 1 k), .int (σ 3 k), .int (σ 4 k), .ref (ad (pB k)), .int (σ 21 k), .int (σ 22 k)]) := by
  have e1 : ¬ (3 * k + 19 < 19) := by omega
  have e2 : (3 * k + 19 - 19) % 3 = 0 := by omega
  have e3 : (3 * k + 19 - 19) / 3 = k := by omega
  unfold cellC pW
  rw [if_neg e1, if_pos e2, e3]
theorem kC_D (k : Nat) : cellC cA cB ad (pD k) σ = .inl (cA, 5, .inl (σ (100 + 2 * k))) := by
  have e1 : ¬ (3 * k + 20 < 19) := by omega
  have e2 : ¬ (3 * k + 20 - 19) % 3 = 0 := by omega
  have e4 : (3 * k + 20 - 19) % 3 = 1 := by omega
  have e3 : (3 * k + 20 - 19) / 3 = k := by omega
  unfold cellC pD
  rw [if_neg e1, if_neg e2, if_pos e4, e3]
theorem kC_B (k : Nat) : cellC cA cB ad (pB k) σ = .inl (cA, 5, .inl (σ (101 + 2 * k))) := by
  have e1 : ¬ (3 * k + 21 < 19) := by omega
  have e2 : ¬ (3 * k + 21 - 19) % 3 = 0 := by omega
  have e4 : ¬ (3 * k + 21 - 19) % 3 = 1 := by omega
  have e3 : (3 * k + 21 - 19) / 3 = k := by omega
  unfold cellC pB
  rw [if_neg e1, if_neg e2, if_neg e4, e3]
theorem kC_0 : cellC cA cB ad 0 σ = .inr (4, [.ref (ad 1), .ref (ad 3), .ref (ad 5), .ref (ad 10), .ref (ad 2), .int (σ 0 0), .int (σ 0 1), .int (σ 0 2), .long (σ 0 3).toInt64]) := rfl
theorem kC_1 : cellC cA cB ad 1 σ = .inl (cB, 16, .inr (.inr (.inr (.inr (fun j => some (ad (pW j))))))) := rfl
theorem kC_2 : cellC cA cB ad 2 σ = .inl (cA, 16, .inl (σ 23)) := rfl
theorem kC_3 : cellC cA cB ad 3 σ = .inr (0, [.ref (ad 4)]) := rfl
theorem kC_4 : cellC cA cB ad 4 σ = .inl (cA, 4, .inl (σ 5)) := rfl
theorem kC_5 : cellC cA cB ad 5 σ = .inr (2, [.int (σ 0 4), .ref (ad 6), .ref (ad 7), .ref (ad 8), .ref (ad 9)]) := rfl
theorem kC_6 : cellC cA cB ad 6 σ = .inl (cA, 8, .inl (σ 6)) := rfl
theorem kC_7 : cellC cA cB ad 7 σ = .inl (cA, 8, .inl (σ 24)) := rfl
theorem kC_8 : cellC cA cB ad 8 σ = .inl (cA, 9, .inl (σ 25)) := rfl
theorem kC_9 : cellC cA cB ad 9 σ = .inl (cA, 9, .inl (σ 26)) := rfl
theorem kC_10 : cellC cA cB ad 10 σ = .inr (1, [.int (σ 0 5), .ref (ad 11), .ref (ad 12), .ref (ad 13), .ref (ad 14), .ref (ad 15), .ref (ad 16), .ref (ad 17), .ref (ad 18)]) := rfl
theorem kC_11 : cellC cA cB ad 11 σ = .inl (cA, 20, .inl (σ 7)) := rfl
theorem kC_12 : cellC cA cB ad 12 σ = .inl (cA, 20, .inl (σ 8)) := rfl
theorem kC_13 : cellC cA cB ad 13 σ = .inl (cA, 20, .inl (σ 9)) := rfl
theorem kC_14 : cellC cA cB ad 14 σ = .inl (cA, 16, .inl (σ 27)) := rfl
theorem kC_15 : cellC cA cB ad 15 σ = .inl (cA, 16, .inl (σ 28)) := rfl
theorem kC_16 : cellC cA cB ad 16 σ = .inl (cA, 16, .inl (σ 29)) := rfl
theorem kC_17 : cellC cA cB ad 17 σ = .inl (cA, 16, .inl (σ 30)) := rfl
theorem kC_18 : cellC cA cB ad 18 σ = .inl (cA, 16, .inl (σ 31)) := rfl
def okA (i c : Nat) : Bool := match i with
  | 2 => !(c == 23)
  | 4 => !(c == 5)
  | 6 => !(c == 6)
  | 7 => !(c == 24)
  | 8 => !(c == 25)
  | 9 => !(c == 26)
  | 11 => !(c == 7)
  | 12 => !(c == 8)
  | 13 => !(c == 9)
  | 14 => !(c == 27)
  | 15 => !(c == 28)
  | 16 => !(c == 29)
  | 17 => !(c == 30)
  | 18 => !(c == 31)
  | _ => true
def ok0 (i j : Nat) : Bool := match i with
  | 0 => !(decide (j < 4))
  | 5 => !(j == 4)
  | 10 => !(j == 5)
  | _ => true
theorem fixC_upA {i c j : Nat} {v : Int32} (hi : i < 19) (h0 : c ≠ 0) (h : okA i c = true) : fixC cA cB ad i (up2 σ c j v) = fixC cA cB ad i σ := by
  match i, hi with
  | 0, _ => simp only [fixC, up2_c σ j _ v (Ne.symm h0)]
  | 1, _ => rfl
  | 2, _ =>
    have e : 23 ≠ c := by intro e; subst e; simp [okA] at h
    simp only [fixC, up2_cc σ j v e]
  | 3, _ => rfl
  | 4, _ =>
    have e : 5 ≠ c := by intro e; subst e; simp [okA] at h
    simp only [fixC, up2_cc σ j v e]
  | 5, _ => simp only [fixC, up2_c σ j _ v (Ne.symm h0)]
  | 6, _ =>
    have e : 6 ≠ c := by intro e; subst e; simp [okA] at h
    simp only [fixC, up2_cc σ j v e]
  | 7, _ =>
    have e : 24 ≠ c := by intro e; subst e; simp [okA] at h
    simp only [fixC, up2_cc σ j v e]
  | 8, _ =>
    have e : 25 ≠ c := by intro e; subst e; simp [okA] at h
    simp only [fixC, up2_cc σ j v e]
  | 9, _ =>
    have e : 26 ≠ c := by intro e; subst e; simp [okA] at h
    simp only [fixC, up2_cc σ j v e]
  | 10, _ => simp only [fixC, up2_c σ j _ v (Ne.symm h0)]
  | 11, _ =>
    have e : 7 ≠ c := by intro e; subst e; simp [okA] at h
    simp only [fixC, up2_cc σ j v e]
  | 12, _ =>
    have e : 8 ≠ c := by intro e; subst e; simp [okA] at h
    simp only [fixC, up2_cc σ j v e]
  | 13, _ =>
    have e : 9 ≠ c := by intro e; subst e; simp [okA] at h
    simp only [fixC, up2_cc σ j v e]
  | 14, _ =>
    have e : 27 ≠ c := by intro e; subst e; simp [okA] at h
    simp only [fixC, up2_cc σ j v e]
  | 15, _ =>
    have e : 28 ≠ c := by intro e; subst e; simp [okA] at h
    simp only [fixC, up2_cc σ j v e]
  | 16, _ =>
    have e : 29 ≠ c := by intro e; subst e; simp [okA] at h
    simp only [fixC, up2_cc σ j v e]
  | 17, _ =>
    have e : 30 ≠ c := by intro e; subst e; simp [okA] at h
    simp only [fixC, up2_cc σ j v e]
  | 18, _ =>
    have e : 31 ≠ c := by intro e; subst e; simp [okA] at h
    simp only [fixC, up2_cc σ j v e]
  | z + 19, hz => exact absurd hz (by omega)
theorem fixC_up0 {i j : Nat} {v : Int32} (hi : i < 19) (h : ok0 i j = true) : fixC cA cB ad i (up2 σ 0 j v) = fixC cA cB ad i σ := by
  match i, hi with
  | 0, _ =>
    have e : ¬ j < 4 := by intro q; simp [ok0, q] at h
    simp only [fixC, up2_k σ 0 v (show (0 : Nat) ≠ j by omega), up2_k σ 0 v (show (1 : Nat) ≠ j by omega), up2_k σ 0 v (show (2 : Nat) ≠ j by omega), up2_k σ 0 v (show (3 : Nat) ≠ j by omega)]
  | 1, _ => rfl
  | 2, _ => simp only [fixC, up2_cc σ j v (by decide : 23 ≠ 0)]
  | 3, _ => rfl
  | 4, _ => simp only [fixC, up2_cc σ j v (by decide : 5 ≠ 0)]
  | 5, _ =>
    have e : (4 : Nat) ≠ j := by intro q; subst q; simp [ok0] at h
    simp only [fixC, up2_k σ 0 v e]
  | 6, _ => simp only [fixC, up2_cc σ j v (by decide : 6 ≠ 0)]
  | 7, _ => simp only [fixC, up2_cc σ j v (by decide : 24 ≠ 0)]
  | 8, _ => simp only [fixC, up2_cc σ j v (by decide : 25 ≠ 0)]
  | 9, _ => simp only [fixC, up2_cc σ j v (by decide : 26 ≠ 0)]
  | 10, _ =>
    have e : (5 : Nat) ≠ j := by intro q; subst q; simp [ok0] at h
    simp only [fixC, up2_k σ 0 v e]
  | 11, _ => simp only [fixC, up2_cc σ j v (by decide : 7 ≠ 0)]
  | 12, _ => simp only [fixC, up2_cc σ j v (by decide : 8 ≠ 0)]
  | 13, _ => simp only [fixC, up2_cc σ j v (by decide : 9 ≠ 0)]
  | 14, _ => simp only [fixC, up2_cc σ j v (by decide : 27 ≠ 0)]
  | 15, _ => simp only [fixC, up2_cc σ j v (by decide : 28 ≠ 0)]
  | 16, _ => simp only [fixC, up2_cc σ j v (by decide : 29 ≠ 0)]
  | 17, _ => simp only [fixC, up2_cc σ j v (by decide : 30 ≠ 0)]
  | 18, _ => simp only [fixC, up2_cc σ j v (by decide : 31 ≠ 0)]
  | z + 19, hz => exact absurd hz (by omega)
theorem cellC_up0 {j q : Nat} {v : Int32} (h : ∀ i, i < 19 → i ≠ q → ok0 i j = true) : ∀ i, i < 67 → i ≠ q → cellC cA cB ad i (up2 σ 0 j v) = cellC cA cB ad i σ := by
  intro i _ hq
  unfold cellC
  by_cases hi : i < 19
  · rw [if_pos hi, if_pos hi, fixC_up0 hi (h i hi hq)]
  · rw [if_neg hi, if_neg hi]
    simp only [up2_c σ j _ v (show (1 : Nat) ≠ 0 by decide), up2_c σ j _ v (show (3 : Nat) ≠ 0 by decide), up2_c σ j _ v (show (4 : Nat) ≠ 0 by decide), up2_c σ j _ v (show (21 : Nat) ≠ 0 by decide), up2_c σ j _ v (show (22 : Nat) ≠ 0 by decide), up2_cc σ j v (show 100 + 2 * ((i - 19) / 3) ≠ 0 by omega), up2_cc σ j v (show 101 + 2 * ((i - 19) / 3) ≠ 0 by omega)]
def fixed (c : Nat) : Bool := decide (c ≠ 0) && (decide (c ≠ 1) && (decide (c ≠ 3) && (decide (c ≠ 4) && (decide (c ≠ 21) && (decide (c ≠ 22) && decide (c < 100))))))
theorem cellC_upA {c j q : Nat} {v : Int32} (hc : fixed c = true) (h : ∀ i, i < 19 → i ≠ q → okA i c = true) : ∀ i, i < 67 → i ≠ q → cellC cA cB ad i (up2 σ c j v) = cellC cA cB ad i σ := by
  simp only [fixed, Bool.and_eq_true, decide_eq_true_eq] at hc
  obtain ⟨h0, h1, h3, h4, h21, h22, h100⟩ := hc
  intro i _ hq
  unfold cellC
  by_cases hi : i < 19
  · rw [if_pos hi, if_pos hi, fixC_upA hi h0 (h i hi hq)]
  · rw [if_neg hi, if_neg hi]
    simp only [up2_c σ j _ v (Ne.symm h1), up2_c σ j _ v (Ne.symm h3), up2_c σ j _ v (Ne.symm h4), up2_c σ j _ v (Ne.symm h21), up2_c σ j _ v (Ne.symm h22), up2_cc σ j v (show 100 + 2 * ((i - 19) / 3) ≠ c by omega), up2_cc σ j v (show 101 + 2 * ((i - 19) / 3) ≠ c by omega)]
theorem okA_W {c : Nat} (hc : c = 1 ∨ c = 3 ∨ c = 4 ∨ c = 21 ∨ c = 22) : ∀ i, i < 19 → okA i c = true := by
  rcases hc with rfl | rfl | rfl | rfl | rfl <;> decide
theorem cellC_upW {c k : Nat} {v : Int32} (hc : c = 1 ∨ c = 3 ∨ c = 4 ∨ c = 21 ∨ c = 22) : ∀ i, i < 67 → i ≠ pW k → cellC cA cB ad i (up2 σ c k v) = cellC cA cB ad i σ := by
  intro i _ hq
  unfold cellC
  by_cases hi : i < 19
  · rw [if_pos hi, if_pos hi, fixC_upA hi (by omega) (okA_W hc i hi)]
  · rw [if_neg hi, if_neg hi]
    by_cases h3 : (i - 19) % 3 = 0
    · have hk : (i - 19) / 3 ≠ k := by unfold pW at hq; omega
      have hh : ∀ d : Nat, up2 σ c k v d ((i - 19) / 3) = σ d ((i - 19) / 3) := fun d => by simp [up2, hk]
      simp only [hh, if_pos h3]
    · rw [if_neg h3, if_neg h3, up2_cc σ k v (show 100 + 2 * ((i - 19) / 3) ≠ c by omega), up2_cc σ k v (show 101 + 2 * ((i - 19) / 3) ≠ c by omega)]
theorem okA_big {c : Nat} (hc : 100 ≤ c) : ∀ i, i < 19 → okA i c = true := by
  intro i hi
  match i, hi with
  | 0, _ => simp [okA]
  | 1, _ => simp [okA]
  | 2, _ => simp [okA]; omega
  | 3, _ => simp [okA]
  | 4, _ => simp [okA]; omega
  | 5, _ => simp [okA]
  | 6, _ => simp [okA]; omega
  | 7, _ => simp [okA]; omega
  | 8, _ => simp [okA]; omega
  | 9, _ => simp [okA]; omega
  | 10, _ => simp [okA]
  | 11, _ => simp [okA]; omega
  | 12, _ => simp [okA]; omega
  | 13, _ => simp [okA]; omega
  | 14, _ => simp [okA]; omega
  | 15, _ => simp [okA]; omega
  | 16, _ => simp [okA]; omega
  | 17, _ => simp [okA]; omega
  | 18, _ => simp [okA]; omega
  | z + 19, hz => exact absurd hz (by omega)
theorem cellC_upD {k j : Nat} {v : Int32} (hk : k < 16) : ∀ i, i < 67 → i ≠ pD k → cellC cA cB ad i (up2 σ (100 + 2 * k) j v) = cellC cA cB ad i σ := by
  intro i h67 hq
  unfold cellC
  by_cases hi : i < 19
  · rw [if_pos hi, if_pos hi, fixC_upA hi (by omega) (okA_big (by omega) i hi)]
  · rw [if_neg hi, if_neg hi]
    rw [up2_c σ j _ v (show 1 ≠ 100 + 2 * k by omega), up2_c σ j _ v (show 3 ≠ 100 + 2 * k by omega), up2_c σ j _ v (show 4 ≠ 100 + 2 * k by omega), up2_c σ j _ v (show 21 ≠ 100 + 2 * k by omega), up2_c σ j _ v (show 22 ≠ 100 + 2 * k by omega), up2_cc σ j v (show 101 + 2 * ((i - 19) / 3) ≠ 100 + 2 * k by omega)]
    by_cases h3 : (i - 19) % 3 = 0
    · rw [if_pos h3, if_pos h3]
    · by_cases h4 : (i - 19) % 3 = 1
      · rw [up2_cc σ j v (show 100 + 2 * ((i - 19) / 3) ≠ 100 + 2 * k by unfold pD at hq; omega)]
      · rw [if_neg h3, if_neg h3, if_neg h4, if_neg h4]
theorem cellC_upB {k j : Nat} {v : Int32} (hk : k < 16) : ∀ i, i < 67 → i ≠ pB k → cellC cA cB ad i (up2 σ (101 + 2 * k) j v) = cellC cA cB ad i σ := by
  intro i h67 hq
  unfold cellC
  by_cases hi : i < 19
  · rw [if_pos hi, if_pos hi, fixC_upA hi (by omega) (okA_big (by omega) i hi)]
  · rw [if_neg hi, if_neg hi]
    rw [up2_c σ j _ v (show 1 ≠ 101 + 2 * k by omega), up2_c σ j _ v (show 3 ≠ 101 + 2 * k by omega), up2_c σ j _ v (show 4 ≠ 101 + 2 * k by omega), up2_c σ j _ v (show 21 ≠ 101 + 2 * k by omega), up2_c σ j _ v (show 22 ≠ 101 + 2 * k by omega), up2_cc σ j v (show 100 + 2 * ((i - 19) / 3) ≠ 101 + 2 * k by omega)]
    by_cases h3 : (i - 19) % 3 = 0
    · rw [if_pos h3, if_pos h3]
    · by_cases h4 : (i - 19) % 3 = 1
      · rw [if_neg h3, if_neg h3, if_pos h4, if_pos h4]
      · rw [up2_cc σ j v (show 101 + 2 * ((i - 19) / 3) ≠ 101 + 2 * k by unfold pB at hq; omega)]
theorem pW_lt {k : Nat} (h : k < 16) : pW k < 67 := by unfold pW; omega
theorem pD_lt {k : Nat} (h : k < 16) : pD k < 67 := by unfold pD; omega
theorem pB_lt {k : Nat} (h : k < 16) : pB k < 67 := by unfold pB; omega
end KC
/-! THE REFERENCE'S CELLS: 0 the object, 1 .. 16 its arrays in the order of its fields -/
def cellR (cA : ClassId) (ad : Nat → Nat) (i : Nat) (σ : St) : va_E := match i with
  | 0 => .inr (5, [.int 0, .long (σ 0 3).toInt64, .ref (ad 1), .ref (ad 2), .ref (ad 3), .ref (ad 4), .int (σ 0 0), .int (σ 0 2), .ref (ad 5), .ref (ad 6), .int (σ 0 4), .ref (ad 7), .ref (ad 8), .ref (ad 9), .int (σ 0 5), .ref (ad 10), .ref (ad 11), .ref (ad 12), .ref (ad 13), .ref (ad 14), .ref (ad 15), .ref (ad 16), .int (σ 0 1)])
  | 1 => .inl (cA, 16, .inl (σ 1))
  | 2 => .inl (cA, 80, .inl (fun j => σ (100 + 2 * (j / 5)) (j % 5)))
  | 3 => .inl (cA, 16, .inl (σ 3))
  | 4 => .inl (cA, 16, .inl (σ 4))
  | 5 => .inl (cA, 4, .inl (σ 5))
  | 6 => .inl (cA, 16, .inl (σ 12))
  | 7 => .inl (cA, 8, .inl (σ 6))
  | 8 => .inl (cA, 256, .inl (σ 13))
  | 9 => .inl (cA, 256, .inl (σ 14))
  | 10 => .inl (cA, 20, .inl (σ 7))
  | 11 => .inl (cA, 20, .inl (σ 8))
  | 12 => .inl (cA, 20, .inl (σ 9))
  | 13 => .inl (cA, 16, .inl (σ 15))
  | 14 => .inl (cA, 16, .inl (σ 16))
  | 15 => .inl (cA, 16, .inl (σ 11))
  | 16 => .inl (cA, 80, .inl (fun j => σ (101 + 2 * (j / 5)) (j % 5)))
  | _ => .inl (cA, 0, .inl fun _ => 0)
section KR
variable {cA : ClassId} {ad : Nat → Nat} {σ : St}
theorem kR_0 : cellR cA ad 0 σ = .inr (5, [.int 0, .long (σ 0 3).toInt64, .ref (ad 1), .ref (ad 2), .ref (ad 3), .ref (ad 4), .int (σ 0 0), .int (σ 0 2), .ref (ad 5), .ref (ad 6), .int (σ 0 4), .ref (ad 7), .ref (ad 8), .ref (ad 9), .int (σ 0 5), .ref (ad 10), .ref (ad 11), .ref (ad 12), .ref (ad 13), .ref (ad 14), .ref (ad 15), .ref (ad 16), .int (σ 0 1)]) := rfl
theorem kR_1 : cellR cA ad 1 σ = .inl (cA, 16, .inl (σ 1)) := rfl
theorem kR_2 : cellR cA ad 2 σ = .inl (cA, 80, .inl (fun j => σ (100 + 2 * (j / 5)) (j % 5))) := rfl
theorem kR_3 : cellR cA ad 3 σ = .inl (cA, 16, .inl (σ 3)) := rfl
theorem kR_4 : cellR cA ad 4 σ = .inl (cA, 16, .inl (σ 4)) := rfl
theorem kR_5 : cellR cA ad 5 σ = .inl (cA, 4, .inl (σ 5)) := rfl
theorem kR_6 : cellR cA ad 6 σ = .inl (cA, 16, .inl (σ 12)) := rfl
theorem kR_7 : cellR cA ad 7 σ = .inl (cA, 8, .inl (σ 6)) := rfl
theorem kR_8 : cellR cA ad 8 σ = .inl (cA, 256, .inl (σ 13)) := rfl
theorem kR_9 : cellR cA ad 9 σ = .inl (cA, 256, .inl (σ 14)) := rfl
theorem kR_10 : cellR cA ad 10 σ = .inl (cA, 20, .inl (σ 7)) := rfl
theorem kR_11 : cellR cA ad 11 σ = .inl (cA, 20, .inl (σ 8)) := rfl
theorem kR_12 : cellR cA ad 12 σ = .inl (cA, 20, .inl (σ 9)) := rfl
theorem kR_13 : cellR cA ad 13 σ = .inl (cA, 16, .inl (σ 15)) := rfl
theorem kR_14 : cellR cA ad 14 σ = .inl (cA, 16, .inl (σ 16)) := rfl
theorem kR_15 : cellR cA ad 15 σ = .inl (cA, 16, .inl (σ 11)) := rfl
theorem kR_16 : cellR cA ad 16 σ = .inl (cA, 80, .inl (fun j => σ (101 + 2 * (j / 5)) (j % 5))) := rfl
def okR (i c : Nat) : Bool := match i with
  | 1 => !(c == 1)
  | 3 => !(c == 3)
  | 4 => !(c == 4)
  | 5 => !(c == 5)
  | 6 => !(c == 12)
  | 7 => !(c == 6)
  | 8 => !(c == 13)
  | 9 => !(c == 14)
  | 10 => !(c == 7)
  | 11 => !(c == 8)
  | 12 => !(c == 9)
  | 13 => !(c == 15)
  | 14 => !(c == 16)
  | 15 => !(c == 11)
  | 2 => decide (c < 100)
  | 16 => decide (c < 100)
  | _ => true
theorem cellR_upA {q c j : Nat} {v : Int32} (h0 : c ≠ 0) (h : ∀ i, i < 17 → i ≠ q → okR i c = true) : ∀ i, i < 17 → i ≠ q → cellR cA ad i (up2 σ c j v) = cellR cA ad i σ := by
  intro i hi hq
  have h := h i hi hq
  match i, hi with
  | 0, _ => simp only [cellR, up2_c σ j _ v (Ne.symm h0)]
  | 1, _ =>
    have e : 1 ≠ c := by intro e; subst e; simp [okR] at h
    simp only [cellR, up2_cc σ j v e]
  | 2, _ =>
    have e : c < 100 := by simpa [okR] using h
    have e2 : ∀ x : Nat, 100 + 2 * (x / 5) ≠ c := fun x => by omega
    simp only [cellR, up2_c σ j _ v (e2 _)]
  | 3, _ =>
    have e : 3 ≠ c := by intro e; subst e; simp [okR] at h
    simp only [cellR, up2_cc σ j v e]
  | 4, _ =>
    have e : 4 ≠ c := by intro e; subst e; simp [okR] at h
    simp only [cellR, up2_cc σ j v e]
  | 5, _ =>
    have e : 5 ≠ c := by intro e; subst e; simp [okR] at h
    simp only [cellR, up2_cc σ j v e]
  | 6, _ =>
    have e : 12 ≠ c := by intro e; subst e; simp [okR] at h
    simp only [cellR, up2_cc σ j v e]
  | 7, _ =>
    have e : 6 ≠ c := by intro e; subst e; simp [okR] at h
    simp only [cellR, up2_cc σ j v e]
  | 8, _ =>
    have e : 13 ≠ c := by intro e; subst e; simp [okR] at h
    simp only [cellR, up2_cc σ j v e]
  | 9, _ =>
    have e : 14 ≠ c := by intro e; subst e; simp [okR] at h
    simp only [cellR, up2_cc σ j v e]
  | 10, _ =>
    have e : 7 ≠ c := by intro e; subst e; simp [okR] at h
    simp only [cellR, up2_cc σ j v e]
  | 11, _ =>
    have e : 8 ≠ c := by intro e; subst e; simp [okR] at h
    simp only [cellR, up2_cc σ j v e]
  | 12, _ =>
    have e : 9 ≠ c := by intro e; subst e; simp [okR] at h
    simp only [cellR, up2_cc σ j v e]
  | 13, _ =>
    have e : 15 ≠ c := by intro e; subst e; simp [okR] at h
    simp only [cellR, up2_cc σ j v e]
  | 14, _ =>
    have e : 16 ≠ c := by intro e; subst e; simp [okR] at h
    simp only [cellR, up2_cc σ j v e]
  | 15, _ =>
    have e : 11 ≠ c := by intro e; subst e; simp [okR] at h
    simp only [cellR, up2_cc σ j v e]
  | 16, _ =>
    have e : c < 100 := by simpa [okR] using h
    have e2 : ∀ x : Nat, 101 + 2 * (x / 5) ≠ c := fun x => by omega
    simp only [cellR, up2_c σ j _ v (e2 _)]
  | z + 17, hz => exact absurd hz (by omega)
theorem cellR_up0 {j : Nat} {v : Int32} : ∀ i, i < 17 → i ≠ 0 → cellR cA ad i (up2 σ 0 j v) = cellR cA ad i σ := by
  intro i hi hq
  match i, hi with
  | 0, _ => exact absurd rfl hq
  | 1, _ => simp only [cellR, up2_cc σ j v (show 1 ≠ 0 by decide)]
  | 2, _ =>
    have e2 : ∀ x : Nat, 100 + 2 * (x / 5) ≠ 0 := fun x => by omega
    simp only [cellR, up2_c σ j _ v (e2 _)]
  | 3, _ => simp only [cellR, up2_cc σ j v (show 3 ≠ 0 by decide)]
  | 4, _ => simp only [cellR, up2_cc σ j v (show 4 ≠ 0 by decide)]
  | 5, _ => simp only [cellR, up2_cc σ j v (show 5 ≠ 0 by decide)]
  | 6, _ => simp only [cellR, up2_cc σ j v (show 12 ≠ 0 by decide)]
  | 7, _ => simp only [cellR, up2_cc σ j v (show 6 ≠ 0 by decide)]
  | 8, _ => simp only [cellR, up2_cc σ j v (show 13 ≠ 0 by decide)]
  | 9, _ => simp only [cellR, up2_cc σ j v (show 14 ≠ 0 by decide)]
  | 10, _ => simp only [cellR, up2_cc σ j v (show 7 ≠ 0 by decide)]
  | 11, _ => simp only [cellR, up2_cc σ j v (show 8 ≠ 0 by decide)]
  | 12, _ => simp only [cellR, up2_cc σ j v (show 9 ≠ 0 by decide)]
  | 13, _ => simp only [cellR, up2_cc σ j v (show 15 ≠ 0 by decide)]
  | 14, _ => simp only [cellR, up2_cc σ j v (show 16 ≠ 0 by decide)]
  | 15, _ => simp only [cellR, up2_cc σ j v (show 11 ≠ 0 by decide)]
  | 16, _ =>
    have e2 : ∀ x : Nat, 101 + 2 * (x / 5) ≠ 0 := fun x => by omega
    simp only [cellR, up2_c σ j _ v (e2 _)]
  | z + 17, hz => exact absurd hz (by omega)
theorem cellR_upD {k j : Nat} {v : Int32} (hk : k < 16) : ∀ i, i < 17 → i ≠ 2 → cellR cA ad i (up2 σ (100 + 2 * k) j v) = cellR cA ad i σ := by
  intro i hi hq
  match i, hi with
  | 0, _ => simp only [cellR, up2_c σ j _ v (show 0 ≠ 100 + 2 * k by omega)]
  | 1, _ => simp only [cellR, up2_cc σ j v (show 1 ≠ 100 + 2 * k by omega)]
  | 2, _ => exact absurd rfl hq
  | 3, _ => simp only [cellR, up2_cc σ j v (show 3 ≠ 100 + 2 * k by omega)]
  | 4, _ => simp only [cellR, up2_cc σ j v (show 4 ≠ 100 + 2 * k by omega)]
  | 5, _ => simp only [cellR, up2_cc σ j v (show 5 ≠ 100 + 2 * k by omega)]
  | 6, _ => simp only [cellR, up2_cc σ j v (show 12 ≠ 100 + 2 * k by omega)]
  | 7, _ => simp only [cellR, up2_cc σ j v (show 6 ≠ 100 + 2 * k by omega)]
  | 8, _ => simp only [cellR, up2_cc σ j v (show 13 ≠ 100 + 2 * k by omega)]
  | 9, _ => simp only [cellR, up2_cc σ j v (show 14 ≠ 100 + 2 * k by omega)]
  | 10, _ => simp only [cellR, up2_cc σ j v (show 7 ≠ 100 + 2 * k by omega)]
  | 11, _ => simp only [cellR, up2_cc σ j v (show 8 ≠ 100 + 2 * k by omega)]
  | 12, _ => simp only [cellR, up2_cc σ j v (show 9 ≠ 100 + 2 * k by omega)]
  | 13, _ => simp only [cellR, up2_cc σ j v (show 15 ≠ 100 + 2 * k by omega)]
  | 14, _ => simp only [cellR, up2_cc σ j v (show 16 ≠ 100 + 2 * k by omega)]
  | 15, _ => simp only [cellR, up2_cc σ j v (show 11 ≠ 100 + 2 * k by omega)]
  | 16, _ =>
    refine congrArg (fun f : Nat → Int32 => (Sum.inl (cA, 80, .inl f) : va_E)) ?_
    funext x
    by_cases hx : 101 + 2 * (x / 5) = 100 + 2 * k
    · omega
    · exact up2_c σ j _ v hx
  | z + 17, hz => exact absurd hz (by omega)
theorem kR_D {k j : Nat} {v : Int32} (hj : j < 5) : cellR cA ad 2 (up2 σ (100 + 2 * k) j v) = .inl (cA, 80, .inl (upd (fun x => σ (100 + 2 * (x / 5)) (x % 5)) (5 * k + j) v)) := by
  refine congrArg (fun f : Nat → Int32 => (Sum.inl (cA, 80, .inl f) : va_E)) ?_
  funext x
  by_cases hx : x = 5 * k + j
  · subst hx
    have e1 : 100 + 2 * ((5 * k + j) / 5) = 100 + 2 * k := by omega
    have e2 : (5 * k + j) % 5 = j := by omega
    show up2 σ (100 + 2 * k) j v (100 + 2 * ((5 * k + j) / 5)) ((5 * k + j) % 5) = _
    rw [e1, e2, up2_s]
    simp [upd]
  · show up2 σ (100 + 2 * k) j v (100 + 2 * (x / 5)) (x % 5) = _
    have e : ¬ (100 + 2 * (x / 5) = 100 + 2 * k ∧ x % 5 = j) := by omega
    simp only [up2, upd, if_neg e, if_neg hx]
theorem cellR_upB {k j : Nat} {v : Int32} (hk : k < 16) : ∀ i, i < 17 → i ≠ 16 → cellR cA ad i (up2 σ (101 + 2 * k) j v) = cellR cA ad i σ := by
  intro i hi hq
  match i, hi with
  | 0, _ => simp only [cellR, up2_c σ j _ v (show 0 ≠ 101 + 2 * k by omega)]
  | 1, _ => simp only [cellR, up2_cc σ j v (show 1 ≠ 101 + 2 * k by omega)]
  | 2, _ =>
    refine congrArg (fun f : Nat → Int32 => (Sum.inl (cA, 80, .inl f) : va_E)) ?_
    funext x
    by_cases hx : 100 + 2 * (x / 5) = 101 + 2 * k
    · omega
    · exact up2_c σ j _ v hx
  | 3, _ => simp only [cellR, up2_cc σ j v (show 3 ≠ 101 + 2 * k by omega)]
  | 4, _ => simp only [cellR, up2_cc σ j v (show 4 ≠ 101 + 2 * k by omega)]
  | 5, _ => simp only [cellR, up2_cc σ j v (show 5 ≠ 101 + 2 * k by omega)]
  | 6, _ => simp only [cellR, up2_cc σ j v (show 12 ≠ 101 + 2 * k by omega)]
  | 7, _ => simp only [cellR, up2_cc σ j v (show 6 ≠ 101 + 2 * k by omega)]
  | 8, _ => simp only [cellR, up2_cc σ j v (show 13 ≠ 101 + 2 * k by omega)]
  | 9, _ => simp only [cellR, up2_cc σ j v (show 14 ≠ 101 + 2 * k by omega)]
  | 10, _ => simp only [cellR, up2_cc σ j v (show 7 ≠ 101 + 2 * k by omega)]
  | 11, _ => simp only [cellR, up2_cc σ j v (show 8 ≠ 101 + 2 * k by omega)]
  | 12, _ => simp only [cellR, up2_cc σ j v (show 9 ≠ 101 + 2 * k by omega)]
  | 13, _ => simp only [cellR, up2_cc σ j v (show 15 ≠ 101 + 2 * k by omega)]
  | 14, _ => simp only [cellR, up2_cc σ j v (show 16 ≠ 101 + 2 * k by omega)]
  | 15, _ => simp only [cellR, up2_cc σ j v (show 11 ≠ 101 + 2 * k by omega)]
  | 16, _ => exact absurd rfl hq
  | z + 17, hz => exact absurd hz (by omega)
theorem kR_B {k j : Nat} {v : Int32} (hj : j < 5) : cellR cA ad 16 (up2 σ (101 + 2 * k) j v) = .inl (cA, 80, .inl (upd (fun x => σ (101 + 2 * (x / 5)) (x % 5)) (5 * k + j) v)) := by
  refine congrArg (fun f : Nat → Int32 => (Sum.inl (cA, 80, .inl f) : va_E)) ?_
  funext x
  by_cases hx : x = 5 * k + j
  · subst hx
    have e1 : 101 + 2 * ((5 * k + j) / 5) = 101 + 2 * k := by omega
    have e2 : (5 * k + j) % 5 = j := by omega
    show up2 σ (101 + 2 * k) j v (101 + 2 * ((5 * k + j) / 5)) ((5 * k + j) % 5) = _
    rw [e1, e2, up2_s]
    simp [upd]
  · show up2 σ (101 + 2 * k) j v (101 + 2 * (x / 5)) (x % 5) = _
    have e : ¬ (101 + 2 * (x / 5) = 101 + 2 * k ∧ x % 5 = j) := by omega
    simp only [up2, upd, if_neg e, if_neg hx]
end KR
