/-! what a write makes of the state -/
section S7
variable {cA cB : ClassId} {ad : Nat → Nat} {σ : St}
theorem sC_00 {v : Int32} : cellC cA cB ad 0 (up2 σ 0 0 v) = .inr (4, ([.ref (ad 1), .ref (ad 3), .ref (ad 5), .ref (ad 10), .ref (ad 2), .int (σ 0 0), .int (σ 0 1), .int (σ 0 2), .long (σ 0 3).toInt64] : List Value).set 5 (.int v)) := by rw [kC_0]; simp [up2]
theorem oC_00 {v : Int32} : ∀ i, i < 67 → i ≠ 0 → cellC cA cB ad i (up2 σ 0 0 v) = cellC cA cB ad i σ := cellC_up0 (by decide)
theorem sC_01 {v : Int32} : cellC cA cB ad 0 (up2 σ 0 1 v) = .inr (4, ([.ref (ad 1), .ref (ad 3), .ref (ad 5), .ref (ad 10), .ref (ad 2), .int (σ 0 0), .int (σ 0 1), .int (σ 0 2), .long (σ 0 3).toInt64] : List Value).set 6 (.int v)) := by rw [kC_0]; simp [up2]
theorem oC_01 {v : Int32} : ∀ i, i < 67 → i ≠ 0 → cellC cA cB ad i (up2 σ 0 1 v) = cellC cA cB ad i σ := cellC_up0 (by decide)
theorem sC_02 {v : Int32} : cellC cA cB ad 0 (up2 σ 0 2 v) = .inr (4, ([.ref (ad 1), .ref (ad 3), .ref (ad 5), .ref (ad 10), .ref (ad 2), .int (σ 0 0), .int (σ 0 1), .int (σ 0 2), .long (σ 0 3).toInt64] : List Value).set 7 (.int v)) := by rw [kC_0]; simp [up2]
theorem oC_02 {v : Int32} : ∀ i, i < 67 → i ≠ 0 → cellC cA cB ad i (up2 σ 0 2 v) = cellC cA cB ad i σ := cellC_up0 (by decide)
theorem sC_04 {v : Int32} : cellC cA cB ad 5 (up2 σ 0 4 v) = .inr (2, ([.int (σ 0 4), .ref (ad 6), .ref (ad 7), .ref (ad 8), .ref (ad 9)] : List Value).set 0 (.int v)) := by rw [kC_5]; simp [up2]
theorem oC_04 {v : Int32} : ∀ i, i < 67 → i ≠ 5 → cellC cA cB ad i (up2 σ 0 4 v) = cellC cA cB ad i σ := cellC_up0 (by decide)
theorem sC_05 {v : Int32} : cellC cA cB ad 10 (up2 σ 0 5 v) = .inr (1, ([.int (σ 0 5), .ref (ad 11), .ref (ad 12), .ref (ad 13), .ref (ad 14), .ref (ad 15), .ref (ad 16), .ref (ad 17), .ref (ad 18)] : List Value).set 0 (.int v)) := by rw [kC_10]; simp [up2]
theorem oC_05 {v : Int32} : ∀ i, i < 67 → i ≠ 10 → cellC cA cB ad i (up2 σ 0 5 v) = cellC cA cB ad i σ := cellC_up0 (by decide)
theorem sC_03 {v : Int64} {x : Int32} (h : x.toInt64 = v) : cellC cA cB ad 0 (up2 σ 0 3 x) = .inr (4, ([.ref (ad 1), .ref (ad 3), .ref (ad 5), .ref (ad 10), .ref (ad 2), .int (σ 0 0), .int (σ 0 1), .int (σ 0 2), .long (σ 0 3).toInt64] : List Value).set 8 (.long v)) := by rw [kC_0]; simp [up2, h]
theorem oC_03 {v : Int32} : ∀ i, i < 67 → i ≠ 0 → cellC cA cB ad i (up2 σ 0 3 v) = cellC cA cB ad i σ := cellC_up0 (by decide)
theorem sR_00 {v : Int32} : cellR cA ad 0 (up2 σ 0 0 v) = .inr (5, ([.int 0, .long (σ 0 3).toInt64, .ref (ad 1), .ref (ad 2), .ref (ad 3), .ref (ad 4), .int (σ 0 0), .int (σ 0 2), .ref (ad 5), .ref (ad 6), .int (σ 0 4), .ref (ad 7), .ref (ad 8), .ref (ad 9), .int (σ 0 5), .ref (ad 10), .ref (ad 11), .ref (ad 12), .ref (ad 13), .ref (ad 14), .ref (ad 15), .ref (ad 16), .int (σ 0 1)] : List Value).set 6 (.int v)) := by rw [kR_0]; simp [up2]
theorem oR_00 {v : Int32} : ∀ i, i < 17 → i ≠ 0 → cellR cA ad i (up2 σ 0 0 v) = cellR cA ad i σ := cellR_up0
theorem sR_02 {v : Int32} : cellR cA ad 0 (up2 σ 0 2 v) = .inr (5, ([.int 0, .long (σ 0 3).toInt64, .ref (ad 1), .ref (ad 2), .ref (ad 3), .ref (ad 4), .int (σ 0 0), .int (σ 0 2), .ref (ad 5), .ref (ad 6), .int (σ 0 4), .ref (ad 7), .ref (ad 8), .ref (ad 9), .int (σ 0 5), .ref (ad 10), .ref (ad 11), .ref (ad 12), .ref (ad 13), .ref (ad 14), .ref (ad 15), .ref (ad 16), .int (σ 0 1)] : List Value).set 7 (.int v)) := by rw [kR_0]; simp [up2]
theorem oR_02 {v : Int32} : ∀ i, i < 17 → i ≠ 0 → cellR cA ad i (up2 σ 0 2 v) = cellR cA ad i σ := cellR_up0
theorem sR_04 {v : Int32} : cellR cA ad 0 (up2 σ 0 4 v) = .inr (5, ([.int 0, .long (σ 0 3).toInt64, .ref (ad 1), .ref (ad 2), .ref (ad 3), .ref (ad 4), .int (σ 0 0), .int (σ 0 2), .ref (ad 5), .ref (ad 6), .int (σ 0 4), .ref (ad 7), .ref (ad 8), .ref (ad 9), .int (σ 0 5), .ref (ad 10), .ref (ad 11), .ref (ad 12), .ref (ad 13), .ref (ad 14), .ref (ad 15), .ref (ad 16), .int (σ 0 1)] : List Value).set 10 (.int v)) := by rw [kR_0]; simp [up2]
theorem oR_04 {v : Int32} : ∀ i, i < 17 → i ≠ 0 → cellR cA ad i (up2 σ 0 4 v) = cellR cA ad i σ := cellR_up0
theorem sR_05 {v : Int32} : cellR cA ad 0 (up2 σ 0 5 v) = .inr (5, ([.int 0, .long (σ 0 3).toInt64, .ref (ad 1), .ref (ad 2), .ref (ad 3), .ref (ad 4), .int (σ 0 0), .int (σ 0 2), .ref (ad 5), .ref (ad 6), .int (σ 0 4), .ref (ad 7), .ref (ad 8), .ref (ad 9), .int (σ 0 5), .ref (ad 10), .ref (ad 11), .ref (ad 12), .ref (ad 13), .ref (ad 14), .ref (ad 15), .ref (ad 16), .int (σ 0 1)] : List Value).set 14 (.int v)) := by rw [kR_0]; simp [up2]
theorem oR_05 {v : Int32} : ∀ i, i < 17 → i ≠ 0 → cellR cA ad i (up2 σ 0 5 v) = cellR cA ad i σ := cellR_up0
theorem sR_01 {v : Int32} : cellR cA ad 0 (up2 σ 0 1 v) = .inr (5, ([.int 0, .long (σ 0 3).toInt64, .ref (ad 1), .ref (ad 2), .ref (ad 3), .ref (ad 4), .int (σ 0 0), .int (σ 0 2), .ref (ad 5), .ref (ad 6), .int (σ 0 4), .ref (ad 7), .ref (ad 8), .ref (ad 9), .int (σ 0 5), .ref (ad 10), .ref (ad 11), .ref (ad 12), .ref (ad 13), .ref (ad 14), .ref (ad 15), .ref (ad 16), .int (σ 0 1)] : List Value).set 22 (.int v)) := by rw [kR_0]; simp [up2]
theorem oR_01 {v : Int32} : ∀ i, i < 17 → i ≠ 0 → cellR cA ad i (up2 σ 0 1 v) = cellR cA ad i σ := cellR_up0
theorem sR_03 {v : Int64} {x : Int32} (h : x.toInt64 = v) : cellR cA ad 0 (up2 σ 0 3 x) = .inr (5, ([.int 0, .long (σ 0 3).toInt64, .ref (ad 1), .ref (ad 2), .ref (ad 3), .ref (ad 4), .int (σ 0 0), .int (σ 0 2), .ref (ad 5), .ref (ad 6), .int (σ 0 4), .ref (ad 7), .ref (ad 8), .ref (ad 9), .int (σ 0 5), .ref (ad 10), .ref (ad 11), .ref (ad 12), .ref (ad 13), .ref (ad 14), .ref (ad 15), .ref (ad 16), .int (σ 0 1)] : List Value).set 1 (.long v)) := by rw [kR_0]; simp [up2, h]
theorem oR_03 {v : Int32} : ∀ i, i < 17 → i ≠ 0 → cellR cA ad i (up2 σ 0 3 v) = cellR cA ad i σ := cellR_up0
theorem sR_th : cellR cA ad 0 σ = .inr (5, ([.int 0, .long (σ 0 3).toInt64, .ref (ad 1), .ref (ad 2), .ref (ad 3), .ref (ad 4), .int (σ 0 0), .int (σ 0 2), .ref (ad 5), .ref (ad 6), .int (σ 0 4), .ref (ad 7), .ref (ad 8), .ref (ad 9), .int (σ 0 5), .ref (ad 10), .ref (ad 11), .ref (ad 12), .ref (ad 13), .ref (ad 14), .ref (ad 15), .ref (ad 16), .int (σ 0 1)] : List Value).set 0 (.int 0)) := rfl
theorem oR_th : ∀ i, i < 17 → i ≠ 0 → cellR cA ad i σ = cellR cA ad i σ := fun _ _ _ => rfl
theorem sC_W1 (k : Nat) (v : Int32) : cellC cA cB ad (pW k) (up2 σ 1 k v) = .inr (3, ([.ref (ad (pD k)), .int (σ 1 k), .int (σ 3 k), .int (σ 4 k), .ref (ad (pB k)), .int (σ 21 k), .int (σ 22 k)] : List Value).set 1 (.int v)) := by rw [kC_W]; simp [up2]
theorem sC_W3 (k : Nat) (v : Int32) : cellC cA cB ad (pW k) (up2 σ 3 k v) = .inr (3, ([.ref (ad (pD k)), .int (σ 1 k), .int (σ 3 k), .int (σ 4 k), .ref (ad (pB k)), .int (σ 21 k), .int (σ 22 k)] : List Value).set 2 (.int v)) := by rw [kC_W]; simp [up2]
theorem sC_W4 (k : Nat) (v : Int32) : cellC cA cB ad (pW k) (up2 σ 4 k v) = .inr (3, ([.ref (ad (pD k)), .int (σ 1 k), .int (σ 3 k), .int (σ 4 k), .ref (ad (pB k)), .int (σ 21 k), .int (σ 22 k)] : List Value).set 3 (.int v)) := by rw [kC_W]; simp [up2]
theorem sC_W21 (k : Nat) (v : Int32) : cellC cA cB ad (pW k) (up2 σ 21 k v) = .inr (3, ([.ref (ad (pD k)), .int (σ 1 k), .int (σ 3 k), .int (σ 4 k), .ref (ad (pB k)), .int (σ 21 k), .int (σ 22 k)] : List Value).set 5 (.int v)) := by rw [kC_W]; simp [up2]
theorem sC_W22 (k : Nat) (v : Int32) : cellC cA cB ad (pW k) (up2 σ 22 k v) = .inr (3, ([.ref (ad (pD k)), .int (σ 1 k), .int (σ 3 k), .int (σ 4 k), .ref (ad (pB k)), .int (σ 21 k), .int (σ 22 k)] : List Value).set 6 (.int v)) := by rw [kC_W]; simp [up2]
theorem sC_D (k j : Nat) (v : Int32) : cellC cA cB ad (pD k) (up2 σ (100 + 2 * k) j v) = .inl (cA, 5, .inl (upd (σ (100 + 2 * k)) j v)) := by rw [kC_D, up2_u]
theorem sC_B (k j : Nat) (v : Int32) : cellC cA cB ad (pB k) (up2 σ (101 + 2 * k) j v) = .inl (cA, 5, .inl (upd (σ (101 + 2 * k)) j v)) := by rw [kC_B, up2_u]
theorem sC_a2 {j : Nat} {v : Int32} : cellC cA cB ad 2 (up2 σ 23 j v) = .inl (cA, 16, .inl (upd (σ 23) j v)) := by rw [kC_2, up2_u]
theorem oC_a2 {j : Nat} {v : Int32} : ∀ i, i < 67 → i ≠ 2 → cellC cA cB ad i (up2 σ 23 j v) = cellC cA cB ad i σ := cellC_upA (by decide) (by decide)
theorem sC_a4 {j : Nat} {v : Int32} : cellC cA cB ad 4 (up2 σ 5 j v) = .inl (cA, 4, .inl (upd (σ 5) j v)) := by rw [kC_4, up2_u]
theorem oC_a4 {j : Nat} {v : Int32} : ∀ i, i < 67 → i ≠ 4 → cellC cA cB ad i (up2 σ 5 j v) = cellC cA cB ad i σ := cellC_upA (by decide) (by decide)
theorem sC_a6 {j : Nat} {v : Int32} : cellC cA cB ad 6 (up2 σ 6 j v) = .inl (cA, 8, .inl (upd (σ 6) j v)) := by rw [kC_6, up2_u]
theorem oC_a6 {j : Nat} {v : Int32} : ∀ i, i < 67 → i ≠ 6 → cellC cA cB ad i (up2 σ 6 j v) = cellC cA cB ad i σ := cellC_upA (by decide) (by decide)
theorem sC_a7 {j : Nat} {v : Int32} : cellC cA cB ad 7 (up2 σ 24 j v) = .inl (cA, 8, .inl (upd (σ 24) j v)) := by rw [kC_7, up2_u]
theorem oC_a7 {j : Nat} {v : Int32} : ∀ i, i < 67 → i ≠ 7 → cellC cA cB ad i (up2 σ 24 j v) = cellC cA cB ad i σ := cellC_upA (by decide) (by decide)
theorem sC_a8 {j : Nat} {v : Int32} : cellC cA cB ad 8 (up2 σ 25 j v) = .inl (cA, 9, .inl (upd (σ 25) j v)) := by rw [kC_8, up2_u]
theorem oC_a8 {j : Nat} {v : Int32} : ∀ i, i < 67 → i ≠ 8 → cellC cA cB ad i (up2 σ 25 j v) = cellC cA cB ad i σ := cellC_upA (by decide) (by decide)
theorem sC_a9 {j : Nat} {v : Int32} : cellC cA cB ad 9 (up2 σ 26 j v) = .inl (cA, 9, .inl (upd (σ 26) j v)) := by rw [kC_9, up2_u]
theorem oC_a9 {j : Nat} {v : Int32} : ∀ i, i < 67 → i ≠ 9 → cellC cA cB ad i (up2 σ 26 j v) = cellC cA cB ad i σ := cellC_upA (by decide) (by decide)
theorem sC_a11 {j : Nat} {v : Int32} : cellC cA cB ad 11 (up2 σ 7 j v) = .inl (cA, 20, .inl (upd (σ 7) j v)) := by rw [kC_11, up2_u]
theorem oC_a11 {j : Nat} {v : Int32} : ∀ i, i < 67 → i ≠ 11 → cellC cA cB ad i (up2 σ 7 j v) = cellC cA cB ad i σ := cellC_upA (by decide) (by decide)
theorem sC_a12 {j : Nat} {v : Int32} : cellC cA cB ad 12 (up2 σ 8 j v) = .inl (cA, 20, .inl (upd (σ 8) j v)) := by rw [kC_12, up2_u]
theorem oC_a12 {j : Nat} {v : Int32} : ∀ i, i < 67 → i ≠ 12 → cellC cA cB ad i (up2 σ 8 j v) = cellC cA cB ad i σ := cellC_upA (by decide) (by decide)
theorem sC_a13 {j : Nat} {v : Int32} : cellC cA cB ad 13 (up2 σ 9 j v) = .inl (cA, 20, .inl (upd (σ 9) j v)) := by rw [kC_13, up2_u]
theorem oC_a13 {j : Nat} {v : Int32} : ∀ i, i < 67 → i ≠ 13 → cellC cA cB ad i (up2 σ 9 j v) = cellC cA cB ad i σ := cellC_upA (by decide) (by decide)
theorem sC_a14 {j : Nat} {v : Int32} : cellC cA cB ad 14 (up2 σ 27 j v) = .inl (cA, 16, .inl (upd (σ 27) j v)) := by rw [kC_14, up2_u]
theorem oC_a14 {j : Nat} {v : Int32} : ∀ i, i < 67 → i ≠ 14 → cellC cA cB ad i (up2 σ 27 j v) = cellC cA cB ad i σ := cellC_upA (by decide) (by decide)
theorem sC_a15 {j : Nat} {v : Int32} : cellC cA cB ad 15 (up2 σ 28 j v) = .inl (cA, 16, .inl (upd (σ 28) j v)) := by rw [kC_15, up2_u]
theorem oC_a15 {j : Nat} {v : Int32} : ∀ i, i < 67 → i ≠ 15 → cellC cA cB ad i (up2 σ 28 j v) = cellC cA cB ad i σ := cellC_upA (by decide) (by decide)
theorem sC_a16 {j : Nat} {v : Int32} : cellC cA cB ad 16 (up2 σ 29 j v) = .inl (cA, 16, .inl (upd (σ 29) j v)) := by rw [kC_16, up2_u]
theorem oC_a16 {j : Nat} {v : Int32} : ∀ i, i < 67 → i ≠ 16 → cellC cA cB ad i (up2 σ 29 j v) = cellC cA cB ad i σ := cellC_upA (by decide) (by decide)
theorem sC_a17 {j : Nat} {v : Int32} : cellC cA cB ad 17 (up2 σ 30 j v) = .inl (cA, 16, .inl (upd (σ 30) j v)) := by rw [kC_17, up2_u]
theorem oC_a17 {j : Nat} {v : Int32} : ∀ i, i < 67 → i ≠ 17 → cellC cA cB ad i (up2 σ 30 j v) = cellC cA cB ad i σ := cellC_upA (by decide) (by decide)
theorem sC_a18 {j : Nat} {v : Int32} : cellC cA cB ad 18 (up2 σ 31 j v) = .inl (cA, 16, .inl (upd (σ 31) j v)) := by rw [kC_18, up2_u]
theorem oC_a18 {j : Nat} {v : Int32} : ∀ i, i < 67 → i ≠ 18 → cellC cA cB ad i (up2 σ 31 j v) = cellC cA cB ad i σ := cellC_upA (by decide) (by decide)
theorem sR_a1 {j : Nat} {v : Int32} : cellR cA ad 1 (up2 σ 1 j v) = .inl (cA, 16, .inl (upd (σ 1) j v)) := by rw [kR_1, up2_u]
theorem oR_a1 {j : Nat} {v : Int32} : ∀ i, i < 17 → i ≠ 1 → cellR cA ad i (up2 σ 1 j v) = cellR cA ad i σ := cellR_upA (by decide) (by decide)
theorem sR_a3 {j : Nat} {v : Int32} : cellR cA ad 3 (up2 σ 3 j v) = .inl (cA, 16, .inl (upd (σ 3) j v)) := by rw [kR_3, up2_u]
theorem oR_a3 {j : Nat} {v : Int32} : ∀ i, i < 17 → i ≠ 3 → cellR cA ad i (up2 σ 3 j v) = cellR cA ad i σ := cellR_upA (by decide) (by decide)
theorem sR_a4 {j : Nat} {v : Int32} : cellR cA ad 4 (up2 σ 4 j v) = .inl (cA, 16, .inl (upd (σ 4) j v)) := by rw [kR_4, up2_u]
theorem oR_a4 {j : Nat} {v : Int32} : ∀ i, i < 17 → i ≠ 4 → cellR cA ad i (up2 σ 4 j v) = cellR cA ad i σ := cellR_upA (by decide) (by decide)
theorem sR_a5 {j : Nat} {v : Int32} : cellR cA ad 5 (up2 σ 5 j v) = .inl (cA, 4, .inl (upd (σ 5) j v)) := by rw [kR_5, up2_u]
theorem oR_a5 {j : Nat} {v : Int32} : ∀ i, i < 17 → i ≠ 5 → cellR cA ad i (up2 σ 5 j v) = cellR cA ad i σ := cellR_upA (by decide) (by decide)
theorem sR_a6 {j : Nat} {v : Int32} : cellR cA ad 6 (up2 σ 12 j v) = .inl (cA, 16, .inl (upd (σ 12) j v)) := by rw [kR_6, up2_u]
theorem oR_a6 {j : Nat} {v : Int32} : ∀ i, i < 17 → i ≠ 6 → cellR cA ad i (up2 σ 12 j v) = cellR cA ad i σ := cellR_upA (by decide) (by decide)
theorem sR_a7 {j : Nat} {v : Int32} : cellR cA ad 7 (up2 σ 6 j v) = .inl (cA, 8, .inl (upd (σ 6) j v)) := by rw [kR_7, up2_u]
theorem oR_a7 {j : Nat} {v : Int32} : ∀ i, i < 17 → i ≠ 7 → cellR cA ad i (up2 σ 6 j v) = cellR cA ad i σ := cellR_upA (by decide) (by decide)
theorem sR_a8 {j : Nat} {v : Int32} : cellR cA ad 8 (up2 σ 13 j v) = .inl (cA, 256, .inl (upd (σ 13) j v)) := by rw [kR_8, up2_u]
theorem oR_a8 {j : Nat} {v : Int32} : ∀ i, i < 17 → i ≠ 8 → cellR cA ad i (up2 σ 13 j v) = cellR cA ad i σ := cellR_upA (by decide) (by decide)
theorem sR_a9 {j : Nat} {v : Int32} : cellR cA ad 9 (up2 σ 14 j v) = .inl (cA, 256, .inl (upd (σ 14) j v)) := by rw [kR_9, up2_u]
theorem oR_a9 {j : Nat} {v : Int32} : ∀ i, i < 17 → i ≠ 9 → cellR cA ad i (up2 σ 14 j v) = cellR cA ad i σ := cellR_upA (by decide) (by decide)
theorem sR_a10 {j : Nat} {v : Int32} : cellR cA ad 10 (up2 σ 7 j v) = .inl (cA, 20, .inl (upd (σ 7) j v)) := by rw [kR_10, up2_u]
theorem oR_a10 {j : Nat} {v : Int32} : ∀ i, i < 17 → i ≠ 10 → cellR cA ad i (up2 σ 7 j v) = cellR cA ad i σ := cellR_upA (by decide) (by decide)
theorem sR_a11 {j : Nat} {v : Int32} : cellR cA ad 11 (up2 σ 8 j v) = .inl (cA, 20, .inl (upd (σ 8) j v)) := by rw [kR_11, up2_u]
theorem oR_a11 {j : Nat} {v : Int32} : ∀ i, i < 17 → i ≠ 11 → cellR cA ad i (up2 σ 8 j v) = cellR cA ad i σ := cellR_upA (by decide) (by decide)
theorem sR_a12 {j : Nat} {v : Int32} : cellR cA ad 12 (up2 σ 9 j v) = .inl (cA, 20, .inl (upd (σ 9) j v)) := by rw [kR_12, up2_u]
theorem oR_a12 {j : Nat} {v : Int32} : ∀ i, i < 17 → i ≠ 12 → cellR cA ad i (up2 σ 9 j v) = cellR cA ad i σ := cellR_upA (by decide) (by decide)
theorem sR_a13 {j : Nat} {v : Int32} : cellR cA ad 13 (up2 σ 15 j v) = .inl (cA, 16, .inl (upd (σ 15) j v)) := by rw [kR_13, up2_u]
theorem oR_a13 {j : Nat} {v : Int32} : ∀ i, i < 17 → i ≠ 13 → cellR cA ad i (up2 σ 15 j v) = cellR cA ad i σ := cellR_upA (by decide) (by decide)
theorem sR_a14 {j : Nat} {v : Int32} : cellR cA ad 14 (up2 σ 16 j v) = .inl (cA, 16, .inl (upd (σ 16) j v)) := by rw [kR_14, up2_u]
theorem oR_a14 {j : Nat} {v : Int32} : ∀ i, i < 17 → i ≠ 14 → cellR cA ad i (up2 σ 16 j v) = cellR cA ad i σ := cellR_upA (by decide) (by decide)
theorem sR_a15 {j : Nat} {v : Int32} : cellR cA ad 15 (up2 σ 11 j v) = .inl (cA, 16, .inl (upd (σ 11) j v)) := by rw [kR_15, up2_u]
theorem oR_a15 {j : Nat} {v : Int32} : ∀ i, i < 17 → i ≠ 15 → cellR cA ad i (up2 σ 11 j v) = cellR cA ad i σ := cellR_upA (by decide) (by decide)
theorem rDB (b : Nat) {k j : Nat} (h : j < 5) : σ (b + 2 * ((5 * k + j) / 5)) ((5 * k + j) % 5) = σ (b + 2 * k) j := by
  rw [show (5 * k + j) / 5 = k by omega, show (5 * k + j) % 5 = j by omega]
end S7
theorem iinc1 (k : Nat) : nI k + Int32.ofInt 1 = nI (k + 1) := nI_1 k
theorem iincx (x : Int32) : x + Int32.ofInt 1 = x + 1 := rfl
/-! numbers that are told -/
abbrev isW (w : Int32) : Prop := 0 ≤ w ∧ w ≤ 15
def wn (w : Int32) : Nat := w.toNatClampNeg
abbrev inR (v a b : Int32) : Prop := a ≤ v ∧ v ≤ b
theorem isW_nI {k : Nat} (h : k < 16) : isW (nI k) := ⟨nI_pos' (by omega), nI_le (a := k) (b := 15) (by omega) (by omega)⟩
theorem isW_of {w : Int32} (h : isW w) : ∃ k : Nat, k < 16 ∧ w = nI k := by
  obtain ⟨j, h1, h2⟩ := nI_ofR (n := 15) h.1 h.2 (by omega)
  exact ⟨j, by omega, h2⟩
theorem inR_of {w : Int32} {n : Nat} (hn : n < 2 ^ 31) (h : inR w 0 (nI n)) : ∃ k : Nat, k ≤ n ∧ w = nI k := nI_ofR h.1 h.2 hn
theorem inR_nI {k n : Nat} (h : k ≤ n) (hn : n < 2 ^ 31) : inR (nI k) 0 (nI n) := ⟨nI_pos' (by omega), nI_le h hn⟩
theorem nI_eq0 {k : Nat} (h : k < 2 ^ 31) : nI k = 0 ↔ k = 0 := nI_eq (b := 0) h (by omega)
theorem nI_le0 {k : Nat} (h : k < 2 ^ 31) : nI k ≤ 0 ↔ k = 0 := (nI_leI (b := 0) h (by omega)).trans (by omega)
theorem i32_nle {x y : Int32} (h : x < y) : ¬ y ≤ x := by rw [i32_lt] at h; rw [i32_le]; omega
theorem i32_nlt {x y : Int32} (h : ¬ x < y) : y ≤ x := by rw [i32_lt] at h; rw [i32_le]; omega
theorem sw_cases {n : Nat} (hn : n < 2 ^ 31) (x : Int32) : (∃ j : Nat, j ≤ n ∧ x = nI j) ∨ (x.toInt < 0 ∨ (n : Int) < x.toInt) := by
  by_cases h : x.toInt < 0 ∨ (n : Int) < x.toInt
  · exact Or.inr h
  · refine Or.inl (nI_ofR ?_ ?_ hn)
    · rw [i32_le, Int32.toInt_zero]; omega
    · rw [i32_le, nI_toInt hn]; omega
theorem wn_nI {k : Nat} (h : k < 2 ^ 31) : wn (nI k) = k := nI_clamp h
