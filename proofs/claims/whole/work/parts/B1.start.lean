/-! the start of the two worlds -/
def sg0 : Sg := sgu (sgu (sgu (sgu (fun _ _ => 0) 55 4 (-1)) 89 17 (-1)) 89 3 1) 92 0 10
def adL (u v ka : Nat → Nat) : Nat → Nat := fun k => if k < 89 then (if 60 ≤ k ∧ k < 73 then u 59 + 1 + (k - 60) else u k) else if k < 104 then v (k - 89) else ka (k - 1000)
theorem adL_s {u v ka : Nat → Nat} {i : Nat} : adL u v ka (1000 + i) = ka i := by
  unfold adL
  rw [if_neg (by omega), if_neg (by omega)]
  rw [Nat.add_sub_cancel_left]
theorem adL_r {u v ka : Nat → Nat} {i : Nat} (h : i < 13) : adL u v ka (60 + 1 * i) = u 59 + 1 + i := by
  unfold adL
  rw [if_pos (by omega), if_pos (by omega)]
  omega
set_option maxRecDepth 100000 in
theorem adL_at {cy : Nat → ClassId} {u v ka : Nat → Nat} : ∀ k, k < 104 → ∃ e, (wX7 cy u ++ wX8 cy v)[k]? = some (adL u v ka k, e)
  | 0, _ => ⟨_, rfl⟩
  | 1, _ => ⟨_, rfl⟩
  | 2, _ => ⟨_, rfl⟩
  | 3, _ => ⟨_, rfl⟩
  | 4, _ => ⟨_, rfl⟩
  | 5, _ => ⟨_, rfl⟩
  | 6, _ => ⟨_, rfl⟩
  | 7, _ => ⟨_, rfl⟩
  | 8, _ => ⟨_, rfl⟩
  | 9, _ => ⟨_, rfl⟩
  | 10, _ => ⟨_, rfl⟩
  | 11, _ => ⟨_, rfl⟩
  | 12, _ => ⟨_, rfl⟩
  | 13, _ => ⟨_, rfl⟩
  | 14, _ => ⟨_, rfl⟩
  | 15, _ => ⟨_, rfl⟩
  | 16, _ => ⟨_, rfl⟩
  | 17, _ => ⟨_, rfl⟩
  | 18, _ => ⟨_, rfl⟩
  | 19, _ => ⟨_, rfl⟩
  | 20, _ => ⟨_, rfl⟩
  | 21, _ => ⟨_, rfl⟩
  | 22, _ => ⟨_, rfl⟩
  | 23, _ => ⟨_, rfl⟩
  | 24, _ => ⟨_, rfl⟩
  | 25, _ => ⟨_, rfl⟩
  | 26, _ => ⟨_, rfl⟩
  | 27, _ => ⟨_, rfl⟩
  | 28, _ => ⟨_, rfl⟩
  | 29, _ => ⟨_, rfl⟩
  | 30, _ => ⟨_, rfl⟩
  | 31, _ => ⟨_, rfl⟩
  | 32, _ => ⟨_, rfl⟩
  | 33, _ => ⟨_, rfl⟩
  | 34, _ => ⟨_, rfl⟩
  | 35, _ => ⟨_, rfl⟩
  | 36, _ => ⟨_, rfl⟩
  | 37, _ => ⟨_, rfl⟩
  | 38, _ => ⟨_, rfl⟩
  | 39, _ => ⟨_, rfl⟩
  | 40, _ => ⟨_, rfl⟩
  | 41, _ => ⟨_, rfl⟩
  | 42, _ => ⟨_, rfl⟩
  | 43, _ => ⟨_, rfl⟩
  | 44, _ => ⟨_, rfl⟩
  | 45, _ => ⟨_, rfl⟩
  | 46, _ => ⟨_, rfl⟩
  | 47, _ => ⟨_, rfl⟩
  | 48, _ => ⟨_, rfl⟩
  | 49, _ => ⟨_, rfl⟩
  | 50, _ => ⟨_, rfl⟩
  | 51, _ => ⟨_, rfl⟩
  | 52, _ => ⟨_, rfl⟩
  | 53, _ => ⟨_, rfl⟩
  | 54, _ => ⟨_, rfl⟩
  | 55, _ => ⟨_, rfl⟩
  | 56, _ => ⟨_, rfl⟩
  | 57, _ => ⟨_, rfl⟩
  | 58, _ => ⟨_, rfl⟩
  | 59, _ => ⟨_, rfl⟩
  | 60, _ => ⟨_, rfl⟩
  | 61, _ => ⟨_, rfl⟩
  | 62, _ => ⟨_, rfl⟩
  | 63, _ => ⟨_, rfl⟩
  | 64, _ => ⟨_, rfl⟩
  | 65, _ => ⟨_, rfl⟩
  | 66, _ => ⟨_, rfl⟩
  | 67, _ => ⟨_, rfl⟩
  | 68, _ => ⟨_, rfl⟩
  | 69, _ => ⟨_, rfl⟩
  | 70, _ => ⟨_, rfl⟩
  | 71, _ => ⟨_, rfl⟩
  | 72, _ => ⟨_, rfl⟩
  | 73, _ => ⟨_, rfl⟩
  | 74, _ => ⟨_, rfl⟩
  | 75, _ => ⟨_, rfl⟩
  | 76, _ => ⟨_, rfl⟩
  | 77, _ => ⟨_, rfl⟩
  | 78, _ => ⟨_, rfl⟩
  | 79, _ => ⟨_, rfl⟩
  | 80, _ => ⟨_, rfl⟩
  | 81, _ => ⟨_, rfl⟩
  | 82, _ => ⟨_, rfl⟩
  | 83, _ => ⟨_, rfl⟩
  | 84, _ => ⟨_, rfl⟩
  | 85, _ => ⟨_, rfl⟩
  | 86, _ => ⟨_, rfl⟩
  | 87, _ => ⟨_, rfl⟩
  | 88, _ => ⟨_, rfl⟩
  | 89, _ => ⟨_, rfl⟩
  | 90, _ => ⟨_, rfl⟩
  | 91, _ => ⟨_, rfl⟩
  | 92, _ => ⟨_, rfl⟩
  | 93, _ => ⟨_, rfl⟩
  | 94, _ => ⟨_, rfl⟩
  | 95, _ => ⟨_, rfl⟩
  | 96, _ => ⟨_, rfl⟩
  | 97, _ => ⟨_, rfl⟩
  | 98, _ => ⟨_, rfl⟩
  | 99, _ => ⟨_, rfl⟩
  | 100, _ => ⟨_, rfl⟩
  | 101, _ => ⟨_, rfl⟩
  | 102, _ => ⟨_, rfl⟩
  | 103, _ => ⟨_, rfl⟩
  | n + 104, h => absurd h (by omega)
set_option maxRecDepth 100000 in
set_option maxHeartbeats 4000000 in
theorem cells_0 {D : va_G} {cy : Nat → ClassId} {u v ka : Nat → Nat} {H : Heap} (hP : va_P D vwCl (wX7 cy u ++ wX8 cy v) H) : ∀ k, k < 104 → va_at D vwCl (adL u v ka k, cellE (adL u v ka) cy sg0 k) H
  | 0, _ => hP 0 _ rfl
  | 1, _ => hP 1 _ rfl
  | 2, _ => hP 2 _ rfl
  | 3, _ => hP 3 _ rfl
  | 4, _ => hP 4 _ rfl
  | 5, _ => hP 5 _ rfl
  | 6, _ => hP 6 _ rfl
  | 7, _ => hP 7 _ rfl
  | 8, _ => hP 8 _ rfl
  | 9, _ => hP 9 _ rfl
  | 10, _ => hP 10 _ rfl
  | 11, _ => hP 11 _ rfl
  | 12, _ => hP 12 _ rfl
  | 13, _ => hP 13 _ rfl
  | 14, _ => hP 14 _ rfl
  | 15, _ => hP 15 _ rfl
  | 16, _ => hP 16 _ rfl
  | 17, _ => hP 17 _ rfl
  | 18, _ => hP 18 _ rfl
  | 19, _ => hP 19 _ rfl
  | 20, _ => hP 20 _ rfl
  | 21, _ => hP 21 _ rfl
  | 22, _ => hP 22 _ rfl
  | 23, _ => hP 23 _ rfl
  | 24, _ => hP 24 _ rfl
  | 25, _ => hP 25 _ rfl
  | 26, _ => hP 26 _ rfl
  | 27, _ => by
    have h : H[u 27]? = some (arrV (cy 4) 2 (fun j => va_rf (va_up (va_up (fun _ => none) 0 (some (u 28))) 1 (some (u 41)) j))) := hP 27 _ rfl
    rw [arrV_cg (g := fun j => va_rf (some (adL u v ka (28 + 13 * j)))) (fun j hj => by
      rcases (show j = 0 ∨ j = 1 by omega) with rfl | rfl <;> rfl)] at h
    exact h
  | 28, _ => hP 28 _ rfl
  | 29, _ => hP 29 _ rfl
  | 30, _ => hP 30 _ rfl
  | 31, _ => hP 31 _ rfl
  | 32, _ => hP 32 _ rfl
  | 33, _ => hP 33 _ rfl
  | 34, _ => hP 34 _ rfl
  | 35, _ => hP 35 _ rfl
  | 36, _ => hP 36 _ rfl
  | 37, _ => hP 37 _ rfl
  | 38, _ => hP 38 _ rfl
  | 39, _ => hP 39 _ rfl
  | 40, _ => hP 40 _ rfl
  | 41, _ => hP 41 _ rfl
  | 42, _ => hP 42 _ rfl
  | 43, _ => hP 43 _ rfl
  | 44, _ => hP 44 _ rfl
  | 45, _ => hP 45 _ rfl
  | 46, _ => hP 46 _ rfl
  | 47, _ => hP 47 _ rfl
  | 48, _ => hP 48 _ rfl
  | 49, _ => hP 49 _ rfl
  | 50, _ => hP 50 _ rfl
  | 51, _ => hP 51 _ rfl
  | 52, _ => hP 52 _ rfl
  | 53, _ => hP 53 _ rfl
  | 54, _ => hP 54 _ rfl
  | 55, _ => hP 55 _ rfl
  | 56, _ => hP 56 _ rfl
  | 57, _ => hP 57 _ rfl
  | 58, _ => hP 58 _ rfl
  | 59, _ => by
    have h : H[u 59]? = some (arrV (cy 5) 13 (fun j => va_rf (some (u 59 + 1 + j)))) := hP 59 _ rfl
    rw [arrV_cg (g := fun j => va_rf (some (adL u v ka (60 + 1 * j)))) (fun j hj => by rw [adL_r hj])] at h
    exact h
  | 60, _ => hP 60 _ rfl
  | 61, _ => hP 61 _ rfl
  | 62, _ => hP 62 _ rfl
  | 63, _ => hP 63 _ rfl
  | 64, _ => hP 64 _ rfl
  | 65, _ => hP 65 _ rfl
  | 66, _ => hP 66 _ rfl
  | 67, _ => hP 67 _ rfl
  | 68, _ => hP 68 _ rfl
  | 69, _ => hP 69 _ rfl
  | 70, _ => hP 70 _ rfl
  | 71, _ => hP 71 _ rfl
  | 72, _ => hP 72 _ rfl
  | 73, _ => hP 73 _ rfl
  | 74, _ => hP 74 _ rfl
  | 75, _ => hP 75 _ rfl
  | 76, _ => hP 76 _ rfl
  | 77, _ => hP 77 _ rfl
  | 78, _ => hP 78 _ rfl
  | 79, _ => hP 79 _ rfl
  | 80, _ => hP 80 _ rfl
  | 81, _ => hP 81 _ rfl
  | 82, _ => hP 82 _ rfl
  | 83, _ => hP 83 _ rfl
  | 84, _ => hP 84 _ rfl
  | 85, _ => hP 85 _ rfl
  | 86, _ => hP 86 _ rfl
  | 87, _ => hP 87 _ rfl
  | 88, _ => hP 88 _ rfl
  | 89, _ => hP 89 _ rfl
  | 90, _ => hP 90 _ rfl
  | 91, _ => hP 91 _ rfl
  | 92, _ => hP 92 _ rfl
  | 93, _ => hP 93 _ rfl
  | 94, _ => hP 94 _ rfl
  | 95, _ => hP 95 _ rfl
  | 96, _ => hP 96 _ rfl
  | 97, _ => hP 97 _ rfl
  | 98, _ => hP 98 _ rfl
  | 99, _ => hP 99 _ rfl
  | 100, _ => hP 100 _ rfl
  | 101, _ => hP 101 _ rfl
  | 102, _ => hP 102 _ rfl
  | 103, _ => hP 103 _ rfl
  | n + 104, h => absurd h (by omega)
theorem cells_P {D : va_G} {cy : Nat → ClassId} {u v ka : Nat → Nat} {H : Heap} (hP : va_P D vwCl (wX7 cy u ++ wX8 cy v) H) : va_P D vwCl (cellsA (adL u v ka) cy sg0) H := fun k q hk => by
  obtain ⟨h1, rfl⟩ := cells_inv hk
  exact cells_0 hP k h1
theorem cells_I {cy : Nat → ClassId} {u v ka : Nat → Nat} {A : Nat → Prop} (hD : va_D A (wX7 cy u ++ wX8 cy v)) : InjA (adL u v ka) ∧ ∀ q, AA (adL u v ka) q → A q := by
  refine ⟨fun i j hi hj e => ?_, fun q hq => ?_⟩
  · obtain ⟨e1, h1⟩ := adL_at (cy := cy) (u := u) (v := v) (ka := ka) i hi
    obtain ⟨e2, h2⟩ := adL_at (cy := cy) (u := u) (v := v) (ka := ka) j hj
    exact hD.1 i j _ _ h1 h2 e
  · obtain ⟨k, hk, rfl⟩ := hq
    obtain ⟨e1, h1⟩ := adL_at (cy := cy) (u := u) (v := v) (ka := ka) k hk
    exact hD.2 k _ h1
/-- at the start nothing is told -/
theorem Inv_0 : Inv 0 sg0 := by
  have z : ∀ c k, ¬ (c = 55 ∧ k = 4) → ¬ (c = 89 ∧ k = 17) → ¬ (c = 89 ∧ k = 3) → ¬ (c = 92 ∧ k = 0) → sg0 c k = 0 := fun c k h1 h2 h3 h4 => by
    unfold sg0
    rw [sgu_at, if_neg h4, sgu_at, if_neg h3, sgu_at, if_neg h2, sgu_at, if_neg h1]
  refine ⟨fun _ _ => 0, fun _ _ => 0, fun _ => false, fun _ _ _ => 0, 0, fun _ => 0, fun _ => 0, 0, -1, ?_, ?_, ?_⟩
  · refine ⟨⟨⟨⟨z _ _ (by omega) (by omega) (by omega) (by omega), z _ _ (by omega) (by omega) (by omega) (by omega), fun j hj => absurd hj (Nat.not_lt_zero j)⟩, z _ _ (by omega) (by omega) (by omega) (by omega), z _ _ (by omega) (by omega) (by omega) (by omega), z _ _ (by omega) (by omega) (by omega) (by omega), z _ _ (by omega) (by omega) (by omega) (by omega), z _ _ (by omega) (by omega) (by omega) (by omega), fun j hj => absurd hj (Nat.not_lt_zero j), fun j hj => absurd hj (Nat.not_lt_zero j)⟩, z _ _ (by omega) (by omega) (by omega) (by omega)⟩, ⟨z _ _ (by omega) (by omega) (by omega) (by omega), fun j hj => absurd hj (Nat.not_lt_zero j), z _ _ (by omega) (by omega) (by omega) (by omega), fun j hj => absurd hj (Nat.not_lt_zero j)⟩, ⟨z _ _ (by omega) (by omega) (by omega) (by omega), by omega, fun j hj => absurd hj (Nat.not_lt_zero j), fun j hj => absurd hj (Nat.not_lt_zero j)⟩, rfl, fun k hk => ⟨z _ _ (by omega) (by omega) (by omega) (by omega), fun q => by simp at q⟩⟩
  · refine ⟨⟨⟨z _ _ (by omega) (by omega) (by omega) (by omega), z _ _ (by omega) (by omega) (by omega) (by omega), z _ _ (by omega) (by omega) (by omega) (by omega), z _ _ (by omega) (by omega) (by omega) (by omega), fun j hj => absurd hj (Nat.not_lt_zero j), fun j hj => absurd hj (Nat.not_lt_zero j)⟩, ⟨z _ _ (by omega) (by omega) (by omega) (by omega), fun j hj => absurd hj (Nat.not_lt_zero j), fun _ => ⟨rfl, rfl⟩, fun q => absurd q (Nat.lt_irrefl 0)⟩, z _ _ (by omega) (by omega) (by omega) (by omega)⟩, ⟨z _ _ (by omega) (by omega) (by omega) (by omega), fun j hj => absurd hj (Nat.not_lt_zero j), z _ _ (by omega) (by omega) (by omega) (by omega), fun j hj => absurd hj (Nat.not_lt_zero j)⟩, ⟨z _ _ (by omega) (by omega) (by omega) (by omega), by omega, fun j hj => absurd hj (Nat.not_lt_zero j), fun j hj => absurd hj (Nat.not_lt_zero j)⟩, rfl, fun k hk => ⟨z _ _ (by omega) (by omega) (by omega) (by omega), fun q => by simp at q⟩⟩
  · exact ⟨⟨⟨Nat.zero_le _, by decide, fun j hj => absurd hj (Nat.not_lt_zero j)⟩, Nat.zero_le _, Nat.zero_le _, Nat.zero_le _, by decide, fun j hj => absurd hj (Nat.not_lt_zero j), fun j hj => absurd hj (Nat.not_lt_zero j), fun j hj => absurd hj (Nat.not_lt_zero j)⟩, ⟨Nat.zero_le _, Nat.zero_le _, fun j hj => absurd hj (Nat.not_lt_zero j), fun j hj => absurd hj (Nat.not_lt_zero j)⟩, by omega, ⟨Nat.zero_le _, fun j hj => absurd hj (Nat.not_lt_zero j)⟩, fun k hk q => by simp at q⟩
