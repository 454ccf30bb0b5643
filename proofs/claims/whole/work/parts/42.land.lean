/-! the class's Land, at 1 (now) or 14 (trial) -/
def RLd (L : Nat) (σ : Sg) (A : St) : Prop := RCel (L + 6) σ A ∧ σ L 0 = nI (A 12 5) ∧ σ L 5 = nI (A 12 6) ∧ σ L 7 = nI (A 12 1) ∧ σ L 9 = nI (A 12 3) ∧ σ L 10 = nI (A 12 4) ∧ (∀ h, h < A 12 5 → σ (L + 1) h = nI (A 9 h) ∧ σ (L + 2) h = nI (A 7 h) ∧ σ (L + 3) h = nI (A 8 h)) ∧ ∀ k, k < A 12 6 → σ (L + 5) k = nI (A 10 k)
def WL (A : St) : Prop := WJ A ∧ A 12 5 ≤ 4 ∧ A 12 6 ≤ 8 ∧ A 12 3 ≤ 2 ∧ A 12 4 < 2 ^ 31 ∧ (∀ h, h < A 12 5 → A 9 h ≤ 99 ∧ A 7 h ≤ 20 ∧ A 8 h < 2 ^ 20) ∧ (∀ k, k < A 12 6 → A 10 k ≤ 99) ∧ ∀ j, j < A 12 0 → A 1 j < A 12 5
def harvA (A : St) (t : Nat) : Nat := if A 12 6 = 0 then 10 else A 10 (t % A 12 6)
def drA (s : Nat) : Nat := (s * 1103515245 + 12345) % 2147483648
theorem drA_lt (s : Nat) : drA s < 2 ^ 31 := Nat.mod_lt _ (by omega)
theorem RLd.cel {L : Nat} {σ : Sg} {A : St} (h : RLd L σ A) : RCel (L + 6) σ A := h.1
theorem RLd.fr {L : Nat} {σ σ' : Sg} {A : St} (h : RLd L σ A) (hf : ∀ c, L ≤ c → c ≤ L + 12 → c ≠ L + 4 → σ' c = σ c) : RLd L σ' A := by
  obtain ⟨h1, h2, h3, h4, h5, h6, h7, h8⟩ := h
  refine ⟨h1.fr (fun c a b => hf c (by omega) (by omega) (by omega)), ?_, ?_, ?_, ?_, ?_, fun k hk => ?_, fun k hk => ?_⟩
  · rw [hf L (by omega) (by omega) (by omega)]; exact h2
  · rw [hf L (by omega) (by omega) (by omega)]; exact h3
  · rw [hf L (by omega) (by omega) (by omega)]; exact h4
  · rw [hf L (by omega) (by omega) (by omega)]; exact h5
  · rw [hf L (by omega) (by omega) (by omega)]; exact h6
  · rw [hf (L + 1) (by omega) (by omega) (by omega), hf (L + 2) (by omega) (by omega) (by omega), hf (L + 3) (by omega) (by omega) (by omega)]; exact h7 k hk
  · rw [hf (L + 5) (by omega) (by omega) (by omega)]; exact h8 k hk
set_option maxRecDepth 100000 in
theorem s_hasHouse {σ : Sg} {L : Nat} {j : Int32} {Q : Option Value → Sg → Prop} (hb : L = 1 ∨ L = 14) (h : Q (some (.int (bI (0 ≤ j ∧ j < σ L 0)))) σ) : MetA mX4_hasHouse [.ref L, .int j] σ Q := by
  refine MetA_of qX4_hasHouse (Nat.le_of_ble_eq_true rfl) ?_
  refine wpB_sd (stops := []) kX4_hasHouse 20 _ _ _ _ ?_
  rcases hb with rfl | rfl <;>
  · refine ⟨fun h1 => ⟨Or.inl rfl, ?_⟩, fun h1 => ⟨fun h2 => ⟨Or.inl rfl, ?_⟩, fun h2 => ⟨Or.inr rfl, ?_⟩⟩⟩
    · exact fin_i h (bI_f (fun q => absurd h1 (Int32.not_lt.mpr q.1))).symm
    · exact fin_i h (bI_f (fun q => absurd h2 (Int32.not_le.mpr q.2))).symm
    · exact fin_i h (bI_t ⟨Int32.not_lt.mp h1, Int32.not_le.mp h2⟩).symm
set_option maxRecDepth 100000 in
theorem s_harvestOf {σ : Sg} {A : St} {L t : Nat} {Q : Option Value → Sg → Prop} (hb : L = 1 ∨ L = 14) (hR : RLd L σ A) (hW : WL A) (ht : t < 2 ^ 21) (h : Q (some (.int (nI (harvA A t)))) σ) : MetA mX4_harvestOf [.ref L, .int (nI t)] σ Q := by
  refine MetA_of qX4_harvestOf (Nat.le_of_ble_eq_true rfl) ?_
  refine wpB_sd (stops := []) kX4_harvestOf 30 _ _ _ _ ?_
  have h5 := hR.2.2.1
  have h8 := hR.2.2.2.2.2.2.2
  have hm := hW.2.2.1
  have e : 0 < A 12 6 → nI t - nI t / σ L 5 * σ L 5 = nI (t % A 12 6) := fun q => by rw [h5]; exact pk_rem (by omega) (by omega) (by omega)
  rcases hb with rfl | rfl <;>
  · refine ⟨fun g => ?_, fun g => ?_⟩
    · rw [h5] at g
      have g := (nI_ltI (b := 1) (by omega) (by omega)).mp g
      refine fin_i h ?_
      rw [harvA, if_pos (by omega)]; rfl
    · have g : ¬ A 12 6 < 1 := fun q => g (by rw [h5]; exact nI_lt (b := 1) q (by omega))
      refine br_t (nI_pos' (by omega)) ?_
      have hlt : t % A 12 6 < A 12 6 := Nat.mod_lt _ (by omega)
      refine ⟨by rw [h5]; exact nI_ne0 (by omega) (by omega), ?_⟩
      rw [e (by omega)]
      refine ⟨aok (n := 8) rfl rfl (by omega), nm_r (rdn (by omega) (h8 _ hlt)) ?_⟩
      refine fin_i h ?_
      rw [harvA, if_neg (by omega)]
theorem RLd_seed {L : Nat} {σ σ' : Sg} {A : St} {v : Nat} (h : RLd L σ A) (hf : ∀ c, c ≠ L → σ' c = σ c) (hk : ∀ k, k ≠ 10 → σ' L k = σ L k) (hv : σ' L 10 = nI v) : RLd L σ' (stu A 12 4 v) := by
  obtain ⟨h1, h2, h3, h4, h5, h6, h7, h8⟩ := h
  refine ⟨RCel.fr (σ := σ) ?_ (fun c a b => hf c (by omega)), ?_, ?_, ?_, ?_, ?_, ?_, ?_⟩
  · exact h1
  · rw [hk 0 (by omega)]; exact h2
  · rw [hk 5 (by omega)]; exact h3
  · rw [hk 7 (by omega)]; exact h4
  · rw [hk 9 (by omega)]; exact h5
  · rw [hv, stu_s]
  · intro k hk
    rw [hf _ (by omega), hf _ (by omega), hf _ (by omega)]
    exact h7 k hk
  · intro k hk
    rw [hf _ (by omega)]
    exact h8 k hk
set_option maxRecDepth 100000 in
theorem s_drawOf {σ : Sg} {A : St} {L n : Nat} {Q : Option Value → Sg → Prop} (hb : L = 1 ∨ L = 14) (hR : RLd L σ A) (hW : WL A) (hn : 1 ≤ n) (hn2 : n < 2 ^ 20) (h : ∀ σ', RLd L σ' (stu A 12 4 (drA (A 12 4))) → (∀ c, c ≠ L → σ' c = σ c) → (∀ k, k ≠ 10 → σ' L k = σ L k) → Q (some (.int (nI (drA (A 12 4) / 65536 % n)))) σ') : MetA mX4_drawOf [.ref L, .int (nI n)] σ Q := by
  refine MetA_of qX4_drawOf (Nat.le_of_ble_eq_true rfl) ?_
  refine wpB_sd (stops := []) kX4_drawOf 40 _ _ _ _ ?_
  have hs := hW.2.2.2.2.1
  have h10 := hR.2.2.2.2.2.1
  have hd := drA_lt (A 12 4)
  have e : (((σ L 10).toInt64 * 1103515245 + 12345) &&& 2147483647).toInt32 = nI (drA (A 12 4)) := by
    rw [h10, nI_l hs, fa_litL, fa_litL, lN_mul, lN_add, show (2147483647 : Int64) = lN (2 ^ 31 - 1) from rfl, fb_maskL, lN_i, drA]
  rcases hb with rfl | rfl <;>
  · refine br_t (nI_le (a := 1) hn (by omega)) ?_
    rw [e]
    refine ⟨by decide, ?_⟩
    rw [sgu_s]
    have e2 : nI (drA (A 12 4)) / 65536 = nI (drA (A 12 4) / 65536) := pk_div (d := 65536) hd (by omega) (by omega)
    have e3 : drA (A 12 4) / 65536 ≤ drA (A 12 4) := Nat.div_le_self _ _
    rw [e2]
    refine ⟨nI_ne0 (by omega) (by omega), ?_⟩
    rw [pk_rem (by omega) (by omega) (by omega)]
    refine h _ ?_ (fun c hc => sgu_c hc) (fun k hk => sgu_k hk)
    exact RLd_seed hR (fun c hc => sgu_c hc) (fun k hk => sgu_k hk) sgu_s
/-- what the house does next: opens a jar, or not -/
def nxA (A : St) (hh has : Nat) : Option Nat := if has < A 9 hh then ftoA A hh (A 12 3) (A 12 1) (A 12 0) else none
def eatL (hh : Nat) : Nat → St → Nat → St × Nat
  | 0, A, has => (A, has)
  | n + 1, A, has => match nxA A hh has with
    | none => (A, has)
    | some j => eatL hh n (stu A 6 j 1) (has + filA A j (A 12 1))
def eatS (A1 : St) (hh has : Nat) (op : Bool) : St := if op = false ∧ A1 9 hh < has ∧ 0 < A1 7 hh ∧ A1 12 0 < 24 then addA (stu A1 8 hh 0) 0 hh (A1 12 1 + A1 7 hh) (if 99 < has - A1 9 hh then 99 else has - A1 9 hh) 5 (A1 12 1) else stu A1 8 hh 0
def eatA (A : St) (hh harv : Nat) : St × Nat :=
  (eatS (eatL hh 24 A (harv + A 8 hh)).1 hh (eatL hh 24 A (harv + A 8 hh)).2 (nxA A hh (harv + A 8 hh)).isSome, A 9 hh - (eatL hh 24 A (harv + A 8 hh)).2)
/-- fields that eating leaves -/
theorem eatL_f (hh : Nat) : ∀ (n : Nat) (A : St) (has f k : Nat), f ≠ 6 → (eatL hh n A has).1 f k = A f k
  | 0, A, has, f, k, _ => rfl
  | n + 1, A, has, f, k, hf => by
    rw [eatL]
    cases nxA A hh has with
    | none => rfl
    | some j => dsimp only; rw [eatL_f hh n _ _ f k hf, stu_f hf]
theorem nxA_lt {A : St} {hh has j : Nat} (h : nxA A hh has = some j) : j < A 12 0 ∧ A 1 j = hh ∧ A 6 j = 0 := by
  unfold nxA at h
  split at h
  · have := ftoA_lt A hh _ _ _ j h; exact ⟨this.1, this.2.1, this.2.2.1⟩
  · cases h
theorem filA_le {A : St} (hW : WJ A) {j y : Nat} (hj : j < A 12 0) : filA A j y ≤ 198 := by
  obtain ⟨w0, w1, w2, w3, w4, w5, w6⟩ := hW.2.2 j hj
  unfold filA
  split
  · split <;> omega
  · split
    · split <;> omega
    · omega
theorem eatL_w (hh : Nat) : ∀ (n : Nat) (A : St) (has : Nat), WJ A → WJ (eatL hh n A has).1 ∧ has ≤ (eatL hh n A has).2 ∧ (eatL hh n A has).2 ≤ has + 198 * n
  | 0, A, has, h => ⟨h, Nat.le_refl _, by simp [eatL]⟩
  | n + 1, A, has, h => by
    rw [eatL]
    cases hn : nxA A hh has with
    | none => exact ⟨h, Nat.le_refl _, by dsimp only; omega⟩
    | some j =>
      dsimp only
      have hj := nxA_lt hn
      have hf := filA_le h (y := A 12 1) hj.1
      have := eatL_w hh n (stu A 6 j 1) (has + filA A j (A 12 1)) (WJ_g h (by omega))
      exact ⟨this.1, by omega, by omega⟩
theorem RLd_g {L : Nat} {σ σ' : Sg} {A : St} {j v : Nat} (h : RLd L σ A) (hc : RCel (L + 6) σ' (stu A 6 j v)) (hf : ∀ c, c ≠ L + 6 → σ' c = σ c) : RLd L σ' (stu A 6 j v) := by
  obtain ⟨h1, h2, h3, h4, h5, h6, h7, h8⟩ := h
  have hL := hf L (by omega)
  refine ⟨hc, ?_, ?_, ?_, ?_, ?_, fun k hk => ?_, fun k hk => ?_⟩
  · rw [hL]; exact h2
  · rw [hL]; exact h3
  · rw [hL]; exact h4
  · rw [hL]; exact h5
  · rw [hL]; exact h6
  · rw [hf (L + 1) (by omega), hf (L + 2) (by omega), hf (L + 3) (by omega)]; exact h7 k hk
  · rw [hf (L + 5) (by omega)]; exact h8 k hk
