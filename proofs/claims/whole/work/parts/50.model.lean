/-! the reference: its leaves -/
def RMg (σ : Sg) (A : St) : Prop := σ 89 7 = nI (A 12 5) ∧ (∀ h, h < A 12 5 → σ 93 h = nI (A 9 h)) ∧ (A 12 6 = 0 → σ 89 3 = nI 1 ∧ σ 92 0 = nI 10) ∧ (0 < A 12 6 → σ 89 3 = nI (A 12 6) ∧ ∀ k, k < A 12 6 → σ 92 k = nI (A 10 k))
def RMr (x : Nat) (σ : Sg) (A : St) : Prop := σ 90 (x + 176) = nI (A 12 0) ∧ σ 90 (x + 177) = nI (A 12 1) ∧ σ 90 (x + 179) = nI (A 12 3) ∧ σ 90 (x + 180) = nI (A 12 4) ∧ (∀ j, j < A 12 0 → σ 90 (x + j) = nI (A 0 j) ∧ σ 90 (x + 24 + j) = nI (A 1 j) ∧ σ 90 (x + 48 + j) = nI (A 2 j) ∧ σ 90 (x + 72 + j) = nI (A 3 j) ∧ σ 90 (x + 96 + j) = nI (A 4 j) ∧ σ 90 (x + 120 + j) = nI (A 5 j) ∧ σ 90 (x + 144 + j) = nI (A 6 j)) ∧ ∀ h, h < A 12 5 → σ 90 (x + 168 + h) = nI (A 7 h) ∧ σ 90 (x + 172 + h) = nI (A 8 h)
theorem lg_lt0 {a b : Int64} : lg_cmp a b < 0 ↔ a < b := by
  unfold lg_cmp
  by_cases h : a > b
  · rw [if_pos h]
    constructor
    · intro q; exact absurd q (by decide)
    · intro q; exact absurd h (Int64.not_lt.mpr (Int64.le_of_lt q))
  · rw [if_neg h]
    by_cases e : a = b
    · rw [if_pos e]; subst e
      constructor
      · intro q; exact absurd q (by decide)
      · intro q; exact absurd q (Int64.lt_irrefl)
    · rw [if_neg e]
      constructor
      · intro _
        have := Int64.not_lt.mp h
        exact Int64.lt_of_le_of_ne this e
      · intro _; decide
theorem lg_gt0 {a b : Int64} : 0 < lg_cmp a b ↔ b < a := by
  unfold lg_cmp
  by_cases h : a > b
  · rw [if_pos h]
    exact ⟨fun _ => h, fun _ => by decide⟩
  · rw [if_neg h]
    by_cases e : a = b
    · rw [if_pos e]
      exact ⟨fun q => absurd q (by decide), fun q => absurd q h⟩
    · rw [if_neg e]
      exact ⟨fun q => absurd q (by decide), fun q => absurd q h⟩
theorem m_in {σ : Sg} {v l h : Int64} {Q : Option Value → Sg → Prop} (hQ : Q (some (.int (bI (l ≤ v ∧ v ≤ h)))) σ) : MetA mX8_in [.long v, .long l, .long h] σ Q := by
  refine MetA_of qX8_in (Nat.le_of_ble_eq_true rfl) ?_
  refine wpB_sd (stops := []) kX8_in 30 _ _ _ _ ?_
  refine ⟨fun g => ⟨Or.inl rfl, fin_i hQ (bI_f ?_).symm⟩, fun g => ⟨fun g2 => ⟨Or.inl rfl, fin_i hQ (bI_f ?_).symm⟩, fun g2 => ⟨Or.inr rfl, fin_i hQ (bI_t ?_).symm⟩⟩⟩
  · exact fun q => absurd (lg_lt0.mp g) (Int64.not_lt.mpr q.1)
  · exact fun q => absurd (lg_gt0.mp g2) (Int64.not_lt.mpr q.2)
  · exact ⟨Int64.not_lt.mp (fun q => g (lg_lt0.mpr q)), Int64.not_lt.mp (fun q => g2 (lg_gt0.mpr q))⟩
theorem m_inI {σ : Sg} {a lo hi : Int32} {l h : Int64} {Q : Option Value → Sg → Prop} (hl : l = lo.toInt64) (hh : h = hi.toInt64) (hQ : Q (some (.int (bI (lo ≤ a ∧ a ≤ hi)))) σ) : MetA mX8_in [.long a.toInt64, .long l, .long h] σ Q := by
  refine m_in (fin_i hQ (bI_c ?_))
  rw [hl, hh, fa_wide_le, fa_wide_le]
theorem le_pred {h : Int32} {n : Nat} (hn : n < 2 ^ 31) : h ≤ nI n - 1 ↔ h < nI n := by
  rw [fa_le, fa_lt, fb_subI, nI_toInt hn]
  · have : (1 : Int32).toInt = 1 := by decide
    rw [this]; omega
  · have : (1 : Int32).toInt = 1 := by decide
    rw [this, nI_toInt hn]; omega
  · have : (1 : Int32).toInt = 1 := by decide
    rw [this, nI_toInt hn]; omega
theorem m_isHouse {σ : Sg} {A : St} {h : Int32} {Q : Option Value → Sg → Prop} (hR : RMg σ A) (h5 : A 12 5 ≤ 4) (hQ : Q (some (.int (bI (0 ≤ h ∧ h < nI (A 12 5))))) σ) : MetA mX8_isHouse [.ref 89, .int h] σ Q := by
  refine MetA_of qX8_isHouse (Nat.le_of_ble_eq_true rfl) ?_
  refine wpB_sd (stops := []) kX8_isHouse 30 _ _ _ _ ?_
  refine m_inI (lo := 0) (hi := σ 89 7 - 1) rfl rfl ?_
  refine ⟨bI_or, fin_i hQ (bI_c ?_)⟩
  rw [hR.1, le_pred (by omega)]
set_option maxRecDepth 100000 in
theorem m_isJar {σ : Sg} {A : St} {j : Int32} {Q : Option Value → Sg → Prop} (hR : RMr 0 σ A) (h24 : A 12 0 ≤ 24) (hQ : Q (some (.int (bI (0 ≤ j ∧ j < nI (A 12 0))))) σ) : MetA mX8_isJar [.ref 89, .int j] σ Q := by
  refine MetA_of qX8_isJar (Nat.le_of_ble_eq_true rfl) ?_
  refine wpB_sd (stops := []) kX8_isJar 30 _ _ _ _ ?_
  refine ald (n := 800) (j := 0 + 176) rfl rfl (by omega) hR.1 ?_
  refine m_inI (lo := 0) (hi := nI (A 12 0) - 1) rfl rfl ?_
  refine ⟨bI_or, fin_i hQ (bI_c ?_)⟩
  rw [le_pred (by omega)]
set_option maxRecDepth 100000 in
theorem m_harvestOf {σ : Sg} {A : St} {t : Nat} {Q : Option Value → Sg → Prop} (hR : RMg σ A) (h6 : A 12 6 ≤ 8) (ht : t < 2 ^ 21) (hQ : Q (some (.int (nI (harvA A t)))) σ) : MetA mX8_harvestOf [.ref 89, .int (nI t)] σ Q := by
  refine MetA_of qX8_harvestOf (Nat.le_of_ble_eq_true rfl) ?_
  refine wpB_sd (stops := []) kX8_harvestOf 30 _ _ _ _ ?_
  by_cases h0 : A 12 6 = 0
  · obtain ⟨e1, e2⟩ := hR.2.2.1 h0
    refine ⟨by rw [e1]; decide, ?_⟩
    refine ald (n := 16) (j := t % 1) rfl (by rw [e1]; exact pk_rem (by omega) (by omega) (by omega)) (by omega) (v := nI 10) (by rw [Nat.mod_one]; exact e2) ?_
    refine fin_i hQ ?_
    rw [harvA, if_pos h0]
  · obtain ⟨e1, e2⟩ := hR.2.2.2 (by omega)
    have hlt : t % A 12 6 < A 12 6 := Nat.mod_lt _ (by omega)
    refine ⟨by rw [e1]; exact nI_ne0 (by omega) (by omega), ?_⟩
    refine ald (n := 16) (j := t % A 12 6) rfl (by rw [e1]; exact pk_rem (by omega) (by omega) (by omega)) (by omega) (e2 _ hlt) ?_
    refine fin_i hQ ?_
    rw [harvA, if_neg h0]
set_option maxRecDepth 100000 in
set_option maxHeartbeats 1000000 in
theorem m_filled {σ : Sg} {A : St} {x j y : Nat} {Q : Option Value → Sg → Prop} (hx : x ≤ 600) (hR : RMr x σ A) (hW : WJ A) (hj : j < A 12 0) (hy : A 12 1 ≤ y) (hy2 : y < 2 ^ 21) (hQ : Q (some (.int (nI (filA A j y)))) σ) : MetA mX8_filled [.ref 89, .int (nI x), .int (nI j), .int (nI y)] σ Q := by
  refine MetA_of qX8_filled (Nat.le_of_ble_eq_true rfl) ?_
  refine wpB_sd (stops := [105]) kX8_filled 60 _ _ _ _ ?_
  have hm := hW.1
  obtain ⟨e0, e1, e2, e3, e4, e5, e6⟩ := hR.2.2.2.2.1 j hj
  obtain ⟨w0, w1, w2, w3, w4, w5, w6⟩ := hW.2.2 j hj
  have fin : ∀ lv v, v = nI (filA A j y) → V mX8_filled 105 lv [.int v] σ Q := by
    intro lv v hv
    refine wpB_sd (stops := []) kX8_filled 60 _ _ _ _ ?_
    exact fin_i hQ hv
  refine ald (n := 800) (j := x + 120 + j) rfl (by simp only [fa_lit, nI_add]) (by omega) e5 ?_
  refine ald (n := 800) (j := x + 96 + j) rfl (by simp only [fa_lit, nI_add]) (by omega) e4 ?_
  refine ald (n := 800) (j := x + 72 + j) rfl (by simp only [fa_lit, nI_add]) (by omega) e3 ?_
  refine ald (n := 800) (j := x + j) rfl (by simp only [nI_add]) (by omega) e0 ?_
  refine ⟨fun g => ?_, fun g => ?_⟩
  · have g : ¬ A 0 j = 0 := fun q => g (by rw [q]; rfl)
    refine ald (n := 800) (j := x + j) rfl (by simp only [nI_add]) (by omega) e0 ?_
    refine ⟨fun g2 => ?_, fun g2 => ?_⟩
    · have g2 : ¬ A 0 j = 1 := fun q => g2 (by rw [q]; rfl)
      refine fin _ _ ?_
      rw [filA, if_neg g, if_neg g2]
    · have g2 : A 0 j = 1 := (nI_eq (b := 1) (by omega) (by omega)).mp g2
      refine ⟨fun g3 => ?_, fun g3 => ?_⟩
      · rw [pk_sub (show A 5 j ≤ y by omega)] at g3
        have g3 := (nI_leI (by omega) (by omega)).mp g3
        refine fin _ _ ?_
        rw [filA, if_neg g, if_pos g2, nI_add]
        by_cases q : A 4 j < y - A 5 j
        · rw [if_pos q]
        · rw [if_neg q]; congr 1; omega
      · rw [pk_sub (show A 5 j ≤ y by omega)] at g3
        have g3 : ¬ A 4 j ≤ y - A 5 j := fun q => g3 (nI_le q (by omega))
        refine fin _ _ ?_
        rw [filA, if_neg g, if_pos g2, if_neg (by omega), pk_sub (show A 5 j ≤ y by omega), nI_add]
  · have g : A 0 j = 0 := (nI_eq (b := 0) (by omega) (by omega)).mp g
    refine ⟨fun g3 => ?_, fun g3 => ?_⟩
    · rw [pk_sub (show A 5 j ≤ y by omega)] at g3
      have g3 := (nI_leI (by omega) (by omega)).mp g3
      refine fin _ _ ?_
      rw [filA, if_pos g, if_neg (by omega)]
    · rw [pk_sub (show A 5 j ≤ y by omega)] at g3
      have g3 : ¬ y - A 5 j ≤ A 4 j := fun q => g3 (nI_le q (by omega))
      refine ⟨by decide, fin _ _ ?_⟩
      rw [filA, if_pos g, if_pos (by omega)]
      exact pk_div (d := 2) (by omega) (by omega) (by omega)
set_option maxRecDepth 100000 in
theorem m_mayBe {σ : Sg} {A : St} {x j y : Nat} {Q : Option Value → Sg → Prop} (hx : x ≤ 600) (hR : RMr x σ A) (hW : WJ A) (hl : A 12 3 ≤ 2) (hj : j < A 12 0) (hy2 : y < 2 ^ 21) (hQ : Q (some (.int (bI (mayB (A 12 3) (A 2 j) y = true)))) σ) : MetA mX8_mayBe [.ref 89, .int (nI x), .int (nI j), .int (nI y)] σ Q := by
  refine MetA_of qX8_mayBe (Nat.le_of_ble_eq_true rfl) ?_
  refine wpB_sd (stops := []) kX8_mayBe 60 _ _ _ _ ?_
  have hm := hW.1
  obtain ⟨e0, e1, e2, e3, e4, e5, e6⟩ := hR.2.2.2.2.1 j hj
  obtain ⟨w0, w1, w2, w3, w4, w5, w6⟩ := hW.2.2 j hj
  refine ald (n := 800) (j := x + 179) rfl (by simp only [fa_lit, nI_add]) (by omega) hR.2.2.1 ?_
  refine ⟨fun g => ?_, fun g => ?_⟩
  · have g : A 12 3 = 2 := (nI_eq (b := 2) (by omega) (by omega)).mp g
    refine ⟨Or.inr rfl, fin_i hQ (bI_t ?_).symm⟩
    simp [mayB, g]
  · have g : ¬ A 12 3 = 2 := fun q => g (by rw [q]; rfl)
    refine ⟨fun g2 => ?_, fun g2 => ?_⟩
    · have g2 : ¬ A 12 3 = 0 := fun q => g2 (by rw [q]; rfl)
      have g1 : A 12 3 = 1 := by omega
      refine ald (n := 800) (j := x + 48 + j) rfl (by simp only [fa_lit, nI_add]) (by omega) e2 ?_
      refine ⟨fun g3 => ⟨Or.inl rfl, fin_i hQ (bI_f ?_).symm⟩, fun g3 => ⟨Or.inr rfl, fin_i hQ (bI_t ?_).symm⟩⟩
      · have g3 : ¬ y = A 2 j := fun q => g3 (by rw [q])
        simp [mayB, g1]; omega
      · have g3 := (nI_eq (by omega) (by omega)).mp g3
        simp [mayB, g1]; omega
    · have g2 : A 12 3 = 0 := (nI_eq (b := 0) (by omega) (by omega)).mp g2
      refine ald (n := 800) (j := x + 48 + j) rfl (by simp only [fa_lit, nI_add]) (by omega) e2 ?_
      refine ⟨fun g3 => ⟨Or.inl rfl, fin_i hQ (bI_f ?_).symm⟩, fun g3 => ⟨Or.inr rfl, fin_i hQ (bI_t ?_).symm⟩⟩
      · have g3 := (nI_ltI (by omega) (by omega)).mp g3
        simp [mayB, g2]; omega
      · have g3 : ¬ y < A 2 j := fun q => g3 (nI_lt q (by omega))
        simp [mayB, g2]; omega
set_option maxRecDepth 100000 in
theorem m_may {σ : Sg} {A : St} {x j y : Nat} {Q : Option Value → Sg → Prop} (hx : x ≤ 600) (hR : RMr x σ A) (hW : WJ A) (hl : A 12 3 ≤ 2) (hj : j < A 12 0) (hy2 : y < 2 ^ 21) (hQ : Q (some (.int (bI (A 6 j = 0 ∧ mayB (A 12 3) (A 2 j) y = true)))) σ) : MetA mX8_may [.ref 89, .int (nI x), .int (nI j), .int (nI y)] σ Q := by
  refine MetA_of qX8_may (Nat.le_of_ble_eq_true rfl) ?_
  refine wpB_sd (stops := []) kX8_may 60 _ _ _ _ ?_
  have hm := hW.1
  obtain ⟨e0, e1, e2, e3, e4, e5, e6⟩ := hR.2.2.2.2.1 j hj
  obtain ⟨w0, w1, w2, w3, w4, w5, w6⟩ := hW.2.2 j hj
  refine ald (n := 800) (j := x + 144 + j) rfl (by simp only [fa_lit, nI_add]) (by omega) e6 ?_
  refine ⟨fun g => ⟨Or.inl rfl, fin_i hQ (bI_f ?_).symm⟩, fun g => ?_⟩
  · exact fun q => g (by rw [q.1]; rfl)
  · have g : A 6 j = 0 := (nI_eq (b := 0) (by omega) (by omega)).mp g
    refine m_mayBe hx hR hW hl hj hy2 ?_
    refine ⟨fun g2 => ⟨Or.inl rfl, fin_i hQ (bI_f ?_).symm⟩, fun g2 => ⟨Or.inr rfl, fin_i hQ (bI_t ?_).symm⟩⟩
    · exact fun q => bI_0.mp g2 q.2
    · refine ⟨g, ?_⟩
      by_cases q : mayB (A 12 3) (A 2 j) y = true
      · exact q
      · exact absurd (bI_f q) g2
