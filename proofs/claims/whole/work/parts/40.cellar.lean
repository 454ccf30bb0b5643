/-! the class's Cellar, at 7 (now) or 20 (trial) -/
set_option maxRecDepth 100000 in
theorem s_has {σ : Sg} {b : Nat} {j : Int32} {Q : Option Value → Sg → Prop} (hb : b = 7 ∨ b = 20) (h : Q (some (.int (bI (0 ≤ j ∧ j < σ b 0)))) σ) : MetA mX1_has [.ref b, .int j] σ Q := by
  refine MetA_of qX1_has (Nat.le_of_ble_eq_true rfl) ?_
  refine wpB_sd (stops := []) kX1_has 20 _ _ _ _ ?_
  rcases hb with rfl | rfl <;>
  · refine ⟨fun h1 => ⟨Or.inl rfl, ?_⟩, fun h1 => ⟨fun h2 => ⟨Or.inl rfl, ?_⟩, fun h2 => ⟨Or.inr rfl, ?_⟩⟩⟩
    · exact fin_i h (bI_f (fun q => absurd h1 (Int32.not_lt.mpr q.1))).symm
    · exact fin_i h (bI_f (fun q => absurd h2 (Int32.not_le.mpr q.2))).symm
    · exact fin_i h (bI_t ⟨Int32.not_lt.mp h1, Int32.not_le.mp h2⟩).symm
theorem s_hasY {σ : Sg} {A : St} {b j : Nat} {Q : Option Value → Sg → Prop} (hb : b = 7 ∨ b = 20) (hR : RCel b σ A) (hW : WJ A) (hj : j < A 12 0) (h : Q (some (.int 1)) σ) : MetA mX1_has [.ref b, .int (nI j)] σ Q := by
  refine s_has hb (fin_i h (bI_t ?_))
  have := hW.1
  rw [hR.1]
  exact ⟨nI_pos' (by omega), nI_lt hj (by omega)⟩
theorem s_isFull {σ : Sg} {A : St} {b : Nat} {Q : Option Value → Sg → Prop} (hb : b = 7 ∨ b = 20) (hR : RCel b σ A) (hW : WJ A) (h : Q (some (.int (bI (24 ≤ A 12 0)))) σ) : MetA mX1_isFull [.ref b] σ Q := by
  refine MetA_of qX1_isFull (Nat.le_of_ble_eq_true rfl) ?_
  refine wpB_sd (stops := []) kX1_isFull 20 _ _ _ _ ?_
  have h0 := hR.1
  have hm := hW.1
  rcases hb with rfl | rfl <;>
  · refine ⟨fun h1 => ⟨Or.inl rfl, fin_i h (bI_f ?_).symm⟩, fun h1 => ⟨Or.inr rfl, fin_i h (bI_t ?_).symm⟩⟩
    · rw [h0] at h1
      have := (nI_ltI (b := 24) (by omega) (by omega)).mp h1
      omega
    · rw [h0] at h1
      have : ¬ A 12 0 < 24 := fun q => h1 (nI_lt (b := 24) q (by omega))
      omega
set_option maxRecDepth 100000 in
theorem s_ageOf {σ : Sg} {A : St} {b j y : Nat} {Q : Option Value → Sg → Prop} (hb : b = 7 ∨ b = 20) (hR : RCel b σ A) (hW : WJ A) (hj : j < A 12 0) (hy : A 12 1 ≤ y) (h : Q (some (.int (nI (y - A 5 j)))) σ) : MetA mX1_ageOf [.ref b, .int (nI j), .int (nI y)] σ Q := by
  refine MetA_of qX1_ageOf (Nat.le_of_ble_eq_true rfl) ?_
  refine wpB_sd (stops := []) kX1_ageOf 30 _ _ _ _ ?_
  have h0 := hR.2.2 j hj
  have hm := hW.1
  have hs := (hW.2.2 j hj).2.2.2.2.2.1
  rcases hb with rfl | rfl <;>
  · refine s_hasY (by first | exact Or.inl rfl | exact Or.inr rfl) hR hW hj ?_
    refine br_f (by decide) ?_
    refine ⟨aok (n := 24) rfl rfl (by omega), nm_r (rdn (by omega) h0.2.2.2.2.2) ?_⟩
    exact fin_i h (pk_sub (by omega))
set_option maxRecDepth 100000 in
theorem s_filledIn {σ : Sg} {A : St} {b j y : Nat} {Q : Option Value → Sg → Prop} (hb : b = 7 ∨ b = 20) (hR : RCel b σ A) (hW : WJ A) (hj : j < A 12 0) (hy : A 12 1 ≤ y) (hy2 : y < 2 ^ 21) (h : Q (some (.int (nI (filA A j y)))) σ) : MetA mX1_filledIn [.ref b, .int (nI j), .int (nI y)] σ Q := by
  refine MetA_of qX1_filledIn (Nat.le_of_ble_eq_true rfl) ?_
  refine wpB_sd (stops := []) kX1_filledIn 60 _ _ _ _ ?_
  obtain ⟨e0, e1, e2, e3, e4, e5⟩ := hR.2.2 j hj
  have hm := hW.1
  obtain ⟨w0, w1, w2, w3, w4, w5, w6⟩ := hW.2.2 j hj
  have hk : (nI (A 0 j)).toInt = (A 0 j : Int) := nI_toInt (by omega)
  rcases hb with rfl | rfl <;>
  · refine s_hasY (by first | exact Or.inl rfl | exact Or.inr rfl) hR hW hj ?_
    refine bn_f (by decide) ?_
    refine ⟨aok (n := 24) rfl rfl (by omega), nm_r (rdn (by omega) e5) ?_⟩
    refine ⟨aok (n := 24) rfl rfl (by omega), nm_r (rdn (by omega) e0) ?_⟩
    refine ⟨fun k0 => ?_, fun k0 => ⟨fun k1 => ?_, fun k1 => ?_⟩⟩
    · have k0 : A 0 j = 0 := by rw [hk] at k0; omega
      refine ⟨aok (n := 24) rfl rfl (by omega), nm_r (rdn (by omega) e4) ?_⟩
      refine ⟨fun g => ?_, fun g => ?_⟩
      · refine ⟨aok (n := 24) rfl rfl (by omega), nm_r (rdn (by omega) e3) ?_⟩
        rw [pk_sub (show A 5 j ≤ y by omega)] at g
        have g := (nI_leI (by omega) (by omega)).mp g
        refine fin_i h ?_
        rw [filA, if_pos k0, if_neg (by omega)]
      · refine ⟨aok (n := 24) rfl rfl (by omega), nm_r (rdn (by omega) e3) ?_⟩
        rw [pk_sub (show A 5 j ≤ y by omega)] at g
        have g : ¬ (y - A 5 j ≤ A 4 j) := fun q => g (nI_le q (by omega))
        refine ⟨by decide, fin_i h ?_⟩
        rw [filA, if_pos k0, if_pos (by omega)]
        exact pk_div (d := 2) (by omega) (by omega) (by omega)
    · have k1 : A 0 j = 1 := by rw [hk] at k1; omega
      refine ⟨aok (n := 24) rfl rfl (by omega), nm_r (rdn (by omega) e3) ?_⟩
      refine ⟨aok (n := 24) rfl rfl (by omega), nm_r (rdn (by omega) e4) ?_⟩
      refine fin_i h ?_
      rw [filA, if_neg (show ¬ A 0 j = 0 by omega), if_pos k1, pk_sub (show A 5 j ≤ y by omega)]
      by_cases g : A 4 j < y - A 5 j
      · rw [if_pos g, if_pos (nI_lt g (by omega)), nI_add]
      · rw [if_neg g, if_neg (nI_nlt (by omega) (by omega)), nI_add]
    · have g0 : ¬ A 0 j = 0 := by rw [hk] at k0; omega
      have g1 : ¬ A 0 j = 1 := by rw [hk] at k1; omega
      refine ⟨aok (n := 24) rfl rfl (by omega), nm_r (rdn (by omega) e3) ?_⟩
      refine fin_i h ?_
      rw [filA, if_neg g0, if_neg g1]
set_option maxRecDepth 100000 in
theorem s_mayBe {σ : Sg} {A : St} {b j y l : Nat} {Q : Option Value → Sg → Prop} (hb : b = 7 ∨ b = 20) (hR : RCel b σ A) (hW : WJ A) (hj : j < A 12 0) (hy2 : y < 2 ^ 21) (hl : l ≤ 2) (h : Q (some (.int (bI (mayB l (A 2 j) y = true)))) σ) : MetA mX1_mayBeOpened [.ref b, .int (nI j), .int (nI l), .int (nI y)] σ Q := by
  refine MetA_of qX1_mayBeOpened (Nat.le_of_ble_eq_true rfl) ?_
  refine wpB_sd (stops := []) kX1_mayBeOpened 60 _ _ _ _ ?_
  obtain ⟨e0, e1, e2, e3, e4, e5⟩ := hR.2.2 j hj
  have hm := hW.1
  obtain ⟨w0, w1, w2, w3, w4, w5, w6⟩ := hW.2.2 j hj
  have hk : (nI l).toInt = (l : Int) := nI_toInt (by omega)
  rcases hb with rfl | rfl <;>
  · refine s_hasY (by first | exact Or.inl rfl | exact Or.inr rfl) hR hW hj ?_
    refine bn_f (by decide) ?_
    refine ⟨fun k0 => ?_, fun k0 => ⟨fun k1 => ?_, fun k1 => ?_⟩⟩
    · have k0 : l = 0 := by rw [hk] at k0; omega
      subst k0
      refine ⟨aok (n := 24) rfl rfl (by omega), nm_r (rdn (by omega) e2) ?_⟩
      refine ⟨fun g => ⟨Or.inl rfl, fin_i h (bI_f ?_).symm⟩, fun g => ⟨Or.inr rfl, fin_i h (bI_t ?_).symm⟩⟩
      · have g := (nI_ltI (by omega) (by omega)).mp g
        simp [mayB]; omega
      · have g : ¬ y < A 2 j := fun q => g (nI_lt q (by omega))
        simp [mayB]; omega
    · have k1 : l = 1 := by rw [hk] at k1; omega
      subst k1
      refine ⟨aok (n := 24) rfl rfl (by omega), nm_r (rdn (by omega) e2) ?_⟩
      refine ⟨fun g => ⟨Or.inl rfl, fin_i h (bI_f ?_).symm⟩, fun g => ⟨Or.inr rfl, fin_i h (bI_t ?_).symm⟩⟩
      · have g : ¬ y = A 2 j := fun q => g (by rw [q])
        simp [mayB]; omega
      · have g := (nI_eq (by omega) (by omega)).mp g
        simp [mayB]; omega
    · have g0 : ¬ l = 0 := by rw [hk] at k0; omega
      have g1 : ¬ l = 1 := by rw [hk] at k1; omega
      refine ⟨Or.inr rfl, fin_i h (bI_t ?_).symm⟩
      simp [mayB, g0, g1]
theorem gone_bit {A : St} (hW : WJ A) {j : Nat} (hj : j < A 12 0) : ((bset (A 6) (A 12 0)).testBit j = true ↔ A 6 j = 1) ∧ ((bset (A 6) (A 12 0)).testBit j = false ↔ A 6 j = 0) := by
  have := (hW.2.2 j hj).2.2.2.2.2.2
  rw [bset_bit]
  simp only [hj, true_and, decide_eq_true_eq, decide_eq_false_iff_not]
  omega
set_option maxRecDepth 100000 in
theorem s_isGone {σ : Sg} {A : St} {b j : Nat} {Q : Option Value → Sg → Prop} (hb : b = 7 ∨ b = 20) (hR : RCel b σ A) (hW : WJ A) (hj : j < A 12 0) (h : Q (some (.int (bI (A 6 j = 1)))) σ) : MetA mX1_isGone [.ref b, .int (nI j)] σ Q := by
  refine MetA_of qX1_isGone (Nat.le_of_ble_eq_true rfl) ?_
  refine wpB_sd (stops := []) kX1_isGone 60 _ _ _ _ ?_
  have hm := hW.1
  have hg := gone_lt hW
  have hgo := hR.2.1
  have hbt := gone_bit hW hj
  rcases hb with rfl | rfl <;>
  · refine s_hasY (by first | exact Or.inl rfl | exact Or.inr rfl) hR hW hj ?_
    refine br_f (by decide) ?_
    refine ⟨fun g => ⟨Or.inl rfl, fin_i h (bI_f ?_).symm⟩, fun g => ⟨Or.inr rfl, fin_i h (bI_t ?_).symm⟩⟩
    · intro q
      exact g (by rw [hgo]; exact (gbit1 (by omega) (by omega)).mpr (hbt.1.mpr q))
    · rw [hgo] at g
      exact hbt.1.mp ((gbit1 (by omega) (by omega)).mp g)
set_option maxRecDepth 100000 in
theorem s_isOf {σ : Sg} {A : St} {b j hh : Nat} {Q : Option Value → Sg → Prop} (hb : b = 7 ∨ b = 20) (hR : RCel b σ A) (hW : WJ A) (hj : j < A 12 0) (hh2 : hh < 4) (h : Q (some (.int (bI (A 1 j = hh ∧ A 6 j = 0)))) σ) : MetA mX1_isOf [.ref b, .int (nI j), .int (nI hh)] σ Q := by
  refine MetA_of qX1_isOf (Nat.le_of_ble_eq_true rfl) ?_
  refine wpB_sd (stops := []) kX1_isOf 60 _ _ _ _ ?_
  have hm := hW.1
  have hg := gone_lt hW
  have hgo := hR.2.1
  have hbt := gone_bit hW hj
  obtain ⟨e0, e1, e2, e3, e4, e5⟩ := hR.2.2 j hj
  obtain ⟨w0, w1, w2, w3, w4, w5, w6⟩ := hW.2.2 j hj
  rcases hb with rfl | rfl <;>
  · refine s_hasY (by first | exact Or.inl rfl | exact Or.inr rfl) hR hW hj ?_
    refine br_f (by decide) ?_
    refine ⟨aok (n := 24) rfl rfl (by omega), nm_r (rdn (by omega) e1) ?_⟩
    refine ⟨fun g => ⟨Or.inl rfl, fin_i h (bI_f ?_).symm⟩, fun g => ⟨fun g2 => ⟨Or.inl rfl, fin_i h (bI_f ?_).symm⟩, fun g2 => ⟨Or.inr rfl, fin_i h (bI_t ?_).symm⟩⟩⟩
    · exact fun q => g (by rw [q.1])
    · intro q
      exact g2 (by rw [hgo]; exact (gbit0 (by omega) (by omega)).mpr (hbt.2.mpr q.2))
    · rw [hgo] at g2
      exact ⟨(nI_eq (by omega) (by omega)).mp g, hbt.2.mp ((gbit0 (by omega) (by omega)).mp g2)⟩
theorem filA_g {A : St} {j i y v : Nat} : filA (stu A 6 i v) j y = filA A j y := by simp [filA, stu]
theorem WJ_g {A : St} {i v : Nat} (h : WJ A) (hv : v ≤ 1) : WJ (stu A 6 i v) := by
  refine ⟨by simpa [stu] using h.1, by simpa [stu] using h.2.1, fun j hj => ?_⟩
  have hj : j < A 12 0 := by simpa [stu] using hj
  have := h.2.2 j hj
  simp only [stu]
  refine ⟨by simpa using this.1, by simpa using this.2.1, by simpa using this.2.2.1, by simpa using this.2.2.2.1, by simpa using this.2.2.2.2.1, by simpa using this.2.2.2.2.2.1, ?_⟩
  split <;> omega
theorem RCel_take {b : Nat} {σ : Sg} {A : St} {j : Nat} (h : RCel b σ A) (hj : j < A 12 0) : RCel b (sgu σ b 7 (nI (bset (A 6) (A 12 0) ||| 2 ^ j))) (stu A 6 j 1) := by
  refine ⟨?_, ?_, fun i hi => ?_⟩
  · rw [sgu_k (by omega)]; simpa [stu] using h.1
  · rw [sgu_s, bset_or hj]
    congr 1
    apply bset_congr
    intro k _
    by_cases hk : k = j <;> simp [stu, hk]
  · have hi : i < A 12 0 := by simpa [stu] using hi
    have := h.2.2 i hi
    rw [sgu_c (by omega), sgu_c (by omega), sgu_c (by omega), sgu_c (by omega), sgu_c (by omega), sgu_c (by omega)]
    simpa [stu] using this
set_option maxRecDepth 100000 in
theorem s_takeOut {σ : Sg} {A : St} {b j y : Nat} {Q : Option Value → Sg → Prop} (hb : b = 7 ∨ b = 20) (hR : RCel b σ A) (hW : WJ A) (hj : j < A 12 0) (hy : A 12 1 ≤ y) (hy2 : y < 2 ^ 21) (h : ∀ σ', RCel b σ' (stu A 6 j 1) → FrC b b σ σ' → Q (some (.int (nI (filA A j y)))) σ') : MetA mX1_takeOut [.ref b, .int (nI j), .int (nI y)] σ Q := by
  refine MetA_of qX1_takeOut (Nat.le_of_ble_eq_true rfl) ?_
  refine wpB_sd (stops := []) kX1_takeOut 60 _ _ _ _ ?_
  have hm := hW.1
  have hg := gone_lt hW
  have hgo := hR.2.1
  have e : σ b 7 ||| (1 <<< (nI j &&& 31)) = nI (bset (A 6) (A 12 0) ||| 2 ^ j) := by rw [hgo, one_shl (by omega), fa_or]
  have hR2 := RCel_take hR hj
  rw [← e] at hR2
  rcases hb with rfl | rfl <;>
  · refine s_hasY (by first | exact Or.inl rfl | exact Or.inr rfl) hR hW hj ?_
    refine bn_f (by decide) ?_
    refine s_filledIn (A := stu A 6 j 1) (by first | exact Or.inl rfl | exact Or.inr rfl) hR2 (WJ_g hW (by omega)) (by simpa [stu] using hj) (by simpa [stu] using hy) hy2 ?_
    refine fin_i (h _ hR2 (fun c hc => sgu_c (by omega))) ?_
    rw [filA_g]
set_option maxRecDepth 100000 in
set_option maxHeartbeats 1000000 in
theorem s_firstToOpen {σ : Sg} {A : St} {b hh l y : Nat} {Q : Option Value → Sg → Prop} (hb : b = 7 ∨ b = 20) (hR : RCel b σ A) (hW : WJ A) (hh2 : hh < 4) (hl : l ≤ 2) (hy2 : y < 2 ^ 21) (h : Q (some (.int (optI (ftoA A hh l y (A 12 0))))) σ) : MetA mX1_firstToOpen [.ref b, .int (nI hh), .int (nI l), .int (nI y)] σ Q := by
  refine MetA_of qX1_firstToOpen (Nat.le_of_ble_eq_true rfl) ?_
  have hm := hW.1
  have hg := gone_lt hW
  have hgo := hR.2.1
  have h0 := hR.1
  have loop : ∀ n i, i + n = A 12 0 → V mX1_firstToOpen 6 [(0, .ref b), (1, .int (nI hh)), (2, .int (nI l)), (3, .int (nI y)), (4, .int (optI (ftoA A hh l y i))), (5, .int (nI i))] [] σ Q := by
    intro n
    induction n with
    | zero =>
      intro i hi
      have hi : i = A 12 0 := by omega
      subst hi
      refine wpB_sd (stops := [6]) kX1_firstToOpen 20 _ _ _ _ ?_
      rcases hb with rfl | rfl <;>
      · refine br_t (by rw [h0]; exact nI_le (by omega) (by omega)) ?_
        exact h
    | succ n ih =>
      intro i hi
      have hj : i < A 12 0 := by omega
      have ih := ih (i + 1) (by omega)
      obtain ⟨e0, e1, e2, e3, e4, e5⟩ := hR.2.2 i hj
      obtain ⟨w0, w1, w2, w3, w4, w5, w6⟩ := hW.2.2 i hj
      have hbt := gone_bit hW hj
      have hft := ftoA_lt A hh l y i
      have hin : nI i + 1 = nI (i + 1) := nI_1 i
      refine wpB_sd (stops := [6]) kX1_firstToOpen 60 _ _ _ _ ?_
      rcases hb with rfl | rfl <;>
      · refine br_f (by rw [h0]; exact nI_ge hj (by omega)) ?_
        refine ⟨aok (n := 24) rfl rfl (by omega), nm_r (rdn (by omega) e1) ?_⟩
        refine ⟨fun g => ?_, fun g => ?_⟩
        · have g : ¬ A 1 i = hh := fun q => g (by rw [q])
          rw [ftoA, if_neg (fun q => g q.1)] at ih
          rw [← hin] at ih
          exact ih
        · have g := (nI_eq (by omega) (by omega)).mp g
          refine ⟨fun g2 => ?_, fun g2 => ?_⟩
          · rw [hgo] at g2
            have g2 := hbt.1.mp ((gbit1 (by omega) (by omega)).mp g2)
            rw [ftoA, if_neg (fun q => by omega), ← hin] at ih
            exact ih
          · rw [hgo] at g2
            have g2 : A 6 i = 0 := by
              have : ¬ A 6 i = 1 := fun q => g2 ((gbit1 (by omega) (by omega)).mpr (hbt.1.mpr q))
              omega
            refine s_mayBe (by first | exact Or.inl rfl | exact Or.inr rfl) hR hW hj hy2 hl ?_
            refine ⟨fun g3 => ?_, fun g3 => ?_⟩
            · have g3 : mayB l (A 2 i) y = true := by
                by_cases q : mayB l (A 2 i) y = true
                · exact q
                · exact absurd (bI_f q) g3
              rw [ftoA, if_pos ⟨g, g2, g3⟩, ← hin] at ih
              cases hf : ftoA A hh l y i with
              | none =>
                rw [hf] at ih
                exact br_t rfl ih
              | some f =>
                rw [hf] at ih hft
                have hfl := (hft f rfl).1
                have hfw := (hW.2.2 f (by omega)).2.2.1
                refine br_f (fun q => ?_) ?_
                · have q2 : (nI f).toInt = (-1 : Int32).toInt := congrArg Int32.toInt q
                  rw [nI_toInt (by omega)] at q2
                  have : ((-1 : Int32)).toInt = -1 := by decide
                  omega
                · refine ⟨aok (n := 24) rfl rfl (by omega), nm_r (rdn (by omega) e2) ?_⟩
                  refine ⟨aok (n := 24) rfl rfl (by omega), nm_r (rdn (by omega) (hR.2.2 f (by omega)).2.2.1) ?_⟩
                  refine ⟨fun q => ?_, fun q => ?_⟩
                  · have q := (nI_leI (by omega) (by omega)).mp q
                    dsimp only at ih
                    rw [if_neg (by omega)] at ih
                    exact ih
                  · have q : ¬ A 2 f ≤ A 2 i := fun z => q (nI_le z (by omega))
                    dsimp only at ih
                    rw [if_pos (by omega)] at ih
                    exact ih
            · have g3 : ¬ mayB l (A 2 i) y = true := bI_0.mp g3
              rw [ftoA, if_neg (fun q => g3 q.2.2), ← hin] at ih
              exact ih
  refine wpB_sd (stops := [6]) kX1_firstToOpen 20 _ _ _ _ ?_
  exact loop (A 12 0) 0 (by omega)
