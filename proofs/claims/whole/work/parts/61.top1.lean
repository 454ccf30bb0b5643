/-! law, seals, give, label, open, seed: class (t_) and reference (u_) -/
set_option maxRecDepth 100000 in
theorem t_law {σ : Sg} {A : St} {hg : Nat} {v : Int32} {Q : Option Value → Sg → Prop} (hC : CS σ A hg) (hW : WL A) (ho : ¬ rg v 0 2 → Q (some (.int OUT)) σ) (hi : ∀ k, k ≤ 2 → v = nI k → ∀ σ', CS σ' (stu A 12 3 k) hg → FrX σ σ' → Q (some (.int (nI (A 12 3)))) σ') : MetA mX7_law [.ref 0, .int v] σ Q := by
  refine MetA_of qX7_law (Nat.le_of_ble_eq_true rfl) ?_
  refine wpB_sd (stops := []) kX7_law 40 _ _ _ _ ?_
  refine ⟨fun g => ho (rg_lt (lo := 0) (by omega) (by omega) g), fun g => ⟨fun g2 => ?_, fun g2 => ho (rg_gt (hi := 2) (by omega) (by omega) (Int32.not_le.mp g2))⟩⟩
  obtain ⟨k, -, h2, rfl⟩ := rg_of (lo := 0) (hi := 2) (by omega) (by omega) g (Int32.not_lt.mpr g2)
  refine fin_i (hi k h2 rfl _ (CS_one hC hW (by omega)) (fun c hc => sgu_c (by omega))) ?_
  exact hC.1.2.2.2.2.1
set_option maxRecDepth 100000 in
theorem u_law {σ : Sg} {A : St} {hg : Nat} {v : Int32} {Q : Option Value → Sg → Prop} (hC : MR σ A hg) (hW : WL A) (ho : ¬ rg v 0 2 → Q (some (.int OUT)) σ) (hi : ∀ k, k ≤ 2 → v = nI k → ∀ σ', MR σ' (stu A 12 3 k) hg → FrM σ σ' → Q (some (.int (nI (A 12 3)))) σ') : MetA mX8_law [.ref 89, .int v] σ Q := by
  refine MetA_of qX8_law (Nat.le_of_ble_eq_true rfl) ?_
  refine wpB_sd (stops := []) kX8_law 40 _ _ _ _ ?_
  refine m_inI (lo := nI 0) (hi := nI 2) rfl rfl ?_
  refine ⟨fun g => ?_, fun g => ho (fun q => bI_0.mp g ((rg_iff (by omega) (by omega)).mpr q))⟩
  obtain ⟨k, -, h2, rfl⟩ := (rg_iff (by omega) (by omega)).mp (bI_n0 g)
  refine ald (n := 800) (j := 0 + 179) rfl rfl (by omega) hC.1.2.2.1 ?_
  refine ast (n := 800) (j := 0 + 179) rfl rfl (by omega) ?_
  exact hi k h2 rfl _ (MR_one hC hW (by omega)) (FrM.put (by omega))
set_option maxRecDepth 100000 in
theorem t_seals {σ : Sg} {A : St} {hg : Nat} {h v : Int32} {Q : Option Value → Sg → Prop} (hC : CS σ A hg) (hW : WL A) (hu : ¬ ix h (A 12 5) → Q (some (.int UNK)) σ) (ho : ix h (A 12 5) → ¬ rg v 0 20 → Q (some (.int OUT)) σ) (hi : ∀ a k, a < A 12 5 → k ≤ 20 → h = nI a → v = nI k → ∀ σ', CS σ' (stu A 7 a k) hg → FrX σ σ' → Q (some (.int (nI (A 7 a)))) σ') : MetA mX7_seals [.ref 0, .int h, .int v] σ Q := by
  refine MetA_of qX7_seals (Nat.le_of_ble_eq_true rfl) ?_
  refine wpB_sd (stops := []) kX7_seals 40 _ _ _ _ ?_
  have h4 := hW.2.1
  have h0 := hC.1.2.1
  refine s_hasHouse (Or.inl rfl) ?_
  refine ⟨fun g => ?_, fun g => hu (fun q => bI_0.mp g (by rw [h0]; exact (ix_iff (by omega)).mpr q))⟩
  have hix : ix h (A 12 5) := (ix_iff (by omega)).mp (by have := bI_n0 g; rw [h0] at this; exact this)
  refine ⟨fun g2 => ho hix (rg_lt (lo := 0) (by omega) (by omega) g2), fun g2 => ⟨fun g3 => ?_, fun g3 => ho hix (rg_gt (hi := 20) (by omega) (by omega) (Int32.not_le.mp g3))⟩⟩
  obtain ⟨k, -, hk, rfl⟩ := rg_of (lo := 0) (hi := 20) (by omega) (by omega) g2 (Int32.not_lt.mpr g3)
  obtain ⟨a, ha, rfl⟩ := hix
  refine ald (n := 4) (j := a) rfl rfl (by omega) (hC.1.2.2.2.2.2.2.1 a ha).2.1 ?_
  refine ast (n := 4) (j := a) rfl rfl (by omega) ?_
  exact hi a k ha hk rfl rfl _ (CS_one hC hW (by omega)) (fun c hc => sgu_c (by omega))
set_option maxRecDepth 100000 in
theorem u_seals {σ : Sg} {A : St} {hg : Nat} {h v : Int32} {Q : Option Value → Sg → Prop} (hC : MR σ A hg) (hW : WL A) (hu : ¬ ix h (A 12 5) → Q (some (.int UNK)) σ) (ho : ix h (A 12 5) → ¬ rg v 0 20 → Q (some (.int OUT)) σ) (hi : ∀ a k, a < A 12 5 → k ≤ 20 → h = nI a → v = nI k → ∀ σ', MR σ' (stu A 7 a k) hg → FrM σ σ' → Q (some (.int (nI (A 7 a)))) σ') : MetA mX8_seals [.ref 89, .int h, .int v] σ Q := by
  refine MetA_of qX8_seals (Nat.le_of_ble_eq_true rfl) ?_
  refine wpB_sd (stops := []) kX8_seals 40 _ _ _ _ ?_
  have h4 := hW.2.1
  refine m_isHouse hC.2.1 h4 ?_
  refine ⟨fun g => ?_, fun g => hu (fun q => bI_0.mp g ((ix_iff (by omega)).mpr q))⟩
  have hix : ix h (A 12 5) := (ix_iff (by omega)).mp (bI_n0 g)
  refine m_inI (lo := nI 0) (hi := nI 20) rfl rfl ?_
  refine ⟨fun g => ?_, fun g => ho hix (fun q => bI_0.mp g ((rg_iff (by omega) (by omega)).mpr q))⟩
  obtain ⟨k, -, h2, rfl⟩ := (rg_iff (by omega) (by omega)).mp (bI_n0 g)
  obtain ⟨a, ha, rfl⟩ := hix
  refine ald (n := 800) (j := 0 + 168 + a) rfl (by simp only [fa_lit, nI_add]) (by omega) (hC.1.2.2.2.2.2 a ha).1 ?_
  refine ast (n := 800) (j := 0 + 168 + a) rfl (by simp only [fa_lit, nI_add]) (by omega) ?_
  exact hi a k ha h2 rfl rfl _ (MR_one hC hW (by omega)) (FrM.put (by omega))
set_option maxRecDepth 100000 in
theorem t_seed {σ : Sg} {A : St} {hg : Nat} {v : Int32} {Q : Option Value → Sg → Prop} (hC : CS σ A hg) (hW : WL A) (ho : v < 0 → Q (some (.int OUT)) σ) (hi : ∀ k, k < 2 ^ 31 → v = nI k → ∀ σ', CS σ' (stu A 12 4 k) hg → FrX σ σ' → Q (some (.int (nI (A 12 4)))) σ') : MetA mX7_seed [.ref 0, .int v] σ Q := by
  refine MetA_of qX7_seed (Nat.le_of_ble_eq_true rfl) ?_
  refine wpB_sd (stops := []) kX7_seed 40 _ _ _ _ ?_
  refine ⟨fun g => ?_, fun g => ho (Int32.not_le.mp g)⟩
  obtain ⟨k, hk, rfl⟩ := nI_of (Int32.not_lt.mpr g)
  refine fin_i (hi k hk rfl _ (CS_one hC hW (by omega)) (fun c hc => sgu_c (by omega))) ?_
  exact hC.1.2.2.2.2.2.1
set_option maxRecDepth 100000 in
theorem u_seed {σ : Sg} {A : St} {hg : Nat} {v : Int32} {Q : Option Value → Sg → Prop} (hC : MR σ A hg) (hW : WL A) (ho : v < 0 → Q (some (.int OUT)) σ) (hi : ∀ k, k < 2 ^ 31 → v = nI k → ∀ σ', MR σ' (stu A 12 4 k) hg → FrM σ σ' → Q (some (.int (nI (A 12 4)))) σ') : MetA mX8_seed [.ref 89, .int v] σ Q := by
  refine MetA_of qX8_seed (Nat.le_of_ble_eq_true rfl) ?_
  refine wpB_sd (stops := []) kX8_seed 40 _ _ _ _ ?_
  refine ⟨fun g => ?_, fun g => ho (Int32.not_le.mp g)⟩
  obtain ⟨k, hk, rfl⟩ := nI_of (Int32.not_lt.mpr g)
  refine ald (n := 800) (j := 0 + 180) rfl rfl (by omega) hC.1.2.2.2.1 ?_
  refine ast (n := 800) (j := 0 + 180) rfl rfl (by omega) ?_
  exact hi k hk rfl _ (MR_one hC hW (by omega)) (FrM.put (by omega))
set_option maxRecDepth 100000 in
theorem t_give {σ : Sg} {A : St} {hg : Nat} {j h : Int32} {Q : Option Value → Sg → Prop} (hC : CS σ A hg) (hW : WL A) (hu : ¬ (ix j (A 12 0) ∧ ix h (A 12 5)) → Q (some (.int UNK)) σ) (hn : ∀ a b, a < A 12 0 → b < A 12 5 → j = nI a → h = nI b → A 6 a = 1 → Q (some (.int NOTT)) σ) (hi : ∀ a b, a < A 12 0 → b < A 12 5 → j = nI a → h = nI b → A 6 a = 0 → ∀ σ', CS σ' (stu A 1 a b) hg → FrX σ σ' → Q (some (.int (nI (A 1 a)))) σ') : MetA mX7_give [.ref 0, .int j, .int h] σ Q := by
  refine MetA_of qX7_give (Nat.le_of_ble_eq_true rfl) ?_
  refine wpB_sd (stops := []) kX7_give 60 _ _ _ _ ?_
  have h4 := hW.2.1
  have h24 := hW.1.1
  have h0 := hC.1.2.1
  have hj0 := hC.1.1.1
  refine s_has (Or.inl rfl) ?_
  refine ⟨fun g => hu (fun q => bI_0.mp g (by rw [hj0]; exact (ix_iff (by omega)).mpr q.1)), fun g => ?_⟩
  have hixj : ix j (A 12 0) := (ix_iff (by omega)).mp (by have := bI_n0 g; rw [hj0] at this; exact this)
  refine s_hasHouse (Or.inl rfl) ?_
  refine ⟨fun g => ?_, fun g => hu (fun q => bI_0.mp g (by rw [h0]; exact (ix_iff (by omega)).mpr q.2))⟩
  have hix : ix h (A 12 5) := (ix_iff (by omega)).mp (by have := bI_n0 g; rw [h0] at this; exact this)
  obtain ⟨a, ha, rfl⟩ := hixj
  obtain ⟨b, hb, rfl⟩ := hix
  have h6 := (hW.1.2.2 a ha).2.2.2.2.2.2
  refine s_isGone (Or.inl rfl) hC.1.1 hW.1 ha ?_
  refine ⟨fun g => ?_, fun g => hn a b ha hb rfl rfl (bI_n0 g)⟩
  have g := bI_0.mp g
  refine ald (n := 24) (j := a) rfl rfl (by omega) (hC.1.1.2.2 a ha).2.1 ?_
  refine ast (n := 24) (j := a) rfl rfl (by omega) ?_
  exact hi a b ha hb rfl rfl (by omega) _ (CS_one hC hW (by omega)) (fun c hc => sgu_c (by omega))
set_option maxRecDepth 100000 in
theorem u_give {σ : Sg} {A : St} {hg : Nat} {j h : Int32} {Q : Option Value → Sg → Prop} (hC : MR σ A hg) (hW : WL A) (hu : ¬ (ix j (A 12 0) ∧ ix h (A 12 5)) → Q (some (.int UNK)) σ) (hn : ∀ a b, a < A 12 0 → b < A 12 5 → j = nI a → h = nI b → A 6 a = 1 → Q (some (.int NOTT)) σ) (hi : ∀ a b, a < A 12 0 → b < A 12 5 → j = nI a → h = nI b → A 6 a = 0 → ∀ σ', MR σ' (stu A 1 a b) hg → FrM σ σ' → Q (some (.int (nI (A 1 a)))) σ') : MetA mX8_give [.ref 89, .int j, .int h] σ Q := by
  refine MetA_of qX8_give (Nat.le_of_ble_eq_true rfl) ?_
  refine wpB_sd (stops := []) kX8_give 60 _ _ _ _ ?_
  have h4 := hW.2.1
  have h24 := hW.1.1
  refine m_isJar hC.1 h24 ?_
  refine ⟨fun g => hu (fun q => bI_0.mp g ((ix_iff (by omega)).mpr q.1)), fun g => ?_⟩
  have hixj : ix j (A 12 0) := (ix_iff (by omega)).mp (bI_n0 g)
  refine m_isHouse hC.2.1 h4 ?_
  refine ⟨fun g => ?_, fun g => hu (fun q => bI_0.mp g ((ix_iff (by omega)).mpr q.2))⟩
  have hix : ix h (A 12 5) := (ix_iff (by omega)).mp (bI_n0 g)
  obtain ⟨a, ha, rfl⟩ := hixj
  obtain ⟨b, hb, rfl⟩ := hix
  have h6 := (hW.1.2.2 a ha).2.2.2.2.2.2
  have r := hC.1.2.2.2.2.1 a ha
  refine ald (n := 800) (j := 0 + 144 + a) rfl (by simp only [fa_lit, nI_add]) (by omega) r.2.2.2.2.2.2 ?_
  refine ⟨fun g => ?_, fun g => hn a b ha hb rfl rfl ((nI_eq (b := 1) (by omega) (by omega)).mp g)⟩
  have g : ¬ A 6 a = 1 := fun q => g (by rw [q]; rfl)
  refine ald (n := 800) (j := 0 + 24 + a) rfl (by simp only [fa_lit, nI_add]) (by omega) r.2.1 ?_
  refine ast (n := 800) (j := 0 + 24 + a) rfl (by simp only [fa_lit, nI_add]) (by omega) ?_
  exact hi a b ha hb rfl rfl (by omega) _ (MR_one hC hW (by omega)) (FrM.put (by omega))
set_option maxRecDepth 100000 in
theorem t_label {σ : Sg} {A : St} {hg : Nat} {j v : Int32} {Q : Option Value → Sg → Prop} (hC : CS σ A hg) (hW : WL A) (hu : ¬ ix j (A 12 0) → Q (some (.int UNK)) σ) (ho : ix j (A 12 0) → ¬ rg v 0 9999 → Q (some (.int OUT)) σ) (hn : ∀ a b, a < A 12 0 → b ≤ 9999 → j = nI a → v = nI b → A 6 a = 1 → Q (some (.int NOTT)) σ) (hi : ∀ a b, a < A 12 0 → b ≤ 9999 → j = nI a → v = nI b → A 6 a = 0 → ∀ σ', CS σ' (stu A 2 a b) hg → FrX σ σ' → Q (some (.int (nI (A 2 a)))) σ') : MetA mX7_label [.ref 0, .int j, .int v] σ Q := by
  refine MetA_of qX7_label (Nat.le_of_ble_eq_true rfl) ?_
  refine wpB_sd (stops := []) kX7_label 60 _ _ _ _ ?_
  have h24 := hW.1.1
  have hj0 := hC.1.1.1
  refine s_has (Or.inl rfl) ?_
  refine ⟨fun g => ?_, fun g => hu (fun q => bI_0.mp g (by rw [hj0]; exact (ix_iff (by omega)).mpr q))⟩
  have hixj : ix j (A 12 0) := (ix_iff (by omega)).mp (by have := bI_n0 g; rw [hj0] at this; exact this)
  refine ⟨fun g2 => ho hixj (rg_lt (lo := 0) (by omega) (by omega) g2), fun g2 => ⟨fun g3 => ?_, fun g3 => ho hixj (rg_gt (hi := 9999) (by omega) (by omega) (Int32.not_le.mp g3))⟩⟩
  obtain ⟨k, -, hk, rfl⟩ := rg_of (lo := 0) (hi := 9999) (by omega) (by omega) g2 (Int32.not_lt.mpr g3)
  obtain ⟨a, ha, rfl⟩ := hixj
  have h6 := (hW.1.2.2 a ha).2.2.2.2.2.2
  refine s_isGone (Or.inl rfl) hC.1.1 hW.1 ha ?_
  refine ⟨fun g => ?_, fun g => hn a k ha hk rfl rfl (bI_n0 g)⟩
  have g := bI_0.mp g
  refine ald (n := 24) (j := a) rfl rfl (by omega) (hC.1.1.2.2 a ha).2.2.1 ?_
  refine ast (n := 24) (j := a) rfl rfl (by omega) ?_
  exact hi a k ha hk rfl rfl (by omega) _ (CS_one hC hW (by omega)) (fun c hc => sgu_c (by omega))
set_option maxRecDepth 100000 in
theorem u_label {σ : Sg} {A : St} {hg : Nat} {j v : Int32} {Q : Option Value → Sg → Prop} (hC : MR σ A hg) (hW : WL A) (hu : ¬ ix j (A 12 0) → Q (some (.int UNK)) σ) (ho : ix j (A 12 0) → ¬ rg v 0 9999 → Q (some (.int OUT)) σ) (hn : ∀ a b, a < A 12 0 → b ≤ 9999 → j = nI a → v = nI b → A 6 a = 1 → Q (some (.int NOTT)) σ) (hi : ∀ a b, a < A 12 0 → b ≤ 9999 → j = nI a → v = nI b → A 6 a = 0 → ∀ σ', MR σ' (stu A 2 a b) hg → FrM σ σ' → Q (some (.int (nI (A 2 a)))) σ') : MetA mX8_label [.ref 89, .int j, .int v] σ Q := by
  refine MetA_of qX8_label (Nat.le_of_ble_eq_true rfl) ?_
  refine wpB_sd (stops := []) kX8_label 60 _ _ _ _ ?_
  have h24 := hW.1.1
  refine m_isJar hC.1 h24 ?_
  refine ⟨fun g => ?_, fun g => hu (fun q => bI_0.mp g ((ix_iff (by omega)).mpr q))⟩
  have hixj : ix j (A 12 0) := (ix_iff (by omega)).mp (bI_n0 g)
  refine m_inI (lo := nI 0) (hi := nI 9999) rfl rfl ?_
  refine ⟨fun g => ?_, fun g => ho hixj (fun q => bI_0.mp g ((rg_iff (by omega) (by omega)).mpr q))⟩
  obtain ⟨k, -, hk, rfl⟩ := (rg_iff (by omega) (by omega)).mp (bI_n0 g)
  obtain ⟨a, ha, rfl⟩ := hixj
  have h6 := (hW.1.2.2 a ha).2.2.2.2.2.2
  have r := hC.1.2.2.2.2.1 a ha
  refine ald (n := 800) (j := 0 + 144 + a) rfl (by simp only [fa_lit, nI_add]) (by omega) r.2.2.2.2.2.2 ?_
  refine ⟨fun g => ?_, fun g => hn a k ha hk rfl rfl ((nI_eq (b := 1) (by omega) (by omega)).mp g)⟩
  have g : ¬ A 6 a = 1 := fun q => g (by rw [q]; rfl)
  refine ald (n := 800) (j := 0 + 48 + a) rfl (by simp only [fa_lit, nI_add]) (by omega) r.2.2.1 ?_
  refine ast (n := 800) (j := 0 + 48 + a) rfl (by simp only [fa_lit, nI_add]) (by omega) ?_
  exact hi a k ha hk rfl rfl (by omega) _ (MR_one hC hW (by omega)) (FrM.put (by omega))
