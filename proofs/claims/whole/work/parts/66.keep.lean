/-! keep, goBack -/
theorem nar1 : vp_nar .boolean 1 = 1 := by decide +kernel
set_option maxRecDepth 100000 in
theorem t_keep {σ : Sg} {A : St} {hg : Nat} {i : Int32} {Q : Option Value → Sg → Prop} (hC : CS σ A hg) (hW : WL A) (hu : ¬ rg i 0 1 → Q (some (.int UNK)) σ) (h : ∀ k, k ≤ 1 → i = nI k → ∀ σ', RLd (28 + 13 * k) σ' A → σ' (28 + 13 * k) 8 = nI hg → σ' 54 k = 1 → (∀ j, j ≠ k → σ' 54 j = σ 54 j) → (∀ c, c ≠ 54 → ¬ (28 + 13 * k ≤ c ∧ c ≤ 28 + 13 * k + 12) → σ' c = σ c) → Q (some (.int 1)) σ') : MetA mX7_keep [.ref 0, .int i] σ Q := by
  refine MetA_of qX7_keep (Nat.le_of_ble_eq_true rfl) ?_
  refine wpB_sd (stops := []) kX7_keep 40 _ _ _ _ ?_
  refine ⟨fun g => hu (rg_lt (lo := 0) (by omega) (by omega) g), fun g => ⟨fun g2 => ?_, fun g2 => hu (fun q => ?_)⟩⟩
  · obtain ⟨k, hk, rfl⟩ : ix i 2 := (ix_iff (by omega)).mp ⟨Int32.not_lt.mp g, g2⟩
    refine ⟨aok (n := 2) rfl rfl hk, ?_⟩
    rw [nI_clamp (by omega)]
    have h := h k (by omega) rfl
    have cl : (nI k).toNatClampNeg = k := nI_clamp (by omega)
    rcases (show k = 0 ∨ k = 1 by omega) with rfl | rfl
    · refine mAr (by rfl) (s_copyL (d := 28) (s := 1) (by simp) hC.1 hW.2.1 hW.2.2.1 hW.1.1 (fun σ' hR he hF => ?_))
      refine ⟨aok (n := 2) (j := 0) rfl rfl (by omega), fun σ2 e2 => ?_⟩
      have e2 : σ2 = sgu σ' 54 0 1 := by rw [e2, cl]; exact congrArg _ nar1
      subst e2
      exact h _ (hR.fr (fun c a b d => sgu_c (by omega))) (by rw [sgu_c (by omega)]; exact he.trans hC.2) sgu_s (fun j hj => by rw [sgu_k hj, hF 54 (by omega)]) (fun c hc hc2 => by rw [sgu_c hc]; exact hF c (by omega))
    · refine mAr (by rfl) (s_copyL (d := 41) (s := 1) (by simp) hC.1 hW.2.1 hW.2.2.1 hW.1.1 (fun σ' hR he hF => ?_))
      refine ⟨aok (n := 2) (j := 1) rfl rfl (by omega), fun σ2 e2 => ?_⟩
      have e2 : σ2 = sgu σ' 54 1 1 := by rw [e2, cl]; exact congrArg _ nar1
      subst e2
      exact h _ (hR.fr (fun c a b d => sgu_c (by omega))) (by rw [sgu_c (by omega)]; exact he.trans hC.2) sgu_s (fun j hj => by rw [sgu_k hj, hF 54 (by omega)]) (fun c hc hc2 => by rw [sgu_c hc]; exact hF c (by omega))
  · obtain ⟨k, -, hk, rfl⟩ := q
    exact g2 (nI_lt (b := 2) (by omega) (by omega))
set_option maxRecDepth 100000 in
theorem t_goBack {σ : Sg} {I : St} {hg : Nat} {i : Int32} {Q : Option Value → Sg → Prop} (hu : ¬ rg i 0 1 → Q (some (.int UNK)) σ) (hn : ∀ k, k ≤ 1 → i = nI k → σ 54 k = 0 → Q (some (.int NOTT)) σ) (hI : ∀ k, k ≤ 1 → i = nI k → ¬ σ 54 k = 0 → RLd (28 + 13 * k) σ I ∧ WL I ∧ σ (28 + 13 * k) 8 = nI hg) (h : ∀ k, k ≤ 1 → i = nI k → ¬ σ 54 k = 0 → ∀ σ', CS σ' I hg → FrX σ σ' → Q (some (.int 1)) σ') : MetA mX7_goBack [.ref 0, .int i] σ Q := by
  refine MetA_of qX7_goBack (Nat.le_of_ble_eq_true rfl) ?_
  refine wpB_sd (stops := []) kX7_goBack 40 _ _ _ _ ?_
  refine ⟨fun g => hu (rg_lt (lo := 0) (by omega) (by omega) g), fun g => ⟨fun g2 => ?_, fun g2 => hu (fun q => ?_)⟩⟩
  · obtain ⟨k, hk, rfl⟩ : ix i 2 := (ix_iff (by omega)).mp ⟨Int32.not_lt.mp g, g2⟩
    have hn := hn k (by omega) rfl
    have hI := hI k (by omega) rfl
    have h := h k (by omega) rfl
    have cl : (nI k).toNatClampNeg = k := nI_clamp (by omega)
    refine ⟨aok (n := 2) rfl rfl hk, nm_r (e' := σ 54 k) (by rw [cl]) ?_⟩
    refine ⟨fun g3 => ?_, hn⟩
    obtain ⟨h1, h2, h3⟩ := hI g3
    refine ⟨aok (n := 2) rfl rfl hk, ?_⟩
    rw [cl]
    rcases (show k = 0 ∨ k = 1 by omega) with rfl | rfl
    · refine mAr (by rfl) (s_copyL (d := 1) (s := 28) (by simp) h1 h2.2.1 h2.2.2.1 h2.1.1 (fun σ' hR he hF => ?_))
      exact h g3 σ' ⟨hR, he.trans h3⟩ hF.x
    · refine mAr (by rfl) (s_copyL (d := 1) (s := 41) (by simp) h1 h2.2.1 h2.2.2.1 h2.1.1 (fun σ' hR he hF => ?_))
      exact h g3 σ' ⟨hR, he.trans h3⟩ hF.x
  · obtain ⟨k, -, hk, rfl⟩ := q
    exact g2 (nI_lt (b := 2) (by omega) (by omega))
set_option maxRecDepth 100000 in
theorem u_keep {σ : Sg} {A : St} {hg : Nat} {i : Int32} {Q : Option Value → Sg → Prop} (hC : MR σ A hg) (hW : WL A) (hu : ¬ rg i 0 1 → Q (some (.int UNK)) σ) (h : ∀ k, k ≤ 1 → i = nI k → ∀ σ', RMr (400 + 200 * k) σ' A → σ' 90 (400 + 200 * k + 178) = nI hg → σ' 91 k = 1 → (∀ j, j ≠ k → σ' 91 j = σ 91 j) → (∀ c, c ≠ 90 → c ≠ 91 → σ' c = σ c) → (∀ j, ¬ (400 + 200 * k ≤ j ∧ j < 400 + 200 * k + 200) → σ' 90 j = σ 90 j) → Q (some (.int 1)) σ') : MetA mX8_keep [.ref 89, .int i] σ Q := by
  refine MetA_of qX8_keep (Nat.le_of_ble_eq_true rfl) ?_
  refine wpB_sd (stops := []) kX8_keep 40 _ _ _ _ ?_
  refine mAr (by rfl) (m_inI (a := i) (lo := nI 0) (hi := nI 1) (l := 0) (h := 1) rfl rfl ?_)
  refine ⟨fun g => ?_, fun g => hu (fun q => bI_0.mp g ((rg_iff (by omega) (by omega)).mpr q))⟩
  obtain ⟨k, -, hk, rfl⟩ := (rg_iff (by omega) (by omega)).mp (bI_n0 g)
  have h := h k hk rfl
  have cl : (nI k).toNatClampNeg = k := nI_clamp (by omega)
  refine mAr (by simp only [fa_lit, pk_mul, nI_add]) (m_copy (x := 0) (y := 400 + 200 * k) (by omega) (by omega) (by omega) (fun σ' h1 h2 h3 => ?_))
  refine ⟨aok (n := 2) (j := k) rfl rfl (by omega), fun σ2 e2 => ?_⟩
  have e2 : σ2 = sgu σ' 91 k 1 := by rw [e2, cl]; exact congrArg _ nar1
  subst e2
  have hR : RMr (400 + 200 * k) σ' A := RMr_copy hC.1 hW.1.1 hW.2.1 h1
  refine h _ (RMr.fr hR hW.1.1 hW.2.1 (fun j _ _ _ => by rw [sgu_c (by omega)])) ?_ sgu_s (fun j hj => by rw [sgu_k hj, h3 91 (by omega)]) (fun c hc hc2 => by rw [sgu_c hc2]; exact h3 c hc) (fun j hj => by rw [sgu_c (by omega)]; exact h2 j (by omega))
  rw [sgu_c (by omega), h1 178 (by omega)]; exact hC.2.2
set_option maxRecDepth 100000 in
theorem u_goBack {σ : Sg} {I : St} {hg : Nat} {i : Int32} {Q : Option Value → Sg → Prop} (hu : ¬ rg i 0 1 → Q (some (.int UNK)) σ) (hn : ∀ k, k ≤ 1 → i = nI k → σ 91 k = 0 → Q (some (.int NOTT)) σ) (hI : ∀ k, k ≤ 1 → i = nI k → ¬ σ 91 k = 0 → RMr (400 + 200 * k) σ I ∧ RMg σ I ∧ WL I ∧ σ 90 (400 + 200 * k + 178) = nI hg) (h : ∀ k, k ≤ 1 → i = nI k → ¬ σ 91 k = 0 → ∀ σ', MR σ' I hg → FrM σ σ' → Q (some (.int 1)) σ') : MetA mX8_goBack [.ref 89, .int i] σ Q := by
  refine MetA_of qX8_goBack (Nat.le_of_ble_eq_true rfl) ?_
  refine wpB_sd (stops := []) kX8_goBack 40 _ _ _ _ ?_
  refine mAr (by rfl) (m_inI (a := i) (lo := nI 0) (hi := nI 1) (l := 0) (h := 1) rfl rfl ?_)
  refine ⟨fun g => ?_, fun g => hu (fun q => bI_0.mp g ((rg_iff (by omega) (by omega)).mpr q))⟩
  obtain ⟨k, -, hk, rfl⟩ := (rg_iff (by omega) (by omega)).mp (bI_n0 g)
  have hn := hn k hk rfl
  have hI := hI k hk rfl
  have h := h k hk rfl
  have cl : (nI k).toNatClampNeg = k := nI_clamp (by omega)
  refine ⟨aok (n := 2) (j := k) rfl rfl (by omega), nm_r (e' := σ 91 k) (by rw [cl]) ?_⟩
  refine ⟨fun g3 => ?_, hn⟩
  obtain ⟨h1, h2, h3, h4⟩ := hI g3
  refine mAr (by simp only [fa_lit, pk_mul, nI_add]) (m_copy (x := 400 + 200 * k) (y := 0) (by omega) (by omega) (by omega) (fun σ' c1 c2 c3 => ?_))
  refine h g3 σ' ⟨RMr_copy h1 h3.1.1 h3.2.1 c1, h2.fr (fun c hc => c3 c (by omega)), ?_⟩ ⟨fun c hc _ => c3 c hc, fun j hj => c2 j (by omega)⟩
  have := c1 178 (by omega)
  rw [Nat.zero_add] at this
  rw [this]; exact h4
