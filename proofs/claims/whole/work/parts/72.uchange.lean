/-! change: the reference -/
theorem MR_back {σ σ' : Sg} {A : St} {hg : Nat} (hC : MR σ A hg) (hW : WL A) (hF : FrP 200 σ σ') : MR σ' A hg := ⟨RMr.fr hC.1 hW.1.1 hW.2.1 (fun j _ q _ => hF.2 j (by omega)), hC.2.1.fr (fun c hc => hF.1 c (by omega) (by omega)), by rw [hF.2 178 (by omega)]; exact hC.2.2⟩
theorem FrP_copy {σ σ' : Sg} (h2 : ∀ k, k < 200 ∨ 200 + 200 ≤ k → σ' 90 k = σ 90 k) (h3 : ∀ c, c ≠ 90 → σ' c = σ c) : FrP 200 σ σ' := ⟨fun c hc _ => h3 c hc, h2⟩
set_option maxRecDepth 100000 in
set_option maxHeartbeats 2000000 in
theorem m_changes {σ : Sg} {A : St} {hg n a b : Nat} {Q : Option Value → Sg → Prop} (hC : MR σ A hg) (hW : WL A) (hn : n ≤ 20) (hy : A 12 1 + 99 < 2 ^ 19) (h9 : hg ≤ 999999999) (ha : a < b) (hb : b < A 12 0) (h0 : ¬ BetP A n a b → ∀ σ', MR σ' A hg → FrM σ σ' → Q (some (.int 0)) σ') (h1 : BetP A n a b → ∀ σ', MR σ' (swA A a b) hg → FrM σ σ' → Q (some (.int 1)) σ') : MetA mX8_changes [.ref 89, .int (nI a), .int (nI b), .int (nI n)] σ Q := by
  refine MetA_of qX8_changes (Nat.le_of_ble_eq_true rfl) ?_
  have ha0 : a < A 12 0 := by omega
  have h4 := hW.2.1
  have h24 := hW.1.1
  have ho1 := hW.2.2.2.2.2.2.2 a ha0
  have ho2 := hW.2.2.2.2.2.2.2 b hb
  have hg1 := (hW.1.2.2 a ha0).2.2.2.2.2.2
  have hg2 := (hW.1.2.2 b hb).2.2.2.2.2.2
  have hWo := WL_own (a := a) hW ho2
  have hWs := WL_sw hW ha0 hb
  have e5 : swA A a b 12 5 = A 12 5 := swA_f (by omega)
  have e1 : swA A a b 12 1 = A 12 1 := swA_f (by omega)
  have l1 := hbA_le (n := n) (h := A 1 a) hW (by omega)
  have l2 := hbA_le (n := n) (h := A 1 b) hW (by omega)
  have l3 := hbA_le (n := n) (h := A 1 a) hWs (by omega)
  have l4 := hbA_le (n := n) (h := A 1 b) hWs (by omega)
  have ra : ∀ f, f < 7 → σ 90 (24 * f + a) = nI (A f a) := by
    have := hC.1.2.2.2.2.1 a ha0
    simp only [Nat.zero_add] at this
    intro f hf
    match f with
    | 0 => exact (by simpa using this.1)
    | 1 => exact this.2.1
    | 2 => exact this.2.2.1
    | 3 => exact this.2.2.2.1
    | 4 => exact this.2.2.2.2.1
    | 5 => exact this.2.2.2.2.2.1
    | 6 => exact this.2.2.2.2.2.2
    | f + 7 => exact absurd hf (by omega)
  have rb : ∀ f, f < 7 → σ 90 (24 * f + b) = nI (A f b) := by
    have := hC.1.2.2.2.2.1 b hb
    simp only [Nat.zero_add] at this
    intro f hf
    match f with
    | 0 => exact (by simpa using this.1)
    | 1 => exact this.2.1
    | 2 => exact this.2.2.1
    | 3 => exact this.2.2.2.1
    | 4 => exact this.2.2.2.2.1
    | 5 => exact this.2.2.2.2.2.1
    | 6 => exact this.2.2.2.2.2.2
    | f + 7 => exact absurd hf (by omega)
  have no : ¬ BetP A n a b → ((0 : Int32) = 0 ∨ (0 : Int32) = 1) ∧ Q (some (.int 0)) σ := fun q => ⟨Or.inl rfl, h0 q σ hC FrM.rf⟩
  -- the end
  have fin : ∀ σ' u, (u = bI (BetP A n a b)) → MR σ' A hg → FrM σ σ' → V mX8_changes 156 [(0, .ref 89), (1, .int (nI a)), (2, .int (nI b)), (3, .int (nI n)), (4, .int (nI (A 1 a))), (5, .int (nI (A 1 b)))] [.int u] σ' Q := by
    intro σ' u hu hC' hF'
    by_cases q : BetP A n a b
    · rw [bI_t q] at hu
      subst hu
      refine wpB_sd (stops := []) kX8_changes 60 _ _ _ _ ?_
      refine br_f (by decide) ?_
      refine ast (n := 800) (j := 0 + 24 + a) rfl (by simp only [fa_lit, nI_add]) (by omega) ?_
      refine br_f (by decide) ?_
      refine ast (n := 800) (j := 0 + 24 + b) rfl (by simp only [fa_lit, nI_add]) (by omega) ?_
      refine ⟨Or.inr rfl, h1 q _ ?_ ?_⟩
      · exact MR_one (MR_one hC' hW (by omega)) hWo (by omega)
      · exact (hF'.tr (FrM.put (by omega))).tr (FrM.put (by omega))
    · rw [bI_f q] at hu
      subst hu
      refine wpB_sd (stops := []) kX8_changes 60 _ _ _ _ ?_
      refine br_t (by decide) ?_
      refine ast (n := 800) (j := 0 + 24 + a) rfl (by simp only [fa_lit, nI_add]) (by omega) ?_
      refine br_t (by decide) ?_
      refine ast (n := 800) (j := 0 + 24 + b) rfl (by simp only [fa_lit, nI_add]) (by omega) ?_
      refine ⟨Or.inl rfl, h0 q _ ?_ ?_⟩
      · have t1 : MR (sgu σ' 90 (0 + 24 + a) (nI (A 1 a))) (stu A 1 a (A 1 a)) hg := MR_one hC' hW (by omega)
        rw [stu_id rfl] at t1
        have t2 : MR (sgu (sgu σ' 90 (0 + 24 + a) (nI (A 1 a))) 90 (0 + 24 + b) (nI (A 1 b))) (stu A 1 b (A 1 b)) hg := MR_one t1 hW (by omega)
        rw [stu_id rfl] at t2
        exact t2
      · exact (hF'.tr (FrM.put (by omega))).tr (FrM.put (by omega))
  refine wpB_sd (stops := [156]) kX8_changes 200 _ _ _ _ ?_
  refine ald (n := 800) (j := 24 * 1 + a) rfl (by simp only [fa_lit, nI_add]) (by omega) (ra 1 (by omega)) ?_
  refine ald (n := 800) (j := 24 * 1 + b) rfl (by simp only [fa_lit, nI_add]) (by omega) (rb 1 (by omega)) ?_
  refine ⟨fun g => no (by intro q; exact q.1.2.2 ((nI_eq (by omega) (by omega)).mp g)), fun g => ?_⟩
  have g3 : A 1 a ≠ A 1 b := fun q => g (by rw [q])
  refine ald (n := 800) (j := 24 * 6 + a) rfl (by simp only [fa_lit, nI_add]) (by omega) (ra 6 (by omega)) ?_
  refine ⟨fun g => no (by intro q; have := (nI_eq (b := 1) (by omega) (by omega)).mp g; have := q.1.1; omega), fun g => ?_⟩
  have g1 : A 6 a = 0 := by
    have : A 6 a ≠ 1 := fun q => g (by rw [q]; rfl)
    omega
  refine ald (n := 800) (j := 24 * 6 + b) rfl (by simp only [fa_lit, nI_add]) (by omega) (rb 6 (by omega)) ?_
  refine ⟨fun g => ?_, fun g => no (by intro q; have := (nI_eq (b := 1) (by omega) (by omega)).mp g; have := q.1.2.1; omega)⟩
  have g2 : A 6 b = 0 := by
    have : A 6 b ≠ 1 := fun q => g (by rw [q]; rfl)
    omega
  refine mAr (by rfl) (m_copy (x := 0) (y := 200) (by omega) (by omega) (by omega) (fun σ1 c1 c2 c3 => ?_))
  have hR1 : RMr 200 σ1 A := RMr_copy hC.1 h24 h4 c1
  have hF1 := FrP_copy c2 c3
  have hC1 := MR_back hC hW hF1
  have hh1 : σ1 90 378 = nI hg := by
    have := c1 178 (by omega)
    simp only [Nat.zero_add] at this
    exact this.trans hC.2.2
  refine m_try hR1 hC1.2.1 hW (by omega) (by omega) hh1 h9 (fun σ2 hP2 hF2 => ?_)
  have hC2 := MR_back hC1 hW hF2
  refine ald (n := 4) (j := A 1 a) rfl rfl (by omega) (hP2.2.2.1 (A 1 a) (by omega)) ?_
  refine ald (n := 4) (j := A 1 b) rfl rfl (by omega) (hP2.2.2.1 (A 1 b) (by omega)) ?_
  refine mAr (by rfl) (m_copy (x := 0) (y := 200) (by omega) (by omega) (by omega) (fun σ3 d1 d2 d3 => ?_))
  have hR3 : RMr 200 σ3 A := RMr_copy hC2.1 h24 h4 d1
  have hF3 := FrP_copy d2 d3
  have hC3 := MR_back hC2 hW hF3
  have hh3 : σ3 90 378 = nI hg := by
    have := d1 178 (by omega)
    simp only [Nat.zero_add] at this
    exact this.trans hC2.2.2
  refine ast (n := 800) (j := 200 + 24 + a) rfl (by simp only [fa_lit, nI_add]) (by omega) ?_
  refine ast (n := 800) (j := 200 + 24 + b) rfl (by simp only [fa_lit, nI_add]) (by omega) ?_
  have hF4 : FrP 200 σ3 (sgu (sgu σ3 90 (200 + 24 + a) (nI (A 1 b))) 90 (200 + 24 + b) (nI (A 1 a))) := FrP.tr (FrP.put (by omega) (by omega)) (FrP.put (by omega) (by omega))
  have hR4 : RMr 200 (sgu (sgu σ3 90 (200 + 24 + a) (nI (A 1 b))) 90 (200 + 24 + b) (nI (A 1 a))) (swA A a b) := RMr_one (RMr_one hR3 hW (by omega)) hWo (by omega)
  have hC4 := MR_back hC3 hW hF4
  have hG4 : RMg (sgu (sgu σ3 90 (200 + 24 + a) (nI (A 1 b))) 90 (200 + 24 + b) (nI (A 1 a))) (swA A a b) := hC4.2.1.eq (swA_f (by omega)) (swA_f (by omega)) (fun i => swA_f (by omega)) (fun i => swA_f (by omega))
  have hh4 : sgu (sgu σ3 90 (200 + 24 + a) (nI (A 1 b))) 90 (200 + 24 + b) (nI (A 1 a)) 90 378 = nI hg := by rw [sgu_k (by omega), sgu_k (by omega)]; exact hh3
  refine m_try hR4 hG4 hWs (by omega) (by omega) hh4 h9 (fun σ5 hP5 hF5 => ?_)
  have hC5 := MR_back hC4 hW hF5
  have hFm : FrM σ σ5 := ((((hF1.tr hF2).tr hF3).tr hF4).tr hF5).m (by omega)
  refine ald (n := 4) (j := A 1 a) rfl rfl (by omega) (hP5.2.2.1 (A 1 a) (by omega)) ?_
  refine ⟨fun g => ?_, fun g => ?_⟩
  · have g : hbA A n (A 1 a) ≤ hbA (swA A a b) n (A 1 a) := (nI_leI (by omega) (by omega)).mp g
    exact V.take 6 (fin σ5 0 (bI_f (fun q => by have := q.2.1; omega)).symm hC5 hFm)
  have g : ¬ hbA A n (A 1 a) ≤ hbA (swA A a b) n (A 1 a) := fun q => g (nI_le q (by unfold hbA at l3; omega))
  refine ald (n := 4) (j := A 1 b) rfl rfl (by omega) (hP5.2.2.1 (A 1 b) (by omega)) ?_
  refine ⟨fun g => ?_, fun g => ?_⟩
  · have g : hbA A n (A 1 b) ≤ hbA (swA A a b) n (A 1 b) := (nI_leI (by omega) (by omega)).mp g
    exact V.take 6 (fin σ5 0 (bI_f (fun q => by have := q.2.2; omega)).symm hC5 hFm)
  have g' : ¬ hbA A n (A 1 b) ≤ hbA (swA A a b) n (A 1 b) := fun q => g (nI_le q (by unfold hbA at l4; omega))
  exact V.take 6 (fin σ5 1 (bI_t ⟨⟨g1, g2, g3⟩, by omega, by omega⟩).symm hC5 hFm)
set_option maxRecDepth 100000 in
set_option maxHeartbeats 1000000 in
theorem m_changeFirst {σ : Sg} {A : St} {hg n : Nat} {Q : Option Value → Sg → Prop} (hC : MR σ A hg) (hW : WL A) (hn : n ≤ 20) (hy : A 12 1 + 99 < 2 ^ 19) (h9 : hg ≤ 999999999) (h0 : ch2 A n (A 12 0) 0 = none → ∀ σ', MR σ' A hg → FrM σ σ' → Q (some (.int 0)) σ') (h1 : ∀ B, ch2 A n (A 12 0) 0 = some B → WL B → B 12 1 = A 12 1 → ∀ σ', MR σ' B hg → FrM σ σ' → Q (some (.int 1)) σ') : MetA mX8_changeFirst [.ref 89, .int (nI n)] σ Q := by
  refine MetA_of qX8_changeFirst (Nat.le_of_ble_eq_true rfl) ?_
  have h24 := hW.1.1
  have h4 := hW.2.1
  have inner : ∀ a, a < A 12 0 → (∀ σ', MR σ' A hg → FrM σ σ' → ch1 A n a (A 12 0 - (a + 1)) (a + 1) = none → V mX8_changeFirst 48 [(0, .ref 89), (1, .int (nI n)), (2, .int (nI a))] [] σ' Q) → (∀ B, ch1 A n a (A 12 0 - (a + 1)) (a + 1) = some B → ch2 A n (A 12 0) 0 = some B) → ∀ m b σ', a < b → b + m = A 12 0 → ch1 A n a (A 12 0 - (a + 1)) (a + 1) = ch1 A n a m b → MR σ' A hg → FrM σ σ' → V mX8_changeFirst 18 [(0, .ref 89), (1, .int (nI n)), (2, .int (nI a)), (3, .int (nI b))] [] σ' Q := by
    intro a ha hnx hso m
    induction m with
    | zero =>
      intro b σ' hab hbm he hC' hF'
      refine wpB_sd (stops := [18, 48]) kX8_changeFirst 30 _ _ _ _ ?_
      refine ald (n := 800) (j := 0 + 176) rfl rfl (by omega) hC'.1.1 ?_
      refine br_t (nI_le (by omega) (by omega)) ?_
      exact V.take 3 (hnx σ' hC' hF' he)
    | succ m ih =>
      intro b σ' hab hbm he hC' hF'
      refine wpB_sd (stops := [18, 48]) kX8_changeFirst 40 _ _ _ _ ?_
      refine ald (n := 800) (j := 0 + 176) rfl rfl (by omega) hC'.1.1 ?_
      refine br_f (nI_ge (by omega) (by omega)) ?_
      rw [ch1] at he
      refine m_changes hC' hW hn hy h9 hab (by omega) (fun q σ1 hC1 hF1 => ?_) (fun q σ1 hC1 hF1 => ?_)
      · rw [if_neg q] at he
        refine br_t (by decide) ?_
        have nxt := ih (b + 1) σ1 (by omega) (by omega) he hC1 (hF'.tr hF1)
        rw [← nI_1] at nxt
        exact nxt
      · rw [if_pos q] at he
        refine br_f (by decide) ?_
        exact ⟨Or.inr rfl, h1 _ (hso _ he) (WL_sw hW (by omega) (by omega)) (swA_f (by omega)) σ1 hC1 (hF'.tr hF1)⟩
  have outer : ∀ m a σ', a + m = A 12 0 → ch2 A n (A 12 0) 0 = ch2 A n m a → MR σ' A hg → FrM σ σ' → V mX8_changeFirst 2 [(0, .ref 89), (1, .int (nI n)), (2, .int (nI a))] [] σ' Q := by
    intro m
    induction m with
    | zero =>
      intro a σ' ha he hC' hF'
      refine wpB_sd (stops := [2]) kX8_changeFirst 30 _ _ _ _ ?_
      refine ald (n := 800) (j := 0 + 176) rfl rfl (by omega) hC'.1.1 ?_
      refine br_t (nI_le (by omega) (by omega)) ?_
      exact ⟨Or.inl rfl, h0 he σ' hC' hF'⟩
    | succ m ih =>
      intro a σ' ha he hC' hF'
      have em : A 12 0 - (a + 1) = m := by omega
      refine wpB_sd (stops := [2, 18]) kX8_changeFirst 30 _ _ _ _ ?_
      refine ald (n := 800) (j := 0 + 176) rfl rfl (by omega) hC'.1.1 ?_
      refine br_f (nI_ge (by omega) (by omega)) ?_
      have nxt := inner a (by omega) (fun σ1 hC1 hF1 hn1 => by
          refine wpB_sd (stops := [2]) kX8_changeFirst 30 _ _ _ _ ?_
          rw [em] at hn1
          have nx := ih (a + 1) σ1 (by omega) (by rw [he, ch2, hn1]) hC1 hF1
          rw [← nI_1] at nx
          exact nx) (fun B hB => by rw [em] at hB; rw [he, ch2, hB]) m (a + 1) σ' (by omega) (by omega) (by rw [em]) hC' hF'
      rw [← nI_1] at nxt
      exact nxt
  refine wpB_sd (stops := [2]) kX8_changeFirst 60 _ _ _ _ ?_
  exact outer (A 12 0) 0 _ (by omega) rfl hC FrM.rf
set_option maxRecDepth 100000 in
set_option maxHeartbeats 1000000 in
theorem u_change {σ : Sg} {A : St} {hg : Nat} {v : Int32} {Q : Option Value → Sg → Prop} (hC : MR σ A hg) (hW : WL A) (hy : A 12 1 + 99 < 2 ^ 19) (h9 : hg ≤ 999999999) (ho : ¬ rg v 1 20 → Q (some (.int OUT)) σ) (hi : ∀ n, 1 ≤ n → n ≤ 20 → v = nI n → WL (chR n 20 A 0).1 → (chR n 20 A 0).1 12 1 = A 12 1 → ∀ σ', MR σ' (chR n 20 A 0).1 hg → FrM σ σ' → Q (some (.int (nI (chR n 20 A 0).2))) σ') : MetA mX8_change [.ref 89, .int v] σ Q := by
  refine MetA_of qX8_change (Nat.le_of_ble_eq_true rfl) ?_
  have loop : ∀ n, 1 ≤ n → n ≤ 20 → v = nI n → ∀ m d B σ', d + m = 20 → chR n 20 A 0 = chR n m B d → MR σ' B hg → WL B → B 12 1 = A 12 1 → FrM σ σ' → V mX8_change 17 [(0, .ref 89), (1, .int (nI n)), (2, .int (nI d))] [] σ' Q := by
    intro n h1 h2 hv m
    have fin : ∀ d B σ', chR n 20 A 0 = (B, d) → MR σ' B hg → WL B → B 12 1 = A 12 1 → FrM σ σ' → Q (some (.int (nI d))) σ' := by
      intro d B σ' he hC' hW' hy' hF'
      have := hi n h1 h2 hv
      rw [he] at this
      exact this hW' hy' σ' hC' hF'
    induction m with
    | zero =>
      intro d B σ' hd he hC' hW' hy' hF'
      refine wpB_sd (stops := [17]) kX8_change 30 _ _ _ _ ?_
      refine br_t (nI_le (a := 20) (by omega) (by omega)) ?_
      exact fin d B σ' he hC' hW' hy' hF'
    | succ m ih =>
      intro d B σ' hd he hC' hW' hy' hF'
      refine wpB_sd (stops := [17]) kX8_change 30 _ _ _ _ ?_
      refine br_f (nI_ge (a := d) (b := 20) (by omega) (by omega)) ?_
      rw [show chR n (m + 1) B d = (match ch2 B n (B 12 0) 0 with | none => (B, d) | some B' => chR n m B' (d + 1)) from rfl] at he
      refine m_changeFirst hC' hW' h2 (by omega) h9 (fun hn σ1 hC1 hF1 => ?_) (fun B' hB hWB hyB σ1 hC1 hF1 => ?_)
      · rw [hn] at he
        refine br_t (by decide) ?_
        exact fin d B σ1 he hC1 hW' hy' (hF'.tr hF1)
      · rw [hB] at he
        refine br_f (by decide) ?_
        have nxt := ih (d + 1) B' σ1 (by omega) he hC1 hWB (by omega) (hF'.tr hF1)
        rw [← nI_1] at nxt
        exact nxt
  refine wpB_sd (stops := [17]) kX8_change 30 _ _ _ _ ?_
  refine m_inI (lo := nI 1) (hi := nI 20) rfl rfl ?_
  refine ⟨fun g => ?_, fun g => ho (fun q => bI_0.mp g ((rg_iff (by omega) (by omega)).mpr q))⟩
  obtain ⟨n, h1, h2, rfl⟩ := (rg_iff (by omega) (by omega)).mp (bI_n0 g)
  exact loop n h1 h2 rfl 20 0 A σ (by omega) rfl hC hW rfl FrM.rf
