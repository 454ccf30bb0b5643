/-! open, year: class (t_) and reference (u_) -/
def opnA (A : St) (a : Nat) : St := stu (stu A 6 a 1) 8 (A 1 a) (A 8 (A 1 a) + filA A a (A 12 1))
set_option maxRecDepth 100000 in
theorem t_open {σ : Sg} {A : St} {hg : Nat} {j : Int32} {Q : Option Value → Sg → Prop} (hC : CS σ A hg) (hW : WL A) (hu : ¬ ix j (A 12 0) → Q (some (.int UNK)) σ) (hn : ∀ a, a < A 12 0 → j = nI a → ¬ (A 6 a = 0 ∧ mayB (A 12 3) (A 2 a) (A 12 1) = true) → Q (some (.int NOTT)) σ) (hi : ∀ a, a < A 12 0 → j = nI a → (A 6 a = 0 ∧ mayB (A 12 3) (A 2 a) (A 12 1) = true) → ∀ σ', CS σ' (opnA A a) hg → FrX σ σ' → Q (some (.int (nI (filA A a (A 12 1))))) σ') : MetA mX7_open [.ref 0, .int j] σ Q := by
  refine MetA_of qX7_open (Nat.le_of_ble_eq_true rfl) ?_
  refine wpB_sd (stops := []) kX7_open 80 _ _ _ _ ?_
  have h4 := hW.2.1
  have h24 := hW.1.1
  have hy := hW.1.2.1
  have hj0 := hC.1.1.1
  refine s_has (Or.inl rfl) ?_
  refine ⟨fun g => ?_, fun g => hu (fun q => bI_0.mp g (by rw [hj0]; exact (ix_iff (by omega)).mpr q))⟩
  have hixj : ix j (A 12 0) := (ix_iff (by omega)).mp (by have := bI_n0 g; rw [hj0] at this; exact this)
  obtain ⟨a, ha, rfl⟩ := hixj
  have h6 := (hW.1.2.2 a ha).2.2.2.2.2.2
  have ho := hW.2.2.2.2.2.2.2 a ha
  refine s_isGone (Or.inl rfl) hC.1.1 hW.1 ha ?_
  refine ⟨fun g => ?_, fun g => ?_⟩
  · have g := bI_n0 g
    exact hn a ha rfl (fun q => by omega)
  have g := bI_0.mp g
  refine mAr (by rw [show σ 1 9 = nI (A 12 3) from hC.1.2.2.2.2.1, show σ 1 7 = nI (A 12 1) from hC.1.2.2.2.1]) (s_mayBe (l := A 12 3) (y := A 12 1) (Or.inl rfl) hC.1.1 hW.1 ha (by omega) hW.2.2.2.1 ?_)
  refine ⟨fun g2 => ?_, fun g2 => hn a ha rfl (fun q => bI_0.mp g2 q.2)⟩
  have g2 := bI_n0 g2
  have hi := hi a ha rfl ⟨by omega, g2⟩
  refine ald (n := 24) (j := a) rfl rfl (by omega) (hC.1.1.2.2 a ha).2.1 ?_
  refine mAr (by rw [show σ 1 7 = nI (A 12 1) from hC.1.2.2.2.1]) (s_takeOut (y := A 12 1) (Or.inl rfl) hC.1.1 hW.1 ha (Nat.le_refl _) (by omega) (fun σ2 hc2 hf2 => ?_))
  have hR2 := RLd_g (L := 1) hC.1 hc2 (fun c hc => hf2 c (by omega))
  have hW2 := WL_gone (k := a) hW
  have hst := (hR2.2.2.2.2.2.2.1 (A 1 a) ho).2.2
  refine s_hasHouse (Or.inl rfl) ?_
  refine br_f (fun q => bI_0.mp q ?_) ?_
  · rw [show σ2 1 0 = nI (A 12 5) from hR2.2.1]; exact (ix_iff (by omega)).mpr ⟨_, ho, rfl⟩
  refine ald (n := 4) (j := A 1 a) rfl rfl (by omega) hst ?_
  refine ast (n := 4) (j := A 1 a) rfl rfl (by omega) ?_
  rw [nI_add]
  refine hi _ ⟨RLd_one hR2 hW2 (f := 8) (k := A 1 a) (c := 4) (i := A 1 a) (by omega), ?_⟩ (fun c hc => by rw [sgu_c (by omega)]; exact hf2 c (by omega))
  rw [sgu_c (by omega), hf2 1 (by omega)]; exact hC.2
set_option maxRecDepth 100000 in
theorem u_open {σ : Sg} {A : St} {hg : Nat} {j : Int32} {Q : Option Value → Sg → Prop} (hC : MR σ A hg) (hW : WL A) (hu : ¬ ix j (A 12 0) → Q (some (.int UNK)) σ) (hn : ∀ a, a < A 12 0 → j = nI a → ¬ (A 6 a = 0 ∧ mayB (A 12 3) (A 2 a) (A 12 1) = true) → Q (some (.int NOTT)) σ) (hi : ∀ a, a < A 12 0 → j = nI a → (A 6 a = 0 ∧ mayB (A 12 3) (A 2 a) (A 12 1) = true) → ∀ σ', MR σ' (opnA A a) hg → FrM σ σ' → Q (some (.int (nI (filA A a (A 12 1))))) σ') : MetA mX8_open [.ref 89, .int j] σ Q := by
  refine MetA_of qX8_open (Nat.le_of_ble_eq_true rfl) ?_
  refine wpB_sd (stops := []) kX8_open 80 _ _ _ _ ?_
  have h4 := hW.2.1
  have h24 := hW.1.1
  have hy := hW.1.2.1
  refine m_isJar hC.1 h24 ?_
  refine ⟨fun g => ?_, fun g => hu (fun q => bI_0.mp g ((ix_iff (by omega)).mpr q))⟩
  obtain ⟨a, ha, rfl⟩ := (ix_iff (by omega)).mp (bI_n0 g)
  have ho := hW.2.2.2.2.2.2.2 a ha
  refine ald (n := 800) (j := 0 + 177) rfl rfl (by omega) hC.1.2.1 ?_
  refine m_may (x := 0) (by omega) hC.1 hW.1 hW.2.2.2.1 ha (by omega) ?_
  refine ⟨fun g2 => ?_, fun g2 => hn a ha rfl (fun q => bI_0.mp g2 q)⟩
  have g2 := bI_n0 g2
  have hi := hi a ha rfl g2
  refine ald (n := 800) (j := 0 + 177) rfl rfl (by omega) hC.1.2.1 ?_
  refine m_filled (x := 0) (by omega) hC.1 hW.1 ha (Nat.le_refl _) (by omega) ?_
  refine ast (n := 800) (j := 0 + 144 + a) rfl (by simp only [fa_lit, nI_add]) (by omega) ?_
  have hM2 : MR (sgu σ 90 (0 + 144 + a) 1) (stu A 6 a 1) hg := MR_one (v := 1) hC hW (by omega)
  have r := hM2.1.2.2.2.2.1 a ha
  have hst := (hM2.1.2.2.2.2.2 (A 1 a) ho).2
  refine ald (n := 800) (j := 0 + 24 + a) rfl (by simp only [fa_lit, nI_add]) (by omega) r.2.1 ?_
  refine ald (n := 800) (j := 0 + 172 + A 1 a) rfl (by rw [show stu A 6 a 1 1 a = A 1 a from stu_f (by omega)]; simp only [fa_lit, nI_add]) (by omega) hst ?_
  refine ast (n := 800) (j := 0 + 172 + A 1 a) rfl (by rw [show stu A 6 a 1 1 a = A 1 a from stu_f (by omega)]; simp only [fa_lit, nI_add]) (by omega) ?_
  rw [nI_add]
  exact hi _ (MR_one hM2 (WL_gone hW) (by omega)) ((FrM.put (by omega)).tr (FrM.put (by omega)))
theorem yr_ms0 {dr : Bool} : ∀ (n : Nat) (s : Ys) (k : Nat), s.1 12 5 ≤ k → (yrR dr n s).2 k = s.2 k
  | 0, _, _, _ => rfl
  | n + 1, s, k, hk => by
    have e5 : (yrR dr n s).1 12 5 = s.1 12 5 := yrR_f (by omega) (by omega) (by omega) n s
    have hs : ∀ (m : Nat) (t : Ys), m ≤ k → (hsR dr m t).2 k = t.2 k := by
      intro m
      induction m with
      | zero => intro t _; rfl
      | succ m ih =>
        intro t hm
        rw [hsR]
        unfold hsS; dsimp only
        rw [if_neg (by omega), ih t (by omega)]
    rw [yrR]
    unfold yrS; dsimp only
    rw [hs _ _ (by omega)]; dsimp only
    exact yr_ms0 n s k hk
theorem yr_sm {dr : Bool} {n : Nat} {A : St} (h5 : A 12 5 ≤ 4) : fb_sm (yrR dr n (A, fun _ => 0)).2 4 = fb_sm (yrR dr n (A, fun _ => 0)).2 (A 12 5) := by
  obtain ⟨m, hm⟩ : ∃ m, 4 = A 12 5 + m := ⟨4 - A 12 5, by omega⟩
  rw [hm, fb_sm_split]
  have : fb_sm (fun k => (yrR dr n (A, fun _ => 0)).2 (A 12 5 + k)) m = 0 := by
    have e : (fun k => (yrR dr n (A, fun _ => 0)).2 (A 12 5 + k)) = fun _ => 0 := funext fun k => by rw [yr_ms0 n _ _ (by dsimp only; omega)]
    rw [e, fb_sm_const, Nat.mul_zero]
  omega
set_option maxRecDepth 100000 in
theorem t_year {σ : Sg} {A : St} {hg : Nat} {v : Int32} {Q : Option Value → Sg → Prop} (hC : CS σ A hg) (hW : WL A) (hy : A 12 1 + 99 < 2 ^ 19) (h9 : hg ≤ 999999999) (ho : ¬ rg v 1 99 → Q (some (.int OUT)) σ) (hi : ∀ k, 1 ≤ k → k ≤ 99 → v = nI k → ∀ σ', CS σ' (yrR false k (A, fun _ => 0)).1 (hgA hg (fb_sm (yrR false k (A, fun _ => 0)).2 4)) → FrX σ σ' → Q (some (.int (nI (fb_sm (yrR false k (A, fun _ => 0)).2 4)))) σ') : MetA mX7_year [.ref 0, .int v] σ Q := by
  refine MetA_of qX7_year (Nat.le_of_ble_eq_true rfl) ?_
  refine wpB_sd (stops := []) kX7_year 40 _ _ _ _ ?_
  refine ⟨fun g => ho (rg_lt (lo := 1) (by omega) (by omega) g), fun g => ⟨fun g2 => ?_, fun g2 => ho (rg_gt (hi := 99) (by omega) (by omega) (Int32.not_le.mp g2))⟩⟩
  obtain ⟨k, h1, h2, rfl⟩ := rg_of (lo := 1) (hi := 99) (by omega) (by omega) g (Int32.not_lt.mpr g2)
  refine mAr (by rfl) (s_pass (dr := false) (Or.inl rfl) hC.1 hW h2 (by omega) hC.2 h9 (fun σ' a b c d => ?_))
  rw [← yr_sm hW.2.1] at c ⊢
  exact hi k h1 h2 rfl σ' ⟨a, c⟩ d.x
set_option maxRecDepth 100000 in
theorem t_drift {σ : Sg} {A : St} {hg : Nat} {v : Int32} {Q : Option Value → Sg → Prop} (hC : CS σ A hg) (hW : WL A) (hy : A 12 1 + 99 < 2 ^ 19) (h9 : hg ≤ 999999999) (ho : ¬ rg v 1 99 → Q (some (.int OUT)) σ) (hi : ∀ k, 1 ≤ k → k ≤ 99 → v = nI k → ∀ σ', CS σ' (yrR true k (A, fun _ => 0)).1 (hgA hg (fb_sm (yrR true k (A, fun _ => 0)).2 4)) → FrX σ σ' → Q (some (.int (nI (fb_sm (yrR true k (A, fun _ => 0)).2 4)))) σ') : MetA mX7_drift [.ref 0, .int v] σ Q := by
  refine MetA_of qX7_drift (Nat.le_of_ble_eq_true rfl) ?_
  refine wpB_sd (stops := []) kX7_drift 40 _ _ _ _ ?_
  refine ⟨fun g => ho (rg_lt (lo := 1) (by omega) (by omega) g), fun g => ⟨fun g2 => ?_, fun g2 => ho (rg_gt (hi := 99) (by omega) (by omega) (Int32.not_le.mp g2))⟩⟩
  obtain ⟨k, h1, h2, rfl⟩ := rg_of (lo := 1) (hi := 99) (by omega) (by omega) g (Int32.not_lt.mpr g2)
  refine mAr (by rfl) (s_pass (dr := true) (Or.inl rfl) hC.1 hW h2 (by omega) hC.2 h9 (fun σ' a b c d => ?_))
  rw [← yr_sm hW.2.1] at c ⊢
  exact hi k h1 h2 rfl σ' ⟨a, c⟩ d.x
set_option maxRecDepth 100000 in
theorem u_year {σ : Sg} {A : St} {hg : Nat} {v : Int32} {Q : Option Value → Sg → Prop} (hC : MR σ A hg) (hW : WL A) (hy : A 12 1 + 99 < 2 ^ 19) (h9 : hg ≤ 999999999) (ho : ¬ rg v 1 99 → Q (some (.int OUT)) σ) (hi : ∀ k, 1 ≤ k → k ≤ 99 → v = nI k → ∀ σ', MR σ' (yrR false k (A, fun _ => 0)).1 (hgA hg (fb_sm (yrR false k (A, fun _ => 0)).2 4)) → FrM σ σ' → Q (some (.int (nI (fb_sm (yrR false k (A, fun _ => 0)).2 4)))) σ') : MetA mX8_year [.ref 89, .int v] σ Q := by
  refine MetA_of qX8_year (Nat.le_of_ble_eq_true rfl) ?_
  have key : ∀ k, 1 ≤ k → k ≤ 99 → v = nI k → ∀ σ1, PS 0 σ1 (A, fun _ => 0) hg → FrM σ σ1 → V mX8_year 21 [(0, .ref 89), (1, .int (nI k)), (2, .int (nI 0))] [] σ1 Q := by
    intro k h1 h2 hv σ1 hP hF
    refine m_passes (mm := mX8_year) (pc0 := 21) (lv := fun i => [(0, .ref 89), (1, .int (nI k)), (2, .int (nI i))]) (s0 := (A, fun _ => 0)) (σ := σ1) (x := 0) (n := k) (h0 := hg) (by omega) hW (by dsimp only; omega) (fun σ' a b => ?_) (fun i σi hi hp hk => ?_) k 0 σ1 (by omega) hP FrP.rf
    · refine wpB_sd (stops := [21]) kX8_year 30 _ _ _ _ ?_
      refine br_t (nI_le (by omega) (by omega)) ?_
      refine m_all a.2.2.1 ?_
      exact hi k h1 h2 hv σ' ⟨a.1, a.2.1, a.2.2.2⟩ (hF.tr (b.m (by omega)))
    · refine wpB_sd (stops := [21]) kX8_year 30 _ _ _ _ ?_
      refine br_f (nI_ge hi (by omega)) ?_
      refine hp _ (fun σ' a b => ?_)
      have := hk σ' a b
      rw [← nI_1] at this
      exact this
  refine wpB_sd (stops := [21]) kX8_year 40 _ _ _ _ ?_
  refine m_inI (lo := nI 1) (hi := nI 99) rfl rfl ?_
  refine ⟨fun g => ?_, fun g => ho (fun q => bI_0.mp g ((rg_iff (by omega) (by omega)).mpr q))⟩
  obtain ⟨k, h1, h2, rfl⟩ := (rg_iff (by omega) (by omega)).mp (bI_n0 g)
  refine m_clear (fun σ1 c1 c2 => ?_)
  exact key k h1 h2 rfl σ1 (PS_0 (RMr.fr hC.1 hW.1.1 hW.2.1 (fun k _ _ _ => by rw [c2 90 (by omega)])) (hC.2.1.fr (fun c hc => c2 c (by omega))) c1 (by rw [c2 90 (by omega)]; exact hC.2.2) h9) ⟨fun c _ hc => c2 c hc, fun k _ => by rw [c2 90 (by omega)]⟩
