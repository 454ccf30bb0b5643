/-! the reference's drift -/
theorem MR_seed {σ : Sg} {A : St} {hg v : Nat} (h : MR σ A hg) (hW : WL A) : MR (sgu σ 90 180 (nI v)) (stu A 12 4 v) hg := MR_one h hW (by omega)
theorem PS_draw {σ : Sg} {s : Ys} {h0 v : Nat} (hP : PS 0 σ s h0) (hW : WL s.1) : PS 0 (sgu σ 90 180 (nI v)) (stu s.1 12 4 v, s.2) h0 :=
  ⟨RMr_one hP.1 hW (by omega), RMg_one hP.2.1 (fun c hc => sgu_c (by omega)) (by omega) (by omega) (by omega), fun k hk => by rw [sgu_c (by omega)]; exact hP.2.2.1 k hk, by rw [sgu_k (by omega)]; exact hP.2.2.2⟩
theorem PS_gone {σ : Sg} {s : Ys} {h0 k v : Nat} (hP : PS 0 σ s h0) (hW : WL s.1) (hk : k < 24) : PS 0 (sgu σ 90 (0 + 144 + k) (nI v)) (stu s.1 6 k v, s.2) h0 :=
  ⟨RMr_one hP.1 hW (by omega), RMg_one hP.2.1 (fun c hc => sgu_c (by omega)) (by omega) (by omega) (by omega), fun k hk => by rw [sgu_c (by omega)]; exact hP.2.2.1 k hk, by rw [sgu_k (by omega)]; exact hP.2.2.2⟩
theorem stu_id {A : St} {f k v : Nat} (h : A f k = v) : stu A f k v = A := by
  funext g j
  by_cases q : g = f ∧ j = k
  · obtain ⟨rfl, rfl⟩ := q; rw [stu_s, h]
  · exact if_neg q
theorem FrP.put {x k : Nat} {v : Int32} {σ : Sg} (h : x ≤ k) (h2 : k < x + 200) : FrP x σ (sgu σ 90 k v) := ⟨fun c hc _ => sgu_c hc, fun i hi => sgu_k (by omega)⟩
set_option maxRecDepth 100000 in
set_option maxHeartbeats 2000000 in
theorem u_drift {σ : Sg} {A : St} {hg : Nat} {v : Int32} {Q : Option Value → Sg → Prop} (hC : MR σ A hg) (hW : WL A) (hy : A 12 1 + 99 < 2 ^ 19) (h9 : hg ≤ 999999999) (ho : ¬ rg v 1 99 → Q (some (.int OUT)) σ) (hi : ∀ k, 1 ≤ k → k ≤ 99 → v = nI k → ∀ σ', MR σ' (yrR true k (A, fun _ => 0)).1 (hgA hg (fb_sm (yrR true k (A, fun _ => 0)).2 4)) → FrM σ σ' → Q (some (.int (nI (fb_sm (yrR true k (A, fun _ => 0)).2 4)))) σ') : MetA mX8_drift [.ref 89, .int v] σ Q := by
  refine MetA_of qX8_drift (Nat.le_of_ble_eq_true rfl) ?_
  -- the houses of a year by draws
  have r146 : ∀ (n k : Nat) (m hh : Nat) (σ' : Sg) (s0 : Ys), WL s0.1 → s0.1 12 1 < 2 ^ 19 → hh + m = s0.1 12 5 → PS 0 σ' (hsR true hh s0) hg → FrP 0 σ σ' →
      (∀ σ'', PS 0 σ'' (hsR true (s0.1 12 5) s0) hg → FrP 0 σ σ'' → V mX8_drift 182 [(0, .ref 89), (1, .int (nI n)), (2, .int (nI k))] [] σ'' Q) →
      V mX8_drift 146 [(0, .ref 89), (1, .int (nI n)), (2, .int (nI k)), (3, .int (nI hh))] [] σ' Q := by
    intro n k m
    induction m with
    | zero =>
      intro hh σ' s0 hW0 hy0 hi hP hF hQ
      have h4 := hW0.2.1
      have e5 : (hsR true hh s0).1 12 5 = s0.1 12 5 := hsR_f (by omega) (by omega) (by omega) _ _
      have h0h := hP.2.1.1
      rw [e5] at h0h
      have hi : hh = s0.1 12 5 := by omega
      subst hi
      refine wpB_sd (stops := [146, 182]) kX8_drift 30 _ _ _ _ ?_
      refine br_t (by rw [h0h]; exact nI_le (by omega) (by omega)) ?_
      exact V.take 3 (hQ σ' hP hF)
    | succ m ih =>
      intro hh σ' s0 hW0 hy0 hi hP hF hQ
      have h4 := hW0.2.1
      have hWh := hsR_WL (dr := true) hh hW0 (by omega) hy0
      have hWn := hsR_WL (dr := true) (hh + 1) hW0 (by omega) hy0
      have e5 : (hsR true hh s0).1 12 5 = s0.1 12 5 := hsR_f (by omega) (by omega) (by omega) _ _
      have ey : (hsR true hh s0).1 12 1 = s0.1 12 1 := hsR_f (by omega) (by omega) (by omega) _ _
      have h0h := hP.2.1.1
      rw [e5] at h0h
      have hlv := hsV_le (dr := true) hWh
      have hW1 := hsA1_WL (dr := true) hWh
      have e51 : hsA1 true (hsR true hh s0).1 12 5 = s0.1 12 5 := by rw [hsA1_f (by omega), e5]
      have ey1 : hsA1 true (hsR true hh s0).1 12 1 = s0.1 12 1 := by rw [hsA1_f (by omega), ey]
      have hsm := sm_hs (dr := true) (s := hsR true hh s0) (show hh < 4 by omega)
      have hle := eatA_le (A := hsA1 true (hsR true hh s0).1) (hh := hh) (harv := hsV true (hsR true hh s0).1)
      have hw9 := (hW1.2.2.2.2.2.1 hh (by omega)).1
      have hcap := hgA_le (h0 := hg) (t := fb_sm (hsR true hh s0).2 4)
      refine wpB_sd (stops := [146, 182]) kX8_drift 30 _ _ _ _ ?_
      refine br_f (by rw [h0h]; exact nI_ge (by omega) (by omega)) ?_
      refine mAr (by rfl) (m_draw (n := 30) hP.1.2.2.2.1 hWh.2.2.2.2.1 (by omega) (by omega) ?_)
      have hP1 := PS_draw (v := drA ((hsR true hh s0).1 12 4)) hP hWh
      rw [← hsA1_t] at hP1
      refine mAr (by rw [hsV_t]; rfl) (m_eat (x := 0) (A := hsA1 true (hsR true hh s0).1) (hh := hh) (harv := hsV true (hsR true hh s0).1) (by omega) hP1.1 hP1.2.1 hW1 (by omega) hlv (by omega) (fun σ2 hR2 hF2 => ?_))
      have hF1 : FrP 0 σ' (sgu σ' 90 180 (nI (drA ((hsR true hh s0).1 12 4)))) := FrP.put (by omega) (by omega)
      have h97 : σ2 97 = σ' 97 := by rw [hF2.1 97 (by omega), sgu_c (by omega)]
      have h178 : σ2 90 (0 + 178) = σ' 90 (0 + 178) := by rw [hF2.2 _ (by omega), sgu_k (by omega)]
      refine mAr (by rfl) (m_hunger (x := 0) (hh := hh) (m := (eatA (hsA1 true (hsR true hh s0).1) hh (hsV true (hsR true hh s0).1)).2) (a := (hsR true hh s0).2 hh) (b := hgA hg (fb_sm (hsR true hh s0).2 4)) (by omega) (by omega) (by rw [h97]; exact hP.2.2.1 hh (by omega)) (by rw [h178]; exact hP.2.2.2) (by omega) ?_)
      rw [hgA_add, ← hsm]
      have key := PS.hs (dr := true) (k := hh) (by omega) hP (by omega) hWn.1.1 (by omega) hR2 (hF1.tr hF2.p) h97 h178 rfl
      have nxt := ih (hh + 1) _ s0 hW0 hy0 (by omega) key.1 (hF.tr key.2) hQ
      rw [← nI_1] at nxt
      exact V.take 4 nxt
  -- the bursting
  have r28 : ∀ (n k : Nat) (m j : Nat) (σ' : Sg) (s0 : Ys), WL s0.1 → j + m = s0.1 12 0 → PS 0 σ' (buR j s0.1, s0.2) hg → FrP 0 σ σ' →
      (∀ σ'', PS 0 σ'' (buR (s0.1 12 0) s0.1, s0.2) hg → FrP 0 σ σ'' → V mX8_drift 144 [(0, .ref 89), (1, .int (nI n)), (2, .int (nI k))] [] σ'' Q) →
      V mX8_drift 28 [(0, .ref 89), (1, .int (nI n)), (2, .int (nI k)), (3, .int (nI j))] [] σ' Q := by
    intro n k m
    induction m with
    | zero =>
      intro j σ' s0 hW0 hi hP hF hQ
      have h24 := hW0.1.1
      have e0 : buR j s0.1 12 0 = s0.1 12 0 := buR_f (by omega) (by omega) _ _
      have h0h := hP.1.1
      dsimp only at h0h
      rw [e0] at h0h
      have hi : j = s0.1 12 0 := by omega
      subst hi
      refine wpB_sd (stops := [28, 144]) kX8_drift 30 _ _ _ _ ?_
      refine ald (n := 800) (j := 0 + 176) rfl rfl (by omega) h0h ?_
      refine br_t (nI_le (by omega) (by omega)) ?_
      exact V.take 3 (hQ σ' hP hF)
    | succ m ih =>
      intro j σ' s0 hW0 hi hP hF hQ
      have h24 := hW0.1.1
      have hWj := buR_WL j hW0
      have e0 : buR j s0.1 12 0 = s0.1 12 0 := buR_f (by omega) (by omega) _ _
      have h0h := hP.1.1
      dsimp only at h0h
      rw [e0] at h0h
      have hj : j < buR j s0.1 12 0 := by omega
      have r := hP.1.2.2.2.2.1 j hj
      dsimp only at r
      obtain ⟨r0, r1, r2, r3, r4, r5, r6⟩ := r
      obtain ⟨w0, w1, w2, w3, w4, w5, w6⟩ := hWj.1.2.2 j hj
      have hyy := hWj.1.2.1
      have nx : ∀ σ2, PS 0 σ2 (buS (buR j s0.1) j, s0.2) hg → FrP 0 σ σ2 → V mX8_drift 28 [(0, .ref 89), (1, .int (nI n)), (2, .int (nI k)), (3, .int (nI j + 1))] [] σ2 Q := by
        intro σ2 a b
        have := ih (j + 1) σ2 s0 hW0 (by omega) a b hQ
        rw [← nI_1] at this
        exact this
      have c98 : ∀ cb : Int32, (cb = 1 → buC (buR j s0.1) j = true) → (cb = 0 → ¬ buC (buR j s0.1) j = true) → (cb = 0 ∨ cb = 1) → V mX8_drift 98 [(0, .ref 89), (1, .int (nI n)), (2, .int (nI k)), (3, .int (nI j))] [.int cb] σ' Q := by
        intro cb hc1 hc0 hor
        refine wpB_sd (stops := [28]) kX8_drift 60 _ _ _ _ ?_
        refine ⟨fun g => ?_, fun g => ?_⟩
        · refine ald (n := 800) (j := 0 + 144 + j) rfl (by simp only [fa_lit, nI_add]) (by omega) r6 ?_
          refine ast (n := 800) (j := 0 + 144 + j) rfl (by simp only [fa_lit, nI_add]) (by omega) ?_
          refine V.take 4 ?_
          have hPg := PS_gone (k := j) (v := buR j s0.1 6 j) hP hWj (by omega)
          dsimp only at hPg
          rw [stu_id rfl] at hPg
          rw [buS_no (hc0 g)] at nx
          exact nx _ hPg (hF.tr (FrP.put (by omega) (by omega)))
        · have hc := hc1 (by rcases hor with q | q; exact absurd q g; exact q)
          have eS : buS (buR j s0.1) j = if drA (buR j s0.1 12 4) / 65536 % 10 = 0 then stu (stu (buR j s0.1) 12 4 (drA (buR j s0.1 12 4))) 6 j 1 else stu (buR j s0.1) 12 4 (drA (buR j s0.1 12 4)) := by rw [buS, if_pos hc]
          have hmod : drA (buR j s0.1 12 4) / 65536 % 10 < 10 := Nat.mod_lt _ (by omega)
          refine mAr (by rfl) (m_draw (A := buR j s0.1) (n := 10) hP.1.2.2.2.1 hWj.2.2.2.2.1 (by omega) (by omega) ?_)
          have hP1 := PS_draw (v := drA (buR j s0.1 12 4)) hP hWj
          dsimp only at hP1
          have hW1 := WL_seed hWj (drA_lt (buR j s0.1 12 4))
          have hF1 := hF.tr (FrP.put (σ := σ') (x := 0) (k := 180) (v := nI (drA (buR j s0.1 12 4))) (by omega) (by omega))
          refine ⟨fun g2 => ?_, fun g2 => ?_⟩
          · have g2 : ¬ drA (buR j s0.1 12 4) / 65536 % 10 = 0 := fun q => g2 (by rw [q]; rfl)
            rw [eS, if_neg g2] at nx
            have r6' : sgu σ' 90 180 (nI (drA (buR j s0.1 12 4))) 90 (0 + 144 + j) = nI (buR j s0.1 6 j) := by rw [sgu_k (by omega)]; exact r6
            refine ald (n := 800) (j := 0 + 144 + j) rfl (by simp only [fa_lit, nI_add]) (by omega) r6' ?_
            refine ast (n := 800) (j := 0 + 144 + j) rfl (by simp only [fa_lit, nI_add]) (by omega) ?_
            refine V.take 4 ?_
            have hPg := PS_gone (k := j) (v := buR j s0.1 6 j) hP1 hW1 (by omega)
            dsimp only at hPg
            rw [stu_id (A := stu (buR j s0.1) 12 4 (drA (buR j s0.1 12 4))) (stu_f (by omega))] at hPg
            exact nx _ hPg (hF1.tr (FrP.put (by omega) (by omega)))
          · have g2 : drA (buR j s0.1 12 4) / 65536 % 10 = 0 := (nI_eq (b := 0) (by omega) (by omega)).mp g2
            rw [eS, if_pos g2] at nx
            refine ast (n := 800) (j := 0 + 144 + j) rfl (by simp only [fa_lit, nI_add]) (by omega) ?_
            refine V.take 4 ?_
            exact nx _ (PS_gone (k := j) (v := 1) hP1 hW1 (by omega)) (hF1.tr (FrP.put (by omega) (by omega)))
      refine wpB_sd (stops := [98]) kX8_drift 60 _ _ _ _ ?_
      refine ald (n := 800) (j := 0 + 176) rfl rfl (by omega) h0h ?_
      refine br_f (nI_ge (by omega) (by omega)) ?_
      refine ald (n := 800) (j := 0 + 144 + j) rfl (by simp only [fa_lit, nI_add]) (by omega) r6 ?_
      refine ⟨fun g => ?_, fun g => ?_⟩
      · have g : ¬ buR j s0.1 6 j = 0 := fun q => g (by rw [q]; rfl)
        exact V.take 4 (c98 0 (fun q => absurd q (by decide)) (fun _ => by simp [buC, g]) (Or.inl rfl))
      · have g : buR j s0.1 6 j = 0 := (nI_eq (b := 0) (by omega) (by omega)).mp g
        refine ald (n := 800) (j := 0 + j) rfl (by rw [Nat.zero_add]) (by omega) r0 ?_
        refine ⟨fun g2 => ?_, fun g2 => ?_⟩
        · have g2 : buR j s0.1 0 j = 2 := (nI_eq (b := 2) (by omega) (by omega)).mp g2
          exact V.take 4 (c98 0 (fun q => absurd q (by decide)) (fun _ => by simp [buC, g2]) (Or.inl rfl))
        · have g2 : ¬ buR j s0.1 0 j = 2 := fun q => g2 (by rw [q]; rfl)
          refine ald (n := 800) (j := 0 + 177) rfl rfl (by omega) hP.1.2.1 ?_
          refine ald (n := 800) (j := 0 + 120 + j) rfl (by simp only [fa_lit, nI_add]) (by omega) r5 ?_
          refine ald (n := 800) (j := 0 + 96 + j) rfl (by simp only [fa_lit, nI_add]) (by omega) r4 ?_
          refine ⟨fun g3 => ?_, fun g3 => ?_⟩
          · rw [pk_sub w5] at g3
            have g3 := (nI_leI (by omega) (by omega)).mp g3
            exact V.take 4 (c98 0 (fun q => absurd q (by decide)) (fun _ => by simp only [buC, decide_eq_true_eq]; omega) (Or.inl rfl))
          · have g3 : ¬ buR j s0.1 12 1 - buR j s0.1 5 j ≤ buR j s0.1 4 j := fun q => g3 (by rw [pk_sub w5]; exact nI_le q (by omega))
            exact V.take 4 (c98 1 (fun _ => by simp only [buC, decide_eq_true_eq]; omega) (fun q => absurd q (by decide)) (Or.inr rfl))
  -- the years
  have r21 : ∀ (n : Nat), 1 ≤ n → n ≤ 99 → v = nI n → ∀ (m k : Nat) (σ' : Sg), k + m = n → PS 0 σ' (yrR true k (A, fun _ => 0)) hg → FrP 0 σ σ' → V mX8_drift 21 [(0, .ref 89), (1, .int (nI n)), (2, .int (nI k))] [] σ' Q := by
    intro n h1 h2 hv m
    induction m with
    | zero =>
      intro k σ' hi2 hP hF
      have hi2 : k = n := by omega
      subst hi2
      refine wpB_sd (stops := [21]) kX8_drift 30 _ _ _ _ ?_
      refine br_t (nI_le (by omega) (by omega)) ?_
      refine m_all hP.2.2.1 ?_
      exact hi k h1 h2 hv σ' ⟨hP.1, hP.2.1, hP.2.2.2⟩ (hF.m (by omega))
    | succ m ih =>
      intro k σ' hi2 hP hF
      have hWk := yrR_WL (dr := true) k (s := (A, fun _ => 0)) hW (by dsimp only; omega)
      have hyk : (yrR true k (A, fun _ => 0)).1 12 1 = A 12 1 + k := yrR_y k _
      have hWb := buR_WL ((yrR true k (A, fun _ => 0)).1 12 0) hWk
      have e5b : buR ((yrR true k (A, fun _ => 0)).1 12 0) (yrR true k (A, fun _ => 0)).1 12 5 = (yrR true k (A, fun _ => 0)).1 12 5 := buR_f (by omega) (by omega) _ _
      have eyb : buR ((yrR true k (A, fun _ => 0)).1 12 0) (yrR true k (A, fun _ => 0)).1 12 1 = A 12 1 + k := by rw [buR_f (by omega) (by omega), hyk]
      have r182 : ∀ σ'', PS 0 σ'' (hsR true (buR ((yrR true k (A, fun _ => 0)).1 12 0) (yrR true k (A, fun _ => 0)).1 12 5) (buR ((yrR true k (A, fun _ => 0)).1 12 0) (yrR true k (A, fun _ => 0)).1, (yrR true k (A, fun _ => 0)).2)) hg → FrP 0 σ σ'' → V mX8_drift 182 [(0, .ref 89), (1, .int (nI n)), (2, .int (nI k))] [] σ'' Q := by
        intro σ'' hP2 hF2
        have hW2 := hsR_WL (dr := true) (buR ((yrR true k (A, fun _ => 0)).1 12 0) (yrR true k (A, fun _ => 0)).1 12 5) (s := (buR ((yrR true k (A, fun _ => 0)).1 12 0) (yrR true k (A, fun _ => 0)).1, (yrR true k (A, fun _ => 0)).2)) hWb (Nat.le_refl _) (by dsimp only; omega)
        have ey2 : (hsR true (buR ((yrR true k (A, fun _ => 0)).1 12 0) (yrR true k (A, fun _ => 0)).1 12 5) (buR ((yrR true k (A, fun _ => 0)).1 12 0) (yrR true k (A, fun _ => 0)).1, (yrR true k (A, fun _ => 0)).2)).1 12 1 = A 12 1 + k := by
          rw [hsR_f (by omega) (by omega) (by omega)]; exact eyb
        have hyr := hP2.1.2.1
        rw [ey2] at hyr
        refine wpB_sd (stops := [21]) kX8_drift 30 _ _ _ _ ?_
        refine ald (n := 800) (j := 0 + 177) rfl rfl (by omega) hyr ?_
        refine ast (n := 800) (j := 0 + 177) rfl rfl (by omega) ?_
        rw [nI_1]
        have hPy := hP2.yr (v := A 12 1 + k + 1) (by omega) hW2.1.1 hW2.2.1
        have nxt := ih (k + 1) _ (by omega) (by
          rw [yrR]
          unfold yrS
          rw [yrB_t, hyk, ← e5b]
          exact hPy) (hF2.tr (FrP.put (by omega) (by omega)))
        rw [← nI_1] at nxt
        exact nxt
      have r144 : ∀ σ'', PS 0 σ'' (buR ((yrR true k (A, fun _ => 0)).1 12 0) (yrR true k (A, fun _ => 0)).1, (yrR true k (A, fun _ => 0)).2) hg → FrP 0 σ σ'' → V mX8_drift 144 [(0, .ref 89), (1, .int (nI n)), (2, .int (nI k))] [] σ'' Q := by
        intro σ'' hP2 hF2
        refine wpB_sd (stops := [146]) kX8_drift 30 _ _ _ _ ?_
        exact r146 n k _ 0 σ'' (buR ((yrR true k (A, fun _ => 0)).1 12 0) (yrR true k (A, fun _ => 0)).1, (yrR true k (A, fun _ => 0)).2) hWb (by dsimp only; omega) (Nat.zero_add _) hP2 hF2 r182
      refine wpB_sd (stops := [28]) kX8_drift 30 _ _ _ _ ?_
      refine br_f (nI_ge (by omega) (by omega)) ?_
      refine V.take 4 ?_
      exact r28 n k _ 0 σ' (yrR true k (A, fun _ => 0)) hWk (Nat.zero_add _) hP hF r144
  refine wpB_sd (stops := [21]) kX8_drift 40 _ _ _ _ ?_
  refine m_inI (lo := nI 1) (hi := nI 99) rfl rfl ?_
  refine ⟨fun g => ?_, fun g => ho (fun q => bI_0.mp g ((rg_iff (by omega) (by omega)).mpr q))⟩
  obtain ⟨k, h1, h2, rfl⟩ := (rg_iff (by omega) (by omega)).mp (bI_n0 g)
  refine m_clear (fun σ1 c1 c2 => ?_)
  exact r21 k h1 h2 rfl k 0 σ1 (Nat.zero_add _) (PS_0 (RMr.fr hC.1 hW.1.1 hW.2.1 (fun k _ _ _ => by rw [c2 90 (by omega)])) (hC.2.1.fr (fun c hc => c2 c (by omega))) c1 (by rw [c2 90 (by omega)]; exact hC.2.2) h9) ⟨fun c _ hc => c2 c hc, fun k _ => by rw [c2 90 (by omega)]⟩
