/-! siege, when: the calls -/
theorem CS_trial {σ σ' : Sg} {A : St} {hg : Nat} (h : CS σ A hg) (hF : FrL 14 σ σ') : CS σ' A hg := ⟨h.1.fr (fun c a b d => hF c (by omega)), by rw [hF 1 (by omega)]; exact h.2⟩
set_option maxRecDepth 100000 in
set_option maxHeartbeats 1000000 in
theorem s_hos {σ : Sg} {A : St} {hg n k : Nat} {Q : Option Value → Sg → Prop} (hC : CS σ A hg) (hW : WL A) (hy : A 12 1 + 99 < 2 ^ 19) (h9 : hg ≤ 999999999) (hn : n ≤ 20) (hk : k ≤ n) (h : ∀ σ', CS σ' A hg → FrL 14 σ σ' → Q (some (.int (nI (siA A n k)))) σ') : MetA mX7_hungerOfSiege [.ref 0, .int (nI n), .int (nI k)] σ Q := by
  refine MetA_of qX7_hungerOfSiege (Nat.le_of_ble_eq_true rfl) ?_
  refine wpB_sd (stops := []) kX7_hungerOfSiege 60 _ _ _ _ ?_
  have hWb := besA_WL hW
  have h5 := hW.2.1
  refine s_copyL (d := 14) (s := 1) (by simp) hC.1 hW.2.1 hW.2.2.1 hW.1.1 (fun σ1 hR1 he1 hF1 => ?_)
  refine s_besiege hR1 hW.2.1 (fun σ2 hR2 he2 hF2 => ?_)
  refine mAr (by rfl) (s_pass (dr := false) (n := k) (hg := hg) (Or.inr rfl) hR2 hWb (by omega) (by show A 12 1 + k < _; omega) (by rw [he2, he1]; exact hC.2) h9 (fun σ3 hR3 hm3 hg3 hF3 => ?_))
  have hW1 := yrR_WL (dr := false) k (s := (besA A, fun _ => 0)) hWb (by show A 12 1 + k < _; omega)
  have hy1 : (yrR false k (besA A, fun _ => 0)).1 12 1 = A 12 1 + k := yrR_y k _
  have e5 : (yrR false k (besA A, fun _ => 0)).1 12 5 = A 12 5 := yrR_f (s := (besA A, fun _ => 0)) (by omega) (by omega) (by omega) k
  have hW2 : WL (stu (yrR false k (besA A, fun _ => 0)).1 12 3 2) := by
    obtain ⟨g0, g1, g2, g3, g4, g5, g6, g7⟩ := hW1
    exact ⟨g0, g1, g2, by rw [stu_s]; omega, g4, g5, g6, g7⟩
  have hR4 : RLd 14 (sgu σ3 14 9 2) (stu (yrR false k (besA A, fun _ => 0)).1 12 3 2) := RLd_one (v := 2) hR3 hW1 (by omega)
  have hcap := hgA_le (h0 := hg) (t := fb_sm (yrR false k (besA A, fun _ => 0)).2 (besA A 12 5))
  have hg4 : sgu σ3 14 9 2 14 8 = nI (hgA hg (fb_sm (yrR false k (besA A, fun _ => 0)).2 (besA A 12 5))) := by rw [sgu_k (by omega)]; exact hg3
  refine mAr (by rw [pk_sub hk]; rfl) (s_pass (dr := false) (n := n - k) (Or.inr rfl) hR4 hW2 (by omega) (by rw [stu_k (by omega), hy1]; omega) hg4 hcap (fun σ5 hR5 hm5 hg5 hF5 => ?_))
  have fin := h σ5 (CS_trial hC (fun c hc => by rw [hF5 c hc, sgu_c (by omega), hF3 c hc, hF2 c hc, hF1 c hc])) (fun c hc => by rw [hF5 c hc, sgu_c (by omega), hF3 c hc, hF2 c hc, hF1 c hc])
  refine fin_i fin ?_
  have s1 : fb_sm (yrR false k (besA A, fun _ => 0)).2 (besA A 12 5) = fb_sm (yrR false k (besA A, fun _ => 0)).2 4 := (yr_sm (A := besA A) h5).symm
  have s2 : fb_sm (yrR false (n - k) (stu (yrR false k (besA A, fun _ => 0)).1 12 3 2, fun _ => 0)).2 (stu (yrR false k (besA A, fun _ => 0)).1 12 3 2 12 5) = fb_sm (yrR false (n - k) (stu (yrR false k (besA A, fun _ => 0)).1 12 3 2, fun _ => 0)).2 4 := (yr_sm (by rw [stu_k (by omega), e5]; exact h5)).symm
  rw [s1, s2, nI_add, siA]
set_option maxRecDepth 100000 in
theorem t_siege {σ : Sg} {A : St} {hg : Nat} {x y : Int32} {Q : Option Value → Sg → Prop} (hC : CS σ A hg) (hW : WL A) (hy : A 12 1 + 99 < 2 ^ 19) (h9 : hg ≤ 999999999) (ho : ¬ (∃ n k, 1 ≤ n ∧ n ≤ 20 ∧ k ≤ n ∧ x = nI n ∧ y = nI k) → Q (some (.int OUT)) σ) (hi : ∀ n k, 1 ≤ n → n ≤ 20 → k ≤ n → x = nI n → y = nI k → ∀ σ', CS σ' A hg → FrX σ σ' → Q (some (.int (nI (siA A n k)))) σ') : MetA mX7_siege [.ref 0, .int x, .int y] σ Q := by
  refine MetA_of qX7_siege (Nat.le_of_ble_eq_true rfl) ?_
  refine wpB_sd (stops := []) kX7_siege 60 _ _ _ _ ?_
  refine ⟨fun g => ho ?_, fun g => ⟨fun g2 => ho ?_, fun g2 => ⟨fun g3 => ho ?_, fun g3 => ⟨fun g4 => ?_, fun g4 => ho ?_⟩⟩⟩⟩
  · rintro ⟨n, k, h1, h2, h3, rfl, rfl⟩
    exact rg_lt (lo := 1) (hi := 20) (by omega) (by omega) g ⟨n, h1, h2, rfl⟩
  · rintro ⟨n, k, h1, h2, h3, rfl, rfl⟩
    exact rg_gt (lo := 1) (hi := 20) (by omega) (by omega) g2 ⟨n, h1, h2, rfl⟩
  · rintro ⟨n, k, h1, h2, h3, rfl, rfl⟩
    exact nI_pos (show k < 2 ^ 31 by omega) g3
  · obtain ⟨n, h1, h2, rfl⟩ := rg_of (lo := 1) (hi := 20) (by omega) (by omega) g g2
    obtain ⟨k, -, h3, rfl⟩ := rg_of (lo := 0) (hi := n) (by omega) (by omega) g3 (Int32.not_lt.mpr g4)
    exact s_hos hC hW hy h9 h2 h3 (fun σ' a b => hi n k h1 h2 h3 rfl rfl σ' a b.x2)
  · rintro ⟨n, k, h1, h2, h3, rfl, rfl⟩
    exact g4 (nI_le h3 (by omega))
theorem PS_eat {x : Nat} {σ σ' σ'' : Sg} {s : Ys} {A2 : St} {h0 k v : Nat} (hP : PS x σ s h0) (hk : k < 4) (h24 : A2 12 0 ≤ 24) (h5 : A2 12 5 ≤ 4) (hR : RMr x σ' A2) (hG : RMg σ A2) (hF : FrP x σ σ') (hF97 : σ' 97 = σ 97)
    (e : σ'' = sgu (sgu σ' 97 k (nI (s.2 k + v))) 90 (x + 178) (nI (hgA h0 (fb_sm (fun i => if i = k then s.2 k + v else s.2 i) 4)))) : PS x σ'' (A2, fun i => if i = k then s.2 k + v else s.2 i) h0 ∧ FrP x σ σ'' := by
  subst e
  refine ⟨⟨?_, ?_, fun i hi => ?_, sgu_s⟩, ⟨fun c hc hc2 => ?_, fun i hi => ?_⟩⟩
  · exact RMr.fr (σ := σ') hR h24 h5 (fun i a b d => by rw [sgu_k d, sgu_c (by omega)])
  · exact hG.fr (fun c hc => by rw [sgu_c (by omega), sgu_c (by omega)]; exact hF.1 c (by omega) (by omega))
  · rw [sgu_c (by omega)]
    dsimp only
    by_cases q : i = k
    · subst q; rw [sgu_s, if_pos rfl]
    · rw [sgu_k q, if_neg q, hF97]; exact hP.2.2.1 i hi
  · rw [sgu_c hc, sgu_c hc2]; exact hF.1 c hc hc2
  · rw [sgu_k (by omega), sgu_c (by omega)]; exact hF.2 i hi
theorem mhS_f {k f i : Nat} {s : Ys} (hf : 6 < f) (h7 : f ≠ 7) (h8 : f ≠ 8) (h12 : ¬ (f = 12 ∧ i = 0)) : (mhS k s).1 f i = s.1 f i := by
  unfold mhS; dsimp only; rw [eatA_f hf h8 h12, stu_f h7]
theorem mhR_f {f i : Nat} (hf : 6 < f) (h7 : f ≠ 7) (h8 : f ≠ 8) (h12 : ¬ (f = 12 ∧ i = 0)) : ∀ (n : Nat) (s : Ys), (mhR n s).1 f i = s.1 f i
  | 0, _ => rfl
  | n + 1, s => by rw [mhR, mhS_f hf h7 h8 h12, mhR_f hf h7 h8 h12 n s]
theorem mhR_WL : ∀ (n : Nat) {s : Ys}, WL s.1 → n ≤ s.1 12 5 → s.1 12 1 < 2 ^ 19 → WL (mhR n s).1
  | 0, _, h, _, _ => h
  | n + 1, s, h, hn, hy => by
    have ih := mhR_WL n h (by omega) hy
    rw [mhR]
    unfold mhS; dsimp only
    refine eatA_WL (WL_seals ih (by omega)) ?_ ?_
    · show n < (mhR n s).1 12 5
      rw [mhR_f (by omega) (by omega) (by omega) (by omega)]; omega
    · show (mhR n s).1 12 1 < _
      rw [mhR_f (by omega) (by omega) (by omega) (by omega)]; exact hy
theorem myS_f {lw f i : Nat} {s : Ys} (hf : 6 < f) (h7 : f ≠ 7) (h8 : f ≠ 8) (h12 : ¬ (f = 12 ∧ (i = 0 ∨ i = 1 ∨ i = 3))) : (myS lw s).1 f i = s.1 f i := by
  unfold myS; dsimp only
  rw [show ∀ B : St, ∀ v, stu B 12 1 v f i = B f i from fun B v => if_neg (fun q => by omega), mhR_f hf h7 h8 (by omega)]
  dsimp only
  exact if_neg (fun q => by omega)
theorem myR_f {l k f i : Nat} (hf : 6 < f) (h7 : f ≠ 7) (h8 : f ≠ 8) (h12 : ¬ (f = 12 ∧ (i = 0 ∨ i = 1 ∨ i = 3))) : ∀ (n : Nat) (s : Ys), (myR l k n s).1 f i = s.1 f i
  | 0, _ => rfl
  | n + 1, s => by rw [myR, myS_f hf h7 h8 h12, myR_f hf h7 h8 h12 n s]
theorem myS_y {lw : Nat} {s : Ys} : (myS lw s).1 12 1 = s.1 12 1 + 1 := by unfold myS; dsimp only; rw [stu_s]
theorem myR_y {l k : Nat} : ∀ (n : Nat) (s : Ys), (myR l k n s).1 12 1 = s.1 12 1 + n
  | 0, _ => rfl
  | n + 1, s => by rw [myR, myS_y, myR_y n s, Nat.add_assoc]
theorem WL_law {A : St} (h : WL A) {v : Nat} (hv : v ≤ 2) : WL (stu A 12 3 v) := by
  obtain ⟨h0, h1, h2, h3, h4, h5, h6, h7⟩ := h
  exact ⟨h0, h1, h2, by rw [stu_s]; exact hv, h4, h5, h6, h7⟩
theorem myS_WL {lw : Nat} {s : Ys} (hl : lw ≤ 2) (h : WL s.1) (hy : s.1 12 1 < 2 ^ 19) : WL (myS lw s).1 := by
  unfold myS; dsimp only
  have h1 : WL (mhR (s.1 12 5) (stu s.1 12 3 lw, s.2)).1 := mhR_WL _ (s := (stu s.1 12 3 lw, s.2)) (WL_law h hl) (by show s.1 12 5 ≤ s.1 12 5; omega) hy
  refine WL_year h1 ?_ (by omega)
  rw [mhR_f (by omega) (by omega) (by omega) (by omega)]
  show s.1 12 1 ≤ _; omega
theorem myR_WL {l k : Nat} (hl : l ≤ 2) : ∀ (n : Nat) {s : Ys}, WL s.1 → s.1 12 1 + n < 2 ^ 19 → WL (myR l k n s).1
  | 0, _, h, _ => h
  | n + 1, s, h, hy => by
    rw [myR]
    exact myS_WL (by split <;> omega) (myR_WL hl n h (by omega)) (by rw [myR_y]; omega)
set_option maxRecDepth 100000 in
set_option maxHeartbeats 1000000 in
theorem m_siegeOf {σ : Sg} {A : St} {hg n k : Nat} {Q : Option Value → Sg → Prop} (hC : MR σ A hg) (hW : WL A) (hy : A 12 1 + 99 < 2 ^ 19) (h9 : hg ≤ 999999999) (hn : n ≤ 20) (hk : k ≤ n) (h : ∀ σ', MR σ' A hg → FrM σ σ' → Q (some (.int (nI (siA A n k)))) σ') : MetA mX8_siegeOf [.ref 89, .int (nI n), .int (nI k)] σ Q := by
  refine MetA_of qX8_siegeOf (Nat.le_of_ble_eq_true rfl) ?_
  have h4 := hW.2.1
  have h24 := hW.1.1
  have hl2 := hW.2.2.2.1
  have back : ∀ σ', FrP 200 σ σ' → MR σ' A hg := fun σ' hF => ⟨RMr.fr hC.1 h24 h4 (fun j _ q _ => hF.2 j (by omega)), hC.2.1.fr (fun c hc => hF.1 c (by omega) (by omega)), by rw [hF.2 178 (by omega)]; exact hC.2.2⟩
  -- the houses
  have r47 : ∀ (t m hh : Nat) (σ' : Sg) (s0 : Ys), WL s0.1 → s0.1 12 1 < 2 ^ 19 → hh + m = s0.1 12 5 → PS 200 σ' (mhR hh s0) hg → FrP 200 σ σ' →
      (∀ σ'', PS 200 σ'' (mhR (s0.1 12 5) s0) hg → FrP 200 σ σ'' → V mX8_siegeOf 93 [(0, .ref 89), (1, .int (nI n)), (2, .int (nI k)), (3, .int (nI t))] [] σ'' Q) →
      V mX8_siegeOf 47 [(0, .ref 89), (1, .int (nI n)), (2, .int (nI k)), (3, .int (nI t)), (4, .int (nI hh))] [] σ' Q := by
    intro t m
    induction m with
    | zero =>
      intro hh σ' s0 hW0 hy0 hi hP hF hQ
      have h4 := hW0.2.1
      have e5 : (mhR hh s0).1 12 5 = s0.1 12 5 := mhR_f (by omega) (by omega) (by omega) (by omega) _ _
      have h0h := hP.2.1.1
      rw [e5] at h0h
      have hi : hh = s0.1 12 5 := by omega
      subst hi
      refine wpB_sd (stops := [47, 93]) kX8_siegeOf 30 _ _ _ _ ?_
      refine br_t (by rw [h0h]; exact nI_le (by omega) (by omega)) ?_
      exact V.take 4 (hQ σ' hP hF)
    | succ m ih =>
      intro hh σ' s0 hW0 hy0 hi hP hF hQ
      have h4 := hW0.2.1
      have hWh := mhR_WL hh hW0 (by omega) hy0
      have hWn := mhR_WL (hh + 1) hW0 (by omega) hy0
      have hWs := WL_seals (hh := hh) (s := 0) hWh (by omega)
      have e5 : (mhR hh s0).1 12 5 = s0.1 12 5 := mhR_f (by omega) (by omega) (by omega) (by omega) _ _
      have ey : (mhR hh s0).1 12 1 = s0.1 12 1 := mhR_f (by omega) (by omega) (by omega) (by omega) _ _
      have h0h := hP.2.1.1
      rw [e5] at h0h
      have hle := eatA_le (A := stu (mhR hh s0).1 7 hh 0) (hh := hh) (harv := 0)
      have hw9 := (hWs.2.2.2.2.2.1 hh (by show hh < (mhR hh s0).1 12 5; omega)).1
      have hcap := hgA_le (h0 := hg) (t := fb_sm (mhR hh s0).2 4)
      refine wpB_sd (stops := [47, 93]) kX8_siegeOf 30 _ _ _ _ ?_
      refine br_f (by rw [h0h]; exact nI_ge (by omega) (by omega)) ?_
      refine ast (n := 800) (j := 200 + 168 + hh) rfl (by simp only [fa_lit, nI_add]) (by omega) ?_
      have hR1 : RMr 200 (sgu σ' 90 (200 + 168 + hh) 0) (stu (mhR hh s0).1 7 hh 0) := RMr_one (v := 0) hP.1 hWh (by omega)
      have hG1 : RMg (sgu σ' 90 (200 + 168 + hh) 0) (stu (mhR hh s0).1 7 hh 0) := RMg_one hP.2.1 (fun c hc => sgu_c (by omega)) (by omega) (by omega) (by omega)
      have hF1 : FrP 200 σ' (sgu σ' 90 (200 + 168 + hh) 0) := FrP.put (by omega) (by omega)
      refine mAr (by rfl) (m_eat (x := 200) (A := stu (mhR hh s0).1 7 hh 0) (hh := hh) (harv := 0) (by omega) hR1 hG1 hWs (by show hh < (mhR hh s0).1 12 5; omega) (by omega) (by show (mhR hh s0).1 12 1 < _; omega) (fun σ2 hR2 hF2 => ?_))
      have h97 : σ2 97 = σ' 97 := by rw [hF2.1 97 (by omega), sgu_c (by omega)]
      have h178 : σ2 90 (200 + 178) = σ' 90 (200 + 178) := by rw [hF2.2 _ (by omega), sgu_k (by omega)]
      refine mAr (by rfl) (m_hunger (x := 200) (hh := hh) (m := (eatA (stu (mhR hh s0).1 7 hh 0) hh 0).2) (a := (mhR hh s0).2 hh) (b := hgA hg (fb_sm (mhR hh s0).2 4)) (by omega) (by omega) (by rw [h97]; exact hP.2.2.1 hh (by omega)) (by rw [h178]; exact hP.2.2.2) (by omega) ?_)
      have hsm : fb_sm (mhR hh s0).2 4 + (eatA (stu (mhR hh s0).1 7 hh 0) hh 0).2 = fb_sm (fun i => if i = hh then (mhR hh s0).2 hh + (eatA (stu (mhR hh s0).1 7 hh 0) hh 0).2 else (mhR hh s0).2 i) 4 := by
        have := fb_sm_upd (mhR hh s0).2 ((mhR hh s0).2 hh + (eatA (stu (mhR hh s0).1 7 hh 0) hh 0).2) (show hh < 4 by omega)
        omega
      rw [hgA_add, hsm]
      have hG2 : RMg σ' (eatA (stu (mhR hh s0).1 7 hh 0) hh 0).1 := hP.2.1.eq (mhS_f (by omega) (by omega) (by omega) (by omega)) (mhS_f (by omega) (by omega) (by omega) (by omega)) (fun i => mhS_f (by omega) (by omega) (by omega) (by omega)) (fun i => mhS_f (by omega) (by omega) (by omega) (by omega))
      have key := PS_eat (s := mhR hh s0) (k := hh) (v := (eatA (stu (mhR hh s0).1 7 hh 0) hh 0).2) hP (by omega) hWn.1.1 hWn.2.1 hR2 hG2 (hF1.tr hF2.p) h97 rfl
      have nxt := ih (hh + 1) _ s0 hW0 hy0 (by omega) key.1 (hF.tr key.2) hQ
      rw [← nI_1] at nxt
      exact nxt
  -- the years
  have r14 : ∀ (m t : Nat) (σ' : Sg), t + m = n → PS 200 σ' (myR (A 12 3) k t (A, fun _ => 0)) hg → FrP 200 σ σ' → V mX8_siegeOf 14 [(0, .ref 89), (1, .int (nI n)), (2, .int (nI k)), (3, .int (nI t))] [] σ' Q := by
    intro m
    induction m with
    | zero =>
      intro t σ' hi hP hF
      have hi : t = n := by omega
      subst hi
      refine wpB_sd (stops := [14]) kX8_siegeOf 30 _ _ _ _ ?_
      refine br_t (nI_le (by omega) (by omega)) ?_
      refine m_all hP.2.2.1 ?_
      rw [siege_eq hk]
      exact h σ' (back σ' hF) (hF.m (by omega))
    | succ m ih =>
      intro t σ' hi hP hF
      have hWt := myR_WL (k := k) hl2 t (s := (A, fun _ => 0)) hW (by dsimp only; omega)
      have hyt : (myR (A 12 3) k t (A, fun _ => 0)).1 12 1 = A 12 1 + t := myR_y t _
      have e5t : (myR (A 12 3) k t (A, fun _ => 0)).1 12 5 = A 12 5 := myR_f (by omega) (by omega) (by omega) (by omega) t _
      have go : ∀ lw, lw ≤ 2 → lw = (if k ≤ t then 2 else A 12 3) → V mX8_siegeOf 44 [(0, .ref 89), (1, .int (nI n)), (2, .int (nI k)), (3, .int (nI t))] [] (sgu σ' 90 (200 + 179) (nI lw)) Q := by
        intro lw hlw elw
        have hP1 : PS 200 (sgu σ' 90 (200 + 179) (nI lw)) (stu (myR (A 12 3) k t (A, fun _ => 0)).1 12 3 lw, (myR (A 12 3) k t (A, fun _ => 0)).2) hg := ⟨RMr_one hP.1 hWt (by omega), RMg_one hP.2.1 (fun c hc => sgu_c (by omega)) (by omega) (by omega) (by omega), fun j hj => by rw [sgu_c (by omega)]; exact hP.2.2.1 j hj, by rw [sgu_k (by omega)]; exact hP.2.2.2⟩
        have hWl := WL_law hWt hlw
        refine wpB_sd (stops := [47]) kX8_siegeOf 30 _ _ _ _ ?_
        refine r47 t _ 0 _ (stu (myR (A 12 3) k t (A, fun _ => 0)).1 12 3 lw, (myR (A 12 3) k t (A, fun _ => 0)).2) hWl (by show (myR (A 12 3) k t (A, fun _ => 0)).1 12 1 < _; omega) (Nat.zero_add _) hP1 (hF.tr (FrP.put (by omega) (by omega))) (fun σ2 hP2 hF2 => ?_)
        have hW2 := mhR_WL ((stu (myR (A 12 3) k t (A, fun _ => 0)).1 12 3 lw) 12 5) (s := (stu (myR (A 12 3) k t (A, fun _ => 0)).1 12 3 lw, (myR (A 12 3) k t (A, fun _ => 0)).2)) hWl (Nat.le_refl _) (by show (myR (A 12 3) k t (A, fun _ => 0)).1 12 1 < _; omega)
        have ey2 : (mhR ((stu (myR (A 12 3) k t (A, fun _ => 0)).1 12 3 lw) 12 5) (stu (myR (A 12 3) k t (A, fun _ => 0)).1 12 3 lw, (myR (A 12 3) k t (A, fun _ => 0)).2)).1 12 1 = A 12 1 + t := by
          rw [mhR_f (by omega) (by omega) (by omega) (by omega)]; exact hyt
        have hyr := hP2.1.2.1
        dsimp only at hyr
        rw [ey2] at hyr
        refine wpB_sd (stops := [14]) kX8_siegeOf 30 _ _ _ _ ?_
        refine ald (n := 800) (j := 200 + 177) rfl rfl (by omega) hyr ?_
        refine ast (n := 800) (j := 200 + 177) rfl rfl (by omega) ?_
        rw [nI_1]
        have hPy := hP2.yr (v := A 12 1 + t + 1) (by omega) hW2.1.1 hW2.2.1
        have nxt := ih (t + 1) _ (by omega) (by
          rw [myR, ← elw]
          unfold myS
          rw [hyt]
          exact hPy) (hF2.tr (FrP.put (by omega) (by omega)))
        rw [← nI_1] at nxt
        exact V.take 4 nxt
      have hlaw : σ' 90 179 = nI (A 12 3) := by rw [hF.2 179 (by omega)]; exact hC.1.2.2.1
      refine wpB_sd (stops := [44]) kX8_siegeOf 30 _ _ _ _ ?_
      refine br_f (nI_ge (by omega) (by omega)) ?_
      refine ⟨fun g => ?_, fun g => ?_⟩
      · have g := (nI_ltI (by omega) (by omega)).mp g
        refine ald (n := 800) (j := 179) rfl rfl (by omega) hlaw ?_
        refine ast (n := 800) (j := 200 + 179) rfl rfl (by omega) ?_
        exact V.take 4 (go (A 12 3) hl2 (by rw [if_neg (by omega)]))
      · have g : ¬ t < k := fun q => g (nI_lt q (by omega))
        refine ast (n := 800) (j := 200 + 179) rfl rfl (by omega) ?_
        exact V.take 4 (go 2 (by omega) (by rw [if_pos (by omega)]))
  refine wpB_sd (stops := [14]) kX8_siegeOf 40 _ _ _ _ ?_
  refine mAr (by rfl) (m_copy (x := 0) (y := 200) (by omega) (by omega) (by omega) (fun σ1 c1 c2 c3 => ?_))
  refine m_clear (fun σ2 d1 d2 => ?_)
  have hR1 : RMr 200 σ1 A := RMr_copy hC.1 h24 h4 c1
  have hh1 : σ1 90 (200 + 178) = nI hg := by
    rw [c1 178 (by omega), Nat.zero_add]; exact hC.2.2
  refine r14 n 0 σ2 (by omega) (PS_0 (RMr.fr hR1 h24 h4 (fun j _ _ _ => by rw [d2 90 (by omega)])) ((hC.2.1.fr (fun c hc => c3 c (by omega))).fr (fun c hc => d2 c (by omega))) d1 (by rw [d2 90 (by omega)]; exact hh1) h9) ⟨fun c hc hc2 => by rw [d2 c hc2, c3 c hc], fun j hj => by rw [d2 90 (by omega), c2 j (by omega)]⟩
set_option maxRecDepth 100000 in
theorem u_siege {σ : Sg} {A : St} {hg : Nat} {x y : Int32} {Q : Option Value → Sg → Prop} (hC : MR σ A hg) (hW : WL A) (hy : A 12 1 + 99 < 2 ^ 19) (h9 : hg ≤ 999999999) (ho : ¬ (∃ n k, 1 ≤ n ∧ n ≤ 20 ∧ k ≤ n ∧ x = nI n ∧ y = nI k) → Q (some (.int OUT)) σ) (hi : ∀ n k, 1 ≤ n → n ≤ 20 → k ≤ n → x = nI n → y = nI k → ∀ σ', MR σ' A hg → FrM σ σ' → Q (some (.int (nI (siA A n k)))) σ') : MetA mX8_siege [.ref 89, .int x, .int y] σ Q := by
  refine MetA_of qX8_siege (Nat.le_of_ble_eq_true rfl) ?_
  refine wpB_sd (stops := []) kX8_siege 60 _ _ _ _ ?_
  refine m_inI (lo := nI 1) (hi := nI 20) rfl rfl ?_
  refine ⟨fun g => ho ?_, fun g => ?_⟩
  · rintro ⟨n, k, h1, h2, h3, rfl, rfl⟩
    exact bI_0.mp g ((rg_iff (by omega) (by omega)).mpr ⟨n, h1, h2, rfl⟩)
  obtain ⟨n, h1, h2, rfl⟩ := (rg_iff (by omega) (by omega)).mp (bI_n0 g)
  refine m_inI (lo := nI 0) (hi := nI n) rfl rfl ?_
  refine ⟨fun g => ho ?_, fun g => ?_⟩
  · rintro ⟨n', k, h1', h2', h3, e, rfl⟩
    have e := (nI_eq (by omega) (by omega)).mp e
    subst e
    exact bI_0.mp g ((rg_iff (by omega) (by omega)).mpr ⟨k, by omega, h3, rfl⟩)
  obtain ⟨k, -, h3, rfl⟩ := (rg_iff (by omega) (by omega)).mp (bI_n0 g)
  exact m_siegeOf hC hW hy h9 h2 h3 (fun σ' a b => hi n k h1 h2 h3 rfl rfl σ' a b)
