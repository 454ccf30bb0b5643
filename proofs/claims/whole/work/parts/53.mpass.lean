/-! the reference: hunger, pass, try -/
def FrP (x : Nat) (σ σ' : Sg) : Prop := (∀ c, c ≠ 90 → c ≠ 97 → σ' c = σ c) ∧ ∀ k, k < x ∨ x + 200 ≤ k → σ' 90 k = σ 90 k
theorem FrP.rf {x : Nat} {σ : Sg} : FrP x σ σ := ⟨fun _ _ _ => rfl, fun _ _ => rfl⟩
theorem FrP.tr {x : Nat} {σ σ' σ'' : Sg} (h : FrP x σ σ') (h2 : FrP x σ' σ'') : FrP x σ σ'' := ⟨fun c hc hc2 => (h2.1 c hc hc2).trans (h.1 c hc hc2), fun k hk => (h2.2 k hk).trans (h.2 k hk)⟩
theorem FrW.p {x : Nat} {σ σ' : Sg} (h : FrW x σ σ') : FrP x σ σ' := ⟨fun c hc _ => h.1 c hc, fun k hk => h.2 k (by omega)⟩
theorem RMr.fr {x : Nat} {σ σ' : Sg} {A : St} (h : RMr x σ A) (h24 : A 12 0 ≤ 24) (h5 : A 12 5 ≤ 4) (hf : ∀ k, x ≤ k → k < x + 200 → k ≠ x + 178 → σ' 90 k = σ 90 k) : RMr x σ' A := by
  obtain ⟨r0, r1, r2, r3, r4, r5⟩ := h
  refine ⟨?_, ?_, ?_, ?_, fun i hi => ?_, fun i hi => ?_⟩
  · rw [hf _ (by omega) (by omega) (by omega)]; exact r0
  · rw [hf _ (by omega) (by omega) (by omega)]; exact r1
  · rw [hf _ (by omega) (by omega) (by omega)]; exact r2
  · rw [hf _ (by omega) (by omega) (by omega)]; exact r3
  · rw [hf (x + i) (by omega) (by omega) (by omega), hf (x + 24 + i) (by omega) (by omega) (by omega), hf (x + 48 + i) (by omega) (by omega) (by omega), hf (x + 72 + i) (by omega) (by omega) (by omega), hf (x + 96 + i) (by omega) (by omega) (by omega), hf (x + 120 + i) (by omega) (by omega) (by omega), hf (x + 144 + i) (by omega) (by omega) (by omega)]; exact r4 i hi
  · rw [hf (x + 168 + i) (by omega) (by omega) (by omega), hf (x + 172 + i) (by omega) (by omega) (by omega)]; exact r5 i hi
set_option maxRecDepth 100000 in
theorem m_hunger {σ : Sg} {x hh m a b : Nat} {Q : Option Value → Sg → Prop} (hx : x ≤ 600) (hh4 : hh < 4) (ha : σ 97 hh = nI a) (hb : σ 90 (x + 178) = nI b) (hbm : b + m < 2 ^ 31)
    (h : Q none (sgu (sgu σ 97 hh (nI (a + m))) 90 (x + 178) (nI (if 999999999 < b + m then 999999999 else b + m)))) : MetA mX8_hunger [.ref 89, .int (nI x), .int (nI hh), .int (nI m)] σ Q := by
  refine MetA_of qX8_hunger (Nat.le_of_ble_eq_true rfl) ?_
  refine wpB_sd (stops := []) kX8_hunger 60 _ _ _ _ ?_
  refine ald (n := 4) (j := hh) rfl rfl (by omega) ha ?_
  refine ast (n := 4) (j := hh) rfl rfl (by omega) ?_
  rw [nI_add]
  have hb2 : sgu σ 97 hh (nI (a + m)) 90 (x + 178) = nI b := by rw [sgu_c (by omega)]; exact hb
  refine ald (n := 800) (j := x + 178) rfl (by simp only [fa_lit, nI_add]) (by omega) hb2 ?_
  refine ⟨fun g => ?_, fun g => ?_⟩
  · rw [nI_add, fa_lit 999999999] at g
    have g := (nI_leI (by omega) (by omega)).mp g
    rw [if_neg (by omega)] at h
    refine ald (n := 800) (j := x + 178) rfl (by simp only [fa_lit, nI_add]) (by omega) hb2 ?_
    refine ast (n := 800) (j := x + 178) rfl (by simp only [fa_lit, nI_add]) (by omega) ?_
    rw [nI_add b m]
    exact h
  · have g : ¬ b + m ≤ 999999999 := fun q => g (by rw [nI_add, fa_lit 999999999]; exact nI_le q (by omega))
    rw [if_pos (by omega), ← fa_lit 999999999] at h
    exact ast (n := 800) (j := x + 178) rfl (by simp only [fa_lit, nI_add]) (by omega) h
theorem hgA_add {h0 t m : Nat} : (if 999999999 < hgA h0 t + m then 999999999 else hgA h0 t + m) = hgA h0 (t + m) := by
  unfold hgA
  split <;> split <;> split <;> omega
theorem hgA_0 {h0 : Nat} (h : h0 ≤ 999999999) : hgA h0 0 = h0 := by unfold hgA; rw [if_neg (by omega)]; rfl
theorem hgA_le {h0 t : Nat} : hgA h0 t ≤ 999999999 := by unfold hgA; split <;> omega
/-- the state of the tried or real years: land, hungers, hunger so far -/
def PS (x : Nat) (σ : Sg) (s : Ys) (h0 : Nat) : Prop := RMr x σ s.1 ∧ RMg σ s.1 ∧ (∀ k, k < 4 → σ 97 k = nI (s.2 k)) ∧ σ 90 (x + 178) = nI (hgA h0 (fb_sm s.2 4))
theorem PS.hs {x : Nat} {σ σ' σ'' : Sg} {s : Ys} {h0 k : Nat} {dr : Bool} (hx : x ≤ 600) (hP : PS x σ s h0) (hk : k < 4) (h24 : (hsS dr k s).1 12 0 ≤ 24) (h5 : s.1 12 5 ≤ 4)
    (hR : RMr x σ' (eatA (hsA1 dr s.1) k (hsV dr s.1)).1) (hF : FrP x σ σ') (hF97 : σ' 97 = σ 97) (h178 : σ' 90 (x + 178) = σ 90 (x + 178))
    (e : σ'' = sgu (sgu σ' 97 k (nI (s.2 k + (eatA (hsA1 dr s.1) k (hsV dr s.1)).2))) 90 (x + 178) (nI (hgA h0 (fb_sm (hsS dr k s).2 4)))) : PS x σ'' (hsS dr k s) h0 ∧ FrP x σ σ'' := by
  subst e
  refine ⟨⟨?_, ?_, fun i hi => ?_, sgu_s⟩, ⟨fun c hc hc2 => ?_, fun i hi => ?_⟩⟩
  · refine RMr.fr (σ := σ') hR h24 ?_ (fun i a b d => by rw [sgu_k d, sgu_c (by omega)])
    have : (hsS dr k s).1 12 5 = s.1 12 5 := hsS_f (by omega) (by omega) (by omega)
    show (hsS dr k s).1 12 5 ≤ 4
    omega
  · have hG : RMg (sgu (sgu σ' 97 k (nI (s.2 k + (eatA (hsA1 dr s.1) k (hsV dr s.1)).2))) 90 (x + 178) (nI (hgA h0 (fb_sm (hsS dr k s).2 4)))) s.1 := hP.2.1.fr (fun c hc => by rw [sgu_c (by omega), sgu_c (by omega)]; exact hF.1 c (by omega) (by omega))
    exact hG.eq (hsS_f (by omega) (by omega) (by omega)) (hsS_f (by omega) (by omega) (by omega)) (fun i => hsS_f (by omega) (by omega) (by omega)) (fun i => hsS_f (by omega) (by omega) (by omega))
  · rw [sgu_c (by omega)]
    unfold hsS; dsimp only
    by_cases q : i = k
    · subst q; rw [sgu_s, if_pos rfl]
    · rw [sgu_k q, if_neg q, hF97]; exact hP.2.2.1 i hi
  · rw [sgu_c hc, sgu_c hc2]; exact hF.1 c hc hc2
  · rw [sgu_k (by omega), sgu_c (by omega)]; exact hF.2 i hi
theorem PS.yr {x : Nat} {σ : Sg} {s : Ys} {h0 v : Nat} (hx : x ≤ 600) (hP : PS x σ s h0) (h24 : s.1 12 0 ≤ 24) (h5 : s.1 12 5 ≤ 4) : PS x (sgu σ 90 (x + 177) (nI v)) (stu s.1 12 1 v, s.2) h0 := by
  obtain ⟨⟨r0, r1, r2, r3, r4, r5⟩, g, h97, hh⟩ := hP
  refine ⟨⟨?_, ?_, ?_, ?_, fun i hi => ?_, fun i hi => ?_⟩, ?_, fun k hk => ?_, ?_⟩
  · rw [sgu_k (by omega)]; exact r0
  · rw [sgu_s]; dsimp only; rw [stu_s]
  · rw [sgu_k (by omega)]; exact r2
  · rw [sgu_k (by omega)]; exact r3
  · have hi : i < s.1 12 0 := hi
    rw [sgu_k (by omega), sgu_k (by omega), sgu_k (by omega), sgu_k (by omega), sgu_k (by omega), sgu_k (by omega), sgu_k (by omega)]; exact r4 i hi
  · have hi : i < s.1 12 5 := hi
    rw [sgu_k (by omega), sgu_k (by omega)]; exact r5 i hi
  · exact RMg.fr (σ := σ) g (fun c hc => sgu_c (by omega))
  · rw [sgu_c (by omega)]; exact h97 k hk
  · rw [sgu_k (by omega)]; exact hh
set_option maxRecDepth 100000 in
set_option maxHeartbeats 1000000 in
theorem m_pass {σ : Sg} {s : Ys} {x h0 : Nat} {Q : Option Value → Sg → Prop} (hx : x ≤ 600) (hP : PS x σ s h0) (hW : WL s.1) (hy : s.1 12 1 < 2 ^ 19) (h : ∀ σ', PS x σ' (yrS false s) h0 → FrP x σ σ' → Q none σ') : MetA mX8_pass [.ref 89, .int (nI x)] σ Q := by
  refine MetA_of qX8_pass (Nat.le_of_ble_eq_true rfl) ?_
  have h4 := hW.2.1
  have loop : ∀ n i σi, i + n = s.1 12 5 → PS x σi (hsR false i s) h0 → FrP x σ σi → V mX8_pass 2 [(0, .ref 89), (1, .int (nI x)), (2, .int (nI i))] [] σi Q := by
    intro n
    induction n with
    | zero =>
      intro i σi hi hPi hF
      have hi : i = s.1 12 5 := by omega
      subst hi
      have hWi := hsR_WL (dr := false) (s.1 12 5) hW (Nat.le_refl _) hy
      have e5 : (hsR false (s.1 12 5) s).1 12 5 = s.1 12 5 := hsR_f (by omega) (by omega) (by omega) _ _
      have ey : (hsR false (s.1 12 5) s).1 12 1 = s.1 12 1 := hsR_f (by omega) (by omega) (by omega) _ _
      have h0h := hPi.2.1.1
      rw [e5] at h0h
      refine wpB_sd (stops := [2]) kX8_pass 30 _ _ _ _ ?_
      refine br_t (by rw [h0h]; exact nI_le (by omega) (by omega)) ?_
      refine ald (n := 800) (j := x + 177) rfl (by simp only [fa_lit, nI_add]) (by omega) hPi.1.2.1 ?_
      refine ast (n := 800) (j := x + 177) rfl (by simp only [fa_lit, nI_add]) (by omega) ?_
      rw [nI_1, ey]
      refine h _ ?_ (hF.tr ⟨fun c hc _ => sgu_c hc, fun k hk => sgu_k (by omega)⟩)
      have := hPi.yr (v := s.1 12 1 + 1) hx hWi.1.1 hWi.2.1
      unfold yrS
      rw [yrB_ff]
      exact this
    | succ n ih =>
      intro i σi hi hPi hF
      have hWi := hsR_WL (dr := false) i hW (by omega) hy
      have e5 : (hsR false i s).1 12 5 = s.1 12 5 := hsR_f (by omega) (by omega) (by omega) _ _
      have ey : (hsR false i s).1 12 1 = s.1 12 1 := hsR_f (by omega) (by omega) (by omega) _ _
      have h0h := hPi.2.1.1
      rw [e5] at h0h
      have hWn := hsR_WL (dr := false) (i + 1) hW (by omega) hy
      have hlv := hsV_le (dr := false) hWi
      rw [hsV_ff] at hlv
      have hsm := sm_hs (dr := false) (s := hsR false i s) (show i < 4 by omega)
      rw [hsA1_ff, hsV_ff] at hsm
      have hle := eatA_le (A := (hsR false i s).1) (hh := i) (harv := harvA (hsR false i s).1 ((hsR false i s).1 12 1))
      have hw9 := (hWi.2.2.2.2.2.1 i (by omega)).1
      have hcap := hgA_le (h0 := h0) (t := fb_sm (hsR false i s).2 4)
      refine wpB_sd (stops := [2]) kX8_pass 30 _ _ _ _ ?_
      refine br_f (by rw [h0h]; exact nI_ge (by omega) (by omega)) ?_
      refine ald (n := 800) (j := x + 177) rfl (by simp only [fa_lit, nI_add]) (by omega) hPi.1.2.1 ?_
      refine m_harvestOf hPi.2.1 hWi.2.2.1 (by omega) ?_
      refine m_eat hx hPi.1 hPi.2.1 hWi (by omega) hlv (by omega) (fun σ2 hR2 hF2 => ?_)
      have h97 : σ2 97 = σi 97 := hF2.1 97 (by omega)
      have h178 : σ2 90 (x + 178) = σi 90 (x + 178) := hF2.2 _ (by omega)
      refine m_hunger (a := (hsR false i s).2 i) (b := hgA h0 (fb_sm (hsR false i s).2 4)) hx (by omega) (by rw [h97]; exact hPi.2.2.1 i (by omega)) (by rw [h178]; exact hPi.2.2.2) (by omega) ?_
      rw [hgA_add, ← hsm]
      have key := PS.hs (dr := false) (k := i) hx hPi (by omega) hWn.1.1 (by omega) (by rw [hsA1_ff, hsV_ff]; exact hR2) hF2.p h97 h178 rfl
      rw [hsA1_ff, hsV_ff] at key
      have nxt := ih (i + 1) _ (by omega) key.1 (hF.tr key.2)
      rw [← nI_1] at nxt
      exact nxt
  refine wpB_sd (stops := [2]) kX8_pass 30 _ _ _ _ ?_
  exact loop (s.1 12 5) 0 σ (by omega) hP FrP.rf
