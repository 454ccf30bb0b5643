/-! the reference: clearing, drawing, copying, years -/
set_option maxRecDepth 100000 in
theorem m_clear {σ : Sg} {Q : Option Value → Sg → Prop} (h : ∀ σ', (∀ k, k < 4 → σ' 97 k = nI 0) → (∀ c, c ≠ 97 → σ' c = σ c) → Q none σ') : MetA mX8_clearHungers [.ref 89] σ Q := by
  refine MetA_of qX8_clearHungers (Nat.le_of_ble_eq_true rfl) ?_
  have loop : ∀ n i σi, i + n = 4 → (∀ k, k < i → σi 97 k = nI 0) → (∀ c, c ≠ 97 → σi c = σ c) → V mX8_clearHungers 2 [(0, .ref 89), (1, .int (nI i))] [] σi Q := by
    intro n
    induction n with
    | zero =>
      intro i σi hi h1 h2
      have hi : i = 4 := by omega
      subst hi
      refine wpB_sd (stops := [2]) kX8_clearHungers 30 _ _ _ _ ?_
      exact br_t (by decide) (h σi h1 h2)
    | succ n ih =>
      intro i σi hi h1 h2
      refine wpB_sd (stops := [2]) kX8_clearHungers 30 _ _ _ _ ?_
      refine br_f (nI_ge (b := 4) (by omega) (by omega)) ?_
      refine ast (n := 4) (j := i) rfl rfl (by omega) ?_
      have nxt := ih (i + 1) (sgu σi 97 i 0) (by omega) (fun k hk => by
        by_cases q : k = i
        · subst q; rw [sgu_s]; rfl
        · rw [sgu_k q]; exact h1 k (by omega)) (fun c hc => by rw [sgu_c hc]; exact h2 c hc)
      rw [← nI_1] at nxt
      exact nxt
  refine wpB_sd (stops := [2]) kX8_clearHungers 30 _ _ _ _ ?_
  exact loop 4 0 σ (by omega) (fun k hk => absurd hk (by omega)) (fun _ _ => rfl)
theorem sm4 (f : Nat → Nat) : fb_sm f 4 = f 0 + f 1 + f 2 + f 3 := by simp [fb_sm]
theorem m_all {σ : Sg} {f : Nat → Nat} {Q : Option Value → Sg → Prop} (hf : ∀ k, k < 4 → σ 97 k = nI (f k)) (h : Q (some (.int (nI (fb_sm f 4)))) σ) : MetA mX8_allHungers [.ref 89] σ Q := by
  refine MetA_of qX8_allHungers (Nat.le_of_ble_eq_true rfl) ?_
  refine wpB_sd (stops := []) kX8_allHungers 30 _ _ _ _ ?_
  refine ald (n := 4) (j := 0) rfl rfl (by omega) (hf 0 (by omega)) ?_
  refine ald (n := 4) (j := 1) rfl rfl (by omega) (hf 1 (by omega)) ?_
  refine ald (n := 4) (j := 2) rfl rfl (by omega) (hf 2 (by omega)) ?_
  refine ald (n := 4) (j := 3) rfl rfl (by omega) (hf 3 (by omega)) ?_
  refine fin_i h ?_
  rw [nI_add, nI_add, nI_add, sm4]
theorem PS_0 {x : Nat} {σ : Sg} {A : St} {h0 : Nat} (hR : RMr x σ A) (hG : RMg σ A) (h97 : ∀ k, k < 4 → σ 97 k = nI 0) (h178 : σ 90 (x + 178) = nI h0) (h9 : h0 ≤ 999999999) : PS x σ (A, fun _ => 0) h0 := by
  refine ⟨hR, hG, h97, ?_⟩
  rw [h178, fb_sm_const, Nat.mul_zero, hgA_0 h9]
set_option maxRecDepth 100000 in
theorem m_draw {σ : Sg} {A : St} {n : Nat} {Q : Option Value → Sg → Prop} (hs : σ 90 180 = nI (A 12 4)) (hs2 : A 12 4 < 2 ^ 31) (hn : 1 ≤ n) (hn2 : n < 2 ^ 20) (h : Q (some (.int (nI (drA (A 12 4) / 65536 % n)))) (sgu σ 90 180 (nI (drA (A 12 4))))) : MetA mX8_draw [.ref 89, .int (nI n)] σ Q := by
  refine MetA_of qX8_draw (Nat.le_of_ble_eq_true rfl) ?_
  refine wpB_sd (stops := []) kX8_draw 40 _ _ _ _ ?_
  have hd := drA_lt (A 12 4)
  have e3 : drA (A 12 4) / 65536 ≤ drA (A 12 4) := Nat.div_le_self _ _
  refine ald (n := 800) (j := 180) rfl rfl (by omega) hs ?_
  refine ⟨by decide, ?_⟩
  refine ast (n := 800) (j := 180) rfl rfl (by omega) ?_
  have e : ((nI (A 12 4)).toInt64 * 1103515245 + 12345 - ((nI (A 12 4)).toInt64 * 1103515245 + 12345) / 2147483648 * 2147483648).toInt32 = nI (drA (A 12 4)) := by
    rw [nI_l hs2, fa_litL 1103515245, fa_litL 12345, fa_litL 2147483648, lN_mul, lN_add, pk_lRem (by omega) (by omega) (by omega), lN_i, drA]
  rw [e]
  refine ald (n := 800) (j := 180) rfl rfl (by omega) sgu_s ?_
  refine ⟨by decide, ?_⟩
  have e2 : nI (drA (A 12 4)) / 65536 = nI (drA (A 12 4) / 65536) := by
    rw [fa_lit 65536]; exact pk_div hd (by omega) (by omega)
  rw [e2]
  refine ⟨nI_ne0 (by omega) (by omega), ?_⟩
  rw [pk_rem (by omega) (by omega) (by omega)]
  exact h
set_option maxRecDepth 100000 in
theorem m_copy {σ : Sg} {x y : Nat} {Q : Option Value → Sg → Prop} (hx : x ≤ 600) (hy : y ≤ 600) (hxy : x + 200 ≤ y ∨ y + 200 ≤ x) (h : ∀ σ', (∀ k, k < 200 → σ' 90 (y + k) = σ 90 (x + k)) → (∀ k, k < y ∨ y + 200 ≤ k → σ' 90 k = σ 90 k) → (∀ c, c ≠ 90 → σ' c = σ c) → Q none σ') : MetA mX8_copy [.ref 89, .int (nI x), .int (nI y)] σ Q := by
  refine MetA_of qX8_copy (Nat.le_of_ble_eq_true rfl) ?_
  have loop : ∀ n i σi, i + n = 200 → (∀ k, k < i → σi 90 (y + k) = σ 90 (x + k)) → (∀ k, k < y ∨ y + i ≤ k → σi 90 k = σ 90 k) → (∀ c, c ≠ 90 → σi c = σ c) → V mX8_copy 2 [(0, .ref 89), (1, .int (nI x)), (2, .int (nI y)), (3, .int (nI i))] [] σi Q := by
    intro n
    induction n with
    | zero =>
      intro i σi hi h1 h2 h3
      have hi : i = 200 := by omega
      subst hi
      refine wpB_sd (stops := [2]) kX8_copy 30 _ _ _ _ ?_
      exact br_t (by decide) (h σi h1 h2 h3)
    | succ n ih =>
      intro i σi hi h1 h2 h3
      refine wpB_sd (stops := [2]) kX8_copy 30 _ _ _ _ ?_
      refine br_f (nI_ge (b := 200) (by omega) (by omega)) ?_
      refine ald (n := 800) (j := x + i) rfl (by simp only [nI_add]) (by omega) (h2 (x + i) (by omega)) ?_
      refine ast (n := 800) (j := y + i) rfl (by simp only [nI_add]) (by omega) ?_
      have nxt := ih (i + 1) (sgu σi 90 (y + i) (σ 90 (x + i))) (by omega) (fun k hk => by
        by_cases q : k = i
        · subst q; rw [sgu_s]
        · rw [sgu_k (by omega)]; exact h1 k (by omega)) (fun k hk => by rw [sgu_k (by omega)]; exact h2 k (by omega)) (fun c hc => by rw [sgu_c hc]; exact h3 c hc)
      rw [← nI_1] at nxt
      exact nxt
  refine wpB_sd (stops := [2]) kX8_copy 30 _ _ _ _ ?_
  exact loop 200 0 σ (by omega) (fun k hk => absurd hk (by omega)) (fun _ _ => rfl) (fun _ _ => rfl)
theorem RMr_copy {x y : Nat} {σ σ' : Sg} {A : St} (hR : RMr x σ A) (h24 : A 12 0 ≤ 24) (h5 : A 12 5 ≤ 4) (h : ∀ k, k < 200 → σ' 90 (y + k) = σ 90 (x + k)) : RMr y σ' A := by
  obtain ⟨r0, r1, r2, r3, r4, r5⟩ := hR
  have h2 : ∀ a k, a + k < 200 → σ' 90 (y + a + k) = σ 90 (x + a + k) := fun a k hk => by rw [Nat.add_assoc, Nat.add_assoc]; exact h (a + k) hk
  refine ⟨?_, ?_, ?_, ?_, fun i hi => ?_, fun i hi => ?_⟩
  · rw [h 176 (by omega)]; exact r0
  · rw [h 177 (by omega)]; exact r1
  · rw [h 179 (by omega)]; exact r2
  · rw [h 180 (by omega)]; exact r3
  · rw [h i (by omega), h2 24 i (by omega), h2 48 i (by omega), h2 72 i (by omega), h2 96 i (by omega), h2 120 i (by omega), h2 144 i (by omega)]; exact r4 i hi
  · rw [h2 168 i (by omega), h2 172 i (by omega)]; exact r5 i hi
/-- n years from a cleared start -/
theorem m_passes {mm : MS} {x n h0 pc0 : Nat} {lv : Nat → Lv} {R : Option Value → Sg → Prop} {s0 : Ys} {σ : Sg} (hx : x ≤ 600) (hW : WL s0.1) (hy : s0.1 12 1 + n < 2 ^ 19)
    (hend : ∀ σ', PS x σ' (yrR false n s0) h0 → FrP x σ σ' → V mm pc0 (lv n) [] σ' R)
    (hstep : ∀ i σi, i < n → (∀ Q, (∀ σ', PS x σ' (yrR false (i + 1) s0) h0 → FrP x σ σ' → Q none σ') → MetA mX8_pass [.ref 89, .int (nI x)] σi Q) → (∀ σ', PS x σ' (yrR false (i + 1) s0) h0 → FrP x σ σ' → V mm pc0 (lv (i + 1)) [] σ' R) → V mm pc0 (lv i) [] σi R) :
    ∀ m i σi, i + m = n → PS x σi (yrR false i s0) h0 → FrP x σ σi → V mm pc0 (lv i) [] σi R := by
  intro m
  induction m with
  | zero =>
    intro i σi hi hP hF
    have hi : i = n := by omega
    subst hi
    exact hend σi hP hF
  | succ m ih =>
    intro i σi hi hP hF
    refine hstep i σi (by omega) (fun Q hQ => ?_) (fun σ' a b => ih (i + 1) σ' (by omega) a b)
    have hWi := yrR_WL (dr := false) i hW (by omega)
    refine m_pass hx hP hWi (by rw [yrR_y]; omega) (fun σ' a b => hQ σ' a (hF.tr b))
set_option maxRecDepth 100000 in
theorem m_try {σ : Sg} {A : St} {n h0 : Nat} {Q : Option Value → Sg → Prop} (hR : RMr 200 σ A) (hG : RMg σ A) (hW : WL A) (hn : n ≤ 99) (hy : A 12 1 + n < 2 ^ 19) (h178 : σ 90 378 = nI h0) (h9 : h0 ≤ 999999999) (h : ∀ σ', PS 200 σ' (yrR false n (A, fun _ => 0)) h0 → FrP 200 σ σ' → Q none σ') : MetA mX8_try_ [.ref 89, .int (nI n)] σ Q := by
  refine MetA_of qX8_try_ (Nat.le_of_ble_eq_true rfl) ?_
  have key : ∀ σ1, PS 200 σ1 (A, fun _ => 0) h0 → FrP 200 σ σ1 → V mX8_try_ 6 [(0, .ref 89), (1, .int (nI n)), (2, .int (nI 0))] [] σ1 Q := by
    intro σ1 hP hF
    refine m_passes (mm := mX8_try_) (pc0 := 6) (lv := fun i => [(0, .ref 89), (1, .int (nI n)), (2, .int (nI i))]) (s0 := (A, fun _ => 0)) (σ := σ1) (x := 200) (n := n) (h0 := h0) (by omega) hW hy (fun σ' a b => ?_) (fun i σi hi hp hk => ?_) n 0 σ1 (by omega) hP FrP.rf
    · refine wpB_sd (stops := [6]) kX8_try_ 30 _ _ _ _ ?_
      exact br_t (nI_le (by omega) (by omega)) (h σ' a (hF.tr b))
    · refine wpB_sd (stops := [6]) kX8_try_ 30 _ _ _ _ ?_
      refine br_f (nI_ge hi (by omega)) ?_
      refine hp _ (fun σ' a b => ?_)
      have := hk σ' a b
      rw [← nI_1] at this
      exact this
  refine wpB_sd (stops := [6]) kX8_try_ 30 _ _ _ _ ?_
  refine m_clear (fun σ1 h1 h2 => ?_)
  refine key σ1 (PS_0 (RMr.fr hR hW.1.1 hW.2.1 (fun k _ _ _ => by rw [h2 90 (by omega)])) (hG.fr (fun c hc => h2 c (by omega))) h1 (by rw [h2 90 (by omega)]; exact h178) h9) ⟨fun c _ hc => h2 c hc, fun k _ => by rw [h2 90 (by omega)]⟩
