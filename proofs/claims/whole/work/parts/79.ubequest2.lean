/-! bequest: the reference's call -/
set_option maxRecDepth 100000 in
set_option maxHeartbeats 2000000 in
theorem u_bequest {σ : Sg} {A : St} {hg : Nat} {x y : Int32} {Q : Option Value → Sg → Prop} (hC : MR σ A hg) (hW : WL A) (hu : ¬ (ix x (A 12 5) ∧ (y = -1 ∨ ix y (A 12 0))) → Q (some (.int UNK)) σ) (h1 : (ix x (A 12 5) ∧ (y = -1 ∨ ix y (A 12 0))) → A 12 5 < 2 → Q (some (.int (-1))) σ) (hd : ∀ a, a < A 12 5 → 2 ≤ A 12 5 → x = nI a → y = -1 → ∀ σ', FrO σ σ' → Q (some (.int (nI (bqV A a (bqB A a))))) σ') (hi : ∀ a, a < A 12 5 → 2 ≤ A 12 5 → x = nI a → y ≠ -1 → ix y (A 12 0) → ∀ r, IsH A a y r → ∀ σ', FrO σ σ' → Q (some (.int r)) σ') : MetA mX8_bequest [.ref 89, .int x, .int y] σ Q := by
  refine MetA_of qX8_bequest (Nat.le_of_ble_eq_true rfl) ?_
  have h4 := hW.2.1
  have h24 := hW.1.1
  have e7 : σ 89 7 = nI (A 12 5) := hC.2.1.1
  -- whose is the jar
  have r133 : ∀ a, a < A 12 5 → 2 ≤ A 12 5 → x = nI a → y ≠ -1 → ix y (A 12 0) → bqB A a < 2 ^ 30 → ∀ u3 u4 u5 : Int32, ∀ σ', σ' 89 20 = nI (jlN A a) → (∀ k, k < jlN A a → σ' 98 k = nI (jlJ A a k)) → FrO σ σ' → ∀ m, m ≤ jlN A a → (∀ k, m ≤ k → k < jlN A a → y ≠ nI (jlJ A a k)) → ∀ v, v = nI m - 1 → V mX8_bequest 133 [(0, .ref 89), (1, .int x), (2, .int y), (3, .int u3), (4, .int u4), (5, .int u5), (6, .int (nI (bqB A a / (A 12 5 - 1) ^ (jlN A a - m)))), (7, .int v)] [] σ' Q := by
    intro a ha h2 hx hy hy2 hbb u3 u4 u5 σ' e20 e98 hF m
    have hc8 := jlN_le (A := A) (a := a)
    have ed' : σ' 89 7 - 1 = nI (A 12 5 - 1) := by rw [hF.2 7 (by omega), e7]; exact pk_sub (a := A 12 5) (b := 1) (by omega)
    have hne : ¬ σ' 89 7 - 1 = 0 := by rw [ed']; exact nI_ne0 (by omega) (by omega)
    induction m with
    | zero =>
      intro hm hn v hv
      subst hv
      refine wpB_sd (stops := [133]) kX8_bequest 30 _ _ _ _ ?_
      refine br_t (by decide) ?_
      exact hi a ha h2 hx hy hy2 _ (Or.inr ⟨fun i hi => hn i (by omega) hi, rfl⟩) σ' hF
    | succ m ih =>
      intro hm hn v hv
      have hv := nI_s1 hv
      subst hv
      have hdl := dg_lt (d := A 12 5 - 1) (c := jlN A a) (code := bqB A a) (i := m) (by omega)
      have hdg : bqB A a / (A 12 5 - 1) ^ (jlN A a - (m + 1)) % (A 12 5 - 1) = dgB (A 12 5 - 1) (jlN A a) (bqB A a) m := by
        unfold dgB
        rw [show jlN A a - 1 - m = jlN A a - (m + 1) by omega]
      have hrest : bqB A a / (A 12 5 - 1) ^ (jlN A a - (m + 1)) < 2 ^ 30 := Nat.lt_of_le_of_lt (Nat.div_le_self _ _) hbb
      refine wpB_sd (stops := [133]) kX8_bequest 40 _ _ _ _ ?_
      refine br_f (nI_pos (by omega)) ?_
      refine ald (n := 8) (j := m) rfl rfl (by omega) (e98 m (by omega)) ?_
      refine ⟨fun g => ?_, fun g => ?_⟩
      · refine ⟨hne, ?_⟩
        have nxt := ih (by omega) (fun k hk hk2 => by
          by_cases z : k = m
          · subst z; exact fun q => g q.symm
          · exact hn k (by omega) hk2) _ (nI_d1 (m := m))
        rw [← dv_s (show m < jlN A a by omega), ← pk_div (by omega) (by omega) (by omega), ← ed'] at nxt
        exact nxt
      · refine ⟨hne, ?_⟩
        subst hx
        refine mAr (by rw [ed', pk_rem (by omega) (by omega) (by omega), hdg]) (m_other (a := a) (p := dgB (A 12 5 - 1) (jlN A a) (bqB A a) m) (by omega) (by omega) ?_)
        exact hi a ha h2 rfl hy hy2 _ (Or.inl ⟨m, by omega, g.symm, rfl⟩) σ' hF
  -- the ways
  have r78 : ∀ a, a < A 12 5 → 2 ≤ A 12 5 → x = nI a → (y = -1 ∨ ix y (A 12 0)) → ∀ m i σ' w, i + m = bqN A a → (i = 0 → w = 99999999) → (0 < i → w = bqV A a (amF (bqV A a) i)) → σ' 89 20 = nI (jlN A a) → (∀ k, k < jlN A a → σ' 98 k = nI (jlJ A a k)) → FrO σ σ' → V mX8_bequest 78 [(0, .ref 89), (1, .int x), (2, .int y), (3, .int (nI (bqN A a))), (4, .int (nI (amF (bqV A a) i))), (5, .int (nI w)), (6, .int (nI i))] [] σ' Q := by
    intro a ha h2 hx hyy m
    have hc8 := jlN_le (A := A) (a := a)
    have hway : bqN A a < 7000 := pw8 ⟨A 12 5 - 1, by omega⟩ ⟨jlN A a, by omega⟩
    have hway0 : 0 < bqN A a := Nat.pow_pos (by omega)
    have hbb : bqB A a < 2 ^ 30 := by
      have := amF_lt (bqV A a) (bqN A a) hway0
      unfold bqB; omega
    induction m with
    | zero =>
      intro i σ' w hi1 h0 hs e20 e98 hF
      have hi1 : i = bqN A a := by omega
      subst hi1
      refine wpB_sd (stops := [78, 133]) kX8_bequest 30 _ _ _ _ ?_
      refine br_t (nI_le (by omega) (by omega)) ?_
      refine ⟨fun g => ?_, fun g => ?_⟩
      · have hy : y ≠ -1 := fun q => by subst q; exact absurd g (by decide)
        have nxt := r133 a ha h2 hx hy (hyy.resolve_left hy) hbb (nI (bqN A a)) (nI (amF (bqV A a) (bqN A a))) (nI w) σ' e20 e98 hF (jlN A a) (Nat.le_refl _) (fun k a b => by omega) _ rfl
        rw [Nat.sub_self, Nat.pow_zero, Nat.div_one, ← e20] at nxt
        exact nxt
      · have hy : y = -1 := by
          rcases hyy with q | ⟨k, hk, rfl⟩
          · exact q
          · exact absurd (nI_pos' (show k < 2 ^ 31 by omega)) g
        have fin := hd a ha h2 hx hy σ' hF
        rw [bqB, ← hs hway0] at fin
        exact fin
    | succ m ih =>
      intro i σ' w hi1 h0 hs e20 e98 hF
      have hv := bqV_le (a := a) (code := i) hW.1
      subst hx
      have at108 : ∀ σ2 b w' (u7 : Value), (∀ c, c ≠ 97 → σ2 c = σ' c) → b = amF (bqV A a) (i + 1) → w' = bqV A a (amF (bqV A a) (i + 1)) → V mX8_bequest 108 [(0, .ref 89), (1, .int (nI a)), (2, .int y), (3, .int (nI (bqN A a))), (4, .int (nI b)), (5, .int (nI w')), (6, .int (nI i)), (7, u7)] [] σ2 Q := by
        intro σ2 b w' u7 hF2 hb hw
        subst hb
        refine wpB_sd (stops := [78]) kX8_bequest 30 _ _ _ _ ?_
        have nxt := ih (i + 1) σ2 w' (by omega) (by omega) (fun _ => hw) (by rw [hF2 89 (by omega)]; exact e20) (fun k hk => by rw [hF2 98 (by omega)]; exact e98 k hk) (hF.tr (FrO.c97 hF2))
        rw [← nI_1 i] at nxt
        exact V.take 7 nxt
      refine wpB_sd (stops := [78, 108]) kX8_bequest 30 _ _ _ _ ?_
      refine br_f (nI_ge (by omega) (by omega)) ?_
      refine m_offBy (hC.frO hF) hW ha h2 (by omega) e20 e98 (fun σ2 hF2 => ?_)
      refine ⟨fun g => ?_, fun g => ?_⟩
      · have hi0 : 0 < i := by
          rcases Nat.eq_zero_or_pos i with z | z
          · rw [h0 z] at g
            have := (nI_leI (by omega) (by omega)).mp g
            omega
          · exact z
        have hv2 := bqV_le (a := a) (code := amF (bqV A a) i) hW.1
        rw [hs hi0] at g
        have g := (nI_leI (by omega) (by omega)).mp g
        have e : amF (bqV A a) (i + 1) = amF (bqV A a) i := by rw [amF_s hi0, if_neg (by omega)]
        exact at108 σ2 _ _ _ hF2 e.symm (by rw [e]; exact hs hi0)
      · have e : amF (bqV A a) (i + 1) = i := by
          rcases Nat.eq_zero_or_pos i with z | z
          · subst z; rfl
          · have hv2 := bqV_le (a := a) (code := amF (bqV A a) i) hW.1
            rw [hs z] at g
            rw [amF_s z, if_pos (Nat.lt_of_not_le fun q => g (nI_le q (by omega)))]
        exact at108 σ2 i _ _ hF2 e.symm (by rw [e])
  have r44 : ∀ a, a < A 12 5 → 2 ≤ A 12 5 → x = nI a → (y = -1 ∨ ix y (A 12 0)) → ∀ σ', σ' 89 20 = nI (jlN A a) → (∀ k, k < jlN A a → σ' 98 k = nI (jlJ A a k)) → FrO σ σ' → ∀ m i, i + m = jlN A a → V mX8_bequest 44 [(0, .ref 89), (1, .int x), (2, .int y), (3, .int (nI ((A 12 5 - 1) ^ i))), (4, .int (nI i))] [] σ' Q := by
    intro a ha h2 hx hyy σ' e20 e98 hF m
    have hc8 := jlN_le (A := A) (a := a)
    have ed' : σ' 89 7 - 1 = nI (A 12 5 - 1) := by rw [hF.2 7 (by omega), e7]; exact pk_sub (a := A 12 5) (b := 1) (by omega)
    induction m with
    | zero =>
      intro i hi1
      have hi1 : i = jlN A a := by omega
      subst hi1
      refine wpB_sd (stops := [44, 78]) kX8_bequest 30 _ _ _ _ ?_
      refine br_t (by rw [e20]; exact nI_le (by omega) (by omega)) ?_
      exact r78 a ha h2 hx hyy (bqN A a) 0 σ' 99999999 (by omega) (fun _ => rfl) (by omega) e20 e98 hF
    | succ m ih =>
      intro i hi1
      refine wpB_sd (stops := [44]) kX8_bequest 30 _ _ _ _ ?_
      refine br_f (by rw [e20]; exact nI_ge (by omega) (by omega)) ?_
      have nxt := ih (i + 1) (by omega)
      rw [Nat.pow_succ, ← pk_mul, ← nI_1, ← ed'] at nxt
      exact nxt
  have at24 : (ix x (A 12 5) ∧ (y = -1 ∨ ix y (A 12 0))) → V mX8_bequest 24 [(0, .ref 89), (1, .int x), (2, .int y)] [] σ Q := by
    intro hk
    obtain ⟨⟨a, ha, hx⟩, hy⟩ := hk
    refine wpB_sd (stops := [44]) kX8_bequest 40 _ _ _ _ ?_
    refine ⟨fun g => ?_, fun g => ?_⟩
    · rw [e7] at g
      have g : A 12 5 ≠ 1 := fun q => g (by rw [q]; rfl)
      subst hx
      refine m_findOwn hC hW.1 (by omega) (fun σ1 e20 e98 hF => ?_)
      exact r44 a ha (by omega) rfl hy σ1 e20 e98 hF (jlN A a) 0 (by omega)
    · rw [e7] at g
      have g := (nI_eq (b := 1) (by omega) (by omega)).mp g
      exact h1 ⟨⟨a, ha, hx⟩, hy⟩ (by omega)
  refine wpB_sd (stops := [24]) kX8_bequest 40 _ _ _ _ ?_
  refine m_isHouse hC.2.1 h4 ?_
  refine ⟨fun g => hu (fun q => bI_0.mp g ((ix_iff (by omega)).mpr q.1)), fun g => ?_⟩
  have gx := (ix_iff (by omega)).mp (bI_n0 g)
  refine ⟨fun gy => at24 ⟨gx, Or.inl gy⟩, fun gy => ?_⟩
  refine m_isJar hC.1 h24 ?_
  refine ⟨fun g => at24 ⟨gx, Or.inr ((ix_iff (by omega)).mp (bI_n0 g))⟩, fun g => hu (fun q => ?_)⟩
  exact bI_0.mp g ((ix_iff (by omega)).mpr (q.2.resolve_left gy))
