/-! Land.burstJars, Land.passYears -/
theorem buS_no {A : St} {k : Nat} (h : ¬ buC A k = true) : buS A k = A := if_neg h
set_option maxRecDepth 100000 in
set_option maxHeartbeats 2000000 in
theorem s_burst {σ : Sg} {A : St} {L : Nat} {Q : Option Value → Sg → Prop} (hb : L = 1 ∨ L = 14) (hR : RLd L σ A) (hW : WL A)
    (h : ∀ σ', RLd L σ' (buR (A 12 0) A) → (∀ c, c ≠ L → c ≠ L + 6 → σ' c = σ c) → (∀ k, k ≠ 10 → σ' L k = σ L k) → Q none σ') : MetA mX4_burstJars [.ref L] σ Q := by
  refine MetA_of qX4_burstJars (Nat.le_of_ble_eq_true rfl) ?_
  have loop : ∀ n i σi, i + n = A 12 0 → RLd L σi (buR i A) → (∀ c, c ≠ L → c ≠ L + 6 → σi c = σ c) → (∀ k, k ≠ 10 → σi L k = σ L k) → V mX4_burstJars 2 [(0, .ref L), (1, .int (nI i))] [] σi Q := by
    intro n
    induction n with
    | zero =>
      intro i σi hi hRi hf hk
      have hi : i = A 12 0 := by omega
      subst hi
      have hWi := buR_WL (A 12 0) hW
      have h24 := hW.1.1
      have e0 : buR (A 12 0) A 12 0 = A 12 0 := buR_f (by omega) (by omega) _ _
      have h0 := hRi.1.1
      rw [e0] at h0
      refine wpB_sd (stops := [2]) kX4_burstJars 20 _ _ _ _ ?_
      rcases hb with rfl | rfl <;>
      · refine br_t (by rw [h0]; exact nI_le (by omega) (by omega)) ?_
        exact h _ hRi hf hk
    | succ n ih =>
      intro i σi hi hRi hf hk
      have hWi := buR_WL i hW
      have h24 := hW.1.1
      have e0 : buR i A 12 0 = A 12 0 := buR_f (by omega) (by omega) _ _
      have e1 : buR i A 12 1 = A 12 1 := buR_f (by omega) (by omega) _ _
      have hj : i < buR i A 12 0 := by omega
      have h0 := hRi.1.1
      rw [e0] at h0
      have hin : nI i + 1 = nI (i + 1) := nI_1 i
      have ihn : ∀ σ2, RLd L σ2 (buS (buR i A) i) → (∀ c, c ≠ L → c ≠ L + 6 → σ2 c = σ c) → (∀ k, k ≠ 10 → σ2 L k = σ L k) → V mX4_burstJars 2 [(0, .ref L), (1, .int (nI i + 1))] [] σ2 Q := by
        intro σ2 a b c
        rw [hin]
        exact ih (i + 1) σ2 (by omega) a b c
      obtain ⟨w0, w1, w2, w3, w4, w5, w6⟩ := hWi.1.2.2 i hj
      have hgl := gone_lt hWi.1
      have hy := hWi.1.2.1
      have hyr := hRi.2.2.2.1
      obtain ⟨r0, r1, r2, r3, r4, r5⟩ := hRi.1.2.2 i hj
      have c66 : ∀ cb : Int32, (cb = 1 → buC (buR i A) i = true) → (cb = 0 → ¬ buC (buR i A) i = true) → (cb = 0 ∨ cb = 1) → V mX4_burstJars 66 [(0, .ref L), (1, .int (nI i))] [.int cb] σi Q := by
        intro cb hc1 hc0 hor
        have hcut : ∀ σ2, RLd L σ2 (stu (buR i A) 12 4 (drA (buR i A 12 4))) → (∀ c, c ≠ L → σ2 c = σi c) → (∀ k, k ≠ 10 → σ2 L k = σi L k) → RLd L (sgu σ2 (L + 6) 7 (σ2 (L + 6) 7 ||| (1 <<< (nI i &&& 31)))) (stu (stu (buR i A) 12 4 (drA (buR i A 12 4))) 6 i 1) := by
          intro σ2 hR2 hc2 hk2
          have e : σ2 (L + 6) 7 ||| (1 <<< (nI i &&& 31)) = nI (bset (stu (buR i A) 12 4 (drA (buR i A 12 4)) 6) (stu (buR i A) 12 4 (drA (buR i A 12 4)) 12 0) ||| 2 ^ i) := by
            rw [hR2.1.2.1, one_shl (by omega), fa_or]
          rw [e]
          refine RLd_g hR2 (RCel_take hR2.1 ?_) (fun c hc => sgu_c hc)
          rw [show stu (buR i A) 12 4 (drA (buR i A 12 4)) 12 0 = buR i A 12 0 from stu_k (by omega)]
          exact hj
        refine wpB_sd (stops := [2]) kX4_burstJars 60 _ _ _ _ ?_
        refine ⟨fun g => ?_, fun g => ?_⟩
        · refine V.take 2 ?_
          have := ihn σi (by rw [buS_no (hc0 g)]; exact hRi) hf hk
          exact this
        · have hc := hc1 (by rcases hor with q | q; exact absurd q g; exact q)
          have eS : buS (buR i A) i = if drA (buR i A 12 4) / 65536 % 10 = 0 then stu (stu (buR i A) 12 4 (drA (buR i A 12 4))) 6 i 1 else stu (buR i A) 12 4 (drA (buR i A 12 4)) := by rw [buS, if_pos hc]
          have hmod : drA (buR i A 12 4) / 65536 % 10 < 10 := Nat.mod_lt _ (by omega)
          rcases hb with rfl | rfl <;>
          · refine mAr (by rfl) (s_drawOf (n := 10) (by first | exact Or.inl rfl | exact Or.inr rfl) hRi hWi (by omega) (by omega) (fun σ2 hR2 hc2 hk2 => ?_))
            have hcut := hcut σ2 hR2 hc2 hk2
            refine ⟨fun g2 => ?_, fun g2 => ?_⟩
            · refine V.take 2 ?_
              have g2 : ¬ drA (buR i A 12 4) / 65536 % 10 = 0 := fun q => g2 (by rw [q]; rfl)
              rw [eS, if_neg g2] at ihn
              exact ihn σ2 hR2 (fun c a b => by rw [hc2 c a]; exact hf c a b) (fun k a => by rw [hk2 k a]; exact hk k a)
            · refine V.take 2 ?_
              have g2 : drA (buR i A 12 4) / 65536 % 10 = 0 := (nI_eq (b := 0) (by omega) (by omega)).mp g2
              rw [eS, if_pos g2] at ihn
              exact ihn _ hcut (fun c a b => by rw [sgu_c b, hc2 c a]; exact hf c a b) (fun k a => by rw [sgu_c (by omega), hk2 k a]; exact hk k a)
      refine wpB_sd (stops := [66]) kX4_burstJars 60 _ _ _ _ ?_
      rcases hb with rfl | rfl <;>
      · refine br_f (by rw [h0]; exact nI_ge (by omega) (by omega)) ?_
        refine s_isGone (by first | exact Or.inl rfl | exact Or.inr rfl) hRi.1 hWi.1 hj ?_
        refine ⟨fun g => ?_, fun g => ?_⟩
        · have g : buR i A 6 i = 1 := by
            by_cases q : buR i A 6 i = 1
            · exact q
            · exact absurd (bI_f q) g
          exact V.take 2 (c66 0 (fun q => absurd q (by decide)) (fun _ => by simp [buC, g]) (Or.inl rfl))
        · have g : ¬ buR i A 6 i = 1 := bI_0.mp g
          refine ⟨aok (n := 24) rfl rfl (by omega), nm_r (rdn (by omega) r0) ?_⟩
          refine ⟨fun g2 => ?_, fun g2 => ?_⟩
          · have g2 : buR i A 0 i = 2 := (nI_eq (b := 2) (by omega) (by omega)).mp g2
            exact V.take 2 (c66 0 (fun q => absurd q (by decide)) (fun _ => by simp [buC, g2]) (Or.inl rfl))
          · have g2 : ¬ buR i A 0 i = 2 := fun q => g2 (by rw [q]; rfl)
            refine mAr (by rw [hyr]) (s_ageOf (by first | exact Or.inl rfl | exact Or.inr rfl) hRi.1 hWi.1 hj (Nat.le_refl _) ?_)
            refine ⟨aok (n := 24) rfl rfl (by omega), nm_r (rdn (by omega) r4) ?_⟩
            refine ⟨fun g3 => ?_, fun g3 => ?_⟩
            · have g3 := (nI_leI (by omega) (by omega)).mp g3
              exact V.take 2 (c66 0 (fun q => absurd q (by decide)) (fun _ => by simp only [buC, decide_eq_true_eq]; omega) (Or.inl rfl))
            · have g3 : ¬ buR i A 12 1 - buR i A 5 i ≤ buR i A 4 i := fun q => g3 (nI_le q (by omega))
              exact V.take 2 (c66 1 (fun _ => by simp only [buC, decide_eq_true_eq]; omega) (fun q => absurd q (by decide)) (Or.inr rfl))
  refine wpB_sd (stops := [2]) kX4_burstJars 20 _ _ _ _ ?_
  exact loop (A 12 0) 0 σ (by omega) hR (fun _ _ _ => rfl) (fun _ _ => rfl)
theorem RLd_year {L : Nat} {σ : Sg} {A : St} {v : Nat} (h : RLd L σ A) : RLd L (sgu σ L 7 (nI v)) (stu A 12 1 v) := by
  obtain ⟨h1, h2, h3, h4, h5, h6, h7, h8⟩ := h
  refine ⟨RCel.fr (σ := σ) ?_ (fun c a b => sgu_c (by omega)), ?_, ?_, ?_, ?_, ?_, ?_, ?_⟩
  · exact h1
  · rw [sgu_k (by omega)]; exact h2
  · rw [sgu_k (by omega)]; exact h3
  · rw [sgu_s, stu_s]
  · rw [sgu_k (by omega)]; exact h5
  · rw [sgu_k (by omega)]; exact h6
  · intro k hk
    rw [sgu_c (by omega), sgu_c (by omega), sgu_c (by omega)]; exact h7 k hk
  · intro k hk
    rw [sgu_c (by omega)]; exact h8 k hk
/-- the sum grows by what one house misses -/
theorem sm_hs {dr : Bool} {n N : Nat} {s : Ys} (hn : n < N) : fb_sm (hsS dr n s).2 N = fb_sm s.2 N + (eatA (hsA1 dr s.1) n (hsV dr s.1)).2 := by
  unfold hsS; dsimp only
  have := fb_sm_upd s.2 (s.2 n + (eatA (hsA1 dr s.1) n (hsV dr s.1)).2) hn
  omega
theorem sm_le {f : Nat → Nat} {B : Nat} (h : ∀ i, f i ≤ B) : ∀ n, fb_sm f n ≤ n * B
  | 0 => by simp [fb_sm]
  | n + 1 => by have := sm_le h n; have := h n; rw [fb_sm, Nat.succ_mul]; omega
def FrL (L : Nat) (σ σ' : Sg) : Prop := ∀ c, ¬ (L ≤ c ∧ c ≤ L + 12) → σ' c = σ c
def hgA (hg t : Nat) : Nat := if 999999999 < hg + t then 999999999 else hg + t
theorem hsV_t {A : St} : hsV true A = drA (A 12 4) / 65536 % 30 := by unfold hsV; rw [if_pos rfl]
theorem hsV_ff {A : St} : hsV false A = harvA A (A 12 1) := by unfold hsV; rw [if_neg (by decide)]
theorem hsA1_t {A : St} : hsA1 true A = stu A 12 4 (drA (A 12 4)) := by unfold hsA1; rw [if_pos rfl]
theorem hsA1_ff {A : St} : hsA1 false A = A := by unfold hsA1; rw [if_neg (by decide)]
theorem yrB_t {A : St} : yrB true A = buR (A 12 0) A := by unfold yrB; rw [if_pos rfl]
theorem yrB_ff {A : St} : yrB false A = A := by unfold yrB; rw [if_neg (by decide)]
theorem capI {a : Nat} (h : a < 2 ^ 31) : (if (999999999 : Int32) < nI a then 999999999 else nI a) = nI (if 999999999 < a then 999999999 else a) := by
  rw [fa_lit 999999999]
  by_cases q : 999999999 < a
  · rw [if_pos q, if_pos (nI_lt q h)]
  · rw [if_neg q, if_neg (nI_nlt (by omega) (by omega))]
theorem RLd_h {L : Nat} {σ : Sg} {A : St} {v : Int32} (h : RLd L σ A) : RLd L (sgu σ L 8 v) A := by
  obtain ⟨h1, h2, h3, h4, h5, h6, h7, h8⟩ := h
  refine ⟨RCel.fr (σ := σ) h1 (fun c a b => sgu_c (by omega)), ?_, ?_, ?_, ?_, ?_, ?_, ?_⟩
  · rw [sgu_k (by omega)]; exact h2
  · rw [sgu_k (by omega)]; exact h3
  · rw [sgu_k (by omega)]; exact h4
  · rw [sgu_k (by omega)]; exact h5
  · rw [sgu_k (by omega)]; exact h6
  · intro k hk
    rw [sgu_c (by omega), sgu_c (by omega), sgu_c (by omega)]; exact h7 k hk
  · intro k hk
    rw [sgu_c (by omega)]; exact h8 k hk
set_option maxRecDepth 100000 in
set_option maxHeartbeats 4000000 in
theorem s_pass {σ : Sg} {A : St} {L n hg : Nat} {dr : Bool} {Q : Option Value → Sg → Prop} (hb : L = 1 ∨ L = 14) (hR : RLd L σ A) (hW : WL A) (hn : n ≤ 99) (hy : A 12 1 + n < 2 ^ 19) (hhg : σ L 8 = nI hg) (hg9 : hg ≤ 999999999)
    (h : ∀ σ', RLd L σ' (yrR dr n (A, fun _ => 0)).1 → (∀ k, k < A 12 5 → σ' (L + 4) k = nI ((yrR dr n (A, fun _ => 0)).2 k)) → σ' L 8 = nI (hgA hg (fb_sm (yrR dr n (A, fun _ => 0)).2 (A 12 5))) → FrL L σ σ' → Q (some (.int (nI (fb_sm (yrR dr n (A, fun _ => 0)).2 (A 12 5))))) σ') : MetA mX4_passYears [.ref L, .int (nI n), .int (bI (dr = true))] σ Q := by
  refine MetA_of qX4_passYears (Nat.le_of_ble_eq_true rfl) ?_
  have h4 := hW.2.1
  -- the sums
  have hsum : ∀ k, k ≤ n → fb_sm (yrR dr k (A, fun _ => 0)).2 (A 12 5) ≤ 4 * (99 * 99) := by
    intro k hk
    have h1 := yrR_le (dr := dr) k (s := (A, fun _ => 0)) hW (by dsimp only; omega) (fun _ => rfl)
    have h2 := sm_le (B := 99 * 99) (fun i => Nat.le_trans (h1 i) (by omega)) (A 12 5)
    have : A 12 5 * (99 * 99) ≤ 4 * (99 * 99) := Nat.mul_le_mul_right _ h4
    omega
  -- the end
  have r122 : ∀ σ', RLd L σ' (yrR dr n (A, fun _ => 0)).1 → (∀ k, k < A 12 5 → σ' (L + 4) k = nI ((yrR dr n (A, fun _ => 0)).2 k)) → σ' L 8 = nI hg → FrL L σ σ' → V mX4_passYears 122 [(0, .ref L), (1, .int (nI n)), (2, .int (bI (dr = true))), (3, .int (nI (fb_sm (yrR dr n (A, fun _ => 0)).2 (A 12 5))))] [] σ' Q := by
    intro σ' hR' hm' hg' hF
    have hs := hsum n (Nat.le_refl _)
    have e : (if (999999999 : Int32) < σ' L 8 + nI (fb_sm (yrR dr n (A, fun _ => 0)).2 (A 12 5)) then 999999999 else σ' L 8 + nI (fb_sm (yrR dr n (A, fun _ => 0)).2 (A 12 5))) = nI (hgA hg (fb_sm (yrR dr n (A, fun _ => 0)).2 (A 12 5))) := by
      rw [hg', nI_add, hgA, capI (by omega)]
    have fin : ∀ v, v = nI (hgA hg (fb_sm (yrR dr n (A, fun _ => 0)).2 (A 12 5))) → Q (some (.int (nI (fb_sm (yrR dr n (A, fun _ => 0)).2 (A 12 5))))) (sgu σ' L 8 v) := by
      intro v hv
      subst hv
      exact h _ (RLd_h hR') (fun k hk => by rw [sgu_c (by omega)]; exact hm' k hk) sgu_s (fun c hc => by rw [sgu_c (by omega)]; exact hF c hc)
    refine wpB_sd (stops := []) kX4_passYears 20 _ _ _ _ ?_
    rcases hb with rfl | rfl <;>
    · exact fin _ e
  -- the houses of a year
  have r45 : ∀ (k : Nat), k < n → ∀ (m hh : Nat) (σ' : Sg) (s0 : Ys), s0 = (yrB dr (yrR dr k (A, fun _ => 0)).1, (yrR dr k (A, fun _ => 0)).2) → hh + m = A 12 5 → RLd L σ' (hsR dr hh s0).1 → (∀ i, i < A 12 5 → σ' (L + 4) i = nI ((hsR dr hh s0).2 i)) → σ' L 8 = nI hg → FrL L σ σ' →
      (∀ σ'', RLd L σ'' (hsR dr (A 12 5) s0).1 → (∀ i, i < A 12 5 → σ'' (L + 4) i = nI ((hsR dr (A 12 5) s0).2 i)) → σ'' L 8 = nI hg → FrL L σ σ'' → V mX4_passYears 106 [(0, .ref L), (1, .int (nI n)), (2, .int (bI (dr = true))), (3, .int (nI (fb_sm (hsR dr (A 12 5) s0).2 (A 12 5)))), (4, .int (nI k))] [] σ'' Q) →
      V mX4_passYears 45 [(0, .ref L), (1, .int (nI n)), (2, .int (bI (dr = true))), (3, .int (nI (fb_sm (hsR dr hh s0).2 (A 12 5)))), (4, .int (nI k)), (5, .int (nI hh))] [] σ' Q := by
    intro k hk m
    have hWk := yrR_WL (dr := dr) k (s := (A, fun _ => 0)) hW (by dsimp only; omega)
    have hyk : (yrR dr k (A, fun _ => 0)).1 12 1 = A 12 1 + k := yrR_y k _
    have h5k : (yrR dr k (A, fun _ => 0)).1 12 5 = A 12 5 := yrR_f (by omega) (by omega) (by omega) k _
    have hlek := yrR_le (dr := dr) k (s := (A, fun _ => 0)) hW (by dsimp only; omega) (fun _ => rfl)
    induction m with
    | zero =>
      intro hh σ' s0 hs0 hi hR' hm' hg' hF hQ
      have e5 : (hsR dr hh s0).1 12 5 = A 12 5 := by rw [hsR_f (by omega) (by omega) (by omega), hs0]; dsimp only; rw [yrB_f (by omega) (by omega), h5k]
      have h0 := hR'.2.1
      rw [e5] at h0
      have hi : hh = A 12 5 := by omega
      subst hi
      refine wpB_sd (stops := [45, 106]) kX4_passYears 20 _ _ _ _ ?_
      rcases hb with rfl | rfl <;>
      · refine br_t (by rw [h0]; exact nI_le (by omega) (by omega)) ?_
        refine V.take 5 ?_
        exact hQ σ' hR' hm' hg' hF
    | succ m ih =>
      intro hh σ' s0 hs0 hi hR' hm' hg' hF hQ
      have hWs : WL s0.1 := by rw [hs0]; exact yrB_WL hWk
      have e5s : s0.1 12 5 = A 12 5 := by rw [hs0]; dsimp only; rw [yrB_f (by omega) (by omega), h5k]
      have eys : s0.1 12 1 = A 12 1 + k := by rw [hs0]; dsimp only; rw [yrB_f (by omega) (by omega), hyk]
      have e5 : (hsR dr hh s0).1 12 5 = A 12 5 := by rw [hsR_f (by omega) (by omega) (by omega), e5s]
      have ey : (hsR dr hh s0).1 12 1 = A 12 1 + k := by rw [hsR_f (by omega) (by omega) (by omega), eys]
      have hWh : WL (hsR dr hh s0).1 := hsR_WL hh hWs (by omega) (by omega)
      have hle := hsR_le (dr := dr) (B := 99 * k) hh (s := s0) hWs (by omega) (by rw [hs0]; exact hlek)
      have hlv := hsV_le (dr := dr) hWh
      have hW1 : WL (hsA1 dr (hsR dr hh s0).1) := hsA1_WL hWh
      have e51 : hsA1 dr (hsR dr hh s0).1 12 5 = A 12 5 := by rw [hsA1_f (by omega), e5]
      have ey1 : hsA1 dr (hsR dr hh s0).1 12 1 = A 12 1 + k := by rw [hsA1_f (by omega), ey]
      have h0 := hR'.2.1
      rw [e5] at h0
      have hyr := hR'.2.2.2.1
      have hsT := sm_hs (dr := dr) (s := hsR dr hh s0) (show hh < A 12 5 by omega)
      have hms := hm' hh (by omega)
      have hw99 : hsA1 dr (hsR dr hh s0).1 9 hh ≤ 99 := (hW1.2.2.2.2.2.1 hh (by omega)).1
      have he := eatA_le (A := hsA1 dr (hsR dr hh s0).1) (hh := hh) (harv := hsV dr (hsR dr hh s0).1)
      have hin : nI hh + 1 = nI (hh + 1) := nI_1 hh
      -- behind feedHouse
      have r81 : ∀ σ2, RLd L σ2 (eatA (hsA1 dr (hsR dr hh s0).1) hh (hsV dr (hsR dr hh s0).1)).1 → (∀ i, i < A 12 5 → σ2 (L + 4) i = σ' (L + 4) i) → σ2 L 8 = nI hg → FrL L σ σ2 → V mX4_passYears 81 [(0, .ref L), (1, .int (nI n)), (2, .int (bI (dr = true))), (3, .int (nI (fb_sm (hsR dr hh s0).2 (A 12 5)))), (4, .int (nI k)), (5, .int (nI hh))] [.int (nI (eatA (hsA1 dr (hsR dr hh s0).1) hh (hsV dr (hsR dr hh s0).1)).2)] σ2 Q := by
        intro σ2 hR2 hm2 hg2 hF2
        have hv2 : σ2 (L + 4) hh = nI ((hsR dr hh s0).2 hh) := by rw [hm2 hh (by omega), hms]
        have nxt := ih (hh + 1) (sgu σ2 (L + 4) hh (nI ((hsR dr hh s0).2 hh) + nI (eatA (hsA1 dr (hsR dr hh s0).1) hh (hsV dr (hsR dr hh s0).1)).2)) s0 hs0 (by omega) (by
          rw [hsR]
          exact RLd.fr (σ := σ2) hR2 (fun c a b d => sgu_c d)) (fun i hi2 => by
          rw [hsR]
          unfold hsS; dsimp only
          by_cases q : i = hh
          · subst q; rw [if_pos rfl, sgu_s, nI_add]
          · rw [if_neg q, sgu_k q, hm2 i hi2, hm' i hi2]) (by rw [sgu_c (by omega)]; exact hg2) (fun c hc => by rw [sgu_c (by omega)]; exact hF2 c hc) hQ
        rw [hsR, hsT, ← nI_add, ← hin] at nxt
        refine wpB_sd (stops := [45]) kX4_passYears 40 _ _ _ _ ?_
        rcases hb with rfl | rfl <;>
        · refine ⟨aok (n := 4) rfl rfl (by omega), nm_r (rdn (by omega) hv2) ?_⟩
          refine ast (n := 4) (j := hh) rfl rfl (by omega) ?_
          refine V.take 6 ?_
          exact nxt
      have frE : ∀ σ1 σ2, FrE L σ1 σ2 → (∀ c, c ≠ L → σ1 c = σ' c) → (∀ k, k ≠ 10 → σ1 L k = σ' L k) → ((∀ i, i < A 12 5 → σ2 (L + 4) i = σ' (L + 4) i) ∧ σ2 L 8 = nI hg ∧ FrL L σ σ2) := by
        intro σ1 σ2 hE hc hk
        refine ⟨fun i _ => ?_, ?_, fun c hc2 => ?_⟩
        · rw [hE (L + 4) (by omega) (by omega), hc (L + 4) (by omega)]
        · rw [hE L (by omega) (by omega), hk 8 (by omega)]; exact hg'
        · rw [hE c (by omega) (by omega), hc c (by omega)]; exact hF c hc2
      refine wpB_sd (stops := [81]) kX4_passYears 40 _ _ _ _ ?_
      cases dr with
      | true =>
        have c1 : ¬ bI (true = true) = 0 := by decide
        rcases hb with rfl | rfl <;>
        · refine br_f (by rw [h0]; exact nI_ge (by omega) (by omega)) ?_
          refine br_f c1 ?_
          refine mAr (by rfl) (s_drawOf (n := 30) (by first | exact Or.inl rfl | exact Or.inr rfl) hR' hWh (by omega) (by omega) (fun σ1 hR1 hc1 hk1 => ?_))
          rw [← hsA1_t] at hR1
          refine mAr (by rw [hsV_t]) (s_feed (A := hsA1 true (hsR true hh s0).1) (hh := hh) (harv := hsV true (hsR true hh s0).1) (by first | exact Or.inl rfl | exact Or.inr rfl) hR1 hW1 (by omega) hlv (by omega) (fun σ2 hR2 hE2 => ?_))
          obtain ⟨a1, a2, a3⟩ := frE σ1 σ2 hE2 hc1 hk1
          exact r81 σ2 hR2 a1 a2 a3
      | false =>
        have c1 : bI (false = true) = 0 := by decide
        rcases hb with rfl | rfl <;>
        · refine br_f (by rw [h0]; exact nI_ge (by omega) (by omega)) ?_
          refine br_t c1 ?_
          refine mAr (by rw [hyr]) (s_harvestOf (t := (hsR false hh s0).1 12 1) (by first | exact Or.inl rfl | exact Or.inr rfl) hR' hWh (by omega) ?_)
          have hRf := hR'
          rw [← hsA1_ff (A := (hsR false hh s0).1)] at hRf
          refine mAr (by rw [hsV_ff]) (s_feed (A := hsA1 false (hsR false hh s0).1) (hh := hh) (harv := hsV false (hsR false hh s0).1) (by first | exact Or.inl rfl | exact Or.inr rfl) hRf hW1 (by omega) hlv (by omega) (fun σ2 hR2 hE2 => ?_))
          obtain ⟨a1, a2, a3⟩ := frE σ' σ2 hE2 (fun _ _ => rfl) (fun _ _ => rfl)
          exact r81 σ2 hR2 a1 a2 a3
  -- the years
  have r28 : ∀ (m k : Nat) (σ' : Sg), k + m = n → RLd L σ' (yrR dr k (A, fun _ => 0)).1 → (∀ i, i < A 12 5 → σ' (L + 4) i = nI ((yrR dr k (A, fun _ => 0)).2 i)) → σ' L 8 = nI hg → FrL L σ σ' → V mX4_passYears 28 [(0, .ref L), (1, .int (nI n)), (2, .int (bI (dr = true))), (3, .int (nI (fb_sm (yrR dr k (A, fun _ => 0)).2 (A 12 5)))), (4, .int (nI k))] [] σ' Q := by
    intro m
    induction m with
    | zero =>
      intro k σ' hi hR' hm' hg' hF
      have hi : k = n := by omega
      subst hi
      refine wpB_sd (stops := [122]) kX4_passYears 20 _ _ _ _ ?_
      refine br_t (nI_le (by omega) (by omega)) ?_
      refine V.take 4 ?_
      exact r122 σ' hR' hm' hg' hF
    | succ m ih =>
      intro k σ' hi hR' hm' hg' hF
      have hWk := yrR_WL (dr := dr) k (s := (A, fun _ => 0)) hW (by dsimp only; omega)
      have h5k : (yrR dr k (A, fun _ => 0)).1 12 5 = A 12 5 := yrR_f (by omega) (by omega) (by omega) k _
      have hyk : (yrR dr k (A, fun _ => 0)).1 12 1 = A 12 1 + k := yrR_y k _
      -- the end of a year
      have r106 : ∀ σ'', RLd L σ'' (hsR dr (A 12 5) (yrB dr (yrR dr k (A, fun _ => 0)).1, (yrR dr k (A, fun _ => 0)).2)).1 → (∀ i, i < A 12 5 → σ'' (L + 4) i = nI ((hsR dr (A 12 5) (yrB dr (yrR dr k (A, fun _ => 0)).1, (yrR dr k (A, fun _ => 0)).2)).2 i)) → σ'' L 8 = nI hg → FrL L σ σ'' → V mX4_passYears 106 [(0, .ref L), (1, .int (nI n)), (2, .int (bI (dr = true))), (3, .int (nI (fb_sm (hsR dr (A 12 5) (yrB dr (yrR dr k (A, fun _ => 0)).1, (yrR dr k (A, fun _ => 0)).2)).2 (A 12 5)))), (4, .int (nI k))] [] σ'' Q := by
        intro σ'' hR2 hm2 hg2 hF2
        have ey2 : (hsR dr (A 12 5) (yrB dr (yrR dr k (A, fun _ => 0)).1, (yrR dr k (A, fun _ => 0)).2)).1 12 1 = A 12 1 + k := by
          rw [hsR_f (by omega) (by omega) (by omega)]; dsimp only; rw [yrB_f (by omega) (by omega), hyk]
        have hyr := hR2.2.2.2.1
        rw [ey2] at hyr
        have ev : σ'' L 7 + 1 = nI ((yrR dr k (A, fun _ => 0)).1 12 1 + 1) := by rw [hyr, nI_1, hyk]
        have eS : yrR dr (k + 1) (A, fun _ => 0) = (stu (hsR dr (A 12 5) (yrB dr (yrR dr k (A, fun _ => 0)).1, (yrR dr k (A, fun _ => 0)).2)).1 12 1 ((yrR dr k (A, fun _ => 0)).1 12 1 + 1), (hsR dr (A 12 5) (yrB dr (yrR dr k (A, fun _ => 0)).1, (yrR dr k (A, fun _ => 0)).2)).2) := by rw [yrR, yrS, h5k]
        have nxt := ih (k + 1) (sgu σ'' L 7 (σ'' L 7 + 1)) (by omega) (by rw [eS, ev]; exact RLd_year hR2) (fun i hi2 => by rw [eS, sgu_c (by omega)]; exact hm2 i hi2) (by rw [sgu_k (by omega)]; exact hg2) (fun c hc => by rw [sgu_c (by omega)]; exact hF2 c hc)
        rw [eS, ← nI_1 k] at nxt
        refine wpB_sd (stops := [28]) kX4_passYears 40 _ _ _ _ ?_
        rcases hb with rfl | rfl <;> exact nxt
      have go45 : ∀ σ2, RLd L σ2 (yrB dr (yrR dr k (A, fun _ => 0)).1) → (∀ i, i < A 12 5 → σ2 (L + 4) i = nI ((yrR dr k (A, fun _ => 0)).2 i)) → σ2 L 8 = nI hg → FrL L σ σ2 → V mX4_passYears 45 [(0, .ref L), (1, .int (nI n)), (2, .int (bI (dr = true))), (3, .int (nI (fb_sm (yrR dr k (A, fun _ => 0)).2 (A 12 5)))), (4, .int (nI k)), (5, .int (nI 0))] [] σ2 Q := by
        intro σ2 a b c d
        exact r45 k (by omega) (A 12 5) 0 σ2 (yrB dr (yrR dr k (A, fun _ => 0)).1, (yrR dr k (A, fun _ => 0)).2) rfl (by omega) a b c d r106
      refine wpB_sd (stops := [45]) kX4_passYears 40 _ _ _ _ ?_
      cases dr with
      | true =>
        have c1 : ¬ bI (true = true) = 0 := by decide
        refine br_f (nI_ge (by omega) (by omega)) ?_
        refine br_f c1 ?_
        have key : ∀ σ2, RLd L σ2 (buR ((yrR true k (A, fun _ => 0)).1 12 0) (yrR true k (A, fun _ => 0)).1) → (∀ c, c ≠ L → c ≠ L + 6 → σ2 c = σ' c) → (∀ k, k ≠ 10 → σ2 L k = σ' L k) → V mX4_passYears 45 [(0, .ref L), (1, .int (nI n)), (2, .int (bI (true = true))), (3, .int (nI (fb_sm (yrR true k (A, fun _ => 0)).2 (A 12 5)))), (4, .int (nI k)), (5, .int (nI 0))] [] σ2 Q := fun σ2 hR2 hc2 hk2 =>
          go45 σ2 (by rw [yrB_t]; exact hR2) (fun i hi2 => by rw [hc2 (L + 4) (by omega) (by omega)]; exact hm' i hi2) (by rw [hk2 8 (by omega)]; exact hg') (fun c hc => by rw [hc2 c (by omega) (by omega)]; exact hF c hc)
        rcases hb with rfl | rfl <;>
        · refine s_burst (by first | exact Or.inl rfl | exact Or.inr rfl) hR' hWk (fun σ2 hR2 hc2 hk2 => ?_)
          refine V.take 6 ?_
          exact key σ2 hR2 hc2 hk2
      | false =>
        have c1 : bI (false = true) = 0 := by decide
        refine br_f (nI_ge (by omega) (by omega)) ?_
        refine br_t c1 ?_
        refine V.take 6 ?_
        exact go45 σ' (by rw [yrB_ff]; exact hR') hm' hg' hF
  -- the clearing
  have r2 : ∀ (m i : Nat) (σ' : Sg), i + m = A 12 5 → (∀ c, c ≠ L + 4 → σ' c = σ c) → (∀ k, k < i → σ' (L + 4) k = nI 0) → V mX4_passYears 2 [(0, .ref L), (1, .int (nI n)), (2, .int (bI (dr = true))), (3, .int (nI i))] [] σ' Q := by
    intro m
    induction m with
    | zero =>
      intro i σ' hi hc hz
      have hi : i = A 12 5 := by omega
      subst hi
      have h0 : σ' L 0 = nI (A 12 5) := by rw [hc L (by omega)]; exact hR.2.1
      have hz2 : fb_sm (fun _ => 0) (A 12 5) = 0 := by rw [fb_sm_const]; omega
      have nxt := r28 n 0 σ' (by omega) (hR.fr (fun c a b d => hc c d)) hz (by rw [hc L (by omega)]; exact hhg) (fun c hc2 => hc c (by omega))
      rw [show yrR dr 0 (A, fun _ => 0) = (A, fun _ => 0) from rfl] at nxt
      dsimp only at nxt
      rw [hz2] at nxt
      refine wpB_sd (stops := [28]) kX4_passYears 20 _ _ _ _ ?_
      rcases hb with rfl | rfl <;>
      · refine br_t (by rw [h0]; exact nI_le (by omega) (by omega)) ?_
        exact nxt
    | succ m ih =>
      intro i σ' hi hc hz
      have h0 : σ' L 0 = nI (A 12 5) := by rw [hc L (by omega)]; exact hR.2.1
      have nxt := ih (i + 1) (sgu σ' (L + 4) i 0) (by omega) (fun c a => by rw [sgu_c a]; exact hc c a) (fun k hk => by
        by_cases q : k = i
        · subst q; rw [sgu_s]; rfl
        · rw [sgu_k q]; exact hz k (by omega))
      rw [← nI_1] at nxt
      refine wpB_sd (stops := [2]) kX4_passYears 20 _ _ _ _ ?_
      rcases hb with rfl | rfl <;>
      · refine br_f (by rw [h0]; exact nI_ge (by omega) (by omega)) ?_
        refine ast (n := 4) (j := i) rfl rfl (by omega) ?_
        exact nxt
  refine wpB_sd (stops := [2]) kX4_passYears 20 _ _ _ _ ?_
  exact r2 (A 12 5) 0 σ (by omega) (fun _ _ => rfl) (fun k hk => absurd hk (by omega))
