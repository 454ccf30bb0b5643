/-! sealing -/
/-- the first of the least of g 0 .. g (n - 1) -/
def amF (g : Nat → Nat) : Nat → Nat
  | 0 => 0
  | n + 1 => if n = 0 then 0 else if g n < g (amF g n) then n else amF g n
theorem amF_lt (g : Nat → Nat) : ∀ n, 0 < n → amF g n < n
  | 0, h => absurd h (by omega)
  | n + 1, _ => by
    rw [amF]
    split
    · omega
    · split
      · omega
      · have := amF_lt g n (by omega); omega
def slG (A : St) (hh n : Nat) : Nat → Nat := fun s => (yrR false n (stu A 7 hh s, fun _ => 0)).2 hh
theorem slG_le {A : St} {hh n s : Nat} (hW : WL A) (hs : s ≤ 20) (hy : A 12 1 + n < 2 ^ 19) : slG A hh n s ≤ 99 * n := by
  refine yrR_le n (s := (stu A 7 hh s, fun _ => 0)) ?_ hy (fun _ => rfl) hh
  obtain ⟨h0, h1, h2, h3, h4, h5, h6, h7⟩ := hW
  refine ⟨h0, h1, h2, h3, h4, fun k hk => ?_, h6, h7⟩
  have := h5 k hk
  refine ⟨this.1, ?_, this.2.2⟩
  by_cases q : k = hh
  · subst q; show stu A 7 k s 7 k ≤ 20; rw [stu_s]; exact hs
  · show stu A 7 hh s 7 k ≤ 20; rw [stu_k q]; exact this.2.1
theorem WL_seals {A : St} {hh s : Nat} (hW : WL A) (hs : s ≤ 20) : WL (stu A 7 hh s) := by
  obtain ⟨h0, h1, h2, h3, h4, h5, h6, h7⟩ := hW
  refine ⟨h0, h1, h2, h3, h4, fun k hk => ?_, h6, h7⟩
  have := h5 k hk
  refine ⟨this.1, ?_, this.2.2⟩
  by_cases q : k = hh
  · subst q; show stu A 7 k s 7 k ≤ 20; rw [stu_s]; exact hs
  · show stu A 7 hh s 7 k ≤ 20; rw [stu_k q]; exact this.2.1
set_option maxRecDepth 100000 in
set_option maxHeartbeats 1000000 in
theorem t_sealing {σ : Sg} {A : St} {hg : Nat} {x v : Int32} {Q : Option Value → Sg → Prop} (hC : CS σ A hg) (hW : WL A) (hy : A 12 1 + 99 < 2 ^ 19) (h9 : hg ≤ 999999999) (hu : ¬ ix x (A 12 5) → Q (some (.int UNK)) σ) (ho : ix x (A 12 5) → ¬ rg v 1 60 → Q (some (.int OUT)) σ) (hi : ∀ a k, a < A 12 5 → 1 ≤ k → k ≤ 60 → x = nI a → v = nI k → ∀ σ', CS σ' A hg → FrX σ σ' → Q (some (.int (nI (amF (slG A a k) 21)))) σ') : MetA mX7_sealing [.ref 0, .int x, .int v] σ Q := by
  refine MetA_of qX7_sealing (Nat.le_of_ble_eq_true rfl) ?_
  have h4 := hW.2.1
  have h0 : σ 1 0 = nI (A 12 5) := hC.1.2.1
  have loop : ∀ a k, a < A 12 5 → 1 ≤ k → k ≤ 60 → x = nI a → v = nI k → ∀ n i σi, i + n = 21 → CS σi A hg → FrL 14 σ σi → ∀ L : Int32, (i = 0 → L = 1000000000) → (0 < i → L = nI (slG A a k (amF (slG A a k) i))) → V mX7_sealing 37 [(0, .ref 0), (1, .int (nI a)), (2, .int (nI k)), (3, .int (nI (amF (slG A a k) i))), (4, .int L), (5, .int (nI i))] [] σi Q := by
    intro a k ha h1 h2 hx hv n
    induction n with
    | zero =>
      intro i σi hi2 hCi hF L hL0 hL
      have hi2 : i = 21 := by omega
      subst hi2
      refine wpB_sd (stops := [37]) kX7_sealing 30 _ _ _ _ ?_
      refine br_t (by decide) ?_
      exact hi a k ha h1 h2 hx hv σi hCi hF.x2
    | succ n ih =>
      intro i σi hi2 hCi hF L hL0 hL
      have hWs := WL_seals (hh := a) (s := i) hW (by omega)
      have hle := slG_le (hh := a) (n := k) (s := i) hW (by omega) (by omega)
      refine wpB_sd (stops := [37]) kX7_sealing 60 _ _ _ _ ?_
      refine br_f (nI_nlt (a := 20) (b := i) (by omega) (by omega)) ?_
      refine s_copyL (d := 14) (s := 1) (by simp) hCi.1 hW.2.1 hW.2.2.1 hW.1.1 (fun σ1 hR1 he1 hF1 => ?_)
      refine ast (n := 4) (j := a) rfl rfl (by omega) ?_
      have hR2 : RLd 14 (sgu σ1 16 a (nI i)) (stu A 7 a i) := RLd_one hR1 hW (by omega)
      have hg2 : sgu σ1 16 a (nI i) 14 8 = nI hg := by rw [sgu_c (by omega), he1]; exact hCi.2
      refine mAr (by rfl) (s_pass (dr := false) (n := k) (Or.inr rfl) hR2 hWs (by omega) (by show A 12 1 + k < _; omega) hg2 h9 (fun σ3 hR3 hm3 hg3 hF3 => ?_))
      have hm3 := hm3 a ha
      have hC3 : CS σ3 A hg := by
        refine ⟨hCi.1.fr (fun c c1 c2 c3 => ?_), ?_⟩
        · rw [hF3 c (by omega), sgu_c (by omega), hF1 c (by omega)]
        · rw [hF3 1 (by omega), sgu_c (by omega), hF1 1 (by omega)]; exact hCi.2
      have hF' : FrL 14 σ σ3 := fun c hc => by rw [hF3 c (by omega), sgu_c (by omega), hF1 c (by omega)]; exact hF c hc
      refine ald (n := 4) (j := a) rfl rfl (by omega) hm3 ?_
      have cmp : (L ≤ nI (slG A a k i) ↔ (0 < i ∧ slG A a k (amF (slG A a k) i) ≤ slG A a k i)) := by
        by_cases q : i = 0
        · rw [hL0 q, fa_lit 1000000000]
          constructor
          · intro z; have := (nI_leI (by omega) (by omega)).mp z; omega
          · intro z; omega
        · have hlt := amF_lt (slG A a k) i (by omega)
          have hle2 := slG_le (hh := a) (n := k) (s := amF (slG A a k) i) hW (by omega) (by omega)
          rw [hL (by omega)]
          constructor
          · intro z; exact ⟨by omega, (nI_leI (by omega) (by omega)).mp z⟩
          · intro z; exact nI_le z.2 (by omega)
      refine ⟨fun g => ?_, fun g => ?_⟩
      · have g := cmp.mp g
        have e : amF (slG A a k) (i + 1) = amF (slG A a k) i := by rw [amF, if_neg (by omega), if_neg (by omega)]
        have nxt := ih (i + 1) σ3 (by omega) hC3 hF' L (fun q => by omega) (fun _ => by rw [e]; exact hL g.1)
        rw [e, ← nI_1] at nxt
        exact nxt
      · have g : ¬ (0 < i ∧ slG A a k (amF (slG A a k) i) ≤ slG A a k i) := fun q => g (cmp.mpr q)
        have e : amF (slG A a k) (i + 1) = i := by
          rw [amF]
          by_cases q : i = 0
          · rw [if_pos q]; exact q.symm
          · rw [if_neg q, if_pos (by omega)]
        refine ald (n := 4) (j := a) rfl rfl (by omega) hm3 ?_
        have nxt := ih (i + 1) σ3 (by omega) hC3 hF' (nI (slG A a k i)) (fun q => by omega) (fun _ => by rw [e])
        rw [e, ← nI_1] at nxt
        exact nxt
  refine wpB_sd (stops := [37]) kX7_sealing 60 _ _ _ _ ?_
  refine s_hasHouse (Or.inl rfl) ?_
  refine ⟨fun g => ?_, fun g => hu (fun q => bI_0.mp g (by rw [h0]; exact (ix_iff (by omega)).mpr q))⟩
  have hix : ix x (A 12 5) := (ix_iff (by omega)).mp (by have := bI_n0 g; rw [h0] at this; exact this)
  refine ⟨fun g2 => ho hix (rg_lt (lo := 1) (by omega) (by omega) g2), fun g2 => ⟨fun g3 => ?_, fun g3 => ho hix (rg_gt (hi := 60) (by omega) (by omega) (Int32.not_le.mp g3))⟩⟩
  obtain ⟨k, h1, h2, rfl⟩ := rg_of (lo := 1) (hi := 60) (by omega) (by omega) g2 (Int32.not_lt.mpr g3)
  obtain ⟨a, ha, rfl⟩ := hix
  exact loop a k ha h1 h2 rfl rfl 21 0 σ (by omega) hC (fun _ _ => rfl) 1000000000 (fun _ => rfl) (fun q => by omega)
set_option maxRecDepth 100000 in
set_option maxHeartbeats 1000000 in
theorem u_sealing {σ : Sg} {A : St} {hg : Nat} {x v : Int32} {Q : Option Value → Sg → Prop} (hC : MR σ A hg) (hW : WL A) (hy : A 12 1 + 99 < 2 ^ 19) (h9 : hg ≤ 999999999) (hu : ¬ ix x (A 12 5) → Q (some (.int UNK)) σ) (ho : ix x (A 12 5) → ¬ rg v 1 60 → Q (some (.int OUT)) σ) (hi : ∀ a k, a < A 12 5 → 1 ≤ k → k ≤ 60 → x = nI a → v = nI k → ∀ σ', MR σ' A hg → FrM σ σ' → Q (some (.int (nI (amF (slG A a k) 21)))) σ') : MetA mX8_sealing [.ref 89, .int x, .int v] σ Q := by
  refine MetA_of qX8_sealing (Nat.le_of_ble_eq_true rfl) ?_
  have h4 := hW.2.1
  have h24 := hW.1.1
  have loop : ∀ a k, a < A 12 5 → 1 ≤ k → k ≤ 60 → x = nI a → v = nI k → ∀ n i σi, i + n = 21 → MR σi A hg → FrM σ σi → ∀ L : Int32, (i = 0 → L = 99999999) → (0 < i → L = nI (slG A a k (amF (slG A a k) i))) → V mX8_sealing 35 [(0, .ref 89), (1, .int (nI a)), (2, .int (nI k)), (3, .int (nI (amF (slG A a k) i))), (4, .int L), (5, .int (nI i))] [] σi Q := by
    intro a k ha h1 h2 hx hv n
    induction n with
    | zero =>
      intro i σi hi2 hCi hF L hL0 hL
      have hi2 : i = 21 := by omega
      subst hi2
      refine wpB_sd (stops := [35]) kX8_sealing 30 _ _ _ _ ?_
      refine br_t (by decide) ?_
      exact hi a k ha h1 h2 hx hv σi hCi hF
    | succ n ih =>
      intro i σi hi2 hCi hF L hL0 hL
      have hWs := WL_seals (hh := a) (s := i) hW (by omega)
      have hle := slG_le (hh := a) (n := k) (s := i) hW (by omega) (by omega)
      refine wpB_sd (stops := [35]) kX8_sealing 60 _ _ _ _ ?_
      refine br_f (nI_nlt (a := 20) (b := i) (by omega) (by omega)) ?_
      refine mAr (by rfl) (m_copy (x := 0) (y := 200) (by omega) (by omega) (by omega) (fun σ1 c1 c2 c3 => ?_))
      refine ast (n := 800) (j := 200 + 168 + a) rfl (by simp only [fa_lit, nI_add]) (by omega) ?_
      have hR1 : RMr 200 σ1 A := RMr_copy hCi.1 h24 h4 c1
      have hR2 : RMr 200 (sgu σ1 90 (200 + 168 + a) (nI i)) (stu A 7 a i) := RMr_one hR1 hW (by omega)
      have hG2 : RMg (sgu σ1 90 (200 + 168 + a) (nI i)) (stu A 7 a i) := RMg_one hCi.2.1 (fun c hc => by rw [sgu_c (by omega)]; exact c3 c (by omega)) (by omega) (by omega) (by omega)
      have hg2 : sgu σ1 90 (200 + 168 + a) (nI i) 90 378 = nI hg := by
        rw [sgu_k (by omega)]
        have := c1 178 (by omega)
        rw [Nat.zero_add] at this
        rw [this]; exact hCi.2.2
      refine m_try (h0 := hg) hR2 hG2 hWs (by omega) (by show A 12 1 + k < _; omega) hg2 h9 (fun σ3 hP3 hF3 => ?_)
      have hm3 : σ3 97 a = nI (slG A a k i) := hP3.2.2.1 a (by omega)
      have hC3 : MR σ3 A hg := by
        have e90 : ∀ j, j < 200 → σ3 90 j = σi 90 j := fun j hj => by rw [hF3.2 j (by omega), sgu_k (by omega), c2 j (by omega)]
        refine ⟨RMr.fr hCi.1 h24 h4 (fun j _ q _ => e90 j (by omega)), hCi.2.1.fr (fun c hc => by rw [hF3.1 c (by omega) (by omega), sgu_c (by omega), c3 c (by omega)]), ?_⟩
        rw [e90 178 (by omega)]; exact hCi.2.2
      have hF' : FrM σ σ3 := hF.tr ⟨fun c hc hc2 => by rw [hF3.1 c hc hc2, sgu_c hc, c3 c hc], fun j hj => by rw [hF3.2 j (by omega), sgu_k (by omega), c2 j (by omega)]⟩
      refine ald (n := 4) (j := a) rfl rfl (by omega) hm3 ?_
      have cmp : (L ≤ nI (slG A a k i) ↔ (0 < i ∧ slG A a k (amF (slG A a k) i) ≤ slG A a k i)) := by
        by_cases q : i = 0
        · rw [hL0 q, fa_lit 99999999]
          constructor
          · intro z; have := (nI_leI (by omega) (by omega)).mp z; omega
          · intro z; omega
        · have hlt := amF_lt (slG A a k) i (by omega)
          have hle2 := slG_le (hh := a) (n := k) (s := amF (slG A a k) i) hW (by omega) (by omega)
          rw [hL (by omega)]
          constructor
          · intro z; exact ⟨by omega, (nI_leI (by omega) (by omega)).mp z⟩
          · intro z; exact nI_le z.2 (by omega)
      refine ⟨fun g => ?_, fun g => ?_⟩
      · have g := cmp.mp g
        have e : amF (slG A a k) (i + 1) = amF (slG A a k) i := by rw [amF, if_neg (by omega), if_neg (by omega)]
        have nxt := ih (i + 1) σ3 (by omega) hC3 hF' L (fun q => by omega) (fun _ => by rw [e]; exact hL g.1)
        rw [e, ← nI_1] at nxt
        exact nxt
      · have g : ¬ (0 < i ∧ slG A a k (amF (slG A a k) i) ≤ slG A a k i) := fun q => g (cmp.mpr q)
        have e : amF (slG A a k) (i + 1) = i := by
          rw [amF]
          by_cases q : i = 0
          · rw [if_pos q]; exact q.symm
          · rw [if_neg q, if_pos (by omega)]
        refine ald (n := 4) (j := a) rfl rfl (by omega) hm3 ?_
        have nxt := ih (i + 1) σ3 (by omega) hC3 hF' (nI (slG A a k i)) (fun q => by omega) (fun _ => by rw [e])
        rw [e, ← nI_1] at nxt
        exact nxt
  refine wpB_sd (stops := [35]) kX8_sealing 60 _ _ _ _ ?_
  refine m_isHouse hC.2.1 h4 ?_
  refine ⟨fun g => ?_, fun g => hu (fun q => bI_0.mp g ((ix_iff (by omega)).mpr q))⟩
  have hix : ix x (A 12 5) := (ix_iff (by omega)).mp (bI_n0 g)
  refine m_inI (lo := nI 1) (hi := nI 60) rfl rfl ?_
  refine ⟨fun g => ?_, fun g => ho hix (fun q => bI_0.mp g ((rg_iff (by omega) (by omega)).mpr q))⟩
  obtain ⟨k, h1, h2, rfl⟩ := (rg_iff (by omega) (by omega)).mp (bI_n0 g)
  obtain ⟨a, ha, rfl⟩ := hix
  exact loop a k ha h1 h2 rfl rfl 21 0 σ (by omega) hC FrM.rf 99999999 (fun _ => rfl) (fun q => by omega)
