/-! when -/
def whF (A : St) (n c k : Nat) : Nat := siA A n k + if k < n then c else 0
def IsW (f : Nat → Nat) (n b : Nat) : Prop := b ≤ n ∧ (∀ k, k ≤ n → f b ≤ f k) ∧ ∀ k, k ≤ n → b < k → f b < f k
theorem IsW_one {f : Nat → Nat} {n a b : Nat} (ha : IsW f n a) (hb : IsW f n b) : a = b := by
  rcases Nat.lt_trichotomy a b with q | q | q
  · have := ha.2.2 b hb.1 q
    have := hb.2.1 a ha.1
    omega
  · exact q
  · have := hb.2.2 a ha.1 q
    have := ha.2.1 b hb.1
    omega
theorem whF_le {A : St} {n c k : Nat} (hW : WL A) (hn : n ≤ 20) (hk : k ≤ n) (hc : c ≤ 999) (hy : A 12 1 + 99 < 2 ^ 19) : whF A n c k ≤ 9000 := by
  have := siA_le hW hn hk hy
  unfold whF
  split <;> omega
theorem nI_s1 {m : Nat} {v : Int32} (h : v = nI (m + 1) - 1) : v = nI m := by
  rw [h, ← nI_1]; simp
theorem nI_d1 {m : Nat} : nI m + -1 = nI m - 1 := by rw [Int32.sub_eq_add_neg]
set_option maxRecDepth 100000 in
set_option maxHeartbeats 1000000 in
theorem t_when {σ : Sg} {A : St} {hg : Nat} {x y : Int32} {Q : Option Value → Sg → Prop} (hC : CS σ A hg) (hW : WL A) (hy : A 12 1 + 99 < 2 ^ 19) (h9 : hg ≤ 999999999) (ho : ¬ (rg x 1 20 ∧ rg y 0 999) → Q (some (.int OUT)) σ) (hi : ∀ n c b, 1 ≤ n → n ≤ 20 → c ≤ 999 → x = nI n → y = nI c → IsW (whF A n c) n b → ∀ σ', CS σ' A hg → FrX σ σ' → Q (some (.int (nI b))) σ') : MetA mX7_when [.ref 0, .int x, .int y] σ Q := by
  refine MetA_of qX7_when (Nat.le_of_ble_eq_true rfl) ?_
  have loop : ∀ n c, 1 ≤ n → n ≤ 20 → c ≤ 999 → x = nI n → y = nI c → ∀ m b σi, m ≤ b → b ≤ n → CS σi A hg → FrL 14 σ σi → (∀ k, m ≤ k → k ≤ n → whF A n c b ≤ whF A n c k) → (∀ k, k ≤ n → b < k → whF A n c b < whF A n c k) → ∀ v, v = nI m - 1 → V mX7_when 40 [(0, .ref 0), (1, .int (nI n)), (2, .int (nI c)), (3, .int (nI b)), (4, .int (nI (whF A n c b))), (5, .int v)] [] σi Q := by
    intro n c h1 h2 h3 hx hv m
    induction m with
    | zero =>
      intro b σi hmb hbn hCi hF hl hs v hv0
      subst hv0
      refine wpB_sd (stops := [40]) kX7_when 30 _ _ _ _ ?_
      refine br_t (by decide) ?_
      exact hi n c b h1 h2 h3 hx hv ⟨hbn, fun k hk => hl k (by omega) hk, hs⟩ σi hCi hF.x2
    | succ m ih =>
      intro b σi hmb hbn hCi hF hl hs v hv0
      have hv0 := nI_s1 hv0
      subst hv0
      have hle := whF_le (c := c) (k := m) hW h2 (by omega) h3 hy
      have hle2 := whF_le (c := c) (k := b) hW h2 hbn h3 hy
      refine wpB_sd (stops := [40]) kX7_when 40 _ _ _ _ ?_
      refine br_f (nI_pos (by omega)) ?_
      refine s_hos hCi hW hy h9 h2 (show m ≤ n by omega) (fun σ1 hC1 hF1 => ?_)
      have hF2 : FrL 14 σ σ1 := fun c hc => (hF1 c hc).trans (hF c hc)
      have e : siA A n m + c = whF A n c m := by unfold whF; rw [if_pos (by omega)]
      refine ⟨fun g => ?_, fun g => ?_⟩
      · rw [nI_add, e] at g
        have g := (nI_leI (by omega) (by omega)).mp g
        refine V.take 6 (ih b σ1 (by omega) hbn hC1 hF2 (fun k a d => ?_) hs _ nI_d1)
        by_cases q : k = m
        · subst q; exact g
        · exact hl k (by omega) d
      · rw [nI_add, e] at g
        have g : ¬ whF A n c b ≤ whF A n c m := fun q => g (nI_le q (by omega))
        have nxt := ih m σ1 (by omega) (by omega) hC1 hF2 (fun k a d => ?_) (fun k a d => ?_) _ nI_d1
        · rw [← e, ← nI_add] at nxt
          exact V.take 6 nxt
        · by_cases q : k = m
          · subst q; omega
          · have := hl k (by omega) d; omega
        · have := hl k (by omega) a; omega
  have out : ¬ (rg x 1 20 ∧ rg y 0 999) → V mX7_when 22 [(0, .ref 0), (1, .int x), (2, .int y)] [] σ Q := fun g => by
    refine wpB_sd (stops := []) kX7_when 10 _ _ _ _ ?_
    exact ho g
  refine wpB_sd (stops := [22, 40]) kX7_when 60 _ _ _ _ ?_
  refine ⟨fun g => out (fun q => rg_lt (lo := 1) (hi := 20) (by omega) (by omega) g q.1), fun g => ⟨fun g2 => out (fun q => rg_gt (lo := 1) (hi := 20) (by omega) (by omega) g2 q.1), fun g2 => ⟨fun g3 => out (fun q => rg_lt (lo := 0) (hi := 999) (by omega) (by omega) g3 q.2), fun g3 => ⟨fun g4 => ?_, fun g4 => out (fun q => rg_gt (lo := 0) (hi := 999) (by omega) (by omega) (Int32.not_le.mp g4) q.2)⟩⟩⟩⟩
  obtain ⟨n, h1, h2, rfl⟩ := rg_of (lo := 1) (hi := 20) (by omega) (by omega) g g2
  obtain ⟨c, -, h3, rfl⟩ := rg_of (lo := 0) (hi := 999) (by omega) (by omega) g3 (Int32.not_lt.mpr g4)
  refine s_hos hC hW hy h9 h2 (Nat.le_refl n) (fun σ1 hC1 hF1 => ?_)
  have e : siA A n n = whF A n c n := by unfold whF; rw [if_neg (by omega)]; rfl
  have nxt := loop n c h1 h2 h3 rfl rfl n n σ1 (Nat.le_refl n) (Nat.le_refl n) hC1 hF1 (fun k a b => by rw [Nat.le_antisymm b a]; exact Nat.le_refl _) (fun k a b => by omega) _ rfl
  rw [← e] at nxt
  exact nxt
set_option maxRecDepth 100000 in
set_option maxHeartbeats 1000000 in
theorem u_when {σ : Sg} {A : St} {hg : Nat} {x y : Int32} {Q : Option Value → Sg → Prop} (hC : MR σ A hg) (hW : WL A) (hy : A 12 1 + 99 < 2 ^ 19) (h9 : hg ≤ 999999999) (ho : ¬ (rg x 1 20 ∧ rg y 0 999) → Q (some (.int OUT)) σ) (hi : ∀ n c b, 1 ≤ n → n ≤ 20 → c ≤ 999 → x = nI n → y = nI c → IsW (whF A n c) n b → ∀ σ', MR σ' A hg → FrM σ σ' → Q (some (.int (nI b))) σ') : MetA mX8_when [.ref 89, .int x, .int y] σ Q := by
  refine MetA_of qX8_when (Nat.le_of_ble_eq_true rfl) ?_
  have loop : ∀ n c, 1 ≤ n → n ≤ 20 → c ≤ 999 → x = nI n → y = nI c → ∀ m k b w σi, k + m = n + 1 → MR σi A hg → FrM σ σi → (k = 0 → b = 0 ∧ w = 99999999) → (0 < k → b < k ∧ w = whF A n c b ∧ (∀ j, j < k → whF A n c b ≤ whF A n c j) ∧ ∀ j, j < k → b < j → whF A n c b < whF A n c j) → V mX8_when 36 [(0, .ref 89), (1, .int (nI n)), (2, .int (nI c)), (3, .int (nI b)), (4, .int (nI w)), (5, .int (nI k))] [] σi Q := by
    intro n c h1 h2 h3 hx hv m
    induction m with
    | zero =>
      intro k b w σi hk hCi hF h0 hs
      have hk : k = n + 1 := by omega
      subst hk
      obtain ⟨a1, a2, a3, a4⟩ := hs (by omega)
      refine wpB_sd (stops := [36]) kX8_when 30 _ _ _ _ ?_
      refine br_t (nI_lt (by omega) (by omega)) ?_
      exact hi n c b h1 h2 h3 hx hv ⟨by omega, fun k hk => a3 k (by omega), fun k hk => a4 k (by omega)⟩ σi hCi hF
    | succ m ih =>
      intro k b w σi hk hCi hF h0 hs
      have hle := whF_le (c := c) (k := k) hW h2 (by omega) h3 hy
      have hw : w < 2 ^ 31 := by
        by_cases q : k = 0
        · have := (h0 q).2; omega
        · obtain ⟨a1, a2, a3, a4⟩ := hs (by omega)
          have := whF_le (c := c) (k := b) hW h2 (by omega) h3 hy
          omega
      have go : ∀ σ1 v, MR σ1 A hg → FrM σi σ1 → v = nI (whF A n c k) → V mX8_when 63 [(0, .ref 89), (1, .int (nI n)), (2, .int (nI c)), (3, .int (nI b)), (4, .int (nI w)), (5, .int (nI k)), (6, .int v)] [] σ1 Q := by
        intro σ1 v hC1 hF1 hv
        subst hv
        refine wpB_sd (stops := [36]) kX8_when 40 _ _ _ _ ?_
        refine ⟨fun g => ?_, fun g => ?_⟩
        · have g := (nI_ltI (by omega) (by omega)).mp g
          have hk0 : 0 < k := by
            rcases Nat.eq_zero_or_pos k with q | q
            · have := (h0 q).2; omega
            · exact q
          obtain ⟨a1, a2, a3, a4⟩ := hs hk0
          have nxt := ih (k + 1) b w σ1 (by omega) hC1 (hF.tr hF1) (by omega) (fun _ => ⟨by omega, a2, fun j hj => ?_, fun j hj hb => ?_⟩)
          · rw [← nI_1] at nxt
            exact V.take 6 nxt
          · by_cases q : j = k
            · subst q; omega
            · exact a3 j (by omega)
          · by_cases q : j = k
            · subst q; omega
            · exact a4 j (by omega) hb
        · have g : ¬ w < whF A n c k := fun q => g (nI_lt q (by omega))
          have nxt := ih (k + 1) k (whF A n c k) σ1 (by omega) hC1 (hF.tr hF1) (by omega) (fun _ => ⟨by omega, rfl, fun j hj => ?_, fun j hj hb => by omega⟩)
          · rw [← nI_1] at nxt
            exact V.take 6 nxt
          · by_cases q : j = k
            · subst q; exact Nat.le_refl _
            · obtain ⟨a1, a2, a3, a4⟩ := hs (by omega)
              have := a3 j (by omega)
              omega
      refine wpB_sd (stops := [63]) kX8_when 40 _ _ _ _ ?_
      refine br_f (nI_nlt (by omega) (by omega)) ?_
      refine m_siegeOf hCi hW hy h9 h2 (show k ≤ n by omega) (fun σ1 hC1 hF1 => ?_)
      refine ⟨fun g => ?_, fun g => ?_⟩
      · have g := (nI_leI (by omega) (by omega)).mp g
        refine go σ1 _ hC1 hF1 ?_
        unfold whF
        rw [if_neg (by omega)]
        exact nI_add _ _
      · have g : k < n := Nat.lt_of_not_le (fun q => g (nI_le q (by omega)))
        refine go σ1 _ hC1 hF1 ?_
        unfold whF
        rw [if_pos g]
        exact nI_add _ _
  have out : ¬ (rg x 1 20 ∧ rg y 0 999) → V mX8_when 24 [(0, .ref 89), (1, .int x), (2, .int y)] [] σ Q := fun g => by
    refine wpB_sd (stops := []) kX8_when 10 _ _ _ _ ?_
    exact ho g
  refine wpB_sd (stops := [24, 36]) kX8_when 60 _ _ _ _ ?_
  refine m_inI (lo := nI 1) (hi := nI 20) rfl rfl ?_
  refine ⟨fun g => out (fun q => bI_0.mp g ((rg_iff (by omega) (by omega)).mpr q.1)), fun g => ?_⟩
  obtain ⟨n, h1, h2, rfl⟩ := (rg_iff (by omega) (by omega)).mp (bI_n0 g)
  refine m_inI (lo := nI 0) (hi := nI 999) rfl rfl ?_
  refine ⟨fun g => ?_, fun g => out (fun q => bI_0.mp g ((rg_iff (by omega) (by omega)).mpr q.2))⟩
  obtain ⟨c, -, h3, rfl⟩ := (rg_iff (by omega) (by omega)).mp (bI_n0 g)
  exact loop n c h1 h2 h3 rfl rfl (n + 1) 0 0 99999999 σ (by omega) hC FrM.rf (fun _ => ⟨rfl, rfl⟩) (fun q => by omega)
