/-! change -/
def hbA (A : St) (n h : Nat) : Nat := (yrR false n (A, fun _ => 0)).2 h
abbrev BetP (A : St) (n a b : Nat) : Prop := (A 6 a = 0 ∧ A 6 b = 0 ∧ A 1 a ≠ A 1 b) ∧ hbA (swA A a b) n (A 1 a) < hbA A n (A 1 a) ∧ hbA (swA A a b) n (A 1 b) < hbA A n (A 1 b)
def ch1 (A : St) (n a : Nat) : Nat → Nat → Option St
  | 0, _ => none
  | m + 1, b => if BetP A n a b then some (swA A a b) else ch1 A n a m (b + 1)
def ch2 (A : St) (n : Nat) : Nat → Nat → Option St
  | 0, _ => none
  | m + 1, a => match ch1 A n a m (a + 1) with
    | some B => some B
    | none => ch2 A n m (a + 1)
def chR (n : Nat) : Nat → St → Nat → St × Nat
  | 0, A, d => (A, d)
  | f + 1, A, d => match ch2 A n (A 12 0) 0 with
    | none => (A, d)
    | some B => chR n f B (d + 1)
theorem WL_own {A : St} (h : WL A) {a v : Nat} (hv : v < A 12 5) : WL (stu A 1 a v) := by
  obtain ⟨⟨j1, j2, j3⟩, h1, h2, h3, h4, h5, h6, h7⟩ := h
  have e : ∀ j, stu A 1 a v 1 j = v ∨ stu A 1 a v 1 j = A 1 j := by
    intro j
    by_cases q : j = a
    · subst q; exact Or.inl stu_s
    · exact Or.inr (stu_k q)
  refine ⟨⟨j1, j2, fun j hj => ?_⟩, h1, h2, h3, h4, h5, h6, fun j hj => ?_⟩
  · have := j3 j hj
    refine ⟨this.1, ?_, this.2.2⟩
    rcases e j with q | q <;> rw [q]
    · omega
    · exact this.2.1
  · have := h7 j hj
    show stu A 1 a v 1 j < A 12 5
    rcases e j with q | q <;> rw [q]
    · exact hv
    · exact this
theorem WL_sw {A : St} (h : WL A) {a b : Nat} (ha : a < A 12 0) (hb : b < A 12 0) : WL (swA A a b) :=
  WL_own (WL_own h (h.2.2.2.2.2.2.2 b hb)) (h.2.2.2.2.2.2.2 a ha)
theorem swA_f {A : St} {a b f k : Nat} (h : f ≠ 1) : swA A a b f k = A f k := by
  unfold swA; rw [stu_f h, stu_f h]
theorem RLd_sw {L : Nat} {σ σ' : Sg} {A : St} {a b : Nat} (h : RLd L σ A) (hc : RCel (L + 6) σ' (swA A a b)) (hf : ∀ c, ¬ (L + 6 ≤ c ∧ c ≤ L + 12) → σ' c = σ c) : RLd L σ' (swA A a b) := by
  obtain ⟨g0, g1, g2, g3, g4, g5, g6, g7⟩ := h
  refine ⟨hc, ?_, ?_, ?_, ?_, ?_, fun k hk => ?_, fun k hk => ?_⟩
  · rw [hf L (by omega)]; exact g1
  · rw [hf L (by omega)]; exact g2
  · rw [hf L (by omega)]; exact g3
  · rw [hf L (by omega)]; exact g4
  · rw [hf L (by omega)]; exact g5
  · rw [hf (L + 1) (by omega), hf (L + 2) (by omega), hf (L + 3) (by omega)]; exact g6 k hk
  · rw [hf (L + 5) (by omega)]; exact g7 k hk
theorem hbA_le {A : St} {n h : Nat} (hW : WL A) (hy : A 12 1 + n < 2 ^ 19) : hbA A n h ≤ 99 * n := yrR_le n (s := (A, fun _ => 0)) hW hy (fun _ => rfl) h
set_option maxRecDepth 100000 in
set_option maxHeartbeats 1000000 in
theorem s_better {σ : Sg} {A : St} {hg n a b : Nat} {Q : Option Value → Sg → Prop} (hC : CS σ A hg) (hW : WL A) (hn : n ≤ 20) (hy : A 12 1 + 99 < 2 ^ 19) (h9 : hg ≤ 999999999) (ha : a < b) (hb : b < A 12 0) (h88 : ∀ k, k < A 12 5 → σ 88 k = nI (hbA A n k)) (h : ∀ σ', CS σ' A hg → FrL 14 σ σ' → Q (some (.int (bI (BetP A n a b)))) σ') : MetA mX7_isBetterChanged [.ref 0, .int (nI a), .int (nI b), .int (nI n)] σ Q := by
  refine MetA_of qX7_isBetterChanged (Nat.le_of_ble_eq_true rfl) ?_
  have hRc : RCel 7 σ A := hC.1.1
  have ha0 : a < A 12 0 := by omega
  have h4 := hW.2.1
  have h24 := hW.1.1
  have ho1 := hW.2.2.2.2.2.2.2 a ha0
  have ho2 := hW.2.2.2.2.2.2.2 b hb
  have hg1 := (hW.1.2.2 a ha0).2.2.2.2.2.2
  have hg2 := (hW.1.2.2 b hb).2.2.2.2.2.2
  have ea := (hRc.2.2 a ha0).2.1
  have eb := (hRc.2.2 b hb).2.1
  have hWs := WL_sw hW ha0 hb
  have e5 : swA A a b 12 5 = A 12 5 := swA_f (by omega)
  have e1 : swA A a b 12 1 = A 12 1 := swA_f (by omega)
  have l1 := hbA_le (n := n) (h := A 1 a) hW (by omega)
  have l2 := hbA_le (n := n) (h := A 1 b) hW (by omega)
  have l3 := hbA_le (n := n) (h := A 1 a) hWs (by omega)
  have l4 := hbA_le (n := n) (h := A 1 b) hWs (by omega)
  have no : ¬ BetP A n a b → ((0 : Int32) = 0 ∨ (0 : Int32) = 1) ∧ Q (some (.int 0)) σ := fun q => by
    have := h σ hC (fun _ _ => rfl)
    rw [bI_f q] at this
    exact ⟨Or.inl rfl, this⟩
  have hh1 : 0 ≤ nI (A 1 a) ∧ nI (A 1 a) < σ 1 0 := by rw [hC.1.2.1]; exact (ix_iff (by omega)).mpr ⟨_, ho1, rfl⟩
  have hh2 : 0 ≤ nI (A 1 b) ∧ nI (A 1 b) < σ 1 0 := by rw [hC.1.2.1]; exact (ix_iff (by omega)).mpr ⟨_, ho2, rfl⟩
  refine wpB_sd (stops := []) kX7_isBetterChanged 200 _ _ _ _ ?_
  refine s_hasY (Or.inl rfl) hRc hW.1 ha0 ?_
  refine br_f (by decide) ?_
  refine s_hasY (Or.inl rfl) hRc hW.1 hb ?_
  refine br_f (by decide) ?_
  refine s_isGone (Or.inl rfl) hRc hW.1 ha0 ?_
  refine ⟨fun g => no (by intro q; have := bI_n0 g; have := q.1.1; omega), fun g => ?_⟩
  have g1 : A 6 a = 0 := by have := bI_0.mp g; omega
  refine s_isGone (Or.inl rfl) hRc hW.1 hb ?_
  refine ⟨fun g => ?_, fun g => no (by intro q; have := bI_n0 g; have := q.1.2.1; omega)⟩
  have g2 : A 6 b = 0 := by have := bI_0.mp g; omega
  refine ald (n := 24) (j := a) rfl rfl (by omega) ea ?_
  refine ald (n := 24) (j := b) rfl rfl (by omega) eb ?_
  refine ⟨fun g => no (fun q => q.1.2.2 ((nI_eq (by omega) (by omega)).mp g)), fun g => ?_⟩
  have g3 : A 1 a ≠ A 1 b := fun q => g (by rw [q])
  refine s_hasHouse (Or.inl rfl) ?_
  rw [bI_t hh1]
  refine br_f (by decide) ?_
  refine s_hasHouse (Or.inl rfl) ?_
  rw [bI_t hh2]
  refine bn_f (by decide) ?_
  refine ald (n := 4) (j := A 1 a) rfl rfl (by omega) (h88 _ ho1) ?_
  refine ⟨fun g => no (by intro q; have g := (nI_eq (b := 0) (by omega) (by omega)).mp g; have := q.2.1; omega), fun g => ?_⟩
  refine ald (n := 4) (j := A 1 b) rfl rfl (by omega) (h88 _ ho2) ?_
  refine ⟨fun g => ?_, fun g => no (by intro q; have g := (nI_eq (b := 0) (by omega) (by omega)).mp g; have := q.2.2; omega)⟩
  refine s_copyL (d := 14) (s := 1) (by simp) hC.1 hW.2.1 hW.2.2.1 hW.1.1 (fun σ1 hR1 he1 hF1 => ?_)
  refine s_swap (c := 20) (Or.inr rfl) hR1.1 hW.1 ha0 hb ha (fun σ2 hR2 hF2 => ?_)
  have hR2L : RLd 14 σ2 (swA A a b) := RLd_sw hR1 hR2 hF2
  have hg2L : σ2 14 8 = nI hg := by rw [hF2 14 (by omega), he1]; exact hC.2
  refine mAr (by rfl) (s_pass (dr := false) (n := n) (Or.inr rfl) hR2L hWs (by omega) (by omega) hg2L h9 (fun σ3 hR3 hm3 hg3 hF3 => ?_))
  have hF : FrL 14 σ σ3 := fun c hc => by rw [hF3 c hc, hF2 c (by omega), hF1 c hc]
  have fin := h σ3 (CS_trial hC hF) hF
  have k88 : ∀ k, k < A 12 5 → σ3 88 k = nI (hbA A n k) := fun k hk => by rw [hF 88 (by omega)]; exact h88 k hk
  refine ald (n := 4) (j := A 1 a) rfl rfl (by omega) (hm3 _ (by omega)) ?_
  refine ald (n := 4) (j := A 1 a) rfl rfl (by omega) (k88 _ ho1) ?_
  refine ⟨fun g => ?_, fun g => ?_⟩
  · have g : hbA A n (A 1 a) ≤ hbA (swA A a b) n (A 1 a) := (nI_leI (by omega) (by omega)).mp g
    rw [bI_f (fun q => by have := q.2.1; omega)] at fin
    exact ⟨Or.inl rfl, fin⟩
  have g : ¬ hbA A n (A 1 a) ≤ hbA (swA A a b) n (A 1 a) := fun q => g (nI_le q (by unfold hbA at l3; omega))
  refine ald (n := 4) (j := A 1 b) rfl rfl (by omega) (hm3 _ (by omega)) ?_
  refine ald (n := 4) (j := A 1 b) rfl rfl (by omega) (k88 _ ho2) ?_
  refine ⟨fun g => ?_, fun g => ?_⟩
  · have g : hbA A n (A 1 b) ≤ hbA (swA A a b) n (A 1 b) := (nI_leI (by omega) (by omega)).mp g
    rw [bI_f (fun q => by have := q.2.2; omega)] at fin
    exact ⟨Or.inl rfl, fin⟩
  have g' : ¬ hbA A n (A 1 b) ≤ hbA (swA A a b) n (A 1 b) := fun q => g (nI_le q (by unfold hbA at l4; omega))
  rw [bI_t ⟨⟨g1, g2, g3⟩, by omega, by omega⟩] at fin
  exact ⟨Or.inr rfl, fin⟩
def FrY (σ σ' : Sg) : Prop := ∀ c, ¬ (1 ≤ c ∧ c ≤ 26) → c ≠ 88 → σ' c = σ c
theorem FrL.y {σ σ' : Sg} (h : FrL 14 σ σ') : FrY σ σ' := fun c hc _ => h c (by omega)
theorem FrY.rf {σ : Sg} : FrY σ σ := fun _ _ _ => rfl
theorem FrY.tr {σ σ' σ'' : Sg} (h : FrY σ σ') (h2 : FrY σ' σ'') : FrY σ σ'' := fun c hc hd => (h2 c hc hd).trans (h c hc hd)
set_option maxRecDepth 100000 in
set_option maxHeartbeats 1000000 in
theorem s_first {σ : Sg} {A : St} {hg n : Nat} {Q : Option Value → Sg → Prop} (hC : CS σ A hg) (hW : WL A) (hn : n ≤ 20) (hy : A 12 1 + 99 < 2 ^ 19) (h9 : hg ≤ 999999999) (h0 : ch2 A n (A 12 0) 0 = none → ∀ σ', CS σ' A hg → FrY σ σ' → Q (some (.int 0)) σ') (h1 : ∀ B, ch2 A n (A 12 0) 0 = some B → WL B → B 12 1 = A 12 1 → ∀ σ', CS σ' B hg → FrY σ σ' → Q (some (.int 1)) σ') : MetA mX7_doFirstChange [.ref 0, .int (nI n)] σ Q := by
  refine MetA_of qX7_doFirstChange (Nat.le_of_ble_eq_true rfl) ?_
  have h24 := hW.1.1
  have h4 := hW.2.1
  have inner : ∀ a, a < A 12 0 → (∀ σ', CS σ' A hg → FrY σ σ' → (∀ k, k < A 12 5 → σ' 88 k = nI (hbA A n k)) → ch1 A n a (A 12 0 - (a + 1)) (a + 1) = none → V mX7_doFirstChange 99 [(0, .ref 0), (1, .int (nI n)), (2, .int (nI (A 12 0))), (3, .int (nI a))] [] σ' Q) → (∀ B, ch1 A n a (A 12 0 - (a + 1)) (a + 1) = some B → ch2 A n (A 12 0) 0 = some B) → ∀ m b σ', a < b → b + m = A 12 0 → ch1 A n a (A 12 0 - (a + 1)) (a + 1) = ch1 A n a m b → CS σ' A hg → FrY σ σ' → (∀ k, k < A 12 5 → σ' 88 k = nI (hbA A n k)) → V mX7_doFirstChange 61 [(0, .ref 0), (1, .int (nI n)), (2, .int (nI (A 12 0))), (3, .int (nI a)), (4, .int (nI b))] [] σ' Q := by
    intro a ha hnx hso m
    induction m with
    | zero =>
      intro b σ' hab hbm he hC' hF' h88
      refine wpB_sd (stops := [61, 99]) kX7_doFirstChange 30 _ _ _ _ ?_
      refine br_t (nI_le (by omega) (by omega)) ?_
      exact V.take 4 (hnx σ' hC' hF' h88 he)
    | succ m ih =>
      intro b σ' hab hbm he hC' hF' h88
      refine wpB_sd (stops := [61, 99]) kX7_doFirstChange 40 _ _ _ _ ?_
      refine br_f (nI_ge (by omega) (by omega)) ?_
      refine s_better hC' hW hn hy h9 hab (by omega) h88 (fun σ1 hC1 hF1 => ?_)
      rw [ch1] at he
      refine ⟨fun g => ?_, fun g => ?_⟩
      · rw [if_neg (bI_0.mp g)] at he
        have nxt := ih (b + 1) σ1 (by omega) (by omega) he hC1 (hF'.tr hF1.y) (fun k hk => by rw [hF1 88 (by omega)]; exact h88 k hk)
        rw [← nI_1] at nxt
        exact nxt
      · rw [if_pos (bI_n0 g)] at he
        refine s_swap (c := 7) (Or.inl rfl) hC1.1.1 hW.1 (by omega) (by omega) hab (fun σ2 hR2 hF2 => ?_)
        refine ⟨Or.inr rfl, h1 _ (hso _ he) (WL_sw hW (by omega) (by omega)) (swA_f (by omega)) σ2 ⟨RLd_sw hC1.1 hR2 hF2, by rw [hF2 1 (by omega)]; exact hC1.2⟩ ((hF'.tr hF1.y).tr (fun c hc _ => hF2 c (by omega)))⟩
  have outer : ∀ m a σ', a + m = A 12 0 → ch2 A n (A 12 0) 0 = ch2 A n m a → CS σ' A hg → FrY σ σ' → (∀ k, k < A 12 5 → σ' 88 k = nI (hbA A n k)) → V mX7_doFirstChange 51 [(0, .ref 0), (1, .int (nI n)), (2, .int (nI (A 12 0))), (3, .int (nI a))] [] σ' Q := by
    intro m
    induction m with
    | zero =>
      intro a σ' ha he hC' hF' h88
      refine wpB_sd (stops := [51]) kX7_doFirstChange 30 _ _ _ _ ?_
      refine br_t (nI_le (by omega) (by omega)) ?_
      exact ⟨Or.inl rfl, h0 he σ' hC' hF'⟩
    | succ m ih =>
      intro a σ' ha he hC' hF' h88
      have em : A 12 0 - (a + 1) = m := by omega
      refine wpB_sd (stops := [51, 61]) kX7_doFirstChange 30 _ _ _ _ ?_
      refine br_f (nI_ge (by omega) (by omega)) ?_
      have nxt := inner a (by omega) (fun σ1 hC1 hF1 h881 hn1 => by
          refine wpB_sd (stops := [51]) kX7_doFirstChange 30 _ _ _ _ ?_
          rw [em] at hn1
          have nx := ih (a + 1) σ1 (by omega) (by rw [he, ch2, hn1]) hC1 hF1 h881
          rw [← nI_1] at nx
          exact nx) (fun B hB => by rw [em] at hB; rw [he, ch2, hB]) m (a + 1) σ' (by omega) (by omega) (by rw [em]) hC' hF' h88
      rw [← nI_1] at nxt
      exact nxt
  refine wpB_sd (stops := [51]) kX7_doFirstChange 60 _ _ _ _ ?_
  refine s_copyL (d := 14) (s := 1) (by simp) hC.1 hW.2.1 hW.2.2.1 hW.1.1 (fun σ1 hR1 he1 hF1 => ?_)
  refine mAr (by rfl) (s_pass (dr := false) (n := n) (Or.inr rfl) hR1 hW (by omega) (by omega) (by rw [he1]; exact hC.2) h9 (fun σ3 hR3 hm3 hg3 hF3 => ?_))
  have hF : FrL 14 σ σ3 := fun c hc => by rw [hF3 c hc, hF1 c hc]
  refine ⟨acok (n := 4) rfl rfl, ?_⟩
  have hC3 := CS_trial hC hF
  have key : ∀ f, CS (sgc σ3 88 f) A hg := fun f => ⟨hC3.1.fr (fun c a b d => sgc_ne (by omega)), by rw [sgc_ne (by omega)]; exact hC3.2⟩
  have hC4 := key (va_cpy (σ3 18) (σ3 88) (0 : Int32).toNatClampNeg (0 : Int32).toNatClampNeg (4 : Int32).toNatClampNeg)
  have nxt := outer (A 12 0) 0 _ (by omega) rfl hC4 (hF.y.tr (fun c hc hd => sgc_ne hd)) (fun k hk => by
    rw [sgc_self]; exact (cp_in (m := (4 : Int32)) (n := 4) rfl (by omega) (by omega)).trans (hm3 k hk))
  rw [← hC4.1.1.1] at nxt
  exact nxt
set_option maxRecDepth 100000 in
set_option maxHeartbeats 1000000 in
theorem t_change {σ : Sg} {A : St} {hg : Nat} {v : Int32} {Q : Option Value → Sg → Prop} (hC : CS σ A hg) (hW : WL A) (hy : A 12 1 + 99 < 2 ^ 19) (h9 : hg ≤ 999999999) (ho : ¬ rg v 1 20 → Q (some (.int OUT)) σ) (hi : ∀ n, 1 ≤ n → n ≤ 20 → v = nI n → WL (chR n 20 A 0).1 → (chR n 20 A 0).1 12 1 = A 12 1 → ∀ σ', CS σ' (chR n 20 A 0).1 hg → FrY σ σ' → Q (some (.int (nI (chR n 20 A 0).2))) σ') : MetA mX7_change [.ref 0, .int v] σ Q := by
  refine MetA_of qX7_change (Nat.le_of_ble_eq_true rfl) ?_
  have loop : ∀ n, 1 ≤ n → n ≤ 20 → v = nI n → ∀ m d B σ', d + m = 20 → chR n 20 A 0 = chR n m B d → CS σ' B hg → WL B → B 12 1 = A 12 1 → FrY σ σ' → V mX7_change 16 [(0, .ref 0), (1, .int (nI n)), (2, .int (nI d))] [] σ' Q := by
    intro n h1 h2 hv m
    have fin : ∀ d B σ', chR n 20 A 0 = (B, d) → CS σ' B hg → WL B → B 12 1 = A 12 1 → FrY σ σ' → Q (some (.int (nI d))) σ' := by
      intro d B σ' he hC' hW' hy' hF'
      have := hi n h1 h2 hv
      rw [he] at this
      exact this hW' hy' σ' hC' hF'
    induction m with
    | zero =>
      intro d B σ' hd he hC' hW' hy' hF'
      refine wpB_sd (stops := [16]) kX7_change 30 _ _ _ _ ?_
      refine br_t (nI_le (a := 20) (by omega) (by omega)) ?_
      exact fin d B σ' he hC' hW' hy' hF'
    | succ m ih =>
      intro d B σ' hd he hC' hW' hy' hF'
      refine wpB_sd (stops := [16]) kX7_change 30 _ _ _ _ ?_
      refine br_f (nI_ge (a := d) (b := 20) (by omega) (by omega)) ?_
      rw [show chR n (m + 1) B d = (match ch2 B n (B 12 0) 0 with | none => (B, d) | some B' => chR n m B' (d + 1)) from rfl] at he
      refine s_first hC' hW' h2 (by omega) h9 (fun hn σ1 hC1 hF1 => ?_) (fun B' hB hWB hyB σ1 hC1 hF1 => ?_)
      · rw [hn] at he
        refine br_t (by decide) ?_
        exact fin d B σ1 he hC1 hW' hy' (hF'.tr hF1)
      · rw [hB] at he
        refine br_f (by decide) ?_
        have nxt := ih (d + 1) B' σ1 (by omega) he hC1 hWB (by omega) (hF'.tr hF1)
        rw [← nI_1] at nxt
        exact nxt
  refine wpB_sd (stops := [16]) kX7_change 30 _ _ _ _ ?_
  refine ⟨fun g => ho (rg_lt (lo := 1) (hi := 20) (by omega) (by omega) g), fun g => ⟨fun g2 => ?_, fun g2 => ho (rg_gt (lo := 1) (hi := 20) (by omega) (by omega) (Int32.not_le.mp g2))⟩⟩
  obtain ⟨n, h1, h2, rfl⟩ := rg_of (lo := 1) (hi := 20) (by omega) (by omega) g (Int32.not_lt.mpr g2)
  exact loop n h1 h2 rfl 20 0 A σ (by omega) rfl hC hW rfl FrY.rf
