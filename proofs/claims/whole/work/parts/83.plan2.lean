/-! plan: the class's search -/
theorem row_ok : ∀ k : Fin 13, aokB (60 + k.val) 1 256 = true := by decide
theorem rows_ok {k : Nat} (h : k ≤ 12) : aokB (60 + k) 1 256 = true := row_ok ⟨k, by omega⟩
theorem arw {k : Nat} (h : k ≤ 12) : eg_rb (shp 59).2.2 + eg_rs (shp 59).2.2 * (nI k).toNatClampNeg = 60 + k := by
  rw [nI_clamp (by omega), show eg_rb (shp 59).2.2 = 60 from rfl, show eg_rs (shp 59).2.2 = 1 from rfl, Nat.one_mul]
theorem arw1 {k : Nat} (h : k < 12) : eg_rb (shp 59).2.2 + eg_rs (shp 59).2.2 * (nI k + 1).toNatClampNeg = 60 + (k + 1) := by
  rw [nI_1, arw (by omega)]
def RwK (σ : Sg) (A : St) (a n k : Nat) : Prop := ∀ U, U < (if k = 0 then 1 else 2 ^ jlN A a) → σ (60 + k) U = nI (plK A a (n - k) k U)
set_option maxRecDepth 100000 in
set_option maxHeartbeats 2000000 in
theorem s_chooseSets {σ : Sg} {A : St} {hg a n : Nat} {Q : Option Value → Sg → Prop} (hC : CS σ A hg) (hW : WL A) (ha : a < A 12 5) (hn : n ≤ 12) (e1 : σ 57 1 = nI (jlN A a)) (e58 : ∀ i, i < jlN A a → σ 58 i = nI (jlJ A a i)) (hrow : ∀ k, k ≤ n → RwK σ A a n k) (h : ∀ σ', (∀ k, k < n → σ' 74 k = nI (opB A a n k)) → σ' 57 7 = σ 57 7 → FrC 57 74 σ σ' → Q none σ') : MetA mX5_chooseSets [.ref 57, .ref 1, .int (nI a), .int (nI n)] σ Q := by
  refine MetA_of qX5_chooseSets (Nat.le_of_ble_eq_true rfl) ?_
  have h256 := pw256 (A := A) (a := a)
  have loop : ∀ m k σ', k + m = n → (∀ c, c ≠ 57 → c ≠ 73 → c ≠ 74 → σ' c = σ c) → (∀ j, j ≠ 4 → j ≠ 5 → σ' 57 j = σ 57 j) → (∀ j, j < k → σ' 74 j = nI (opB A a n j)) → V mX5_chooseSets 6 [(0, .ref 57), (1, .ref 1), (2, .int (nI a)), (3, .int (nI n)), (4, .int (nI (usA A a n k))), (5, .int (nI k))] [] σ' Q := by
    intro m
    induction m with
    | zero =>
      intro k σ' hk hF hF2 hop
      have hk : k = n := by omega
      subst hk
      refine wpB_sd (stops := [6]) kX5_chooseSets 30 _ _ _ _ ?_
      refine br_t (nI_le (by omega) (by omega)) ?_
      exact h σ' hop (hF2 7 (by omega) (by omega)) (fun c hc => hF c (by omega) (by omega) (by omega))
    | succ m ih =>
      intro k σ' hk hF hF2 hop
      have hC' : CS σ' A hg := ⟨hC.1.fr (fun c _ _ _ => hF c (by omega) (by omega) (by omega)), by rw [hF 1 (by omega) (by omega) (by omega)]; exact hC.2⟩
      have hus := usA_lt (A := A) (a := a) (n := n) (k := k) (by omega)
      have hch := chS_lt (A := A) (a := a) (n := n) (k := k) (U := usA A a n k) (by omega)
      have hus0 : usA A a n k < (if k = 0 then 1 else 2 ^ jlN A a) := by
        split
        · next q => subst q; exact Nat.one_pos
        · exact hus
      refine wpB_sd (stops := [6]) kX5_chooseSets 40 _ _ _ _ ?_
      refine br_f (nI_ge (by omega) (by omega)) ?_
      refine s_lookAtYear hC' hW ha (by omega) (by rw [hF2 1 (by omega) (by omega)]; exact e1) (fun i hi => by rw [hF 58 (by omega) (by omega) (by omega)]; exact e58 i hi) (fun σ1 hY hF1 => ?_)
      have hr : ∀ j, j ≤ n → RwK σ1 A a n j := fun j hj U hU => by
        rw [hF1.1 (60 + j) (by omega) (by omega), hF (60 + j) (by omega) (by omega) (by omega)]; exact hrow j hj U hU
      refine ⟨aok (n := 13) (j := k + 1) rfl (nI_1 k) (by omega), ?_⟩
      rw [arw1 (by omega)]
      refine ⟨aok (n := 13) (j := k) rfl rfl (by omega), ?_⟩
      rw [arw (by omega)]
      refine ald (n := 256) (j := usA A a n k) (rows_ok (by omega)) rfl (by omega) (hr k (by omega) _ hus0) ?_
      refine s_firstOf (n := n) (rows_ok (show k + 1 ≤ 12 by omega)) hY hW ha hn (by omega) hus (fun V hV => hr (k + 1) (by omega) V (by rw [if_neg (by omega)]; exact hV)) ?_
      refine s_jarsOf (A := A) (a := a) hW.1 (by omega) hY.1 (fun i hi => by rw [hF1.1 58 (by omega) (by omega), hF 58 (by omega) (by omega) (by omega)]; exact e58 i hi) ?_
      refine ast (n := 12) (j := k) rfl rfl (by omega) ?_
      have nxt := ih (k + 1) (sgu σ1 74 k (nI (jrS A a (chS A a n k (usA A a n k)) (jlN A a)))) (by omega) (fun c a b d => by rw [sgu_c d, hF1.1 c a b]; exact hF c a b d) (fun j a b => by rw [sgu_c (by omega), hF1.2 j a b]; exact hF2 j a b) (fun j hj => ?_)
      · rw [usA, ← fa_or, ← nI_1 k] at nxt
        exact V.take 6 nxt
      · by_cases z : j = k
        · subst z; rw [sgu_s]; rfl
        · rw [sgu_k z, hF1.1 74 (by omega) (by omega)]; exact hop j (by omega)
  refine wpB_sd (stops := [6]) kX5_chooseSets 40 _ _ _ _ ?_
  exact loop n 0 σ (by omega) (fun _ _ _ _ => rfl) (fun _ _ _ => rfl) (fun j hj => by omega)
set_option maxRecDepth 100000 in
set_option maxHeartbeats 2000000 in
theorem s_find {σ : Sg} {A : St} {hg a n : Nat} {Q : Option Value → Sg → Prop} (hC : CS σ A hg) (hW : WL A) (ha : a < A 12 5) (hn1 : 1 ≤ n) (hn : n ≤ 12) (h : ∀ σ', (∀ k, k < n → σ' 74 k = nI (opB A a n k)) → σ' 57 7 = nI (plK A a n 0 0) → FrC 57 74 σ σ' → Q none σ') : MetA mX5_find [.ref 57, .ref 1, .int (nI a), .int (nI n)] σ Q := by
  refine MetA_of qX5_find (Nat.le_of_ble_eq_true rfl) ?_
  have h256 := pw256 (A := A) (a := a)
  have hc8 := jlN_le (A := A) (a := a)
  have h4 := hW.2.1
  have csF : ∀ σ', FrC 57 74 σ σ' → CS σ' A hg := fun σ' hF => ⟨hC.1.fr (fun c _ _ _ => hF c (by omega)), by rw [hF 1 (by omega)]; exact hC.2⟩
  have r71 : ∀ m σ', m ≤ n → σ' 57 1 = nI (jlN A a) → (∀ i, i < jlN A a → σ' 58 i = nI (jlJ A a i)) → (∀ j, m ≤ j → j ≤ n → RwK σ' A a n j) → FrC 57 74 σ σ' → ∀ v, v = nI m - 1 → V mX5_find 71 [(0, .ref 57), (1, .ref 1), (2, .int (nI a)), (3, .int (nI n)), (4, .int v)] [] σ' Q := by
    intro m
    induction m with
    | zero =>
      intro σ' hm e1 e58 hrow hF v hv
      subst hv
      refine wpB_sd (stops := [71]) kX5_find 40 _ _ _ _ ?_
      refine br_t (by decide) ?_
      refine ⟨aok (n := 13) (j := 0) rfl rfl (by omega), ?_⟩
      have h00 := hrow 0 (by omega) (by omega) 0 (by rw [if_pos rfl]; omega)
      refine ald (n := 256) (j := 0) rfl rfl (by omega) h00 ?_
      have hF1 : FrC 57 74 σ (sgu σ' 57 7 (nI (plK A a (n - 0) 0 0))) := fun c hc => by rw [sgu_c (by omega)]; exact hF c hc
      refine s_chooseSets (csF _ hF1) hW ha hn (by rw [sgu_k (by omega)]; exact e1) (fun i hi => by rw [sgu_c (by omega)]; exact e58 i hi) (fun k hk U hU => by rw [sgu_c (by omega)]; exact hrow k (by omega) hk U hU) (fun σ2 hop e7 hF2 => ?_)
      refine h σ2 hop ?_ (fun c hc => by rw [hF2 c hc]; exact hF1 c hc)
      rw [e7, sgu_s]
      rfl
    | succ m ih =>
      intro σ' hm e1 e58 hrow hF v hv
      have hv := nI_s1 hv
      subst hv
      refine wpB_sd (stops := [71, 99]) kX5_find 40 _ _ _ _ ?_
      refine br_f (nI_pos (by omega)) ?_
      refine s_lookAtYear (csF σ' hF) hW ha (by omega) e1 e58 (fun σ1 hY hF1 => ?_)
      have hr1 : ∀ j, m + 1 ≤ j → j ≤ n → RwK σ1 A a n j := fun j hj hj2 U hU => by
        rw [hF1.1 (60 + j) (by omega) (by omega)]; exact hrow j hj hj2 U hU
      have hF1' : FrC 57 74 σ σ1 := fun c hc => by rw [hF1.1 c (by omega) (by omega)]; exact hF c hc
      have f58 : ∀ i, i < jlN A a → σ1 58 i = nI (jlJ A a i) := fun i hi => by rw [hF1.1 58 (by omega) (by omega)]; exact e58 i hi
      -- the sets
      have inner : ∀ N, N = (if m = 0 then 1 else 2 ^ jlN A a) → ∀ mm s σ2, s + mm = N → (∀ c, c ≠ 60 + m → σ2 c = σ1 c) → (∀ U, U < s → σ2 (60 + m) U = nI (plK A a (n - m) m U)) → V mX5_find 104 [(0, .ref 57), (1, .ref 1), (2, .int (nI a)), (3, .int (nI n)), (4, .int (nI m)), (5, .int (nI N)), (6, .int (nI s))] [] σ2 Q := by
        intro N hN mm
        have hN2 : N ≤ 2 ^ jlN A a := by
          rw [hN]; split
          · exact Nat.two_pow_pos _
          · exact Nat.le_refl _
        induction mm with
        | zero =>
          intro s σ2 hs hF2 hv
          have hs : s = N := by omega
          subst hs
          refine wpB_sd (stops := [71, 104]) kX5_find 40 _ _ _ _ ?_
          refine br_t (nI_le (by omega) (by omega)) ?_
          refine V.take 5 (ih σ2 (by omega) (by rw [hF2 57 (by omega)]; exact hY.1) (fun i hi => by rw [hF2 58 (by omega)]; exact f58 i hi) (fun j hj hj2 U hU => ?_) (fun c hc => by rw [hF2 c (by omega)]; exact hF1' c hc) _ nI_d1)
          by_cases z : j = m
          · subst z; rw [← hN] at hU; exact hv U hU
          · rw [hF2 (60 + j) (by omega)]; exact hr1 j (by omega) hj2 U hU
        | succ mm ih2 =>
          intro s σ2 hs hF2 hv
          have hYm : RY σ2 A a m := ⟨by rw [hF2 57 (by omega)]; exact hY.1, by rw [hF2 57 (by omega)]; exact hY.2.1, by rw [hF2 57 (by omega)]; exact hY.2.2.1, fun S hS => by rw [hF2 73 (by omega)]; exact hY.2.2.2 S hS⟩
          refine wpB_sd (stops := [104]) kX5_find 40 _ _ _ _ ?_
          refine br_f (nI_ge (by omega) (by omega)) ?_
          refine ⟨aok (n := 13) (j := m) rfl rfl (by omega), ?_⟩
          rw [arw (by omega)]
          refine ⟨aok (n := 13) (j := m + 1) rfl (nI_1 m) (by omega), ?_⟩
          rw [arw1 (by omega)]
          refine s_leastHunger (m := n - (m + 1)) (k := m) (rows_ok (show m + 1 ≤ 12 by omega)) hYm hW ha (by omega) (show s < 2 ^ jlN A a by omega) (fun V hV => by rw [hF2 (60 + (m + 1)) (by omega)]; exact hr1 (m + 1) (by omega) (by omega) V (by rw [if_neg (by omega)]; exact hV)) ?_
          refine ast (n := 256) (j := s) (rows_ok (by omega)) rfl (by omega) ?_
          have nxt := ih2 (s + 1) (sgu σ2 (60 + m) s (nI (plK A a (n - (m + 1) + 1) m s))) (by omega) (fun c hc => by rw [sgu_c hc]; exact hF2 c hc) (fun U hU => ?_)
          · rw [← nI_1 s] at nxt
            exact nxt
          · by_cases z : U = s
            · subst z; rw [sgu_s, show n - (m + 1) + 1 = n - m by omega]
            · rw [sgu_k z]; exact hv U (by omega)
      have at99 : ∀ u : Int32, u = nI (if m = 0 then 1 else 2 ^ jlN A a) → V mX5_find 99 [(0, .ref 57), (1, .ref 1), (2, .int (nI a)), (3, .int (nI n)), (4, .int (nI m))] [.int u] σ1 Q := by
        intro u hu
        subst hu
        refine wpB_sd (stops := [104]) kX5_find 40 _ _ _ _ ?_
        exact inner _ rfl _ 0 σ1 (Nat.zero_add _) (fun _ _ => rfl) (fun U hU => by omega)
      refine ⟨fun g => ?_, fun g => ?_⟩
      · have g : m ≠ 0 := fun q => g (by rw [q]; rfl)
        refine V.take 5 (at99 _ ?_)
        rw [hY.1, one_shl (by omega), if_neg g]
      · have g := (nI_eq (b := 0) (by omega) (by omega)).mp g
        refine V.take 5 (at99 1 ?_)
        rw [if_pos g]; rfl
  -- after the last year
  have r39 : ∀ mm s σ', s + mm = 2 ^ jlN A a → σ' 57 1 = nI (jlN A a) → (∀ i, i < jlN A a → σ' 58 i = nI (jlJ A a i)) → (∀ U, U < s → σ' (60 + n) U = nI 0) → FrC 57 74 σ σ' → V mX5_find 39 [(0, .ref 57), (1, .ref 1), (2, .int (nI a)), (3, .int (nI n)), (4, .int (nI s))] [] σ' Q := by
    intro mm
    induction mm with
    | zero =>
      intro s σ' hs e1 e58 hz hF
      have hs : s = 2 ^ jlN A a := by omega
      refine wpB_sd (stops := [39, 71]) kX5_find 40 _ _ _ _ ?_
      refine br_t (by rw [e1, one_shl (by omega)]; exact nI_le (by omega) (by omega)) ?_
      refine r71 n σ' (Nat.le_refl _) e1 e58 (fun j hj hj2 U hU => ?_) hF _ rfl
      have : j = n := by omega
      subst this
      rw [if_neg (by omega)] at hU
      rw [hz U (by omega), Nat.sub_self]
      rfl
    | succ mm ih =>
      intro s σ' hs e1 e58 hz hF
      refine wpB_sd (stops := [39]) kX5_find 40 _ _ _ _ ?_
      refine br_f (by rw [e1, one_shl (by omega)]; exact nI_ge (by omega) (by omega)) ?_
      refine ⟨aok (n := 13) (j := n) rfl rfl (by omega), ?_⟩
      rw [arw (by omega)]
      refine ast (n := 256) (j := s) (rows_ok (by omega)) rfl (by omega) ?_
      have nxt := ih (s + 1) (sgu σ' (60 + n) s 0) (by omega) (by rw [sgu_c (by omega)]; exact e1) (fun i hi => by rw [sgu_c (by omega)]; exact e58 i hi) (fun U hU => by
        by_cases z : U = s
        · subst z; rw [sgu_s]; rfl
        · rw [sgu_k z]; exact hz U (by omega)) (fun c hc => by rw [sgu_c (by omega)]; exact hF c hc)
      rw [← nI_1 s] at nxt
      exact nxt
  have hh : 0 ≤ nI a ∧ nI a < σ 1 0 := by rw [hC.1.2.1]; exact (ix_iff (by omega)).mpr ⟨_, ha, rfl⟩
  refine wpB_sd (stops := [39]) kX5_find 40 _ _ _ _ ?_
  refine s_hasHouse (Or.inl rfl) ?_
  rw [bI_t hh]
  refine br_f (by decide) ?_
  refine br_f (nI_nlt (a := n) (b := 1) (by omega) (by omega)) ?_
  refine br_t (nI_le (a := n) (b := 12) (by omega) (by omega)) ?_
  refine s_lookAt (r := 58) (Or.inl rfl) hC.1.1 hW.1 (by omega) (fun σ1 hk1 hF1 => ?_)
  refine r39 (2 ^ jlN A a) 0 _ (by omega) ?_ (fun i hi => ?_) (fun U hU => by omega) (fun c hc => ?_)
  · rw [sgu_s]; rfl
  · rw [sgu_c (by omega)]; exact hk1 i hi
  · rw [sgu_c (by omega)]; exact hF1 c (by omega)
def okZ (z : Int32) (n : Nat) : Prop := z = -1 ∨ ix z n
theorem okZ_iff {z : Int32} {n : Nat} (hn : n < 2 ^ 31) : (¬ z < -1 ∧ z < nI n) ↔ okZ z n := by
  constructor
  · intro ⟨h1, h2⟩
    by_cases q : z = -1
    · exact Or.inl q
    · refine Or.inr ((ix_iff hn).mp ⟨?_, h2⟩)
      rw [fa_lt, show ((-1 : Int32)).toInt = -1 by decide] at h1
      rw [fa_eq, show ((-1 : Int32)).toInt = -1 by decide] at q
      rw [fa_le, show ((0 : Int32)).toInt = 0 by decide]
      omega
  · rintro (rfl | q)
    · refine ⟨by decide, ?_⟩
      rw [fa_lt, nI_toInt hn, show ((-1 : Int32)).toInt = -1 by decide]
      omega
    · have := (ix_iff hn).mpr q
      refine ⟨?_, this.2⟩
      have h0 := this.1
      rw [fa_le, show ((0 : Int32)).toInt = 0 by decide] at h0
      rw [fa_lt, show ((-1 : Int32)).toInt = -1 by decide]
      omega
set_option maxRecDepth 100000 in
theorem t_plan {σ : Sg} {A : St} {hg : Nat} {x y z : Int32} {Q : Option Value → Sg → Prop} (hC : CS σ A hg) (hW : WL A) (hu : ¬ ix x (A 12 5) → Q (some (.int UNK)) σ) (ho : ix x (A 12 5) → ¬ (∃ n, 1 ≤ n ∧ n ≤ 12 ∧ y = nI n ∧ okZ z n) → Q (some (.int OUT)) σ) (hm : ∀ a n, a < A 12 5 → 1 ≤ n → n ≤ 12 → x = nI a → y = nI n → z = -1 → ∀ σ', FrC 57 74 σ σ' → Q (some (.int (nI (plK A a n 0 0)))) σ') (hi : ∀ a n k, a < A 12 5 → 1 ≤ n → n ≤ 12 → k < n → x = nI a → y = nI n → z = nI k → ∀ σ', FrC 57 74 σ σ' → Q (some (.int (nI (opB A a n k)))) σ') : MetA mX7_plan [.ref 0, .int x, .int y, .int z] σ Q := by
  refine MetA_of qX7_plan (Nat.le_of_ble_eq_true rfl) ?_
  have h4 := hW.2.1
  have h0 : σ 1 0 = nI (A 12 5) := hC.1.2.1
  have out : ix x (A 12 5) → ¬ (∃ n, 1 ≤ n ∧ n ≤ 12 ∧ y = nI n ∧ okZ z n) → V mX7_plan 35 [(0, .ref 0), (1, .int x), (2, .int y), (3, .int z)] [] σ Q := fun g q => by
    refine wpB_sd (stops := []) kX7_plan 10 _ _ _ _ ?_
    exact ho g q
  refine wpB_sd (stops := [35]) kX7_plan 40 _ _ _ _ ?_
  refine s_hasHouse (Or.inl rfl) ?_
  rw [h0]
  refine ⟨fun g => ?_, fun g => hu (fun q => bI_0.mp g ((ix_iff (by omega)).mpr q))⟩
  have gx := (ix_iff (by omega)).mp (bI_n0 g)
  refine ⟨fun g1 => out gx ?_, fun g1 => ⟨fun g2 => out gx ?_, fun g2 => ⟨fun g3 => out gx ?_, fun g3 => ⟨fun g4 => ?_, fun g4 => out gx ?_⟩⟩⟩⟩
  · rintro ⟨n, a, b, rfl, c⟩
    exact rg_lt (lo := 1) (hi := 12) (by omega) (by omega) g1 ⟨n, a, b, rfl⟩
  · rintro ⟨n, a, b, rfl, c⟩
    exact rg_gt (lo := 1) (hi := 12) (by omega) (by omega) g2 ⟨n, a, b, rfl⟩
  · rintro ⟨n, a, b, rfl, c⟩
    exact ((okZ_iff (by omega)).mpr c).1 g3
  · obtain ⟨n, a1, a2, rfl⟩ := rg_of (lo := 1) (hi := 12) (by omega) (by omega) g1 g2
    obtain ⟨a, ha, rfl⟩ := gx
    have hz := (okZ_iff (by omega)).mp ⟨g3, g4⟩
    refine s_find hC hW ha a1 a2 (fun σ1 hop e7 hF => ?_)
    refine ⟨fun gz => ?_, fun gz => ?_⟩
    · rcases hz with q | ⟨k, hk, rfl⟩
      · exact absurd q gz
      · refine ald (n := 12) (j := k) rfl rfl (by omega) (hop k hk) ?_
        exact hi a n k ha a1 a2 hk rfl rfl rfl σ1 hF
    · have fin := hm a n ha a1 a2 rfl rfl gz σ1 hF
      rw [← e7] at fin
      exact fin
  · rintro ⟨n, a, b, rfl, c⟩
    exact g4 ((okZ_iff (by omega)).mpr c).2
