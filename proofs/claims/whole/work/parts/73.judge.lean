/-! judge -/
def JM (A B : St) (i : Nat) : Prop := B 3 i < A 12 0 ∧ mayB (A 12 3) (A 2 (B 3 i)) (B 2 i) = true
def JG (B : St) (i m : Nat) : Prop := ∃ k, k < m ∧ B 3 k = B 3 i
def JK (B : St) (i : Nat) : Prop := 0 < i ∧ B 2 i < B 2 (i - 1)
def JW (A B : St) (i : Nat) : Prop := ¬ JM A B i ∨ JG B i i ∨ JK B i
def IsJ (A B : St) (r : Int32) : Prop := (∃ i, i < B 4 1 ∧ JW A B i ∧ (∀ k, k < i → ¬ JW A B k) ∧ r = nI i) ∨ ((∀ i, i < B 4 1 → ¬ JW A B i) ∧ r = -1)
theorem IsJ_one {A B : St} {r s : Int32} (hr : IsJ A B r) (hs : IsJ A B s) : r = s := by
  rcases hr with ⟨i, h1, h2, h3, h4⟩ | ⟨h1, h2⟩ <;> rcases hs with ⟨j, g1, g2, g3, g4⟩ | ⟨g1, g2⟩
  · rcases Nat.lt_trichotomy i j with q | q | q
    · exact absurd h2 (g3 i q)
    · rw [h4, g4, q]
    · exact absurd g2 (h3 j q)
  · exact absurd h2 (g1 i h1)
  · exact absurd g2 (h1 j g1)
  · rw [h2, g2]
theorem s_mayBeN {σ : Sg} {A : St} {b j : Nat} {l y : Int32} {Q : Option Value → Sg → Prop} (hb : b = 7) (hR : RCel b σ A) (hW : WJ A) (hj : A 12 0 ≤ j) (hj2 : j < 2 ^ 31) (h : Q (some (.int 0)) σ) : MetA mX1_mayBeOpened [.ref b, .int (nI j), .int l, .int y] σ Q := by
  subst hb
  refine MetA_of qX1_mayBeOpened (Nat.le_of_ble_eq_true rfl) ?_
  refine wpB_sd (stops := []) kX1_mayBeOpened 60 _ _ _ _ ?_
  have hm := hW.1
  refine s_has (Or.inl rfl) ?_
  rw [hR.1, bI_f (fun q => nI_nlt hj (by omega) q.2)]
  refine bn_t (by decide) ?_
  exact ⟨Or.inl rfl, h⟩
theorem or_bit {s j : Nat} (hj : j < 31) : nI s ||| ((1 : Int32) <<< (nI j &&& 31)) = nI (s ||| 2 ^ j) := by rw [one_shl hj, fa_or]
set_option maxRecDepth 100000 in
set_option maxHeartbeats 1000000 in
theorem s_firstWrong {σ : Sg} {A B : St} {Q : Option Value → Sg → Prop} (hR : RCel 7 σ A) (hW : WL A) (hB : RCb σ B) (hWB : WB B) (h : ∀ r, IsJ A B r → Q (some (.int r)) σ) : MetA mX0_firstWrong [.ref 85, .ref 7, .int (nI (A 12 3))] σ Q := by
  refine MetA_of qX0_firstWrong (Nat.le_of_ble_eq_true rfl) ?_
  have hB1 := hWB.2.1
  have hl := hW.2.2.2.1
  have loop : ∀ m i s, i + m = B 4 1 → s < 2 ^ 24 → (∀ j, s.testBit j = true ↔ ∃ k, k < i ∧ B 3 k = j) → (∀ k, k < i → ¬ JW A B k) → V mX0_firstWrong 5 [(0, .ref 85), (1, .ref 7), (2, .int (nI (A 12 3))), (3, .int (nI s)), (4, .int (nI i))] [] σ Q := by
    intro m
    induction m with
    | zero =>
      intro i s hi hs hb hn
      have hi : i = B 4 1 := by omega
      subst hi
      refine wpB_sd (stops := [5]) kX0_firstWrong 30 _ _ _ _ ?_
      refine br_t (by rw [hB.2.2.1]; exact nI_le (by omega) (by omega)) ?_
      exact h _ (Or.inr ⟨hn, rfl⟩)
    | succ m ih =>
      intro i s hi hs hb hn
      have hw3 := (hWB.2.2.2 i (by omega)).2
      have hw2 := (hWB.2.2.2 i (by omega)).1
      have hy := (hB.2.2.2 i (by omega)).1
      have hj := (hB.2.2.2 i (by omega)).2
      have at87 : ∀ u6 u7 u8 : Int32, (u6 = 0 ↔ ¬ JM A B i) → (u7 = 0 ↔ ¬ JG B i i) → (u8 = 0 ↔ ¬ JK B i) → V mX0_firstWrong 85 [(0, .ref 85), (1, .ref 7), (2, .int (nI (A 12 3))), (3, .int (nI s)), (4, .int (nI i)), (5, .int (nI (B 3 i))), (6, .int u6), (7, .int u7)] [.int u8] σ Q := by
        intro u6 u7 u8 h6 h7 h8
        have bad : JW A B i → Q (some (.int (nI i))) σ := fun q => h _ (Or.inl ⟨i, by omega, q, hn, rfl⟩)
        refine wpB_sd (stops := [5]) kX0_firstWrong 40 _ _ _ _ ?_
        refine ⟨fun g => bad (Or.inl (h6.mp g)), fun g6 => ⟨fun g => bad ?_, fun g7 => ⟨fun g8 => ?_, fun g => bad ?_⟩⟩⟩
        · exact Or.inr (Or.inl (Classical.byContradiction fun q => g (h7.mpr q)))
        · have nxt := ih (i + 1) (s ||| 2 ^ (B 3 i)) (by omega) (Nat.or_lt_two_pow hs (Nat.pow_lt_pow_right (by omega) hw3)) (fun j => ?_) (fun k hk => ?_)
          · rw [← nI_1, ← or_bit (by omega)] at nxt
            exact V.take 5 nxt
          · rw [fb_bit_set, Bool.or_eq_true, decide_eq_true_eq, hb j]
            constructor
            · rintro (⟨k, a, b⟩ | q)
              · exact ⟨k, by omega, b⟩
              · exact ⟨i, by omega, q.symm⟩
            · rintro ⟨k, a, b⟩
              by_cases q : k = i
              · subst q; exact Or.inr b.symm
              · exact Or.inl ⟨k, by omega, b⟩
          · by_cases q : k = i
            · subst q
              rintro (z | z | z)
              · exact g6 (h6.mpr z)
              · exact h7.mp g7 z
              · exact h8.mp g8 z
            · exact hn k (by omega)
        · exact Or.inr (Or.inr (Classical.byContradiction fun q => g (h8.mpr q)))
      have at54 : ∀ u6 u7 : Int32, (u6 = 0 ↔ ¬ JM A B i) → (u7 = 0 ↔ ¬ JG B i i) → V mX0_firstWrong 54 [(0, .ref 85), (1, .ref 7), (2, .int (nI (A 12 3))), (3, .int (nI s)), (4, .int (nI i)), (5, .int (nI (B 3 i))), (6, .int u6)] [.int u7] σ Q := by
        intro u6 u7 h6 h7
        refine wpB_sd (stops := [85]) kX0_firstWrong 40 _ _ _ _ ?_
        refine ⟨fun g => ?_, fun g => ?_⟩
        · have g := (nI_leI (b := 0) (by omega) (by omega)).mp g
          exact at87 u6 u7 0 h6 h7 ⟨fun _ q => by have := q.1; omega, fun _ => rfl⟩
        · have g0 : 0 < i := Nat.pos_of_ne_zero (fun q => g (by rw [q]; decide))
          have hy1 := (hB.2.2.2 (i - 1) (by omega)).1
          have hw1 := (hWB.2.2.2 (i - 1) (by omega)).1
          refine ald (n := 30) (j := i) rfl rfl (by omega) hy ?_
          refine ald (n := 30) (j := i - 1) rfl (by rw [← pk_sub g0]; rfl) (by omega) hy1 ?_
          refine ⟨fun g => ?_, fun g => ?_⟩
          · have g := (nI_leI (by omega) (by omega)).mp g
            exact at87 u6 u7 0 h6 h7 ⟨fun _ q => by have := q.2; omega, fun _ => rfl⟩
          · have g : ¬ B 2 (i - 1) ≤ B 2 i := fun q => g (nI_le q (by omega))
            exact at87 u6 u7 1 h6 h7 ⟨fun q => absurd q (by decide), fun q => absurd ⟨g0, by omega⟩ q⟩
      have at39 : ∀ u6 : Int32, (u6 = 0 ↔ ¬ JM A B i) → V mX0_firstWrong 37 [(0, .ref 85), (1, .ref 7), (2, .int (nI (A 12 3))), (3, .int (nI s)), (4, .int (nI i)), (5, .int (nI (B 3 i)))] [.int u6] σ Q := by
        intro u6 h6
        have hbit := gbit1 (n := s) (j := B 3 i) (by omega) (by omega)
        refine wpB_sd (stops := [54]) kX0_firstWrong 40 _ _ _ _ ?_
        refine ⟨fun g => ?_, fun g => ?_⟩
        · exact at54 u6 0 h6 ⟨fun _ q => g (hbit.mpr ((hb _).mpr q)), fun _ => rfl⟩
        · exact at54 u6 1 h6 ⟨fun q => absurd q (by decide), fun q => absurd ((hb _).mp (hbit.mp g)) q⟩
      refine wpB_sd (stops := [37]) kX0_firstWrong 40 _ _ _ _ ?_
      refine br_f (by rw [hB.2.2.1]; exact nI_ge (by omega) (by omega)) ?_
      refine ald (n := 30) (j := i) rfl rfl (by omega) hj ?_
      refine ald (n := 30) (j := i) rfl rfl (by omega) hy ?_
      by_cases q : B 3 i < A 12 0
      · refine s_mayBe (Or.inl rfl) hR hW.1 q (by omega) hl ?_
        exact V.take 6 (at39 _ (by rw [bI_0]; exact ⟨fun z w => z w.2, fun z w => z ⟨q, w⟩⟩))
      · refine s_mayBeN rfl hR hW.1 (by omega) (by omega) ?_
        exact V.take 6 (at39 0 ⟨fun _ z => q z.1, fun _ => rfl⟩)
  refine wpB_sd (stops := [5]) kX0_firstWrong 40 _ _ _ _ ?_
  exact loop (B 4 1) 0 0 (by omega) (by omega) (fun j => by rw [Nat.zero_testBit]; exact ⟨fun q => absurd q (by decide), fun ⟨k, a, _⟩ => by omega⟩) (fun k hk => by omega)
set_option maxRecDepth 100000 in
theorem t_judge {σ : Sg} {A B : St} {hg : Nat} {Q : Option Value → Sg → Prop} (hC : CS σ A hg) (hW : WL A) (hB : RCb σ B) (hWB : WB B) (h : ∀ r, IsJ A B r → Q (some (.int r)) σ) : MetA mX7_judge [.ref 0] σ Q := by
  refine MetA_of qX7_judge (Nat.le_of_ble_eq_true rfl) ?_
  refine wpB_sd (stops := []) kX7_judge 40 _ _ _ _ ?_
  refine mAr (by rw [hC.1.2.2.2.2.1]) (s_firstWrong hC.1.1 hW hB hWB h)
set_option maxRecDepth 100000 in
set_option maxHeartbeats 1000000 in
theorem u_judge {σ : Sg} {A B : St} {hg : Nat} {Q : Option Value → Sg → Prop} (hC : MR σ A hg) (hW : WL A) (hB : RMb σ B) (hWB : WB B) (h : ∀ r, IsJ A B r → Q (some (.int r)) σ) : MetA mX8_judge [.ref 89] σ Q := by
  refine MetA_of qX8_judge (Nat.le_of_ble_eq_true rfl) ?_
  have hB1 := hWB.2.1
  have hl := hW.2.2.2.1
  have h24 := hW.1.1
  have loop : ∀ m i, i + m = B 4 1 → (∀ k, k < i → ¬ JW A B k) → V mX8_judge 2 [(0, .ref 89), (1, .int (nI i))] [] σ Q := by
    intro m
    induction m with
    | zero =>
      intro i hi hn
      have hi : i = B 4 1 := by omega
      subst hi
      refine wpB_sd (stops := [2]) kX8_judge 30 _ _ _ _ ?_
      refine br_t (by rw [hB.2.2.1]; exact nI_le (by omega) (by omega)) ?_
      exact h _ (Or.inr ⟨hn, rfl⟩)
    | succ m ih =>
      intro i hi hn
      have hw3 := (hWB.2.2.2 i (by omega)).2
      have hw2 := (hWB.2.2.2 i (by omega)).1
      have hy := (hB.2.2.2 i (by omega)).1
      have hj := (hB.2.2.2 i (by omega)).2
      have at103 : ∀ u : Int32, (u = 0 ↔ ¬ JW A B i) → V mX8_judge 103 [(0, .ref 89), (1, .int (nI i)), (2, .int (nI (B 3 i))), (3, .int u)] [] σ Q := by
        intro u hu
        refine wpB_sd (stops := [2]) kX8_judge 30 _ _ _ _ ?_
        refine ⟨fun g => ?_, fun g => ?_⟩
        · have nxt := ih (i + 1) (by omega) (fun k hk => by
            by_cases q : k = i
            · subst q; exact hu.mp g
            · exact hn k (by omega))
          rw [← nI_1] at nxt
          exact V.take 2 nxt
        · exact h _ (Or.inl ⟨i, by omega, Classical.byContradiction fun q => g (hu.mpr q), hn, rfl⟩)
      have inner : ∀ mm k (u : Int32), k + mm = i → (u = 0 ↔ ¬ (¬ JM A B i ∨ JG B i k ∨ JK B i)) → V mX8_judge 70 [(0, .ref 89), (1, .int (nI i)), (2, .int (nI (B 3 i))), (3, .int u), (4, .int (nI k))] [] σ Q := by
        intro mm
        induction mm with
        | zero =>
          intro k u hk hu
          have hk : k = i := by omega
          subst hk
          refine wpB_sd (stops := [70, 103]) kX8_judge 30 _ _ _ _ ?_
          refine br_t (nI_le (by omega) (by omega)) ?_
          exact V.take 4 (at103 u hu)
        | succ mm ih2 =>
          intro k u hk hu
          have hjk := (hB.2.2.2 k (by omega)).2
          have hwk := (hWB.2.2.2 k (by omega)).2
          have go : ∀ u' : Int32, (u' = 0 ↔ ¬ (¬ JM A B i ∨ JG B i (k + 1) ∨ JK B i)) → V mX8_judge 96 [(0, .ref 89), (1, .int (nI i)), (2, .int (nI (B 3 i))), (3, .int u), (4, .int (nI k))] [.int u'] σ Q := by
            intro u' hu'
            refine wpB_sd (stops := [70]) kX8_judge 30 _ _ _ _ ?_
            have nxt := ih2 (k + 1) u' (by omega) hu'
            rw [← nI_1] at nxt
            exact nxt
          refine wpB_sd (stops := [70, 96]) kX8_judge 30 _ _ _ _ ?_
          refine br_f (nI_ge (by omega) (by omega)) ?_
          refine ⟨fun g => go 1 ⟨fun q => absurd q (by decide), fun q => ?_⟩, fun g => ?_⟩
          · refine absurd (hu.mpr (fun z => q ?_)) g
            rcases z with z | ⟨k', a, b⟩ | z
            · exact Or.inl z
            · exact Or.inr (Or.inl ⟨k', by omega, b⟩)
            · exact Or.inr (Or.inr z)
          · refine ald (n := 30) (j := k) rfl rfl (by omega) hjk ?_
            refine ⟨fun g2 => go 0 ⟨fun _ z => hu.mp g ?_, fun _ => rfl⟩, fun g2 => go 1 ⟨fun q => absurd q (by decide), fun q => absurd (Or.inr (Or.inl ⟨k, by omega, (nI_eq (by omega) (by omega)).mp g2⟩)) q⟩⟩
            rcases z with z | ⟨k', a, b⟩ | z
            · exact Or.inl z
            · refine Or.inr (Or.inl ⟨k', ?_, b⟩)
              have : k' ≠ k := fun e => g2 (by rw [← e, b])
              omega
            · exact Or.inr (Or.inr z)
      have at66 : ∀ u : Int32, (u = 0 ↔ ¬ (¬ JM A B i ∨ JK B i)) → V mX8_judge 66 [(0, .ref 89), (1, .int (nI i)), (2, .int (nI (B 3 i)))] [.int u] σ Q := by
        intro u hu
        refine wpB_sd (stops := [70]) kX8_judge 30 _ _ _ _ ?_
        refine inner i 0 u (by omega) (hu.trans ⟨fun z w => z ?_, fun z w => z ?_⟩)
        · rcases w with w | ⟨k, a, _⟩ | w
          · exact Or.inl w
          · omega
          · exact Or.inr w
        · rcases w with w | w
          · exact Or.inl w
          · exact Or.inr (Or.inr w)
      have yes : (¬ JM A B i ∨ JK B i) → V mX8_judge 61 [(0, .ref 89), (1, .int (nI i)), (2, .int (nI (B 3 i)))] [] σ Q := fun q => by
        refine wpB_sd (stops := [66]) kX8_judge 30 _ _ _ _ ?_
        exact at66 1 ⟨fun z => absurd z (by decide), fun z => absurd q z⟩
      have no : ¬ (¬ JM A B i ∨ JK B i) → V mX8_judge 65 [(0, .ref 89), (1, .int (nI i)), (2, .int (nI (B 3 i)))] [] σ Q := fun q => by
        refine wpB_sd (stops := [66]) kX8_judge 30 _ _ _ _ ?_
        exact at66 0 ⟨fun _ => q, fun _ => rfl⟩
      refine wpB_sd (stops := [61, 65]) kX8_judge 40 _ _ _ _ ?_
      refine br_f (by rw [hB.2.2.1]; exact nI_ge (by omega) (by omega)) ?_
      refine ald (n := 30) (j := i) rfl rfl (by omega) hj ?_
      refine m_isJar hC.1 h24 ?_
      refine ⟨fun g => V.take 3 (yes (Or.inl (fun q => bI_0.mp g ((ix_iff (by omega)).mpr ⟨_, q.1, rfl⟩)))), fun g => ?_⟩
      have g1 : B 3 i < A 12 0 := (nI_ltI (by omega) (by omega)).mp (bI_n0 g).2
      refine ald (n := 30) (j := i) rfl rfl (by omega) hy ?_
      refine mAr (by rfl) (m_mayBe (x := 0) (by omega) hC.1 hW.1 hl g1 (by omega) ?_)
      refine ⟨fun g => V.take 3 (yes (Or.inl (fun q => bI_0.mp g q.2))), fun g => ?_⟩
      have hM : JM A B i := ⟨g1, bI_n0 g⟩
      refine ⟨fun g => ?_, fun g => ?_⟩
      · have g := (nI_leI (b := 0) (by omega) (by omega)).mp g
        exact V.take 3 (no (fun q => q.elim (fun z => z hM) (fun z => by have := z.1; omega)))
      · have g0 : 0 < i := Nat.pos_of_ne_zero (fun q => g (by rw [q]; decide))
        have hy1 := (hB.2.2.2 (i - 1) (by omega)).1
        have hw1 := (hWB.2.2.2 (i - 1) (by omega)).1
        refine ald (n := 30) (j := i) rfl rfl (by omega) hy ?_
        refine ald (n := 30) (j := i - 1) rfl (by rw [← pk_sub g0]; rfl) (by omega) hy1 ?_
        refine ⟨fun g => ?_, fun g => ?_⟩
        · have g := (nI_leI (by omega) (by omega)).mp g
          exact V.take 3 (no (fun q => q.elim (fun z => z hM) (fun z => by have := z.2; omega)))
        · have g : ¬ B 2 (i - 1) ≤ B 2 i := fun q => g (nI_le q (by omega))
          exact V.take 3 (yes (Or.inr ⟨g0, by omega⟩))
  refine wpB_sd (stops := [2]) kX8_judge 40 _ _ _ _ ?_
  exact loop (B 4 1) 0 (by omega) (fun k hk => by omega)
