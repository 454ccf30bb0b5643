/-! told, house, jar, fault, older, write, tear -/
/-- glass and book: fields 0 elder, 1 younger, 2 years, 3 jars; 4: how many of both -/
def RCb (σ : Sg) (B : St) : Prop := σ 81 0 = nI (B 4 0) ∧ (∀ k, k < B 4 0 → σ 82 k = nI (B 0 k) ∧ σ 83 k = nI (B 1 k)) ∧ σ 85 0 = nI (B 4 1) ∧ ∀ k, k < B 4 1 → σ 86 k = nI (B 2 k) ∧ σ 87 k = nI (B 3 k)
def RMb (σ : Sg) (B : St) : Prop := σ 89 24 = nI (B 4 0) ∧ (∀ k, k < B 4 0 → σ 100 k = nI (B 0 k) ∧ σ 101 k = nI (B 1 k)) ∧ σ 89 27 = nI (B 4 1) ∧ ∀ k, k < B 4 1 → σ 102 k = nI (B 2 k) ∧ σ 103 k = nI (B 3 k)
def WB (B : St) : Prop := B 4 0 ≤ 12 ∧ B 4 1 ≤ 30 ∧ (∀ k, k < B 4 0 → B 0 k < 24 ∧ B 1 k < 24) ∧ ∀ k, k < B 4 1 → B 2 k ≤ 9999 ∧ B 3 k < 24
def tldI (A B : St) (hg : Nat) (tl w : Int32) : Int32 :=
  if w.toInt = 0 then nI (A 12 5) else if w.toInt = 1 then nI (A 12 0) else if w.toInt = 2 then tl else if w.toInt = 3 then nI (A 12 1) else if w.toInt = 4 then nI (A 12 3) else if w.toInt = 5 then nI (harvA A (A 12 1)) else if w.toInt = 6 then nI hg else if w.toInt = 7 then nI (bset (A 6) (A 12 0)) else if w.toInt = 8 then nI (B 4 0) else if w.toInt = 9 then nI (B 4 1) else OUT
set_option maxRecDepth 100000 in
theorem t_told {σ : Sg} {A B : St} {hg : Nat} {w : Int32} {Q : Option Value → Sg → Prop} (hC : CS σ A hg) (hW : WL A) (hB : RCb σ B) (h : Q (some (.int (tldI A B hg (σ 55 1) w))) σ) : MetA mX7_told [.ref 0, .int w] σ Q := by
  refine MetA_of qX7_told (Nat.le_of_ble_eq_true rfl) ?_
  refine wpB_sd (stops := []) kX7_told 40 _ _ _ _ ?_
  have hR := hC.1
  have hy := hW.1.2.1
  refine ⟨fun g => ?_, fun g => ?_, fun g => ?_, fun g => ?_, fun g => ?_, fun g => ?_, fun g => ?_, fun g => ?_, fun g => ?_, fun g => ?_, fun g => ?_, trivial⟩
  · refine fin_i h ?_
    unfold tldI
    repeat rw [if_neg (by omega)]
  · exact fin_i h (by rw [tldI, if_pos g]; exact hR.2.1)
  · exact fin_i h (by unfold tldI; repeat rw [if_neg (by omega)]
                      rw [if_pos (by omega)]; exact hR.1.1)
  · exact fin_i h (by unfold tldI; repeat rw [if_neg (by omega)]
                      rw [if_pos (by omega)])
  · exact fin_i h (by unfold tldI; repeat rw [if_neg (by omega)]
                      rw [if_pos (by omega)]; exact hR.2.2.2.1)
  · exact fin_i h (by unfold tldI; repeat rw [if_neg (by omega)]
                      rw [if_pos (by omega)]; exact hR.2.2.2.2.1)
  · refine mAr (by rw [show σ 1 7 = nI (A 12 1) from hR.2.2.2.1]) (s_harvestOf (t := A 12 1) (Or.inl rfl) hR hW (by omega) ?_)
    exact fin_i h (by unfold tldI; repeat rw [if_neg (by omega)]
                      rw [if_pos (by omega)])
  · exact fin_i h (by unfold tldI; repeat rw [if_neg (by omega)]
                      rw [if_pos (by omega)]; exact hC.2)
  · exact fin_i h (by unfold tldI; repeat rw [if_neg (by omega)]
                      rw [if_pos (by omega)]; exact hR.1.2.1)
  · exact fin_i h (by unfold tldI; repeat rw [if_neg (by omega)]
                      rw [if_pos (by omega)]; exact hB.1)
  · exact fin_i h (by unfold tldI; repeat rw [if_neg (by omega)]
                      rw [if_pos (by omega)]; exact hB.2.2.1)
set_option maxRecDepth 100000 in
theorem m_gone {σ : Sg} {A : St} {Q : Option Value → Sg → Prop} (hR : RMr 0 σ A) (hW : WJ A) (h : Q (some (.int (nI (bset (A 6) (A 12 0))))) σ) : MetA mX8_gone [.ref 89] σ Q := by
  refine MetA_of qX8_gone (Nat.le_of_ble_eq_true rfl) ?_
  have hm := hW.1
  have loop : ∀ n i, i + n = A 12 0 → V mX8_gone 4 [(0, .ref 89), (1, .int (nI (bset (A 6) i))), (2, .int (nI i))] [] σ Q := by
    intro n
    induction n with
    | zero =>
      intro i hi
      have hi : i = A 12 0 := by omega
      subst hi
      refine wpB_sd (stops := [4]) kX8_gone 20 _ _ _ _ ?_
      refine ald (n := 800) (j := 0 + 176) rfl rfl (by omega) hR.1 ?_
      exact br_t (nI_le (by omega) (by omega)) h
    | succ n ih =>
      intro i hi
      have ih := ih (i + 1) (by omega)
      have hw6 := (hW.2.2 i (by omega)).2.2.2.2.2.2
      refine wpB_sd (stops := [4]) kX8_gone 60 _ _ _ _ ?_
      refine ald (n := 800) (j := 0 + 176) rfl rfl (by omega) hR.1 ?_
      refine br_f (nI_ge (by omega) (by omega)) ?_
      refine ald (n := 800) (j := 0 + 144 + i) rfl (by simp only [fa_lit, nI_add]) (by omega) (hR.2.2.2.2.1 i (by omega)).2.2.2.2.2.2 ?_
      have e : nI (bset (A 6) i) ||| (nI (A 6 i) <<< (nI i &&& 31)) = nI (bset (A 6) (i + 1)) := by
        by_cases q : A 6 i = 1
        · rw [q]; exact bset_s1 q (by omega)
        · have q0 : A 6 i = 0 := by omega
          rw [q0, bset_s0 q, pk_shlN (n := 0) (nI i &&& 31) i (s_l i (by omega)) (by omega), fa_or]
          simp
      rw [← e, ← nI_1] at ih
      exact ih
  refine wpB_sd (stops := [4]) kX8_gone 20 _ _ _ _ ?_
  exact loop (A 12 0) 0 (by omega)
set_option maxRecDepth 100000 in
theorem u_told {σ : Sg} {A B : St} {hg : Nat} {w : Int32} {Q : Option Value → Sg → Prop} (hC : MR σ A hg) (hW : WL A) (hB : RMb σ B) (h : Q (some (.int (tldI A B hg (σ 89 12) w))) σ) : MetA mX8_told [.ref 89, .int w] σ Q := by
  refine MetA_of qX8_told (Nat.le_of_ble_eq_true rfl) ?_
  refine wpB_sd (stops := []) kX8_told 40 _ _ _ _ ?_
  have hR := hC.1
  have hy := hW.1.2.1
  refine ⟨fun g => ?_, fun g => ?_, fun g => ?_, fun g => ?_, fun g => ?_, fun g => ?_, fun g => ?_, fun g => ?_, fun g => ?_, fun g => ?_, fun g => ?_, trivial⟩
  · refine fin_i h ?_
    unfold tldI
    repeat rw [if_neg (by omega)]
  · exact fin_i h (by rw [tldI, if_pos g]; exact hC.2.1.1)
  · refine ald (n := 800) (j := 0 + 176) rfl rfl (by omega) hR.1 ?_
    exact fin_i h (by unfold tldI; repeat rw [if_neg (by omega)]
                      rw [if_pos (by omega)])
  · exact fin_i h (by unfold tldI; repeat rw [if_neg (by omega)]
                      rw [if_pos (by omega)])
  · refine ald (n := 800) (j := 0 + 177) rfl rfl (by omega) hR.2.1 ?_
    exact fin_i h (by unfold tldI; repeat rw [if_neg (by omega)]
                      rw [if_pos (by omega)])
  · refine ald (n := 800) (j := 0 + 179) rfl rfl (by omega) hR.2.2.1 ?_
    exact fin_i h (by unfold tldI; repeat rw [if_neg (by omega)]
                      rw [if_pos (by omega)])
  · refine ald (n := 800) (j := 0 + 177) rfl rfl (by omega) hR.2.1 ?_
    refine m_harvestOf hC.2.1 hW.2.2.1 (by omega) ?_
    exact fin_i h (by unfold tldI; repeat rw [if_neg (by omega)]
                      rw [if_pos (by omega)])
  · refine ald (n := 800) (j := 178) rfl rfl (by omega) hC.2.2 ?_
    exact fin_i h (by unfold tldI; repeat rw [if_neg (by omega)]
                      rw [if_pos (by omega)])
  · refine m_gone hR hW.1 ?_
    exact fin_i h (by unfold tldI; repeat rw [if_neg (by omega)]
                      rw [if_pos (by omega)])
  · exact fin_i h (by unfold tldI; repeat rw [if_neg (by omega)]
                      rw [if_pos (by omega)]; exact hB.1)
  · exact fin_i h (by unfold tldI; repeat rw [if_neg (by omega)]
                      rw [if_pos (by omega)]; exact hB.2.2.1)
def hseI (A : St) (a : Nat) (w : Int32) : Int32 :=
  if w.toInt = 0 then nI (A 9 a) else if w.toInt = 1 then nI (A 7 a) else if w.toInt = 2 then nI (A 8 a) else if w.toInt = 3 then nI (bset (ofA A a) (A 12 0)) else if w.toInt = 4 then nI (bset (opA A a (A 12 3) (A 12 1)) (A 12 0)) else OUT
set_option maxRecDepth 100000 in
theorem t_house {σ : Sg} {A : St} {hg : Nat} {x w : Int32} {Q : Option Value → Sg → Prop} (hC : CS σ A hg) (hW : WL A) (hu : ¬ ix x (A 12 5) → Q (some (.int UNK)) σ) (h : ∀ a, a < A 12 5 → x = nI a → Q (some (.int (hseI A a w))) σ) : MetA mX7_house [.ref 0, .int x, .int w] σ Q := by
  refine MetA_of qX7_house (Nat.le_of_ble_eq_true rfl) ?_
  refine wpB_sd (stops := []) kX7_house 40 _ _ _ _ ?_
  have hR := hC.1
  have h4 := hW.2.1
  have hy := hW.1.2.1
  refine s_hasHouse (Or.inl rfl) ?_
  refine ⟨fun g => ?_, fun g => hu (fun q => bI_0.mp g (by rw [show σ 1 0 = nI (A 12 5) from hR.2.1]; exact (ix_iff (by omega)).mpr q))⟩
  have hix : ix x (A 12 5) := (ix_iff (by omega)).mp (by have := bI_n0 g; rw [show σ 1 0 = nI (A 12 5) from hR.2.1] at this; exact this)
  obtain ⟨a, ha, rfl⟩ := hix
  have h := h a ha rfl
  have r := hR.2.2.2.2.2.2.1 a ha
  refine ⟨fun g => ?_, fun g => ?_, fun g => ?_, fun g => ?_, fun g => ?_, fun g => ?_, trivial⟩
  · refine fin_i h ?_
    unfold hseI
    repeat rw [if_neg (by omega)]
  · refine ald (n := 4) (j := a) rfl rfl (by omega) r.1 ?_
    exact fin_i h (by rw [hseI, if_pos g])
  · refine ald (n := 4) (j := a) rfl rfl (by omega) r.2.1 ?_
    exact fin_i h (by unfold hseI; repeat rw [if_neg (by omega)]
                      rw [if_pos (by omega)])
  · refine ald (n := 4) (j := a) rfl rfl (by omega) r.2.2 ?_
    exact fin_i h (by unfold hseI; repeat rw [if_neg (by omega)]
                      rw [if_pos (by omega)])
  · refine s_setOf (Or.inl rfl) hR.1 hW.1 (by omega) ?_
    exact fin_i h (by unfold hseI; repeat rw [if_neg (by omega)]
                      rw [if_pos (by omega)])
  · refine mAr (by rw [show σ 1 9 = nI (A 12 3) from hR.2.2.2.2.1, show σ 1 7 = nI (A 12 1) from hR.2.2.2.1]) (s_setToOpen (hh := a) (l := A 12 3) (y := A 12 1) (Or.inl rfl) hR.1 hW.1 (by omega) hW.2.2.2.1 (by omega) ?_)
    exact fin_i h (by unfold hseI; repeat rw [if_neg (by omega)]
                      rw [if_pos (by omega)])
set_option maxRecDepth 100000 in
theorem m_one {σ : Sg} {c : Prop} [Decidable c] {Q : Option Value → Sg → Prop} (h : Q (some (.int (bI c))) σ) : MetA mX8_one [.int (bI c)] σ Q := by
  refine MetA_of qX8_one (Nat.le_of_ble_eq_true rfl) ?_
  refine wpB_sd (stops := []) kX8_one 20 _ _ _ _ ?_
  exact ⟨fun g => fin_i h g.symm, fun g => fin_i h (bI_t (bI_n0 g)).symm⟩
theorem bset_sb {p : Nat → Nat} {i : Nat} {c : Prop} [Decidable c] (hi : i < 31) (h : c ↔ p i = 1) : nI (bset p i) ||| (bI c <<< (nI i &&& 31)) = nI (bset p (i + 1)) := by
  by_cases q : c
  · rw [bI_t q]; exact bset_s1 (h.mp q) hi
  · rw [bI_f q, bset_s0 (fun z => q (h.mpr z)), show (0 : Int32) = nI 0 from rfl, pk_shlN (n := 0) (nI i &&& 31) i (s_l i (by omega)) (by omega), fa_or]
    simp
def joA (A : St) (hh : Nat) (o : Bool) : Nat → Nat := fun j => if (A 1 j = hh ∧ A 6 j = 0) ∧ (o = false ∨ mayB (A 12 3) (A 2 j) (A 12 1) = true) then 1 else 0
set_option maxRecDepth 100000 in
theorem m_jarsOf {σ : Sg} {A : St} {hh : Nat} {o : Bool} {Q : Option Value → Sg → Prop} (hR : RMr 0 σ A) (hW : WJ A) (hl : A 12 3 ≤ 2) (hh4 : hh < 4) (h : Q (some (.int (nI (bset (joA A hh o) (A 12 0))))) σ) : MetA mX8_jarsOf [.ref 89, .int (nI hh), .int (bI (o = true))] σ Q := by
  refine MetA_of qX8_jarsOf (Nat.le_of_ble_eq_true rfl) ?_
  have hm := hW.1
  have hy := hW.2.1
  have loop : ∀ n i, i + n = A 12 0 → V mX8_jarsOf 5 [(0, .ref 89), (1, .int (nI hh)), (2, .int (bI (o = true))), (3, .int (nI (bset (joA A hh o) i))), (4, .int (nI i))] [] σ Q := by
    intro n
    induction n with
    | zero =>
      intro i hi
      have hi : i = A 12 0 := by omega
      subst hi
      refine wpB_sd (stops := [5]) kX8_jarsOf 20 _ _ _ _ ?_
      refine ald (n := 800) (j := 0 + 176) rfl rfl (by omega) hR.1 ?_
      exact br_t (nI_le (by omega) (by omega)) h
    | succ n ih =>
      intro i hi
      have hj : i < A 12 0 := by omega
      have ih := ih (i + 1) (by omega)
      have r := hR.2.2.2.2.1 i hj
      obtain ⟨w0, w1, w2, w3, w4, w5, w6⟩ := hW.2.2 i hj
      have c73 : ∀ (c : Prop) [Decidable c], (c ↔ joA A hh o i = 1) → V mX8_jarsOf 73 [(0, .ref 89), (1, .int (nI hh)), (2, .int (bI (o = true))), (3, .int (nI (bset (joA A hh o) i))), (4, .int (nI i))] [.int (bI c)] σ Q := by
        intro c _ hc
        refine wpB_sd (stops := [5]) kX8_jarsOf 20 _ _ _ _ ?_
        refine m_one ?_
        rw [← bset_sb (by omega) hc, ← nI_1] at ih
        exact V.take 5 ih
      have no : ¬ joA A hh o i = 1 → V mX8_jarsOf 73 [(0, .ref 89), (1, .int (nI hh)), (2, .int (bI (o = true))), (3, .int (nI (bset (joA A hh o) i))), (4, .int (nI i))] [.int 0] σ Q := fun q => c73 False ⟨fun z => z.elim, fun z => absurd z q⟩
      have yes : joA A hh o i = 1 → V mX8_jarsOf 73 [(0, .ref 89), (1, .int (nI hh)), (2, .int (bI (o = true))), (3, .int (nI (bset (joA A hh o) i))), (4, .int (nI i))] [.int 1] σ Q := fun q => c73 True ⟨fun _ => q, fun _ => trivial⟩
      refine wpB_sd (stops := [73]) kX8_jarsOf 60 _ _ _ _ ?_
      refine ald (n := 800) (j := 0 + 176) rfl rfl (by omega) hR.1 ?_
      refine br_f (nI_ge (by omega) (by omega)) ?_
      refine ald (n := 800) (j := 0 + 24 + i) rfl (by simp only [fa_lit, nI_add]) (by omega) r.2.1 ?_
      refine ⟨fun g => ?_, fun g => ?_⟩
      · have g : ¬ A 1 i = hh := fun q => g (by rw [q])
        exact V.take 5 (no (by simp [joA, g]))
      · have g := (nI_eq (by omega) (by omega)).mp g
        refine ald (n := 800) (j := 0 + 144 + i) rfl (by simp only [fa_lit, nI_add]) (by omega) r.2.2.2.2.2.2 ?_
        refine ⟨fun g2 => ?_, fun g2 => ?_⟩
        · have g2 : ¬ A 6 i = 0 := fun q => g2 (by rw [q]; rfl)
          exact V.take 5 (no (by simp [joA, g2]))
        · have g2 : A 6 i = 0 := (nI_eq (b := 0) (by omega) (by omega)).mp g2
          refine ⟨fun g3 => ?_, fun g3 => ?_⟩
          · have g3 := bI_0.mp g3
            exact V.take 5 (yes (by simp [joA, g, g2]; exact fun z => absurd z g3))
          · have g3 := bI_n0 g3
            refine ald (n := 800) (j := 0 + 177) rfl rfl (by omega) hR.2.1 ?_
            refine m_may (x := 0) (by omega) hR hW hl hj (by omega) ?_
            refine ⟨fun g4 => ?_, fun g4 => ?_⟩
            · have g4 := bI_0.mp g4
              exact V.take 5 (no (by simp only [joA, g3]; intro z; apply g4; by_cases q : mayB (A 12 3) (A 2 i) (A 12 1) = true
                                     · exact ⟨g2, q⟩
                                     · simp [q] at z))
            · have g4 := bI_n0 g4
              exact V.take 5 (yes (by simp [joA, g, g2, g4.2]))
  refine wpB_sd (stops := [5]) kX8_jarsOf 20 _ _ _ _ ?_
  exact loop (A 12 0) 0 (by omega)
set_option maxRecDepth 100000 in
theorem u_house {σ : Sg} {A : St} {hg : Nat} {x w : Int32} {Q : Option Value → Sg → Prop} (hC : MR σ A hg) (hW : WL A) (hu : ¬ ix x (A 12 5) → Q (some (.int UNK)) σ) (h : ∀ a, a < A 12 5 → x = nI a → Q (some (.int (hseI A a w))) σ) : MetA mX8_house [.ref 89, .int x, .int w] σ Q := by
  refine MetA_of qX8_house (Nat.le_of_ble_eq_true rfl) ?_
  refine wpB_sd (stops := []) kX8_house 40 _ _ _ _ ?_
  have hR := hC.1
  have h4 := hW.2.1
  refine m_isHouse hC.2.1 h4 ?_
  refine ⟨fun g => ?_, fun g => hu (fun q => bI_0.mp g ((ix_iff (by omega)).mpr q))⟩
  obtain ⟨a, ha, rfl⟩ := (ix_iff (by omega)).mp (bI_n0 g)
  have h := h a ha rfl
  have r := hR.2.2.2.2.2 a ha
  refine ⟨fun g => ?_, fun g => ?_, fun g => ?_, fun g => ?_, fun g => ?_, fun g => ?_, trivial⟩
  · refine fin_i h ?_
    unfold hseI
    repeat rw [if_neg (by omega)]
  · refine ald (n := 8) (j := a) rfl rfl (by omega) (hC.2.1.2.1 a ha) ?_
    exact fin_i h (by rw [hseI, if_pos g])
  · refine ald (n := 800) (j := 0 + 168 + a) rfl (by simp only [fa_lit, nI_add]) (by omega) r.1 ?_
    exact fin_i h (by unfold hseI; repeat rw [if_neg (by omega)]
                      rw [if_pos (by omega)])
  · refine ald (n := 800) (j := 0 + 172 + a) rfl (by simp only [fa_lit, nI_add]) (by omega) r.2 ?_
    exact fin_i h (by unfold hseI; repeat rw [if_neg (by omega)]
                      rw [if_pos (by omega)])
  · refine mAr (by rfl) (m_jarsOf (hh := a) (o := false) hR hW.1 hW.2.2.2.1 (by omega) ?_)
    refine fin_i h (by unfold hseI; repeat rw [if_neg (by omega)]
                       rw [if_pos (by omega)]; congr 1; apply bset_congr; intro k _; simp [joA, ofA])
  · refine mAr (by rfl) (m_jarsOf (hh := a) (o := true) hR hW.1 hW.2.2.2.1 (by omega) ?_)
    refine fin_i h (by unfold hseI; repeat rw [if_neg (by omega)]
                       rw [if_pos (by omega)]; congr 1; apply bset_congr; intro k _; simp [joA, opA])
