/-! jar, fault, older, write, tear, keep, goBack -/
def jarI (A : St) (a : Nat) (w : Int32) : Int32 :=
  if w.toInt = 0 then nI (A 0 a) else if w.toInt = 1 then nI (A 1 a) else if w.toInt = 2 then nI (A 2 a) else if w.toInt = 3 then nI (A 3 a) else if w.toInt = 4 then nI (A 4 a) else if w.toInt = 5 then nI (A 12 1 - A 5 a) else if w.toInt = 6 then nI (filA A a (A 12 1)) else if w.toInt = 7 then nI (A 6 a) else OUT
set_option maxRecDepth 100000 in
theorem t_jar {σ : Sg} {A : St} {hg : Nat} {x w : Int32} {Q : Option Value → Sg → Prop} (hC : CS σ A hg) (hW : WL A) (hu : ¬ ix x (A 12 0) → Q (some (.int UNK)) σ) (h : ∀ a, a < A 12 0 → x = nI a → Q (some (.int (jarI A a w))) σ) : MetA mX7_jar [.ref 0, .int x, .int w] σ Q := by
  refine MetA_of qX7_jar (Nat.le_of_ble_eq_true rfl) ?_
  refine wpB_sd (stops := []) kX7_jar 40 _ _ _ _ ?_
  have hR := hC.1
  have h24 := hW.1.1
  have hy := hW.1.2.1
  have hj0 : σ 7 0 = nI (A 12 0) := hR.1.1
  refine s_has (Or.inl rfl) ?_
  refine ⟨fun g => ?_, fun g => hu (fun q => bI_0.mp g (by rw [hj0]; exact (ix_iff (by omega)).mpr q))⟩
  have hix : ix x (A 12 0) := (ix_iff (by omega)).mp (by have := bI_n0 g; rw [hj0] at this; exact this)
  obtain ⟨a, ha, rfl⟩ := hix
  have h := h a ha rfl
  have r := hR.1.2.2 a ha
  have w6 := (hW.1.2.2 a ha).2.2.2.2.2.2
  refine ⟨fun g => ?_, fun g => ?_, fun g => ?_, fun g => ?_, fun g => ?_, fun g => ?_, fun g => ?_, fun g => ?_, fun g => ?_, trivial⟩
  · refine fin_i h ?_
    unfold jarI
    repeat rw [if_neg (by omega)]
  · refine ald (n := 24) (j := a) rfl rfl (by omega) r.1 ?_
    exact fin_i h (by rw [jarI, if_pos g])
  · refine ald (n := 24) (j := a) rfl rfl (by omega) r.2.1 ?_
    exact fin_i h (by unfold jarI; repeat rw [if_neg (by omega)]
                      rw [if_pos (by omega)])
  · refine ald (n := 24) (j := a) rfl rfl (by omega) r.2.2.1 ?_
    exact fin_i h (by unfold jarI; repeat rw [if_neg (by omega)]
                      rw [if_pos (by omega)])
  · refine ald (n := 24) (j := a) rfl rfl (by omega) r.2.2.2.1 ?_
    exact fin_i h (by unfold jarI; repeat rw [if_neg (by omega)]
                      rw [if_pos (by omega)])
  · refine ald (n := 24) (j := a) rfl rfl (by omega) r.2.2.2.2.1 ?_
    exact fin_i h (by unfold jarI; repeat rw [if_neg (by omega)]
                      rw [if_pos (by omega)])
  · refine mAr (by rw [show σ 1 7 = nI (A 12 1) from hR.2.2.2.1]) (s_ageOf (y := A 12 1) (Or.inl rfl) hR.1 hW.1 ha (Nat.le_refl _) ?_)
    exact fin_i h (by unfold jarI; repeat rw [if_neg (by omega)]
                      rw [if_pos (by omega)])
  · refine mAr (by rw [show σ 1 7 = nI (A 12 1) from hR.2.2.2.1]) (s_filledIn (y := A 12 1) (Or.inl rfl) hR.1 hW.1 ha (Nat.le_refl _) (by omega) ?_)
    exact fin_i h (by unfold jarI; repeat rw [if_neg (by omega)]
                      rw [if_pos (by omega)])
  · refine s_isGone (Or.inl rfl) hR.1 hW.1 ha ?_
    have e7 : jarI A a w = nI (A 6 a) := by
      unfold jarI; repeat rw [if_neg (by omega)]
      rw [if_pos (by omega)]
    refine ⟨fun g2 => fin_i h ?_, fun g2 => fin_i h ?_⟩
    · have := bI_0.mp g2
      rw [e7, show A 6 a = 0 by omega]; rfl
    · have := bI_n0 g2
      rw [e7, this]; rfl
set_option maxRecDepth 100000 in
theorem u_jar {σ : Sg} {A : St} {hg : Nat} {x w : Int32} {Q : Option Value → Sg → Prop} (hC : MR σ A hg) (hW : WL A) (hu : ¬ ix x (A 12 0) → Q (some (.int UNK)) σ) (h : ∀ a, a < A 12 0 → x = nI a → Q (some (.int (jarI A a w))) σ) : MetA mX8_jar [.ref 89, .int x, .int w] σ Q := by
  refine MetA_of qX8_jar (Nat.le_of_ble_eq_true rfl) ?_
  refine wpB_sd (stops := []) kX8_jar 40 _ _ _ _ ?_
  have hR := hC.1
  have h24 := hW.1.1
  have hy := hW.1.2.1
  refine m_isJar hR h24 ?_
  refine ⟨fun g => ?_, fun g => hu (fun q => bI_0.mp g ((ix_iff (by omega)).mpr q))⟩
  obtain ⟨a, ha, rfl⟩ := (ix_iff (by omega)).mp (bI_n0 g)
  have h := h a ha rfl
  obtain ⟨r0, r1, r2, r3, r4, r5, r6⟩ := hR.2.2.2.2.1 a ha
  have w5 := (hW.1.2.2 a ha).2.2.2.2.2.1
  refine ⟨fun g => ?_, fun g => ?_, fun g => ?_, fun g => ?_, fun g => ?_, fun g => ?_, fun g => ?_, fun g => ?_, fun g => ?_, trivial⟩
  · refine fin_i h ?_
    unfold jarI
    repeat rw [if_neg (by omega)]
  · refine ald (n := 800) (j := 0 + a) rfl (by rw [Nat.zero_add]) (by omega) r0 ?_
    exact fin_i h (by rw [jarI, if_pos g])
  · refine ald (n := 800) (j := 0 + 24 + a) rfl (by simp only [fa_lit, nI_add]) (by omega) r1 ?_
    exact fin_i h (by unfold jarI; repeat rw [if_neg (by omega)]
                      rw [if_pos (by omega)])
  · refine ald (n := 800) (j := 0 + 48 + a) rfl (by simp only [fa_lit, nI_add]) (by omega) r2 ?_
    exact fin_i h (by unfold jarI; repeat rw [if_neg (by omega)]
                      rw [if_pos (by omega)])
  · refine ald (n := 800) (j := 0 + 72 + a) rfl (by simp only [fa_lit, nI_add]) (by omega) r3 ?_
    exact fin_i h (by unfold jarI; repeat rw [if_neg (by omega)]
                      rw [if_pos (by omega)])
  · refine ald (n := 800) (j := 0 + 96 + a) rfl (by simp only [fa_lit, nI_add]) (by omega) r4 ?_
    exact fin_i h (by unfold jarI; repeat rw [if_neg (by omega)]
                      rw [if_pos (by omega)])
  · refine ald (n := 800) (j := 0 + 177) rfl rfl (by omega) hR.2.1 ?_
    refine ald (n := 800) (j := 0 + 120 + a) rfl (by simp only [fa_lit, nI_add]) (by omega) r5 ?_
    exact fin_i h (by unfold jarI; repeat rw [if_neg (by omega)]
                      rw [if_pos (by omega), pk_sub w5])
  · refine ald (n := 800) (j := 0 + 177) rfl rfl (by omega) hR.2.1 ?_
    refine m_filled (x := 0) (by omega) hR hW.1 ha (Nat.le_refl _) (by omega) ?_
    exact fin_i h (by unfold jarI; repeat rw [if_neg (by omega)]
                      rw [if_pos (by omega)])
  · refine ald (n := 800) (j := 0 + 144 + a) rfl (by simp only [fa_lit, nI_add]) (by omega) r6 ?_
    exact fin_i h (by unfold jarI; repeat rw [if_neg (by omega)]
                      rw [if_pos (by omega)])
theorem t_fault {σ : Sg} {Q : Option Value → Sg → Prop} (h : Q (some (.int (σ 55 4))) σ) : MetA mX7_fault [.ref 0] σ Q := by
  refine MetA_of qX7_fault (Nat.le_of_ble_eq_true rfl) ?_
  refine wpB_sd (stops := []) kX7_fault 20 _ _ _ _ ?_
  exact h
theorem u_fault {σ : Sg} {Q : Option Value → Sg → Prop} (h : Q (some (.int (σ 89 17))) σ) : MetA mX8_fault [.ref 89] σ Q := by
  refine MetA_of qX8_fault (Nat.le_of_ble_eq_true rfl) ?_
  refine wpB_sd (stops := []) kX8_fault 20 _ _ _ _ ?_
  exact h
def FrB (σ σ' : Sg) : Prop := ∀ c, ¬ (81 ≤ c ∧ c ≤ 87) → σ' c = σ c
def FrN (σ σ' : Sg) : Prop := (∀ c, c ≠ 89 → ¬ (100 ≤ c ∧ c ≤ 103) → σ' c = σ c) ∧ ∀ k, k ≠ 24 → k ≠ 27 → σ' 89 k = σ 89 k
def glsA (B : St) (a b : Nat) : St := stu (stu (stu B 0 (B 4 0) a) 1 (B 4 0) b) 4 0 (B 4 0 + 1)
def bokA (B : St) (y j : Nat) : St := stu (stu (stu B 2 (B 4 1) y) 3 (B 4 1) j) 4 1 (B 4 1 + 1)
theorem glsA_c {B : St} {a b : Nat} : glsA B a b 4 0 = B 4 0 + 1 := stu_s
theorem glsA_c1 {B : St} {a b : Nat} : glsA B a b 4 1 = B 4 1 := by unfold glsA; rw [stu_k (by omega), stu_f (by omega), stu_f (by omega)]
theorem bokA_c {B : St} {a b : Nat} : bokA B a b 4 1 = B 4 1 + 1 := stu_s
theorem bokA_c0 {B : St} {a b : Nat} : bokA B a b 4 0 = B 4 0 := by unfold bokA; rw [stu_k (by omega), stu_f (by omega), stu_f (by omega)]
set_option maxRecDepth 100000 in
theorem t_older {σ : Sg} {A B : St} {hg : Nat} {x y : Int32} {Q : Option Value → Sg → Prop} (hC : CS σ A hg) (hW : WL A) (hB : RCb σ B) (hWB : WB B) (hu : ¬ (ix x (A 12 0) ∧ ix y (A 12 0) ∧ x ≠ y) → Q (some (.int UNK)) σ) (hf : (ix x (A 12 0) ∧ ix y (A 12 0) ∧ x ≠ y) → B 4 0 = 12 → Q (some (.int FUL)) σ) (h : ∀ a b, a < A 12 0 → b < A 12 0 → x = nI a → y = nI b → x ≠ y → B 4 0 < 12 → ∀ σ', RCb σ' (glsA B a b) → FrB σ σ' → Q (some (.int (nI (B 4 0 + 1)))) σ') : MetA mX7_older [.ref 0, .int x, .int y] σ Q := by
  refine MetA_of qX7_older (Nat.le_of_ble_eq_true rfl) ?_
  refine wpB_sd (stops := []) kX7_older 40 _ _ _ _ ?_
  have h24 := hW.1.1
  have hj0 : σ 7 0 = nI (A 12 0) := hC.1.1.1
  have h12 := hWB.1
  refine s_has (Or.inl rfl) ?_
  refine ⟨fun g => hu (fun q => bI_0.mp g (by rw [hj0]; exact (ix_iff (by omega)).mpr q.1)), fun g => ?_⟩
  have hix : ix x (A 12 0) := (ix_iff (by omega)).mp (by have := bI_n0 g; rw [hj0] at this; exact this)
  refine s_has (Or.inl rfl) ?_
  refine ⟨fun g => hu (fun q => bI_0.mp g (by rw [hj0]; exact (ix_iff (by omega)).mpr q.2.1)), fun g => ?_⟩
  have hiy : ix y (A 12 0) := (ix_iff (by omega)).mp (by have := bI_n0 g; rw [hj0] at this; exact this)
  refine ⟨fun g => ?_, fun g => hu (fun q => q.2.2 g)⟩
  refine MetA_of qX3_add (Nat.le_of_ble_eq_true rfl) ?_
  refine wpB_sd (stops := []) kX3_add 40 _ _ _ _ ?_
  have hb0 := hB.1
  refine ⟨fun g2 => ?_, fun g2 => ?_⟩
  · rw [hb0] at g2
    have g2 := (nI_ltI (b := 12) (by omega) (by omega)).mp g2
    obtain ⟨a, ha, rfl⟩ := hix
    obtain ⟨b, hb, rfl⟩ := hiy
    refine ast (n := 12) (j := B 4 0) rfl hb0 g2 ?_
    refine ast (n := 12) (j := B 4 0) rfl hb0 g2 ?_
    have e : sgu (sgu σ 82 (B 4 0) (nI a)) 83 (B 4 0) (nI b) 81 0 + 1 = nI (B 4 0 + 1) := by rw [sgu_c (by omega), sgu_c (by omega), hb0, nI_1]
    refine fin_i (h a b ha hb rfl rfl g g2 _ ⟨?_, fun k hk => ?_, ?_, fun k hk => ?_⟩ (fun c hc => ?_)) ?_
    · rw [sgu_s, e, glsA_c]
    · rw [glsA_c] at hk
      rw [sgu_c (by omega), sgu_c (by omega)]
      by_cases q : k = B 4 0
      · subst q
        refine ⟨?_, ?_⟩
        · rw [sgu_s]; simp [glsA, stu]
        · rw [sgu_c (by omega), sgu_s]; simp [glsA, stu]
      · have := hB.2.1 k (by omega)
        refine ⟨?_, ?_⟩
        · rw [sgu_k q]; simpa [glsA, stu, q] using this.1
        · rw [sgu_c (by omega), sgu_k q, sgu_c (by omega)]; simpa [glsA, stu, q] using this.2
    · rw [sgu_c (by omega), sgu_c (by omega), sgu_c (by omega), glsA_c1]; exact hB.2.2.1
    · rw [glsA_c1] at hk
      have := hB.2.2.2 k hk
      rw [sgu_c (by omega), sgu_c (by omega), sgu_c (by omega), sgu_c (by omega), sgu_c (by omega), sgu_c (by omega)]
      simpa [glsA, stu] using this
    · rw [sgu_c (by omega), sgu_c (by omega), sgu_c (by omega)]
    · rw [sgu_s, e]
  · have g2 : ¬ B 4 0 < 12 := fun q => g2 (by rw [hb0]; exact nI_lt (b := 12) q (by omega))
    exact hf ⟨hix, hiy, g⟩ (by omega)
set_option maxRecDepth 100000 in
theorem u_older {σ : Sg} {A B : St} {hg : Nat} {x y : Int32} {Q : Option Value → Sg → Prop} (hC : MR σ A hg) (hW : WL A) (hB : RMb σ B) (hWB : WB B) (hu : ¬ (ix x (A 12 0) ∧ ix y (A 12 0) ∧ x ≠ y) → Q (some (.int UNK)) σ) (hf : (ix x (A 12 0) ∧ ix y (A 12 0) ∧ x ≠ y) → B 4 0 = 12 → Q (some (.int FUL)) σ) (h : ∀ a b, a < A 12 0 → b < A 12 0 → x = nI a → y = nI b → x ≠ y → B 4 0 < 12 → ∀ σ', RMb σ' (glsA B a b) → FrN σ σ' → Q (some (.int (nI (B 4 0 + 1)))) σ') : MetA mX8_older [.ref 89, .int x, .int y] σ Q := by
  refine MetA_of qX8_older (Nat.le_of_ble_eq_true rfl) ?_
  refine wpB_sd (stops := []) kX8_older 40 _ _ _ _ ?_
  have h24 := hW.1.1
  have h12 := hWB.1
  refine m_isJar hC.1 h24 ?_
  refine ⟨fun g => hu (fun q => bI_0.mp g ((ix_iff (by omega)).mpr q.1)), fun g => ?_⟩
  have hix : ix x (A 12 0) := (ix_iff (by omega)).mp (bI_n0 g)
  refine m_isJar hC.1 h24 ?_
  refine ⟨fun g => hu (fun q => bI_0.mp g ((ix_iff (by omega)).mpr q.2.1)), fun g => ?_⟩
  have hiy : ix y (A 12 0) := (ix_iff (by omega)).mp (bI_n0 g)
  refine ⟨fun g => ?_, fun g => hu (fun q => q.2.2 g)⟩
  have hb0 := hB.1
  refine ⟨fun g2 => ?_, fun g2 => ?_⟩
  · have g2 : B 4 0 < 12 := by
      have : ¬ B 4 0 = 12 := fun q => g2 (by rw [hb0, q]; rfl)
      omega
    obtain ⟨a, ha, rfl⟩ := hix
    obtain ⟨b, hb, rfl⟩ := hiy
    refine ast (n := 12) (j := B 4 0) rfl hb0 g2 ?_
    refine ast (n := 12) (j := B 4 0) rfl hb0 g2 ?_
    have e : sgu (sgu σ 100 (B 4 0) (nI a)) 101 (B 4 0) (nI b) 89 24 + 1 = nI (B 4 0 + 1) := by rw [sgu_c (by omega), sgu_c (by omega), hb0, nI_1]
    refine fin_i (h a b ha hb rfl rfl g g2 _ ⟨?_, fun k hk => ?_, ?_, fun k hk => ?_⟩ ⟨fun c hc hc2 => ?_, fun k hk hk2 => ?_⟩) ?_
    · rw [sgu_s, e, glsA_c]
    · rw [glsA_c] at hk
      rw [sgu_c (by omega), sgu_c (by omega)]
      by_cases q : k = B 4 0
      · subst q
        refine ⟨?_, ?_⟩
        · rw [sgu_s]; simp [glsA, stu]
        · rw [sgu_c (by omega), sgu_s]; simp [glsA, stu]
      · have := hB.2.1 k (by omega)
        refine ⟨?_, ?_⟩
        · rw [sgu_k q]; simpa [glsA, stu, q] using this.1
        · rw [sgu_c (by omega), sgu_k q, sgu_c (by omega)]; simpa [glsA, stu, q] using this.2
    · rw [sgu_k (by omega), sgu_c (by omega), sgu_c (by omega), glsA_c1]; exact hB.2.2.1
    · rw [glsA_c1] at hk
      have := hB.2.2.2 k hk
      rw [sgu_c (by omega), sgu_c (by omega), sgu_c (by omega), sgu_c (by omega), sgu_c (by omega), sgu_c (by omega)]
      simpa [glsA, stu] using this
    · rw [sgu_c (by omega), sgu_c (by omega), sgu_c (by omega)]
    · rw [sgu_k (by omega), sgu_c (by omega), sgu_c (by omega)]
    · rw [sgu_s, e]
  · rw [hb0] at g2
    exact hf ⟨hix, hiy, g⟩ ((nI_eq (b := 12) (by omega) (by omega)).mp g2)
set_option maxRecDepth 100000 in
theorem t_write {σ : Sg} {A B : St} {hg : Nat} {x y : Int32} {Q : Option Value → Sg → Prop} (hC : CS σ A hg) (hW : WL A) (hB : RCb σ B) (hWB : WB B) (hu : ¬ ix y (A 12 0) → Q (some (.int UNK)) σ) (ho : ix y (A 12 0) → ¬ rg x 0 9999 → Q (some (.int OUT)) σ) (hf : ix y (A 12 0) → rg x 0 9999 → B 4 1 = 30 → Q (some (.int FUL)) σ) (h : ∀ a b, a ≤ 9999 → b < A 12 0 → x = nI a → y = nI b → B 4 1 < 30 → ∀ σ', RCb σ' (bokA B a b) → FrB σ σ' → Q (some (.int (nI (B 4 1 + 1)))) σ') : MetA mX7_write [.ref 0, .int x, .int y] σ Q := by
  refine MetA_of qX7_write (Nat.le_of_ble_eq_true rfl) ?_
  refine wpB_sd (stops := []) kX7_write 40 _ _ _ _ ?_
  have h24 := hW.1.1
  have hj0 : σ 7 0 = nI (A 12 0) := hC.1.1.1
  have h30 := hWB.2.1
  refine s_has (Or.inl rfl) ?_
  refine ⟨fun g => ?_, fun g => hu (fun q => bI_0.mp g (by rw [hj0]; exact (ix_iff (by omega)).mpr q))⟩
  have hiy : ix y (A 12 0) := (ix_iff (by omega)).mp (by have := bI_n0 g; rw [hj0] at this; exact this)
  refine ⟨fun g2 => ho hiy (rg_lt (lo := 0) (by omega) (by omega) g2), fun g2 => ⟨fun g3 => ?_, fun g3 => ho hiy (rg_gt (hi := 9999) (by omega) (by omega) (Int32.not_le.mp g3))⟩⟩
  have hrg := rg_of (lo := 0) (hi := 9999) (by omega) (by omega) g2 (Int32.not_lt.mpr g3)
  refine MetA_of qX0_add (Nat.le_of_ble_eq_true rfl) ?_
  refine wpB_sd (stops := []) kX0_add 40 _ _ _ _ ?_
  have hb0 := hB.2.2.1
  refine ⟨fun g5 => ?_, fun g5 => ?_⟩
  · rw [hb0] at g5
    have g5 := (nI_ltI (b := 30) (by omega) (by omega)).mp g5
    obtain ⟨a, -, ha, rfl⟩ := hrg
    obtain ⟨b, hb, rfl⟩ := hiy
    refine ast (n := 30) (j := B 4 1) rfl hb0 g5 ?_
    refine ast (n := 30) (j := B 4 1) rfl hb0 g5 ?_
    have e : sgu (sgu σ 86 (B 4 1) (nI a)) 87 (B 4 1) (nI b) 85 0 + 1 = nI (B 4 1 + 1) := by rw [sgu_c (by omega), sgu_c (by omega), hb0, nI_1]
    refine fin_i (h a b ha hb rfl rfl g5 _ ⟨?_, fun k hk => ?_, ?_, fun k hk => ?_⟩ (fun c hc => ?_)) ?_
    · rw [sgu_c (by omega), sgu_c (by omega), sgu_c (by omega), bokA_c0]; exact hB.1
    · rw [bokA_c0] at hk
      have := hB.2.1 k hk
      rw [sgu_c (by omega), sgu_c (by omega), sgu_c (by omega), sgu_c (by omega), sgu_c (by omega), sgu_c (by omega)]
      simpa [bokA, stu] using this
    · rw [sgu_s, e, bokA_c]
    · rw [bokA_c] at hk
      rw [sgu_c (by omega), sgu_c (by omega)]
      by_cases q : k = B 4 1
      · subst q
        refine ⟨?_, ?_⟩
        · rw [sgu_s]; simp [bokA, stu]
        · rw [sgu_c (by omega), sgu_s]; simp [bokA, stu]
      · have := hB.2.2.2 k (by omega)
        refine ⟨?_, ?_⟩
        · rw [sgu_k q]; simpa [bokA, stu, q] using this.1
        · rw [sgu_c (by omega), sgu_k q, sgu_c (by omega)]; simpa [bokA, stu, q] using this.2
    · rw [sgu_c (by omega), sgu_c (by omega), sgu_c (by omega)]
    · rw [sgu_s, e]
  · have g5 : ¬ B 4 1 < 30 := fun q => g5 (by rw [hb0]; exact nI_lt (b := 30) q (by omega))
    exact hf hiy hrg (by omega)
set_option maxRecDepth 100000 in
theorem u_write {σ : Sg} {A B : St} {hg : Nat} {x y : Int32} {Q : Option Value → Sg → Prop} (hC : MR σ A hg) (hW : WL A) (hB : RMb σ B) (hWB : WB B) (hu : ¬ ix y (A 12 0) → Q (some (.int UNK)) σ) (ho : ix y (A 12 0) → ¬ rg x 0 9999 → Q (some (.int OUT)) σ) (hf : ix y (A 12 0) → rg x 0 9999 → B 4 1 = 30 → Q (some (.int FUL)) σ) (h : ∀ a b, a ≤ 9999 → b < A 12 0 → x = nI a → y = nI b → B 4 1 < 30 → ∀ σ', RMb σ' (bokA B a b) → FrN σ σ' → Q (some (.int (nI (B 4 1 + 1)))) σ') : MetA mX8_write [.ref 89, .int x, .int y] σ Q := by
  refine MetA_of qX8_write (Nat.le_of_ble_eq_true rfl) ?_
  refine wpB_sd (stops := []) kX8_write 40 _ _ _ _ ?_
  have h24 := hW.1.1
  have h30 := hWB.2.1
  refine m_isJar hC.1 h24 ?_
  refine ⟨fun g => ?_, fun g => hu (fun q => bI_0.mp g ((ix_iff (by omega)).mpr q))⟩
  have hiy : ix y (A 12 0) := (ix_iff (by omega)).mp (bI_n0 g)
  refine m_inI (lo := nI 0) (hi := nI 9999) rfl rfl ?_
  refine ⟨fun g => ?_, fun g => ho hiy (fun q => bI_0.mp g ((rg_iff (by omega) (by omega)).mpr q))⟩
  have hrg : rg x 0 9999 := (rg_iff (by omega) (by omega)).mp (bI_n0 g)
  have hb0 := hB.2.2.1
  refine ⟨fun g2 => ?_, fun g2 => ?_⟩
  · have g2 : B 4 1 < 30 := by
      have : ¬ B 4 1 = 30 := fun q => g2 (by rw [hb0, q]; rfl)
      omega
    obtain ⟨a, -, ha, rfl⟩ := hrg
    obtain ⟨b, hb, rfl⟩ := hiy
    refine ast (n := 30) (j := B 4 1) rfl hb0 g2 ?_
    refine ast (n := 30) (j := B 4 1) rfl hb0 g2 ?_
    have e : sgu (sgu σ 102 (B 4 1) (nI a)) 103 (B 4 1) (nI b) 89 27 + 1 = nI (B 4 1 + 1) := by rw [sgu_c (by omega), sgu_c (by omega), hb0, nI_1]
    refine fin_i (h a b ha hb rfl rfl g2 _ ⟨?_, fun k hk => ?_, ?_, fun k hk => ?_⟩ ⟨fun c hc hc2 => ?_, fun k hk hk2 => ?_⟩) ?_
    · rw [sgu_k (by omega), sgu_c (by omega), sgu_c (by omega), bokA_c0]; exact hB.1
    · rw [bokA_c0] at hk
      have := hB.2.1 k hk
      rw [sgu_c (by omega), sgu_c (by omega), sgu_c (by omega), sgu_c (by omega), sgu_c (by omega), sgu_c (by omega)]
      simpa [bokA, stu] using this
    · rw [sgu_s, e, bokA_c]
    · rw [bokA_c] at hk
      rw [sgu_c (by omega), sgu_c (by omega)]
      by_cases q : k = B 4 1
      · subst q
        refine ⟨?_, ?_⟩
        · rw [sgu_s]; simp [bokA, stu]
        · rw [sgu_c (by omega), sgu_s]; simp [bokA, stu]
      · have := hB.2.2.2 k (by omega)
        refine ⟨?_, ?_⟩
        · rw [sgu_k q]; simpa [bokA, stu, q] using this.1
        · rw [sgu_c (by omega), sgu_k q, sgu_c (by omega)]; simpa [bokA, stu, q] using this.2
    · rw [sgu_c (by omega), sgu_c (by omega), sgu_c (by omega)]
    · rw [sgu_k (by omega), sgu_c (by omega), sgu_c (by omega)]
    · rw [sgu_s, e]
  · rw [hb0] at g2
    exact hf hiy hrg ((nI_eq (b := 30) (by omega) (by omega)).mp g2)
def terA (B : St) : St := stu (stu B 4 0 0) 4 1 0
set_option maxRecDepth 100000 in
theorem t_tear {σ : Sg} {B : St} {Q : Option Value → Sg → Prop} (hB : RCb σ B) (h : ∀ σ', RCb σ' (terA B) → FrB σ σ' → Q (some (.int (nI (B 4 1 + B 4 0)))) σ') : MetA mX7_tear [.ref 0] σ Q := by
  refine MetA_of qX7_tear (Nat.le_of_ble_eq_true rfl) ?_
  refine wpB_sd (stops := []) kX7_tear 40 _ _ _ _ ?_
  refine fin_i (h _ ⟨?_, fun k hk => ?_, ?_, fun k hk => ?_⟩ (fun c hc => ?_)) ?_
  · rw [sgu_s]; simp [terA, stu]; rfl
  · simp [terA, stu] at hk
  · rw [sgu_c (by omega), sgu_s]; simp [terA, stu]; rfl
  · simp [terA, stu] at hk
  · rw [sgu_c (by omega), sgu_c (by omega)]
  · rw [hB.1, hB.2.2.1, nI_add]
set_option maxRecDepth 100000 in
theorem u_tear {σ : Sg} {B : St} {Q : Option Value → Sg → Prop} (hB : RMb σ B) (h : ∀ σ', RMb σ' (terA B) → FrN σ σ' → Q (some (.int (nI (B 4 1 + B 4 0)))) σ') : MetA mX8_tear [.ref 89] σ Q := by
  refine MetA_of qX8_tear (Nat.le_of_ble_eq_true rfl) ?_
  refine wpB_sd (stops := []) kX8_tear 40 _ _ _ _ ?_
  refine fin_i (h _ ⟨?_, fun k hk => ?_, ?_, fun k hk => ?_⟩ ⟨fun c hc hc2 => ?_, fun k hk hk2 => ?_⟩) ?_
  · rw [sgu_s]; simp [terA, stu]; rfl
  · simp [terA, stu] at hk
  · rw [sgu_k (by omega), sgu_s]; simp [terA, stu]; rfl
  · simp [terA, stu] at hk
  · rw [sgu_c (by omega), sgu_c (by omega)]
  · rw [sgu_k (by omega), sgu_k (by omega)]
  · rw [hB.1, hB.2.2.1, nI_add]
