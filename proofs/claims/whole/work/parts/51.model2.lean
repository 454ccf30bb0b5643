/-! the reference: eating -/
def FrW (x : Nat) (σ σ' : Sg) : Prop := (∀ c, c ≠ 90 → σ' c = σ c) ∧ ∀ k, k < x ∨ x + 177 ≤ k → σ' 90 k = σ 90 k
theorem FrW.rf {x : Nat} {σ : Sg} : FrW x σ σ := ⟨fun _ _ => rfl, fun _ _ => rfl⟩
theorem FrW.tr {x : Nat} {σ σ' σ'' : Sg} (h : FrW x σ σ') (h2 : FrW x σ' σ'') : FrW x σ σ'' := ⟨fun c hc => (h2.1 c hc).trans (h.1 c hc), fun k hk => (h2.2 k hk).trans (h.2 k hk)⟩
theorem FrW.put {x k : Nat} {v : Int32} {σ : Sg} (h : x ≤ k) (h2 : k < x + 177) : FrW x σ (sgu σ 90 k v) := ⟨fun c hc => sgu_c hc, fun i hi => sgu_k (by omega)⟩
theorem RMg.fr {σ σ' : Sg} {A : St} (h : RMg σ A) (hf : ∀ c, c = 89 ∨ c = 92 ∨ c = 93 → σ' c = σ c) : RMg σ' A := by
  unfold RMg
  rw [hf 89 (by omega), hf 92 (by omega), hf 93 (by omega)]; exact h
theorem RMg.eq {σ : Sg} {A B : St} (h : RMg σ A) (e5 : B 12 5 = A 12 5) (e6 : B 12 6 = A 12 6) (e9 : ∀ k, B 9 k = A 9 k) (e10 : ∀ k, B 10 k = A 10 k) : RMg σ B := by
  unfold RMg
  simp only [e5, e6, e9, e10]; exact h
set_option maxRecDepth 100000 in
set_option maxHeartbeats 1000000 in
theorem m_firstToOpen {σ : Sg} {A : St} {x hh : Nat} {Q : Option Value → Sg → Prop} (hx : x ≤ 600) (hR : RMr x σ A) (hW : WJ A) (hl : A 12 3 ≤ 2) (hh2 : hh < 4) (hQ : Q (some (.int (optI (ftoA A hh (A 12 3) (A 12 1) (A 12 0))))) σ) : MetA mX8_firstToOpen [.ref 89, .int (nI x), .int (nI hh)] σ Q := by
  refine MetA_of qX8_firstToOpen (Nat.le_of_ble_eq_true rfl) ?_
  have hm := hW.1
  have hy := hW.2.1
  have loop : ∀ n i, i + n = A 12 0 → V mX8_firstToOpen 5 [(0, .ref 89), (1, .int (nI x)), (2, .int (nI hh)), (3, .int (optI (ftoA A hh (A 12 3) (A 12 1) i))), (4, .int (nI i))] [] σ Q := by
    intro n
    induction n with
    | zero =>
      intro i hi
      have hi : i = A 12 0 := by omega
      subst hi
      refine wpB_sd (stops := [5]) kX8_firstToOpen 20 _ _ _ _ ?_
      refine ald (n := 800) (j := x + 176) rfl (by simp only [fa_lit, nI_add]) (by omega) hR.1 ?_
      exact br_t (nI_le (by omega) (by omega)) hQ
    | succ n ih =>
      intro i hi
      have hj : i < A 12 0 := by omega
      have ih := ih (i + 1) (by omega)
      obtain ⟨e0, e1, e2, e3, e4, e5, e6⟩ := hR.2.2.2.2.1 i hj
      obtain ⟨w0, w1, w2, w3, w4, w5, w6⟩ := hW.2.2 i hj
      have hft := ftoA_lt A hh (A 12 3) (A 12 1) i
      rw [← nI_1] at ih
      have no : ¬ (A 1 i = hh ∧ A 6 i = 0 ∧ mayB (A 12 3) (A 2 i) (A 12 1) = true) → V mX8_firstToOpen 61 [(0, .ref 89), (1, .int (nI x)), (2, .int (nI hh)), (3, .int (optI (ftoA A hh (A 12 3) (A 12 1) i))), (4, .int (nI i))] [.int 0] σ Q := by
        intro hc
        rw [ftoA, if_neg hc] at ih
        refine wpB_sd (stops := [5]) kX8_firstToOpen 20 _ _ _ _ ?_
        exact br_t rfl (V.take 5 ih)
      refine wpB_sd (stops := [5, 61]) kX8_firstToOpen 60 _ _ _ _ ?_
      refine ald (n := 800) (j := x + 176) rfl (by simp only [fa_lit, nI_add]) (by omega) hR.1 ?_
      refine br_f (nI_ge hj (by omega)) ?_
      refine ald (n := 800) (j := x + 24 + i) rfl (by simp only [fa_lit, nI_add]) (by omega) e1 ?_
      refine ⟨fun g => ?_, fun g => ?_⟩
      · have g : ¬ A 1 i = hh := fun q => g (by rw [q])
        exact V.take 5 (no (fun q => g q.1))
      · have g := (nI_eq (by omega) (by omega)).mp g
        refine ald (n := 800) (j := x + 177) rfl (by simp only [fa_lit, nI_add]) (by omega) hR.2.1 ?_
        refine m_may hx hR hW hl hj (by omega) ?_
        refine ⟨fun g2 => ?_, fun g2 => ?_⟩
        · exact V.take 5 (no (fun q => bI_0.mp g2 q.2))
        · have g2 : A 6 i = 0 ∧ mayB (A 12 3) (A 2 i) (A 12 1) = true := by
            by_cases q : A 6 i = 0 ∧ mayB (A 12 3) (A 2 i) (A 12 1) = true
            · exact q
            · exact absurd (bI_f q) g2
          rw [ftoA, if_pos ⟨g, g2⟩] at ih
          refine V.take 5 ?_
          refine wpB_sd (stops := [5]) kX8_firstToOpen 60 _ _ _ _ ?_
          refine br_f (by decide) ?_
          cases hf : ftoA A hh (A 12 3) (A 12 1) i with
          | none =>
            rw [hf] at ih
            exact br_t (show (-1 : Int32) < 0 by decide) (V.take 5 ih)
          | some f =>
            rw [hf] at ih hft
            have hfl := (hft f rfl).1
            have hfw := (hW.2.2 f (by omega)).2.2.1
            refine br_f (show ¬ nI f < 0 from nI_pos (by omega)) ?_
            refine ald (n := 800) (j := x + 48 + i) rfl (by simp only [fa_lit, nI_add]) (by omega) e2 ?_
            refine ald (n := 800) (j := x + 48 + f) rfl (by simp only [optI, fa_lit, nI_add]) (by omega) (hR.2.2.2.2.1 f (by omega)).2.2.1 ?_
            dsimp only at ih
            refine ⟨fun q => ?_, fun q => ?_⟩
            · have q := (nI_leI (by omega) (by omega)).mp q
              rw [if_neg (by omega)] at ih
              exact V.take 5 ih
            · have q : ¬ A 2 f ≤ A 2 i := fun z => q (nI_le z (by omega))
              rw [if_pos (by omega)] at ih
              exact V.take 5 ih
  refine wpB_sd (stops := [5]) kX8_firstToOpen 20 _ _ _ _ ?_
  exact loop (A 12 0) 0 (by omega)
set_option maxRecDepth 100000 in
set_option maxHeartbeats 1000000 in
theorem m_add {σ : Sg} {A : St} {x k hh d q kp y : Nat} {Q : Option Value → Sg → Prop} (hx : x ≤ 600) (hR : RMr x σ A) (hn : A 12 0 < 24) (h5 : A 12 5 ≤ 4) (h : ∀ σ', RMr x σ' (addA A k hh d q kp y) → FrW x σ σ' → Q none σ') : MetA mX8_add [.ref 89, .int (nI x), .int (nI k), .int (nI hh), .int (nI d), .int (nI q), .int (nI kp), .int (nI y)] σ Q := by
  refine MetA_of qX8_add (Nat.le_of_ble_eq_true rfl) ?_
  refine wpB_sd (stops := []) kX8_add 100 _ _ _ _ ?_
  refine ald (n := 800) (j := x + 176) rfl (by simp only [fa_lit, nI_add]) (by omega) hR.1 ?_
  refine ast (n := 800) (j := x + A 12 0) rfl (by simp only [nI_add]) (by omega) ?_
  refine ast (n := 800) (j := x + A 12 0 + 24) rfl (by simp only [fa_lit, nI_add]) (by omega) ?_
  refine ast (n := 800) (j := x + A 12 0 + 48) rfl (by simp only [fa_lit, nI_add]) (by omega) ?_
  refine ast (n := 800) (j := x + A 12 0 + 72) rfl (by simp only [fa_lit, nI_add]) (by omega) ?_
  refine ast (n := 800) (j := x + A 12 0 + 96) rfl (by simp only [fa_lit, nI_add]) (by omega) ?_
  refine ast (n := 800) (j := x + A 12 0 + 120) rfl (by simp only [fa_lit, nI_add]) (by omega) ?_
  refine ast (n := 800) (j := x + A 12 0 + 144) rfl (by simp only [fa_lit, nI_add]) (by omega) ?_
  refine ald (n := 800) (j := x + 176) rfl (by simp only [fa_lit, nI_add]) (by omega) (v := nI (A 12 0)) ?_ ?_
  · repeat rw [sgu_k (by omega)]
    exact hR.1
  refine ast (n := 800) (j := x + 176) rfl (by simp only [fa_lit, nI_add]) (by omega) ?_
  refine h _ ?_ ?_
  · obtain ⟨r0, r1, r2, r3, r4, r5⟩ := hR
    refine ⟨?_, ?_, ?_, ?_, fun j hj => ?_, fun i hi => ?_⟩
    · rw [sgu_s, addA_n, nI_1]
    · rw [addA_f (by omega) (by omega), ← r1]; simp only [sgu_at]; repeat rw [if_neg (by omega)]
    · rw [addA_f (by omega) (by omega), ← r2]; simp only [sgu_at]; repeat rw [if_neg (by omega)]
    · rw [addA_f (by omega) (by omega), ← r3]; simp only [sgu_at]; repeat rw [if_neg (by omega)]
    · rw [addA_n] at hj
      by_cases z : j = A 12 0
      · subst z
        refine ⟨?_, ?_, ?_, ?_, ?_, ?_, ?_⟩
        · rw [show addA A k hh d q kp y 0 (A 12 0) = k by simp [addA]]; repeat rw [sgu_k (by omega)]
          rw [sgu_s]
        · rw [show addA A k hh d q kp y 1 (A 12 0) = hh by simp [addA], show x + 24 + A 12 0 = x + A 12 0 + 24 by omega]; repeat rw [sgu_k (by omega)]
          rw [sgu_s]
        · rw [show addA A k hh d q kp y 2 (A 12 0) = d by simp [addA], show x + 48 + A 12 0 = x + A 12 0 + 48 by omega]; repeat rw [sgu_k (by omega)]
          rw [sgu_s]
        · rw [show addA A k hh d q kp y 3 (A 12 0) = q by simp [addA], show x + 72 + A 12 0 = x + A 12 0 + 72 by omega]; repeat rw [sgu_k (by omega)]
          rw [sgu_s]
        · rw [show addA A k hh d q kp y 4 (A 12 0) = kp by simp [addA], show x + 96 + A 12 0 = x + A 12 0 + 96 by omega]; repeat rw [sgu_k (by omega)]
          rw [sgu_s]
        · rw [show addA A k hh d q kp y 5 (A 12 0) = y by simp [addA], show x + 120 + A 12 0 = x + A 12 0 + 120 by omega]; repeat rw [sgu_k (by omega)]
          rw [sgu_s]
        · rw [show addA A k hh d q kp y 6 (A 12 0) = 0 by simp [addA], show x + 144 + A 12 0 = x + A 12 0 + 144 by omega]; repeat rw [sgu_k (by omega)]
          rw [sgu_s]; rfl
      · rw [addA_j (by omega) z, addA_j (by omega) z, addA_j (by omega) z, addA_j (by omega) z, addA_j (by omega) z, addA_j (by omega) z, addA_j (by omega) z]
        have := r4 j (by omega)
        simp only [sgu_at]
        repeat rw [if_neg (by omega)]
        exact this
    · rw [addA_f (by omega) (by omega)] at hi
      rw [addA_f (by omega) (by omega), addA_f (by omega) (by omega)]
      have := r5 i hi
      simp only [sgu_at]
      repeat rw [if_neg (by omega)]
      exact this
  · refine ⟨fun c hc => ?_, fun i hi => ?_⟩
    · repeat rw [sgu_c hc]
    · repeat rw [sgu_k (by omega)]

def ngA (A : St) : Nat := fb_ct (fun j => decide (A 6 j = 0)) (A 12 0)
theorem ng_take {A : St} {j : Nat} (hj : j < A 12 0) (h : A 6 j = 0) : ngA (stu A 6 j 1) + 1 = ngA A := by
  unfold ngA
  have e : fb_ct (fun i => decide (stu A 6 j 1 6 i = 0)) (A 12 0) = fb_ct (fun k => if k = j then false else decide (A 6 k = 0)) (A 12 0) := by
    apply fb_ct_cong
    intro k _
    by_cases q : k = j
    · subst q; simp [stu]
    · simp [stu, q]
  have := fb_ct_upd (fun k => decide (A 6 k = 0)) false hj
  rw [stu_f (by omega), e]
  simp [h] at this
  simp
  omega
theorem ng_le {A : St} : ngA A ≤ A 12 0 := fb_ct_le _ _
theorem ng_pos {A : St} {j : Nat} (hj : j < A 12 0) (h : A 6 j = 0) : 0 < ngA A := fb_ct_pos.mpr ⟨j, hj, by simp [h]⟩
theorem RMr_take {x : Nat} {σ : Sg} {A : St} {j : Nat} (hR : RMr x σ A) (hj : j < 24) (h24 : A 12 0 ≤ 24) (h5 : A 12 5 ≤ 4) : RMr x (sgu σ 90 (x + 144 + j) 1) (stu A 6 j 1) := by
  obtain ⟨r0, r1, r2, r3, r4, r5⟩ := hR
  refine ⟨?_, ?_, ?_, ?_, fun i hi => ?_, fun i hi => ?_⟩
  · rw [sgu_k (by omega)]; exact r0
  · rw [sgu_k (by omega)]; exact r1
  · rw [sgu_k (by omega)]; exact r2
  · rw [sgu_k (by omega)]; exact r3
  · have hi : i < A 12 0 := hi
    have := r4 i hi
    rw [sgu_k (by omega), sgu_k (by omega), sgu_k (by omega), sgu_k (by omega), sgu_k (by omega), sgu_k (by omega)]
    refine ⟨this.1, this.2.1, this.2.2.1, this.2.2.2.1, this.2.2.2.2.1, this.2.2.2.2.2.1, ?_⟩
    by_cases q : i = j
    · subst q; rw [sgu_s, stu_s]; rfl
    · rw [sgu_k (by omega), stu_k q]; exact this.2.2.2.2.2.2
  · have hi : i < A 12 5 := hi
    rw [sgu_k (by omega), sgu_k (by omega)]; exact r5 i hi
theorem RMr_stock {x : Nat} {σ : Sg} {A : St} {hh : Nat} (hR : RMr x σ A) (hh4 : hh < 4) (h24 : A 12 0 ≤ 24) (h5 : A 12 5 ≤ 4) : RMr x (sgu σ 90 (x + 172 + hh) 0) (stu A 8 hh 0) := by
  obtain ⟨r0, r1, r2, r3, r4, r5⟩ := hR
  refine ⟨?_, ?_, ?_, ?_, fun i hi => ?_, fun i hi => ?_⟩
  · rw [sgu_k (by omega)]; exact r0
  · rw [sgu_k (by omega)]; exact r1
  · rw [sgu_k (by omega)]; exact r2
  · rw [sgu_k (by omega)]; exact r3
  · have hi : i < A 12 0 := hi
    rw [sgu_k (by omega), sgu_k (by omega), sgu_k (by omega), sgu_k (by omega), sgu_k (by omega), sgu_k (by omega), sgu_k (by omega)]
    exact r4 i hi
  · have hi : i < A 12 5 := hi
    have := r5 i hi
    rw [sgu_k (by omega)]
    refine ⟨this.1, ?_⟩
    by_cases q : i = hh
    · subst q; rw [sgu_s, stu_s]; rfl
    · rw [sgu_k (by omega), stu_k q]; exact this.2
