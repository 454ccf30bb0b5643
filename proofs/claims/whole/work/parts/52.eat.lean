/-! the reference: eat -/
theorem addA_stock {A : St} {hh k h d q kp y : Nat} : addA (stu A 8 hh 0) k h d q kp y = stu (addA A k h d q kp y) 8 hh 0 := by
  funext f j
  by_cases e : f = 8 ∧ j = hh
  · obtain ⟨rfl, rfl⟩ := e
    rw [addA_f (by omega) (by omega), stu_s, stu_s]
  · have e1 : ∀ B : St, stu B 8 hh 0 f j = B f j := fun B => if_neg e
    rw [e1]
    unfold addA
    rw [e1]
    rw [show stu A 8 hh 0 12 0 = A 12 0 from stu_f (by omega)]
theorem lf_le {a b : Nat} (ha : a < 2 ^ 30) (hb : b < 2 ^ 30) : nI a - nI b ≤ 0 ↔ a ≤ b := by
  rw [fa_le, pk_sub_toInt ha hb]
  have : (0 : Int32).toInt = 0 := by decide
  rw [this]; omega
theorem lf_le99 {a b : Nat} (ha : a < 2 ^ 30) (hb : b < 2 ^ 30) : nI a - nI b ≤ 99 ↔ a ≤ b + 99 := by
  rw [fa_le, pk_sub_toInt ha hb]
  have : (99 : Int32).toInt = 99 := by decide
  rw [this]; omega
theorem lf_ge {a b : Nat} (ha : a < 2 ^ 30) (hb : b < 2 ^ 30) : 0 ≤ nI a - nI b ↔ b ≤ a := by
  rw [fa_le, pk_sub_toInt ha hb]
  have : (0 : Int32).toInt = 0 := by decide
  rw [this]; omega
theorem lf_neg {a b : Nat} (h : a ≤ b) : -(nI a - nI b) = nI (b - a) := by
  rw [← pk_sub h]
  exact Int32.neg_sub
set_option maxRecDepth 100000 in
set_option maxHeartbeats 2000000 in
theorem m_eat {σ : Sg} {A : St} {x hh harv : Nat} {Q : Option Value → Sg → Prop} (hx : x ≤ 600) (hR : RMr x σ A) (hG : RMg σ A) (hW : WL A) (hh2 : hh < A 12 5) (hv : harv ≤ 99) (hy : A 12 1 < 2 ^ 19)
    (h : ∀ σ', RMr x σ' (eatA A hh harv).1 → FrW x σ σ' → Q (some (.int (nI (eatA A hh harv).2))) σ') : MetA mX8_eat [.ref 89, .int (nI x), .int (nI hh), .int (nI harv)] σ Q := by
  refine MetA_of qX8_eat (Nat.le_of_ble_eq_true rfl) ?_
  have h4 := hW.2.1
  have h24 := hW.1.1
  have hw := hW.2.2.2.2.2.1 hh hh2
  have hlw := hW.2.2.2.1
  have hw9 := hG.2.1 hh hh2
  -- the end
  have r218 : ∀ (σ' : Sg) (A' : St) (has : Nat) (o f : Int32), RMr x σ' A' → A' 12 0 ≤ 24 → A' 12 5 = A 12 5 → has < 2 ^ 30 → FrW x σ σ' → (∀ σ'', RMr x σ'' (stu A' 8 hh 0) → FrW x σ σ'' → Q (some (.int (nI (A 9 hh - has)))) σ'') → V mX8_eat 218 [(0, .ref 89), (1, .int (nI x)), (2, .int (nI hh)), (3, .int (nI harv)), (4, .int (nI has)), (5, .int o), (6, .int f), (7, .int (nI has - nI (A 9 hh)))] [] σ' Q := by
    intro σ' A' has o f hR' h24' e5 hhas hF hQ
    have fin := hQ _ (RMr_stock hR' (show hh < 4 by omega) h24' (by omega)) (hF.tr (FrW.put (by omega) (by omega)))
    refine wpB_sd (stops := []) kX8_eat 20 _ _ _ _ ?_
    refine ast (n := 800) (j := x + 172 + hh) rfl (by simp only [fa_lit, nI_add]) (by omega) ?_
    refine ⟨fun g => ?_, fun g => ?_⟩
    · have g := (lf_ge hhas (by omega)).mp g
      refine fin_i fin ?_
      rw [show A 9 hh - has = 0 by omega]; rfl
    · have g : ¬ A 9 hh ≤ has := fun q => g ((lf_ge hhas (by omega)).mpr q)
      exact fin_i fin (lf_neg (by omega))
  -- behind the loop
  have r112 : ∀ (σ' : Sg) (A' : St) (has : Nat) (op : Bool) (f : Int32), RMr x σ' A' → WJ A' → (∀ g k, g ≠ 6 → A' g k = A g k) → FrW x σ σ' → has < 2 ^ 29 → (∀ σ'', RMr x σ'' (eatS A' hh has op) → FrW x σ σ'' → Q (some (.int (nI (A 9 hh - has)))) σ'') → V mX8_eat 112 [(0, .ref 89), (1, .int (nI x)), (2, .int (nI hh)), (3, .int (nI harv)), (4, .int (nI has)), (5, .int (bI (op = true))), (6, .int f)] [] σ' Q := by
    intro σ' A' has op f hR' hW' hA' hF hhas hQ
    have e9 : A' 9 hh = A 9 hh := hA' 9 hh (by omega)
    have e7 : A' 7 hh = A 7 hh := hA' 7 hh (by omega)
    have e5 : A' 12 5 = A 12 5 := hA' 12 5 (by omega)
    have e1 : A' 12 1 = A 12 1 := hA' 12 1 (by omega)
    have h24' := hW'.1
    have hw9' : σ' 93 hh = nI (A 9 hh) := by rw [hF.1 93 (by omega)]; exact hw9
    have hr7 : σ' 90 (x + 168 + hh) = nI (A 7 hh) := by rw [(hR'.2.2.2.2.2 hh (by omega)).1, e7]
    have hyr : σ' 90 (x + 177) = nI (A 12 1) := by rw [hR'.2.1, e1]
    have nos : ¬ (op = false ∧ A' 9 hh < has ∧ 0 < A' 7 hh ∧ A' 12 0 < 24) → V mX8_eat 218 [(0, .ref 89), (1, .int (nI x)), (2, .int (nI hh)), (3, .int (nI harv)), (4, .int (nI has)), (5, .int (bI (op = true))), (6, .int f), (7, .int (nI has - nI (A 9 hh)))] [] σ' Q := by
      intro hno
      refine r218 σ' A' has _ f hR' h24' e5 (by omega) hF (fun σ'' a b => hQ σ'' ?_ b)
      rw [eatS, if_neg hno]; exact a
    have yes : (op = false ∧ A' 9 hh < has ∧ 0 < A' 7 hh ∧ A' 12 0 < 24) → ∀ σ2, RMr x σ2 (addA A' 0 hh (A 12 1 + A 7 hh) (if 99 < has - A 9 hh then 99 else has - A 9 hh) 5 (A 12 1)) → FrW x σ' σ2 → V mX8_eat 218 [(0, .ref 89), (1, .int (nI x)), (2, .int (nI hh)), (3, .int (nI harv)), (4, .int (nI has)), (5, .int (bI (op = true))), (6, .int f), (7, .int (nI has - nI (A 9 hh)))] [] σ2 Q := by
      intro hyes σ2 hc2 hf2
      refine r218 σ2 _ has _ f hc2 (by rw [addA_n]; omega) (by rw [addA_f (by omega) (by omega), e5]) (by omega) (hF.tr hf2) (fun σ'' a b => hQ σ'' ?_ b)
      rw [eatS, if_pos hyes, addA_stock, e1, e7, e9]; exact a
    refine wpB_sd (stops := [218]) kX8_eat 60 _ _ _ _ ?_
    refine ald (n := 8) (j := hh) rfl rfl (by omega) hw9' ?_
    refine ⟨fun g => ?_, fun g => ?_⟩
    · have g := (lf_le (by omega) (by omega)).mp g
      exact nos (fun q => by omega)
    · have g : ¬ has ≤ A 9 hh := fun q => g ((lf_le (by omega) (by omega)).mpr q)
      refine ⟨fun g2 => ?_, fun g2 => ?_⟩
      · have g2 : op = true := by
          by_cases q : op = true
          · exact q
          · exact absurd (bI_f q) g2
        exact nos (fun q => by rw [g2] at q; cases q.1)
      · have g2 : ¬ op = true := bI_0.mp g2
        have g2 : op = false := by simpa using g2
        refine ald (n := 800) (j := x + 168 + hh) rfl (by simp only [fa_lit, nI_add]) (by omega) hr7 ?_
        refine ⟨fun g3 => ?_, fun g3 => ?_⟩
        · have g3 := (nI_leI (b := 0) (by omega) (by omega)).mp g3
          exact nos (fun q => by omega)
        · have g3 : ¬ A 7 hh ≤ 0 := fun q => g3 (nI_le (b := 0) q (by omega))
          refine ald (n := 800) (j := x + 176) rfl (by simp only [fa_lit, nI_add]) (by omega) hR'.1 ?_
          refine ⟨fun g4 => ?_, fun g4 => ?_⟩
          · have g4 := (nI_leI (a := 24) (by omega) (by omega)).mp g4
            exact nos (fun q => by omega)
          · have g4 : ¬ 24 ≤ A' 12 0 := fun q => g4 (nI_le (a := 24) q (by omega))
            have yes := yes ⟨g2, by omega, by omega, by omega⟩
            refine ald (n := 800) (j := x + 177) rfl (by simp only [fa_lit, nI_add]) (by omega) hyr ?_
            refine ald (n := 800) (j := x + 168 + hh) rfl (by simp only [fa_lit, nI_add]) (by omega) hr7 ?_
            refine ⟨fun g5 => ?_, fun g5 => ?_⟩
            · have g5 := (lf_le99 (by omega) (by omega)).mp g5
              rw [if_neg (by omega)] at yes
              refine ald (n := 800) (j := x + 177) rfl (by simp only [fa_lit, nI_add]) (by omega) hyr ?_
              refine mAr (by rw [nI_add, pk_sub (show A 9 hh ≤ has by omega)]; rfl) (m_add (k := 0) (kp := 5) (hh := hh) (d := A 12 1 + A 7 hh) (q := has - A 9 hh) (y := A 12 1) hx hR' (by omega) (by omega) yes)
            · have g5 : ¬ has ≤ A 9 hh + 99 := fun q => g5 ((lf_le99 (by omega) (by omega)).mpr q)
              rw [if_pos (by omega)] at yes
              refine ald (n := 800) (j := x + 177) rfl (by simp only [fa_lit, nI_add]) (by omega) hyr ?_
              refine mAr (by rw [nI_add]; rfl) (m_add (k := 0) (kp := 5) (hh := hh) (d := A 12 1 + A 7 hh) (q := 99) (y := A 12 1) hx hR' (by omega) (by omega) yes)
  -- the loop
  have r42 : ∀ (n : Nat) (A' : St) (has : Nat) (op : Bool) (σ' : Sg), ngA A' ≤ n → n ≤ 24 → RMr x σ' A' → WJ A' → (∀ g k, g ≠ 6 → A' g k = A g k) → FrW x σ σ' → has ≤ 2 ^ 28 + 198 * (24 - n) → (∀ σ'' f', RMr x σ'' (eatL hh n A' has).1 → FrW x σ σ'' → V mX8_eat 112 [(0, .ref 89), (1, .int (nI x)), (2, .int (nI hh)), (3, .int (nI harv)), (4, .int (nI (eatL hh n A' has).2)), (5, .int (bI ((op || (nxA A' hh has).isSome) = true))), (6, .int f')] [] σ'' Q) → V mX8_eat 42 [(0, .ref 89), (1, .int (nI x)), (2, .int (nI hh)), (3, .int (nI harv)), (4, .int (nI has)), (5, .int (bI (op = true))), (6, .int (optI (nxA A' hh has)))] [] σ' Q := by
    intro n
    induction n with
    | zero =>
      intro A' has op σ' hng hn hR' hW' hA' hF hhas hQ
      have hno : nxA A' hh has = none := by
        cases hq : nxA A' hh has with
        | none => rfl
        | some j => have := nxA_lt hq; have := ng_pos this.1 this.2.2; omega
      rw [hno] at hQ ⊢
      refine wpB_sd (stops := [112]) kX8_eat 20 _ _ _ _ ?_
      refine br_t (show (-1 : Int32) < 0 by decide) ?_
      simp only [Option.isSome_none, Bool.or_false] at hQ
      exact hQ σ' _ hR' hF
    | succ n ih =>
      intro A' has op σ' hng hn hR' hW' hA' hF hhas hQ
      have e9 : A' 9 hh = A 9 hh := hA' 9 hh (by omega)
      have e5 : A' 12 5 = A 12 5 := hA' 12 5 (by omega)
      have e1 : A' 12 1 = A 12 1 := hA' 12 1 (by omega)
      have e3 : A' 12 3 = A 12 3 := hA' 12 3 (by omega)
      have e0 : A' 12 0 = A 12 0 := hA' 12 0 (by omega)
      refine wpB_sd (stops := [107, 112]) kX8_eat 60 _ _ _ _ ?_
      cases hnx : nxA A' hh has with
      | none =>
        rw [eatL, hnx] at hQ
        simp only [Option.isSome_none, Bool.or_false] at hQ
        refine br_t (show (-1 : Int32) < 0 by decide) ?_
        exact hQ σ' _ hR' hF
      | some j =>
        rw [eatL, hnx] at hQ
        simp only [Option.isSome_some, Bool.or_true] at hQ
        have hj := nxA_lt hnx
        have hfl := filA_le hW' (y := A' 12 1) hj.1
        refine br_f (show ¬ nI j < 0 from nI_pos (by omega)) ?_
        refine ald (n := 800) (j := x + 177) rfl (by simp only [fa_lit, nI_add]) (by omega) hR'.2.1 ?_
        refine m_filled (j := j) (y := A' 12 1) hx hR' hW' hj.1 (Nat.le_refl _) (by omega) ?_
        refine ast (n := 800) (j := x + 144 + j) rfl (by simp only [optI, fa_lit, nI_add]) (by omega) ?_
        have hR2 := RMr_take (j := j) hR' (by omega) (by omega) (by omega)
        have hF2 := hF.tr (FrW.put (σ := σ') (k := x + 144 + j) (v := 1) (by omega) (by omega))
        have hng2 := ng_take hj.1 hj.2.2
        have nxt := ih (stu A' 6 j 1) (has + filA A' j (A' 12 1)) true (sgu σ' 90 (x + 144 + j) 1) (by omega) (by omega) hR2 (WJ_g hW' (by omega)) (fun g k hg => by rw [stu_f hg]; exact hA' g k hg) hF2 (by omega) (by
          simp only [Bool.true_or]
          exact hQ)
        have r107 : V mX8_eat 107 [(0, .ref 89), (1, .int (nI x)), (2, .int (nI hh)), (3, .int (nI harv)), (4, .int (nI has + nI (filA A' j (A' 12 1)))), (5, .int (bI (true = true))), (6, .int (optI (some j)))] [.int (optI (nxA (stu A' 6 j 1) hh (has + filA A' j (A' 12 1))))] (sgu σ' 90 (x + 144 + j) 1) Q := by
          refine wpB_sd (stops := [42]) kX8_eat 20 _ _ _ _ ?_
          rw [← nI_add has] at nxt
          exact nxt
        have hw9' : sgu σ' 90 (x + 144 + j) 1 93 hh = nI (A' 9 hh) := by rw [hF2.1 93 (by omega), e9]; exact hw9
        refine ald (n := 8) (j := hh) rfl rfl (by omega) hw9' ?_
        refine ⟨fun g => ?_, fun g => ?_⟩
        · rw [nI_add] at g
          have g := (nI_leI (by omega) (by omega)).mp g
          rw [nxA, if_neg (by show ¬ _ < A' 9 hh; omega)] at r107
          exact r107
        · rw [nI_add] at g
          have g : ¬ A' 9 hh ≤ has + filA A' j (A' 12 1) := fun q => g (nI_le q (by omega))
          rw [nxA, if_pos (by show _ < A' 9 hh; omega)] at r107
          refine m_firstToOpen (A := stu A' 6 j 1) hx hR2 (WJ_g hW' (by omega)) (by show A' 12 3 ≤ 2; omega) (by omega) ?_
          exact r107
  have hrs := hR.2.2.2.2.2 hh hh2
  have he := eatL_w hh 24 A (harv + A 8 hh) hW.1
  have r40 : V mX8_eat 40 [(0, .ref 89), (1, .int (nI x)), (2, .int (nI hh)), (3, .int (nI harv)), (4, .int (nI harv + nI (A 8 hh))), (5, .int 0)] [.int (optI (nxA A hh (harv + A 8 hh)))] σ Q := by
    have := r42 24 A (harv + A 8 hh) false σ (Nat.le_trans ng_le h24) (by omega) hR hW.1 (fun _ _ _ => rfl) FrW.rf (by omega) (fun σ'' f' hR2 hF2 => by
      rw [Bool.false_or]
      exact r112 _ _ _ _ f' hR2 he.1 (fun g k hg => eatL_f hh 24 A _ g k hg) hF2 (by omega) h)
    rw [← nI_add] at this
    refine wpB_sd (stops := [42]) kX8_eat 20 _ _ _ _ ?_
    exact this
  refine wpB_sd (stops := [40]) kX8_eat 40 _ _ _ _ ?_
  refine ald (n := 800) (j := x + 172 + hh) rfl (by simp only [fa_lit, nI_add]) (by omega) hrs.2 ?_
  refine ald (n := 8) (j := hh) rfl rfl (by omega) hw9 ?_
  refine ⟨fun g => ?_, fun g => ?_⟩
  · rw [nI_add] at g
    have g := (nI_leI (by omega) (by omega)).mp g
    rw [nxA, if_neg (by omega)] at r40
    exact r40
  · rw [nI_add] at g
    have g : ¬ A 9 hh ≤ harv + A 8 hh := fun q => g (nI_le q (by omega))
    rw [nxA, if_pos (by omega)] at r40
    refine m_firstToOpen hx hR hW.1 hlw (by omega) ?_
    exact r40
