/-! Land.feedHouse -/
def FrE (L : Nat) (σ σ' : Sg) : Prop := ∀ c, c ≠ L + 3 → ¬ (L + 6 ≤ c ∧ c ≤ L + 12) → σ' c = σ c
theorem RLd_stock {L : Nat} {σ : Sg} {A : St} {hh : Nat} (h : RLd L σ A) : RLd L (sgu σ (L + 3) hh 0) (stu A 8 hh 0) := by
  obtain ⟨h1, h2, h3, h4, h5, h6, h7, h8⟩ := h
  refine ⟨RCel.fr (σ := σ) ?_ (fun c a b => sgu_c (by omega)), ?_, ?_, ?_, ?_, ?_, ?_, ?_⟩
  · exact h1
  · rw [sgu_c (by omega)]; exact h2
  · rw [sgu_c (by omega)]; exact h3
  · rw [sgu_c (by omega)]; exact h4
  · rw [sgu_c (by omega)]; exact h5
  · rw [sgu_c (by omega)]; exact h6
  · intro k hk
    have := h7 k hk
    rw [sgu_c (by omega), sgu_c (by omega)]
    refine ⟨this.1, this.2.1, ?_⟩
    by_cases q : k = hh
    · subst q; rw [sgu_s, stu_s]; rfl
    · rw [sgu_k q, stu_k q]; exact this.2.2
  · intro k hk
    rw [sgu_c (by omega)]; exact h8 k hk
theorem RLd_add {L : Nat} {σ σ' : Sg} {A : St} {k h d q kp y : Nat} (hR : RLd L σ A) (hc : RCel (L + 6) σ' (addA A k h d q kp y)) (hf : ∀ c, ¬ (L + 6 ≤ c ∧ c ≤ L + 12) → σ' c = σ c) : RLd L σ' (addA A k h d q kp y) := by
  obtain ⟨h1, h2, h3, h4, h5, h6, h7, h8⟩ := hR
  have hL := hf L (by omega)
  refine ⟨hc, ?_, ?_, ?_, ?_, ?_, fun i hi => ?_, fun i hi => ?_⟩
  · rw [hL, addA_f (by omega) (by omega)]; exact h2
  · rw [hL, addA_f (by omega) (by omega)]; exact h3
  · rw [hL, addA_f (by omega) (by omega)]; exact h4
  · rw [hL, addA_f (by omega) (by omega)]; exact h5
  · rw [hL, addA_f (by omega) (by omega)]; exact h6
  · rw [addA_f (by omega) (by omega)] at hi
    rw [hf (L + 1) (by omega), hf (L + 2) (by omega), hf (L + 3) (by omega), addA_f (by omega) (by omega), addA_f (by omega) (by omega), addA_f (by omega) (by omega)]; exact h7 i hi
  · rw [addA_f (by omega) (by omega)] at hi
    rw [hf (L + 5) (by omega), addA_f (by omega) (by omega)]; exact h8 i hi
theorem max0 {a b : Nat} (ha : a < 2 ^ 30) (hb : b < 2 ^ 30) : (if nI a - nI b < 0 then 0 else nI a - nI b) = nI (a - b) := by
  by_cases h : a < b
  · rw [if_pos (pk_sneg hb h), show a - b = 0 by omega]; rfl
  · rw [pk_sub (by omega), if_neg (nI_pos (by omega))]
theorem mAr {ms : MS} {av av' : List Value} {σ : Sg} {Q : Option Value → Sg → Prop} (e : av = av') (h : MetA ms av' σ Q) : MetA ms av σ Q := e ▸ h
theorem min99 {a : Nat} (h : a < 2 ^ 31) : (if (99 : Int32) < nI a then 99 else nI a) = nI (if 99 < a then 99 else a) := by
  by_cases q : 99 < a
  · rw [if_pos q, if_pos (show (99 : Int32) < nI a from nI_lt (a := 99) q h)]; rfl
  · rw [if_neg q, if_neg (show ¬ (99 : Int32) < nI a from nI_nlt (a := 99) (by omega) (by omega))]
theorem optI_no {o : Option Nat} (h : ∀ j, o = some j → j < 2 ^ 31) : optI o = -1 ↔ o = none := by
  cases o with
  | none => simp [optI]
  | some j =>
    simp only [optI, reduceCtorEq, iff_false]
    intro q
    have q2 : (nI j).toInt = (-1 : Int32).toInt := congrArg Int32.toInt q
    rw [nI_toInt (h j rfl)] at q2
    have : ((-1 : Int32)).toInt = -1 := by decide
    omega
set_option maxRecDepth 100000 in
set_option maxHeartbeats 2000000 in
theorem s_feed {σ : Sg} {A : St} {L hh harv : Nat} {Q : Option Value → Sg → Prop} (hb : L = 1 ∨ L = 14) (hR : RLd L σ A) (hW : WL A) (hh2 : hh < A 12 5) (hv : harv ≤ 99) (hy : A 12 1 < 2 ^ 19)
    (h : ∀ σ', RLd L σ' (eatA A hh harv).1 → FrE L σ σ' → Q (some (.int (nI (eatA A hh harv).2))) σ') : MetA mX4_feedHouse [.ref L, .int (nI hh), .int (nI harv)] σ Q := by
  refine MetA_of qX4_feedHouse (Nat.le_of_ble_eq_true rfl) ?_
  have h4 := hW.2.1
  have hw := hW.2.2.2.2.2.1 hh hh2
  have hlw := hW.2.2.2.1
  have hb6 : L + 6 = 7 ∨ L + 6 = 20 := by omega
  -- the end
  have r203 : ∀ (σ' : Sg) (A' : St) (has : Nat) (o f i : Int32), RLd L σ' A' → A' 9 hh = A 9 hh → A' 12 5 = A 12 5 → has < 2 ^ 30 → Q (some (.int (nI (A 9 hh - has)))) σ' → V mX4_feedHouse 203 [(0, .ref L), (1, .int (nI hh)), (2, .int (nI harv)), (3, .int (nI has)), (4, .int f), (5, .int o), (6, .int i)] [] σ' Q := by
    intro σ' A' has o f i hR' e9 e5 hhas hQ
    have h7 := (hR'.2.2.2.2.2.2.1 hh (by omega)).1
    rw [e9] at h7
    refine wpB_sd (stops := []) kX4_feedHouse 20 _ _ _ _ ?_
    rcases hb with rfl | rfl <;>
    · refine ⟨aok (n := 4) rfl rfl (by omega), nm_r (rdn (by omega) h7) ?_⟩
      exact fin_i hQ (max0 (by omega) hhas)
  -- behind the loop
  have r124 : ∀ (σ' : Sg) (A' : St) (has : Nat) (op : Bool) (f i : Int32), RLd L σ' A' → WJ A' → (∀ g k, g ≠ 6 → A' g k = A g k) → FrE L σ σ' → has < 2 ^ 29 → (∀ σ'', RLd L σ'' (eatS A' hh has op) → FrE L σ σ'' → Q (some (.int (nI (A 9 hh - has)))) σ'') → V mX4_feedHouse 124 [(0, .ref L), (1, .int (nI hh)), (2, .int (nI harv)), (3, .int (nI has)), (4, .int f), (5, .int (bI (op = true))), (6, .int i)] [] σ' Q := by
    intro σ' A' has op f i hR' hW' hA' hF hhas hQ
    have hR1 : RLd L (sgu σ' (L + 3) hh 0) (stu A' 8 hh 0) := RLd_stock hR'
    have hF1 : FrE L σ (sgu σ' (L + 3) hh 0) := fun c a b => by rw [sgu_c a]; exact hF c a b
    have e9 : A' 9 hh = A 9 hh := hA' 9 hh (by omega)
    have e7 : A' 7 hh = A 7 hh := hA' 7 hh (by omega)
    have e5 : A' 12 5 = A 12 5 := hA' 12 5 (by omega)
    have e1 : A' 12 1 = A 12 1 := hA' 12 1 (by omega)
    have hr := hR1.2.2.2.2.2.2.1 hh (by show hh < stu A' 8 hh 0 12 5; rw [stu_f (by omega)]; omega)
    have hw9 : sgu σ' (L + 3) hh 0 (L + 1) hh = nI (A 9 hh) := by rw [hr.1, stu_f (by omega), e9]
    have hw7 : sgu σ' (L + 3) hh 0 (L + 2) hh = nI (A 7 hh) := by rw [hr.2.1, stu_f (by omega), e7]
    have hyr : sgu σ' (L + 3) hh 0 L 7 = nI (A 12 1) := by rw [hR1.2.2.2.1, stu_f (by omega), e1]
    have ea : sgu σ' (L + 3) hh 0 L 7 + nI (A 7 hh) = nI (A 12 1 + A 7 hh) := by rw [hyr, nI_add]
    have nos : ¬ (op = false ∧ A' 9 hh < has ∧ 0 < A' 7 hh ∧ A' 12 0 < 24) → V mX4_feedHouse 203 [(0, .ref L), (1, .int (nI hh)), (2, .int (nI harv)), (3, .int (nI has)), (4, .int f), (5, .int (bI (op = true))), (6, .int i)] [] (sgu σ' (L + 3) hh 0) Q := by
      intro hno
      refine r203 _ _ has _ f i hR1 (by rw [stu_f (by omega), e9]) (by rw [stu_f (by omega), e5]) (by omega) (hQ _ ?_ hF1)
      rw [eatS, if_neg hno]; exact hR1
    have hWs : WJ (stu A' 8 hh 0) := hW'
    have yes : (op = false ∧ A' 9 hh < has ∧ 0 < A' 7 hh ∧ A' 12 0 < 24) → ∀ σ2, RCel (L + 6) σ2 (addA (stu A' 8 hh 0) 0 hh (A 12 1 + A 7 hh) (if 99 < has - A 9 hh then 99 else has - A 9 hh) 5 (A 12 1)) → FrC (L + 6) (L + 6 + 6) (sgu σ' (L + 3) hh 0) σ2 → V mX4_feedHouse 203 [(0, .ref L), (1, .int (nI hh)), (2, .int (nI harv)), (3, .int (nI has)), (4, .int f), (5, .int (bI (op = true))), (6, .int i)] [] σ2 Q := by
      intro hyes σ2 hc2 hf2
      have hR2 := RLd_add hR1 hc2 (fun c hc => hf2 c (by omega))
      refine r203 _ _ has _ f i hR2 (by rw [addA_f (by omega) (by omega), stu_f (by omega), e9]) (by rw [addA_f (by omega) (by omega), stu_f (by omega), e5]) (by omega) (hQ _ ?_ (fun c a b => by rw [hf2 c (by omega)]; exact hF1 c a b))
      rw [eatS, if_pos hyes, e1, e7, e9]; exact hR2
    refine wpB_sd (stops := [203]) kX4_feedHouse 60 _ _ _ _ ?_
    rcases hb with rfl | rfl <;>
    · refine ast (n := 4) (j := hh) rfl rfl (by omega) ?_
      refine ⟨fun g => ?_, fun g => ?_⟩
      · have g : op = true := by
          by_cases q : op = true
          · exact q
          · exact absurd (bI_f q) g
        exact nos (fun q => by rw [g] at q; cases q.1)
      · have g : ¬ op = true := bI_0.mp g
        have g : op = false := by simpa using g
        refine ⟨aok (n := 4) rfl rfl (by omega), nm_r (rdn (by omega) hw9) ?_⟩
        refine ⟨fun g2 => ?_, fun g2 => ?_⟩
        · have g2 := (nI_leI (by omega) (by omega)).mp g2
          exact nos (fun q => by omega)
        · have g2 : ¬ has ≤ A 9 hh := fun q => g2 (nI_le q (by omega))
          refine ⟨aok (n := 4) rfl rfl (by omega), nm_r (rdn (by omega) hw7) ?_⟩
          refine ⟨fun g3 => ?_, fun g3 => ?_⟩
          · have g3 := (nI_leI (b := 0) (by omega) (by omega)).mp g3
            exact nos (fun q => by omega)
          · have g3 : ¬ A 7 hh ≤ 0 := fun q => g3 (nI_le (b := 0) q (by omega))
            refine s_isFull (A := stu A' 8 hh 0) (by first | exact Or.inl rfl | exact Or.inr rfl) hR1.1 hWs ?_
            refine ⟨fun g4 => ?_, fun g4 => ?_⟩
            · have g4 : 24 ≤ A' 12 0 := by
                by_cases q : 24 ≤ A' 12 0
                · exact q
                · exact absurd (bI_f q) g4
              exact nos (fun q => by omega)
            · have g4 : ¬ 24 ≤ A' 12 0 := bI_0.mp g4
              refine ⟨aok (n := 4) rfl rfl (by omega), nm_r (rdn (by omega) hw7) ?_⟩
              refine ⟨aok (n := 4) rfl rfl (by omega), nm_r (rdn (by omega) hw9) ?_⟩
              refine mAr ?_ (s_add (k := 0) (kp := 5) (hh := hh) (d := A 12 1 + A 7 hh) (q := if 99 < has - A 9 hh then 99 else has - A 9 hh) (y := A 12 1) (by first | exact Or.inl rfl | exact Or.inr rfl) hR1.1 hWs (by show A' 12 0 < 24; omega) (fun σ2 a b => ?_))
              · rw [ea, pk_sub (show A 9 hh ≤ has by omega), min99 (by omega), hyr]; rfl
              · exact yes ⟨g, by omega, by omega, by omega⟩ σ2 a b
  -- the loop
  have r57 : ∀ (op : Bool) (n : Nat) (A' : St) (has i : Nat) (σ' : Sg), i + n = 24 → RLd L σ' A' → WJ A' → (∀ g k, g ≠ 6 → A' g k = A g k) → FrE L σ σ' → has ≤ 2 ^ 28 + 198 * i → (∀ σ'' f' i', RLd L σ'' (eatL hh n A' has).1 → FrE L σ σ'' → V mX4_feedHouse 124 [(0, .ref L), (1, .int (nI hh)), (2, .int (nI harv)), (3, .int (nI (eatL hh n A' has).2)), (4, .int f'), (5, .int (bI (op = true))), (6, .int i')] [] σ'' Q) → V mX4_feedHouse 57 [(0, .ref L), (1, .int (nI hh)), (2, .int (nI harv)), (3, .int (nI has)), (4, .int (optI (nxA A' hh has))), (5, .int (bI (op = true))), (6, .int (nI i))] [] σ' Q := by
    intro op n
    induction n with
    | zero =>
      intro A' has i σ' hi hR' hW' hA' hF hhas hQ
      refine wpB_sd (stops := [124]) kX4_feedHouse 20 _ _ _ _ ?_
      refine br_t (nI_le (a := 24) (by omega) (by omega)) ?_
      exact hQ σ' _ _ hR' hF
    | succ n ih =>
      intro A' has i σ' hi hR' hW' hA' hF hhas hQ
      have e9 : A' 9 hh = A 9 hh := hA' 9 hh (by omega)
      have e5 : A' 12 5 = A 12 5 := hA' 12 5 (by omega)
      have e1 : A' 12 1 = A 12 1 := hA' 12 1 (by omega)
      have e3 : A' 12 3 = A 12 3 := hA' 12 3 (by omega)
      have e0 : A' 12 0 = A 12 0 := hA' 12 0 (by omega)
      have hj24 := hW'.1
      have hno := optI_no (o := nxA A' hh has) (fun j hj => by have := nxA_lt hj; omega)
      refine wpB_sd (stops := [57, 116, 124]) kX4_feedHouse 60 _ _ _ _ ?_
      refine br_f (nI_ge (b := 24) (by omega) (by omega)) ?_
      refine ⟨fun g => ?_, fun g => ?_⟩
      · have g := hno.mp g
        rw [eatL, g] at hQ
        exact hQ σ' _ _ hR' hF
      · cases hn : nxA A' hh has with
        | none => exact absurd (hno.mpr hn) g
        | some j =>
          rw [eatL, hn] at hQ
          have hj := nxA_lt hn
          have hfl := filA_le hW' (y := A' 12 1) hj.1
          have hyr : σ' L 7 = nI (A' 12 1) := hR'.2.2.2.1
          have mk : ∀ σ2, FrC (L + 6) (L + 6) σ' σ2 → FrE L σ σ2 := fun σ2 hf c a b => by rw [hf c (by omega)]; exact hF c a b
          have rr : ∀ σ2, RLd L σ2 (stu A' 6 j 1) → FrE L σ σ2 → V mX4_feedHouse 116 [(0, .ref L), (1, .int (nI hh)), (2, .int (nI harv)), (3, .int (nI (has + filA A' j (A' 12 1)))), (4, .int (optI (some j))), (5, .int (bI (op = true))), (6, .int (nI i))] [.int (optI (nxA (stu A' 6 j 1) hh (has + filA A' j (A' 12 1))))] σ2 Q := by
            intro σ2 hR2 hF2
            have := ih (stu A' 6 j 1) (has + filA A' j (A' 12 1)) (i + 1) σ2 (by omega) hR2 (WJ_g hW' (by omega)) (fun g k hg => by rw [stu_f hg]; exact hA' g k hg) hF2 (by omega) hQ
            rw [← nI_1] at this
            refine wpB_sd (stops := [57]) kX4_feedHouse 20 _ _ _ _ ?_
            exact this
          rcases hb with rfl | rfl <;>
          · refine mAr (by rw [hyr]; rfl) (s_takeOut (A := A') (j := j) (by first | exact Or.inl rfl | exact Or.inr rfl) hR'.1 hW' hj.1 (Nat.le_refl _) (by omega) (fun σ2 hc2 hf2 => ?_))
            have hR2 := RLd_g hR' hc2 (fun c hc => hf2 c (by omega))
            have hF2 := mk σ2 hf2
            have rr := rr σ2 hR2 hF2
            rw [← nI_add has] at rr
            have h9 := (hR2.2.2.2.2.2.2.1 hh (by show hh < A' 12 5; omega)).1
            have h9 : σ2 _ hh = nI (A' 9 hh) := h9
            refine ⟨aok (n := 4) rfl rfl (by omega), nm_r (rdn (by omega) h9) ?_⟩
            refine ⟨fun g2 => ?_, fun g2 => ?_⟩
            · rw [nI_add] at g2
              have g2 := (nI_leI (by omega) (by omega)).mp g2
              rw [nxA, if_neg (by show ¬ _ < A' 9 hh; omega)] at rr
              exact rr
            · rw [nI_add] at g2
              have g2 : ¬ A' 9 hh ≤ has + filA A' j (A' 12 1) := fun q => g2 (nI_le q (by omega))
              rw [nxA, if_pos (by show _ < A' 9 hh; omega)] at rr
              have q9 := hR2.2.2.2.2.1
              have q7 := hR2.2.2.2.1
              refine mAr (by rw [q9, q7]; rfl) (s_firstToOpen (A := stu A' 6 j 1) (hh := hh) (l := A' 12 3) (y := A' 12 1) (by first | exact Or.inl rfl | exact Or.inr rfl) hR2.1 (WJ_g hW' (by omega)) (by omega) (by omega) (by omega) ?_)
              exact rr
  have hys : σ L 7 = nI (A 12 1) := hR.2.2.2.1
  have hls : σ L 9 = nI (A 12 3) := hR.2.2.2.2.1
  have hrs := hR.2.2.2.2.2.2.1 hh hh2
  have hWJ := hW.1
  have he := eatL_w hh 24 A (harv + A 8 hh) hWJ
  have hno := optI_no (o := nxA A hh (harv + A 8 hh)) (fun j hj => by have := nxA_lt hj; have := hWJ.1; omega)
  have r39 : V mX4_feedHouse 39 [(0, .ref L), (1, .int (nI hh)), (2, .int (nI harv)), (3, .int (nI (harv + A 8 hh)))] [.int (optI (nxA A hh (harv + A 8 hh)))] σ Q := by
    have fin : ∀ op : Bool, op = (nxA A hh (harv + A 8 hh)).isSome → V mX4_feedHouse 57 [(0, .ref L), (1, .int (nI hh)), (2, .int (nI harv)), (3, .int (nI (harv + A 8 hh))), (4, .int (optI (nxA A hh (harv + A 8 hh)))), (5, .int (bI (op = true))), (6, .int (nI 0))] [] σ Q := by
      intro op hop
      refine r57 op 24 A (harv + A 8 hh) 0 σ (by omega) hR hWJ (fun _ _ _ => rfl) (fun _ _ _ => rfl) (by omega) (fun σ'' f' i' hR2 hF2 => ?_)
      refine r124 _ _ _ op f' i' hR2 he.1 (fun g k hg => eatL_f hh 24 A _ g k hg) hF2 (by omega) (fun σ3 hR3 hF3 => ?_)
      rw [hop] at hR3
      exact h σ3 hR3 hF3
    refine wpB_sd (stops := [57]) kX4_feedHouse 20 _ _ _ _ ?_
    refine ⟨fun g => ?_, fun g => ?_⟩
    · exact fin false (by rw [hno.mp g]; rfl)
    · refine fin true ?_
      cases hq : nxA A hh (harv + A 8 hh) with
      | none => exact absurd (hno.mpr hq) g
      | some j => rfl
  refine wpB_sd (stops := [39]) kX4_feedHouse 40 _ _ _ _ ?_
  rcases hb with rfl | rfl <;>
  · refine ⟨aok (n := 4) rfl rfl (by omega), nm_r (rdn (by omega) hrs.2.2) ?_⟩
    rw [← nI_add] at r39
    refine ⟨aok (n := 4) rfl rfl (by omega), nm_r (rdn (by omega) hrs.1) ?_⟩
    refine ⟨fun g2 => ?_, fun g2 => ?_⟩
    · rw [nI_add] at g2
      have g2 := (nI_leI (by omega) (by omega)).mp g2
      rw [nxA, if_neg (by omega)] at r39
      exact r39
    · rw [nI_add] at g2
      have g2 : ¬ A 9 hh ≤ harv + A 8 hh := fun q => g2 (nI_le q (by omega))
      rw [nxA, if_pos (by omega)] at r39
      refine mAr (by rw [hls, hys]) (s_firstToOpen (hh := hh) (l := A 12 3) (y := A 12 1) (by first | exact Or.inl rfl | exact Or.inr rfl) hR.1 hWJ (by omega) hlw (by omega) ?_)
      exact r39
