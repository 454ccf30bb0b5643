/-! the class's reader: clauses -/
def kdS (T : Tx) (len p : Nat) : Rz (Nat × Nat) := match knd T (bl T len p) (lt T len (bl T len p)) with
  | none => .inl (1, bl T len p)
  | some k => .inr (k, lt T len (bl T len p))
set_option maxRecDepth 100000 in
theorem s_readKind {σ : Sg} {T : Tx} {len p : Nat} {f : Fl} {Q : Option Value → Sg → Prop} (hS : RS σ T len p f) (h : ∀ σ' p' f' v, RS σ' T len p' f' → NR (kdS T len p) f f' (fun x => v = nI x.1 ∧ p' = x.2) → FrR σ σ' → Q (some (.int v)) σ') : MetA mX6_readKind [.ref 55] σ Q := by
  refine MetA_of qX6_readKind (Nat.le_of_ble_eq_true rfl) ?_
  have hp := hS.2.2.2.1
  have hb := bl_le (T := T) hp
  have hlt := lt_ge (T := T) (len := len) (p := bl T len p)
  refine wpB_sd (stops := []) kX6_readKind 60 _ _ _ _ ?_
  refine s_skipBlanks hS (fun σ1 hS1 hF1 => ?_)
  refine s_skipLetters hS1 (fun σ2 hS2 hF2 => ?_)
  have hF := hF1.tr hF2
  refine mAr (by rw [hS1.2.2.1]) (s_wordIs (i := 3) (s := bl T len p) hS2 (by omega) hlt ?_)
  refine ⟨fun g => ?_, fun g => h σ2 _ f _ hS2 (NR_ok (a := (0, lt T len (bl T len p))) (by unfold kdS knd; rw [if_pos (show IsWd T (bl T len p) (lt T len (bl T len p)) wPlain from bI_n0 g)]) ⟨rfl, rfl⟩) hF⟩
  have g3 : ¬ IsWd T (bl T len p) (lt T len (bl T len p)) wPlain := bI_0.mp g
  refine mAr (by rw [hS1.2.2.1]) (s_wordIs (i := 4) (s := bl T len p) hS2 (by omega) hlt ?_)
  refine ⟨fun g => ?_, fun g => h σ2 _ f _ hS2 (NR_ok (a := (1, lt T len (bl T len p))) (by unfold kdS knd; rw [if_neg g3, if_pos (show IsWd T (bl T len p) (lt T len (bl T len p)) wPlum from bI_n0 g)]) ⟨rfl, rfl⟩) hF⟩
  have g4 : ¬ IsWd T (bl T len p) (lt T len (bl T len p)) wPlum := bI_0.mp g
  refine mAr (by rw [hS1.2.2.1]) (s_wordIs (i := 5) (s := bl T len p) hS2 (by omega) hlt ?_)
  refine ⟨fun g => ?_, fun g => h σ2 _ f _ hS2 (NR_ok (a := (2, lt T len (bl T len p))) (by unfold kdS knd; rw [if_neg g3, if_neg g4, if_pos (show IsWd T (bl T len p) (lt T len (bl T len p)) wGlass from bI_n0 g)]) ⟨rfl, rfl⟩) hF⟩
  have g5 : ¬ IsWd T (bl T len p) (lt T len (bl T len p)) wGlass := bI_0.mp g
  refine mAr (by rw [hS1.2.2.1]; rfl) (s_fail (k := 1) (w := bl T len p) hS2 (by omega) (by omega) (fun σ3 hS3 hF3 => ?_))
  exact h σ3 _ _ _ hS3 (NR_fail (by unfold kdS knd; rw [if_neg g3, if_neg g4, if_neg g5])) (hF.tr hF3)
/-- the land that is being told -/
def RT (σ : Sg) (A : St) : Prop := RCel 20 σ A ∧ σ 14 0 = nI (A 12 5) ∧ σ 14 5 = nI (A 12 6) ∧ σ 14 7 = nI (A 12 1) ∧ σ 14 8 = 0 ∧ (∀ h, h < A 12 5 → σ 15 h = nI (A 9 h) ∧ σ 16 h = nI (A 7 h) ∧ σ 17 h = nI (A 8 h)) ∧ ∀ k, k < A 12 6 → σ 19 k = nI (A 10 k)
theorem RT.fr {σ σ' : Sg} {A : St} (h : RT σ A) (hf : ∀ c, 14 ≤ c → c ≤ 26 → σ' c = σ c) : RT σ' A := by
  obtain ⟨a, b, c, d, e, g, i⟩ := h
  refine ⟨a.fr (fun c h1 h2 => hf c (by omega) (by omega)), ?_, ?_, ?_, ?_, ?_, ?_⟩
  · rw [hf 14 (by omega) (by omega)]; exact b
  · rw [hf 14 (by omega) (by omega)]; exact c
  · rw [hf 14 (by omega) (by omega)]; exact d
  · rw [hf 14 (by omega) (by omega)]; exact e
  · rw [hf 15 (by omega) (by omega), hf 16 (by omega) (by omega), hf 17 (by omega) (by omega)]; exact g
  · rw [hf 19 (by omega) (by omega)]; exact i
def FrK (σ σ' : Sg) : Prop := ∀ c, ¬ (14 ≤ c ∧ c ≤ 26) → c ≠ 55 → σ' c = σ c
theorem FrK.rf {σ : Sg} : FrK σ σ := fun _ _ _ => rfl
theorem FrK.tr {σ σ' σ'' : Sg} (h : FrK σ σ') (h2 : FrK σ' σ'') : FrK σ σ'' := fun c a b => (h2 c a b).trans (h c a b)
theorem FrR.k {σ σ' : Sg} (h : FrR σ σ') : FrK σ σ' := fun c _ b => h.1 c b
theorem FrC.k {σ σ' : Sg} {lo hi : Nat} (h : FrC lo hi σ σ') (h1 : 14 ≤ lo) (h2 : hi ≤ 26) : FrK σ σ' := fun c a _ => h c (by omega)
theorem RS.fr {σ σ' : Sg} {T : Tx} {len p : Nat} {f : Fl} (h : RS σ T len p f) (h55 : σ' 55 = σ 55) (h56 : σ' 56 = σ 56) : RS σ' T len p f := by
  unfold RS at h ⊢
  rw [h55, h56]; exact h
set_option maxRecDepth 100000 in
theorem s_addHouse {σ : Sg} {A : St} {w s : Int32} {Q : Option Value → Sg → Prop} (hT : RT σ A) (h5 : A 12 5 < 4) (h : ∀ σ', FrC 14 17 σ σ' → (∀ a b, w = nI a → s = nI b → RT σ' (hoA A a b)) → Q none σ') : MetA mX4_addHouse [.ref 14, .int w, .int s] σ Q := by
  refine MetA_of qX4_addHouse (Nat.le_of_ble_eq_true rfl) ?_
  obtain ⟨a, b, c, d, e, g, i⟩ := hT
  refine wpB_sd (stops := []) kX4_addHouse 60 _ _ _ _ ?_
  refine br_t (by rw [b]; exact nI_lt (b := 4) h5 (by omega)) ?_
  refine ast (n := 4) (j := A 12 5) rfl b (by omega) ?_
  refine ast (n := 4) (j := A 12 5) rfl (by rw [sgu_c (by omega)]; exact b) (by omega) ?_
  refine ast (n := 4) (j := A 12 5) rfl (by rw [sgu_c (by omega), sgu_c (by omega)]; exact b) (by omega) ?_
  refine h _ (fun c hc => by rw [sgu_c (by omega), sgu_c (by omega), sgu_c (by omega), sgu_c (by omega)]) ?_
  rintro x y rfl rfl
  have e5 : hoA A x y 12 5 = A 12 5 + 1 := stu_s
  have eo : ∀ f k, (f ≠ 9 ∧ f ≠ 7 ∧ f ≠ 8) → ¬ (f = 12 ∧ k = 5) → hoA A x y f k = A f k := fun f k q z => by
    unfold hoA stu
    rw [if_neg z, if_neg (fun w => q.2.2 w.1), if_neg (fun w => q.2.1 w.1), if_neg (fun w => q.1 w.1)]
  have ek : ∀ f k, k ≠ A 12 5 → f ≠ 12 → hoA A x y f k = A f k := fun f k q z => by
    unfold hoA stu
    rw [if_neg (fun w => z w.1), if_neg (fun w => q w.2), if_neg (fun w => q w.2), if_neg (fun w => q w.2)]
  refine ⟨?_, ?_, ?_, ?_, ?_, fun k hk => ?_, fun k hk => ?_⟩
  · have r : RCel 20 σ (hoA A x y) := by
      unfold RCel at a ⊢
      rw [eo 12 0 (by omega) (by omega), show hoA A x y 6 = A 6 from funext fun k => eo 6 k (by omega) (by omega)]
      refine ⟨a.1, a.2.1, fun j hj => ?_⟩
      rw [eo 0 j (by omega) (by omega), eo 1 j (by omega) (by omega), eo 2 j (by omega) (by omega), eo 3 j (by omega) (by omega), eo 4 j (by omega) (by omega), eo 5 j (by omega) (by omega)]
      exact a.2.2 j hj
    exact r.fr (fun c h1 h2 => by rw [sgu_c (by omega), sgu_c (by omega), sgu_c (by omega), sgu_c (by omega)])
  · rw [sgu_s, sgu_c (by omega), sgu_c (by omega), sgu_c (by omega), b, nI_1, e5]
  · rw [sgu_k (by omega), sgu_c (by omega), sgu_c (by omega), sgu_c (by omega), eo _ _ (by omega) (by omega)]; exact c
  · rw [sgu_k (by omega), sgu_c (by omega), sgu_c (by omega), sgu_c (by omega), eo _ _ (by omega) (by omega)]; exact d
  · rw [sgu_k (by omega), sgu_c (by omega), sgu_c (by omega), sgu_c (by omega)]; exact e
  · rw [e5] at hk
    by_cases z : k = A 12 5
    · subst z
      refine ⟨?_, ?_, ?_⟩
      · rw [sgu_c (by omega), sgu_c (by omega), sgu_c (by omega), sgu_s]; congr 1; unfold hoA; rw [stu_f (by omega), stu_f (by omega), stu_f (by omega), stu_s]
      · rw [sgu_c (by omega), sgu_c (by omega), sgu_s]; congr 1; unfold hoA; rw [stu_f (by omega), stu_f (by omega), stu_s]
      · rw [sgu_c (by omega), sgu_s]; show nI 0 = _; congr 1; unfold hoA; rw [stu_f (by omega), stu_s]
    · have gk := g k (by omega)
      refine ⟨?_, ?_, ?_⟩
      · rw [sgu_c (by omega), sgu_c (by omega), sgu_c (by omega), sgu_k z, ek _ _ z (by omega)]; exact gk.1
      · rw [sgu_c (by omega), sgu_c (by omega), sgu_k z, sgu_c (by omega), ek _ _ z (by omega)]; exact gk.2.1
      · rw [sgu_c (by omega), sgu_k z, sgu_c (by omega), sgu_c (by omega), ek _ _ z (by omega)]; exact gk.2.2
  · rw [eo 12 6 (by omega) (by omega)] at hk
    rw [sgu_c (by omega), sgu_c (by omega), sgu_c (by omega), sgu_c (by omega), eo _ _ (by omega) (by omega)]
    exact i k hk
set_option maxRecDepth 100000 in
theorem s_addHarvest {σ : Sg} {A : St} {w : Int32} {Q : Option Value → Sg → Prop} (hT : RT σ A) (h6 : A 12 6 < 8) (h : ∀ σ', FrC 14 19 σ σ' → (∀ a, w = nI a → RT σ' (hvA A a)) → Q none σ') : MetA mX4_addHarvest [.ref 14, .int w] σ Q := by
  refine MetA_of qX4_addHarvest (Nat.le_of_ble_eq_true rfl) ?_
  obtain ⟨a, b, c, d, e, g, i⟩ := hT
  refine wpB_sd (stops := []) kX4_addHarvest 60 _ _ _ _ ?_
  refine br_t (by rw [c]; exact nI_lt (b := 8) h6 (by omega)) ?_
  refine ast (n := 8) (j := A 12 6) rfl c (by omega) ?_
  refine h _ (fun c hc => by rw [sgu_c (by omega), sgu_c (by omega)]) ?_
  rintro x rfl
  have e6 : hvA A x 12 6 = A 12 6 + 1 := stu_s
  have eo : ∀ f k, f ≠ 10 → ¬ (f = 12 ∧ k = 6) → hvA A x f k = A f k := fun f k q z => by
    unfold hvA stu
    rw [if_neg z, if_neg (fun w => q w.1)]
  refine ⟨?_, ?_, ?_, ?_, ?_, fun k hk => ?_, fun k hk => ?_⟩
  · have r : RCel 20 σ (hvA A x) := by
      unfold RCel at a ⊢
      rw [eo 12 0 (by omega) (by omega), show hvA A x 6 = A 6 from funext fun k => eo 6 k (by omega) (by omega)]
      refine ⟨a.1, a.2.1, fun j hj => ?_⟩
      rw [eo 0 j (by omega) (by omega), eo 1 j (by omega) (by omega), eo 2 j (by omega) (by omega), eo 3 j (by omega) (by omega), eo 4 j (by omega) (by omega), eo 5 j (by omega) (by omega)]
      exact a.2.2 j hj
    exact r.fr (fun c h1 h2 => by rw [sgu_c (by omega), sgu_c (by omega)])
  · rw [sgu_k (by omega), sgu_c (by omega), eo _ _ (by omega) (by omega)]; exact b
  · rw [sgu_s, sgu_c (by omega), c, nI_1, e6]
  · rw [sgu_k (by omega), sgu_c (by omega), eo _ _ (by omega) (by omega)]; exact d
  · rw [sgu_k (by omega), sgu_c (by omega)]; exact e
  · rw [eo 12 5 (by omega) (by omega)] at hk
    rw [sgu_c (by omega), sgu_c (by omega), sgu_c (by omega), sgu_c (by omega), sgu_c (by omega), sgu_c (by omega), eo _ _ (by omega) (by omega), eo _ _ (by omega) (by omega), eo _ _ (by omega) (by omega)]
    exact g k hk
  · rw [e6] at hk
    rw [sgu_c (by omega)]
    by_cases z : k = A 12 6
    · subst z
      rw [sgu_s]; congr 1; unfold hvA; rw [stu_f (by omega), stu_s]
    · rw [sgu_k z]
      have : hvA A x 10 k = A 10 k := by unfold hvA; rw [stu_f (by omega), stu_k z]
      rw [this]
      exact i k (by omega)
set_option maxRecDepth 100000 in
set_option maxHeartbeats 1000000 in
theorem s_addW {σ : Sg} {A : St} {k h d q kp y : Int32} {Q : Option Value → Sg → Prop} (hR : RCel 20 σ A) (hW : WJ A) (hn : A 12 0 < 24) (hQ : ∀ σ', FrC 20 26 σ σ' → Q none σ') : MetA mX1_add [.ref 20, .int k, .int h, .int d, .int q, .int kp, .int y] σ Q := by
  refine MetA_of qX1_add (Nat.le_of_ble_eq_true rfl) ?_
  have e0 := hR.1
  refine wpB_sd (stops := []) kX1_add 80 _ _ _ _ ?_
  refine s_isFull (Or.inr rfl) hR hW ?_
  rw [bI_f (by omega)]
  refine br_t (by rfl) ?_
  refine ast (n := 24) (j := A 12 0) rfl e0 (by omega) ?_
  refine ast (n := 24) (j := A 12 0) rfl (by rw [sgu_c (by omega)]; exact e0) (by omega) ?_
  refine ast (n := 24) (j := A 12 0) rfl (by rw [sgu_c (by omega), sgu_c (by omega)]; exact e0) (by omega) ?_
  refine ast (n := 24) (j := A 12 0) rfl (by rw [sgu_c (by omega), sgu_c (by omega), sgu_c (by omega)]; exact e0) (by omega) ?_
  refine ast (n := 24) (j := A 12 0) rfl (by rw [sgu_c (by omega), sgu_c (by omega), sgu_c (by omega), sgu_c (by omega)]; exact e0) (by omega) ?_
  refine ast (n := 24) (j := A 12 0) rfl (by rw [sgu_c (by omega), sgu_c (by omega), sgu_c (by omega), sgu_c (by omega), sgu_c (by omega)]; exact e0) (by omega) ?_
  refine hQ _ (fun c hc => by rw [sgu_c (by omega), sgu_c (by omega), sgu_c (by omega), sgu_c (by omega), sgu_c (by omega), sgu_c (by omega), sgu_c (by omega), sgu_c (by omega)])
theorem RT_add {σ σ' : Sg} {A : St} {k h d q kp : Nat} (hT : RT σ A) (hc : RCel 20 σ' (addA A k h d q kp 0)) (hF : FrC 20 26 σ σ') : RT σ' (addA A k h d q kp 0) := by
  obtain ⟨a, b, c, dd, e, g, i⟩ := hT
  have hf : ∀ f j, 6 < f → ¬ (f = 12 ∧ j = 0) → addA A k h d q kp 0 f j = A f j := fun f j a b => addA_f a b
  refine ⟨hc, ?_, ?_, ?_, ?_, ?_, ?_⟩
  · rw [hF 14 (by omega), hf _ _ (by omega) (by omega)]; exact b
  · rw [hF 14 (by omega), hf _ _ (by omega) (by omega)]; exact c
  · rw [hF 14 (by omega), hf _ _ (by omega) (by omega)]; exact dd
  · rw [hF 14 (by omega)]; exact e
  · rw [hF 15 (by omega), hF 16 (by omega), hF 17 (by omega), hf 12 5 (by omega) (by omega)]
    intro x hx
    rw [hf _ _ (by omega) (by omega), hf _ _ (by omega) (by omega), hf _ _ (by omega) (by omega)]
    exact g x hx
  · rw [hF 19 (by omega), hf 12 6 (by omega) (by omega)]
    intro x hx
    rw [hf _ _ (by omega) (by omega)]
    exact i x hx
