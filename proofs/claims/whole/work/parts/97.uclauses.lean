/-! the reference's reader: clauses -/
/-- the land that is being told, in the reference -/
def RV (σ : Sg) (A : St) : Prop := σ 89 8 = nI (A 12 6) ∧ σ 89 9 = nI (A 12 5) ∧ σ 89 10 = nI (A 12 0) ∧ (∀ k, k < A 12 6 → σ 92 (8 + k) = nI (A 10 k)) ∧ (∀ h, h < A 12 5 → σ 93 (4 + h) = nI (A 9 h) ∧ σ 94 (4 + h) = nI (A 7 h)) ∧ ∀ j, j < A 12 0 → σ 95 (5 * j) = nI (A 0 j) ∧ σ 95 (5 * j + 1) = nI (A 1 j) ∧ σ 95 (5 * j + 2) = nI (A 2 j) ∧ σ 95 (5 * j + 3) = nI (A 3 j) ∧ σ 95 (5 * j + 4) = nI (A 4 j)
def FrV (σ σ' : Sg) : Prop := (∀ c, c ≠ 89 → ¬ (92 ≤ c ∧ c ≤ 95) → σ' c = σ c) ∧ (∀ k, ¬ (8 ≤ k ∧ k ≤ 10) → ¬ (13 ≤ k ∧ k ≤ 17) → σ' 89 k = σ 89 k) ∧ (∀ k, k < 8 → σ' 92 k = σ 92 k) ∧ ∀ k, k < 4 → σ' 93 k = σ 93 k
theorem FrV.rf {σ : Sg} : FrV σ σ := ⟨fun _ _ _ => rfl, fun _ _ _ => rfl, fun _ _ => rfl, fun _ _ => rfl⟩
theorem FrV.tr {σ σ' σ'' : Sg} (h : FrV σ σ') (h2 : FrV σ' σ'') : FrV σ σ'' := ⟨fun c a b => (h2.1 c a b).trans (h.1 c a b), fun c a b => (h2.2.1 c a b).trans (h.2.1 c a b), fun c a => (h2.2.2.1 c a).trans (h.2.2.1 c a), fun c a => (h2.2.2.2 c a).trans (h.2.2.2 c a)⟩
theorem FrU.v {σ σ' : Sg} (h : FrU σ σ') : FrV σ σ' := ⟨fun c a _ => h.1 c a, fun k _ b => h.2 k b, fun k _ => by rw [h.1 92 (by omega)], fun k _ => by rw [h.1 93 (by omega)]⟩
theorem FrV.put {σ : Sg} {k : Nat} {v : Int32} (h : (8 ≤ k ∧ k ≤ 10) ∨ (13 ≤ k ∧ k ≤ 17)) : FrV σ (sgu σ 89 k v) := ⟨fun c a _ => sgu_c a, fun j a b => sgu_k (by omega), fun j _ => by rw [sgu_c (by omega)], fun j _ => by rw [sgu_c (by omega)]⟩
theorem FrV.arr {σ : Sg} {c k : Nat} {v : Int32} (h : (c = 92 ∧ 8 ≤ k) ∨ (c = 93 ∧ 4 ≤ k) ∨ c = 94 ∨ c = 95) : FrV σ (sgu σ c k v) := by
  refine ⟨fun d a b => sgu_c (by omega), fun j a b => by rw [sgu_c (by omega)], fun j hj => ?_, fun j hj => ?_⟩
  · rw [sgu_at, if_neg (by omega)]
  · rw [sgu_at, if_neg (by omega)]
theorem RV.fr {σ σ' : Sg} {A : St} (h : RV σ A) (h89 : ∀ k, 8 ≤ k → k ≤ 10 → σ' 89 k = σ 89 k) (hc : ∀ c, 92 ≤ c → c ≤ 95 → σ' c = σ c) : RV σ' A := by
  unfold RV at h ⊢
  rw [h89 8 (by omega) (by omega), h89 9 (by omega) (by omega), h89 10 (by omega) (by omega), hc 92 (by omega) (by omega), hc 93 (by omega) (by omega), hc 94 (by omega) (by omega), hc 95 (by omega) (by omega)]
  exact h
theorem RV.u {σ σ' : Sg} {A : St} (h : RV σ A) (hF : FrU σ σ') : RV σ' A := h.fr (fun k a b => hF.2 k (by omega)) (fun c a b => hF.1 c (by omega))
theorem ch_iff {T : Tx} {len p c : Nat} (hT : ∀ i, i < len → T i < 256) (hc : c < 256) : chI T len p = nI c ↔ (bl T len p < len ∧ T (bl T len p) = c) := by
  unfold chI
  by_cases q : bl T len p < len
  · rw [if_pos q]
    have := hT _ q
    rw [nI_eq (by omega) (by omega)]
    exact ⟨fun z => ⟨q, z⟩, fun z => z.2⟩
  · rw [if_neg q]
    refine ⟨fun z => ?_, fun z => absurd z.1 q⟩
    have : (0 : Int32) ≤ nI c := nI_pos' (by omega)
    rw [← z] at this
    exact absurd this (by decide)
def CU (T : Tx) (len : Nat) (r : Rz (Nat × St)) (σ : Sg) (Q : Option Value → Sg → Prop) : Prop := (∀ σ' p' q, r = .inl q → RU σ' T len p' (some q) → FrV σ σ' → Q none σ') ∧ ∀ σ' e B, r = .inr (e, B) → RU σ' T len e none → RV σ' B → FrV σ σ' → Q none σ'
theorem RV_hv {σ : Sg} {A : St} {v : Nat} {w : Int32} (h : RV σ A) (hw : w = nI (A 12 6 + 1)) : RV (sgu (sgu σ 92 (8 + A 12 6) (nI v)) 89 8 w) (hvA A v) := by
  obtain ⟨a, b, c, d, e, g⟩ := h
  have e6 : hvA A v 12 6 = A 12 6 + 1 := stu_s
  have eo : ∀ f k, f ≠ 10 → ¬ (f = 12 ∧ k = 6) → hvA A v f k = A f k := fun f k q z => by
    unfold hvA stu
    rw [if_neg z, if_neg (fun w => q w.1)]
  refine ⟨?_, ?_, ?_, fun k hk => ?_, fun k hk => ?_, fun k hk => ?_⟩
  · rw [sgu_s, e6]; exact hw
  · rw [sgu_k (by omega), sgu_c (by omega), eo _ _ (by omega) (by omega)]; exact b
  · rw [sgu_k (by omega), sgu_c (by omega), eo _ _ (by omega) (by omega)]; exact c
  · rw [e6] at hk
    rw [sgu_c (by omega)]
    by_cases z : k = A 12 6
    · subst z
      rw [sgu_s]; congr 1; unfold hvA; rw [stu_f (by omega), stu_s]
    · rw [sgu_k (by omega)]
      have : hvA A v 10 k = A 10 k := by unfold hvA; rw [stu_f (by omega), stu_k z]
      rw [this]; exact d k (by omega)
  · rw [eo 12 5 (by omega) (by omega)] at hk
    rw [sgu_c (by omega), sgu_c (by omega), sgu_c (by omega), sgu_c (by omega), eo _ _ (by omega) (by omega), eo _ _ (by omega) (by omega)]
    exact e k hk
  · rw [eo 12 0 (by omega) (by omega)] at hk
    rw [sgu_c (by omega), sgu_c (by omega), eo _ _ (by omega) (by omega), eo _ _ (by omega) (by omega), eo _ _ (by omega) (by omega), eo _ _ (by omega) (by omega), eo _ _ (by omega) (by omega)]
    exact g k hk
set_option maxRecDepth 100000 in
set_option maxHeartbeats 2000000 in
theorem m_takeHarvest {σ : Sg} {T : Tx} {len p : Nat} {A : St} {Q : Option Value → Sg → Prop} (hS : RU σ T len p none) (hV : RV σ A) (h6 : A 12 6 = 0) (h : CU T len (bdHv T len p A) σ Q) : MetA mX8_takeHarvest [.ref 89] σ Q := by
  refine MetA_of qX8_takeHarvest (Nat.le_of_ble_eq_true rfl) ?_
  have out : ∀ σ', Q none σ' → V mX8_takeHarvest 2 [(0, .ref 89), (1, .int 0)] [] σ' Q := by
    intro σ' hq
    refine wpB_sd (stops := []) kX8_takeHarvest 30 _ _ _ _ ?_
    exact br_t rfl hq
  have loop : ∀ n i p' B σ', i + n = 8 → 0 < n → B 12 6 = i → bdHv T len p A = (match numS T len p' 0 100 with
      | .inl f => .inl f
      | .inr (v, e) => hvS T len (7 - i) e (hvA B v)) → RU σ' T len p' none → RV σ' B → FrV σ σ' → V mX8_takeHarvest 2 [(0, .ref 89), (1, .int 1)] [] σ' Q := by
    intro n
    induction n with
    | zero => intro i p' B σ' _ h0; omega
    | succ n ih =>
      intro i p' B σ' hi _ h6B hr hS' hV' hF
      have hp' := hS'.2.2.2.1
      have hT9 := hS'.2.2.2.2.2.1
      refine wpB_sd (stops := [2]) kX8_takeHarvest 80 _ _ _ _ ?_
      refine br_f (by decide) ?_
      refine mAr (by rfl) (m_takeNumber (lo := 0) (hi := 100) (m := 99) hS' (by omega) (by omega) (by decide) (fun σ1 p1 f1 v hS1 n1 hF1 => ?_))
      refine ast (n := 16) (j := 8 + i) rfl (by rw [hV'.1, h6B]; exact nI_add 8 i) (by omega) ?_
      have hV1 : RV σ1 B := hV'.u hF1
      have e8 : sgu σ1 92 (8 + i) v 89 8 = nI i := by rw [sgu_c (by omega), hV1.1, h6B]
      have hS2 : RU (sgu (sgu σ1 92 (8 + i) v) 89 8 (sgu σ1 92 (8 + i) v 89 8 + 1)) T len p1 f1 := (hS1.fr (σ' := sgu σ1 92 (8 + i) v) (fun k a b => by rw [sgu_c (by omega)]) (by rw [sgu_c (by omega)])).put (by omega) (by omega) (by omega) (by omega)
      have hF2 : FrV σ (sgu (sgu σ1 92 (8 + i) v) 89 8 (sgu σ1 92 (8 + i) v 89 8 + 1)) := ((hF.tr hF1.v).tr (FrV.arr (by omega))).tr (FrV.put (by omega))
      cases hnm : numS T len p' 0 100 with
      | inl q =>
        have f1e := n1.inl rfl hnm
        subst f1e
        rw [hnm] at hr
        refine bn_f (fun z => ?_) ?_
        · rw [hS2.2.2.2.2.2.2.1] at z
          have := (fn_0 hS2.2.2.2.2.2.2.2.2).mp z
          simp at this
        · refine br_t rfl ?_
          exact out _ (h.1 _ _ q hr hS2 hF2)
      | inr x =>
        obtain ⟨w, e⟩ := x
        obtain ⟨f1n, ve, pe⟩ := n1.inr rfl hnm
        dsimp only at ve pe
        subst f1n ve pe
        rw [hnm] at hr
        dsimp only at hr
        obtain ⟨a1, a2, a3, a4⟩ := numS_in hp' hnm
        have hV2 : RV (sgu (sgu σ1 92 (8 + i) (nI w)) 89 8 (sgu σ1 92 (8 + i) (nI w) 89 8 + 1)) (hvA B w) := by
          rw [e8, nI_1, ← h6B]
          exact RV_hv hV1 rfl
        refine bn_t (by rw [hS2.2.2.2.2.2.2.1]; rfl) ?_
        refine m_here hS2 (fun σ3 hS3 hF3 => ?_)
        have hV3 := hV2.u hF3.u
        have hF03 := hF2.tr hF3.u.v
        have e83 : σ3 89 8 = nI (i + 1) := by rw [hF3.2 8 (by omega) (by omega) (by omega), sgu_s, e8, nI_1]
        have hle := bl_le (T := T) a4
        refine ⟨fun g => ?_, fun g => ?_⟩
        · have g : ¬ (bl T len p1 < len ∧ T (bl T len p1) = 44) := fun z => g ((ch_iff (c := 44) hT9 (by omega)).mpr z)
          refine br_t rfl ?_
          refine out _ (h.2 σ3 (bl T len p1) (hvA B w) ?_ hS3 hV3 hF03)
          rw [hr]
          cases (7 - i) with
          | zero => rw [hvS, if_neg g]
          | succ k => rw [hvS, if_neg g]
        · have g := (ch_iff (c := 44) hT9 (by omega)).mp g
          refine br_f (by decide) ?_
          by_cases hc : i + 1 < 8
          · refine br_f (by rw [e83]; exact nI_ge (b := 8) hc (by omega)) ?_
            refine mAr (by rw [hS3.2.2.1]; rfl) (m_want (k := 1) (w := bl T len p1) (c := True) (g := 1) hS3 ⟨fun z => absurd z (by decide), fun z => absurd trivial z⟩ (by omega) (by omega) (fun σ4 hS4 hF4 h13 => ?_))
            simp only [if_true] at hS4 ⊢
            have nxt := ih (i + 1) (bl T len p1 + 1) (hvA B w) (sgu σ4 89 13 (σ4 89 13 + 1)) (by omega) (by omega) (by unfold hvA; rw [stu_s, h6B]) ?_ (hS4.at (by omega) (by rw [hS4.2.2.1, nI_1])) ((hV3.u hF4.u).u FrA.at.u) ((hF03.tr hF4.u.v).tr FrA.at.u.v)
            · exact nxt
            · rw [hr]
              rw [show 7 - i = 7 - (i + 1) + 1 by omega, hvS, if_pos g]
              cases numS T len (bl T len p1 + 1) 0 100 <;> rfl
          · have hc8 : i = 7 := by omega
            refine br_t (by rw [e83]; exact nI_le (a := 8) (by omega) (by omega)) ?_
            refine mAr (by rw [hS3.2.2.1]; rfl) (m_want (k := 1) (w := bl T len p1) (c := False) (g := 0) hS3 ⟨fun _ z => z, fun _ => rfl⟩ (by omega) (by omega) (fun σ4 hS4 hF4 h13 => ?_))
            simp only [if_false] at hS4 ⊢
            refine out _ (h.1 _ (bl T len p1 + 1) (1, bl T len p1) ?_ (hS4.at (by omega) (by rw [hS4.2.2.1, nI_1])) ((hF03.tr hF4.u.v).tr FrA.at.u.v))
            rw [hr, hc8]
            rw [show 7 - 7 = 0 by omega, hvS, if_pos g]
  refine wpB_sd (stops := [2]) kX8_takeHarvest 30 _ _ _ _ ?_
  exact loop 8 0 p A σ (by omega) (by omega) h6 rfl hS hV FrV.rf
