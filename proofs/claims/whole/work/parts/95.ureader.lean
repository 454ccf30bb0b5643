/-! the reference's reader: leaves -/
def RU (σ : Sg) (T : Tx) (len p : Nat) (f : Fl) : Prop := σ 89 12 = nI len ∧ len ≤ 400 ∧ σ 89 13 = nI p ∧ p ≤ len ∧ (∀ i, i < len → σ 96 i = nI (T i)) ∧ (∀ i, i < len → T i < 256) ∧ σ 89 16 = fnI f ∧ σ 89 17 = fbI f ∧ fOK f
def FrU (σ σ' : Sg) : Prop := (∀ c, c ≠ 89 → σ' c = σ c) ∧ ∀ k, ¬ (13 ≤ k ∧ k ≤ 17) → σ' 89 k = σ 89 k
def FrA (σ σ' : Sg) : Prop := (∀ c, c ≠ 89 → σ' c = σ c) ∧ ∀ k, k ≠ 13 → k ≠ 16 → k ≠ 17 → σ' 89 k = σ 89 k
theorem FrU.rf {σ : Sg} : FrU σ σ := ⟨fun _ _ => rfl, fun _ _ => rfl⟩
theorem FrU.tr {σ σ' σ'' : Sg} (h : FrU σ σ') (h2 : FrU σ' σ'') : FrU σ σ'' := ⟨fun c hc => (h2.1 c hc).trans (h.1 c hc), fun k hk => (h2.2 k hk).trans (h.2 k hk)⟩
theorem FrA.rf {σ : Sg} : FrA σ σ := ⟨fun _ _ => rfl, fun _ _ _ _ => rfl⟩
theorem FrA.tr {σ σ' σ'' : Sg} (h : FrA σ σ') (h2 : FrA σ' σ'') : FrA σ σ'' := ⟨fun c hc => (h2.1 c hc).trans (h.1 c hc), fun k a b d => (h2.2 k a b d).trans (h.2 k a b d)⟩
theorem FrA.u {σ σ' : Sg} (h : FrA σ σ') : FrU σ σ' := ⟨h.1, fun k hk => h.2 k (by omega) (by omega) (by omega)⟩
theorem FrA.at {σ : Sg} {v : Int32} : FrA σ (sgu σ 89 13 v) := ⟨fun c hc => sgu_c hc, fun k a _ _ => sgu_k a⟩
theorem RU.at {σ : Sg} {T : Tx} {len p p' : Nat} {f : Fl} {v : Int32} (h : RU σ T len p f) (hp : p' ≤ len) (hv : v = nI p') : RU (sgu σ 89 13 v) T len p' f := by
  obtain ⟨a, b, c, d, e, g, i, j, k⟩ := h
  refine ⟨by rw [sgu_k (by omega)]; exact a, b, by rw [sgu_s]; exact hv, hp, fun q hq => by rw [sgu_c (by omega)]; exact e q hq, g, by rw [sgu_k (by omega)]; exact i, by rw [sgu_k (by omega)]; exact j, k⟩
theorem RU.put {σ : Sg} {T : Tx} {len p k : Nat} {f : Fl} {v : Int32} (h : RU σ T len p f) (h1 : k ≠ 12) (h2 : k ≠ 13) (h3 : k ≠ 16) (h4 : k ≠ 17) : RU (sgu σ 89 k v) T len p f := by
  obtain ⟨a, b, c, d, e, g, i, j, o⟩ := h
  exact ⟨by rw [sgu_k (by omega)]; exact a, b, by rw [sgu_k (by omega)]; exact c, d, fun q hq => by rw [sgu_c (by omega)]; exact e q hq, g, by rw [sgu_k (by omega)]; exact i, by rw [sgu_k (by omega)]; exact j, o⟩
theorem RU.fr {σ σ' : Sg} {T : Tx} {len p : Nat} {f : Fl} (h : RU σ T len p f) (h89 : ∀ k, 12 ≤ k → k ≤ 17 → σ' 89 k = σ 89 k) (h96 : σ' 96 = σ 96) : RU σ' T len p f := by
  obtain ⟨a, b, c, d, e, g, i, j, o⟩ := h
  exact ⟨by rw [h89 12 (by omega) (by omega)]; exact a, b, by rw [h89 13 (by omega) (by omega)]; exact c, d, by rw [h96]; exact e, g, by rw [h89 16 (by omega) (by omega)]; exact i, by rw [h89 17 (by omega) (by omega)]; exact j, o⟩
theorem uld {σ : Sg} {T : Tx} {len p : Nat} {f : Fl} {i : Int32} {j : Nat} {P : Int32 → Prop} (h : RU σ T len p f) (hi : i = nI j) (hj : j < len) (k : P (nI (T j))) : aOK 96 1 i ∧ ∀ v : Int32, v = σ 96 i.toNatClampNeg → P v := by
  have hl := h.2.1
  exact ald (n := 400) (j := j) rfl hi (by omega) (h.2.2.2.2.1 j hj) k
def chI (T : Tx) (len p : Nat) : Int32 := if bl T len p < len then nI (T (bl T len p)) else -1
set_option maxRecDepth 100000 in
theorem m_here {σ : Sg} {T : Tx} {len p : Nat} {f : Fl} {Q : Option Value → Sg → Prop} (hS : RU σ T len p f) (h : ∀ σ', RU σ' T len (bl T len p) f → FrA σ σ' → Q (some (.int (chI T len p))) σ') : MetA mX8_here [.ref 89] σ Q := by
  refine MetA_of qX8_here (Nat.le_of_ble_eq_true rfl) ?_
  have hl := hS.2.1
  have hp := hS.2.2.2.1
  have hle := bl_le (T := T) hp
  have at38 : ∀ σ', RU σ' T len (bl T len p) f → FrA σ σ' → V mX8_here 38 [(0, .ref 89)] [] σ' Q := by
    intro σ' hS' hF
    have fin := h σ' hS' hF
    refine wpB_sd (stops := []) kX8_here 30 _ _ _ _ ?_
    refine ⟨fun g => ?_, fun g => ?_⟩
    · rw [hS'.1, hS'.2.2.1] at g
      have g := (nI_leI (by omega) (by omega)).mp g
      refine fin_i fin ?_
      unfold chI; rw [if_neg (by omega)]
    · rw [hS'.1, hS'.2.2.1] at g
      have g : bl T len p < len := Nat.lt_of_not_le (fun q => g (nI_le q (by omega)))
      refine uld hS' hS'.2.2.1 g ?_
      refine fin_i fin ?_
      unfold chI; rw [if_pos g]
  have loop : ∀ m p' σ', p' + m = bl T len p → p ≤ p' → RU σ' T len p' f → FrA σ σ' → V mX8_here 0 [(0, .ref 89)] [] σ' Q := by
    intro m
    induction m with
    | zero =>
      intro p' σ' hm hpp hS' hF
      have hm : p' = bl T len p := by omega
      subst hm
      refine wpB_sd (stops := [0, 38]) kX8_here 30 _ _ _ _ ?_
      rcases Nat.lt_or_ge (bl T len p) len with q | q
      · have hb : isB (T (bl T len p)) = false := spn_end (P := isB) (T := T) hp q
        have hb : T (bl T len p) ≠ 32 := of_decide_eq_false hb
        have ht := hS'.2.2.2.2.2.1 _ q
        refine br_f (by rw [hS'.1, hS'.2.2.1]; exact nI_ge q (by omega)) ?_
        refine uld hS' hS'.2.2.1 q ?_
        refine bn_f (fun z => hb ((nI_eq (b := 32) (by omega) (by omega)).mp z)) ?_
        exact at38 σ' hS' hF
      · refine br_t (by rw [hS'.1, hS'.2.2.1]; exact nI_le q (by omega)) ?_
        exact at38 σ' hS' hF
    | succ m ih =>
      intro p' σ' hm hpp hS' hF
      have hb : isB (T p') = true := spn_in hpp (show p' < bl T len p by omega)
      have hb : T p' = 32 := of_decide_eq_true hb
      refine wpB_sd (stops := [0, 38]) kX8_here 30 _ _ _ _ ?_
      refine br_f (by rw [hS'.1, hS'.2.2.1]; exact nI_ge (by omega) (by omega)) ?_
      refine uld hS' hS'.2.2.1 (by omega) ?_
      refine bn_t (by rw [hb]; rfl) ?_
      exact ih (p' + 1) _ (by omega) (by omega) (hS'.at (p' := p' + 1) (by omega) (by rw [hS'.2.2.1, nI_1])) (hF.tr FrA.at)
  exact loop (bl T len p - p) p σ (by have := bl_ge (T := T) (len := len) (p := p); omega) (Nat.le_refl _) hS FrA.rf
set_option maxRecDepth 100000 in
theorem m_want {σ : Sg} {T : Tx} {len p k w : Nat} {f : Fl} {c : Prop} [Decidable c] {g : Int32} {Q : Option Value → Sg → Prop} (hS : RU σ T len p f) (hg : g = 0 ↔ ¬ c) (hk : 1 ≤ k) (hk3 : k ≤ 3) (h : ∀ σ', RU σ' T len p (if c then f else orF f k w) → FrA σ σ' → σ' 89 13 = σ 89 13 → Q (some (.int (bI ((if c then f else orF f k w) = none)))) σ') : MetA mX8_want [.ref 89, .int g, .int (nI k), .int (nI w)] σ Q := by
  refine MetA_of qX8_want (Nat.le_of_ble_eq_true rfl) ?_
  have at21 : ∀ σ', RU σ' T len p (if c then f else orF f k w) → FrA σ σ' → σ' 89 13 = σ 89 13 → V mX8_want 21 [(0, .ref 89), (1, .int g), (2, .int (nI k)), (3, .int (nI w))] [] σ' Q := by
    intro σ' hS' hF h13
    have fin := h σ' hS' hF h13
    refine wpB_sd (stops := []) kX8_want 30 _ _ _ _ ?_
    refine ⟨fun z => ?_, fun z => ?_⟩
    · rw [hS'.2.2.2.2.2.2.1] at z
      rw [bI_f (fun q => z ((fn_0 hS'.2.2.2.2.2.2.2.2).mpr q))] at fin
      exact ⟨Or.inl rfl, fin⟩
    · rw [hS'.2.2.2.2.2.2.1] at z
      rw [bI_t ((fn_0 hS'.2.2.2.2.2.2.2.2).mp z)] at fin
      exact ⟨Or.inr rfl, fin⟩
  refine wpB_sd (stops := [21]) kX8_want 30 _ _ _ _ ?_
  refine ⟨fun z => ?_, fun z => ?_⟩
  · have hc : c := Classical.byContradiction fun q => z (hg.mpr q)
    exact at21 σ (by rw [if_pos hc]; exact hS) FrA.rf rfl
  · have hc := hg.mp z
    rw [if_neg hc] at at21
    obtain ⟨a, b, c', d, e, g', i, j, o⟩ := hS
    have ho := orF_OK (w := w) o hk hk3
    refine ⟨fun z => ?_, fun z => ?_⟩
    · rw [i] at z
      refine at21 σ ⟨a, b, c', d, e, g', ?_, ?_, ho⟩ FrA.rf rfl
      · cases f with
        | none => exact absurd rfl z
        | some q => exact i
      · cases f with
        | none => exact absurd rfl z
        | some q => exact j
    · rw [i] at z
      have := (fn_0 o).mp z
      subst this
      refine at21 _ ⟨by rw [sgu_k (by omega), sgu_k (by omega)]; exact a, b, by rw [sgu_k (by omega), sgu_k (by omega)]; exact c', d, fun q hq => by rw [sgu_c (by omega), sgu_c (by omega)]; exact e q hq, g', by rw [sgu_k (by omega), sgu_s]; rfl, by rw [sgu_s]; rfl, ho⟩ ⟨fun c hc => by rw [sgu_c hc, sgu_c hc], fun k a b d => by rw [sgu_k d, sgu_k b]⟩ (by rw [sgu_k (by omega), sgu_k (by omega)])
set_option maxRecDepth 100000 in
set_option maxHeartbeats 1000000 in
theorem m_takeWord {σ : Sg} {T : Tx} {len p : Nat} {f : Fl} {Q : Option Value → Sg → Prop} (hS : RU σ T len p f) (h : ∀ σ', RU σ' T len (lt T len (bl T len p)) f → σ' 89 14 = nI (bl T len p) → σ' 89 15 = nI (lt T len (bl T len p) - bl T len p) → FrU σ σ' → Q none σ') : MetA mX8_takeWord [.ref 89] σ Q := by
  refine MetA_of qX8_takeWord (Nat.le_of_ble_eq_true rfl) ?_
  have hl := hS.2.1
  have hp := hS.2.2.2.1
  have hb := bl_le (T := T) hp
  have hle := lt_le (T := T) hb
  have hge := lt_ge (T := T) (len := len) (p := bl T len p)
  have at59 : ∀ (u : Int32) σ', RU σ' T len (lt T len (bl T len p)) f → σ' 89 14 = nI (bl T len p) → FrU σ σ' → V mX8_takeWord 59 [(0, .ref 89), (1, .int u)] [] σ' Q := by
    intro u σ' hS' e14 hF
    refine wpB_sd (stops := []) kX8_takeWord 30 _ _ _ _ ?_
    refine h _ (hS'.put (by omega) (by omega) (by omega) (by omega)) (by rw [sgu_k (by omega)]; exact e14) (by rw [sgu_s, hS'.2.2.1, e14, pk_sub hge]) ⟨fun c hc => by rw [sgu_c hc]; exact hF.1 c hc, fun k hk => by rw [sgu_k (by omega)]; exact hF.2 k hk⟩
  have loop : ∀ m p' σ' (u : Int32), p' + m = lt T len (bl T len p) → bl T len p ≤ p' → RU σ' T len p' f → σ' 89 14 = nI (bl T len p) → FrU σ σ' → V mX8_takeWord 13 [(0, .ref 89), (1, .int u)] [] σ' Q := by
    intro m
    induction m with
    | zero =>
      intro p' σ' u hm hpp hS' e14 hF
      have hm : p' = lt T len (bl T len p) := by omega
      subst hm
      refine wpB_sd (stops := [13, 59]) kX8_takeWord 30 _ _ _ _ ?_
      rcases Nat.lt_or_ge (lt T len (bl T len p)) len with q | q
      · have hbb : isL (T (lt T len (bl T len p))) = false := spn_end (P := isL) (T := T) hb q
        have hbb := of_decide_eq_false hbb
        have ht := hS'.2.2.2.2.2.1 _ q
        refine br_f (by rw [hS'.1, hS'.2.2.1]; exact nI_ge q (by omega)) ?_
        refine uld hS' hS'.2.2.1 q ?_
        refine m_inI (lo := nI 97) (hi := nI 122) rfl rfl ?_
        refine br_t (bI_f (fun z => hbb ?_)) ?_
        · exact ⟨(nI_leI (by omega) (by omega)).mp z.1, (nI_leI (by omega) (by omega)).mp z.2⟩
        · exact at59 u σ' hS' e14 hF
      · refine br_t (by rw [hS'.1, hS'.2.2.1]; exact nI_le q (by omega)) ?_
        exact at59 u σ' hS' e14 hF
    | succ m ih =>
      intro p' σ' u hm hpp hS' e14 hF
      have hbb : isL (T p') = true := spn_in hpp (show p' < lt T len (bl T len p) by omega)
      have hbb := of_decide_eq_true hbb
      have ht := hS'.2.2.2.2.2.1 p' (by omega)
      refine wpB_sd (stops := [13, 59]) kX8_takeWord 30 _ _ _ _ ?_
      refine br_f (by rw [hS'.1, hS'.2.2.1]; exact nI_ge (by omega) (by omega)) ?_
      refine uld hS' hS'.2.2.1 (by omega) ?_
      refine m_inI (lo := nI 97) (hi := nI 122) rfl rfl ?_
      rw [bI_t ⟨nI_le hbb.1 (by omega), nI_le hbb.2 (by omega)⟩]
      refine br_f (by decide) ?_
      exact ih (p' + 1) _ u (by omega) (by omega) (hS'.at (p' := p' + 1) (by omega) (by rw [hS'.2.2.1, nI_1])) (by rw [sgu_k (by omega)]; exact e14) (hF.tr FrA.at.u)
  refine wpB_sd (stops := [13]) kX8_takeWord 30 _ _ _ _ ?_
  refine m_here hS (fun σ1 hS1 hF1 => ?_)
  exact loop (lt T len (bl T len p) - bl T len p) (bl T len p) _ _ (by omega) (Nat.le_refl _) (hS1.put (by omega) (by omega) (by omega) (by omega)) (by rw [sgu_s, hS1.2.2.1]) ⟨fun c hc => by rw [sgu_c hc]; exact hF1.1 c hc, fun k hk => by rw [sgu_k (by omega)]; exact hF1.u.2 k hk⟩
