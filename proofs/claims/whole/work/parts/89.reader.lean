/-! the class's reader: leaves -/
def sb (t : Nat) : Int32 := (nI t).toInt8.toInt32
theorem sb_lo {t : Nat} (h : t < 128) : sb t = nI t := fa_byte_small h
theorem sb_neg : ∀ t : Fin 256, 128 ≤ t.val → sb t.val < 0 := by decide +kernel
theorem sb_eq {t c : Nat} (ht : t < 256) (hc : c < 128) : sb t = nI c ↔ t = c := by
  rcases Nat.lt_or_ge t 128 with q | q
  · rw [sb_lo q]; exact nI_eq (by omega) (by omega)
  · constructor
    · intro h
      have := sb_neg ⟨t, ht⟩ q
      dsimp only at this
      rw [h] at this
      exact absurd this (nI_pos (by omega))
    · intro h; omega
theorem sb_lt {t c : Nat} (ht : t < 256) (hc : c < 128) : sb t < nI c ↔ ¬ (c ≤ t ∧ t < 128) := by
  rcases Nat.lt_or_ge t 128 with q | q
  · rw [sb_lo q, nI_ltI (by omega) (by omega)]; omega
  · have h1 := sb_neg ⟨t, ht⟩ q
    dsimp only at h1
    have h2 : (0 : Int32) ≤ nI c := nI_pos' (by omega)
    constructor
    · intro _; omega
    · intro _
      rw [fa_lt] at h1 ⊢
      rw [fa_le] at h2
      omega
theorem sb_gt {t c : Nat} (ht : t < 256) (hc : c < 128) : nI c < sb t ↔ c < t ∧ t < 128 := by
  rcases Nat.lt_or_ge t 128 with q | q
  · rw [sb_lo q, nI_ltI (by omega) (by omega)]; omega
  · have h1 := sb_neg ⟨t, ht⟩ q
    dsimp only at h1
    have h2 : (0 : Int32) ≤ nI c := nI_pos' (by omega)
    constructor
    · intro h3
      rw [fa_lt] at h1 h3
      rw [fa_le] at h2
      omega
    · intro _; omega
def fnI (f : Fl) : Int32 := match f with
  | none => 0
  | some q => nI q.1
def fbI (f : Fl) : Int32 := match f with
  | none => -1
  | some q => nI q.2
def fOK (f : Fl) : Prop := ∀ q, f = some q → 1 ≤ q.1 ∧ q.1 ≤ 3
theorem fn_0 {f : Fl} (h : fOK f) : fnI f = 0 ↔ f = none := by
  cases f with
  | none => simp [fnI]
  | some q =>
    have := h q rfl
    constructor
    · intro e
      have := (nI_eq (b := 0) (by omega) (by omega)).mp e
      omega
    · intro e; simp at e
/-- the reader stands at p of the text T, with the fault f -/
def RS (σ : Sg) (T : Tx) (len p : Nat) (f : Fl) : Prop := σ 55 1 = nI len ∧ len ≤ 400 ∧ σ 55 2 = nI p ∧ p ≤ len ∧ (∀ i, i < len → σ 56 i = sb (T i)) ∧ (∀ i, i < len → T i < 256) ∧ σ 55 3 = fnI f ∧ σ 55 4 = fbI f ∧ fOK f
def FrR (σ σ' : Sg) : Prop := (∀ c, c ≠ 55 → σ' c = σ c) ∧ σ' 55 5 = σ 55 5
theorem FrR.rf {σ : Sg} : FrR σ σ := ⟨fun _ _ => rfl, rfl⟩
theorem FrR.tr {σ σ' σ'' : Sg} (h : FrR σ σ') (h2 : FrR σ' σ'') : FrR σ σ'' := ⟨fun c hc => (h2.1 c hc).trans (h.1 c hc), h2.2.trans h.2⟩
theorem RS.at {σ : Sg} {T : Tx} {len p p' : Nat} {f : Fl} {v : Int32} (h : RS σ T len p f) (hp : p' ≤ len) (hv : v = nI p') : RS (sgu σ 55 2 v) T len p' f := by
  obtain ⟨a, b, c, d, e, g, i, j, k⟩ := h
  refine ⟨by rw [sgu_k (by omega)]; exact a, b, by rw [sgu_s]; exact hv, hp, fun q hq => by rw [sgu_c (by omega)]; exact e q hq, g, by rw [sgu_k (by omega)]; exact i, by rw [sgu_k (by omega)]; exact j, k⟩
theorem FrR.at {σ : Sg} {v : Int32} : FrR σ (sgu σ 55 2 v) := ⟨fun c hc => sgu_c hc, sgu_k (by omega)⟩
/-- a byte is looked at -/
theorem bld {σ : Sg} {T : Tx} {len p : Nat} {f : Fl} {i : Int32} {j : Nat} {P : Int32 → Prop} (h : RS σ T len p f) (hi : i = nI j) (hj : j < len) (k : P (sb (T j))) : aOK 56 2 i ∧ ∀ v : Int32, v = σ 56 i.toNatClampNeg → P v := by
  have hl := h.2.1
  refine ⟨aok (n := 400) rfl hi (by omega), fun v hv => ?_⟩
  rw [hv, hi, nI_clamp (by omega), h.2.2.2.2.1 j hj]
  exact k
set_option maxRecDepth 100000 in
theorem s_skipBlanks {σ : Sg} {T : Tx} {len p : Nat} {f : Fl} {Q : Option Value → Sg → Prop} (hS : RS σ T len p f) (h : ∀ σ', RS σ' T len (bl T len p) f → FrR σ σ' → Q none σ') : MetA mX6_skipBlanks [.ref 55] σ Q := by
  refine MetA_of qX6_skipBlanks (Nat.le_of_ble_eq_true rfl) ?_
  have hl := hS.2.1
  have hp := hS.2.2.2.1
  have hle := bl_le (T := T) hp
  have loop : ∀ m p' σ', p' + m = bl T len p → p ≤ p' → RS σ' T len p' f → FrR σ σ' → V mX6_skipBlanks 0 [(0, .ref 55)] [] σ' Q := by
    intro m
    induction m with
    | zero =>
      intro p' σ' hm hpp hS' hF
      have hm : p' = bl T len p := by omega
      subst hm
      refine wpB_sd (stops := [0]) kX6_skipBlanks 30 _ _ _ _ ?_
      rcases Nat.lt_or_ge (bl T len p) len with q | q
      · have hb := spn_end (P := isB) (T := T) hp q
        have hb : T (bl T len p) ≠ 32 := fun z => by
          have : isB (T (bl T len p)) = false := hb
          rw [z] at this
          exact absurd this (by decide)
        refine br_f (by rw [hS'.1, hS'.2.2.1]; exact nI_ge q (by omega)) ?_
        refine bld hS' hS'.2.2.1 q ?_
        refine bn_f (fun z => hb ((sb_eq (c := 32) (hS'.2.2.2.2.2.1 _ q) (by omega)).mp z)) ?_
        exact h σ' hS' hF
      · refine br_t (by rw [hS'.1, hS'.2.2.1]; exact nI_le q (by omega)) ?_
        exact h σ' hS' hF
    | succ m ih =>
      intro p' σ' hm hpp hS' hF
      have hb : isB (T p') = true := spn_in hpp (show p' < bl T len p by omega)
      have hb : T p' = 32 := of_decide_eq_true hb
      refine wpB_sd (stops := [0]) kX6_skipBlanks 30 _ _ _ _ ?_
      refine br_f (by rw [hS'.1, hS'.2.2.1]; exact nI_ge (by omega) (by omega)) ?_
      refine bld hS' hS'.2.2.1 (by omega) ?_
      refine bn_t (by rw [hb]; rfl) ?_
      exact ih (p' + 1) _ (by omega) (by omega) (hS'.at (p' := p' + 1) (by omega) (by rw [hS'.2.2.1, nI_1])) (hF.tr FrR.at)
  exact loop (bl T len p - p) p σ (by have := bl_ge (T := T) (len := len) (p := p); omega) (Nat.le_refl _) hS FrR.rf
set_option maxRecDepth 100000 in
theorem s_skipLetters {σ : Sg} {T : Tx} {len p : Nat} {f : Fl} {Q : Option Value → Sg → Prop} (hS : RS σ T len p f) (h : ∀ σ', RS σ' T len (lt T len p) f → FrR σ σ' → Q none σ') : MetA mX6_skipLetters [.ref 55] σ Q := by
  refine MetA_of qX6_skipLetters (Nat.le_of_ble_eq_true rfl) ?_
  have hl := hS.2.1
  have hp := hS.2.2.2.1
  have hle := lt_le (T := T) hp
  have loop : ∀ m p' σ', p' + m = lt T len p → p ≤ p' → RS σ' T len p' f → FrR σ σ' → V mX6_skipLetters 0 [(0, .ref 55)] [] σ' Q := by
    intro m
    induction m with
    | zero =>
      intro p' σ' hm hpp hS' hF
      have hm : p' = lt T len p := by omega
      subst hm
      refine wpB_sd (stops := [0]) kX6_skipLetters 30 _ _ _ _ ?_
      rcases Nat.lt_or_ge (lt T len p) len with q | q
      · have hb : isL (T (lt T len p)) = false := spn_end (P := isL) (T := T) hp q
        have hb := of_decide_eq_false hb
        have ht := hS'.2.2.2.2.2.1 _ q
        refine br_f (by rw [hS'.1, hS'.2.2.1]; exact nI_ge q (by omega)) ?_
        refine bld hS' hS'.2.2.1 q ?_
        refine ⟨fun g => h σ' hS' hF, fun g => ?_⟩
        have g : ¬ ¬ (97 ≤ T (lt T len p) ∧ T (lt T len p) < 128) := fun z => g ((sb_lt (c := 97) ht (by omega)).mpr z)
        refine bld hS' hS'.2.2.1 q ?_
        refine br_t ((sb_gt (c := 122) ht (by omega)).mpr (by omega)) ?_
        exact h σ' hS' hF
      · refine br_t (by rw [hS'.1, hS'.2.2.1]; exact nI_le q (by omega)) ?_
        exact h σ' hS' hF
    | succ m ih =>
      intro p' σ' hm hpp hS' hF
      have hb : isL (T p') = true := spn_in hpp (show p' < lt T len p by omega)
      have hb := of_decide_eq_true hb
      have ht := hS'.2.2.2.2.2.1 p' (by omega)
      refine wpB_sd (stops := [0]) kX6_skipLetters 30 _ _ _ _ ?_
      refine br_f (by rw [hS'.1, hS'.2.2.1]; exact nI_ge (by omega) (by omega)) ?_
      refine bld hS' hS'.2.2.1 (by omega) ?_
      refine br_f (fun z => (sb_lt (c := 97) ht (by omega)).mp z (by omega)) ?_
      refine bld hS' hS'.2.2.1 (by omega) ?_
      refine br_f (fun z => by have := (sb_gt (c := 122) ht (by omega)).mp z; omega) ?_
      exact ih (p' + 1) _ (by omega) (by omega) (hS'.at (p' := p' + 1) (by omega) (by rw [hS'.2.2.1, nI_1])) (hF.tr FrR.at)
  exact loop (lt T len p - p) p σ (by have := lt_ge (T := T) (len := len) (p := p); omega) (Nat.le_refl _) hS FrR.rf
def orF (f : Fl) (k w : Nat) : Fl := match f with
  | none => some (k, w)
  | some q => some q
theorem orF_OK {f : Fl} {k w : Nat} (h : fOK f) (h1 : 1 ≤ k) (h3 : k ≤ 3) : fOK (orF f k w) := by
  cases f with
  | none => intro q e; simp only [orF, Option.some.injEq] at e; subst e; exact ⟨h1, h3⟩
  | some r => exact h
set_option maxRecDepth 100000 in
theorem s_fail {σ : Sg} {T : Tx} {len p k w : Nat} {f : Fl} {Q : Option Value → Sg → Prop} (hS : RS σ T len p f) (hk : 1 ≤ k) (hk3 : k ≤ 3) (h : ∀ σ', RS σ' T len p (orF f k w) → FrR σ σ' → Q none σ') : MetA mX6_fail [.ref 55, .int (nI k), .int (nI w)] σ Q := by
  refine MetA_of qX6_fail (Nat.le_of_ble_eq_true rfl) ?_
  refine wpB_sd (stops := []) kX6_fail 30 _ _ _ _ ?_
  obtain ⟨a, b, c, d, e, g, i, j, o⟩ := hS
  have ho := orF_OK (w := w) o hk hk3
  refine ⟨fun z => ?_, fun z => ?_⟩
  · rw [i] at z
    refine h σ ⟨a, b, c, d, e, g, ?_, ?_, ho⟩ FrR.rf
    · cases f with
      | none => exact absurd rfl z
      | some q => exact i
    · cases f with
      | none => exact absurd rfl z
      | some q => exact j
  · rw [i] at z
    have := (fn_0 o).mp z
    subst this
    refine h _ ⟨by rw [sgu_k (by omega), sgu_k (by omega)]; exact a, b, by rw [sgu_k (by omega), sgu_k (by omega)]; exact c, d, fun q hq => by rw [sgu_c (by omega), sgu_c (by omega)]; exact e q hq, g, by rw [sgu_k (by omega), sgu_s]; rfl, by rw [sgu_s]; rfl, ho⟩ ⟨fun c hc => by rw [sgu_c hc, sgu_c hc], by rw [sgu_k (by omega), sgu_k (by omega)]⟩
set_option maxRecDepth 100000 in
theorem s_nextIs {σ : Sg} {T : Tx} {len p c : Nat} {f : Fl} {Q : Option Value → Sg → Prop} (hS : RS σ T len p f) (hc : c < 128) (h : ∀ σ', RS σ' T len (bl T len p) f → FrR σ σ' → Q (some (.int (bI (bl T len p < len ∧ T (bl T len p) = c)))) σ') : MetA mX6_nextIs [.ref 55, .int (nI c)] σ Q := by
  refine MetA_of qX6_nextIs (Nat.le_of_ble_eq_true rfl) ?_
  have hl := hS.2.1
  have hp := hS.2.2.2.1
  have hle := bl_le (T := T) hp
  refine wpB_sd (stops := []) kX6_nextIs 30 _ _ _ _ ?_
  refine s_skipBlanks hS (fun σ' hS' hF => ?_)
  have fin := h σ' hS' hF
  refine ⟨fun g => ?_, fun g => ?_⟩
  · rw [hS'.1, hS'.2.2.1] at g
    have g := (nI_leI (by omega) (by omega)).mp g
    rw [bI_f (by omega)] at fin
    exact ⟨Or.inl rfl, fin⟩
  · rw [hS'.1, hS'.2.2.1] at g
    have g : ¬ len ≤ bl T len p := fun q => g (nI_le q (by omega))
    have ht := hS'.2.2.2.2.2.1 (bl T len p) (by omega)
    refine bld hS' hS'.2.2.1 (by omega) ?_
    refine ⟨fun g2 => ?_, fun g2 => ?_⟩
    · rw [bI_f (fun z => g2 ((sb_eq ht hc).mpr z.2))] at fin
      exact ⟨Or.inl rfl, fin⟩
    · rw [bI_t ⟨by omega, (sb_eq ht hc).mp g2⟩] at fin
      exact ⟨Or.inr rfl, fin⟩
