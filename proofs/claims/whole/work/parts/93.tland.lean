/-! the class: land -/
theorem RS.told {σ : Sg} {T : Tx} {len p : Nat} {f : Fl} {v : Int32} (h : RS σ T len p f) : RS (sgu σ 55 5 v) T len p f := by
  obtain ⟨a, b, c, d, e, g, i, j, k⟩ := h
  exact ⟨by rw [sgu_k (by omega)]; exact a, b, by rw [sgu_k (by omega)]; exact c, d, fun q hq => by rw [sgu_c (by omega)]; exact e q hq, g, by rw [sgu_k (by omega)]; exact i, by rw [sgu_k (by omega)]; exact j, k⟩
theorem endS_bl {T : Tx} {len p : Nat} (h : p ≤ len) : endS T len (bl T len p) = endS T len p := by unfold endS; rw [bl_bl h]
set_option maxRecDepth 100000 in
set_option maxHeartbeats 2000000 in
theorem s_readHarvest {σ : Sg} {T : Tx} {len s e : Nat} {A : St} {Q : Option Value → Sg → Prop} (hS : RS σ T len e none) (hT : RT σ A) (hW : WN A) (h5 : σ 55 5 = bI (0 < A 12 6)) (h : CR T len (if 0 < A 12 6 then .inl (3, s) else fnS T len (bdHv T len e A)) σ Q) : MetA mX6_readHarvest [.ref 55, .int (nI s), .ref 14] σ Q := by
  refine MetA_of qX6_readHarvest (Nat.le_of_ble_eq_true rfl) ?_
  have hp := hS.2.2.2.1
  by_cases hz : 0 < A 12 6
  · rw [if_pos hz] at h
    rw [bI_t hz] at h5
    refine wpB_sd (stops := []) kX6_readHarvest 60 _ _ _ _ ?_
    refine br_f (by rw [h5]; decide) ?_
    refine mAr (by rfl) (s_fail (k := 3) (w := s) hS (by omega) (by omega) (fun σ1 hS1 hF1 => ?_))
    exact h.1 σ1 e (3, s) rfl hS1 hF1.k
  rw [if_neg hz] at h
  rw [bI_f hz] at h5
  have hz : A 12 6 = 0 := by omega
  -- the end
  have at81 : ∀ σ' p f (i : Int32), RS σ' T len p f → FrK σ σ' → (∀ q, f = some q → fnS T len (bdHv T len e A) = .inl q) → (f = none → ∃ B, fnS T len (bdHv T len e A) = fnS T len (.inr (p, B)) ∧ RT σ' B ∧ σ' 55 5 = bI (0 < B 12 6)) → V mX6_readHarvest 81 [(0, .ref 55), (1, .int (nI s)), (2, .ref 14), (3, .int i)] [] σ' Q := by
    intro σ' p f i hS' hF hb hg
    refine wpB_sd (stops := []) kX6_readHarvest 30 _ _ _ _ ?_
    refine s_readEnd hS' (fun σ2 p2 f2 hS2 n2 hF2 => ?_)
    cases f with
    | some q =>
      have := n2.bad rfl
      subst this
      exact h.1 σ2 p2 q (hb q rfl) hS2 (hF.tr hF2.k)
    | none =>
      obtain ⟨B, e1, hTB, h5B⟩ := hg rfl
      cases h3 : endS T len p with
      | inl q =>
        have := n2.inl rfl h3
        subst this
        exact h.1 σ2 p2 q (by rw [e1]; unfold fnS; dsimp only; rw [h3]) hS2 (hF.tr hF2.k)
      | inr q =>
        obtain ⟨f2n, p2e⟩ := n2.inr rfl h3
        subst f2n p2e
        exact h.2 σ2 p2 B (by rw [e1]; unfold fnS; dsimp only; rw [h3]) hS2 (hTB.fr (fun c _ _ => hF2.1 c (by omega))) (by rw [hF2.2]; exact h5B) (hF.tr hF2.k)
  have bad : ∀ σ' p q i, i ≤ 8 → RS σ' T len p (some q) → FrK σ σ' → fnS T len (bdHv T len e A) = .inl q → V mX6_readHarvest 32 [(0, .ref 55), (1, .int (nI s)), (2, .ref 14), (3, .int (nI i))] [] σ' Q := by
    intro σ' p q i hi hS' hF hr
    have fin := at81 σ' p (some q) (nI i) hS' hF (fun q' e => by simp only [Option.some.injEq] at e; rw [← e]; exact hr) (fun e => by simp at e)
    refine wpB_sd (stops := [81]) kX6_readHarvest 30 _ _ _ _ ?_
    refine ⟨fun _ => fin, fun _ => ?_⟩
    refine bn_f (fun z => ?_) fin
    rw [hS'.2.2.2.2.2.2.1] at z
    have := (fn_0 hS'.2.2.2.2.2.2.2.2).mp z
    simp at this
  have loop : ∀ n i p B σ', i + n = 8 → fnS T len (bdHv T len e A) = fnS T len (hvS T len n p B) → RS σ' T len p none → RT σ' B → B 12 6 = i → 0 < i → WN B → σ' 55 5 = 1 → FrK σ σ' → V mX6_readHarvest 32 [(0, .ref 55), (1, .int (nI s)), (2, .ref 14), (3, .int (nI i))] [] σ' Q := by
    intro n
    induction n with
    | zero =>
      intro i p B σ' hi hr hS' hTB h6 hi0 hWB h5' hF
      have hp' := hS'.2.2.2.1
      have hi : i = 8 := by omega
      subst hi
      refine wpB_sd (stops := [81]) kX6_readHarvest 30 _ _ _ _ ?_
      refine br_t (by decide) ?_
      rw [hvS] at hr
      by_cases hc : bl T len p < len ∧ T (bl T len p) = 44
      · -- a ninth number: its comma can't stand
        rw [if_pos hc] at hr
        refine wpB_sd (stops := []) kX6_readHarvest 30 _ _ _ _ ?_
        refine s_readEnd hS' (fun σ2 p2 f2 hS2 n2 hF2 => ?_)
        have he : endS T len p = .inl (1, bl T len p) := by unfold endS; rw [if_neg (by rw [hc.2]; omega)]
        have := n2.inl rfl he
        subst this
        exact h.1 σ2 p2 _ (by rw [hr]; rfl) hS2 (hF.tr hF2.k)
      · rw [if_neg hc] at hr
        refine at81 σ' p none _ hS' hF (fun q e => by simp at e) (fun _ => ⟨B, ?_, hTB, by rw [h5', bI_t (by omega)]⟩)
        rw [hr]
        unfold fnS
        dsimp only
        rw [endS_bl hp']
    | succ n ih =>
      intro i p B σ' hi hr hS' hTB h6 hi0 hWB h5' hF
      have hp' := hS'.2.2.2.1
      have hb := bl_le (T := T) hp'
      refine wpB_sd (stops := [32, 81]) kX6_readHarvest 60 _ _ _ _ ?_
      refine br_f (nI_ge (a := i) (b := 8) (by omega) (by omega)) ?_
      refine bn_t (by rw [hS'.2.2.2.2.2.2.1]; rfl) ?_
      refine mAr (by rfl) (s_nextIs (c := 44) hS' (by omega) (fun σ1 hS1 hF1 => ?_))
      rw [hvS] at hr
      have hT1 : RT σ1 B := hTB.fr (fun c _ _ => hF1.1 c (by omega))
      refine ⟨fun g => ?_, fun g => ?_⟩
      · rw [if_neg (bI_0.mp g)] at hr
        exact at81 σ1 (bl T len p) none _ hS1 (hF.tr hF1.k) (fun q e => by simp at e) (fun _ => ⟨B, hr, hT1, by rw [hF1.2, h5', bI_t (by omega)]⟩)
      · have hc := bI_n0 g
        rw [if_pos hc] at hr
        have hS2 : RS (sgu σ1 55 2 (σ1 55 2 + 1)) T len (bl T len p + 1) none := hS1.at (by omega) (by rw [hS1.2.2.1, nI_1])
        refine mAr (by rfl) (s_readNumber (lo := 0) (hi := 100) (m := 99) hS2 (by omega) (by omega) (by decide) (fun σ3 p3 f3 v3 hS3 n3 hF3 => ?_))
        have hF13 : FrR σ' σ3 := (hF1.tr FrR.at).tr hF3
        have hT3 : RT σ3 B := hTB.fr (fun c _ _ => hF13.1 c (by omega))
        refine s_addHarvest hT3 (by omega) (fun σ4 hF4 hnew => ?_)
        have hS4 : RS σ4 T len p3 f3 := hS3.fr (hF4 55 (by omega)) (hF4 56 (by omega))
        have hK : FrK σ σ4 := (hF.tr hF13.k).tr (hF4.k (by omega) (by omega))
        cases h1 : numS T len (bl T len p + 1) 0 100 with
        | inl q =>
          have f3e := n3.inl rfl h1
          subst f3e
          rw [h1] at hr
          have nxt := bad σ4 p3 q (i + 1) (by omega) hS4 hK (by rw [hr]; rfl)
          rw [← nI_1 i] at nxt
          exact nxt
        | inr x =>
          obtain ⟨v, e3⟩ := x
          obtain ⟨f3n, v3e, p3e⟩ := n3.inr rfl h1
          dsimp only at v3e p3e
          subst f3n p3e
          rw [h1] at hr
          dsimp only at hr
          obtain ⟨a1, a2, a3, a4⟩ := numS_in (show bl T len p + 1 ≤ len by omega) h1
          have e6 : hvA B v 12 6 = B 12 6 + 1 := stu_s
          have nxt := ih (i + 1) p3 (hvA B v) σ4 (by omega) hr hS4 (hnew v v3e) (by omega) (by omega) (hvA_WN hWB a2 (by omega)) (by rw [hF4 55 (by omega), hF13.2]; exact h5') hK
          rw [← nI_1 i] at nxt
          exact nxt
  refine wpB_sd (stops := [32]) kX6_readHarvest 60 _ _ _ _ ?_
  refine br_t h5 ?_
  refine ⟨Or.inr rfl, ?_⟩
  have hS1 : RS (sgu σ 55 5 1) T len e none := hS.told
  refine mAr (by rfl) (s_readNumber (lo := 0) (hi := 100) (m := 99) hS1 (by omega) (by omega) (by decide) (fun σ3 p3 f3 v3 hS3 n3 hF3 => ?_))
  have hT3 : RT σ3 A := hT.fr (fun c _ _ => by rw [hF3.1 c (by omega), sgu_c (by omega)])
  refine s_addHarvest hT3 (by omega) (fun σ4 hF4 hnew => ?_)
  have hS4 : RS σ4 T len p3 f3 := hS3.fr (hF4 55 (by omega)) (hF4 56 (by omega))
  have hK : FrK σ σ4 := fun c a b => by rw [hF4 c (by omega), hF3.1 c b, sgu_c b]
  have h54 : σ4 55 5 = 1 := by rw [hF4 55 (by omega), hF3.2, sgu_s]
  cases h1 : numS T len e 0 100 with
  | inl q =>
    have f3e := n3.inl rfl h1
    subst f3e
    exact bad σ4 p3 q 1 (by omega) hS4 hK (by unfold bdHv; rw [h1]; rfl)
  | inr x =>
    obtain ⟨v, e3⟩ := x
    obtain ⟨f3n, v3e, p3e⟩ := n3.inr rfl h1
    dsimp only at v3e p3e
    subst f3n p3e
    obtain ⟨a1, a2, a3, a4⟩ := numS_in hp h1
    have e6 : hvA A v 12 6 = A 12 6 + 1 := stu_s
    exact loop 7 1 p3 (hvA A v) σ4 (by omega) (by unfold bdHv; rw [h1]) hS4 (hnew v v3e) (by omega) (by omega) (hvA_WN hW a2 (by omega)) h54 hK
set_option maxRecDepth 100000 in
set_option maxHeartbeats 1000000 in
theorem s_readClause {σ : Sg} {T : Tx} {len p : Nat} {A : St} {Q : Option Value → Sg → Prop} (hS : RS σ T len p none) (hT : RT σ A) (hW : WN A) (h5 : σ 55 5 = bI (0 < A 12 6)) (h : CR T len (fnS T len (bdS T len p A)) σ Q) : MetA mX6_readClause [.ref 55, .ref 14] σ Q := by
  refine MetA_of qX6_readClause (Nat.le_of_ble_eq_true rfl) ?_
  have hp := hS.2.2.2.1
  have hlt := lt_ge (T := T) (len := len) (p := p)
  refine wpB_sd (stops := []) kX6_readClause 60 _ _ _ _ ?_
  refine s_skipLetters hS (fun σ1 hS1 hF1 => ?_)
  have hT1 : RT σ1 A := hT.fr (fun c _ _ => hF1.1 c (by omega))
  have h51 : σ1 55 5 = bI (0 < A 12 6) := by rw [hF1.2]; exact h5
  have cr : ∀ r, fnS T len (bdS T len p A) = r → CR T len r σ1 Q := fun r hr => by
    rw [hr] at h
    exact ⟨fun σ' p' q a b c => h.1 σ' p' q a b (hF1.k.tr c), fun σ' q B a b c d e => h.2 σ' q B a b c d (hF1.k.tr e)⟩
  unfold bdS at cr
  refine mAr (by rw [hS.2.2.1]) (s_wordIs (i := 0) (s := p) hS1 (by omega) hlt ?_)
  refine ⟨fun g => ?_, fun g => ?_⟩
  · have g0 : ¬ IsWd T p (lt T len p) wHarvest := bI_0.mp g
    rw [if_neg g0] at cr
    refine mAr (by rw [hS.2.2.1]) (s_wordIs (i := 1) (s := p) hS1 (by omega) hlt ?_)
    refine ⟨fun g => ?_, fun g => ?_⟩
    · have g1 : ¬ IsWd T p (lt T len p) wHouse := bI_0.mp g
      rw [if_neg g1] at cr
      refine mAr (by rw [hS.2.2.1]) (s_wordIs (i := 2) (s := p) hS1 (by omega) hlt ?_)
      refine ⟨fun g => ?_, fun g => ?_⟩
      · have g2 : ¬ IsWd T p (lt T len p) wJar := bI_0.mp g
        rw [if_neg g2] at cr
        refine mAr (by rw [hS.2.2.1]; rfl) (s_fail (k := 1) (w := p) hS1 (by omega) (by omega) (fun σ2 hS2 hF2 => ?_))
        exact (cr _ rfl).1 σ2 _ (1, p) rfl hS2 hF2.k
      · have g2 : IsWd T p (lt T len p) wJar := bI_n0 g
        rw [if_pos g2] at cr
        refine mAr (by rw [hS.2.2.1]) (s_readJar (s := p) hS1 hT1 hW h51 (cr _ ?_))
        split <;> rfl
    · have g1 : IsWd T p (lt T len p) wHouse := bI_n0 g
      rw [if_pos g1] at cr
      refine mAr (by rw [hS.2.2.1]) (s_readHouse (s := p) hS1 hT1 hW h51 (cr _ ?_))
      split <;> rfl
  · have g0 : IsWd T p (lt T len p) wHarvest := bI_n0 g
    rw [if_pos g0] at cr
    refine mAr (by rw [hS.2.2.1]) (s_readHarvest (s := p) hS1 hT1 hW h51 (cr _ ?_))
    split <;> rfl
set_option maxRecDepth 100000 in
theorem s_clear {σ : Sg} {A : St} {Q : Option Value → Sg → Prop} (h : ∀ σ', RT σ' (clrA A) → FrC 14 26 σ σ' → Q none σ') : MetA mX4_clear [.ref 14] σ Q := by
  refine MetA_of qX4_clear (Nat.le_of_ble_eq_true rfl) ?_
  refine wpB_sd (stops := []) kX4_clear 30 _ _ _ _ ?_
  have e0 : clrA A 12 0 = 0 := rfl
  have e5 : clrA A 12 5 = 0 := rfl
  have e6 : clrA A 12 6 = 0 := rfl
  refine h _ ⟨⟨?_, ?_, fun j hj => by omega⟩, ?_, ?_, ?_, ?_, fun k hk => by omega, fun k hk => by omega⟩ (fun c hc => ?_)
  · rw [sgu_k (by omega), sgu_s]; rfl
  · rw [sgu_s, e0]; rfl
  · rw [sgu_c (by omega), sgu_c (by omega), sgu_k (by omega), sgu_k (by omega), sgu_k (by omega), sgu_s]; rfl
  · rw [sgu_c (by omega), sgu_c (by omega), sgu_k (by omega), sgu_k (by omega), sgu_s]; rfl
  · rw [sgu_c (by omega), sgu_c (by omega), sgu_k (by omega), sgu_s]; rfl
  · rw [sgu_c (by omega), sgu_c (by omega), sgu_s]
  · rw [sgu_c (by omega), sgu_c (by omega), sgu_c (by omega), sgu_c (by omega), sgu_c (by omega), sgu_c (by omega)]
/-- the text that was fed -/
def RX (σ : Sg) (T : Tx) (len : Nat) : Prop := σ 55 1 = nI len ∧ len ≤ 400 ∧ (∀ i, i < len → σ 56 i = sb (T i)) ∧ ∀ i, i < len → T i < 256
set_option maxRecDepth 100000 in
set_option maxHeartbeats 1000000 in
theorem s_readText {σ : Sg} {T : Tx} {len : Nat} {A : St} {Q : Option Value → Sg → Prop} (hX : RX σ T len) (hW : WL A) (hl : ∀ σ' q, txS T len 401 0 (clrA A) = .inl q → 1 ≤ q.1 → q.1 ≤ 3 → σ' 55 1 = 0 → σ' 55 3 = nI q.1 → σ' 55 4 = nI q.2 → FrK σ σ' → Q (some (.int 0)) σ') (hr : ∀ σ' B, txS T len 401 0 (clrA A) = .inr B → WN B → KpL A B → σ' 55 1 = 0 → σ' 55 4 = -1 → RT σ' B → FrK σ σ' → Q (some (.int 1)) σ') : MetA mX6_readText [.ref 55, .ref 14] σ Q := by
  refine MetA_of qX6_readText (Nat.le_of_ble_eq_true rfl) ?_
  obtain ⟨x1, x2, x3, x4⟩ := hX
  have fin : ∀ σ' p f (i : Int32), RS σ' T len p f → FrK σ σ' → (∀ q, f = some q → txS T len 401 0 (clrA A) = .inl q) → (f = none → ∃ B, txS T len 401 0 (clrA A) = .inr B ∧ WN B ∧ KpL A B ∧ RT σ' B) → V mX6_readText 70 [(0, .ref 55), (1, .ref 14), (2, .int i)] [] σ' Q := by
    intro σ' p f i hS' hF hb hg
    obtain ⟨a, b, c, d, e, g, h3, h4, o⟩ := hS'
    refine wpB_sd (stops := []) kX6_readText 30 _ _ _ _ ?_
    cases f with
    | none =>
      refine bn_t (by rw [sgu_k (by omega), h3]; rfl) ?_
      obtain ⟨B, k1, k2, k3, k4⟩ := hg rfl
      exact ⟨Or.inr rfl, hr _ B k1 k2 k3 (by rw [sgu_s]) (by rw [sgu_k (by omega)]; exact h4) (k4.fr (fun c _ _ => sgu_c (by omega))) (fun c a b => by rw [sgu_c b]; exact hF c a b)⟩
    | some q =>
      have oq := o q rfl
      refine bn_f (fun z => ?_) ?_
      · rw [sgu_k (by omega), h3] at z
        have := (nI_eq (b := 0) (by omega) (by omega)).mp z
        omega
      exact ⟨Or.inl rfl, hl _ q (hb q rfl) oq.1 oq.2 (by rw [sgu_s]) (by rw [sgu_k (by omega)]; exact h3) (by rw [sgu_k (by omega)]; exact h4) (fun c a b => by rw [sgu_c b]; exact hF c a b)⟩
  have loop : ∀ n i p B σ', i + n = 401 → 0 < n → i ≤ p → txS T len 401 0 (clrA A) = txS T len n p B → RS σ' T len (bl T len p) none → p ≤ len → RT σ' B → WN B → KpL A B → σ' 55 5 = bI (0 < B 12 6) → FrK σ σ' → V mX6_readText 30 [(0, .ref 55), (1, .ref 14), (2, .int (nI i))] [] σ' Q := by
    intro n
    induction n with
    | zero => intro i p B σ' _ h0; omega
    | succ n ih =>
      intro i p B σ' hi _ hip ht hS' hp hT hWB hK h5 hF
      have hb := bl_le (T := T) hp
      have hb2 := bl_ge (T := T) (len := len) (p := p)
      rw [show txS T len (n + 1) p B = (if bl T len p < len then (match fnS T len (bdS T len (bl T len p) B) with
        | .inl f => .inl f
        | .inr (q, B) => txS T len n q B) else .inr B) from rfl] at ht
      have out : ¬ bl T len p < len → V mX6_readText 70 [(0, .ref 55), (1, .ref 14), (2, .int (nI i))] [] σ' Q := fun q => by
        rw [if_neg q] at ht
        exact fin σ' _ none _ hS' hF (fun q e => by simp at e) (fun _ => ⟨B, ht, hWB, hK, hT⟩)
      refine wpB_sd (stops := [30, 70]) kX6_readText 40 _ _ _ _ ?_
      refine ⟨fun g => out (by have := (nI_leI (a := 400) (by omega) (by omega)).mp g; omega), fun g => ?_⟩
      refine ⟨fun g => ?_, fun g => ?_⟩
      · rw [hS'.1, hS'.2.2.1] at g
        have g := (nI_leI (by omega) (by omega)).mp g
        exact out (by omega)
      rw [hS'.1, hS'.2.2.1] at g
      have g : bl T len p < len := Nat.lt_of_not_le (fun q => g (nI_le q (by omega)))
      rw [if_pos g] at ht
      refine bn_t (by rw [hS'.2.2.2.2.2.2.1]; rfl) ?_
      refine s_readClause hS' hT hWB h5 ⟨fun σ2 p2 q hr2 hS2 hF2 => ?_, fun σ2 q C hr2 hS2 hT2 h52 hF2 => ?_⟩
      · rw [hr2] at ht
        dsimp only at ht
        refine s_skipBlanks hS2 (fun σ3 hS3 hF3 => ?_)
        have f3 := fin σ3 _ (some q) (nI i + 1) hS3 ((hF.tr hF2).tr hF3.k) (fun q' e => by simp only [Option.some.injEq] at e; rw [← e]; exact ht) (fun e => by simp at e)
        have go : V mX6_readText 30 [(0, .ref 55), (1, .ref 14), (2, .int (nI i + 1))] [] σ3 Q := by
          refine wpB_sd (stops := [70]) kX6_readText 40 _ _ _ _ ?_
          refine ⟨fun _ => f3, fun _ => ⟨fun _ => f3, fun _ => bn_f (fun z => ?_) f3⟩⟩
          rw [hS3.2.2.2.2.2.2.1] at z
          have := (fn_0 hS3.2.2.2.2.2.2.2.2).mp z
          simp at this
        exact go
      · obtain ⟨w1, w2, w3, w4⟩ := fnS_in hb hWB hr2
        rw [hr2] at ht
        dsimp only at ht
        refine s_skipBlanks hS2 (fun σ3 hS3 hF3 => ?_)
        have nxt := ih (i + 1) q C σ3 (by omega) (by omega) (by omega) ht hS3 w3 (hT2.fr (fun c _ _ => hF3.1 c (by omega))) w1 (hK.tr w4) (by rw [hF3.2]; exact h52) ((hF.tr hF2).tr hF3.k)
        rw [← nI_1 i] at nxt
        exact nxt
  refine wpB_sd (stops := [30]) kX6_readText 40 _ _ _ _ ?_
  refine s_clear (A := A) (fun σ1 hT1 hF1 => ?_)
  refine ⟨Or.inl rfl, ?_⟩
  have hS2 : RS (sgu (sgu (sgu (sgu σ1 55 2 0) 55 3 0) 55 4 (-1)) 55 5 0) T len 0 none := by
    refine ⟨?_, x2, ?_, by omega, fun i hi => ?_, x4, ?_, ?_, fun q e => by simp at e⟩
    · rw [sgu_k (by omega), sgu_k (by omega), sgu_k (by omega), sgu_k (by omega), hF1 55 (by omega)]; exact x1
    · rw [sgu_k (by omega), sgu_k (by omega), sgu_k (by omega), sgu_s]; rfl
    · rw [sgu_c (by omega), sgu_c (by omega), sgu_c (by omega), sgu_c (by omega), hF1 56 (by omega)]; exact x3 i hi
    · rw [sgu_k (by omega), sgu_k (by omega), sgu_s]; rfl
    · rw [sgu_k (by omega), sgu_s]; rfl
  refine s_skipBlanks hS2 (fun σ3 hS3 hF3 => ?_)
  have hfr : ∀ c, c ≠ 55 → σ3 c = σ1 c := fun c hc => by rw [hF3.1 c hc, sgu_c hc, sgu_c hc, sgu_c hc, sgu_c hc]
  exact loop 401 0 0 (clrA A) σ3 (by omega) (by omega) (by omega) rfl hS3 (by omega) (hT1.fr (fun c _ _ => hfr c (by omega))) (clr_WN hW) ⟨rfl, rfl⟩ (by rw [hF3.2, sgu_s]; rfl) (fun c a b => by rw [hfr c b]; exact hF1 c (by omega))
