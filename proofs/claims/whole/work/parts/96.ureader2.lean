/-! the reference's reader: words and numbers -/
def PW (T : Tx) (s n : Nat) (ws : List Nat) : Prop := ∀ k, k < n → k < 5 → T (s + k) = ws.getD k 0
theorem IsWd5 {T : Tx} {s e n : Nat} {ws : List Nat} (hn : ws.length = n) (h5 : n ≤ 5) : IsWd T s e ws ↔ (e = s + n ∧ PW T s n ws) := by
  unfold PW
  constructor
  · rintro ⟨a, b⟩
    exact ⟨by omega, fun k hk _ => b k (by omega)⟩
  · rintro ⟨a, b⟩
    exact ⟨by omega, fun k hk => b k (by omega) (by omega)⟩
set_option maxRecDepth 100000 in
set_option maxHeartbeats 2000000 in
theorem m_isWord {σ : Sg} {T : Tx} {len p s L n a b c d e : Nat} {f : Fl} {C : Prop} [Decidable C] {Q : Option Value → Sg → Prop} (hS : RU σ T len p f) (e14 : σ 89 14 = nI s) (e15 : σ 89 15 = nI L) (hsl : s + L ≤ len) (hn : n ≤ 7) (ha : a < 256 ∧ b < 256 ∧ c < 256 ∧ d < 256 ∧ e < 256) (hC : C ↔ (L = n ∧ PW T s n [a, b, c, d, e])) (h : Q (some (.int (bI C))) σ) : MetA mX8_isWord [.ref 89, .int (nI n), .int (nI a), .int (nI b), .int (nI c), .int (nI d), .int (nI e)] σ Q := by
  refine MetA_of qX8_isWord (Nat.le_of_ble_eq_true rfl) ?_
  have hl := hS.2.1
  have out : ∀ u : Int32, (u = 0 ∨ u = 1) → u = bI C → ∀ l8 : Int32, V mX8_isWord 106 [(0, .ref 89), (1, .int (nI n)), (2, .int (nI a)), (3, .int (nI b)), (4, .int (nI c)), (5, .int (nI d)), (6, .int (nI e)), (7, .int u), (8, .int l8)] [] σ Q := by
    intro u hu1 hu l8
    refine wpB_sd (stops := []) kX8_isWord 30 _ _ _ _ ?_
    exact ⟨hu1, fin_i h hu⟩
  have no : ¬ C → ∀ k, k ≤ 7 → V mX8_isWord 18 [(0, .ref 89), (1, .int (nI n)), (2, .int (nI a)), (3, .int (nI b)), (4, .int (nI c)), (5, .int (nI d)), (6, .int (nI e)), (7, .int 0), (8, .int (nI k))] [] σ Q := by
    intro q k hk
    have o := out 0 (Or.inl rfl) (bI_f q).symm (nI k)
    refine wpB_sd (stops := [106]) kX8_isWord 30 _ _ _ _ ?_
    exact ⟨fun _ => o, fun _ => ⟨fun _ => o, fun _ => br_t rfl o⟩⟩
  have loop : L = n → ∀ m k, k + m = (if n ≤ 5 then n else 5) → (∀ j, j < k → T (s + j) = [a, b, c, d, e].getD j 0) → V mX8_isWord 18 [(0, .ref 89), (1, .int (nI n)), (2, .int (nI a)), (3, .int (nI b)), (4, .int (nI c)), (5, .int (nI d)), (6, .int (nI e)), (7, .int 1), (8, .int (nI k))] [] σ Q := by
    intro hLn m
    induction m with
    | zero =>
      intro k hk hall
      have hc : C := hC.mpr ⟨hLn, fun j h1 h2 => hall j (by split at hk <;> omega)⟩
      have o := out 1 (Or.inr rfl) (bI_t hc).symm (nI k)
      refine wpB_sd (stops := [106]) kX8_isWord 30 _ _ _ _ ?_
      refine ⟨fun _ => o, fun g => ⟨fun _ => o, fun g2 => ?_⟩⟩
      have g : ¬ n ≤ k := fun q => g (nI_le q (by split at hk <;> omega))
      have g2 : ¬ 5 ≤ k := fun q => g2 (nI_le (a := 5) q (by split at hk <;> omega))
      split at hk <;> omega
    | succ m ih =>
      intro k hk hall
      have hk5 : k < n ∧ k < 5 := by split at hk <;> omega
      have ht := hS.2.2.2.2.2.1 (s + k) (by omega)
      have hw : [a, b, c, d, e].getD k 0 < 256 := by
        rcases (show k = 0 ∨ k = 1 ∨ k = 2 ∨ k = 3 ∨ k = 4 by omega) with rfl | rfl | rfl | rfl | rfl
        · exact ha.1
        · exact ha.2.1
        · exact ha.2.2.1
        · exact ha.2.2.2.1
        · exact ha.2.2.2.2
      have at90 : ∀ u : Int32, u = nI ([a, b, c, d, e].getD k 0) → V mX8_isWord 90 [(0, .ref 89), (1, .int (nI n)), (2, .int (nI a)), (3, .int (nI b)), (4, .int (nI c)), (5, .int (nI d)), (6, .int (nI e)), (7, .int 1), (8, .int (nI k))] [.int u, .int (nI (T (s + k)))] σ Q := by
        intro u hu
        subst hu
        refine wpB_sd (stops := [18]) kX8_isWord 30 _ _ _ _ ?_
        refine ⟨fun g => ?_, fun g => ?_⟩
        · have nxt := no (fun q => g (by rw [(hC.mp q).2 k hk5.1 hk5.2])) (k + 1) (by omega)
          rw [← nI_1 k] at nxt
          exact nxt
        · have g := (nI_eq (by omega) (by omega)).mp g
          have nxt := ih (k + 1) (by omega) (fun j hj => by
            by_cases z : j = k
            · subst z; exact g
            · exact hall j (by omega))
          rw [← nI_1 k] at nxt
          exact nxt
      refine wpB_sd (stops := [47]) kX8_isWord 30 _ _ _ _ ?_
      refine br_f (nI_ge hk5.1 (by omega)) ?_
      refine br_f (nI_ge (b := 5) hk5.2 (by omega)) ?_
      refine br_f (by decide) ?_
      refine uld (j := s + k) hS (by rw [e14, nI_add]) (by omega) ?_
      rcases (show k = 0 ∨ k = 1 ∨ k = 2 ∨ k = 3 ∨ k = 4 by omega) with rfl | rfl | rfl | rfl | rfl
      · refine wpB_sd (stops := [90]) kX8_isWord 30 _ _ _ _ ?_
        refine bn_t rfl ?_
        exact at90 _ rfl
      · refine wpB_sd (stops := [90]) kX8_isWord 30 _ _ _ _ ?_
        refine bn_f (by decide) ?_
        refine bn_t rfl ?_
        exact at90 _ rfl
      · refine wpB_sd (stops := [90]) kX8_isWord 30 _ _ _ _ ?_
        refine bn_f (by decide) ?_
        refine bn_f (by decide) ?_
        refine bn_t rfl ?_
        exact at90 _ rfl
      · refine wpB_sd (stops := [90]) kX8_isWord 30 _ _ _ _ ?_
        refine bn_f (by decide) ?_
        refine bn_f (by decide) ?_
        refine bn_f (by decide) ?_
        refine bn_t rfl ?_
        exact at90 _ rfl
      · refine wpB_sd (stops := [90]) kX8_isWord 30 _ _ _ _ ?_
        refine bn_f (by decide) ?_
        refine bn_f (by decide) ?_
        refine bn_f (by decide) ?_
        refine bn_f (by decide) ?_
        exact at90 _ rfl
  refine wpB_sd (stops := [18]) kX8_isWord 30 _ _ _ _ ?_
  refine ⟨fun g => ?_, fun g => ?_⟩
  · rw [e15] at g
    have g : L ≠ n := fun q => g (by rw [q])
    exact no (fun q => g (hC.mp q).1) 0 (by omega)
  · rw [e15] at g
    have g := (nI_eq (by omega) (by omega)).mp g
    exact loop g _ 0 (Nat.zero_add _) (fun j hj => by omega)
set_option maxRecDepth 100000 in
theorem m_isHarvestWord {σ : Sg} {T : Tx} {len p s L : Nat} {f : Fl} {Q : Option Value → Sg → Prop} (hS : RU σ T len p f) (e14 : σ 89 14 = nI s) (e15 : σ 89 15 = nI L) (hsl : s + L ≤ len) (h : Q (some (.int (bI (IsWd T s (s + L) wHarvest)))) σ) : MetA mX8_isHarvestWord [.ref 89] σ Q := by
  refine MetA_of qX8_isHarvestWord (Nat.le_of_ble_eq_true rfl) ?_
  have hl := hS.2.1
  have no : ¬ IsWd T s (s + L) wHarvest → ((0 : Int32) = 0 ∨ (0 : Int32) = 1) ∧ Q (some (.int 0)) σ := fun q => by
    rw [bI_f q] at h
    exact ⟨Or.inl rfl, h⟩
  have dec : Decidable (L = 7 ∧ PW T s 7 [104, 97, 114, 118, 101]) := Classical.propDecidable _
  refine wpB_sd (stops := []) kX8_isHarvestWord 30 _ _ _ _ ?_
  refine mAr (by rfl) (m_isWord (n := 7) (a := 104) (b := 97) (c := 114) (d := 118) (e := 101) hS e14 e15 hsl (by omega) (by omega) (C := L = 7 ∧ PW T s 7 [104, 97, 114, 118, 101]) Iff.rfl ?_)
  refine ⟨fun g => no (by
    intro q
    refine bI_0.mp g ⟨by have := q.1; have e : wHarvest.length = 7 := rfl; omega, fun k hk hk5 => ?_⟩
    have := q.2 k hk
    rcases (show k = 0 ∨ k = 1 ∨ k = 2 ∨ k = 3 ∨ k = 4 by omega) with rfl | rfl | rfl | rfl | rfl <;> exact this), fun g => ?_⟩
  have g := bI_n0 g
  have t5 := hS.2.2.2.2.2.1 (s + 5) (by omega)
  have t6 := hS.2.2.2.2.2.1 (s + 6) (by omega)
  refine uld (j := s + 5) hS (by rw [e14]; exact nI_add _ _) (by omega) ?_
  refine ⟨fun g5 => no (by
    intro q
    have := q.2 5 (by decide)
    exact g5 (by rw [this]; rfl)), fun g5 => ?_⟩
  have g5 := (nI_eq (b := 115) (by omega) (by omega)).mp g5
  refine uld (j := s + 6) hS (by rw [e14]; exact nI_add _ _) (by omega) ?_
  refine ⟨fun g6 => no (by
    intro q
    have := q.2 6 (by decide)
    exact g6 (by rw [this]; rfl)), fun g6 => ?_⟩
  have g6 := (nI_eq (b := 116) (by omega) (by omega)).mp g6
  have hc : IsWd T s (s + L) wHarvest := by
    refine ⟨by have e : wHarvest.length = 7 := rfl; omega, fun k hk => ?_⟩
    have hk : k < 7 := hk
    rcases (show k = 0 ∨ k = 1 ∨ k = 2 ∨ k = 3 ∨ k = 4 ∨ k = 5 ∨ k = 6 by omega) with rfl | rfl | rfl | rfl | rfl | rfl | rfl
    · exact g.2 0 (by omega) (by omega)
    · exact g.2 1 (by omega) (by omega)
    · exact g.2 2 (by omega) (by omega)
    · exact g.2 3 (by omega) (by omega)
    · exact g.2 4 (by omega) (by omega)
    · exact g5
    · exact g6
  rw [bI_t hc] at h
  exact ⟨Or.inr rfl, h⟩
def stV (T : Tx) (s : Nat) : Nat → Nat
  | 0 => 0
  | n + 1 => if 99999 < stV T s n then stV T s n else 10 * stV T s n + (T (s + n) - 48)
theorem stV_le {T : Tx} {s : Nat} : ∀ {n : Nat}, (∀ i, i < n → isD (T (s + i)) = true) → stV T s n ≤ 999999
  | 0, _ => by simp [stV]
  | n + 1, h => by
    have ih := stV_le (T := T) (s := s) (n := n) (fun i hi => h i (by omega))
    have hd := of_decide_eq_true (h n (by omega))
    rw [stV]
    split <;> omega
theorem stV_nm {T : Tx} {s : Nat} : ∀ {n : Nat}, n ≤ 3 → (∀ i, i < n → isD (T (s + i)) = true) → stV T s n = nmV T s n
  | 0, _, _ => rfl
  | n + 1, hn, h => by
    have ih := stV_nm (T := T) (s := s) (n := n) (by omega) (fun i hi => h i (by omega))
    have hl := nmV_le (T := T) (s := s) (n := n) (fun i hi => h i (by omega))
    have h2 : (10 : Nat) ^ n ≤ 10 ^ 3 := Nat.pow_le_pow_right (by omega) (by omega)
    rw [stV, nmV, ih, if_neg (by omega)]
    omega
set_option maxRecDepth 100000 in
set_option maxHeartbeats 2000000 in
theorem m_takeNumber {σ : Sg} {T : Tx} {len p lo hi : Nat} {m : Int32} {f : Fl} {Q : Option Value → Sg → Prop} (hS : RU σ T len p f) (hlo : lo ≤ 1) (hhi : hi ≤ 100) (hm : m = nI hi - 1) (h : ∀ σ' p' f' v, RU σ' T len p' f' → NR (numS T len p lo hi) f f' (fun x => v = nI x.1 ∧ p' = x.2) → FrU σ σ' → Q (some (.int v)) σ') : MetA mX8_takeNumber [.ref 89, .int (nI lo), .int m] σ Q := by
  refine MetA_of qX8_takeNumber (Nat.le_of_ble_eq_true rfl) ?_
  have hl := hS.2.1
  have hp := hS.2.2.2.1
  have hb := bl_le (T := T) hp
  have hb0 := bl_ge (T := T) (len := len) (p := p)
  have he := dgs_le (T := T) hb
  have he0 := dgs_ge (T := T) (len := len) (p := bl T len p)
  have hdig : ∀ i, i < dgs T len (bl T len p) - bl T len p → isD (T (bl T len p + i)) = true := fun i hi2 => spn_in (by omega) (show bl T len p + i < dgs T len (bl T len p) by omega)
  have hcap : ∀ n, n ≤ dgs T len (bl T len p) - bl T len p → stV T (bl T len p) n ≤ 999999 := fun n hn => stV_le (fun i hi2 => hdig i (by omega))
  have mI : m.toInt = (hi : Int) - 1 := by
    rw [hm, fb_subI (by rw [nI_toInt (by omega)]; show _ ≤ (hi : Int) - 1; omega) (by rw [nI_toInt (by omega)]; show (hi : Int) - 1 < _; omega), nI_toInt (by omega)]; rfl
  cases f with
  | some q =>
    have oq := hS.2.2.2.2.2.2.2.2 q rfl
    refine wpB_sd (stops := []) kX8_takeNumber 30 _ _ _ _ ?_
    refine br_f (fun z => ?_) ?_
    · rw [hS.2.2.2.2.2.2.1] at z
      have := (nI_leI (b := 0) (by omega) (by omega)).mp z
      omega
    · exact h σ p (some q) 0 hS ⟨fun q e => e, fun e => by simp at e⟩ FrU.rf
  | none =>
    -- after the figures
    have at128 : ∀ σ' (u3 : Int32), RU σ' T len (dgs T len (bl T len p)) none → σ' 89 14 = nI (bl T len p) → FrU σ σ' → bl T len p < dgs T len (bl T len p) → V mX8_takeNumber 128 [(0, .ref 89), (1, .int (nI lo)), (2, .int m), (3, .int u3), (4, .int (nI (stV T (bl T len p) (dgs T len (bl T len p) - bl T len p))))] [] σ' Q := by
      intro σ' u3 hS' e14 hF hlt
      have hv := hcap _ (Nat.le_refl _)
      have at160 : ∀ (c : Prop) [Decidable c] (u : Int32), (u = 0 ↔ ¬ c) → (c ↔ ¬ (3 < dgs T len (bl T len p) - bl T len p ∨ nmV T (bl T len p) (dgs T len (bl T len p) - bl T len p) < lo ∨ hi ≤ nmV T (bl T len p) (dgs T len (bl T len p) - bl T len p))) → V mX8_takeNumber 160 [(0, .ref 89), (1, .int (nI lo)), (2, .int m), (3, .int u3), (4, .int (nI (stV T (bl T len p) (dgs T len (bl T len p) - bl T len p))))] [.int u, .ref 89] σ' Q := by
        intro c _ u hu hc
        refine wpB_sd (stops := []) kX8_takeNumber 30 _ _ _ _ ?_
        refine mAr (by rw [e14]; rfl) (m_want (k := 2) (w := bl T len p) (c := c) hS' hu (by omega) (by omega) (fun σ2 hS2 hF2 _ => ?_))
        refine h σ2 _ _ _ hS2 ?_ (hF.tr hF2.u)
        by_cases q : c
        · rw [if_pos q]
          have hb3 := hc.mp q
          have e3 : stV T (bl T len p) (dgs T len (bl T len p) - bl T len p) = nmV T (bl T len p) (dgs T len (bl T len p) - bl T len p) := stV_nm (by omega) hdig
          refine NR_ok (a := (nmV T (bl T len p) (dgs T len (bl T len p) - bl T len p), dgs T len (bl T len p))) ?_ ⟨by rw [e3], rfl⟩
          unfold numS
          rw [if_neg (by omega), if_neg hb3]
        · rw [if_neg q]
          refine NR_fail ?_
          unfold numS
          rw [if_neg (by omega), if_pos (Classical.byContradiction fun z => q (hc.mpr z))]
      have no : (3 < dgs T len (bl T len p) - bl T len p ∨ nmV T (bl T len p) (dgs T len (bl T len p) - bl T len p) < lo ∨ hi ≤ nmV T (bl T len p) (dgs T len (bl T len p) - bl T len p)) → V mX8_takeNumber 159 [(0, .ref 89), (1, .int (nI lo)), (2, .int m), (3, .int u3), (4, .int (nI (stV T (bl T len p) (dgs T len (bl T len p) - bl T len p))))] [.ref 89] σ' Q := by
        intro q
        refine wpB_sd (stops := [160]) kX8_takeNumber 30 _ _ _ _ ?_
        exact at160 False 0 ⟨fun _ z => z, fun _ => rfl⟩ ⟨fun z => absurd z id, fun z => absurd q z⟩
      refine wpB_sd (stops := [159, 160]) kX8_takeNumber 30 _ _ _ _ ?_
      refine ⟨fun g => no ?_, fun g => ?_⟩
      · rw [hS'.2.2.1, e14, pk_sub he0] at g
        have := (nI_leI (a := 4) (by omega) (by omega)).mp g
        exact Or.inl (by omega)
      · rw [hS'.2.2.1, e14, pk_sub he0] at g
        have g : ¬ 4 ≤ dgs T len (bl T len p) - bl T len p := fun q => g (nI_le (a := 4) q (by omega))
        have e3 : stV T (bl T len p) (dgs T len (bl T len p) - bl T len p) = nmV T (bl T len p) (dgs T len (bl T len p) - bl T len p) := stV_nm (by omega) hdig
        refine m_inI (lo := nI lo) (hi := m) rfl rfl ?_
        refine ⟨fun g2 => no ?_, fun g2 => ?_⟩
        · have g2 := bI_0.mp g2
          refine Classical.byContradiction fun z => g2 ?_
          rw [e3] at hv ⊢
          refine ⟨nI_le (by omega) (by omega), ?_⟩
          rw [fa_le, nI_toInt (by omega), mI]
          omega
        · have g2 := bI_n0 g2
          rw [e3] at hv g2
          refine at160 True 1 ⟨fun z => absurd z (by decide), fun z => absurd trivial z⟩ ⟨fun _ z => ?_, fun _ => trivial⟩
          have a1 := (nI_leI (by omega) (by omega)).mp g2.1
          have a2 := g2.2
          rw [fa_le, nI_toInt (by omega), mI] at a2
          omega
    have loop : ∀ k p' σ' (u3 : Int32), p' + k = dgs T len (bl T len p) → bl T len p ≤ p' → bl T len p < dgs T len (bl T len p) → RU σ' T len p' none → σ' 89 14 = nI (bl T len p) → FrU σ σ' → V mX8_takeNumber 50 [(0, .ref 89), (1, .int (nI lo)), (2, .int m), (3, .int u3), (4, .int (nI (stV T (bl T len p) (p' - bl T len p))))] [] σ' Q := by
      intro k
      induction k with
      | zero =>
        intro p' σ' u3 hk hpp hlt hS' e14 hF
        have hk : p' = dgs T len (bl T len p) := by omega
        subst hk
        refine wpB_sd (stops := [50, 128]) kX8_takeNumber 30 _ _ _ _ ?_
        rcases Nat.lt_or_ge (dgs T len (bl T len p)) len with q | q
        · have hd : isD (T (dgs T len (bl T len p))) = false := spn_end (P := isD) (T := T) hb q
          have hd := of_decide_eq_false hd
          have ht := hS'.2.2.2.2.2.1 _ q
          refine br_f (by rw [hS'.1, hS'.2.2.1]; exact nI_ge q (by omega)) ?_
          refine uld hS' hS'.2.2.1 q ?_
          refine m_inI (lo := nI 48) (hi := nI 57) rfl rfl ?_
          refine br_t (bI_f (fun z => hd ?_)) ?_
          · exact ⟨(nI_leI (by omega) (by omega)).mp z.1, (nI_leI (by omega) (by omega)).mp z.2⟩
          · exact at128 σ' u3 hS' e14 hF hlt
        · refine br_t (by rw [hS'.1, hS'.2.2.1]; exact nI_le q (by omega)) ?_
          exact at128 σ' u3 hS' e14 hF hlt
      | succ k ih =>
        intro p' σ' u3 hk hpp hlt hS' e14 hF
        have hd : isD (T p') = true := spn_in hpp (show p' < dgs T len (bl T len p) by omega)
        have hd := of_decide_eq_true hd
        have ht := hS'.2.2.2.2.2.1 p' (by omega)
        have hv := hcap (p' - bl T len p) (by omega)
        have at113 : ∀ u : Int32, u = nI (stV T (bl T len p) (p' + 1 - bl T len p)) → V mX8_takeNumber 113 [(0, .ref 89), (1, .int (nI lo)), (2, .int m), (3, .int u3), (4, .int (nI (stV T (bl T len p) (p' - bl T len p))))] [.int u] σ' Q := by
          intro u hu
          subst hu
          refine wpB_sd (stops := [50]) kX8_takeNumber 30 _ _ _ _ ?_
          exact ih (p' + 1) _ u3 (by omega) (by omega) hlt (hS'.at (p' := p' + 1) (by omega) (by rw [hS'.2.2.1, nI_1])) (by rw [sgu_k (by omega)]; exact e14) (hF.tr FrA.at.u)
        have es : stV T (bl T len p) (p' + 1 - bl T len p) = if 99999 < stV T (bl T len p) (p' - bl T len p) then stV T (bl T len p) (p' - bl T len p) else 10 * stV T (bl T len p) (p' - bl T len p) + (T p' - 48) := by
          rw [show p' + 1 - bl T len p = p' - bl T len p + 1 by omega, stV, show bl T len p + (p' - bl T len p) = p' by omega]
        refine wpB_sd (stops := [113]) kX8_takeNumber 40 _ _ _ _ ?_
        refine br_f (by rw [hS'.1, hS'.2.2.1]; exact nI_ge (by omega) (by omega)) ?_
        refine uld hS' hS'.2.2.1 (by omega) ?_
        refine m_inI (lo := nI 48) (hi := nI 57) rfl rfl ?_
        rw [bI_t ⟨nI_le hd.1 (by omega), nI_le hd.2 (by omega)⟩]
        refine br_f (by decide) ?_
        refine ⟨fun g => ?_, fun g => ?_⟩
        · have g := (nI_leI (b := 99999) (by omega) (by omega)).mp g
          refine uld hS' hS'.2.2.1 (by omega) ?_
          refine at113 _ ?_
          rw [es, if_neg (by omega), show (10 : Int32) = nI 10 from rfl, show (48 : Int32) = nI 48 from rfl, pk_mul, nI_add, pk_sub (by omega)]
          congr 1
          omega
        · have g : ¬ stV T (bl T len p) (p' - bl T len p) ≤ 99999 := fun q => g (nI_le (b := 99999) q (by omega))
          refine at113 _ ?_
          rw [es, if_pos (by omega)]
    refine wpB_sd (stops := [50]) kX8_takeNumber 60 _ _ _ _ ?_
    refine br_t (by rw [hS.2.2.2.2.2.2.1]; decide) ?_
    refine m_here hS (fun σ1 hS1 hF1 => ?_)
    refine m_inI (lo := nI 48) (hi := nI 57) rfl rfl ?_
    have hS2 : RU (sgu σ1 89 14 (σ1 89 13)) T len (bl T len p) none := hS1.put (by omega) (by omega) (by omega) (by omega)
    have hF2 : FrU σ (sgu σ1 89 14 (σ1 89 13)) := ⟨fun c hc => by rw [sgu_c hc]; exact hF1.1 c hc, fun k hk => by rw [sgu_k (by omega)]; exact hF1.u.2 k hk⟩
    have hdc : (nI 48 ≤ chI T len p ∧ chI T len p ≤ nI 57) ↔ bl T len p < dgs T len (bl T len p) := by
      unfold chI
      constructor
      · intro z
        by_cases q : bl T len p < len
        · rw [if_pos q] at z
          have ht := hS1.2.2.2.2.2.1 _ q
          have z1 := (nI_leI (by omega) (by omega)).mp z.1
          have z2 := (nI_leI (by omega) (by omega)).mp z.2
          rcases Nat.lt_or_ge (bl T len p) (dgs T len (bl T len p)) with y | y
          · exact y
          · have ee : dgs T len (bl T len p) = bl T len p := by omega
            have hlt : dgs T len (bl T len p) < len := by omega
            have hd : isD (T (dgs T len (bl T len p))) = false := spn_end (P := isD) (T := T) hb hlt
            rw [ee] at hd
            exact absurd ⟨z1, z2⟩ (of_decide_eq_false hd)
        · rw [if_neg q] at z
          exact absurd z.1 (by decide)
      · intro z
        have hd : isD (T (bl T len p)) = true := spn_in (Nat.le_refl _) z
        have hd := of_decide_eq_true hd
        rw [if_pos (by omega)]
        exact ⟨nI_le hd.1 (by omega), nI_le hd.2 (by omega)⟩
    refine mAr (by rw [sgu_k (by omega), hS1.2.2.1]; rfl) (m_want (k := 1) (w := bl T len p) (c := bl T len p < dgs T len (bl T len p)) (g := bI (nI 48 ≤ chI T len p ∧ chI T len p ≤ nI 57)) hS2 (by rw [bI_0, hdc]) (by omega) (by omega) (fun σ3 hS3 hF3 h13 => ?_))
    by_cases q : bl T len p < dgs T len (bl T len p)
    · simp only [if_pos q] at hS3 ⊢
      refine bn_f (by decide) ?_
      have nxt := loop (dgs T len (bl T len p) - bl T len p) (bl T len p) σ3 (chI T len p) (by omega) (Nat.le_refl _) q hS3 (by rw [hF3.2 14 (by omega) (by omega) (by omega), sgu_s, hS1.2.2.1]) (hF2.tr hF3.u)
      rw [Nat.sub_self] at nxt
      exact nxt
    · simp only [if_neg q] at hS3 ⊢
      refine bn_t (bI_f (by simp [orF])) ?_
      exact h σ3 _ _ _ hS3 (NR_fail (by unfold numS; rw [if_pos (by omega)])) (hF2.tr hF3.u)
