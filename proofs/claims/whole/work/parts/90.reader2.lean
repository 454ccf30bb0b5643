/-! the class's reader: numbers, words, ends -/
def NR {α : Type} (r : Rz α) (f f' : Fl) (ok : α → Prop) : Prop := (∀ q, f = some q → f' = some q) ∧ (f = none → (∀ q, r = .inl q → f' = some q) ∧ ∀ a, r = .inr a → f' = none ∧ ok a)
theorem NR.bad {α : Type} {r : Rz α} {f f' : Fl} {ok : α → Prop} {q : Nat × Nat} (h : NR r f f' ok) (hf : f = some q) : f' = some q := h.1 q hf
theorem NR.inl {α : Type} {r : Rz α} {f f' : Fl} {ok : α → Prop} {q : Nat × Nat} (h : NR r f f' ok) (hf : f = none) (hr : r = .inl q) : f' = some q := (h.2 hf).1 q hr
theorem NR.inr {α : Type} {r : Rz α} {f f' : Fl} {ok : α → Prop} {a : α} (h : NR r f f' ok) (hf : f = none) (hr : r = .inr a) : f' = none ∧ ok a := (h.2 hf).2 a hr
theorem NR_fail {α : Type} {r : Rz α} {f : Fl} {ok : α → Prop} {k w : Nat} (hr : r = .inl (k, w)) : NR r f (orF f k w) ok := by
  refine ⟨fun q hq => by rw [hq]; rfl, fun hf => ⟨fun q hq => ?_, fun a ha => ?_⟩⟩
  · rw [hf]
    rw [hr] at hq
    simp only [Sum.inl.injEq] at hq
    subst hq; rfl
  · rw [hr] at ha; exact absurd ha (by simp)
theorem NR_ok {α : Type} {r : Rz α} {f : Fl} {ok : α → Prop} {a : α} (hr : r = .inr a) (ho : ok a) : NR r f f ok := by
  refine ⟨fun q hq => hq, fun hf => ⟨fun q hq => ?_, fun b hb => ?_⟩⟩
  · rw [hr] at hq; exact absurd hq (by simp)
  · rw [hr] at hb
    simp only [Sum.inr.injEq] at hb
    subst hb; exact ⟨hf, ho⟩
set_option maxRecDepth 100000 in
theorem s_readEnd {σ : Sg} {T : Tx} {len p : Nat} {f : Fl} {Q : Option Value → Sg → Prop} (hS : RS σ T len p f) (h : ∀ σ' p' f', RS σ' T len p' f' → NR (endS T len p) f f' (fun e => p' = e) → FrR σ σ' → Q none σ') : MetA mX6_readEnd [.ref 55] σ Q := by
  refine MetA_of qX6_readEnd (Nat.le_of_ble_eq_true rfl) ?_
  have hp := hS.2.2.2.1
  have hle := bl_le (T := T) hp
  refine wpB_sd (stops := []) kX6_readEnd 30 _ _ _ _ ?_
  refine mAr (by rfl) (s_nextIs (c := 59) hS (by omega) (fun σ1 hS1 hF1 => ?_))
  refine ⟨fun g => ?_, fun g => ?_⟩
  · have g := bI_0.mp g
    refine mAr (by rw [hS1.2.2.1]; rfl) (s_fail (k := 1) (w := bl T len p) hS1 (by omega) (by omega) (fun σ2 hS2 hF2 => ?_))
    exact h σ2 _ _ hS2 (NR_fail (by unfold endS; rw [if_neg g])) (hF1.tr hF2)
  · have g := bI_n0 g
    refine h _ (bl T len p + 1) f (hS1.at (by omega) (by rw [hS1.2.2.1, nI_1])) (NR_ok (a := bl T len p + 1) (by unfold endS; rw [if_pos g]) rfl) (hF1.tr FrR.at)
def cap3 (n : Nat) : Nat := if n ≤ 3 then n else 3
set_option maxRecDepth 100000 in
set_option maxHeartbeats 1000000 in
theorem s_readNumber {σ : Sg} {T : Tx} {len p lo hi : Nat} {m : Int32} {f : Fl} {Q : Option Value → Sg → Prop} (hS : RS σ T len p f) (hlo : lo ≤ 1) (hhi : hi ≤ 100) (hm : m = nI hi - 1) (h : ∀ σ' p' f' v, RS σ' T len p' f' → NR (numS T len p lo hi) f f' (fun x => v = nI x.1 ∧ p' = x.2) → FrR σ σ' → Q (some (.int v)) σ') : MetA mX6_readNumber [.ref 55, .int (nI lo), .int m] σ Q := by
  refine MetA_of qX6_readNumber (Nat.le_of_ble_eq_true rfl) ?_
  have hl := hS.2.1
  have hp := hS.2.2.2.1
  have hb := bl_le (T := T) hp
  have hb0 := bl_ge (T := T) (len := len) (p := p)
  have he := dgs_le (T := T) hb
  have he0 := dgs_ge (T := T) (len := len) (p := bl T len p)
  have hdig : ∀ i, i < dgs T len (bl T len p) - bl T len p → isD (T (bl T len p + i)) = true := fun i hi2 => spn_in (by omega) (show bl T len p + i < dgs T len (bl T len p) by omega)
  have hcap : ∀ n, n ≤ dgs T len (bl T len p) - bl T len p → nmV T (bl T len p) (cap3 n) < 1000 := fun n hn => by
    have : nmV T (bl T len p) (cap3 n) < 10 ^ cap3 n := nmV_le (fun i hi2 => hdig i (by unfold cap3 at hi2; split at hi2 <;> omega))
    have h2 : (10 : Nat) ^ cap3 n ≤ 10 ^ 3 := Nat.pow_le_pow_right (by omega) (by unfold cap3; split <;> omega)
    omega
  have mI : m.toInt = (hi : Int) - 1 := by
    rw [hm, fb_subI (by rw [nI_toInt (by omega)]; show _ ≤ (hi : Int) - 1; omega) (by rw [nI_toInt (by omega)]; show (hi : Int) - 1 < _; omega), nI_toInt (by omega)]; rfl
  -- after the figures
  have at94 : ∀ σ', RS σ' T len (dgs T len (bl T len p)) f → FrR σ σ' → V mX6_readNumber 94 [(0, .ref 55), (1, .int (nI lo)), (2, .int m), (3, .int (nI (bl T len p))), (4, .int (nI (nmV T (bl T len p) (cap3 (dgs T len (bl T len p) - bl T len p)))))] [] σ' Q := by
    intro σ' hS' hF
    have hv := hcap _ (Nat.le_refl _)
    have bad : (dgs T len (bl T len p) ≠ bl T len p) → (3 < dgs T len (bl T len p) - bl T len p ∨ nmV T (bl T len p) (dgs T len (bl T len p) - bl T len p) < lo ∨ hi ≤ nmV T (bl T len p) (dgs T len (bl T len p) - bl T len p)) → V mX6_readNumber 133 [(0, .ref 55), (1, .int (nI lo)), (2, .int m), (3, .int (nI (bl T len p))), (4, .int (nI (nmV T (bl T len p) (cap3 (dgs T len (bl T len p) - bl T len p)))))] [] σ' Q := by
      intro q1 q2
      refine wpB_sd (stops := []) kX6_readNumber 30 _ _ _ _ ?_
      refine mAr (by rfl) (s_fail (k := 2) (w := bl T len p) hS' (by omega) (by omega) (fun σ2 hS2 hF2 => ?_))
      exact h σ2 _ _ _ hS2 (NR_fail (by unfold numS; rw [if_neg q1, if_pos q2])) (hF.tr hF2)
    refine wpB_sd (stops := [133]) kX6_readNumber 40 _ _ _ _ ?_
    refine ⟨fun g => ?_, fun g => ?_⟩
    · rw [hS'.2.2.1] at g
      have g : ¬ dgs T len (bl T len p) = bl T len p := fun q => g (by rw [q])
      refine ⟨fun g2 => bad g ?_, fun g2 => ?_⟩
      · rw [hS'.2.2.1, pk_sub he0] at g2
        exact Or.inl ((nI_ltI (a := 3) (by omega) (by omega)).mp g2)
      · rw [hS'.2.2.1, pk_sub he0] at g2
        have g2 : ¬ 3 < dgs T len (bl T len p) - bl T len p := fun q => g2 (nI_lt (a := 3) q (by omega))
        have ec : cap3 (dgs T len (bl T len p) - bl T len p) = dgs T len (bl T len p) - bl T len p := by unfold cap3; rw [if_pos (by omega)]
        rw [ec] at hv
        refine ⟨fun g3 => bad g ?_, fun g3 => ⟨fun g4 => ?_, fun g4 => bad g ?_⟩⟩
        · rw [ec] at g3
          exact Or.inr (Or.inl ((nI_ltI (by omega) (by omega)).mp g3))
        · rw [ec] at g3 g4
          have g3 : ¬ nmV T (bl T len p) (dgs T len (bl T len p) - bl T len p) < lo := fun q => g3 (nI_lt q (by omega))
          rw [fa_le, nI_toInt (by omega), mI] at g4
          refine h σ' _ f _ hS' (NR_ok (a := (nmV T (bl T len p) (dgs T len (bl T len p) - bl T len p), dgs T len (bl T len p))) ?_ ⟨by rw [ec], rfl⟩) hF
          unfold numS
          rw [if_neg g, if_neg (by omega)]
        · rw [ec] at g4
          rw [fa_le, nI_toInt (by omega), mI] at g4
          exact Or.inr (Or.inr (by omega))
    · rw [hS'.2.2.1] at g
      have g := (nI_eq (by omega) (by omega)).mp g
      refine mAr (by rfl) (s_fail (k := 1) (w := bl T len p) hS' (by omega) (by omega) (fun σ2 hS2 hF2 => ?_))
      exact h σ2 _ _ _ hS2 (NR_fail (by unfold numS; rw [if_pos g])) (hF.tr hF2)
  have loop : ∀ k p' σ', p' + k = dgs T len (bl T len p) → bl T len p ≤ p' → RS σ' T len p' f → FrR σ σ' → V mX6_readNumber 12 [(0, .ref 55), (1, .int (nI lo)), (2, .int m), (3, .int (nI (bl T len p))), (4, .int (nI (nmV T (bl T len p) (cap3 (p' - bl T len p)))))] [] σ' Q := by
    intro k
    induction k with
    | zero =>
      intro p' σ' hk hpp hS' hF
      have hk : p' = dgs T len (bl T len p) := by omega
      subst hk
      refine wpB_sd (stops := [12, 94]) kX6_readNumber 30 _ _ _ _ ?_
      rcases Nat.lt_or_ge (dgs T len (bl T len p)) len with q | q
      · have hd : isD (T (dgs T len (bl T len p))) = false := spn_end (P := isD) (T := T) hb q
        have hd := of_decide_eq_false hd
        have ht := hS'.2.2.2.2.2.1 _ q
        refine br_f (by rw [hS'.1, hS'.2.2.1]; exact nI_ge q (by omega)) ?_
        refine bld hS' hS'.2.2.1 q ?_
        refine ⟨fun g => at94 σ' hS' hF, fun g => ?_⟩
        have g : ¬ ¬ (48 ≤ T (dgs T len (bl T len p)) ∧ T (dgs T len (bl T len p)) < 128) := fun z => g ((sb_lt (c := 48) ht (by omega)).mpr z)
        refine bld hS' hS'.2.2.1 q ?_
        refine br_t ((sb_gt (c := 57) ht (by omega)).mpr (by omega)) ?_
        exact at94 σ' hS' hF
      · refine br_t (by rw [hS'.1, hS'.2.2.1]; exact nI_le q (by omega)) ?_
        exact at94 σ' hS' hF
    | succ k ih =>
      intro p' σ' hk hpp hS' hF
      have hd : isD (T p') = true := spn_in hpp (show p' < dgs T len (bl T len p) by omega)
      have hd := of_decide_eq_true hd
      have ht := hS'.2.2.2.2.2.1 p' (by omega)
      have hsb : sb (T p') = nI (T p') := sb_lo (by omega)
      have hv := hcap (p' - bl T len p) (by omega)
      have at81 : ∀ u : Int32, u = nI (nmV T (bl T len p) (cap3 (p' + 1 - bl T len p))) → V mX6_readNumber 81 [(0, .ref 55), (1, .int (nI lo)), (2, .int m), (3, .int (nI (bl T len p))), (4, .int u)] [] σ' Q := by
        intro u hu
        subst hu
        refine wpB_sd (stops := [12]) kX6_readNumber 30 _ _ _ _ ?_
        exact ih (p' + 1) _ (by omega) (by omega) (hS'.at (p' := p' + 1) (by omega) (by rw [hS'.2.2.1, nI_1])) (hF.tr FrR.at)
      refine wpB_sd (stops := [81]) kX6_readNumber 40 _ _ _ _ ?_
      refine br_f (by rw [hS'.1, hS'.2.2.1]; exact nI_ge (by omega) (by omega)) ?_
      refine bld hS' hS'.2.2.1 (by omega) ?_
      refine br_f (fun z => (sb_lt (c := 48) ht (by omega)).mp z (by omega)) ?_
      refine bld hS' hS'.2.2.1 (by omega) ?_
      refine br_f (fun z => by have := (sb_gt (c := 57) ht (by omega)).mp z; omega) ?_
      refine ⟨fun g => ?_, fun g => ?_⟩
      · rw [hS'.2.2.1, pk_sub hpp] at g
        have g := (nI_leI (a := 3) (by omega) (by omega)).mp g
        refine at81 _ ?_
        have : cap3 (p' + 1 - bl T len p) = cap3 (p' - bl T len p) := by unfold cap3; split <;> split <;> omega
        rw [this]
      · rw [hS'.2.2.1, pk_sub hpp] at g
        have g : ¬ 3 ≤ p' - bl T len p := fun q => g (nI_le (a := 3) q (by omega))
        refine bld hS' hS'.2.2.1 (by omega) ?_
        refine at81 _ ?_
        have c1 : cap3 (p' - bl T len p) = p' - bl T len p := by unfold cap3; rw [if_pos (by omega)]
        have c2 : cap3 (p' + 1 - bl T len p) = p' - bl T len p + 1 := by unfold cap3; rw [if_pos (by omega)]; omega
        rw [c2, c1, nmV, show bl T len p + (p' - bl T len p) = p' by omega, hsb, show (10 : Int32) = nI 10 from rfl, show (48 : Int32) = nI 48 from rfl, pk_mul, nI_add, pk_sub (by omega)]
        congr 1
        omega
  refine wpB_sd (stops := [12]) kX6_readNumber 40 _ _ _ _ ?_
  refine s_skipBlanks hS (fun σ1 hS1 hF1 => ?_)
  have nxt := loop (dgs T len (bl T len p) - bl T len p) (bl T len p) σ1 (by omega) (Nat.le_refl _) hS1 hF1
  rw [Nat.sub_self, ← hS1.2.2.1] at nxt
  exact nxt
def wds : List (List Nat) := [wHarvest, wHouse, wJar, wPlain, wPlum, wGlass]
theorem wd_len : ∀ i : Fin 6, eg_len.getD i.val 0 = (wds.getD i.val []).length ∧ (wds.getD i.val []).length ≤ 7 := by decide
theorem wd_byt : ∀ i : Fin 6, ∀ k : Fin 8, k.val < (wds.getD i.val []).length → (eg_byt.getD i.val []).getD k.val 0 = nI ((wds.getD i.val []).getD k.val 0) ∧ (wds.getD i.val []).getD k.val 0 < 128 := by decide
set_option maxRecDepth 100000 in
set_option maxHeartbeats 2000000 in
theorem s_wordIs {σ : Sg} {T : Tx} {len s e i : Nat} {f : Fl} {Q : Option Value → Sg → Prop} (hS : RS σ T len e f) (hi : i < 6) (hse : s ≤ e) (h : Q (some (.int (bI (IsWd T s e (wds.getD i []))))) σ) : MetA mX6_wordIs [.ref 55, .int (nI s), .ref (1000 + i)] σ Q := by
  have hl := hS.2.1
  have hp := hS.2.2.2.1
  have hle := hS.2.2.2.1
  obtain ⟨w1, w2⟩ := wd_len ⟨i, hi⟩
  have wb : ∀ k, k < (wds.getD i []).length → (eg_byt.getD i []).getD k 0 = nI ((wds.getD i []).getD k 0) ∧ (wds.getD i []).getD k 0 < 128 := fun k hk => wd_byt ⟨i, hi⟩ ⟨k, by dsimp only at w2; omega⟩ hk
  dsimp only at w1 w2
  refine MetA_of qX6_wordIs (Nat.le_of_ble_eq_true rfl) ?_
  have no : ¬ IsWd T s e (wds.getD i []) → ((0 : Int32) = 0 ∨ (0 : Int32) = 1) ∧ Q (some (.int 0)) σ := fun q => by
    rw [bI_f q] at h
    exact ⟨Or.inl rfl, h⟩
  have loop : e = s + (wds.getD i []).length → ∀ m k, k + m = (wds.getD i []).length → (∀ j, j < k → T (s + j) = (wds.getD i []).getD j 0) → V mX6_wordIs 21 [(0, .ref 55), (1, .int (nI s)), (2, .ref (1000 + i)), (3, .int (nI k))] [] σ Q := by
    intro hlen m
    induction m with
    | zero =>
      intro k hk hall
      rw [bI_t ⟨hlen, fun j hj => hall j (by omega)⟩] at h
      rcases (show i = 0 ∨ i = 1 ∨ i = 2 ∨ i = 3 ∨ i = 4 ∨ i = 5 by omega) with rfl | rfl | rfl | rfl | rfl | rfl <;>
      · refine wpB_sd (stops := [21]) kX6_wordIs 30 _ _ _ _ ?_
        refine s_len (by omega) ?_
        rw [w1]
        refine br_t (nI_le (by omega) (by omega)) ?_
        exact ⟨Or.inr rfl, h⟩
    | succ m ih =>
      intro k hk hall
      obtain ⟨b1, b2⟩ := wb k (by omega)
      have ht := hS.2.2.2.2.2.1 (s + k) (by omega)
      have nxt : T (s + k) = (wds.getD i []).getD k 0 → V mX6_wordIs 21 [(0, .ref 55), (1, .int (nI s)), (2, .ref (1000 + i)), (3, .int (nI k + 1))] [] σ Q := fun q => by
        have := ih (k + 1) (by omega) (fun j hj => by
          by_cases z : j = k
          · subst z; exact q
          · exact hall j (by omega))
        rw [← nI_1] at this
        exact this
      have fin : ¬ T (s + k) = (wds.getD i []).getD k 0 → ((0 : Int32) = 0 ∨ (0 : Int32) = 1) ∧ Q (some (.int 0)) σ := fun q => no (fun z => q (z.2 k (by omega)))
      rcases (show i = 0 ∨ i = 1 ∨ i = 2 ∨ i = 3 ∨ i = 4 ∨ i = 5 by omega) with rfl | rfl | rfl | rfl | rfl | rfl <;>
      · refine wpB_sd (stops := [21]) kX6_wordIs 40 _ _ _ _ ?_
        refine s_len (by omega) ?_
        rw [w1]
        refine br_f (nI_ge (by omega) (by omega)) ?_
        refine bld (j := s + k) hS (nI_add _ _) (by omega) ?_
        refine s_charAt (by omega) (by rw [w1]; omega) ?_
        rw [b1]
        refine ⟨fun g => nxt ((sb_eq ht b2).mp g), fun g => fin (fun q => g ((sb_eq ht b2).mpr q))⟩
  rcases (show i = 0 ∨ i = 1 ∨ i = 2 ∨ i = 3 ∨ i = 4 ∨ i = 5 by omega) with rfl | rfl | rfl | rfl | rfl | rfl <;>
  · refine wpB_sd (stops := [21]) kX6_wordIs 40 _ _ _ _ ?_
    refine br_f (nI_pos (by omega)) ?_
    refine s_len (by omega) ?_
    rw [w1, hS.2.2.1, pk_sub hse]
    refine ⟨fun g => ?_, fun g => ?_⟩
    · have g := (nI_eq (by omega) (by omega)).mp g
      exact loop (by omega) _ 0 (Nat.zero_add _) (fun j hj => by omega)
    · exact no (fun q => g (by rw [q.1, Nat.add_sub_cancel_left]))
