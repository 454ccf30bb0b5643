/-! bequest: the class -/
def jlN (A : St) (a : Nat) : Nat := (lkL A a (A 12 0)).length
def jlJ (A : St) (a k : Nat) : Nat := (lkL A a (A 12 0)).getD k 0
def qB (A : St) (a k : Nat) : Nat := A 3 (jlJ A a k)
def bqV (A : St) (a code : Nat) : Nat := bqO (qB A a) (A 12 5 - 1) (jlN A a) code
def bqN (A : St) (a : Nat) : Nat := (A 12 5 - 1) ^ jlN A a
def bqB (A : St) (a : Nat) : Nat := amF (bqV A a) (bqN A a)
def IsH (A : St) (a : Nat) (y r : Int32) : Prop := (∃ i, i < jlN A a ∧ y = nI (jlJ A a i) ∧ r = nI (hrB a (dgB (A 12 5 - 1) (jlN A a) (bqB A a) i))) ∨ ((∀ i, i < jlN A a → y ≠ nI (jlJ A a i)) ∧ r = -1)
theorem jlN_le {A : St} {a : Nat} : jlN A a ≤ 8 := lkL_len A a _
theorem gd_mem {l : List Nat} {k : Nat} (h : k < l.length) : l.getD k 0 ∈ l := by
  have e : l.getD k 0 = l[k] := by simp [List.getD, List.getElem?_eq_getElem h]
  rw [e]; exact List.getElem_mem h
theorem jl_in {A : St} {a k : Nat} (h : k < jlN A a) : jlJ A a k < A 12 0 ∧ A 1 (jlJ A a k) = a ∧ A 6 (jlJ A a k) = 0 := by
  exact lkL_mem (hh := a) (gd_mem h)
theorem lkL_mono {A : St} {a : Nat} : ∀ (n i j : Nat), i < j → j < (lkL A a n).length → (lkL A a n).getD i 0 < (lkL A a n).getD j 0
  | 0, i, j, _, h => by simp [lkL] at h
  | n + 1, i, j, hij, h => by
    rw [lkL] at h ⊢
    split at h
    · next hc =>
      rw [if_pos hc]
      rw [List.length_append, List.length_singleton] at h
      have hil : i < (lkL A a n).length := by omega
      rw [show (lkL A a n ++ [n]).getD i 0 = (lkL A a n).getD i 0 by simp [List.getD, List.getElem?_append_left hil]]
      by_cases q : j = (lkL A a n).length
      · subst q
        rw [show (lkL A a n ++ [n]).getD (lkL A a n).length 0 = n by simp [List.getD]]
        exact (lkL_mem (A := A) (hh := a) (gd_mem hil)).1
      · have hjl : j < (lkL A a n).length := by omega
        rw [show (lkL A a n ++ [n]).getD j 0 = (lkL A a n).getD j 0 by simp [List.getD, List.getElem?_append_left hjl]]
        exact lkL_mono n i j hij hjl
    · next hc => rw [if_neg hc]; exact lkL_mono n i j hij h
theorem jl_one {A : St} {a i j : Nat} (hi : i < jlN A a) (hj : j < jlN A a) (e : jlJ A a i = jlJ A a j) : i = j := by
  rcases Nat.lt_trichotomy i j with q | q | q
  · have := lkL_mono (A := A) (a := a) _ i j q hj
    unfold jlJ at e; omega
  · exact q
  · have := lkL_mono (A := A) (a := a) _ j i q hi
    unfold jlJ at e; omega
theorem IsH_one {A : St} {a : Nat} {y r s : Int32} (hW : WJ A) (hr : IsH A a y r) (hs : IsH A a y s) : r = s := by
  have h24 := hW.1
  rcases hr with ⟨i, h1, h2, h3⟩ | ⟨h1, h2⟩ <;> rcases hs with ⟨j, g1, g2, g3⟩ | ⟨g1, g2⟩
  · have e : jlJ A a i = jlJ A a j := by
      have := (jl_in h1).1
      have := (jl_in g1).1
      exact (nI_eq (by omega) (by omega)).mp (h2.symm.trans g2)
    rw [h3, g3, jl_one h1 g1 e]
  · exact absurd h2 (g1 i h1)
  · exact absurd g2 (h1 j g1)
  · rw [h2, g2]
theorem qB_le {A : St} {a k : Nat} (hW : WJ A) (hk : k < jlN A a) : qB A a k ≤ 99 := (hW.2.2 _ (jl_in hk).1).2.2.2.1
theorem bqV_le {A : St} {a code : Nat} (hW : WJ A) : bqV A a code ≤ 800 := by
  unfold bqV bqO
  have hle : ∀ p, bqF (qB A a) (A 12 5 - 1) (jlN A a) code p ≤ 800 := fun p => by
    have := bqF_le (q := qB A a) (d := A 12 5 - 1) (code := code) (p := p) (fun k hk => qB_le hW hk) jlN_le (Nat.le_refl (jlN A a))
    have := jlN_le (A := A) (a := a)
    unfold bqF; omega
  have := mxF_le hle (A 12 5 - 1 - 1)
  omega
theorem amF_s {f : Nat → Nat} {n : Nat} (h : 0 < n) : amF f (n + 1) = if f n < f (amF f n) then n else amF f n := by
  rw [amF, if_neg (by omega)]
theorem pw8 : ∀ d : Fin 4, ∀ c : Fin 9, d.val ^ c.val < 7000 := by decide
theorem ac8 : ∀ c : Fin 9, acB 78 79 c.val = true := by decide
set_option maxRecDepth 100000 in
set_option maxHeartbeats 2000000 in
theorem s_deal {σ : Sg} {A : St} {hg a : Nat} {Q : Option Value → Sg → Prop} (hC : CS σ A hg) (hW : WL A) (ha : a < A 12 5) (h2 : 2 ≤ A 12 5) (h : ∀ σ', σ' 75 1 = nI (jlN A a) → σ' 75 7 = nI (bqV A a (bqB A a)) → (∀ k, k < jlN A a → σ' 76 k = nI (jlJ A a k)) → (∀ p, p < A 12 5 - 1 → σ' 77 p = nI (hrB a p)) → (∀ k, k < jlN A a → σ' 79 k = nI (dgB (A 12 5 - 1) (jlN A a) (bqB A a) k)) → FrC 75 80 σ σ' → Q none σ') : MetA mX2_deal [.ref 75, .ref 1, .int (nI a)] σ Q := by
  refine MetA_of qX2_deal (Nat.le_of_ble_eq_true rfl) ?_
  have h4 := hW.2.1
  have h24 := hW.1.1
  have hc8 := jlN_le (A := A) (a := a)
  have hway : bqN A a < 7000 := pw8 ⟨A 12 5 - 1, by omega⟩ ⟨jlN A a, by omega⟩
  have hway0 : 0 < bqN A a := Nat.pow_pos (by omega)
  have hq : ∀ k, k < jlN A a → qB A a k ≤ 99 := fun k hk => qB_le hW.1 hk
  have hl : ∀ k, k < jlN A a → jlJ A a k < 24 := fun k hk => by have := (jl_in hk).1; omega
  -- the ways
  have r99 : ∀ m i σ' (b : Nat), i + m = bqN A a → σ' 75 1 = nI (jlN A a) → σ' 75 3 = nI (A 12 5 - 1) → (∀ k, k < jlN A a → σ' 76 k = nI (jlJ A a k)) → (∀ p, p < A 12 5 - 1 → σ' 77 p = nI (hrB a p)) → (∀ k, k < jlN A a → σ' 78 k = nI (dgB (A 12 5 - 1) (jlN A a) i k)) → (i = 0 → σ' 75 7 = nI 1000000000) → (0 < i → σ' 75 7 = nI (bqV A a (amF (bqV A a) i)) ∧ ∀ k, k < jlN A a → σ' 79 k = nI (dgB (A 12 5 - 1) (jlN A a) (amF (bqV A a) i) k)) → FrC 75 80 σ σ' → V mX2_deal 99 [(0, .ref 75), (1, .ref 1), (2, .int (nI a)), (3, .int (nI (bqN A a))), (4, .int (nI i))] [] σ' Q := by
    intro m
    induction m with
    | zero =>
      intro i σ' b hi e1 e3 e76 e77 e78 h0 hs hF
      have hi : i = bqN A a := by omega
      subst hi
      refine wpB_sd (stops := [99]) kX2_deal 30 _ _ _ _ ?_
      refine br_t (nI_le (by omega) (by omega)) ?_
      exact h σ' e1 (hs hway0).1 e76 e77 (hs hway0).2 hF
    | succ m ih =>
      intro i σ' b hi e1 e3 e76 e77 e78 h0 hs hF
      have hR' : RCel 7 σ' A := hC.1.1.fr (fun c a b => hF c (by omega))
      have hv := bqV_le (a := a) (code := i) hW.1
      have at147 : ∀ (σ4 : Sg) (u : Int32), σ4 75 1 = nI (jlN A a) → σ4 75 3 = nI (A 12 5 - 1) → (∀ k, k < jlN A a → σ4 76 k = nI (jlJ A a k)) → (∀ p, p < A 12 5 - 1 → σ4 77 p = nI (hrB a p)) → (∀ k, k < jlN A a → σ4 78 k = nI (dgB (A 12 5 - 1) (jlN A a) i k)) → σ4 75 7 = nI (bqV A a (amF (bqV A a) (i + 1))) → (∀ k, k < jlN A a → σ4 79 k = nI (dgB (A 12 5 - 1) (jlN A a) (amF (bqV A a) (i + 1)) k)) → FrC 75 80 σ σ4 → V mX2_deal 147 [(0, .ref 75), (1, .ref 1), (2, .int (nI a)), (3, .int (nI (bqN A a))), (4, .int (nI i)), (5, .int u)] [] σ4 Q := by
        intro σ4 u f1 f3 f76 f77 f78 f7 f79 fF
        refine wpB_sd (stops := [99]) kX2_deal 30 _ _ _ _ ?_
        refine s_nextWay (d := A 12 5 - 1) (code := i) (by omega) (by omega) hc8 f1 f3 f78 (fun σ5 g78 gF => ?_)
        have nxt := ih (i + 1) σ5 0 (by omega) (by rw [gF 75 (by omega)]; exact f1) (by rw [gF 75 (by omega)]; exact f3) (fun k hk => by rw [gF 76 (by omega)]; exact f76 k hk) (fun p hp => by rw [gF 77 (by omega)]; exact f77 p hp) g78 (by omega) (fun _ => ⟨by rw [gF 75 (by omega)]; exact f7, fun k hk => by rw [gF 79 (by omega)]; exact f79 k hk⟩) (fun c hc => by rw [gF c (by omega)]; exact fF c hc)
        rw [← nI_1] at nxt
        exact V.take 5 nxt
      refine wpB_sd (stops := [147]) kX2_deal 60 _ _ _ _ ?_
      refine br_f (nI_ge (by omega) (by omega)) ?_
      refine s_diffOf (q := qB A a) (l := jlJ A a) (d := A 12 5 - 1) (code := i) (by omega) (by omega) hc8 hq hl e1 e3 e76 (fun k hk => (hR'.2.2 _ (jl_in hk).1).2.2.2.1) e78 (fun σ2 hF2 => ?_)
      have f1 : σ2 75 1 = nI (jlN A a) := by rw [hF2 75 (by omega)]; exact e1
      have f3 : σ2 75 3 = nI (A 12 5 - 1) := by rw [hF2 75 (by omega)]; exact e3
      have f7 : σ2 75 7 = σ' 75 7 := by rw [hF2 75 (by omega)]
      have fF : FrC 75 80 σ σ2 := fun c hc => by rw [hF2 c (by omega)]; exact hF c hc
      have hbv : bqO (qB A a) (A 12 5 - 1) (jlN A a) i = bqV A a i := rfl
      refine ⟨fun g => ?_, fun g => ?_⟩
      · have hi0 : 0 < i := by
          rcases Nat.eq_zero_or_pos i with z | z
          · rw [f7, h0 z, hbv] at g
            have := (nI_leI (by omega) (by omega)).mp g
            omega
          · exact z
        obtain ⟨b1, b2⟩ := hs hi0
        have hv2 := bqV_le (a := a) (code := amF (bqV A a) i) hW.1
        rw [f7, b1, hbv] at g
        have g := (nI_leI (by omega) (by omega)).mp g
        have e : amF (bqV A a) (i + 1) = amF (bqV A a) i := by rw [amF_s hi0, if_neg (by omega)]
        exact at147 σ2 _ f1 f3 (fun k hk => by rw [hF2 76 (by omega)]; exact e76 k hk) (fun p hp => by rw [hF2 77 (by omega)]; exact e77 p hp) (fun k hk => by rw [hF2 78 (by omega)]; exact e78 k hk) (by rw [f7, e]; exact b1) (fun k hk => by rw [hF2 79 (by omega), e]; exact b2 k hk) fF
      · have e : amF (bqV A a) (i + 1) = i := by
          rcases Nat.eq_zero_or_pos i with z | z
          · subst z; rfl
          · obtain ⟨b1, b2⟩ := hs z
            have hv2 := bqV_le (a := a) (code := amF (bqV A a) i) hW.1
            rw [f7, b1, hbv] at g
            rw [amF_s z, if_pos (Nat.lt_of_not_le fun q => g (nI_le q (by omega)))]
        refine ⟨acok (n := jlN A a) (ac8 ⟨jlN A a, by omega⟩) (by rw [sgu_k (by omega)]; exact f1), ?_⟩
        have f1' : sgu σ2 75 7 (nI (bqV A a i)) 75 1 = nI (jlN A a) := by rw [sgu_k (by omega)]; exact f1
        refine at147 _ _ ?_ ?_ (fun k hk => ?_) (fun p hp => ?_) (fun k hk => ?_) ?_ (fun k hk => ?_) (fun c hc => ?_)
        · rw [sgc_ne (by omega)]; exact f1'
        · rw [sgc_ne (by omega), sgu_k (by omega)]; exact f3
        · rw [sgc_ne (by omega), sgu_c (by omega), hF2 76 (by omega)]; exact e76 k hk
        · rw [sgc_ne (by omega), sgu_c (by omega), hF2 77 (by omega)]; exact e77 p hp
        · rw [sgc_ne (by omega), sgu_c (by omega), hF2 78 (by omega)]; exact e78 k hk
        · rw [sgc_ne (by omega), sgu_s, e]; rfl
        · rw [sgc_self, e]
          refine (cp_in (n := jlN A a) f1' (by omega) hk).trans ?_
          rw [sgu_c (by omega), hF2 78 (by omega)]; exact e78 k hk
        · rw [sgc_ne (by omega), sgu_c (by omega)]; exact fF c hc
  -- nothing tried yet
  have r64 : ∀ m i σ', i + m = jlN A a → σ' 75 1 = nI (jlN A a) → σ' 75 3 = nI (A 12 5 - 1) → (∀ k, k < jlN A a → σ' 76 k = nI (jlJ A a k)) → (∀ p, p < A 12 5 - 1 → σ' 77 p = nI (hrB a p)) → (∀ k, k < i → σ' 78 k = nI 0) → FrC 75 80 σ σ' → V mX2_deal 64 [(0, .ref 75), (1, .ref 1), (2, .int (nI a)), (3, .int (nI i))] [] σ' Q := by
    intro m
    induction m with
    | zero =>
      intro i σ' hi e1 e3 e76 e77 e78 hF
      have hi : i = jlN A a := by omega
      subst hi
      refine wpB_sd (stops := [64, 99]) kX2_deal 30 _ _ _ _ ?_
      refine br_t (by rw [e1]; exact nI_le (by omega) (by omega)) ?_
      refine s_countWays hc8 (by rw [sgu_k (by omega)]; exact e1) (by rw [sgu_k (by omega)]; exact e3) ?_
      refine r99 (bqN A a) 0 _ 0 (by omega) ?_ ?_ (fun k hk => ?_) (fun p hp => ?_) (fun k hk => ?_) (fun _ => ?_) (by omega) (fun c hc => ?_)
      · rw [sgu_k (by omega)]; exact e1
      · rw [sgu_k (by omega)]; exact e3
      · rw [sgu_c (by omega)]; exact e76 k hk
      · rw [sgu_c (by omega)]; exact e77 p hp
      · rw [sgu_c (by omega), e78 k hk]; unfold dgB; rw [Nat.zero_div, Nat.zero_mod]
      · rw [sgu_s]; rfl
      · rw [sgu_c (by omega)]; exact hF c hc
    | succ m ih =>
      intro i σ' hi e1 e3 e76 e77 e78 hF
      refine wpB_sd (stops := [64]) kX2_deal 30 _ _ _ _ ?_
      refine br_f (by rw [e1]; exact nI_ge (by omega) (by omega)) ?_
      refine ast (n := 8) (j := i) rfl rfl (by omega) ?_
      have nxt := ih (i + 1) (sgu σ' 78 i 0) (by omega) (by rw [sgu_c (by omega)]; exact e1) (by rw [sgu_c (by omega)]; exact e3) (fun k hk => by rw [sgu_c (by omega)]; exact e76 k hk) (fun p hp => by rw [sgu_c (by omega)]; exact e77 p hp) (fun k hk => by
        by_cases z : k = i
        · subst z; rw [sgu_s]; rfl
        · rw [sgu_k z]; exact e78 k (by omega)) (fun c hc => by rw [sgu_c (by omega)]; exact hF c hc)
      rw [← nI_1] at nxt
      exact nxt
  -- the heirs
  have r23 : ∀ m o σ', o + m = A 12 5 → σ' 75 1 = nI (jlN A a) → σ' 75 3 = nI (if o ≤ a then o else o - 1) → (∀ k, k < jlN A a → σ' 76 k = nI (jlJ A a k)) → (∀ p, p < (if o ≤ a then o else o - 1) → σ' 77 p = nI (hrB a p)) → FrC 75 80 σ σ' → V mX2_deal 23 [(0, .ref 75), (1, .ref 1), (2, .int (nI a)), (3, .int (nI o))] [] σ' Q := by
    intro m
    induction m with
    | zero =>
      intro o σ' ho e1 e3 e76 e77 hF
      have ho : o = A 12 5 := by omega
      subst ho
      rw [if_neg (by omega)] at e3 e77
      refine wpB_sd (stops := [23, 64]) kX2_deal 30 _ _ _ _ ?_
      refine br_t (by rw [hF 1 (by omega), hC.1.2.1]; exact nI_le (by omega) (by omega)) ?_
      exact V.take 4 (r64 (jlN A a) 0 σ' (by omega) e1 e3 e76 e77 (fun k hk => by omega) hF)
    | succ m ih =>
      intro o σ' ho e1 e3 e76 e77 hF
      refine wpB_sd (stops := [23]) kX2_deal 40 _ _ _ _ ?_
      refine br_f (by rw [hF 1 (by omega), hC.1.2.1]; exact nI_ge (by omega) (by omega)) ?_
      refine ⟨fun g => ?_, fun g => ?_⟩
      · have g := (nI_eq (by omega) (by omega)).mp g
        subst g
        rw [if_pos (Nat.le_refl _)] at e3 e77
        have nxt := ih (o + 1) σ' (by omega) e1 (by rw [if_neg (by omega)]; exact e3) e76 (by rw [if_neg (by omega)]; exact e77) hF
        rw [← nI_1] at nxt
        exact nxt
      · have g : o ≠ a := fun q => g (by rw [q])
        refine ast (n := 4) (j := if o ≤ a then o else o - 1) rfl e3 (by split <;> omega) ?_
        have e3' : sgu σ' 77 (if o ≤ a then o else o - 1) (nI o) 75 3 = nI (if o ≤ a then o else o - 1) := by rw [sgu_c (by omega)]; exact e3
        have nxt := ih (o + 1) (sgu (sgu σ' 77 (if o ≤ a then o else o - 1) (nI o)) 75 3 (sgu σ' 77 (if o ≤ a then o else o - 1) (nI o) 75 3 + 1)) (by omega) (by rw [sgu_k (by omega), sgu_c (by omega)]; exact e1) ?_ (fun k hk => by rw [sgu_c (by omega), sgu_c (by omega)]; exact e76 k hk) (fun p hp => ?_) (fun c hc => by rw [sgu_c (by omega), sgu_c (by omega)]; exact hF c hc)
        · rw [← nI_1] at nxt
          exact nxt
        · rw [sgu_s, e3', nI_1]
          congr 1
          split <;> split <;> omega
        · rw [sgu_c (by omega)]
          by_cases z : p = (if o ≤ a then o else o - 1)
          · rw [z, sgu_s]
            unfold hrB
            congr 1
            split <;> split <;> omega
          · rw [sgu_k z]
            refine e77 p ?_
            split at hp <;> split at z <;> split <;> omega
  refine wpB_sd (stops := [23]) kX2_deal 40 _ _ _ _ ?_
  refine s_lookAt (r := 76) (Or.inr rfl) hC.1.1 hW.1 (by omega) (fun σ1 hk1 hF1 => ?_)
  refine r23 (A 12 5) 0 _ (by omega) ?_ ?_ (fun k hk => ?_) (fun p hp => by split at hp <;> omega) (fun c hc => ?_)
  · rw [sgu_k (by omega), sgu_s]; rfl
  · rw [sgu_s, if_pos (by omega)]; rfl
  · rw [sgu_c (by omega), sgu_c (by omega)]; exact hk1 k hk
  · rw [sgu_c (by omega), sgu_c (by omega)]; exact hF1 c (by omega)
set_option maxRecDepth 100000 in
theorem s_heirOf {σ : Sg} {A : St} {a : Nat} {y : Int32} {Q : Option Value → Sg → Prop} (h4 : A 12 5 ≤ 4) (h2 : 2 ≤ A 12 5) (e1 : σ 75 1 = nI (jlN A a)) (e76 : ∀ k, k < jlN A a → σ 76 k = nI (jlJ A a k)) (e77 : ∀ p, p < A 12 5 - 1 → σ 77 p = nI (hrB a p)) (e79 : ∀ k, k < jlN A a → σ 79 k = nI (dgB (A 12 5 - 1) (jlN A a) (bqB A a) k)) (h : ∀ r, IsH A a y r → Q (some (.int r)) σ) : MetA mX2_heirOf [.ref 75, .int y] σ Q := by
  refine MetA_of qX2_heirOf (Nat.le_of_ble_eq_true rfl) ?_
  have hc8 := jlN_le (A := A) (a := a)
  have loop : ∀ m i, i + m = jlN A a → (∀ k, k < i → y ≠ nI (jlJ A a k)) → V mX2_heirOf 2 [(0, .ref 75), (1, .int y), (2, .int (nI i))] [] σ Q := by
    intro m
    induction m with
    | zero =>
      intro i hi hn
      have hi : i = jlN A a := by omega
      subst hi
      refine wpB_sd (stops := [2]) kX2_heirOf 30 _ _ _ _ ?_
      refine br_t (by rw [e1]; exact nI_le (by omega) (by omega)) ?_
      exact h _ (Or.inr ⟨hn, rfl⟩)
    | succ m ih =>
      intro i hi hn
      refine wpB_sd (stops := [2]) kX2_heirOf 30 _ _ _ _ ?_
      refine br_f (by rw [e1]; exact nI_ge (by omega) (by omega)) ?_
      refine ald (n := 8) (j := i) rfl rfl (by omega) (e76 i (by omega)) ?_
      refine ⟨fun g => ?_, fun g => ?_⟩
      · have nxt := ih (i + 1) (by omega) (fun k hk => by
          by_cases z : k = i
          · subst z; exact fun q => g q.symm
          · exact hn k (by omega))
        rw [← nI_1] at nxt
        exact nxt
      · have hdl := dg_lt (d := A 12 5 - 1) (c := jlN A a) (code := bqB A a) (i := i) (by omega)
        refine ald (n := 8) (j := i) rfl rfl (by omega) (e79 i (by omega)) ?_
        refine ald (n := 4) (j := dgB (A 12 5 - 1) (jlN A a) (bqB A a) i) rfl rfl (by omega) (e77 _ hdl) ?_
        exact h _ (Or.inl ⟨i, by omega, g.symm, rfl⟩)
  refine wpB_sd (stops := [2]) kX2_heirOf 30 _ _ _ _ ?_
  exact loop (jlN A a) 0 (by omega) (fun k hk => by omega)
set_option maxRecDepth 100000 in
theorem t_bequest {σ : Sg} {A : St} {hg : Nat} {x y : Int32} {Q : Option Value → Sg → Prop} (hC : CS σ A hg) (hW : WL A) (hu : ¬ (ix x (A 12 5) ∧ (y = -1 ∨ ix y (A 12 0))) → Q (some (.int UNK)) σ) (h1 : (ix x (A 12 5) ∧ (y = -1 ∨ ix y (A 12 0))) → A 12 5 < 2 → Q (some (.int (-1))) σ) (hd : ∀ a, a < A 12 5 → 2 ≤ A 12 5 → x = nI a → y = -1 → ∀ σ', FrC 75 80 σ σ' → Q (some (.int (nI (bqV A a (bqB A a))))) σ') (hi : ∀ a, a < A 12 5 → 2 ≤ A 12 5 → x = nI a → y ≠ -1 → ix y (A 12 0) → ∀ r, IsH A a y r → ∀ σ', FrC 75 80 σ σ' → Q (some (.int r)) σ') : MetA mX7_bequest [.ref 0, .int x, .int y] σ Q := by
  refine MetA_of qX7_bequest (Nat.le_of_ble_eq_true rfl) ?_
  have h4 := hW.2.1
  have h24 := hW.1.1
  have h0 : σ 1 0 = nI (A 12 5) := hC.1.2.1
  have at33 : (ix x (A 12 5) ∧ (y = -1 ∨ ix y (A 12 0))) → V mX7_bequest 33 [(0, .ref 0), (1, .int x), (2, .int y)] [] σ Q := by
    intro hk
    obtain ⟨⟨a, ha, rfl⟩, hy⟩ := hk
    refine wpB_sd (stops := []) kX7_bequest 40 _ _ _ _ ?_
    refine ⟨fun g => ?_, fun g => ?_⟩
    · rw [h0] at g
      have g : 2 ≤ A 12 5 := (nI_leI (a := 2) (by omega) (by omega)).mp g
      refine s_deal hC hW ha g (fun σ1 e1 e7 e76 e77 e79 hF => ?_)
      refine ⟨fun gy => ?_, fun gy => ?_⟩
      · refine s_heirOf h4 g e1 e76 e77 e79 (fun r hr => ?_)
        exact hi a ha g rfl gy (hy.resolve_left gy) r hr σ1 hF
      · have fin := hd a ha g rfl gy σ1 hF
        rw [← e7] at fin
        exact fin
    · rw [h0] at g
      have g : ¬ 2 ≤ A 12 5 := fun q => g (nI_le (a := 2) q (by omega))
      exact h1 ⟨⟨a, ha, rfl⟩, hy⟩ (by omega)
  refine wpB_sd (stops := [33]) kX7_bequest 40 _ _ _ _ ?_
  refine s_hasHouse (Or.inl rfl) ?_
  rw [h0]
  refine ⟨fun g => hu (fun q => bI_0.mp g ((ix_iff (by omega)).mpr q.1)), fun g => ?_⟩
  have gx := (ix_iff (by omega)).mp (bI_n0 g)
  refine ⟨fun gy => at33 ⟨gx, Or.inl gy⟩, fun gy => ?_⟩
  refine s_has (Or.inl rfl) ?_
  rw [hC.1.1.1]
  refine ⟨fun g => at33 ⟨gx, Or.inr ((ix_iff (by omega)).mp (bI_n0 g))⟩, fun g => hu (fun q => ?_)⟩
  exact bI_0.mp g ((ix_iff (by omega)).mpr (q.2.resolve_left gy))
