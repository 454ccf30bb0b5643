/-! the class's reader: the clauses and the text -/
def KpL (A B : St) : Prop := B 12 3 = A 12 3 ∧ B 12 4 = A 12 4
theorem KpL.rf {A : St} : KpL A A := ⟨rfl, rfl⟩
theorem KpL.tr {A B C : St} (h : KpL A B) (h2 : KpL B C) : KpL A C := ⟨h2.1.trans h.1, h2.2.trans h.2⟩
theorem KpL_hv {A : St} {v : Nat} : KpL A (hvA A v) := by
  refine ⟨?_, ?_⟩ <;> (unfold hvA; rw [stu_k (by omega), stu_f (by omega)])
theorem KpL_ho {A : St} {w s : Nat} : KpL A (hoA A w s) := by
  refine ⟨?_, ?_⟩ <;> (unfold hoA; rw [stu_k (by omega), stu_f (by omega), stu_f (by omega), stu_f (by omega)])
theorem KpL_ad {A : St} {k h d q kp : Nat} : KpL A (addA A k h d q kp 0) := ⟨addA_f (by omega) (by omega), addA_f (by omega) (by omega)⟩
theorem hvS_in {T : Tx} {len : Nat} : ∀ (n p : Nat) (A : St) {e : Nat} {B : St}, p ≤ len → WN A → A 12 6 + n ≤ 8 → hvS T len n p A = .inr (e, B) → WN B ∧ p ≤ e ∧ e ≤ len ∧ A 12 6 ≤ B 12 6 ∧ KpL A B
  | 0, p, A, e, B, hp, hW, hn, h => by
    rw [hvS] at h
    split at h
    · exact absurd h (by simp)
    · simp only [Sum.inr.injEq, Prod.mk.injEq] at h
      obtain ⟨rfl, rfl⟩ := h
      exact ⟨hW, bl_ge, bl_le hp, Nat.le_refl _, KpL.rf⟩
  | n + 1, p, A, e, B, hp, hW, hn, h => by
    rw [hvS] at h
    split at h
    · next hc =>
      split at h
      · exact absurd h (by simp)
      · next v e1 hnm =>
        have hb := bl_ge (T := T) (len := len) (p := p)
        obtain ⟨a1, a2, a3, a4⟩ := numS_in (show bl T len p + 1 ≤ len by omega) hnm
        have e6 : hvA A v 12 6 = A 12 6 + 1 := stu_s
        obtain ⟨b1, b2, b3, b4, b5⟩ := hvS_in n e1 (hvA A v) a4 (hvA_WN hW a2 (by omega)) (by omega) h
        exact ⟨b1, by omega, b3, by omega, KpL_hv.tr b5⟩
    · simp only [Sum.inr.injEq, Prod.mk.injEq] at h
      obtain ⟨rfl, rfl⟩ := h
      exact ⟨hW, bl_ge, bl_le hp, Nat.le_refl _, KpL.rf⟩
theorem bdHv_in {T : Tx} {len p e : Nat} {A B : St} (hp : p ≤ len) (hW : WN A) (h6 : A 12 6 = 0) (h : bdHv T len p A = .inr (e, B)) : WN B ∧ p ≤ e ∧ e ≤ len ∧ 0 < B 12 6 ∧ KpL A B := by
  unfold bdHv at h
  split at h
  · exact absurd h (by simp)
  · next v e1 hnm =>
    obtain ⟨a1, a2, a3, a4⟩ := numS_in hp hnm
    have e6 : hvA A v 12 6 = A 12 6 + 1 := stu_s
    obtain ⟨b1, b2, b3, b4, b5⟩ := hvS_in 7 e1 (hvA A v) a4 (hvA_WN hW a2 (by omega)) (by omega) h
    exact ⟨b1, by omega, b3, by omega, KpL_hv.tr b5⟩
theorem bdHo_in {T : Tx} {len p e : Nat} {A B : St} (hp : p ≤ len) (hW : WN A) (h5 : A 12 5 < 4) (h : bdHo T len p A = .inr (e, B)) : WN B ∧ p ≤ e ∧ e ≤ len ∧ B 12 6 = A 12 6 ∧ KpL A B := by
  unfold bdHo at h
  split at h
  · exact absurd h (by simp)
  · next w e1 hnm =>
    obtain ⟨a1, a2, a3, a4⟩ := numS_in hp hnm
    split at h
    · exact absurd h (by simp)
    · next s e2 hnm2 =>
      obtain ⟨b1, b2, b3, b4⟩ := numS_in a4 hnm2
      simp only [Sum.inr.injEq, Prod.mk.injEq] at h
      obtain ⟨rfl, rfl⟩ := h
      refine ⟨hoA_WN hW a2 b2 h5, by omega, b4, ?_, KpL_ho⟩
      unfold hoA
      rw [stu_k (by omega), stu_f (by omega), stu_f (by omega), stu_f (by omega)]
theorem knd_le {T : Tx} {s e k : Nat} (h : knd T s e = some k) : k ≤ 2 := by
  unfold knd at h
  split at h
  · simp only [Option.some.injEq] at h; omega
  · split at h
    · simp only [Option.some.injEq] at h; omega
    · split at h
      · simp only [Option.some.injEq] at h; omega
      · exact absurd h (by simp)
theorem bdJr_in {T : Tx} {len p e : Nat} {A B : St} (hp : p ≤ len) (hW : WN A) (h0 : A 12 0 < 12) (h : bdJr T len p A = .inr (e, B)) : WN B ∧ p ≤ e ∧ e ≤ len ∧ B 12 6 = A 12 6 ∧ KpL A B := by
  unfold bdJr at h
  have hb := bl_le (T := T) hp
  have hb2 := bl_ge (T := T) (len := len) (p := p)
  have hl := lt_le (T := T) hb
  have hl2 := lt_ge (T := T) (len := len) (p := bl T len p)
  split at h
  · exact absurd h (by simp)
  · next k hk =>
    split at h
    · exact absurd h (by simp)
    · next x e1 n1 =>
      obtain ⟨a1, a2, a3, a4⟩ := numS_in hl n1
      split at h
      · exact absurd h (by simp)
      · next d e2 n2 =>
        obtain ⟨b1, b2, b3, b4⟩ := numS_in a4 n2
        split at h
        · exact absurd h (by simp)
        · next q e3 n3 =>
          obtain ⟨c1, c2, c3, c4⟩ := numS_in b4 n3
          split at h
          · exact absurd h (by simp)
          · next kp e4 n4 =>
            obtain ⟨d1, d2, d3, d4⟩ := numS_in c4 n4
            simp only [Sum.inr.injEq, Prod.mk.injEq] at h
            obtain ⟨rfl, rfl⟩ := h
            exact ⟨adA_WN hW (knd_le hk) a2 b2 c2 d2 h0, by omega, d4, addA_f (by omega) (by omega), KpL_ad⟩
theorem bdS_in {T : Tx} {len p e : Nat} {A B : St} (hp : p ≤ len) (hW : WN A) (h : bdS T len p A = .inr (e, B)) : WN B ∧ p ≤ e ∧ e ≤ len ∧ KpL A B := by
  unfold bdS at h
  have hl := lt_le (T := T) hp
  have hl2 := lt_ge (T := T) (len := len) (p := p)
  split at h
  · split at h
    · exact absurd h (by simp)
    · obtain ⟨a, b, c, _, d⟩ := bdHv_in hl hW (by omega) h
      exact ⟨a, by omega, c, d⟩
  · split at h
    · split at h
      · exact absurd h (by simp)
      · obtain ⟨a, b, c, _, d⟩ := bdHo_in hl hW (by omega) h
        exact ⟨a, by omega, c, d⟩
    · split at h
      · split at h
        · exact absurd h (by simp)
        · obtain ⟨a, b, c, _, d⟩ := bdJr_in hl hW (by omega) h
          exact ⟨a, by omega, c, d⟩
      · exact absurd h (by simp)
theorem endS_in {T : Tx} {len p q : Nat} (h : endS T len p = .inr q) : p < q ∧ q ≤ len := by
  unfold endS at h
  have hb := bl_ge (T := T) (len := len) (p := p)
  split at h
  · simp only [Sum.inr.injEq] at h; omega
  · exact absurd h (by simp)
theorem fnS_in {T : Tx} {len p q : Nat} {A B : St} (hp : p ≤ len) (hW : WN A) (h : fnS T len (bdS T len p A) = .inr (q, B)) : WN B ∧ p < q ∧ q ≤ len ∧ KpL A B := by
  unfold fnS at h
  split at h
  · exact absurd h (by simp)
  · next e B' hb =>
    obtain ⟨a, b, c, d⟩ := bdS_in hp hW hb
    split at h
    · exact absurd h (by simp)
    · next q' he =>
      have := endS_in he
      simp only [Sum.inr.injEq, Prod.mk.injEq] at h
      obtain ⟨rfl, rfl⟩ := h
      exact ⟨a, by omega, by omega, d⟩
/-- how a clause comes out -/
def CR (T : Tx) (len : Nat) (r : Rz (Nat × St)) (σ : Sg) (Q : Option Value → Sg → Prop) : Prop := (∀ σ' p' q, r = .inl q → RS σ' T len p' (some q) → FrK σ σ' → Q none σ') ∧ ∀ σ' q B, r = .inr (q, B) → RS σ' T len q none → RT σ' B → σ' 55 5 = bI (0 < B 12 6) → FrK σ σ' → Q none σ'
set_option maxRecDepth 100000 in
set_option maxHeartbeats 1000000 in
theorem s_readHouse {σ : Sg} {T : Tx} {len s e : Nat} {A : St} {Q : Option Value → Sg → Prop} (hS : RS σ T len e none) (hT : RT σ A) (hW : WN A) (h5 : σ 55 5 = bI (0 < A 12 6)) (h : CR T len (if 4 ≤ A 12 5 then .inl (3, s) else fnS T len (bdHo T len e A)) σ Q) : MetA mX6_readHouse [.ref 55, .int (nI s), .ref 14] σ Q := by
  refine MetA_of qX6_readHouse (Nat.le_of_ble_eq_true rfl) ?_
  have hp := hS.2.2.2.1
  have h4 := hW.1.2.1
  refine wpB_sd (stops := []) kX6_readHouse 60 _ _ _ _ ?_
  refine ⟨fun g => ?_, fun g => ?_⟩
  · rw [hT.2.1] at g
    have g := (nI_ltI (b := 4) (by omega) (by omega)).mp g
    rw [if_neg (by omega)] at h
    refine mAr (by rfl) (s_readNumber (lo := 0) (hi := 100) (m := 99) hS (by omega) (by omega) (by decide) (fun σ1 p1 f1 v1 hS1 n1 hF1 => ?_))
    refine mAr (by rfl) (s_readNumber (lo := 0) (hi := 21) (m := 20) hS1 (by omega) (by omega) (by decide) (fun σ2 p2 f2 v2 hS2 n2 hF2 => ?_))
    refine s_readEnd hS2 (fun σ3 p3 f3 hS3 n3 hF3 => ?_)
    have hF := (hF1.tr hF2).tr hF3
    have hT3 : RT σ3 A := hT.fr (fun c _ _ => hF.1 c (by omega))
    refine s_addHouse hT3 g (fun σ4 hF4 hnew => ?_)
    have hS4 : RS σ4 T len p3 f3 := hS3.fr (hF4 55 (by omega)) (hF4 56 (by omega))
    have hK : FrK σ σ4 := hF.k.tr (hF4.k (by omega) (by omega))
    cases h1 : numS T len e 0 100 with
    | inl q =>
      have e3 := n3.bad (n2.bad (n1.inl rfl h1))
      subst e3
      exact h.1 σ4 p3 q (by unfold bdHo; rw [h1]; rfl) hS4 hK
    | inr x1 =>
      obtain ⟨w, e1⟩ := x1
      obtain ⟨f1n, v1e, p1e⟩ := n1.inr rfl h1
      dsimp only at v1e p1e
      subst p1e
      cases h2 : numS T len p1 0 21 with
      | inl q =>
        have e3 := n3.bad (n2.inl f1n h2)
        subst e3
        exact h.1 σ4 p3 q (by unfold bdHo; simp only [h1, h2]; rfl) hS4 hK
      | inr x2 =>
        obtain ⟨sl, e2⟩ := x2
        obtain ⟨f2n, v2e, p2e⟩ := n2.inr f1n h2
        dsimp only at v2e p2e
        subst p2e
        cases h3 : endS T len p2 with
        | inl q =>
          have e3 := n3.inl f2n h3
          subst e3
          exact h.1 σ4 p3 q (by unfold bdHo fnS; simp only [h1, h2, h3]) hS4 hK
        | inr q =>
          obtain ⟨f3n, p3e⟩ := n3.inr f2n h3
          subst f3n p3e
          refine h.2 σ4 p3 (hoA A w sl) (by unfold bdHo fnS; simp only [h1, h2, h3]) hS4 (hnew w sl v1e v2e) ?_ hK
          rw [hF4 55 (by omega), hF.2, h5]
          refine bI_c ?_
          unfold hoA
          rw [stu_k (by omega), stu_f (by omega), stu_f (by omega), stu_f (by omega)]
  · rw [hT.2.1] at g
    have g : ¬ A 12 5 < 4 := fun q => g (nI_lt (b := 4) q (by omega))
    rw [if_pos (by omega)] at h
    refine mAr (by rfl) (s_fail (k := 3) (w := s) hS (by omega) (by omega) (fun σ1 hS1 hF1 => ?_))
    exact h.1 σ1 e (3, s) rfl hS1 hF1.k
set_option maxRecDepth 100000 in
set_option maxHeartbeats 2000000 in
theorem s_readJar {σ : Sg} {T : Tx} {len s e : Nat} {A : St} {Q : Option Value → Sg → Prop} (hS : RS σ T len e none) (hT : RT σ A) (hW : WN A) (h5 : σ 55 5 = bI (0 < A 12 6)) (h : CR T len (if 12 ≤ A 12 0 then .inl (3, s) else fnS T len (bdJr T len e A)) σ Q) : MetA mX6_readJar [.ref 55, .int (nI s), .ref 14] σ Q := by
  refine MetA_of qX6_readJar (Nat.le_of_ble_eq_true rfl) ?_
  have hp := hS.2.2.2.1
  have h4 := hW.1.2.1
  have h12 := hW.2.1
  refine wpB_sd (stops := [68]) kX6_readJar 60 _ _ _ _ ?_
  refine ⟨fun g => ?_, fun g => ?_⟩
  · rw [hT.1.1] at g
    have g := (nI_ltI (b := 12) (by omega) (by omega)).mp g
    rw [if_neg (by omega)] at h
    refine s_readKind hS (fun σ0 p0 f0 v0 hS0 n0 hF0 => ?_)
    have hT0 : RT σ0 A := hT.fr (fun c _ _ => hF0.1 c (by omega))
    refine mAr (by rfl) (s_readNumber (lo := 0) (hi := A 12 5) (m := σ0 14 0 - 1) hS0 (by omega) (by omega) (by rw [hT0.2.1]) (fun σ1 p1 f1 v1 hS1 n1 hF1 => ?_))
    refine mAr (by rfl) (s_readNumber (lo := 0) (hi := 100) (m := 99) hS1 (by omega) (by omega) (by decide) (fun σ2 p2 f2 v2 hS2 n2 hF2 => ?_))
    refine mAr (by rfl) (s_readNumber (lo := 1) (hi := 100) (m := 99) hS2 (by omega) (by omega) (by decide) (fun σ3 p3 f3 v3 hS3 n3 hF3 => ?_))
    refine mAr (by rfl) (s_readNumber (lo := 0) (hi := 100) (m := 99) hS3 (by omega) (by omega) (by decide) (fun σ4 p4 f4 v4 hS4 n4 hF4 => ?_))
    refine s_readEnd hS4 (fun σ5 p5 f5 hS5 n5 hF5 => ?_)
    have hF := ((((hF0.tr hF1).tr hF2).tr hF3).tr hF4).tr hF5
    have hT5 : RT σ5 A := hT.fr (fun c _ _ => hF.1 c (by omega))
    -- the weak and the strong end
    have weak : ∀ q, f5 = some q → fnS T len (bdJr T len e A) = .inl q → V mX6_readJar 68 [(0, .ref 55), (1, .int (nI s)), (2, .ref 14), (3, .int v0), (4, .int v1), (5, .int v2), (6, .int v3), (7, .int v4)] [] σ5 Q := by
      intro q hq hr
      subst hq
      refine wpB_sd (stops := []) kX6_readJar 60 _ _ _ _ ?_
      refine s_addW hT5.1 hW.1.1 (by omega) (fun σ6 hF6 => ?_)
      exact h.1 σ6 p5 q hr (hS5.fr (hF6 55 (by omega)) (hF6 56 (by omega))) (hF.k.tr (hF6.k (by omega) (by omega)))
    unfold bdJr at weak h
    cases h0 : knd T (bl T len e) (lt T len (bl T len e)) with
    | none =>
      have f0e := n0.inl rfl (show kdS T len e = .inl (1, bl T len e) by unfold kdS; rw [h0])
      exact weak _ (n5.bad (n4.bad (n3.bad (n2.bad (n1.bad f0e))))) (by rw [h0]; rfl)
    | some k =>
      obtain ⟨f0n, v0e, p0e⟩ := n0.inr rfl (show kdS T len e = .inr (k, lt T len (bl T len e)) by unfold kdS; rw [h0])
      dsimp only at v0e p0e
      rw [h0, ← p0e] at weak h
      dsimp only at weak h
      cases h1 : numS T len p0 0 (A 12 5) with
      | inl q => exact weak q (n5.bad (n4.bad (n3.bad (n2.bad (n1.inl f0n h1))))) (by rw [h1]; rfl)
      | inr x1 =>
        obtain ⟨hh, e1⟩ := x1
        obtain ⟨f1n, v1e, p1e⟩ := n1.inr f0n h1
        dsimp only at v1e p1e
        subst p1e
        rw [h1] at weak h
        dsimp only at weak h
        cases h2 : numS T len p1 0 100 with
        | inl q => exact weak q (n5.bad (n4.bad (n3.bad (n2.inl f1n h2)))) (by rw [h2]; rfl)
        | inr x2 =>
          obtain ⟨d, e2⟩ := x2
          obtain ⟨f2n, v2e, p2e⟩ := n2.inr f1n h2
          dsimp only at v2e p2e
          subst p2e
          rw [h2] at weak h
          dsimp only at weak h
          cases h3 : numS T len p2 1 100 with
          | inl q => exact weak q (n5.bad (n4.bad (n3.inl f2n h3))) (by rw [h3]; rfl)
          | inr x3 =>
            obtain ⟨qq, e3⟩ := x3
            obtain ⟨f3n, v3e, p3e⟩ := n3.inr f2n h3
            dsimp only at v3e p3e
            subst p3e
            rw [h3] at weak h
            dsimp only at weak h
            cases h4' : numS T len p3 0 100 with
            | inl q => exact weak q (n5.bad (n4.inl f3n h4')) (by rw [h4']; rfl)
            | inr x4 =>
              obtain ⟨kp, e4⟩ := x4
              obtain ⟨f4n, v4e, p4e⟩ := n4.inr f3n h4'
              dsimp only at v4e p4e
              subst p4e
              rw [h4'] at weak h
              dsimp only at weak h
              unfold fnS at weak h
              dsimp only at weak h
              cases h5' : endS T len p4 with
              | inl q => exact weak q (n5.inl f4n h5') (by rw [h5'])
              | inr q =>
                obtain ⟨f5n, p5e⟩ := n5.inr f4n h5'
                subst f5n p5e
                rw [h5'] at h
                dsimp only at h
                subst v0e v1e v2e v3e v4e
                refine wpB_sd (stops := []) kX6_readJar 60 _ _ _ _ ?_
                refine mAr (by rfl) (s_add (b := 20) (y := 0) (Or.inr rfl) hT5.1 hW.1.1 (by omega) (fun σ6 hR6 hF6 => ?_))
                refine h.2 σ6 p5 _ rfl (hS5.fr (hF6 55 (by omega)) (hF6 56 (by omega))) (RT_add hT5 hR6 hF6) ?_ (hF.k.tr (hF6.k (by omega) (by omega)))
                rw [hF6 55 (by omega), hF.2, h5]
                refine bI_c ?_
                rw [addA_f (by omega) (by omega)]
  · rw [hT.1.1] at g
    have g : ¬ A 12 0 < 12 := fun q => g (nI_lt (b := 12) q (by omega))
    rw [if_pos (by omega)] at h
    refine mAr (by rfl) (s_fail (k := 3) (w := s) hS (by omega) (by omega) (fun σ1 hS1 hF1 => ?_))
    exact h.1 σ1 e (3, s) rfl hS1 hF1.k
