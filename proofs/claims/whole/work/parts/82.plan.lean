/-! plan: the class -/
def FrQ (σ σ' : Sg) : Prop := (∀ c, c ≠ 57 → c ≠ 73 → σ' c = σ c) ∧ ∀ k, k ≠ 4 → k ≠ 5 → σ' 57 k = σ 57 k
def flP (A : St) (a t S n : Nat) : Nat := fb_sm (fun i => if S.testBit i = true then filA A (jlJ A a i) t else 0) n
theorem flP_lo {A : St} {a t S n : Nat} (h : S < 2 ^ n) : flP A a t S (n + 1) = flP A a t S n := by
  unfold flP
  rw [fb_sm_succ, if_neg (by rw [Nat.testBit_lt_two_pow h]; decide), Nat.add_zero]
theorem flP_hi {A : St} {a t S n : Nat} (h : S < 2 ^ n) : flP A a t (2 ^ n + S) (n + 1) = flP A a t S n + filA A (jlJ A a n) t := by
  unfold flP
  rw [fb_sm_succ, if_pos (by rw [Nat.testBit_two_pow_add_eq, Nat.testBit_lt_two_pow h]; rfl)]
  congr 1
  exact fb_sm_cong (fun k hk => by rw [Nat.testBit_two_pow_add_gt hk])
theorem flP_le {A : St} {a t S n : Nat} (hW : WJ A) (hn : n ≤ jlN A a) : flP A a t S n ≤ 198 * n := by
  have := fb_sm_bound (f := fun i => if S.testBit i = true then filA A (jlJ A a i) t else 0) (c := 198) (n := n) (fun i hi => by
    have := filA_le hW (y := t) (jl_in (A := A) (a := a) (k := i) (by omega)).1
    show (if S.testBit i = true then filA A (jlJ A a i) t else 0) ≤ 198
    split <;> omega)
  unfold flP
  omega
theorem or_hi {S n : Nat} (h : S < 2 ^ n) : S ||| 2 ^ n = 2 ^ n + S := by
  have := Nat.two_pow_add_eq_or_of_lt h 1
  rw [Nat.mul_one] at this
  rw [this, Nat.or_comm]
set_option maxRecDepth 100000 in
set_option maxHeartbeats 2000000 in
theorem s_lookAtYear {σ : Sg} {A : St} {hg a k : Nat} {Q : Option Value → Sg → Prop} (hC : CS σ A hg) (hW : WL A) (ha : a < A 12 5) (hk : k ≤ 12) (e1 : σ 57 1 = nI (jlN A a)) (e58 : ∀ i, i < jlN A a → σ 58 i = nI (jlJ A a i)) (h : ∀ σ', RY σ' A a k → FrQ σ σ' → Q none σ') : MetA mX5_lookAtYear [.ref 57, .ref 1, .int (nI a), .int (nI k)] σ Q := by
  refine MetA_of qX5_lookAtYear (Nat.le_of_ble_eq_true rfl) ?_
  have hc8 := jlN_le (A := A) (a := a)
  have h4 := hW.2.1
  have h24 := hW.1.1
  have hy := hW.1.2.1
  have hl := hW.2.2.2.1
  have hpw : ∀ i, i ≤ jlN A a → 2 ^ i ≤ 256 := fun i hi => Nat.pow_le_pow_right (n := 2) (j := 8) (by omega) (by omega)
  have loop : ∀ m i σ', i + m = jlN A a → σ' 57 5 = misI A a k → σ' 57 4 = nI (bset (fun i => if mayB (A 12 3) (A 2 (jlJ A a i)) (A 12 1 + k) = true then 1 else 0) i) → (∀ S, S < 2 ^ i → σ' 73 S = nI (flP A a (A 12 1 + k) S i)) → FrQ σ σ' → V mX5_lookAtYear 55 [(0, .ref 57), (1, .ref 1), (2, .int (nI a)), (3, .int (nI k)), (4, .int (nI (A 12 1 + k))), (5, .int (nI i))] [] σ' Q := by
    intro m
    induction m with
    | zero =>
      intro i σ' hi e5 e4 e73 hF
      have hi : i = jlN A a := by omega
      subst hi
      have e1' : σ' 57 1 = nI (jlN A a) := by rw [hF.2 1 (by omega) (by omega)]; exact e1
      refine wpB_sd (stops := [55]) kX5_lookAtYear 30 _ _ _ _ ?_
      refine br_t (by rw [e1']; exact nI_le (by omega) (by omega)) ?_
      exact h σ' ⟨e1', e5, e4, e73⟩ hF
    | succ m ih =>
      intro i σ' hi e5 e4 e73 hF
      have e1' : σ' 57 1 = nI (jlN A a) := by rw [hF.2 1 (by omega) (by omega)]; exact e1
      have hji := (jl_in (A := A) (a := a) (k := i) (by omega)).1
      have hp := hpw i (by omega)
      have hp1 := hpw (i + 1) (by omega)
      rw [Nat.pow_succ] at hp1
      have hfl := filA_le hW.1 (y := A 12 1 + k) hji
      -- the second half
      have inner : ∀ mm s σ2, s + mm = 2 ^ i → σ2 57 5 = misI A a k → σ2 57 4 = nI (bset (fun i => if mayB (A 12 3) (A 2 (jlJ A a i)) (A 12 1 + k) = true then 1 else 0) i) → (∀ S, S < 2 ^ i → σ2 73 S = nI (flP A a (A 12 1 + k) S i)) → (∀ S, S < s → σ2 73 (2 ^ i + S) = nI (flP A a (A 12 1 + k) (2 ^ i + S) (i + 1))) → FrQ σ σ2 → V mX5_lookAtYear 91 [(0, .ref 57), (1, .ref 1), (2, .int (nI a)), (3, .int (nI k)), (4, .int (nI (A 12 1 + k))), (5, .int (nI i)), (6, .int (nI (2 ^ i))), (7, .int (nI (filA A (jlJ A a i) (A 12 1 + k)))), (8, .int (nI s))] [] σ2 Q := by
        intro mm
        induction mm with
        | zero =>
          intro s σ2 hs f5 f4 flo fhi fF
          have hs : s = 2 ^ i := by omega
          subst hs
          have f58 : σ2 58 i = nI (jlJ A a i) := by rw [fF.1 58 (by omega) (by omega)]; exact e58 i (by omega)
          have fR : RCel 7 σ2 A := hC.1.1.fr (fun c a b => fF.1 c (by omega) (by omega))
          have fl : σ2 1 9 = nI (A 12 3) := by rw [fF.1 1 (by omega) (by omega)]; exact hC.1.2.2.2.2.1
          have hall : ∀ S, S < 2 ^ (i + 1) → σ2 73 S = nI (flP A a (A 12 1 + k) S (i + 1)) := by
            intro S hS
            rw [Nat.pow_succ] at hS
            rcases Nat.lt_or_ge S (2 ^ i) with q | q
            · rw [flP_lo q]; exact flo S q
            · have := fhi (S - 2 ^ i) (by omega)
              rw [show 2 ^ i + (S - 2 ^ i) = S by omega] at this
              exact this
          have at158 : ∀ σ3, σ3 57 5 = misI A a k → σ3 57 4 = nI (bset (fun i => if mayB (A 12 3) (A 2 (jlJ A a i)) (A 12 1 + k) = true then 1 else 0) (i + 1)) → σ3 73 = σ2 73 → FrQ σ σ3 → ∀ u8 : Int32, V mX5_lookAtYear 158 [(0, .ref 57), (1, .ref 1), (2, .int (nI a)), (3, .int (nI k)), (4, .int (nI (A 12 1 + k))), (5, .int (nI i)), (6, .int (nI (2 ^ i))), (7, .int (nI (filA A (jlJ A a i) (A 12 1 + k)))), (8, .int u8)] [] σ3 Q := by
            intro σ3 g5 g4 g73 gF u8
            refine wpB_sd (stops := [55]) kX5_lookAtYear 30 _ _ _ _ ?_
            have nxt := ih (i + 1) σ3 (by omega) g5 g4 (fun S hS => by rw [g73]; exact hall S hS) gF
            rw [← nI_1 i] at nxt
            exact V.take 6 nxt
          refine wpB_sd (stops := [91, 158]) kX5_lookAtYear 30 _ _ _ _ ?_
          refine br_t (nI_le (by omega) (by omega)) ?_
          refine ald (n := 8) (j := i) rfl rfl (by omega) f58 ?_
          refine mAr (by rw [fl]) (s_mayBe (A := A) (l := A 12 3) (Or.inl rfl) fR hW.1 hji (by omega) hl ?_)
          refine ⟨fun g => ?_, fun g => ?_⟩
          · refine at158 σ2 f5 ?_ rfl fF _
            rw [bset_s0 (by rw [if_neg (bI_0.mp g)]; omega)]
            exact f4
          · refine at158 _ (by rw [sgu_k (by omega)]; exact f5) ?_ (by rw [sgu_c (by omega)]) ⟨fun c a b => by rw [sgu_c a]; exact fF.1 c a b, fun k a b => by rw [sgu_k a]; exact fF.2 k a b⟩ _
            rw [sgu_s, f4, ← one_shl (by omega), bset_s1 (by rw [if_pos (bI_n0 g)]) (by omega)]
        | succ mm ih2 =>
          intro s σ2 hs f5 f4 flo fhi fF
          have hfp := flP_le (t := A 12 1 + k) (S := s) hW.1 (show i ≤ jlN A a by omega)
          refine wpB_sd (stops := [91]) kX5_lookAtYear 30 _ _ _ _ ?_
          refine br_f (nI_ge (by omega) (by omega)) ?_
          refine ald (n := 256) (j := s) rfl rfl (by omega) (flo s (by omega)) ?_
          refine ast (n := 256) (j := 2 ^ i + s) rfl (by rw [fa_or, or_hi (by omega)]) (by omega) ?_
          have nxt := ih2 (s + 1) (sgu σ2 73 (2 ^ i + s) (nI (flP A a (A 12 1 + k) s i) + nI (filA A (jlJ A a i) (A 12 1 + k)))) (by omega) (by rw [sgu_c (by omega)]; exact f5) (by rw [sgu_c (by omega)]; exact f4) (fun S hS => by rw [sgu_k (by omega)]; exact flo S hS) (fun S hS => ?_) ⟨fun c a b => by rw [sgu_c b]; exact fF.1 c a b, fun k a b => by rw [sgu_c (by omega)]; exact fF.2 k a b⟩
          · rw [← nI_1 s] at nxt
            exact nxt
          · by_cases z : S = s
            · subst z; rw [sgu_s, flP_hi (by omega)]; exact nI_add _ _
            · rw [sgu_k (by omega)]; exact fhi S (by omega)
      have f58 : σ' 58 i = nI (jlJ A a i) := by rw [hF.1 58 (by omega) (by omega)]; exact e58 i (by omega)
      have fR : RCel 7 σ' A := hC.1.1.fr (fun c a b => hF.1 c (by omega) (by omega))
      refine wpB_sd (stops := [91]) kX5_lookAtYear 30 _ _ _ _ ?_
      refine br_f (by rw [e1']; exact nI_ge (by omega) (by omega)) ?_
      refine ald (n := 8) (j := i) rfl rfl (by omega) f58 ?_
      refine s_filledIn (Or.inl rfl) fR hW.1 hji (by omega) (by omega) ?_
      have nxt := inner (2 ^ i) 0 σ' (by omega) e5 e4 e73 (fun S hS => by omega) hF
      rw [← one_shl (by omega)] at nxt
      exact nxt
  have at36 : ∀ u : Int32, u = nI (if k = 0 then A 8 a else 0) → V mX5_lookAtYear 36 [(0, .ref 57), (1, .ref 1), (2, .int (nI a)), (3, .int (nI k)), (4, .int (nI (A 12 1 + k)))] [.int u, .int (nI (A 9 a) - nI (harvA A (A 12 1 + k))), .ref 57] σ Q := by
    intro u hu
    subst hu
    refine wpB_sd (stops := [55]) kX5_lookAtYear 30 _ _ _ _ ?_
    refine ast (n := 256) (j := 0) rfl rfl (by omega) ?_
    refine loop (jlN A a) 0 _ (by omega) ?_ ?_ (fun S hS => ?_) ⟨fun c a b => ?_, fun k a b => ?_⟩
    · rw [sgu_c (by omega), sgu_k (by omega), sgu_s]; rfl
    · rw [sgu_c (by omega), sgu_s]; rfl
    · have : S = 0 := by
        rw [Nat.pow_zero] at hS; omega
      subst this
      rw [sgu_s]; rfl
    · rw [sgu_c b, sgu_c a, sgu_c a]
    · rw [sgu_c (by omega), sgu_k a, sgu_k b]
  have hw : σ 2 a = nI (A 9 a) := (hC.1.2.2.2.2.2.2.1 a ha).1
  have hst : σ 4 a = nI (A 8 a) := (hC.1.2.2.2.2.2.2.1 a ha).2.2
  have hyr : σ 1 7 + nI k = nI (A 12 1 + k) := by rw [hC.1.2.2.2.1, nI_add]
  have at8 : V mX5_lookAtYear 8 [(0, .ref 57), (1, .ref 1), (2, .int (nI a)), (3, .int (nI k)), (4, .int (nI (A 12 1 + k)))] [] σ Q := by
    refine wpB_sd (stops := [36]) kX5_lookAtYear 30 _ _ _ _ ?_
    refine ald (n := 4) (j := a) rfl rfl (by omega) hw ?_
    refine s_harvestOf (Or.inl rfl) hC.1 hW (by omega) ?_
    refine ⟨fun g => ?_, fun g => ?_⟩
    · refine at36 0 ?_
      rw [if_neg (fun q => g (by rw [q]; rfl))]; rfl
    · have g := (nI_eq (b := 0) (by omega) (by omega)).mp g
      refine ald (n := 4) (j := a) rfl rfl (by omega) hst ?_
      exact at36 _ (by rw [if_pos g])
  refine wpB_sd (stops := [8]) kX5_lookAtYear 30 _ _ _ _ ?_
  rw [← hyr] at at8
  exact at8
