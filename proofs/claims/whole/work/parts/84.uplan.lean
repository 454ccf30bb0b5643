/-! plan: the reference's leaves -/
def cpB (c x : Nat) : Nat := bset (fun i => if x.testBit i = true then 0 else 1) c
theorem cpB_bit {c x i : Nat} : (cpB c x).testBit i = true ↔ i < c ∧ x.testBit i = false := by
  unfold cpB
  rw [bset_bit, decide_eq_true_eq]
  constructor
  · rintro ⟨a, b⟩
    refine ⟨a, ?_⟩
    cases q : x.testBit i with
    | false => rfl
    | true => rw [if_pos q] at b; omega
  · rintro ⟨a, b⟩
    exact ⟨a, if_neg (by rw [b]; decide)⟩
theorem cpB_lt {c x : Nat} : cpB c x < 2 ^ c := bset_lt _ _
def rmB (c l S : Nat) : Nat := bset (fun i => if l.testBit i = true ∧ S.testBit i = false then 1 else 0) c
theorem rmB_bit {c l S i : Nat} : (rmB c l S).testBit i = true ↔ i < c ∧ l.testBit i = true ∧ S.testBit i = false := by
  unfold rmB
  rw [bset_bit, decide_eq_true_eq]
  constructor
  · rintro ⟨a, b⟩
    refine ⟨a, ?_⟩
    split at b
    · next q => exact q
    · omega
  · rintro ⟨a, b⟩
    exact ⟨a, if_pos b⟩
theorem rmB_lt {c l S : Nat} : rmB c l S < 2 ^ c := bset_lt _ _
theorem bit_in {x c i : Nat} (h : x < 2 ^ c) (hb : x.testBit i = true) : i < c := by
  rcases Nat.lt_or_ge i c with q | q
  · exact q
  · rw [Nat.testBit_lt_two_pow (Nat.lt_of_lt_of_le h (Nat.pow_le_pow_right (by omega) q))] at hb
    exact absurd hb (by decide)
theorem bit_ff {x i : Nat} : x.testBit i = false ↔ ¬ x.testBit i = true := by cases x.testBit i <;> simp
theorem nat_bits {x y : Nat} (h : ∀ i, x.testBit i = true ↔ y.testBit i = true) : x = y := by
  apply Nat.eq_of_testBit_eq
  intro i
  have := h i
  cases q : x.testBit i <;> cases z : y.testBit i <;> simp_all
theorem rm_I {c l S : Nat} (hl : l < 2 ^ c) (hc : c ≤ 8) : nI l &&& (nI S ^^^ (-1)) = nI (rmB c l S) := by
  have h2 : (2 : Nat) ^ c ≤ 2 ^ 8 := Nat.pow_le_pow_right (by omega) hc
  refine and_not (by omega) _ (fun i => ?_)
  have := rmB_bit (c := c) (l := l) (S := S) (i := i)
  cases q : (rmB c l S).testBit i with
  | true =>
    obtain ⟨a1, a2, a3⟩ := this.mp q
    rw [a2, a3]; rfl
  | false =>
    cases z : l.testBit i with
    | false => rfl
    | true =>
      cases w : S.testBit i with
      | true => rfl
      | false =>
        have := this.mpr ⟨bit_in hl z, z, w⟩
        rw [q] at this
        exact absurd this (by decide)
theorem cp_rm {c l S : Nat} (hl : l < 2 ^ c) (hS : Sub S l) : cpB c (rmB c l S) = cpB c l ||| S := by
  rw [sub_bits] at hS
  apply nat_bits
  intro i
  rw [cpB_bit, bit_ff, rmB_bit, Nat.testBit_or, Bool.or_eq_true, cpB_bit, bit_ff, bit_ff]
  constructor
  · rintro ⟨a, b⟩
    by_cases q : S.testBit i = true
    · exact Or.inr q
    · exact Or.inl ⟨a, fun z => b ⟨a, z, q⟩⟩
  · rintro (⟨a, b⟩ | b)
    · exact ⟨a, fun z => b z.2.1⟩
    · exact ⟨bit_in hl (hS i b), fun z => z.2.2 b⟩
theorem cp_cp {c x : Nat} (hx : x < 2 ^ c) : cpB c (cpB c x) = x := by
  apply nat_bits
  intro i
  rw [cpB_bit, bit_ff, cpB_bit, bit_ff]
  constructor
  · rintro ⟨a, b⟩
    exact Classical.byContradiction (fun q => b ⟨a, q⟩)
  · intro h
    exact ⟨bit_in hx h, fun z => z.2 h⟩
theorem fr_cp {A : St} {a k l S : Nat} (hl : l < 2 ^ jlN A a) : Sub S (frA A a k (cpB (jlN A a) l)) ↔ Sub S l ∧ Sub S (moA A a (A 12 1 + k)) := by
  rw [sub_bits, sub_bits, sub_bits]
  constructor
  · intro h
    refine ⟨fun i hi => ?_, fun i hi => ?_⟩
    · have := frA_bit.mp (h i hi)
      have h3 := this.2.2
      rw [bit_ff, cpB_bit, bit_ff] at h3
      exact Classical.byContradiction (fun q => h3 ⟨this.1, q⟩)
    · have := frA_bit.mp (h i hi)
      exact moA_bit.mpr ⟨this.1, this.2.1⟩
  · rintro ⟨h1, h2⟩ i hi
    have := moA_bit.mp (h2 i hi)
    refine frA_bit.mpr ⟨this.1, this.2, ?_⟩
    rw [bit_ff, cpB_bit, bit_ff]
    exact fun z => z.2 (h1 i hi)
theorem cp_full {c : Nat} : cpB c 0 = 2 ^ c - 1 := by
  apply nat_bits
  intro i
  rw [cpB_bit, Nat.testBit_two_pow_sub_one, decide_eq_true_eq]
  simp
set_option maxRecDepth 100000 in
set_option maxHeartbeats 1000000 in
theorem m_inSet {σ : Sg} {A : St} {hg a k S : Nat} {Q : Option Value → Sg → Prop} (hC : MR σ A hg) (hW : WL A) (hk : k ≤ 12) (hS : S < 2 ^ jlN A a) (e20 : σ 89 20 = nI (jlN A a)) (e98 : ∀ k, k < jlN A a → σ 98 k = nI (jlJ A a k)) (h1 : Sub S (moA A a (A 12 1 + k)) → Q (some (.int (nI (flA A a (A 12 1 + k) S)))) σ) (h0 : ¬ Sub S (moA A a (A 12 1 + k)) → Q (some (.int (-1))) σ) : MetA mX8_inSet [.ref 89, .int (nI S), .int (nI (A 12 1 + k))] σ Q := by
  refine MetA_of qX8_inSet (Nat.le_of_ble_eq_true rfl) ?_
  have hc8 := jlN_le (A := A) (a := a)
  have h256 := pw256 (A := A) (a := a)
  have h24 := hW.1.1
  have hy := hW.1.2.1
  have hl := hW.2.2.2.1
  have loop : ∀ m i, i + m = jlN A a → (∀ j, j < i → S.testBit j = true → mayB (A 12 3) (A 2 (jlJ A a j)) (A 12 1 + k) = true) → V mX8_inSet 5 [(0, .ref 89), (1, .int (nI S)), (2, .int (nI (A 12 1 + k))), (3, .int (nI (flP A a (A 12 1 + k) S i))), (4, .int (nI i))] [] σ Q := by
    intro m
    induction m with
    | zero =>
      intro i hi hm
      have hi : i = jlN A a := by omega
      subst hi
      refine wpB_sd (stops := [5]) kX8_inSet 30 _ _ _ _ ?_
      refine br_t (by rw [e20]; exact nI_le (by omega) (by omega)) ?_
      refine h1 ?_
      rw [sub_bits]
      exact fun j hj => moA_bit.mpr ⟨bit_in hS hj, hm j (bit_in hS hj) hj⟩
    | succ m ih =>
      intro i hi hm
      obtain ⟨hji, _, hgi⟩ := jl_in (A := A) (a := a) (k := i) (by omega)
      have hfp := flP_le (t := A 12 1 + k) (S := S) hW.1 (show i ≤ jlN A a by omega)
      have go : ∀ u : Int32, u = nI (flP A a (A 12 1 + k) S (i + 1)) → (S.testBit i = true → mayB (A 12 3) (A 2 (jlJ A a i)) (A 12 1 + k) = true) → V mX8_inSet 66 [(0, .ref 89), (1, .int (nI S)), (2, .int (nI (A 12 1 + k))), (3, .int (nI (flP A a (A 12 1 + k) S i))), (4, .int (nI i))] [.int u] σ Q := by
        intro u hu hmi
        subst hu
        refine wpB_sd (stops := [5]) kX8_inSet 30 _ _ _ _ ?_
        have nxt := ih (i + 1) (by omega) (fun j hj hb => by
          by_cases q : j = i
          · subst q; exact hmi hb
          · exact hm j (by omega) hb)
        rw [← nI_1 i] at nxt
        exact nxt
      refine wpB_sd (stops := [5, 66]) kX8_inSet 40 _ _ _ _ ?_
      refine br_f (by rw [e20]; exact nI_ge (by omega) (by omega)) ?_
      refine br_f (nI_pos (by omega)) ?_
      refine m_hasB (by omega) (by omega) ?_
      refine ⟨fun g => ?_, fun g => ?_⟩
      · have g := bI_n0 g
        refine ald (n := 8) (j := i) rfl rfl (by omega) (e98 i (by omega)) ?_
        refine mAr (by rfl) (m_may (x := 0) (by omega) hC.1 hW.1 hl hji (by omega) ?_)
        refine ⟨fun g2 => ?_, fun g2 => ?_⟩
        · -- not to be opened
          have g2 := bI_0.mp g2
          refine wpB_sd (stops := []) kX8_inSet 40 _ _ _ _ ?_
          have fin := h0 (fun q => by
            rw [sub_bits] at q
            exact g2 ⟨hgi, (moA_bit.mp (q i g)).2⟩)
          refine ⟨fun _ => fin, fun _ => ⟨fun _ => fin, fun z => absurd (show ((-1 : Int32)) < 0 by decide) z⟩⟩
        · have g2 := bI_n0 g2
          refine ald (n := 8) (j := i) rfl rfl (by omega) (e98 i (by omega)) ?_
          refine mAr (by rfl) (m_filled (x := 0) (by omega) hC.1 hW.1 hji (by omega) (by omega) ?_)
          refine go _ ?_ (fun _ => g2.2)
          unfold flP
          rw [fb_sm_succ, if_pos g]
          exact nI_add _ _
      · have g := bI_0.mp g
        refine go _ ?_ (fun z => absurd z g)
        unfold flP
        rw [fb_sm_succ, if_neg g, Nat.add_zero]
  refine wpB_sd (stops := [5]) kX8_inSet 30 _ _ _ _ ?_
  exact loop (jlN A a) 0 (by omega) (fun j hj => by omega)
set_option maxRecDepth 100000 in
theorem m_hungerBy {σ : Sg} {A : St} {hg a k s : Nat} {Q : Option Value → Sg → Prop} (hC : MR σ A hg) (hW : WL A) (ha : a < A 12 5) (hk : k ≤ 12) (hs : s < 2 ^ 20) (h : Q (some (.int (nI (hwA A a k s)))) σ) : MetA mX8_hungerBy [.ref 89, .int (nI a), .int (nI k), .int (nI s)] σ Q := by
  refine MetA_of qX8_hungerBy (Nat.le_of_ble_eq_true rfl) ?_
  have h4 := hW.2.1
  have hy := hW.1.2.1
  have hwa := hW.2.2.2.2.2.1 a ha
  have hha := harvA_le (t := A 12 1 + k) hW
  have at39 : ∀ u : Int32, u = nI (if k = 0 then A 8 a else 0) → V mX8_hungerBy 39 [(0, .ref 89), (1, .int (nI a)), (2, .int (nI k)), (3, .int (nI s))] [.int u, .int (nI (A 9 a) - nI (harvA A (A 12 1 + k)))] σ Q := by
    intro u hu
    subst hu
    obtain ⟨m1, m2⟩ := sub3 (w := A 9 a) (h := harvA A (A 12 1 + k)) (s := if k = 0 then A 8 a else 0) (f := s) (by omega) (by omega) (by split <;> omega) hs
    refine wpB_sd (stops := []) kX8_hungerBy 30 _ _ _ _ ?_
    refine ⟨fun g => ?_, fun g => ?_⟩
    · refine fin_i h ?_
      unfold hwA
      rw [m1.mp g]; rfl
    · refine fin_i h ?_
      exact m2 g
  refine wpB_sd (stops := [39]) kX8_hungerBy 30 _ _ _ _ ?_
  refine ald (n := 8) (j := a) rfl rfl (by omega) (hC.2.1.2.1 a ha) ?_
  refine ald (n := 800) (j := 0 + 177) rfl rfl (by omega) hC.1.2.1 ?_
  refine mAr (by rw [nI_add]) (m_harvestOf hC.2.1 hW.2.2.1 (show A 12 1 + k < 2 ^ 21 by omega) ?_)
  refine ⟨fun g => ?_, fun g => ?_⟩
  · refine at39 0 ?_
    rw [if_neg (fun q => g (by rw [q]; rfl))]; rfl
  · have g := (nI_eq (b := 0) (by omega) (by omega)).mp g
    refine ald (n := 800) (j := 0 + 172 + a) rfl (by simp only [fa_lit, nI_add]) (by omega) (hC.1.2.2.2.2.2 a ha).2 ?_
    exact at39 _ (by rw [if_pos g])
