/-! plan: what is to be found -/
abbrev Sub (S F : Nat) : Prop := S &&& F = S
theorem sub_bits {S F : Nat} : Sub S F ↔ ∀ i, S.testBit i = true → F.testBit i = true := by
  constructor
  · intro h i hi
    have := congrArg (fun x => x.testBit i) h
    simp only [Nat.testBit_and, hi, Bool.true_and] at this
    exact this
  · intro h
    apply Nat.eq_of_testBit_eq
    intro i
    rw [Nat.testBit_and]
    cases q : S.testBit i with
    | false => rfl
    | true => rw [h i q]; rfl
theorem sub_le {S F : Nat} (h : Sub S F) : S ≤ F := by rw [← h]; exact Nat.and_le_right
theorem sub_0 {F : Nat} : Sub 0 F := Nat.zero_and F
theorem sub_and {T F : Nat} : Sub (T &&& F) F := by unfold Sub; rw [Nat.and_assoc, Nat.and_self]
theorem and2 (x m : Nat) : x &&& m = (x % 2 &&& m % 2) + 2 * (x / 2 &&& m / 2) := by
  have h1 : (x &&& m) % 2 = x % 2 &&& m % 2 := Nat.and_mod_two_pow (n := 1)
  have h2 : (x &&& m) / 2 = x / 2 &&& m / 2 := Nat.and_div_two_pow (n := 1)
  rw [← h1, ← h2]
  omega
theorem and_b : ∀ a b : Fin 2, (a.val &&& b.val) = a.val * b.val := by decide
/-- of the sets within F that are less than T the greatest is (T - 1) & F -/
theorem sub_next : ∀ (n F T S : Nat), T < 2 ^ n → Sub T F → 0 < T → Sub S F → S < T → S ≤ (T - 1) &&& F
  | 0, F, T, S, hT, _, h0, _, _ => by omega
  | n + 1, F, T, S, hT, h1, h0, h2, h3 => by
    unfold Sub at h1 h2
    rw [and2 T F] at h1
    rw [and2 S F] at h2
    have bT : (T % 2 &&& F % 2) = T % 2 * (F % 2) := and_b ⟨T % 2, by omega⟩ ⟨F % 2, by omega⟩
    have bS : (S % 2 &&& F % 2) = S % 2 * (F % 2) := and_b ⟨S % 2, by omega⟩ ⟨F % 2, by omega⟩
    have hle : T / 2 &&& F / 2 ≤ T / 2 := Nat.and_le_left
    have hle2 : S / 2 &&& F / 2 ≤ S / 2 := Nat.and_le_left
    have hF2 : F % 2 = 0 ∨ F % 2 = 1 := by omega
    have hT2 : T % 2 = 0 ∨ T % 2 = 1 := by omega
    have hS2 : S % 2 = 0 ∨ S % 2 = 1 := by omega
    have e1 : T % 2 * (F % 2) = T % 2 ∧ T / 2 &&& F / 2 = T / 2 := by
      rw [bT] at h1
      have : T % 2 * (F % 2) ≤ T % 2 := by rcases hF2 with q | q <;> rw [q] <;> omega
      omega
    have e2 : S % 2 * (F % 2) = S % 2 ∧ S / 2 &&& F / 2 = S / 2 := by
      rw [bS] at h2
      have : S % 2 * (F % 2) ≤ S % 2 := by rcases hF2 with q | q <;> rw [q] <;> omega
      omega
    rw [and2 (T - 1) F]
    have bX : ((T - 1) % 2 &&& F % 2) = (T - 1) % 2 * (F % 2) := and_b ⟨(T - 1) % 2, by omega⟩ ⟨F % 2, by omega⟩
    rw [bX]
    rcases hT2 with q | q
    · have ih := sub_next n (F / 2) (T / 2) (S / 2) (by rw [Nat.pow_succ] at hT; omega) e1.2 (by omega) e2.2 (by omega)
      have x1 : (T - 1) / 2 = T / 2 - 1 := by omega
      have x2 : (T - 1) % 2 = 1 := by omega
      rw [x1, x2, Nat.one_mul]
      rcases hF2 with z | z
      · rw [z, Nat.mul_zero] at e2
        omega
      · omega
    · have x1 : (T - 1) / 2 = T / 2 := by omega
      have x2 : (T - 1) % 2 = 0 := by omega
      rw [x1, x2, Nat.zero_mul, e1.2]
      omega
def IsMn (F : Nat) (f : Nat → Nat) (v : Nat) : Prop := (∃ S, Sub S F ∧ v = f S) ∧ ∀ S, Sub S F → v ≤ f S
theorem IsMn_one {F : Nat} {f : Nat → Nat} {v w : Nat} (h : IsMn F f v) (h2 : IsMn F f w) : v = w := by
  obtain ⟨⟨S, a, b⟩, c⟩ := h
  obtain ⟨⟨T, d, e⟩, g⟩ := h2
  have := c T d
  have := g S a
  omega
def mnP (F : Nat) (f : Nat → Nat) : Nat → Nat
  | 0 => f 0
  | n + 1 => if Sub (n + 1) F ∧ f (n + 1) < mnP F f n then f (n + 1) else mnP F f n
theorem mnP_a {F : Nat} {f : Nat → Nat} : ∀ n, ∃ S, S ≤ n ∧ Sub S F ∧ mnP F f n = f S
  | 0 => ⟨0, by omega, sub_0, rfl⟩
  | n + 1 => by
    rw [mnP]
    split
    · next h => exact ⟨n + 1, by omega, h.1, rfl⟩
    · obtain ⟨S, a, b, c⟩ := mnP_a (F := F) (f := f) n
      exact ⟨S, by omega, b, c⟩
theorem mnP_b {F : Nat} {f : Nat → Nat} : ∀ n S, S ≤ n → Sub S F → mnP F f n ≤ f S
  | 0, S, h, _ => by rw [show S = 0 by omega, mnP]; exact Nat.le_refl _
  | n + 1, S, h, hS => by
    rw [mnP]
    by_cases q : S = n + 1
    · subst q
      split
      · exact Nat.le_refl _
      · next z => exact Nat.le_of_not_lt (fun y => z ⟨hS, y⟩)
    · have := mnP_b (f := f) n S (by omega) hS
      split <;> omega
theorem mnP_is {F N : Nat} {f : Nat → Nat} (h : F ≤ N) : IsMn F f (mnP F f N) := by
  obtain ⟨S, a, b, c⟩ := mnP_a (F := F) (f := f) N
  exact ⟨⟨S, b, c⟩, fun T hT => mnP_b N T (Nat.le_trans (sub_le hT) h) hT⟩
def mayI (A : St) (a t i : Nat) : Prop := mayB (A 12 3) (A 2 (jlJ A a i)) t = true
def flA (A : St) (a t S : Nat) : Nat := fb_sm (fun i => if S.testBit i = true then filA A (jlJ A a i) t else 0) (jlN A a)
def hwA (A : St) (a k s : Nat) : Nat := A 9 a - (harvA A (A 12 1 + k) + (if k = 0 then A 8 a else 0) + s)
def moA (A : St) (a t : Nat) : Nat := bset (fun i => if mayB (A 12 3) (A 2 (jlJ A a i)) t = true then 1 else 0) (jlN A a)
def frA (A : St) (a k U : Nat) : Nat := bset (fun i => if mayB (A 12 3) (A 2 (jlJ A a i)) (A 12 1 + k) = true ∧ U.testBit i = false then 1 else 0) (jlN A a)
theorem frA_bit {A : St} {a k U i : Nat} : (frA A a k U).testBit i = true ↔ i < jlN A a ∧ mayB (A 12 3) (A 2 (jlJ A a i)) (A 12 1 + k) = true ∧ U.testBit i = false := by
  unfold frA
  rw [bset_bit, decide_eq_true_eq]
  constructor
  · rintro ⟨x, y⟩
    refine ⟨x, ?_⟩
    split at y
    · next z => exact z
    · omega
  · rintro ⟨x, y⟩
    exact ⟨x, if_pos y⟩
theorem frA_lt {A : St} {a k U : Nat} : frA A a k U < 2 ^ jlN A a := bset_lt _ _
theorem moA_bit {A : St} {a t i : Nat} : (moA A a t).testBit i = true ↔ i < jlN A a ∧ mayB (A 12 3) (A 2 (jlJ A a i)) t = true := by
  unfold moA
  rw [bset_bit, decide_eq_true_eq]
  constructor
  · rintro ⟨x, y⟩
    refine ⟨x, ?_⟩
    split at y
    · next z => exact z
    · omega
  · rintro ⟨x, y⟩
    exact ⟨x, if_pos y⟩
theorem moA_lt {A : St} {a t : Nat} : moA A a t < 2 ^ jlN A a := bset_lt _ _
def plK (A : St) (a : Nat) : Nat → Nat → Nat → Nat
  | 0, _, _ => 0
  | m + 1, k, U => mnP (frA A a k U) (fun S => hwA A a k (flA A a (A 12 1 + k) S) + plK A a m (k + 1) (U ||| S)) (2 ^ jlN A a)
def pf (A : St) (a m k U S : Nat) : Nat := hwA A a k (flA A a (A 12 1 + k) S) + plK A a m (k + 1) (U ||| S)
theorem plK_is {A : St} {a m k U : Nat} : IsMn (frA A a k U) (pf A a m k U) (plK A a (m + 1) k U) := by
  rw [plK]
  exact mnP_is (Nat.le_of_lt frA_lt)
theorem plK_mono {A : St} {a : Nat} : ∀ (m k U U' : Nat), (∀ i, U.testBit i = true → U'.testBit i = true) → plK A a m k U ≤ plK A a m k U'
  | 0, _, _, _, _ => Nat.le_refl _
  | m + 1, k, U, U', h => by
    obtain ⟨⟨S, a1, a2⟩, _⟩ := plK_is (A := A) (a := a) (m := m) (k := k) (U := U')
    have h1 : Sub S (frA A a k U) := by
      rw [sub_bits] at a1 ⊢
      intro i hi
      have := frA_bit.mp (a1 i hi)
      refine frA_bit.mpr ⟨this.1, this.2.1, ?_⟩
      cases q : U.testBit i with
      | false => rfl
      | true => rw [h i q] at this; exact absurd this.2.2 (by decide)
    have h2 := (plK_is (A := A) (a := a) (m := m) (k := k) (U := U)).2 S h1
    have h3 := plK_mono (A := A) (a := a) m (k + 1) (U ||| S) (U' ||| S) (fun i hi => by
      rw [Nat.testBit_or, Bool.or_eq_true] at hi ⊢
      rcases hi with q | q
      · exact Or.inl (h i q)
      · exact Or.inr q)
    rw [a2]
    unfold pf at h2 ⊢
    omega
theorem hwA_le {A : St} {a k s : Nat} (hW : WL A) (ha : a < A 12 5) : hwA A a k s ≤ 99 := by
  have := (hW.2.2.2.2.2.1 a ha).1
  unfold hwA; omega
theorem plK_le {A : St} {a : Nat} (hW : WL A) (ha : a < A 12 5) : ∀ m k U, plK A a m k U ≤ 99 * m
  | 0, _, _ => by rw [plK]; omega
  | m + 1, k, U => by
    have h1 := (plK_is (A := A) (a := a) (m := m) (k := k) (U := U)).2 0 sub_0
    have h2 := plK_le hW ha m (k + 1) (U ||| 0)
    have h3 := hwA_le (k := k) (s := flA A a (A 12 1 + k) 0) hW ha
    unfold pf at h1
    omega
theorem pf_le {A : St} {a m k U S : Nat} (hW : WL A) (ha : a < A 12 5) : pf A a m k U S ≤ 99 * (m + 1) := by
  have h2 := plK_le hW ha m (k + 1) (U ||| S)
  have h3 := hwA_le (k := k) (s := flA A a (A 12 1 + k) S) hW ha
  unfold pf
  omega
/-- where there is no hunger nothing is opened -/
theorem plK_0 {A : St} {a m k U : Nat} (h : hwA A a k 0 = 0) : IsMn (frA A a k U) (pf A a m k U) (pf A a m k U 0) := by
  have h0 : ∀ s, hwA A a k s = 0 := fun s => by unfold hwA at h ⊢; omega
  refine ⟨⟨0, sub_0, rfl⟩, fun S _ => ?_⟩
  unfold pf
  rw [h0, h0, Nat.zero_add, Nat.zero_add]
  refine plK_mono m (k + 1) _ _ (fun i hi => ?_)
  rw [Nat.or_zero] at hi
  rw [Nat.testBit_or, hi]; rfl
def chP (A : St) (a n k U S : Nat) : Bool := decide (Sub S (frA A a k U) ∧ pf A a (n - (k + 1)) k U S = plK A a (n - k) k U)
def chS (A : St) (a n k U : Nat) : Nat := fa_first (chP A a n k U) (2 ^ jlN A a)
theorem chS_lt {A : St} {a n k U : Nat} (hk : k < n) : chS A a n k U < 2 ^ jlN A a := by
  rcases Nat.lt_or_ge (chS A a n k U) (2 ^ jlN A a) with q | q
  · exact q
  · obtain ⟨⟨S, a1, a2⟩, _⟩ := plK_is (A := A) (a := a) (m := n - (k + 1)) (k := k) (U := U)
    have hS : S < 2 ^ jlN A a := Nat.lt_of_le_of_lt (sub_le a1) frA_lt
    have := fa_first_no (chP A a n k U) (2 ^ jlN A a) S (by unfold chS at q; omega)
    rw [show n - (k + 1) + 1 = n - k by omega] at a2
    unfold chP at this
    rw [decide_eq_false_iff_not] at this
    exact absurd ⟨a1, a2.symm⟩ this
theorem chS_yes {A : St} {a n k U : Nat} (hk : k < n) : Sub (chS A a n k U) (frA A a k U) ∧ pf A a (n - (k + 1)) k U (chS A a n k U) = plK A a (n - k) k U := by
  have := fa_first_yes (chP A a n k U) (2 ^ jlN A a) (chS_lt hk)
  exact of_decide_eq_true this
theorem chS_no {A : St} {a n k U S : Nat} (h : S < chS A a n k U) : ¬ (Sub S (frA A a k U) ∧ pf A a (n - (k + 1)) k U S = plK A a (n - k) k U) := of_decide_eq_false (fa_first_no _ _ S h)
def usA (A : St) (a n : Nat) : Nat → Nat
  | 0 => 0
  | k + 1 => usA A a n k ||| chS A a n k (usA A a n k)
theorem usA_lt {A : St} {a n : Nat} : ∀ {k : Nat}, k ≤ n → usA A a n k < 2 ^ jlN A a
  | 0, _ => Nat.two_pow_pos _
  | k + 1, h => Nat.or_lt_two_pow (usA_lt (by omega)) (chS_lt (by omega))
def jrS (A : St) (a S : Nat) : Nat → Nat
  | 0 => 0
  | i + 1 => if S.testBit i = true then jrS A a S i ||| 2 ^ (jlJ A a i) else jrS A a S i
def opB (A : St) (a n k : Nat) : Nat := jrS A a (chS A a n k (usA A a n k)) (jlN A a)
theorem flA_le {A : St} {a t S : Nat} (hW : WJ A) : flA A a t S ≤ 1600 := by
  have := fb_sm_bound (f := fun i => if S.testBit i = true then filA A (jlJ A a i) t else 0) (c := 198) (n := jlN A a) (fun i hi => by
    have := filA_le hW (y := t) (jl_in hi).1
    show (if S.testBit i = true then filA A (jlJ A a i) t else 0) ≤ 198
    split <;> omega)
  have := jlN_le (A := A) (a := a)
  unfold flA
  omega
/-- bits taken out of a word -/
theorem and_not {x y : Nat} (hx : x < 2 ^ 31) (z : Nat) (h : ∀ i, z.testBit i = (x.testBit i && !y.testBit i)) : nI x &&& (nI y ^^^ (-1)) = nI z := by
  apply b_ext
  intro i hi
  have e : ∀ m : Nat, bt (nI m) i = m.testBit i := by
    intro m
    unfold bt nI
    rw [show (Int32.ofNat m).toBitVec = BitVec.ofNat 32 m from rfl, BitVec.getLsbD_ofNat]
    simp [hi]
  rw [b_and, b_xor, b_m1 i hi, e, e, e, h]
  cases x.testBit i <;> cases y.testBit i <;> rfl
theorem fr_I {A : St} {a k U : Nat} : nI (moA A a (A 12 1 + k)) &&& (nI U ^^^ (-1)) = nI (frA A a k U) := by
  have h1 := moA_lt (A := A) (a := a) (t := A 12 1 + k)
  have h2 : (2 : Nat) ^ jlN A a ≤ 2 ^ 8 := Nat.pow_le_pow_right (by omega) jlN_le
  refine and_not (by omega) _ (fun i => ?_)
  cases q : (frA A a k U).testBit i with
  | true =>
    obtain ⟨a1, a2, a3⟩ := frA_bit.mp q
    rw [moA_bit.mpr ⟨a1, a2⟩, a3]; rfl
  | false =>
    cases z : (moA A a (A 12 1 + k)).testBit i with
    | false => rfl
    | true =>
      cases w : U.testBit i with
      | true => rfl
      | false =>
        have := frA_bit.mpr ⟨(moA_bit.mp z).1, (moA_bit.mp z).2, w⟩
        rw [q] at this
        exact absurd this (by decide)
theorem sub_I {S F : Nat} (hS : S < 2 ^ 31) : nI S &&& (nI F ^^^ (-1)) = 0 ↔ Sub S F := by
  have e : ∀ m i : Nat, i < 32 → bt (nI m) i = m.testBit i := by
    intro m i hi
    unfold bt nI
    rw [show (Int32.ofNat m).toBitVec = BitVec.ofNat 32 m from rfl, BitVec.getLsbD_ofNat]
    simp [hi]
  constructor
  · intro h
    rw [sub_bits]
    intro i hi
    have hi32 : i < 32 := by
      rcases Nat.lt_or_ge i 32 with q | q
      · exact q
      · have : S < 2 ^ i := Nat.lt_of_lt_of_le hS (Nat.pow_le_pow_right (by omega) (by omega))
        rw [Nat.testBit_lt_two_pow this] at hi
        exact absurd hi (by decide)
    have := congrArg (fun x => bt x i) h
    simp only [b_and, b_xor, b_m1 i hi32, b_0, e _ i hi32, hi, Bool.true_and] at this
    cases q : F.testBit i with
    | true => rfl
    | false => rw [q] at this; exact absurd this (by decide)
  · intro h
    rw [sub_bits] at h
    apply b_ext
    intro i hi
    rw [b_and, b_xor, b_m1 i hi, b_0, e _ i hi, e _ i hi]
    cases q : S.testBit i with
    | false => rfl
    | true => rw [h i q]; rfl
