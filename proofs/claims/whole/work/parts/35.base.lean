/-! BASE: numbers, bits, abstract lands -/
abbrev bI (c : Prop) [Decidable c] : Int32 := if c then 1 else 0
theorem bI_0 {c : Prop} [Decidable c] : bI c = 0 ↔ ¬ c := by unfold bI; split <;> simp_all
theorem bI_1 {c : Prop} [Decidable c] : bI c = 1 ↔ c := by unfold bI; split <;> simp_all
theorem bI_t {c : Prop} [Decidable c] (h : c) : bI c = 1 := if_pos h
theorem bI_f {c : Prop} [Decidable c] (h : ¬ c) : bI c = 0 := if_neg h
theorem bI_c {c d : Prop} [Decidable c] [Decidable d] (h : c ↔ d) : bI c = bI d := by
  by_cases hc : c
  · rw [bI_t hc, bI_t (h.mp hc)]
  · rw [bI_f hc, bI_f (fun q => hc (h.mpr q))]
theorem bI_or {c : Prop} [Decidable c] : bI c = 0 ∨ bI c = 1 := by unfold bI; split <;> simp
theorem bn_t {c A B : Prop} (h : c) (b : B) : (¬ c → A) ∧ (c → B) := ⟨fun q => absurd h q, fun _ => b⟩
theorem bn_f {c A B : Prop} (h : ¬ c) (a : A) : (¬ c → A) ∧ (c → B) := ⟨fun _ => a, fun q => absurd q h⟩
theorem fin_i {Q : Option Value → Sg → Prop} {v v' : Int32} {σ : Sg} (h : Q (some (.int v)) σ) (e : v' = v) : Q (some (.int v')) σ := e ▸ h
def aokB (a t n : Nat) : Bool := Nat.ble (a + 1) NC && Nat.beq (shp a).1 t && Nat.beq (shp a).2.1 n && Nat.ble n 2147483647
theorem aok {a t n j : Nat} {i : Int32} (h : aokB a t n = true) (hi : i = nI j) (hj : j < n) : aOK a t i := by
  simp only [aokB, Bool.and_eq_true] at h
  obtain ⟨⟨⟨h1, h2⟩, h3⟩, h4⟩ := h
  refine ⟨Nat.le_of_ble_eq_true h1, Nat.eq_of_beq_eq_true h2, ?_⟩
  rw [Nat.eq_of_beq_eq_true h3, hi]
  exact vp_in_nI hj (by have := Nat.le_of_ble_eq_true h4; omega)
theorem ald {σ : Sg} {a j n : Nat} {i v : Int32} {P : Int32 → Prop} (h : aokB a 1 n = true) (hi : i = nI j) (hj : j < n) (hv : σ a j = v) (k : P v) : aOK a 1 i ∧ ∀ u : Int32, u = σ a i.toNatClampNeg → P u := by
  have h9 := h
  simp only [aokB, Bool.and_eq_true] at h9
  have hn := Nat.le_of_ble_eq_true h9.2
  refine ⟨aok h hi hj, fun u hu => ?_⟩
  rw [hu, hi, nI_clamp (by omega), hv]; exact k
theorem ast {σ : Sg} {a j n : Nat} {i v : Int32} {P : Sg → Prop} (h : aokB a 1 n = true) (hi : i = nI j) (hj : j < n) (k : P (sgu σ a j v)) : aOK a 1 i ∧ ∀ σ' : Sg, σ' = sgu σ a i.toNatClampNeg v → P σ' := by
  have h9 := h
  simp only [aokB, Bool.and_eq_true] at h9
  have hn := Nat.le_of_ble_eq_true h9.2
  refine ⟨aok h hi hj, fun σ' e => ?_⟩
  rw [e, hi, nI_clamp (by omega)]; exact k
theorem rdn {f : Nat → Int32} {j : Nat} {v : Int32} (hj : j < 2 ^ 31) (h : f j = v) : f (nI j).toNatClampNeg = v := by rw [nI_clamp hj]; exact h
theorem sgu_s {σ : Sg} {c k : Nat} {v : Int32} : sgu σ c k v c k = v := by unfold sgu; rw [sgc_self]; exact pk_us
theorem sgu_k {σ : Sg} {c k k' : Nat} {v : Int32} (h : k' ≠ k) : sgu σ c k v c k' = σ c k' := by unfold sgu; rw [sgc_self]; exact pk_un h
theorem sgu_c {σ : Sg} {c c' k : Nat} {v : Int32} (h : c' ≠ c) : sgu σ c k v c' = σ c' := sgc_ne h
theorem sgu_at {σ : Sg} {c c' k k' : Nat} {v : Int32} : sgu σ c k v c' k' = if c' = c ∧ k' = k then v else σ c' k' := by
  by_cases h : c' = c
  · subst h
    by_cases h2 : k' = k
    · subst h2; rw [sgu_s, if_pos ⟨rfl, rfl⟩]
    · rw [sgu_k h2, if_neg (fun q => h2 q.2)]
  · rw [sgu_c h, if_neg (fun q => h q.1)]
abbrev St : Type := Nat → Nat → Nat
def stu (A : St) (f k v : Nat) : St := fun g j => if g = f ∧ j = k then v else A g j
theorem stu_s {A : St} {f k v : Nat} : stu A f k v f k = v := if_pos ⟨rfl, rfl⟩
theorem stu_f {A : St} {f k v g j : Nat} (h : g ≠ f) : stu A f k v g j = A g j := if_neg (fun q => h q.1)
theorem stu_k {A : St} {f k v g j : Nat} (h : j ≠ k) : stu A f k v g j = A g j := if_neg (fun q => h q.2)
def bset (p : Nat → Nat) : Nat → Nat
  | 0 => 0
  | n + 1 => bset p n + (if p n = 1 then 2 ^ n else 0)
theorem bset_lt (p : Nat → Nat) : ∀ n, bset p n < 2 ^ n
  | 0 => by simp [bset]
  | n + 1 => by
    have := bset_lt p n
    rw [bset, Nat.pow_succ]
    split <;> omega
theorem bset_bit (p : Nat → Nat) : ∀ n j, (bset p n).testBit j = decide (j < n ∧ p j = 1)
  | 0, j => by simp [bset]
  | n + 1, j => by
    have ih := bset_bit p n j
    have hl := bset_lt p n
    rw [bset]
    by_cases hp : p n = 1
    · rw [if_pos hp, Nat.add_comm]
      rcases Nat.lt_trichotomy j n with q | q | q
      · rw [Nat.testBit_two_pow_add_gt q, ih]
        simp [q, show j < n + 1 by omega]
      · subst q
        rw [Nat.testBit_two_pow_add_eq, ih]
        simp [hp]
      · have h2 : 2 ^ n + bset p n < 2 ^ j := by
          have : 2 ^ (n + 1) ≤ 2 ^ j := Nat.pow_le_pow_right (by omega) (by omega)
          rw [Nat.pow_succ] at this
          omega
        rw [Nat.testBit_lt_two_pow h2]
        simp [show ¬ j < n + 1 by omega]
    · rw [if_neg hp, Nat.add_zero, ih]
      by_cases hj : j = n
      · subst hj; simp [hp]
      · have : (j < n + 1) ↔ (j < n) := by omega
        simp [this]
theorem gbit {n j : Nat} (hn : n < 2 ^ 31) (hj : j < 31) : (nI n >>> (nI j &&& 31)) &&& 1 = nI (n / 2 ^ j % 2) := by
  rw [pk_shrN hn _ j (s_l j (by omega))]
  have h : n / 2 ^ j ≤ n := Nat.div_le_self _ _
  exact pk_andN (m := 1) (by omega) 1 (by decide)
theorem gbit1 {n j : Nat} (hn : n < 2 ^ 31) (hj : j < 31) : (nI n >>> (nI j &&& 31)) &&& 1 = 1 ↔ n.testBit j = true := by
  rw [gbit hn hj, Nat.testBit_eq_decide_div_mod_eq, decide_eq_true_eq]
  have : n / 2 ^ j % 2 < 2 := Nat.mod_lt _ (by omega)
  constructor
  · intro h; exact (nI_eq (b := 1) (by omega) (by omega)).mp h
  · intro h; rw [h]; rfl
theorem gbit0 {n j : Nat} (hn : n < 2 ^ 31) (hj : j < 31) : (nI n >>> (nI j &&& 31)) &&& 1 = 0 ↔ n.testBit j = false := by
  rw [gbit hn hj, Nat.testBit_eq_decide_div_mod_eq, decide_eq_false_iff_not]
  have : n / 2 ^ j % 2 < 2 := Nat.mod_lt _ (by omega)
  constructor
  · intro h
    have := (nI_eq (b := 0) (by omega) (by omega)).mp h
    omega
  · intro h
    have e : n / 2 ^ j % 2 = 0 := by omega
    rw [e]; rfl
theorem one_shl {j : Nat} (hj : j < 31) : (1 : Int32) <<< (nI j &&& 31) = nI (2 ^ j) := by
  have h2 : 2 ^ j < 2 ^ 31 := Nat.pow_lt_pow_right (by omega) hj
  have := pk_shlN (n := 1) (nI j &&& 31) j (s_l j (by omega)) (by omega)
  rw [Nat.one_mul] at this
  exact this
/-- the cellar at b holds the jars of A -/
def RCel (b : Nat) (σ : Sg) (A : St) : Prop := σ b 0 = nI (A 12 0) ∧ σ b 7 = nI (bset (A 6) (A 12 0)) ∧ ∀ j, j < A 12 0 → σ (b + 1) j = nI (A 0 j) ∧ σ (b + 2) j = nI (A 1 j) ∧ σ (b + 3) j = nI (A 2 j) ∧ σ (b + 4) j = nI (A 3 j) ∧ σ (b + 5) j = nI (A 4 j) ∧ σ (b + 6) j = nI (A 5 j)
/-- the jars are within their bounds -/
def WJ (A : St) : Prop := A 12 0 ≤ 24 ∧ A 12 1 < 2 ^ 20 ∧ ∀ j, j < A 12 0 → A 0 j ≤ 2 ∧ A 1 j < 4 ∧ A 2 j < 2 ^ 20 ∧ A 3 j ≤ 99 ∧ A 4 j ≤ 99 ∧ A 5 j ≤ A 12 1 ∧ A 6 j ≤ 1
def filA (A : St) (j y : Nat) : Nat := if A 0 j = 0 then (if A 4 j < y - A 5 j then A 3 j / 2 else A 3 j) else if A 0 j = 1 then A 3 j + (if A 4 j < y - A 5 j then A 4 j else y - A 5 j) else A 3 j
def mayB (l d y : Nat) : Bool := if l = 0 then decide (d ≤ y) else if l = 1 then decide (y = d) else true
/-- outside the cells lo .. hi nothing is changed -/
def FrC (lo hi : Nat) (σ σ' : Sg) : Prop := ∀ c, ¬ (lo ≤ c ∧ c ≤ hi) → σ' c = σ c
theorem gone_lt {A : St} (h : WJ A) : bset (A 6) (A 12 0) < 2 ^ 24 := Nat.lt_of_lt_of_le (bset_lt _ _) (Nat.pow_le_pow_right (by omega) h.1)
theorem bset_congr {p q : Nat → Nat} : ∀ {n : Nat}, (∀ k, k < n → (p k = 1 ↔ q k = 1)) → bset p n = bset q n
  | 0, _ => rfl
  | n + 1, h => by
    rw [bset, bset, bset_congr (fun k hk => h k (by omega))]
    have := h n (by omega)
    by_cases hp : p n = 1
    · rw [if_pos hp, if_pos (this.mp hp)]
    · rw [if_neg hp, if_neg (fun q => hp (this.mpr q))]
theorem bset_or {p : Nat → Nat} {n j : Nat} (hj : j < n) : bset p n ||| 2 ^ j = bset (fun k => if k = j then 1 else p k) n := by
  apply Nat.eq_of_testBit_eq
  intro i
  rw [Nat.testBit_or, bset_bit, bset_bit, Nat.testBit_two_pow]
  by_cases h : i = j
  · subst h; simp [hj]
  · have h2 : ¬ j = i := fun q => h q.symm
    simp [h, h2]
theorem bset_or' {p : Nat → Nat} {n : Nat} : bset p n ||| 2 ^ n = bset (fun k => if k = n then 1 else p k) (n + 1) := by
  apply Nat.eq_of_testBit_eq
  intro i
  rw [Nat.testBit_or, bset_bit, bset_bit, Nat.testBit_two_pow]
  by_cases h : i = n
  · subst h; simp
  · have h2 : ¬ n = i := fun q => h q.symm
    have h3 : i < n + 1 ↔ i < n := by omega
    simp [h, h2, h3]
/-- a bit taken out that is not there -/
theorem bit_off {a n : Nat} (ha : a < 2 ^ n) (hn : n < 31) : nI a &&& (((1 : Int32) <<< (nI n &&& 31)) ^^^ (-1)) = nI a := by
  apply b_ext
  intro i hi
  rw [b_and, b_xor, b_m1 i hi, one_shl hn]
  have e : ∀ m : Nat, bt (nI m) i = m.testBit i := by
    intro m
    unfold bt nI
    rw [show (Int32.ofNat m).toBitVec = BitVec.ofNat 32 m from rfl, BitVec.getLsbD_ofNat]
    simp [hi]
  rw [e, e, Nat.testBit_two_pow]
  by_cases h : n = i
  · subst h
    rw [Nat.testBit_lt_two_pow ha]; rfl
  · simp [h]
def optI (o : Option Nat) : Int32 := match o with
  | none => -1
  | some j => nI j
def ftoA (A : St) (hh l y : Nat) : Nat → Option Nat
  | 0 => none
  | n + 1 => if A 1 n = hh ∧ A 6 n = 0 ∧ mayB l (A 2 n) y = true then (match ftoA A hh l y n with
      | none => some n
      | some f => if A 2 n < A 2 f then some n else some f) else ftoA A hh l y n
theorem ftoA_lt (A : St) (hh l y : Nat) : ∀ n f, ftoA A hh l y n = some f → f < n ∧ A 1 f = hh ∧ A 6 f = 0 ∧ mayB l (A 2 f) y = true
  | 0, f, h => by simp [ftoA] at h
  | n + 1, f, h => by
    have ih := ftoA_lt A hh l y n
    rw [ftoA] at h
    split at h
    · next hc =>
      split at h
      · next hn => cases h; exact ⟨by omega, hc⟩
      · next g hg =>
        split at h
        · cases h; exact ⟨by omega, hc⟩
        · cases h; have := ih f hg; exact ⟨by omega, this.2⟩
    · have := ih f h; exact ⟨by omega, this.2⟩
def addA (A : St) (k h d q kp y : Nat) : St := fun f j => if f = 12 ∧ j = 0 then A 12 0 + 1 else if j = A 12 0 ∧ f ≤ 6 then (match f with | 0 => k | 1 => h | 2 => d | 3 => q | 4 => kp | 5 => y | _ => 0) else A f j
