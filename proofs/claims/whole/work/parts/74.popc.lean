/-! Integer.bitCount, and the reference's ones -/
theorem ush {k j : Nat} (hk : k < 2 ^ 31) (hj : j < 32) : ((nI k).toUInt32 >>> ((nI j).toUInt32 &&& Int32.toUInt32 31)).toInt32 = nI (k / 2 ^ j) := by
  have hs : k / 2 ^ j ≤ k := Nat.div_le_self _ _
  have e2 : UInt32.ofNat k >>> (UInt32.ofNat j &&& Int32.toUInt32 31) = UInt32.ofNat (k / 2 ^ j) := by
    apply UInt32.toNat_inj.1
    have h1 : (UInt32.ofNat k).toNat = k := Nat.mod_eq_of_lt (by omega)
    have h2 : (UInt32.ofNat (k / 2 ^ j)).toNat = k / 2 ^ j := Nat.mod_eq_of_lt (by omega)
    rw [UInt32.toNat_shiftRight, nx_cnt ⟨j, hj⟩, h1, h2, Nat.shiftRight_eq_div_pow]
  show (UInt32.ofNat k >>> (UInt32.ofNat j &&& Int32.toUInt32 31)).toInt32 = _
  rw [e2]
  rfl
def pq1 (a : Nat) : Nat := a - ((a / 2) &&& 85)
def pq2 (a : Nat) : Nat := (pq1 a &&& 51) + ((pq1 a / 4) &&& 51)
def pq3 (a : Nat) : Nat := (pq2 a + pq2 a / 16) &&& 15
theorem pq_t1 : ∀ a : Fin 256, ∀ t : Fin 2, (a.val / 2 + 128 * t.val) &&& 85 = (a.val / 2) &&& 85 := by decide +kernel
theorem pq_t2 : ∀ a : Fin 256, ∀ t : Fin 4, (a.val / 4 + 64 * t.val) &&& 51 = (a.val / 4) &&& 51 := by decide +kernel
theorem pq_t3 : ∀ a : Fin 256, ((a.val / 2) &&& 85) ≤ a.val ∧ pq1 a.val < 256 ∧ pq2 a.val ≤ 68 ∧ pq2 a.val % 16 ≤ 4 ∧ pq3 a.val ≤ 8 ∧ pq3 a.val = fb_ct (fun k => a.val.testBit k) 8 := by decide +kernel
theorem pq_t4 : ∀ a : Fin 69, ∀ t : Fin 5, (a.val + a.val / 16 + 16 * t.val) &&& 15 = (a.val + a.val / 16) &&& 15 := by decide +kernel
/-- an and, byte by byte -/
theorem and8 (x m : Nat) : x &&& m = (x % 256 &&& m % 256) + 256 * (x / 256 &&& m / 256) := by
  have h1 : (x &&& m) % 256 = x % 256 &&& m % 256 := Nat.and_mod_two_pow (n := 8)
  have h2 : (x &&& m) / 256 = x / 256 &&& m / 256 := Nat.and_div_two_pow (n := 8)
  rw [← h1, ← h2]
  omega
theorem and24 {y a b c m M : Nat} (ha : a < 256) (hb : b < 256) (hc : c < 256) (hm : m < 256) (hy : y = a + 256 * b + 65536 * c) (hM : M = m + 256 * m + 65536 * m + 16777216 * m) : y &&& M = (a &&& m) + 256 * (b &&& m) + 65536 * (c &&& m) := by
  have e1 : y % 256 = a := by omega
  have e2 : y / 256 % 256 = b := by omega
  have e3 : y / 256 / 256 % 256 = c := by omega
  have e4 : y / 256 / 256 / 256 = 0 := by omega
  have f1 : M % 256 = m := by omega
  have f2 : M / 256 % 256 = m := by omega
  have f3 : M / 256 / 256 % 256 = m := by omega
  rw [and8 y M, and8 (y / 256) (M / 256), and8 (y / 256 / 256) (M / 256 / 256), e1, e2, e3, e4, f1, f2, f3, Nat.zero_and]
  omega
theorem pc_split {a b c : Nat} (ha : a < 256) (hb : b < 256) (hc : c < 256) : fb_ct (fun k => (a + 256 * b + 65536 * c).testBit k) 24 = fb_ct (fun k => a.testBit k) 8 + fb_ct (fun k => b.testBit k) 8 + fb_ct (fun k => c.testBit k) 8 := by
  have s1 := fb_ct_split (fun k => (a + 256 * b + 65536 * c).testBit k) 8 16
  have s2 := fb_ct_split (fun k => (a + 256 * b + 65536 * c).testBit (8 + k)) 8 8
  rw [s1, s2]
  have d1 : ∀ x n k : Nat, x.testBit (n + k) = (x / 2 ^ n).testBit k := fun x n k => by rw [Nat.testBit_div_two_pow, Nat.add_comm]
  have d2 : ∀ x k : Nat, k < 8 → x.testBit k = (x % 256).testBit k := fun x k hk => by
    have := Nat.testBit_mod_two_pow x 8 k
    rw [show (2 : Nat) ^ 8 = 256 from rfl] at this
    rw [this]
    simp [hk]
  have c1 : fb_ct (fun k => (a + 256 * b + 65536 * c).testBit k) 8 = fb_ct (fun k => a.testBit k) 8 := fb_ct_cong (fun k hk => by
    show (a + 256 * b + 65536 * c).testBit k = a.testBit k
    rw [d2 _ k hk, show (a + 256 * b + 65536 * c) % 256 = a by omega])
  have c2 : fb_ct (fun k => (a + 256 * b + 65536 * c).testBit (8 + k)) 8 = fb_ct (fun k => b.testBit k) 8 := fb_ct_cong (fun k hk => by
    show (a + 256 * b + 65536 * c).testBit (8 + k) = b.testBit k
    rw [d1, show (2 : Nat) ^ 8 = 256 from rfl, d2 _ k hk, show (a + 256 * b + 65536 * c) / 256 % 256 = b by omega])
  have c3 : fb_ct (fun k => (a + 256 * b + 65536 * c).testBit (8 + (8 + k))) 8 = fb_ct (fun k => c.testBit k) 8 := fb_ct_cong (fun k hk => by
    show (a + 256 * b + 65536 * c).testBit (8 + (8 + k)) = c.testBit k
    rw [d1, d1, show (2 : Nat) ^ 8 = 256 from rfl, d2 _ k hk, show (a + 256 * b + 65536 * c) / 256 / 256 % 256 = c by omega])
  rw [c1, c2, c3]
  omega
abbrev pcN (x : Nat) : Nat := fb_ct (fun k => x.testBit k) 24
set_option maxRecDepth 100000 in
theorem s_bitCount {σ : Sg} {x : Nat} {Q : Option Value → Sg → Prop} (hx : x < 2 ^ 24) (h : Q (some (.int (nI (pcN x)))) σ) : MetA mJ6_bitCount [.int (nI x)] σ Q := by
  refine MetA_of qJ6_bitCount (Nat.le_of_ble_eq_true rfl) ?_
  obtain ⟨a, b, c, ha, hb, hc, e⟩ : ∃ a b c, a < 256 ∧ b < 256 ∧ c < 256 ∧ x = a + 256 * b + 65536 * c := ⟨x % 256, x / 256 % 256, x / 65536, by omega, by omega, by omega, by omega⟩
  have ta := pq_t3 ⟨a, ha⟩
  have tb := pq_t3 ⟨b, hb⟩
  have tc := pq_t3 ⟨c, hc⟩
  dsimp only at ta tb tc
  have at41 : ∀ w : Int32, w = nI (pq3 a + pq3 b + 256 * (pq3 b + pq3 c) + 65536 * pq3 c) → V mJ6_bitCount 41 [(0, .int w)] [] σ Q := by
    intro w hw
    subst hw
    refine wpB_sd (stops := []) kJ6_bitCount 20 _ _ _ _ ?_
    refine fin_i h ?_
    have u := ush (k := pq3 a + pq3 b + 256 * (pq3 b + pq3 c) + 65536 * pq3 c) (j := 16) (by omega) (by omega)
    refine (congrArg (fun z => (nI (pq3 a + pq3 b + 256 * (pq3 b + pq3 c) + 65536 * pq3 c) + z) &&& 63) u).trans ?_
    show (nI _ + nI _) &&& nI 63 = _
    have q1 : (pq3 a + pq3 b + 256 * (pq3 b + pq3 c) + 65536 * pq3 c) / 2 ^ 16 = pq3 c := by omega
    rw [nI_add, show (63 : Nat) = 2 ^ 6 - 1 from rfl, fa_mask, q1]
    congr 1
    rw [e]
    unfold pcN
    rw [pc_split ha hb hc, ← ta.2.2.2.2.2, ← tb.2.2.2.2.2, ← tc.2.2.2.2.2]
    have := ta.2.2.2.2.1
    have := tb.2.2.2.2.1
    have := tc.2.2.2.2.1
    clear ta tb tc
    omega
  have at34 : ∀ w : Int32, w = nI (pq3 a + 256 * pq3 b + 65536 * pq3 c) → V mJ6_bitCount 34 [(0, .int w)] [] σ Q := by
    intro w hw
    subst hw
    refine wpB_sd (stops := [41]) kJ6_bitCount 20 _ _ _ _ ?_
    refine at41 _ ?_
    have u := ush (k := pq3 a + 256 * pq3 b + 65536 * pq3 c) (j := 8) (by omega) (by omega)
    refine (congrArg (fun z => nI (pq3 a + 256 * pq3 b + 65536 * pq3 c) + z) u).trans ?_
    rw [nI_add]
    congr 1
    omega
  have at24 : ∀ w : Int32, w = nI (pq2 a + 256 * pq2 b + 65536 * pq2 c) → V mJ6_bitCount 24 [(0, .int w)] [] σ Q := by
    intro w hw
    subst hw
    refine wpB_sd (stops := [34]) kJ6_bitCount 20 _ _ _ _ ?_
    refine at34 _ ?_
    have u := ush (k := pq2 a + 256 * pq2 b + 65536 * pq2 c) (j := 4) (by omega) (by omega)
    refine (congrArg (fun z => (nI (pq2 a + 256 * pq2 b + 65536 * pq2 c) + z) &&& 252645135) u).trans ?_
    show (nI _ + nI _) &&& nI 252645135 = _
    rw [nI_add, fa_and]
    congr 1
    have k1 := pq_t4 ⟨pq2 a, by omega⟩ ⟨pq2 b % 16, by omega⟩
    have k2 := pq_t4 ⟨pq2 b, by omega⟩ ⟨pq2 c % 16, by omega⟩
    dsimp only at k1 k2
    rw [and24 (a := pq2 a + pq2 a / 16 + 16 * (pq2 b % 16)) (b := pq2 b + pq2 b / 16 + 16 * (pq2 c % 16)) (c := pq2 c + pq2 c / 16) (m := 15) (by omega) (by omega) (by omega) (by omega) (by omega) rfl, k1, k2]
    rfl
  have at10 : ∀ w : Int32, w = nI (pq1 a + 256 * pq1 b + 65536 * pq1 c) → V mJ6_bitCount 10 [(0, .int w)] [] σ Q := by
    intro w hw
    subst hw
    refine wpB_sd (stops := [24]) kJ6_bitCount 20 _ _ _ _ ?_
    refine at24 _ ?_
    have u := ush (k := pq1 a + 256 * pq1 b + 65536 * pq1 c) (j := 2) (by omega) (by omega)
    refine (congrArg (fun z => (nI (pq1 a + 256 * pq1 b + 65536 * pq1 c) &&& 858993459) + (z &&& 858993459)) u).trans ?_
    show (nI _ &&& nI 858993459) + (nI _ &&& nI 858993459) = _
    rw [fa_and, fa_and, nI_add]
    congr 1
    have k1 := pq_t2 ⟨pq1 a, by omega⟩ ⟨pq1 b % 4, by omega⟩
    have k2 := pq_t2 ⟨pq1 b, by omega⟩ ⟨pq1 c % 4, by omega⟩
    dsimp only at k1 k2
    rw [and24 (a := pq1 a) (b := pq1 b) (c := pq1 c) (m := 51) (by omega) (by omega) (by omega) (by omega) rfl rfl, and24 (y := (pq1 a + 256 * pq1 b + 65536 * pq1 c) / 2 ^ 2) (a := pq1 a / 4 + 64 * (pq1 b % 4)) (b := pq1 b / 4 + 64 * (pq1 c % 4)) (c := pq1 c / 4) (m := 51) (by omega) (by omega) (by omega) (by omega) (by omega) rfl, k1, k2]
    unfold pq2
    omega
  refine wpB_sd (stops := [10]) kJ6_bitCount 20 _ _ _ _ ?_
  refine at10 _ ?_
  have u := ush (k := x) (j := 1) (by omega) (by omega)
  refine (congrArg (fun z => nI x - (z &&& 1431655765)) u).trans ?_
  show nI x - (nI _ &&& nI 1431655765) = _
  have k1 := pq_t1 ⟨a, ha⟩ ⟨b % 2, by omega⟩
  have k2 := pq_t1 ⟨b, hb⟩ ⟨c % 2, by omega⟩
  dsimp only at k1 k2
  rw [fa_and, and24 (y := x / 2 ^ 1) (a := a / 2 + 128 * (b % 2)) (b := b / 2 + 128 * (c % 2)) (c := c / 2) (m := 85) (by omega) (by omega) (by omega) (by omega) (by omega) rfl, k1, k2, pk_sub (by omega)]
  congr 1
  unfold pq1
  omega
set_option maxRecDepth 100000 in
theorem m_ones {σ : Sg} {x : Nat} {Q : Option Value → Sg → Prop} (hx : x < 2 ^ 24) (h : Q (some (.int (nI (pcN x)))) σ) : MetA mX8_ones [.int (nI x)] σ Q := by
  refine MetA_of qX8_ones (Nat.le_of_ble_eq_true rfl) ?_
  have loop : ∀ m k, k + m = 24 → V mX8_ones 4 [(0, .int (nI x)), (1, .int (nI (fb_ct (fun j => x.testBit j) k))), (2, .int (nI k))] [] σ Q := by
    intro m
    induction m with
    | zero =>
      intro k hk
      have hk : k = 24 := by omega
      subst hk
      refine wpB_sd (stops := [4]) kX8_ones 30 _ _ _ _ ?_
      refine br_t (by decide) ?_
      exact h
    | succ m ih =>
      intro k hk
      refine wpB_sd (stops := [4]) kX8_ones 30 _ _ _ _ ?_
      refine br_f (nI_ge (a := k) (b := 24) (by omega) (by omega)) ?_
      have nxt := ih (k + 1) (by omega)
      rw [fb_ct_succ, ← nI_1, ← nI_add] at nxt
      have e : nI (if x.testBit k = true then 1 else 0) = (nI x >>> (nI k &&& 31)) &&& 1 := by
        by_cases q : x.testBit k = true
        · rw [if_pos q, (gbit1 (by omega) (by omega)).mpr q]; rfl
        · rw [if_neg q, (gbit0 (by omega) (by omega)).mpr (by simpa using q)]; rfl
      rw [e] at nxt
      exact nxt
  refine wpB_sd (stops := [4]) kX8_ones 30 _ _ _ _ ?_
  exact loop 24 0 rfl
