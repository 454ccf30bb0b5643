/-! the text of a land: what is to be read -/
abbrev Tx : Type := Nat → Nat
def spn (P : Nat → Bool) (T : Tx) (len p : Nat) : Nat := p + fa_first (fun i => !(P (T (p + i)))) (len - p)
theorem spn_ge {P : Nat → Bool} {T : Tx} {len p : Nat} : p ≤ spn P T len p := Nat.le_add_right _ _
theorem spn_le {P : Nat → Bool} {T : Tx} {len p : Nat} (h : p ≤ len) : spn P T len p ≤ len := by
  have := fa_first_le (fun i => !(P (T (p + i)))) (len - p)
  unfold spn; omega
theorem spn_in {P : Nat → Bool} {T : Tx} {len p j : Nat} (h1 : p ≤ j) (h2 : j < spn P T len p) : P (T j) = true := by
  have := fa_first_no (fun i => !(P (T (p + i)))) (len - p) (j - p) (by unfold spn at h2; omega)
  simp only [Bool.not_eq_false'] at this
  rw [show p + (j - p) = j by omega] at this
  exact this
theorem spn_end {P : Nat → Bool} {T : Tx} {len p : Nat} (h : p ≤ len) (h2 : spn P T len p < len) : P (T (spn P T len p)) = false := by
  have := fa_first_yes (fun i => !(P (T (p + i)))) (len - p) (by unfold spn at h2; omega)
  simp only [Bool.not_eq_true'] at this
  exact this
theorem spn_eq {P : Nat → Bool} {T : Tx} {len p e : Nat} (h1 : p ≤ e) (h2 : e ≤ len) (h3 : ∀ j, p ≤ j → j < e → P (T j) = true) (h4 : e = len ∨ P (T e) = false) : spn P T len p = e := by
  rcases Nat.lt_trichotomy (spn P T len p) e with q | q | q
  · have := spn_end (P := P) (T := T) (len := len) (p := p) (by omega) (by omega)
    rw [h3 _ spn_ge q] at this
    exact absurd this (by decide)
  · exact q
  · rcases h4 with z | z
    · have := spn_le (P := P) (T := T) (len := len) (p := p) (by omega)
      omega
    · rw [spn_in h1 q] at z
      exact absurd z (by decide)
def isB (t : Nat) : Bool := decide (t = 32)
def isL (t : Nat) : Bool := decide (97 ≤ t ∧ t ≤ 122)
def isD (t : Nat) : Bool := decide (48 ≤ t ∧ t ≤ 57)
def bl (T : Tx) (len p : Nat) : Nat := spn isB T len p
def lt (T : Tx) (len p : Nat) : Nat := spn isL T len p
def dgs (T : Tx) (len p : Nat) : Nat := spn isD T len p
theorem bl_ge {T : Tx} {len p : Nat} : p ≤ bl T len p := spn_ge
theorem bl_le {T : Tx} {len p : Nat} (h : p ≤ len) : bl T len p ≤ len := spn_le h
theorem lt_ge {T : Tx} {len p : Nat} : p ≤ lt T len p := spn_ge
theorem lt_le {T : Tx} {len p : Nat} (h : p ≤ len) : lt T len p ≤ len := spn_le h
theorem dgs_ge {T : Tx} {len p : Nat} : p ≤ dgs T len p := spn_ge
theorem dgs_le {T : Tx} {len p : Nat} (h : p ≤ len) : dgs T len p ≤ len := spn_le h
theorem bl_bl {T : Tx} {len p : Nat} (h : p ≤ len) : bl T len (bl T len p) = bl T len p := by
  have hl := bl_le (T := T) h
  refine spn_eq (Nat.le_refl _) hl (fun j a b => by omega) ?_
  rcases Nat.lt_or_ge (bl T len p) len with q | q
  · exact Or.inr (spn_end h q)
  · exact Or.inl (by omega)
/-- a number of the figures from s on, n of them -/
def nmV (T : Tx) (s : Nat) : Nat → Nat
  | 0 => 0
  | n + 1 => nmV T s n * 10 + (T (s + n) - 48)
theorem nmV_le {T : Tx} {s : Nat} : ∀ {n : Nat}, (∀ i, i < n → isD (T (s + i)) = true) → nmV T s n < 10 ^ n
  | 0, _ => by simp [nmV]
  | n + 1, h => by
    have ih := nmV_le (T := T) (s := s) (n := n) (fun i hi => h i (by omega))
    have hd := h n (by omega)
    unfold isD at hd
    rw [decide_eq_true_eq] at hd
    rw [nmV, Nat.pow_succ]
    omega
abbrev Fl : Type := Option (Nat × Nat)
abbrev Rz (α : Type) : Type := Sum (Nat × Nat) α
def numS (T : Tx) (len p lo hi : Nat) : Rz (Nat × Nat) :=
  if dgs T len (bl T len p) = bl T len p then .inl (1, bl T len p)
  else if 3 < dgs T len (bl T len p) - bl T len p ∨ nmV T (bl T len p) (dgs T len (bl T len p) - bl T len p) < lo ∨ hi ≤ nmV T (bl T len p) (dgs T len (bl T len p) - bl T len p) then .inl (2, bl T len p)
  else .inr (nmV T (bl T len p) (dgs T len (bl T len p) - bl T len p), dgs T len (bl T len p))
theorem numS_in {T : Tx} {len p lo hi v e : Nat} (h : p ≤ len) (hn : numS T len p lo hi = .inr (v, e)) : lo ≤ v ∧ v < hi ∧ p < e ∧ e ≤ len := by
  unfold numS at hn
  split at hn
  · exact absurd hn (by simp)
  · split at hn
    · exact absurd hn (by simp)
    · next h1 h2 =>
      simp only [Sum.inr.injEq, Prod.mk.injEq] at hn
      obtain ⟨rfl, rfl⟩ := hn
      have a1 := bl_ge (T := T) (len := len) (p := p)
      have a2 := bl_le (T := T) h
      have a3 := dgs_ge (T := T) (len := len) (p := bl T len p)
      have a4 := dgs_le (T := T) a2
      exact ⟨by omega, by omega, by omega, a4⟩
def endS (T : Tx) (len p : Nat) : Rz Nat := if bl T len p < len ∧ T (bl T len p) = 59 then .inr (bl T len p + 1) else .inl (1, bl T len p)
abbrev IsWd (T : Tx) (s e : Nat) (w : List Nat) : Prop := e = s + w.length ∧ ∀ i, i < w.length → T (s + i) = w.getD i 0
def wHarvest : List Nat := [104, 97, 114, 118, 101, 115, 116]
def wHouse : List Nat := [104, 111, 117, 115, 101]
def wJar : List Nat := [106, 97, 114]
def wPlain : List Nat := [112, 108, 97, 105, 110]
def wPlum : List Nat := [112, 108, 117, 109]
def wGlass : List Nat := [103, 108, 97, 115, 115]
def hvA (A : St) (v : Nat) : St := stu (stu A 10 (A 12 6) v) 12 6 (A 12 6 + 1)
def hoA (A : St) (w s : Nat) : St := stu (stu (stu (stu A 9 (A 12 5) w) 7 (A 12 5) s) 8 (A 12 5) 0) 12 5 (A 12 5 + 1)
def hvS (T : Tx) (len : Nat) : Nat → Nat → St → Rz (Nat × St)
  | 0, p, A => if bl T len p < len ∧ T (bl T len p) = 44 then .inl (1, bl T len p) else .inr (bl T len p, A)
  | n + 1, p, A => if bl T len p < len ∧ T (bl T len p) = 44 then (match numS T len (bl T len p + 1) 0 100 with
      | .inl f => .inl f
      | .inr (v, e) => hvS T len n e (hvA A v)) else .inr (bl T len p, A)
def knd (T : Tx) (s e : Nat) : Option Nat := if IsWd T s e wPlain then some 0 else if IsWd T s e wPlum then some 1 else if IsWd T s e wGlass then some 2 else none
/-- a clause up to its end sign -/
def bdHv (T : Tx) (len p : Nat) (A : St) : Rz (Nat × St) := match numS T len p 0 100 with
  | .inl f => .inl f
  | .inr (v, e) => hvS T len 7 e (hvA A v)
def bdHo (T : Tx) (len p : Nat) (A : St) : Rz (Nat × St) := match numS T len p 0 100 with
  | .inl f => .inl f
  | .inr (w, e) => match numS T len e 0 21 with
    | .inl f => .inl f
    | .inr (s, e2) => .inr (e2, hoA A w s)
def bdJr (T : Tx) (len p : Nat) (A : St) : Rz (Nat × St) := match knd T (bl T len p) (lt T len (bl T len p)) with
  | none => .inl (1, bl T len p)
  | some k => match numS T len (lt T len (bl T len p)) 0 (A 12 5) with
    | .inl f => .inl f
    | .inr (h, e1) => match numS T len e1 0 100 with
      | .inl f => .inl f
      | .inr (d, e2) => match numS T len e2 1 100 with
        | .inl f => .inl f
        | .inr (q, e3) => match numS T len e3 0 100 with
          | .inl f => .inl f
          | .inr (kp, e4) => .inr (e4, addA A k h d q kp 0)
def bdS (T : Tx) (len p : Nat) (A : St) : Rz (Nat × St) :=
  if IsWd T p (lt T len p) wHarvest then (if 0 < A 12 6 then .inl (3, p) else bdHv T len (lt T len p) A)
  else if IsWd T p (lt T len p) wHouse then (if 4 ≤ A 12 5 then .inl (3, p) else bdHo T len (lt T len p) A)
  else if IsWd T p (lt T len p) wJar then (if 12 ≤ A 12 0 then .inl (3, p) else bdJr T len (lt T len p) A)
  else .inl (1, p)
def fnS (T : Tx) (len : Nat) (r : Rz (Nat × St)) : Rz (Nat × St) := match r with
  | .inl f => .inl f
  | .inr (e, B) => match endS T len e with
    | .inl f => .inl f
    | .inr q => .inr (q, B)
def txS (T : Tx) (len : Nat) : Nat → Nat → St → Rz St
  | 0, _, A => .inr A
  | n + 1, p, A => if bl T len p < len then (match fnS T len (bdS T len (bl T len p) A) with
      | .inl f => .inl f
      | .inr (q, B) => txS T len n q B) else .inr A
def clrA (A : St) : St := fun f k => if f = 12 ∧ (k = 0 ∨ k = 1 ∨ k = 5 ∨ k = 6) then 0 else A f k
/-- a land that is being told -/
def WN (A : St) : Prop := WL A ∧ A 12 0 ≤ 12 ∧ A 12 1 = 0 ∧ (∀ j, j < A 12 0 → A 5 j = 0 ∧ A 6 j = 0) ∧ ∀ h, h < A 12 5 → A 8 h = 0
theorem clr_WN {A : St} (h : WL A) : WN (clrA A) := by
  obtain ⟨⟨j1, j2, j3⟩, h1, h2, h3, h4, h5, h6, h7⟩ := h
  have e0 : clrA A 12 0 = 0 := rfl
  have e1 : clrA A 12 1 = 0 := rfl
  have e5 : clrA A 12 5 = 0 := rfl
  have e6 : clrA A 12 6 = 0 := rfl
  refine ⟨⟨⟨by omega, by omega, fun j hj => by omega⟩, by omega, by omega, h3, h4, fun k hk => by omega, fun k hk => by omega, fun j hj => by omega⟩, by omega, e1, fun j hj => by omega, fun k hk => by omega⟩
theorem hvA_WN {A : St} (h : WN A) {v : Nat} (hv : v < 100) (h6 : A 12 6 < 8) : WN (hvA A v) := by
  obtain ⟨⟨⟨j1, j2, j3⟩, g1, g2, g3, g4, g5, g6, g7⟩, k1, k2, k3, k4⟩ := h
  have e : ∀ f k, f ≠ 10 → ¬ (f = 12 ∧ k = 6) → hvA A v f k = A f k := fun f k a b => by
    unfold hvA stu
    rw [if_neg b, if_neg (fun q => a q.1)]
  have e6 : hvA A v 12 6 = A 12 6 + 1 := stu_s
  refine ⟨⟨⟨?_, ?_, ?_⟩, ?_, ?_, ?_, ?_, ?_, ?_, ?_⟩, ?_, ?_, ?_, ?_⟩
  · rw [e _ _ (by omega) (by omega)]; exact j1
  · rw [e _ _ (by omega) (by omega)]; exact j2
  · rw [e _ _ (by omega) (by omega)]
    intro j hj
    simp only [e _ _ (show (0 : Nat) ≠ 10 by omega) (show ¬ ((0 : Nat) = 12 ∧ j = 6) by omega), e _ _ (show (1 : Nat) ≠ 10 by omega) (show ¬ ((1 : Nat) = 12 ∧ j = 6) by omega), e _ _ (show (2 : Nat) ≠ 10 by omega) (show ¬ ((2 : Nat) = 12 ∧ j = 6) by omega), e _ _ (show (3 : Nat) ≠ 10 by omega) (show ¬ ((3 : Nat) = 12 ∧ j = 6) by omega), e _ _ (show (4 : Nat) ≠ 10 by omega) (show ¬ ((4 : Nat) = 12 ∧ j = 6) by omega), e _ _ (show (5 : Nat) ≠ 10 by omega) (show ¬ ((5 : Nat) = 12 ∧ j = 6) by omega), e _ _ (show (6 : Nat) ≠ 10 by omega) (show ¬ ((6 : Nat) = 12 ∧ j = 6) by omega), e _ _ (show (12 : Nat) ≠ 10 by omega) (show ¬ ((12 : Nat) = 12 ∧ (1 : Nat) = 6) by omega)]
    exact j3 j hj
  · rw [e _ _ (by omega) (by omega)]; exact g1
  · rw [e6]; omega
  · rw [e _ _ (by omega) (by omega)]; exact g3
  · rw [e _ _ (by omega) (by omega)]; exact g4
  · rw [e _ _ (by omega) (by omega)]
    intro k hk
    rw [e _ _ (by omega) (by omega), e _ _ (by omega) (by omega), e _ _ (by omega) (by omega)]
    exact g5 k hk
  · rw [e6]
    intro k hk
    by_cases q : k = A 12 6
    · unfold hvA; rw [stu_f (by omega), q, stu_s]; omega
    · unfold hvA; rw [stu_f (by omega), stu_k q]; exact g6 k (by omega)
  · rw [e _ _ (by omega) (by omega), e _ _ (by omega) (by omega)]
    intro j hj
    rw [e _ _ (by omega) (by omega)]
    exact g7 j hj
  · rw [e _ _ (by omega) (by omega)]; exact k1
  · rw [e _ _ (by omega) (by omega)]; exact k2
  · rw [e _ _ (by omega) (by omega)]
    intro j hj
    rw [e _ _ (by omega) (by omega), e _ _ (by omega) (by omega)]
    exact k3 j hj
  · rw [e _ _ (by omega) (by omega)]
    intro k hk
    rw [e _ _ (by omega) (by omega)]
    exact k4 k hk
theorem hoA_WN {A : St} (h : WN A) {w s : Nat} (hw : w < 100) (hs : s < 21) (h5 : A 12 5 < 4) : WN (hoA A w s) := by
  obtain ⟨⟨⟨j1, j2, j3⟩, g1, g2, g3, g4, g5, g6, g7⟩, k1, k2, k3, k4⟩ := h
  have e : ∀ f k, f ≠ 9 → f ≠ 7 → f ≠ 8 → ¬ (f = 12 ∧ k = 5) → hoA A w s f k = A f k := fun f k a b c d => by
    unfold hoA stu
    rw [if_neg d, if_neg (fun q => c q.1), if_neg (fun q => b q.1), if_neg (fun q => a q.1)]
  have e5 : hoA A w s 12 5 = A 12 5 + 1 := stu_s
  have eo : ∀ f k, k ≠ A 12 5 → f ≠ 12 → hoA A w s f k = A f k := fun f k a b => by
    unfold hoA stu
    rw [if_neg (fun q => b q.1), if_neg (fun q => a q.2), if_neg (fun q => a q.2), if_neg (fun q => a q.2)]
  have n9 : hoA A w s 9 (A 12 5) = w := by unfold hoA; rw [stu_f (by omega), stu_f (by omega), stu_f (by omega), stu_s]
  have n7 : hoA A w s 7 (A 12 5) = s := by unfold hoA; rw [stu_f (by omega), stu_f (by omega), stu_s]
  have n8 : hoA A w s 8 (A 12 5) = 0 := by unfold hoA; rw [stu_f (by omega), stu_s]
  have ea : ∀ f, f ≤ 6 → hoA A w s f = A f := fun f hf => funext fun k => e f k (by omega) (by omega) (by omega) (by omega)
  have e0 : hoA A w s 12 0 = A 12 0 := e _ _ (by omega) (by omega) (by omega) (by omega)
  have e1 : hoA A w s 12 1 = A 12 1 := e _ _ (by omega) (by omega) (by omega) (by omega)
  refine ⟨⟨⟨?_, ?_, ?_⟩, ?_, ?_, ?_, ?_, ?_, ?_, ?_⟩, ?_, ?_, ?_, ?_⟩
  · rw [e0]; exact j1
  · rw [e1]; exact j2
  · rw [e0, e1, ea 0 (by omega), ea 1 (by omega), ea 2 (by omega), ea 3 (by omega), ea 4 (by omega), ea 5 (by omega), ea 6 (by omega)]
    exact j3
  · rw [e5]; omega
  · rw [e _ _ (by omega) (by omega) (by omega) (by omega)]; exact g2
  · rw [e _ _ (by omega) (by omega) (by omega) (by omega)]; exact g3
  · rw [e _ _ (by omega) (by omega) (by omega) (by omega)]; exact g4
  · rw [e5]
    intro k hk
    by_cases q : k = A 12 5
    · subst q; rw [n9, n7, n8]; omega
    · rw [eo _ _ q (by omega), eo _ _ q (by omega), eo _ _ q (by omega)]
      exact g5 k (by omega)
  · rw [e _ _ (by omega) (by omega) (by omega) (by omega)]
    intro k hk
    rw [e _ _ (by omega) (by omega) (by omega) (by omega)]
    exact g6 k hk
  · rw [e0, ea 1 (by omega), e5]
    intro j hj
    have := g7 j hj
    omega
  · rw [e0]; exact k1
  · rw [e1]; exact k2
  · rw [e0, ea 5 (by omega), ea 6 (by omega)]; exact k3
  · rw [e5]
    intro k hk
    by_cases q : k = A 12 5
    · subst q; exact n8
    · rw [eo _ _ q (by omega)]; exact k4 k (by omega)
theorem adA_WN {A : St} (h : WN A) {k hh d q kp : Nat} (hk : k ≤ 2) (hh5 : hh < A 12 5) (hd : d < 100) (hq : q < 100) (hkp : kp < 100) (h0 : A 12 0 < 12) : WN (addA A k hh d q kp 0) := by
  obtain ⟨⟨⟨j1, j2, j3⟩, g1, g2, g3, g4, g5, g6, g7⟩, k1, k2, k3, k4⟩ := h
  have hf : ∀ f j, 6 < f → ¬ (f = 12 ∧ j = 0) → addA A k hh d q kp 0 f j = A f j := fun f j a b => addA_f a b
  have e5 := hf 12 5 (by omega) (by omega)
  have e1 := hf 12 1 (by omega) (by omega)
  have hn : addA A k hh d q kp 0 12 0 = A 12 0 + 1 := addA_n
  have n0 : addA A k hh d q kp 0 0 (A 12 0) = k := by
    unfold addA
    exact (if_neg (by omega)).trans (if_pos ⟨rfl, by omega⟩)
  have n1 : addA A k hh d q kp 0 1 (A 12 0) = hh := by
    unfold addA
    exact (if_neg (by omega)).trans (if_pos ⟨rfl, by omega⟩)
  have n2 : addA A k hh d q kp 0 2 (A 12 0) = d := by
    unfold addA
    exact (if_neg (by omega)).trans (if_pos ⟨rfl, by omega⟩)
  have n3 : addA A k hh d q kp 0 3 (A 12 0) = q := by
    unfold addA
    exact (if_neg (by omega)).trans (if_pos ⟨rfl, by omega⟩)
  have n4 : addA A k hh d q kp 0 4 (A 12 0) = kp := by
    unfold addA
    exact (if_neg (by omega)).trans (if_pos ⟨rfl, by omega⟩)
  have n5 : addA A k hh d q kp 0 5 (A 12 0) = 0 := by
    unfold addA
    exact (if_neg (by omega)).trans (if_pos ⟨rfl, by omega⟩)
  have n6 : addA A k hh d q kp 0 6 (A 12 0) = 0 := by
    unfold addA
    exact (if_neg (by omega)).trans (if_pos ⟨rfl, by omega⟩)
  refine ⟨⟨⟨by rw [hn]; omega, by rw [e1]; exact j2, ?_⟩, by rw [e5]; exact g1, by rw [hf _ _ (by omega) (by omega)]; exact g2, by rw [hf _ _ (by omega) (by omega)]; exact g3, by rw [hf _ _ (by omega) (by omega)]; exact g4, ?_, ?_, ?_⟩, by rw [hn]; omega, by rw [e1]; exact k2, ?_, ?_⟩
  · rw [hn, e1]
    intro j hj
    by_cases z : j = A 12 0
    · subst z
      rw [n0, n1, n2, n3, n4, n5, n6]
      omega
    · rw [addA_j (by omega) z, addA_j (by omega) z, addA_j (by omega) z, addA_j (by omega) z, addA_j (by omega) z, addA_j (by omega) z, addA_j (by omega) z]
      exact j3 j (by omega)
  · rw [e5]
    intro h hh
    rw [hf _ _ (by omega) (by omega), hf _ _ (by omega) (by omega), hf _ _ (by omega) (by omega)]
    exact g5 h hh
  · rw [hf 12 6 (by omega) (by omega)]
    intro h hh
    rw [hf _ _ (by omega) (by omega)]
    exact g6 h hh
  · rw [hn, e5]
    intro j hj
    by_cases z : j = A 12 0
    · subst z
      rw [n1]; exact hh5
    · rw [addA_j (by omega) z]; exact g7 j (by omega)
  · rw [hn]
    intro j hj
    by_cases z : j = A 12 0
    · subst z
      exact ⟨n5, n6⟩
    · rw [addA_j (by omega) z, addA_j (by omega) z]; exact k3 j (by omega)
  · rw [e5]
    intro h hh
    rw [hf _ _ (by omega) (by omega)]
    exact k4 h hh
