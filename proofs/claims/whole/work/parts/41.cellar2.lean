/-! Cellar: sets, rows, copies -/
theorem RCel.fr {b : Nat} {σ σ' : Sg} {A : St} (h : RCel b σ A) (hf : ∀ c, b ≤ c → c ≤ b + 6 → σ' c = σ c) : RCel b σ' A := by
  obtain ⟨h1, h2, h3⟩ := h
  refine ⟨?_, ?_, fun j hj => ?_⟩
  · rw [hf b (by omega) (by omega)]; exact h1
  · rw [hf b (by omega) (by omega)]; exact h2
  · rw [hf (b + 1) (by omega) (by omega), hf (b + 2) (by omega) (by omega), hf (b + 3) (by omega) (by omega), hf (b + 4) (by omega) (by omega), hf (b + 5) (by omega) (by omega), hf (b + 6) (by omega) (by omega)]
    exact h3 j hj
def ofA (A : St) (hh : Nat) : Nat → Nat := fun j => if A 1 j = hh ∧ A 6 j = 0 then 1 else 0
def opA (A : St) (hh l y : Nat) : Nat → Nat := fun j => if (A 1 j = hh ∧ A 6 j = 0) ∧ mayB l (A 2 j) y = true then 1 else 0
theorem bset_s0 {p : Nat → Nat} {n : Nat} (h : ¬ p n = 1) : bset p (n + 1) = bset p n := by rw [bset, if_neg h, Nat.add_zero]
theorem bset_s1 {p : Nat → Nat} {n : Nat} (h : p n = 1) (hn : n < 31) : nI (bset p n) ||| (1 <<< (nI n &&& 31)) = nI (bset p (n + 1)) := by
  rw [one_shl hn, fa_or, bset_or']
  congr 1
  apply bset_congr
  intro k hk
  by_cases e : k = n <;> simp [e, h]
set_option maxRecDepth 100000 in
theorem s_setOf {σ : Sg} {A : St} {b hh : Nat} {Q : Option Value → Sg → Prop} (hb : b = 7 ∨ b = 20) (hR : RCel b σ A) (hW : WJ A) (hh2 : hh < 4) (h : Q (some (.int (nI (bset (ofA A hh) (A 12 0))))) σ) : MetA mX1_setOf [.ref b, .int (nI hh)] σ Q := by
  refine MetA_of qX1_setOf (Nat.le_of_ble_eq_true rfl) ?_
  have hm := hW.1
  have h0 := hR.1
  have loop : ∀ n i, i + n = A 12 0 → V mX1_setOf 4 [(0, .ref b), (1, .int (nI hh)), (2, .int (nI (bset (ofA A hh) i))), (3, .int (nI i))] [] σ Q := by
    intro n
    induction n with
    | zero =>
      intro i hi
      have hi : i = A 12 0 := by omega
      subst hi
      refine wpB_sd (stops := [4]) kX1_setOf 20 _ _ _ _ ?_
      rcases hb with rfl | rfl <;>
      · refine br_t (by rw [h0]; exact nI_le (by omega) (by omega)) ?_
        exact h
    | succ n ih =>
      intro i hi
      have hj : i < A 12 0 := by omega
      have ih := ih (i + 1) (by omega)
      have hin : nI i + 1 = nI (i + 1) := nI_1 i
      refine wpB_sd (stops := [4]) kX1_setOf 60 _ _ _ _ ?_
      rcases hb with rfl | rfl <;>
      · refine br_f (by rw [h0]; exact nI_ge hj (by omega)) ?_
        refine s_isOf (by first | exact Or.inl rfl | exact Or.inr rfl) hR hW hj hh2 ?_
        refine ⟨fun g => ?_, fun g => ?_⟩
        · rw [bset_s0 (by simp [ofA, bI_0.mp g]), ← hin] at ih
          exact ih
        · have g : A 1 i = hh ∧ A 6 i = 0 := by
            by_cases q : A 1 i = hh ∧ A 6 i = 0
            · exact q
            · exact absurd (bI_f q) g
          rw [← bset_s1 (by simp [ofA, g]) (by omega), ← hin] at ih
          exact ih
  refine wpB_sd (stops := [4]) kX1_setOf 20 _ _ _ _ ?_
  exact loop (A 12 0) 0 (by omega)
set_option maxRecDepth 100000 in
theorem s_setToOpen {σ : Sg} {A : St} {b hh l y : Nat} {Q : Option Value → Sg → Prop} (hb : b = 7 ∨ b = 20) (hR : RCel b σ A) (hW : WJ A) (hh2 : hh < 4) (hl : l ≤ 2) (hy2 : y < 2 ^ 21) (h : Q (some (.int (nI (bset (opA A hh l y) (A 12 0))))) σ) : MetA mX1_setToOpen [.ref b, .int (nI hh), .int (nI l), .int (nI y)] σ Q := by
  refine MetA_of qX1_setToOpen (Nat.le_of_ble_eq_true rfl) ?_
  have hm := hW.1
  have h0 := hR.1
  have loop : ∀ n i, i + n = A 12 0 → V mX1_setToOpen 6 [(0, .ref b), (1, .int (nI hh)), (2, .int (nI l)), (3, .int (nI y)), (4, .int (nI (bset (opA A hh l y) i))), (5, .int (nI i))] [] σ Q := by
    intro n
    induction n with
    | zero =>
      intro i hi
      have hi : i = A 12 0 := by omega
      subst hi
      refine wpB_sd (stops := [6]) kX1_setToOpen 20 _ _ _ _ ?_
      rcases hb with rfl | rfl <;>
      · refine br_t (by rw [h0]; exact nI_le (by omega) (by omega)) ?_
        exact h
    | succ n ih =>
      intro i hi
      have hj : i < A 12 0 := by omega
      have ih := ih (i + 1) (by omega)
      have hin : nI i + 1 = nI (i + 1) := nI_1 i
      refine wpB_sd (stops := [6]) kX1_setToOpen 60 _ _ _ _ ?_
      rcases hb with rfl | rfl <;>
      · refine br_f (by rw [h0]; exact nI_ge hj (by omega)) ?_
        refine s_isOf (by first | exact Or.inl rfl | exact Or.inr rfl) hR hW hj hh2 ?_
        refine ⟨fun g => ?_, fun g => ?_⟩
        · rw [bset_s0 (by simp [opA, bI_0.mp g]), ← hin] at ih
          exact ih
        · have g : A 1 i = hh ∧ A 6 i = 0 := by
            by_cases q : A 1 i = hh ∧ A 6 i = 0
            · exact q
            · exact absurd (bI_f q) g
          refine s_mayBe (by first | exact Or.inl rfl | exact Or.inr rfl) hR hW hj hy2 hl ?_
          refine ⟨fun g2 => ?_, fun g2 => ?_⟩
          · rw [bset_s0 (by simp [opA, bI_0.mp g2]), ← hin] at ih
            exact ih
          · have g2 : mayB l (A 2 i) y = true := by
              by_cases q : mayB l (A 2 i) y = true
              · exact q
              · exact absurd (bI_f q) g2
            rw [← bset_s1 (by simp [opA, g, g2]) (by omega), ← hin] at ih
            exact ih
  refine wpB_sd (stops := [6]) kX1_setToOpen 20 _ _ _ _ ?_
  exact loop (A 12 0) 0 (by omega)
def lkL (A : St) (hh : Nat) : Nat → List Nat
  | 0 => []
  | n + 1 => if (lkL A hh n).length < 8 ∧ (A 1 n = hh ∧ A 6 n = 0) then lkL A hh n ++ [n] else lkL A hh n
theorem lkL_len (A : St) (hh : Nat) : ∀ n, (lkL A hh n).length ≤ 8
  | 0 => by simp [lkL]
  | n + 1 => by
    have := lkL_len A hh n
    rw [lkL]
    split
    · next h => rw [List.length_append, List.length_singleton]; omega
    · exact this
theorem lkL_full {A : St} {hh i : Nat} (h : 8 ≤ (lkL A hh i).length) : ∀ n, lkL A hh (i + n) = lkL A hh i
  | 0 => rfl
  | n + 1 => by
    rw [← Nat.add_assoc, lkL, lkL_full h n, if_neg (fun q => by omega)]
theorem lkL_mem {A : St} {hh : Nat} : ∀ {n j : Nat}, j ∈ lkL A hh n → j < n ∧ A 1 j = hh ∧ A 6 j = 0
  | 0, j, h => by simp [lkL] at h
  | n + 1, j, h => by
    rw [lkL] at h
    split at h
    · next hc =>
      rcases List.mem_append.mp h with q | q
      · have := lkL_mem q; exact ⟨by omega, this.2⟩
      · have : j = n := by simpa using q
        subst this; exact ⟨by omega, hc.2⟩
    · have := lkL_mem h; exact ⟨by omega, this.2⟩
set_option maxRecDepth 100000 in
set_option maxHeartbeats 1000000 in
theorem s_lookAt {σ : Sg} {A : St} {hh r : Nat} {Q : Option Value → Sg → Prop} (hr : r = 58 ∨ r = 76) (hR : RCel 7 σ A) (hW : WJ A) (hh2 : hh < 4) (h : ∀ σ', (∀ k, k < (lkL A hh (A 12 0)).length → σ' r k = nI ((lkL A hh (A 12 0)).getD k 0)) → FrC r r σ σ' → Q (some (.int (nI (lkL A hh (A 12 0)).length))) σ') : MetA mX1_lookAt [.ref 7, .int (nI hh), .ref r] σ Q := by
  refine MetA_of qX1_lookAt (Nat.le_of_ble_eq_true rfl) ?_
  have hm := hW.1
  have loop : ∀ n i σi, i + n = A 12 0 → (∀ k, k < (lkL A hh i).length → σi r k = nI ((lkL A hh i).getD k 0)) → FrC r r σ σi → V mX1_lookAt 5 [(0, .ref 7), (1, .int (nI hh)), (2, .ref r), (3, .int (nI (lkL A hh i).length)), (4, .int (nI i))] [] σi Q := by
    intro n
    induction n with
    | zero =>
      intro i σi hi hrow hf
      have hi : i = A 12 0 := by omega
      subst hi
      have hRi : RCel 7 σi A := hR.fr (fun c h1 h2 => hf c (by omega))
      have h0 := hRi.1
      refine wpB_sd (stops := [5]) kX1_lookAt 20 _ _ _ _ ?_
      rcases hr with rfl | rfl <;>
      · refine br_t (by rw [h0]; exact nI_le (by omega) (by omega)) ?_
        exact h _ hrow hf
    | succ n ih =>
      intro i σi hi hrow hf
      have hj : i < A 12 0 := by omega
      have hRi : RCel 7 σi A := hR.fr (fun c h1 h2 => hf c (by omega))
      have h0 := hRi.1
      have hl8 := lkL_len A hh i
      have hin : nI i + 1 = nI (i + 1) := nI_1 i
      have key : (lkL A hh i).length < 8 → (A 1 i = hh ∧ A 6 i = 0) → V mX1_lookAt 5 [(0, .ref 7), (1, .int (nI hh)), (2, .ref r), (3, .int (nI (lkL A hh i).length + 1)), (4, .int (nI i + 1))] [] (sgu σi r (lkL A hh i).length (nI i)) Q := by
        intro g g2
        have e : lkL A hh (i + 1) = lkL A hh i ++ [i] := by rw [lkL, if_pos ⟨g, g2⟩]
        have := ih (i + 1) (sgu σi r (lkL A hh i).length (nI i)) (by omega) (fun k hk => ?_) (fun c hc => ?_)
        · rw [e, List.length_append, List.length_singleton, ← nI_1, ← hin] at this
          exact this
        · rw [e, List.length_append, List.length_singleton] at hk
          rw [e]
          by_cases q : k = (lkL A hh i).length
          · subst q; rw [sgu_s]; simp
          · rw [sgu_k q, hrow k (by omega)]
            simp [List.getElem?_append, show k < (lkL A hh i).length by omega]
        · rw [sgu_c (by omega)]; exact hf c hc
      refine wpB_sd (stops := [5]) kX1_lookAt 60 _ _ _ _ ?_
      rcases hr with rfl | rfl <;>
      · refine br_f (by rw [h0]; exact nI_ge hj (by omega)) ?_
        refine ⟨fun g => ?_, fun g => ?_⟩
        · have g : 8 ≤ (lkL A hh i).length := (nI_leI (a := 8) (by omega) (by omega)).mp g
          have e := lkL_full g (n + 1)
          rw [hi] at e
          rw [← e] at hrow
          have := h _ hrow hf
          rw [e] at this
          exact this
        · have g : (lkL A hh i).length < 8 := by
            have : ¬ 8 ≤ (lkL A hh i).length := fun q => g (nI_le (a := 8) q (by omega))
            omega
          refine s_isOf (Or.inl rfl) hRi hW hj hh2 ?_
          refine ⟨fun g2 => ?_, fun g2 => ?_⟩
          · have e : lkL A hh (i + 1) = lkL A hh i := by rw [lkL, if_neg (fun q => bI_0.mp g2 q.2)]
            have := ih (i + 1) σi (by omega) (by rw [e]; exact hrow) hf
            rw [e, ← hin] at this
            exact this
          · have g2 : A 1 i = hh ∧ A 6 i = 0 := by
              by_cases q : A 1 i = hh ∧ A 6 i = 0
              · exact q
              · exact absurd (bI_f q) g2
            exact ast (n := 8) rfl rfl g (key g g2)
  refine wpB_sd (stops := [5]) kX1_lookAt 20 _ _ _ _ ?_
  exact loop (A 12 0) 0 σ (by omega) (fun k hk => by simp [lkL] at hk) (fun c _ => rfl)

theorem addA_f {A : St} {k h d q kp y f j : Nat} (hf : 6 < f) (h2 : ¬ (f = 12 ∧ j = 0)) : addA A k h d q kp y f j = A f j := by
  unfold addA; rw [if_neg h2, if_neg (fun z => by omega)]
theorem addA_n {A : St} {k h d q kp y : Nat} : addA A k h d q kp y 12 0 = A 12 0 + 1 := by simp [addA]
theorem addA_j {A : St} {k h d q kp y f j : Nat} (hf : f ≤ 6) (hj : j ≠ A 12 0) : addA A k h d q kp y f j = A f j := by
  unfold addA; rw [if_neg (fun z => by omega), if_neg (fun z => hj z.1)]
theorem bit_off2 {a n : Nat} (ha : a < 2 ^ n) (hn : n < 31) : nI a &&& ~~~((1 : Int32) <<< (nI n &&& 31)) = nI a := by
  have := bit_off ha hn
  simpa using this
theorem RCel_add {b : Nat} {σ σ' : Sg} {A : St} {k h d q kp y : Nat} (hR : RCel b σ A)
    (e0 : σ' b 0 = nI (A 12 0 + 1)) (e7 : σ' b 7 = σ b 7)
    (g : ∀ f v, (f, v) ∈ [(0, k), (1, h), (2, d), (3, q), (4, kp), (5, y)] → σ' (b + 1 + f) (A 12 0) = nI v ∧ ∀ j, j ≠ A 12 0 → σ' (b + 1 + f) j = σ (b + 1 + f) j) : RCel b σ' (addA A k h d q kp y) := by
  refine ⟨by rw [e0, addA_n], ?_, fun j hj => ?_⟩
  · rw [e7, hR.2.1, addA_n]
    congr 1
    rw [bset_s0 (by simp [addA])]
    apply bset_congr
    intro i hi
    rw [addA_j (by omega) (by omega)]
  · rw [addA_n] at hj
    have g0 := g 0 k (by simp)
    have g1 := g 1 h (by simp)
    have g2 := g 2 d (by simp)
    have g3 := g 3 q (by simp)
    have g4 := g 4 kp (by simp)
    have g5 := g 5 y (by simp)
    by_cases hq : j = A 12 0
    · subst hq
      refine ⟨?_, ?_, ?_, ?_, ?_, ?_⟩
      · rw [show b + 1 = b + 1 + 0 from rfl, g0.1]; simp [addA]
      · rw [show b + 2 = b + 1 + 1 from rfl, g1.1]; simp [addA]
      · rw [show b + 3 = b + 1 + 2 from rfl, g2.1]; simp [addA]
      · rw [show b + 4 = b + 1 + 3 from rfl, g3.1]; simp [addA]
      · rw [show b + 5 = b + 1 + 4 from rfl, g4.1]; simp [addA]
      · rw [show b + 6 = b + 1 + 5 from rfl, g5.1]; simp [addA]
    · have hR3 := hR.2.2 j (by omega)
      rw [addA_j (by omega) hq, addA_j (by omega) hq, addA_j (by omega) hq, addA_j (by omega) hq, addA_j (by omega) hq, addA_j (by omega) hq]
      rw [← g0.2 j hq, ← show b + 1 + 1 = b + 2 from rfl, ← g1.2 j hq, ← show b + 1 + 2 = b + 3 from rfl, ← g2.2 j hq, ← show b + 1 + 3 = b + 4 from rfl, ← g3.2 j hq, ← show b + 1 + 4 = b + 5 from rfl, ← g4.2 j hq, ← show b + 1 + 5 = b + 6 from rfl, ← g5.2 j hq] at hR3
      exact hR3
set_option maxRecDepth 100000 in
set_option maxHeartbeats 1000000 in
theorem s_add {σ : Sg} {A : St} {b k hh d q kp y : Nat} {Q : Option Value → Sg → Prop} (hb : b = 7 ∨ b = 20) (hR : RCel b σ A) (hW : WJ A) (hn : A 12 0 < 24) (h : ∀ σ', RCel b σ' (addA A k hh d q kp y) → FrC b (b + 6) σ σ' → Q none σ') : MetA mX1_add [.ref b, .int (nI k), .int (nI hh), .int (nI d), .int (nI q), .int (nI kp), .int (nI y)] σ Q := by
  refine MetA_of qX1_add (Nat.le_of_ble_eq_true rfl) ?_
  refine wpB_sd (stops := []) kX1_add 100 _ _ _ _ ?_
  have h0 := hR.1
  have hg := hR.2.1
  have hbl := bset_lt (A 6) (A 12 0)
  rcases hb with rfl | rfl <;>
  · refine s_isFull (by first | exact Or.inl rfl | exact Or.inr rfl) hR hW ?_
    refine br_t (bI_f (by omega)) ?_
    refine ast (n := 24) (j := A 12 0) rfl h0 hn ?_
    refine ast (n := 24) (j := A 12 0) rfl h0 hn ?_
    refine ast (n := 24) (j := A 12 0) rfl h0 hn ?_
    refine ast (n := 24) (j := A 12 0) rfl h0 hn ?_
    refine ast (n := 24) (j := A 12 0) rfl h0 hn ?_
    refine ast (n := 24) (j := A 12 0) rfl h0 hn ?_
    refine h _ (RCel_add hR ?_ ?_ ?_) ?_
    · simp [sgu_at, h0, nI_1]
    · simp only [sgu_at]
      simp [h0, hg, bit_off2 hbl (show A 12 0 < 31 by omega)]
    · intro f v hfv
      simp only [List.mem_cons, Prod.mk.injEq, List.not_mem_nil, or_false] at hfv
      rcases hfv with ⟨rfl, rfl⟩ | ⟨rfl, rfl⟩ | ⟨rfl, rfl⟩ | ⟨rfl, rfl⟩ | ⟨rfl, rfl⟩ | ⟨rfl, rfl⟩ <;>
      · refine ⟨?_, fun j hj => ?_⟩
        · simp [sgu_at, h0, nI_clamp (show A 12 0 < 2 ^ 31 by omega)]
        · simp [sgu_at, h0, nI_clamp (show A 12 0 < 2 ^ 31 by omega), hj]
    · intro c hc
      funext i
      simp only [sgu_at]
      repeat rw [if_neg (by omega)]

def acB (a b n : Nat) : Bool := Nat.ble (a + 1) NC && Nat.beq (shp a).1 1 && Nat.ble (b + 1) NC && Nat.beq (shp b).1 1 && Nat.ble n (shp a).2.1 && Nat.ble n (shp b).2.1 && Nat.ble n 2147483647
theorem acok {a b n : Nat} {m : Int32} (h : acB a b n = true) (hm : m = nI n) : acOK a b 0 0 m := by
  simp only [acB, Bool.and_eq_true] at h
  obtain ⟨⟨⟨⟨⟨⟨h1, h2⟩, h3⟩, h4⟩, h5⟩, h6⟩, h7⟩ := h
  have h7 := Nat.le_of_ble_eq_true h7
  have e0 : (0 : Int32).toNatClampNeg = 0 := by decide
  rw [hm]
  refine ⟨⟨Nat.le_of_ble_eq_true h1, Nat.eq_of_beq_eq_true h2⟩, ⟨Nat.le_of_ble_eq_true h3, Nat.eq_of_beq_eq_true h4⟩, by decide, by decide, nI_pos (by omega), ?_, ?_⟩
  · rw [e0, nI_clamp (by omega)]; have := Nat.le_of_ble_eq_true h5; omega
  · rw [e0, nI_clamp (by omega)]; have := Nat.le_of_ble_eq_true h6; omega
theorem cp_in {f g : Nat → Int32} {m : Int32} {n j : Nat} (hm : m = nI n) (hn : n < 2 ^ 31) (hj : j < n) : va_cpy f g (0 : Int32).toNatClampNeg (0 : Int32).toNatClampNeg m.toNatClampNeg j = f j := by
  have e0 : (0 : Int32).toNatClampNeg = 0 := by decide
  rw [e0, hm, nI_clamp hn, pk_cpy_in (by omega) (by omega)]
  simp
set_option maxRecDepth 100000 in
set_option maxHeartbeats 1000000 in
theorem s_copyC {σ : Sg} {A : St} {d s : Nat} {Q : Option Value → Sg → Prop} (hb : (d = 20 ∧ s = 7) ∨ (d = 7 ∧ s = 20) ∨ (d = 34 ∧ s = 7) ∨ (d = 47 ∧ s = 7) ∨ (d = 7 ∧ s = 34) ∨ (d = 7 ∧ s = 47)) (hR : RCel s σ A) (hW : A 12 0 ≤ 24) (h : ∀ σ', RCel d σ' A → FrC d (d + 6) σ σ' → Q none σ') : MetA mX1_copyFrom [.ref d, .ref s] σ Q := by
  refine MetA_of qX1_copyFrom (Nat.le_of_ble_eq_true rfl) ?_
  refine wpB_sd (stops := []) kX1_copyFrom 100 _ _ _ _ ?_
  obtain ⟨h0, h7, h3⟩ := hR
  rcases hb with ⟨rfl, rfl⟩ | ⟨rfl, rfl⟩ | ⟨rfl, rfl⟩ | ⟨rfl, rfl⟩ | ⟨rfl, rfl⟩ | ⟨rfl, rfl⟩ <;>
  · refine ⟨acok (n := 24) rfl rfl, ?_⟩
    refine ⟨acok (n := 24) rfl rfl, ?_⟩
    refine ⟨acok (n := 24) rfl rfl, ?_⟩
    refine ⟨acok (n := 24) rfl rfl, ?_⟩
    refine ⟨acok (n := 24) rfl rfl, ?_⟩
    refine ⟨acok (n := 24) rfl rfl, ?_⟩
    refine h _ ⟨?_, ?_, fun j hj => ?_⟩ (fun c hc => ?_)
    · simp [sgu_at, sgc, h0]
    · simp [sgu_at, sgc, h7]
    · have h3 := h3 j hj
      have e : ∀ f g : Nat → Int32, va_cpy f g 0 0 24 j = f j := fun f g => by rw [pk_cpy_in (by omega) (by omega)]; simp
      refine ⟨?_, ?_, ?_, ?_, ?_, ?_⟩
      · simp [sgu_at, sgc, e]; exact h3.1
      · simp [sgu_at, sgc, e]; exact h3.2.1
      · simp [sgu_at, sgc, e]; exact h3.2.2.1
      · simp [sgu_at, sgc, e]; exact h3.2.2.2.1
      · simp [sgu_at, sgc, e]; exact h3.2.2.2.2.1
      · simp [sgu_at, sgc, e]; exact h3.2.2.2.2.2
    · rw [sgu_c (by omega)]
      repeat rw [sgc_ne (by omega)]
      rw [sgu_c (by omega)]
def swA (A : St) (a b : Nat) : St := stu (stu A 1 a (A 1 b)) 1 b (A 1 a)
set_option maxRecDepth 100000 in
theorem s_swap {σ : Sg} {A : St} {c a b : Nat} {Q : Option Value → Sg → Prop} (hb : c = 7 ∨ c = 20) (hR : RCel c σ A) (hW : WJ A) (ha : a < A 12 0) (hb2 : b < A 12 0) (hab : a < b) (h : ∀ σ', RCel c σ' (swA A a b) → FrC c (c + 6) σ σ' → Q none σ') : MetA mX1_swapOwners [.ref c, .int (nI a), .int (nI b)] σ Q := by
  refine MetA_of qX1_swapOwners (Nat.le_of_ble_eq_true rfl) ?_
  refine wpB_sd (stops := []) kX1_swapOwners 60 _ _ _ _ ?_
  have ea := (hR.2.2 a ha).2.1
  have eb := (hR.2.2 b hb2).2.1
  have hm := hW.1
  rcases hb with rfl | rfl <;>
  · refine s_hasY (by first | exact Or.inl rfl | exact Or.inr rfl) hR hW ha ?_
    refine br_f (by decide) ?_
    refine s_hasY (by first | exact Or.inl rfl | exact Or.inr rfl) hR hW hb2 ?_
    refine bn_f (by decide) ?_
    refine ⟨aok (n := 24) rfl rfl (by omega), nm_r (rdn (by omega) ea) ?_⟩
    refine ⟨aok (n := 24) rfl rfl (by omega), nm_r (rdn (by omega) eb) ?_⟩
    refine ast (n := 24) (j := a) rfl rfl (by omega) ?_
    refine ast (n := 24) (j := b) rfl rfl (by omega) ?_
    refine h _ ⟨?_, ?_, fun j hj => ?_⟩ (fun c hc => ?_)
    · rw [sgu_c (by omega), sgu_c (by omega)]; simpa [swA, stu] using hR.1
    · rw [sgu_c (by omega), sgu_c (by omega)]
      have e : (swA A a b) 6 = A 6 := by funext k; simp [swA, stu]
      rw [e]; simpa [swA, stu] using hR.2.1
    · have hj : j < A 12 0 := by simpa [swA, stu] using hj
      have h3 := hR.2.2 j hj
      refine ⟨?_, ?_, ?_, ?_, ?_, ?_⟩
      · rw [sgu_c (by omega), sgu_c (by omega)]; simpa [swA, stu] using h3.1
      · simp only [sgu_at, swA, stu]
        by_cases q : j = b
        · subst q; simp
        · by_cases q2 : j = a
          · subst q2; simp [q]
          · simp [q, q2]; exact h3.2.1
      · rw [sgu_c (by omega), sgu_c (by omega)]; simpa [swA, stu] using h3.2.2.1
      · rw [sgu_c (by omega), sgu_c (by omega)]; simpa [swA, stu] using h3.2.2.2.1
      · rw [sgu_c (by omega), sgu_c (by omega)]; simpa [swA, stu] using h3.2.2.2.2.1
      · rw [sgu_c (by omega), sgu_c (by omega)]; simpa [swA, stu] using h3.2.2.2.2.2
    · rw [sgu_c (by omega), sgu_c (by omega)]
