/-! what holds between two calls, on both sides -/
def Bd (n : Nat) (A : St) : Prop := A 12 1 ≤ 99 * n ∧ ∀ h, h < A 12 5 → A 8 h ≤ 198 * n
def CI (σ : Sg) (A B : St) (kp : Nat → Bool) (I : Nat → St) (hg : Nat) (hI : Nat → Nat) (T : Tx) (len : Nat) (ft : Int32) : Prop := CS σ A hg ∧ RCb σ B ∧ RX σ T len ∧ σ 55 4 = ft ∧ ∀ k, k ≤ 1 → σ 54 k = (if kp k = true then 1 else 0) ∧ (kp k = true → RLd (28 + 13 * k) σ (I k) ∧ σ (28 + 13 * k) 8 = nI (hI k))
def MI (σ : Sg) (A B : St) (kp : Nat → Bool) (I : Nat → St) (hg : Nat) (hI : Nat → Nat) (T : Tx) (len : Nat) (ft : Int32) : Prop := MR σ A hg ∧ RMb σ B ∧ RW σ T len ∧ σ 89 17 = ft ∧ ∀ k, k ≤ 1 → σ 91 k = (if kp k = true then 1 else 0) ∧ (kp k = true → RMr (400 + 200 * k) σ (I k) ∧ RMg σ (I k) ∧ σ 90 (400 + 200 * k + 178) = nI (hI k))
def WI (n : Nat) (A B : St) (kp : Nat → Bool) (I : Nat → St) (hg : Nat) (hI : Nat → Nat) : Prop := WL A ∧ WB B ∧ hg ≤ 999999999 ∧ Bd n A ∧ ∀ k, k ≤ 1 → kp k = true → WL (I k) ∧ hI k ≤ 999999999 ∧ Bd n (I k)
def Inv (n : Nat) (σ : Sg) : Prop := ∃ (A B : St) (kp : Nat → Bool) (I : Nat → St) (hg : Nat) (hI : Nat → Nat) (T : Tx) (len : Nat) (ft : Int32), CI σ A B kp I hg hI T len ft ∧ MI σ A B kp I hg hI T len ft ∧ WI n A B kp I hg hI
/-- a call of the class, then the same of the reference: one answer -/
def Two (mx mm : MS) (ax am : List Value) (n : Nat) (σ : Sg) : Prop := MetA mx ax σ (fun v σ1 => ∃ a : Int32, v = some (.int a) ∧ MetA mm am σ1 (fun w σ2 => w = some (.int a) ∧ Inv (n + 1) σ2))
theorem Inv.mk {n : Nat} {σ : Sg} {A B : St} {kp : Nat → Bool} {I : Nat → St} {hg : Nat} {hI : Nat → Nat} {T : Tx} {len : Nat} {ft : Int32} (h1 : CI σ A B kp I hg hI T len ft) (h2 : MI σ A B kp I hg hI T len ft) (h3 : WI n A B kp I hg hI) : Inv n σ := ⟨A, B, kp, I, hg, hI, T, len, ft, h1, h2, h3⟩
theorem nI_one {a b : Nat} {x : Int32} (h1 : x = nI a) (h2 : x = nI b) (ha : a < 2 ^ 31) (hb : b < 2 ^ 31) : a = b := (nI_eq ha hb).mp (h1.symm.trans h2)
theorem Bd.up {n : Nat} {A : St} (h : Bd n A) : Bd (n + 1) A := ⟨by have := h.1; omega, fun k hk => by have := h.2 k hk; omega⟩
theorem Bd.eq {n : Nat} {A A' : St} (h : Bd n A) (h1 : A' 12 1 = A 12 1) (h5 : A' 12 5 = A 12 5) (h8 : ∀ k, A' 8 k = A 8 k) : Bd (n + 1) A' := ⟨by have := h.1; omega, fun k hk => by rw [h8]; have := h.2 k (by omega); omega⟩
section INV
variable {n : Nat} {σ σ' : Sg} {A B A' B' : St} {kp : Nat → Bool} {I : Nat → St} {hg hg' : Nat} {hI : Nat → Nat} {T : Tx} {len : Nat} {ft : Int32}
theorem WI.up (h : WI n A B kp I hg hI) : WI (n + 1) A B kp I hg hI := ⟨h.1, h.2.1, h.2.2.1, h.2.2.2.1.up, fun k a b => ⟨(h.2.2.2.2 k a b).1, (h.2.2.2.2 k a b).2.1, (h.2.2.2.2 k a b).2.2.up⟩⟩
theorem WI.now (h : WI n A B kp I hg hI) (hW : WL A') (h9 : hg' ≤ 999999999) (hb : Bd (n + 1) A') : WI (n + 1) A' B kp I hg' hI := ⟨hW, h.2.1, h9, hb, fun k a b => ⟨(h.2.2.2.2 k a b).1, (h.2.2.2.2 k a b).2.1, (h.2.2.2.2 k a b).2.2.up⟩⟩
theorem WI.book (h : WI n A B kp I hg hI) (hW : WB B') : WI (n + 1) A B' kp I hg hI := ⟨h.1, hW, h.2.2.1, h.2.2.2.1.up, fun k a b => ⟨(h.2.2.2.2 k a b).1, (h.2.2.2.2 k a b).2.1, (h.2.2.2.2 k a b).2.2.up⟩⟩
theorem WI.year (h : WI n A B kp I hg hI) (hn : n < 512) : A 12 1 + 99 < 2 ^ 19 := by have := h.2.2.2.1.1; omega
theorem CI.gen (h : CI σ A B kp I hg hI T len ft) (hC : CS σ' A' hg') (hB : RCb σ' B') (h1 : σ' 55 1 = σ 55 1) (h4 : σ' 55 4 = σ 55 4) (hc : ∀ c, (28 ≤ c ∧ c ≤ 54) ∨ c = 56 → σ' c = σ c) : CI σ' A' B' kp I hg' hI T len ft := by
  obtain ⟨-, -, ⟨x1, x2, x3, x4⟩, f, k⟩ := h
  refine ⟨hC, hB, ⟨by rw [h1]; exact x1, x2, fun i hi => by rw [hc 56 (by omega)]; exact x3 i hi, x4⟩, by rw [h4]; exact f, fun j hj => ⟨by rw [hc 54 (by omega)]; exact (k j hj).1, fun z => ⟨((k j hj).2 z).1.fr (fun c a b _ => hc c (by omega)), by rw [hc _ (by omega)]; exact ((k j hj).2 z).2⟩⟩⟩
theorem RCb.fr (h : RCb σ B) (hc : ∀ c, 81 ≤ c → c ≤ 87 → c ≠ 84 → σ' c = σ c) : RCb σ' B := by
  unfold RCb
  rw [hc 81 (by omega) (by omega) (by omega), hc 82 (by omega) (by omega) (by omega), hc 83 (by omega) (by omega) (by omega), hc 85 (by omega) (by omega) (by omega), hc 86 (by omega) (by omega) (by omega), hc 87 (by omega) (by omega) (by omega)]
  exact h
theorem CS.fr (h : CS σ A hg) (hc : ∀ c, 1 ≤ c → c ≤ 13 → σ' c = σ c) : CS σ' A hg := ⟨h.1.fr (fun c a b _ => hc c (by omega) (by omega)), by rw [hc 1 (by omega) (by omega)]; exact h.2⟩
theorem CI.fr (h : CI σ A B kp I hg hI T len ft) (hc : ∀ c, c ≤ 56 ∨ (81 ≤ c ∧ c ≤ 87 ∧ c ≠ 84) → σ' c = σ c) : CI σ' A B kp I hg hI T len ft :=
  h.gen (h.1.fr (fun c a b => hc c (by omega))) (h.2.1.fr (fun c a b d => hc c (by omega))) (by rw [hc 55 (by omega)]) (by rw [hc 55 (by omega)]) (fun c a => hc c (by omega))
theorem CI.now (h : CI σ A B kp I hg hI T len ft) (hC : CS σ' A' hg') (hc : ∀ c, 27 ≤ c → c ≤ 87 → σ' c = σ c) : CI σ' A' B kp I hg' hI T len ft :=
  h.gen hC (h.2.1.fr (fun c a b d => hc c (by omega) (by omega))) (by rw [hc 55 (by omega) (by omega)]) (by rw [hc 55 (by omega) (by omega)]) (fun c a => hc c (by omega) (by omega))
theorem MI.gen (h : MI σ A B kp I hg hI T len ft) (hw : WI n A B kp I hg hI) (hM : MR σ' A' hg') (hB : RMb σ' B') (h3 : σ' 89 3 = σ 89 3) (h7 : σ' 89 7 = σ 89 7) (h12 : σ' 89 12 = σ 89 12) (h17 : σ' 89 17 = σ 89 17) (hc : ∀ c, (91 ≤ c ∧ c ≤ 93) ∨ c = 96 → σ' c = σ c) (h90 : ∀ k, 400 ≤ k → σ' 90 k = σ 90 k) : MI σ' A' B' kp I hg' hI T len ft := by
  obtain ⟨-, -, ⟨x1, x2, x3, x4⟩, f, k⟩ := h
  refine ⟨hM, hB, ⟨by rw [h12]; exact x1, x2, fun i hi => by rw [hc 96 (by omega)]; exact x3 i hi, x4⟩, by rw [h17]; exact f, fun j hj => ⟨by rw [hc 91 (by omega)]; exact (k j hj).1, fun z => ?_⟩⟩
  obtain ⟨k1, k2, k3⟩ := (k j hj).2 z
  have w := (hw.2.2.2.2 j hj z).1
  refine ⟨k1.fr w.1.1 w.2.1 (fun i a _ _ => h90 i (by omega)), ?_, by rw [h90 _ (by omega)]; exact k3⟩
  unfold RMg
  rw [h7, h3, hc 92 (by omega), hc 93 (by omega)]
  exact k2
theorem RMb.fr (h : RMb σ B) (h24 : σ' 89 24 = σ 89 24) (h27 : σ' 89 27 = σ 89 27) (hc : ∀ c, 100 ≤ c → c ≤ 103 → σ' c = σ c) : RMb σ' B := by
  unfold RMb
  rw [h24, h27, hc 100 (by omega) (by omega), hc 101 (by omega) (by omega), hc 102 (by omega) (by omega), hc 103 (by omega) (by omega)]
  exact h
theorem MI.fr (h : MI σ A B kp I hg hI T len ft) (hw : WI n A B kp I hg hI) (hc : ∀ c, 89 ≤ c → σ' c = σ c) : MI σ' A B kp I hg hI T len ft :=
  h.gen hw ⟨h.1.1.fr hw.1.1.1 hw.1.2.1 (fun k _ _ _ => by rw [hc 90 (by omega)]), h.1.2.1.fr (fun c a => hc c (by omega)), by rw [hc 90 (by omega)]; exact h.1.2.2⟩ (h.2.1.fr (by rw [hc 89 (by omega)]) (by rw [hc 89 (by omega)]) (fun c a b => hc c (by omega))) (by rw [hc 89 (by omega)]) (by rw [hc 89 (by omega)]) (by rw [hc 89 (by omega)]) (by rw [hc 89 (by omega)]) (fun c a => hc c (by omega)) (fun k _ => by rw [hc 90 (by omega)])
theorem MI.now (h : MI σ A B kp I hg hI T len ft) (hw : WI n A B kp I hg hI) (hM : MR σ' A' hg') (hF : FrM σ σ') : MI σ' A' B kp I hg' hI T len ft :=
  h.gen hw hM (h.2.1.fr (by rw [hF.1 89 (by omega) (by omega)]) (by rw [hF.1 89 (by omega) (by omega)]) (fun c a b => hF.1 c (by omega) (by omega))) (by rw [hF.1 89 (by omega) (by omega)]) (by rw [hF.1 89 (by omega) (by omega)]) (by rw [hF.1 89 (by omega) (by omega)]) (by rw [hF.1 89 (by omega) (by omega)]) (fun c a => hF.1 c (by omega) (by omega)) hF.2
theorem MI.o (h : MI σ A B kp I hg hI T len ft) (hw : WI n A B kp I hg hI) (hF : FrO σ σ') : MI σ' A B kp I hg hI T len ft :=
  h.gen hw (h.1.frO hF) (h.2.1.fr (hF.2 24 (by omega)) (hF.2 27 (by omega)) (fun c a b => hF.1 c (by omega) (by omega) (by omega) (by omega))) (hF.2 3 (by omega)) (hF.2 7 (by omega)) (hF.2 12 (by omega)) (hF.2 17 (by omega)) (fun c a => hF.1 c (by omega) (by omega) (by omega) (by omega)) (fun k _ => by rw [hF.1 90 (by omega) (by omega) (by omega) (by omega)])
theorem MI.bk (h : MI σ A B kp I hg hI T len ft) (hw : WI n A B kp I hg hI) (hB : RMb σ' B') (hF : FrN σ σ') : MI σ' A B' kp I hg hI T len ft := by
  refine h.gen hw ⟨h.1.1.fr hw.1.1.1 hw.1.2.1 (fun k _ _ _ => by rw [hF.1 90 (by omega) (by omega)]), ?_, by rw [hF.1 90 (by omega) (by omega)]; exact h.1.2.2⟩ hB (hF.2 3 (by omega) (by omega)) (hF.2 7 (by omega) (by omega)) (hF.2 12 (by omega) (by omega)) (hF.2 17 (by omega) (by omega)) (fun c a => hF.1 c (by omega) (by omega)) (fun k _ => by rw [hF.1 90 (by omega) (by omega)])
  unfold RMg
  rw [hF.2 7 (by omega) (by omega), hF.2 3 (by omega) (by omega), hF.1 92 (by omega) (by omega), hF.1 93 (by omega) (by omega)]
  exact h.1.2.1
theorem CI.b (h : CI σ A B kp I hg hI T len ft) (hB : RCb σ' B') (hF : FrB σ σ') : CI σ' A B' kp I hg hI T len ft :=
  h.gen (h.1.fr (fun c a b => hF c (by omega))) hB (by rw [hF 55 (by omega)]) (by rw [hF 55 (by omega)]) (fun c a => hF c (by omega))
/-- what the reference does leaves the class's cells -/
theorem CI.m (h : CI σ A B kp I hg hI T len ft) (hF : FrM σ σ') : CI σ' A B kp I hg hI T len ft := h.fr (fun c a => hF.1 c (by omega) (by omega))
theorem CI.mo (h : CI σ A B kp I hg hI T len ft) (hF : FrO σ σ') : CI σ' A B kp I hg hI T len ft := h.fr (fun c a => hF.1 c (by omega) (by omega) (by omega) (by omega))
theorem CI.mn (h : CI σ A B kp I hg hI T len ft) (hF : FrN σ σ') : CI σ' A B kp I hg hI T len ft := h.fr (fun c a => hF.1 c (by omega) (by omega))
end INV
theorem WL_date {A : St} (h : WL A) {a v : Nat} (hv : v ≤ 9999) : WL (stu A 2 a v) := by
  obtain ⟨⟨j1, j2, j3⟩, h1, h2, h3, h4, h5, h6, h7⟩ := h
  refine ⟨⟨j1, j2, fun j hj => ?_⟩, h1, h2, h3, h4, h5, h6, h7⟩
  have := j3 j hj
  refine ⟨this.1, this.2.1, ?_, this.2.2.2⟩
  by_cases q : j = a
  · subst q; rw [stu_s]; omega
  · rw [stu_k q]; exact this.2.2.1
theorem eatA_8 {A : St} {hh harv k : Nat} : (eatA A hh harv).1 8 k ≤ A 8 k := by
  have e : ∀ has, stu (eatL hh 24 A has).1 8 hh 0 8 k ≤ A 8 k := fun has => by
    by_cases q : k = hh
    · subst q; rw [stu_s]; omega
    · rw [stu_k q, eatL_f _ _ _ _ _ _ (by omega)]; omega
  unfold eatA eatS
  dsimp only
  split
  · rw [addA_f (by omega) (by omega)]; exact e _
  · exact e _
theorem hsR_8 {dr : Bool} {k : Nat} : ∀ (n : Nat) (s : Ys), (hsR dr n s).1 8 k ≤ s.1 8 k
  | 0, _ => Nat.le_refl _
  | n + 1, s => by
    have ih := hsR_8 (dr := dr) (k := k) n s
    rw [hsR]
    unfold hsS; dsimp only
    refine Nat.le_trans eatA_8 ?_
    rw [hsA1_f (by omega)]; exact ih
theorem yrR_8 {dr : Bool} {k : Nat} : ∀ (n : Nat) (s : Ys), (yrR dr n s).1 8 k ≤ s.1 8 k
  | 0, _ => Nat.le_refl _
  | n + 1, s => by
    have ih := yrR_8 (dr := dr) (k := k) n s
    rw [yrR]
    unfold yrS; dsimp only
    rw [stu_f (by omega)]
    refine Nat.le_trans (hsR_8 _ _) ?_
    dsimp only
    rw [yrB_f (by omega) (by omega)]; exact ih
theorem ch1_f {A : St} {n a : Nat} {f k : Nat} (hf : f ≠ 1) : ∀ {m b : Nat} {B : St}, ch1 A n a m b = some B → B f k = A f k
  | 0, b, B, h => by simp [ch1] at h
  | m + 1, b, B, h => by
    rw [ch1] at h
    split at h
    · simp only [Option.some.injEq] at h
      rw [← h, swA_f hf]
    · exact ch1_f hf h
theorem ch2_f {A : St} {n : Nat} {f k : Nat} (hf : f ≠ 1) : ∀ {m a : Nat} {B : St}, ch2 A n m a = some B → B f k = A f k
  | 0, a, B, h => by simp [ch2] at h
  | m + 1, a, B, h => by
    rw [ch2] at h
    split at h
    · next C hC =>
      simp only [Option.some.injEq] at h
      rw [← h]; exact ch1_f hf hC
    · exact ch2_f hf h
theorem chR_f {n : Nat} {f k : Nat} (hf : f ≠ 1) : ∀ (m : Nat) (A : St) (d : Nat), (chR n m A d).1 f k = A f k
  | 0, A, d => rfl
  | m + 1, A, d => by
    rw [chR]
    split
    · rfl
    · next B hB => rw [chR_f hf m B (d + 1)]; exact ch2_f hf hB
