/-! the reference: land, feed -/
def RW (σ : Sg) (T : Tx) (len : Nat) : Prop := σ 89 12 = nI len ∧ len ≤ 400 ∧ (∀ i, i < len → σ 96 i = nI (T i)) ∧ ∀ i, i < len → T i < 256
/-- what a fault leaves as it was -/
def FrZ (σ σ' : Sg) : Prop := (∀ c, c ≠ 89 → ¬ (92 ≤ c ∧ c ≤ 95) → σ' c = σ c) ∧ (∀ k, ¬ (8 ≤ k ∧ k ≤ 17) → σ' 89 k = σ 89 k) ∧ (∀ k, k < 8 → σ' 92 k = σ 92 k) ∧ ∀ k, k < 4 → σ' 93 k = σ 93 k
theorem FrV.z {σ σ' σ'' : Sg} (h : FrV σ σ') (h2 : ∀ c, c ≠ 89 → σ'' c = σ' c) (h3 : ∀ k, k ≠ 12 → σ'' 89 k = σ' 89 k) : FrZ σ σ'' := ⟨fun c a b => (h2 c a).trans (h.1 c a b), fun k a => (h3 k (by omega)).trans (h.2.1 k (by omega) (by omega)), fun k a => by rw [h2 92 (by omega)]; exact h.2.2.1 k a, fun k a => by rw [h2 93 (by omega)]; exact h.2.2.2 k a⟩
/-- the land told, with n of its jars, the year still Y -/
def lpA (B : St) (Y n : Nat) : St := stu (stu B 12 1 Y) 12 0 n
theorem lpA_o {B : St} {Y n f k : Nat} (h : ¬ (f = 12 ∧ k ≤ 1)) : lpA B Y n f k = B f k := by
  unfold lpA stu
  rw [if_neg (by omega), if_neg (by omega)]
theorem lpA_n {B : St} {Y n : Nat} : lpA B Y n 12 0 = n := stu_s
theorem lpA_y {B : St} {Y n : Nat} : lpA B Y n 12 1 = Y := by unfold lpA; rw [stu_k (by omega), stu_s]
theorem lpA_add {B : St} {Y n : Nat} (hW : WN B) (hn : n < B 12 0) : addA (lpA B Y n) (B 0 n) (B 1 n) (B 2 n) (B 3 n) (B 4 n) 0 = lpA B Y (n + 1) := by
  obtain ⟨e5, e6⟩ := hW.2.2.2.1 n hn
  funext f k
  by_cases h : f = 12 ∧ k = 0
  · obtain ⟨rfl, rfl⟩ := h
    rw [addA_n, lpA_n, lpA_n]
  · have er : lpA B Y (n + 1) f k = lpA B Y n f k := by
      unfold lpA
      by_cases z : f = 12
      · rw [stu_k (fun q => h ⟨z, q⟩), stu_k (fun q => h ⟨z, q⟩)]
      · rw [stu_f z, stu_f z, stu_f z, stu_f z]
    rw [er]
    unfold addA
    rw [if_neg h, lpA_n]
    by_cases z : k = n ∧ f ≤ 6
    · rw [if_pos z]
      obtain ⟨rfl, z⟩ := z
      rw [lpA_o (by omega)]
      match f, z with
      | 0, _ => rfl
      | 1, _ => rfl
      | 2, _ => rfl
      | 3, _ => rfl
      | 4, _ => rfl
      | 5, _ => exact e5.symm
      | 6, _ => exact e6.symm
    · rw [if_neg z]
theorem lpA_end {σ : Sg} {B : St} {Y : Nat} (h : RMr 0 σ (lpA B Y (B 12 0))) (hW : WN B) : RMr 0 (sgu (sgu σ 90 177 0) 90 178 0) B := by
  have e : ∀ k, k ≠ 177 → k ≠ 178 → sgu (sgu σ 90 177 0) 90 178 0 90 k = σ 90 k := fun k a b => by rw [sgu_k b, sgu_k a]
  have h12 := hW.2.1
  have h4 := hW.1.2.1
  have hy := hW.2.2.1
  obtain ⟨a, b, c, d, g, i⟩ := h
  rw [lpA_n] at a g
  rw [lpA_o (by omega)] at c d i
  refine ⟨?_, ?_, ?_, ?_, fun j hj => ?_, fun k hk => ?_⟩
  · rw [e _ (by omega) (by omega)]; exact a
  · rw [sgu_k (by omega), sgu_s, hy]; rfl
  · rw [e _ (by omega) (by omega)]; exact c
  · rw [e _ (by omega) (by omega)]; exact d
  · have gg := g j hj
    rw [lpA_o (by omega), lpA_o (by omega), lpA_o (by omega), lpA_o (by omega), lpA_o (by omega), lpA_o (by omega), lpA_o (by omega)] at gg
    rw [e _ (by omega) (by omega), e _ (by omega) (by omega), e _ (by omega) (by omega), e _ (by omega) (by omega), e _ (by omega) (by omega), e _ (by omega) (by omega), e _ (by omega) (by omega)]
    exact gg
  · have ii := i k hk
    rw [lpA_o (by omega), lpA_o (by omega)] at ii
    rw [e _ (by omega) (by omega), e _ (by omega) (by omega)]
    exact ii
theorem RV.lo {σ : Sg} {A : St} {c k : Nat} {v : Int32} (h : RV σ A) (hc : (c = 92 ∧ k < 8) ∨ (c = 93 ∧ k < 4) ∨ c = 90 ∨ (c = 89 ∧ ¬ (8 ≤ k ∧ k ≤ 10))) : RV (sgu σ c k v) A := by
  obtain ⟨a, b, d, e, f, g⟩ := h
  refine ⟨?_, ?_, ?_, fun j hj => ?_, fun j hj => ?_, fun j hj => ?_⟩
  · rw [sgu_at, if_neg (by omega)]; exact a
  · rw [sgu_at, if_neg (by omega)]; exact b
  · rw [sgu_at, if_neg (by omega)]; exact d
  · rw [sgu_at, if_neg (by omega)]; exact e j hj
  · rw [sgu_at, sgu_at, if_neg (by omega), if_neg (by omega)]; exact f j hj
  · rw [sgu_c (by omega)]; exact g j hj
set_option maxRecDepth 100000 in
set_option maxHeartbeats 4000000 in
theorem u_land {σ : Sg} {T : Tx} {len hg : Nat} {A B0 : St} {Q : Option Value → Sg → Prop} (hC : MR σ A hg) (hW : WL A) (hX : RW σ T len) (hl : ∀ σ' q, txS T len 401 0 (clrA A) = .inl q → 1 ≤ q.1 → q.1 ≤ 3 → σ' 89 12 = 0 → σ' 89 17 = nI q.2 → FrZ σ σ' → Q (some (.int (-10 - nI q.1))) σ') (hr : ∀ σ' B, txS T len 401 0 (clrA A) = .inr B → WN B → KpL A B → σ' 89 12 = 0 → σ' 89 17 = -1 → MR σ' B 0 → σ' 91 0 = 0 → σ' 91 1 = 0 → RMb σ' (terA B0) → (∀ c, ¬ (89 ≤ c ∧ c ≤ 95) → σ' c = σ c) → Q (some (.int (nI (B 12 5)))) σ') : MetA mX8_land [.ref 89] σ Q := by
  refine MetA_of qX8_land (Nat.le_of_ble_eq_true rfl) ?_
  obtain ⟨x1, x2, x3, x4⟩ := hX
  -- the jars, and the end
  have at248 : ∀ B, txS T len 401 0 (clrA A) = .inr B → WN B → KpL A B → ∀ n i σ', i + n = B 12 0 → RMr 0 σ' (lpA B (A 12 1) i) → RV σ' B → RMg σ' B → σ' 89 12 = 0 → σ' 89 17 = -1 → (∀ c, ¬ (89 ≤ c ∧ c ≤ 95) → σ' c = σ c) → V mX8_land 248 [(0, .ref 89), (1, .int (nI i))] [] σ' Q := by
    intro B ht hWB hK n
    have h12 := hWB.2.1
    have h4 := hWB.1.2.1
    induction n with
    | zero =>
      intro i σ' hi hR hV hG e12 e17 hF
      have hi : i = B 12 0 := by omega
      subst hi
      refine wpB_sd (stops := [248]) kX8_land 60 _ _ _ _ ?_
      refine br_t (by rw [hV.2.2.1]; exact nI_le (Nat.le_refl _) (by omega)) ?_
      refine ast (n := 800) (j := 177) rfl rfl (by omega) ?_
      refine ast (n := 800) (j := 178) rfl rfl (by omega) ?_
      refine ⟨aok (n := 2) (j := 0) rfl rfl (by omega), fun σ3 e3 => ?_⟩
      have e3 : σ3 = sgu (sgu (sgu (sgu (sgu σ' 90 177 0) 90 178 0) 89 24 0) 89 27 0) 91 0 0 := by rw [e3]; exact congrArg _ nar0
      subst e3
      refine ⟨aok (n := 2) (j := 1) rfl rfl (by omega), fun σ4 e4 => ?_⟩
      have e4 : σ4 = sgu (sgu (sgu (sgu (sgu (sgu σ' 90 177 0) 90 178 0) 89 24 0) 89 27 0) 91 0 0) 91 1 0 := by rw [e4]; exact congrArg _ nar0
      subst e4
      have f89 : ∀ k, k ≠ 24 → k ≠ 27 → sgu (sgu (sgu (sgu (sgu (sgu σ' 90 177 0) 90 178 0) 89 24 0) 89 27 0) 91 0 0) 91 1 0 89 k = σ' 89 k := fun k a b => by
        rw [sgu_c (by omega), sgu_c (by omega), sgu_k b, sgu_k a, sgu_c (by omega), sgu_c (by omega)]
      have fc : ∀ c, c ≠ 89 → c ≠ 90 → c ≠ 91 → sgu (sgu (sgu (sgu (sgu (sgu σ' 90 177 0) 90 178 0) 89 24 0) 89 27 0) 91 0 0) 91 1 0 c = σ' c := fun c a b d => by
        rw [sgu_c d, sgu_c d, sgu_c a, sgu_c a, sgu_c b, sgu_c b]
      have hM : MR (sgu (sgu (sgu (sgu (sgu (sgu σ' 90 177 0) 90 178 0) 89 24 0) 89 27 0) 91 0 0) 91 1 0) B 0 := by
        refine ⟨RMr.fr (lpA_end hR hWB) (by omega) h4 (fun k _ _ _ => by rw [sgu_c (by omega), sgu_c (by omega), sgu_c (by omega), sgu_c (by omega)]), ?_, ?_⟩
        · unfold RMg
          rw [f89 7 (by omega) (by omega), f89 3 (by omega) (by omega), fc 92 (by omega) (by omega) (by omega), fc 93 (by omega) (by omega) (by omega)]
          exact hG
        · rw [sgu_c (by omega), sgu_c (by omega), sgu_c (by omega), sgu_c (by omega), sgu_s]; rfl
      have fin := hr _ B ht hWB hK (by rw [f89 12 (by omega) (by omega)]; exact e12) (by rw [f89 17 (by omega) (by omega)]; exact e17) hM (by rw [sgu_k (by omega), sgu_s]) (by rw [sgu_s]) ?_ (fun c a => by rw [fc c (by omega) (by omega) (by omega)]; exact hF c a)
      · rw [← hM.2.1.1] at fin
        exact fin
      · refine ⟨?_, fun k hk => ?_, ?_, fun k hk => ?_⟩
        · rw [sgu_c (by omega), sgu_c (by omega), sgu_k (by omega), sgu_s]; simp [terA, stu]; rfl
        · simp [terA, stu] at hk
        · rw [sgu_c (by omega), sgu_c (by omega), sgu_s]; simp [terA, stu]; rfl
        · simp [terA, stu] at hk
    | succ n ih =>
      intro i σ' hi hR hV hG e12 e17 hF
      have e5 : (5 : Int32) * nI i = nI (5 * i) := by rw [show (5 : Int32) = nI 5 from rfl, pk_mul]
      obtain ⟨v0, v1, v2, v3, v4⟩ := hV.2.2.2.2.2 i (by omega)
      refine wpB_sd (stops := [248]) kX8_land 60 _ _ _ _ ?_
      refine br_f (by rw [hV.2.2.1]; exact nI_ge (by omega) (by omega)) ?_
      refine ald (n := 60) (j := 5 * i) rfl e5 (by omega) v0 ?_
      refine ald (n := 60) (j := 5 * i + 1) rfl (by rw [e5]; exact nI_add _ 1) (by omega) v1 ?_
      refine ald (n := 60) (j := 5 * i + 2) rfl (by rw [e5]; exact nI_add _ 2) (by omega) v2 ?_
      refine ald (n := 60) (j := 5 * i + 3) rfl (by rw [e5]; exact nI_add _ 3) (by omega) v3 ?_
      refine ald (n := 60) (j := 5 * i + 4) rfl (by rw [e5]; exact nI_add _ 4) (by omega) v4 ?_
      refine mAr (by rfl) (m_add (x := 0) (k := B 0 i) (hh := B 1 i) (d := B 2 i) (q := B 3 i) (kp := B 4 i) (y := 0) (by omega) hR (by rw [lpA_n]; omega) (by rw [lpA_o (by omega)]; exact h4) (fun σ2 hR2 hF2 => ?_))
      rw [lpA_add hWB (by omega)] at hR2
      have nxt := ih (i + 1) σ2 (by omega) hR2 (hV.fr (fun k _ _ => by rw [hF2.1 89 (by omega)]) (fun c a b => hF2.1 c (by omega))) (hG.fr (fun c hc => hF2.1 c (by omega))) (by rw [hF2.1 89 (by omega)]; exact e12) (by rw [hF2.1 89 (by omega)]; exact e17) (fun c a => by rw [hF2.1 c (by omega)]; exact hF c a)
      rw [← nI_1 i] at nxt
      exact V.take 2 nxt
  -- the houses
  have at183 : ∀ B, txS T len 401 0 (clrA A) = .inr B → WN B → KpL A B → ∀ n i σ', i + n = 4 → RV σ' B → σ' 89 7 = nI (B 12 5) → (B 12 6 = 0 → σ' 89 3 = nI 1 ∧ σ' 92 0 = nI 10) → (0 < B 12 6 → σ' 89 3 = nI (B 12 6) ∧ ∀ k, k < B 12 6 → σ' 92 k = nI (B 10 k)) → (∀ k, k < i → k < B 12 5 → σ' 93 k = nI (B 9 k) ∧ σ' 90 (168 + k) = nI (B 7 k) ∧ σ' 90 (172 + k) = 0) → σ' 90 177 = nI (A 12 1) → σ' 90 179 = nI (A 12 3) → σ' 90 180 = nI (A 12 4) → σ' 89 12 = 0 → σ' 89 17 = -1 → (∀ c, ¬ (89 ≤ c ∧ c ≤ 95) → σ' c = σ c) → V mX8_land 183 [(0, .ref 89), (1, .int (nI i))] [] σ' Q := by
    intro B ht hWB hK n
    have h12 := hWB.2.1
    have h4 := hWB.1.2.1
    induction n with
    | zero =>
      intro i σ' hi hV e7 g0 g1 hd y l s e12 e17 hF
      have hi : i = 4 := by omega
      subst hi
      refine wpB_sd (stops := [183, 248]) kX8_land 60 _ _ _ _ ?_
      refine br_t (by decide) ?_
      refine ast (n := 800) (j := 176) rfl rfl (by omega) ?_
      have fc : ∀ c, c ≠ 90 → sgu σ' 90 176 0 c = σ' c := fun c hc => sgu_c hc
      have fin := at248 B ht hWB hK (B 12 0) 0 (sgu σ' 90 176 0) (by omega) ?_ (hV.fr (fun k _ _ => by rw [fc 89 (by omega)]) (fun c a b => fc c (by omega))) ?_ (by rw [fc 89 (by omega)]; exact e12) (by rw [fc 89 (by omega)]; exact e17) (fun c a => by rw [fc c (by omega)]; exact hF c a)
      · exact fin
      · refine ⟨?_, ?_, ?_, ?_, fun j hj => ?_, fun k hk => ?_⟩
        · rw [sgu_s, lpA_n]; rfl
        · rw [sgu_k (by omega), lpA_y]; exact y
        · rw [sgu_k (by omega), lpA_o (by omega), hK.1]; exact l
        · rw [sgu_k (by omega), lpA_o (by omega), hK.2]; exact s
        · rw [lpA_n] at hj; omega
        · rw [lpA_o (by omega)] at hk
          rw [sgu_k (by omega), sgu_k (by omega), lpA_o (by omega), lpA_o (by omega), hWB.2.2.2.2 k hk]
          have := hd k (by omega) hk
          rw [Nat.zero_add, Nat.zero_add]
          exact ⟨this.2.1, this.2.2⟩
      · refine ⟨by rw [fc 89 (by omega)]; exact e7, fun k hk => ?_, fun z => ?_, fun z => ?_⟩
        · rw [fc 93 (by omega)]; exact (hd k (by omega) hk).1
        · rw [fc 89 (by omega), fc 92 (by omega)]; exact g0 z
        · rw [fc 89 (by omega), fc 92 (by omega)]; exact g1 z
    | succ n ih =>
      intro i σ' hi hV e7 g0 g1 hd y l s e12 e17 hF
      refine wpB_sd (stops := [183]) kX8_land 60 _ _ _ _ ?_
      refine br_f (nI_ge (a := i) (b := 4) (by omega) (by omega)) ?_
      refine ald (n := 8) (j := 4 + i) rfl (by simp only [fa_lit, nI_add]) (by omega) rfl ?_
      refine ast (n := 8) (j := i) rfl rfl (by omega) ?_
      refine ald (n := 8) (j := 4 + i) rfl (by simp only [fa_lit, nI_add]) (by omega) rfl ?_
      refine ast (n := 800) (j := 168 + i) rfl (by simp only [fa_lit, nI_add]) (by omega) ?_
      refine ast (n := 800) (j := 172 + i) rfl (by simp only [fa_lit, nI_add]) (by omega) ?_
      have o92 : ∀ (u v w : Int32) k, sgu (sgu (sgu σ' 93 i u) 90 (168 + i) v) 90 (172 + i) w 92 k = σ' 92 k := fun u v w k => by rw [sgu_c (by omega), sgu_c (by omega), sgu_c (by omega)]
      have o89 : ∀ (u v w : Int32) k, sgu (sgu (sgu σ' 93 i u) 90 (168 + i) v) 90 (172 + i) w 89 k = σ' 89 k := fun u v w k => by rw [sgu_c (by omega), sgu_c (by omega), sgu_c (by omega)]
      have nxt := ih (i + 1) (sgu (sgu (sgu σ' 93 i (σ' 93 (4 + i))) 90 (168 + i) (sgu σ' 93 i (σ' 93 (4 + i)) 94 (4 + i))) 90 (172 + i) 0) (by omega) (((hV.lo (by omega)).lo (by omega)).lo (by omega)) (by rw [o89]; exact e7) (fun z => by rw [o89, o92]; exact g0 z) (fun z => ⟨by rw [o89]; exact (g1 z).1, fun k hk => by rw [o92]; exact (g1 z).2 k hk⟩) (fun k hk hk5 => ?_) (by rw [sgu_k (by omega), sgu_k (by omega), sgu_c (by omega)]; exact y) (by rw [sgu_k (by omega), sgu_k (by omega), sgu_c (by omega)]; exact l) (by rw [sgu_k (by omega), sgu_k (by omega), sgu_c (by omega)]; exact s) (by rw [o89]; exact e12) (by rw [o89]; exact e17) (fun c a => by rw [sgu_c (by omega), sgu_c (by omega), sgu_c (by omega)]; exact hF c a)
      · rw [← nI_1 i] at nxt
        exact nxt
      · obtain ⟨v9, v7⟩ := hV.2.2.2.2.1 k hk5
        by_cases z : k = i
        · subst z
          refine ⟨?_, ?_, ?_⟩
          · rw [sgu_c (by omega), sgu_c (by omega), sgu_s]; exact v9
          · rw [sgu_k (by omega), sgu_s, sgu_c (by omega)]; exact v7
          · rw [sgu_s]
        · obtain ⟨q1, q2, q3⟩ := hd k (by omega) hk5
          refine ⟨?_, ?_, ?_⟩
          · rw [sgu_c (by omega), sgu_c (by omega), sgu_k z]; exact q1
          · rw [sgu_k (by omega), sgu_k (by omega), sgu_c (by omega)]; exact q2
          · rw [sgu_k (by omega), sgu_k (by omega), sgu_c (by omega)]; exact q3
  -- behind the harvests
  have at173 : ∀ B, txS T len 401 0 (clrA A) = .inr B → WN B → KpL A B → ∀ (i : Int32) σ', RV σ' B → (B 12 6 = 0 → σ' 89 3 = nI 1 ∧ σ' 92 0 = nI 10) → (0 < B 12 6 → σ' 89 3 = nI (B 12 6) ∧ ∀ k, k < B 12 6 → σ' 92 k = nI (B 10 k)) → σ' 90 177 = nI (A 12 1) → σ' 90 179 = nI (A 12 3) → σ' 90 180 = nI (A 12 4) → σ' 89 12 = 0 → σ' 89 17 = -1 → (∀ c, ¬ (89 ≤ c ∧ c ≤ 95) → σ' c = σ c) → V mX8_land 173 [(0, .ref 89), (1, .int i)] [] σ' Q := by
    intro B ht hWB hK i σ' hV g0 g1 y l s e12 e17 hF
    refine wpB_sd (stops := [183]) kX8_land 60 _ _ _ _ ?_
    have o89 : ∀ k, k ≠ 7 → sgu σ' 89 7 (σ' 89 9) 89 k = σ' 89 k := fun k hk => sgu_k hk
    have nxt := at183 B ht hWB hK 4 0 (sgu σ' 89 7 (σ' 89 9)) (by omega) (hV.lo (by omega)) (by rw [sgu_s]; exact hV.2.1) (fun z => by rw [o89 3 (by omega), sgu_c (by omega)]; exact g0 z) (fun z => ⟨by rw [o89 3 (by omega)]; exact (g1 z).1, fun k hk => by rw [sgu_c (by omega)]; exact (g1 z).2 k hk⟩) (fun k hk => by omega) (by rw [sgu_c (by omega)]; exact y) (by rw [sgu_c (by omega)]; exact l) (by rw [sgu_c (by omega)]; exact s) (by rw [o89 12 (by omega)]; exact e12) (by rw [o89 17 (by omega)]; exact e17) (fun c a => by rw [sgu_c (by omega)]; exact hF c a)
    exact nxt
  -- the harvests
  have at124 : ∀ B, txS T len 401 0 (clrA A) = .inr B → WN B → KpL A B → ∀ n i σ', i + n = B 12 6 → RV σ' B → σ' 89 3 = nI (B 12 6) → (∀ k, k < i → σ' 92 k = nI (B 10 k)) → σ' 90 177 = nI (A 12 1) → σ' 90 179 = nI (A 12 3) → σ' 90 180 = nI (A 12 4) → σ' 89 12 = 0 → σ' 89 17 = -1 → (∀ c, ¬ (89 ≤ c ∧ c ≤ 95) → σ' c = σ c) → V mX8_land 124 [(0, .ref 89), (1, .int (nI i))] [] σ' Q := by
    intro B ht hWB hK n
    have h8 := hWB.1.2.2.1
    induction n with
    | zero =>
      intro i σ' hi hV e3 hd y l s e12 e17 hF
      have hi : i = B 12 6 := by omega
      subst hi
      refine wpB_sd (stops := [124, 173]) kX8_land 60 _ _ _ _ ?_
      refine br_t (by rw [hV.1]; exact nI_le (Nat.le_refl _) (by omega)) ?_
      by_cases z : B 12 6 = 0
      · refine bn_t (by rw [hV.1, z]; rfl) ?_
        refine ast (n := 16) (j := 0) rfl rfl (by omega) ?_
        exact at173 B ht hWB hK _ _ ((hV.lo (by omega)).lo (by omega)) (fun _ => ⟨by rw [sgu_c (by omega), sgu_s]; rfl, by rw [sgu_s]; rfl⟩) (fun q => by omega) (by rw [sgu_c (by omega), sgu_c (by omega)]; exact y) (by rw [sgu_c (by omega), sgu_c (by omega)]; exact l) (by rw [sgu_c (by omega), sgu_c (by omega)]; exact s) (by rw [sgu_c (by omega), sgu_k (by omega)]; exact e12) (by rw [sgu_c (by omega), sgu_k (by omega)]; exact e17) (fun c a => by rw [sgu_c (by omega), sgu_c (by omega)]; exact hF c a)
      · refine bn_f (by rw [hV.1]; exact fun q => z ((nI_eq (b := 0) (by omega) (by omega)).mp q)) ?_
        exact at173 B ht hWB hK _ _ hV (fun q => by omega) (fun _ => ⟨e3, hd⟩) y l s e12 e17 hF
    | succ n ih =>
      intro i σ' hi hV e3 hd y l s e12 e17 hF
      refine wpB_sd (stops := [124]) kX8_land 60 _ _ _ _ ?_
      refine br_f (by rw [hV.1]; exact nI_ge (by omega) (by omega)) ?_
      refine ald (n := 16) (j := 8 + i) rfl (by simp only [fa_lit, nI_add]) (by omega) (hV.2.2.2.1 i (by omega)) ?_
      refine ast (n := 16) (j := i) rfl rfl (by omega) ?_
      have nxt := ih (i + 1) (sgu σ' 92 i (nI (B 10 i))) (by omega) (hV.lo (by omega)) (by rw [sgu_c (by omega)]; exact e3) (fun k hk => ?_) (by rw [sgu_c (by omega)]; exact y) (by rw [sgu_c (by omega)]; exact l) (by rw [sgu_c (by omega)]; exact s) (by rw [sgu_c (by omega)]; exact e12) (by rw [sgu_c (by omega)]; exact e17) (fun c a => by rw [sgu_c (by omega)]; exact hF c a)
      · rw [← nI_1 i] at nxt
        exact nxt
      · by_cases z : k = i
        · subst z; rw [sgu_s]
        · rw [sgu_k z]; exact hd k (by omega)
  -- the text is read
  have at94 : ∀ σ' p f, RU σ' T len p f → FrV σ σ' → (∀ q, f = some q → txS T len 401 0 (clrA A) = .inl q) → (f = none → ∃ B, txS T len 401 0 (clrA A) = .inr B ∧ WN B ∧ KpL A B ∧ RV σ' B) → V mX8_land 94 [(0, .ref 89)] [] σ' Q := by
    intro σ' p f hS hF hb hg'
    obtain ⟨a, b, c, d, e, g, h3, h4, o⟩ := hS
    refine wpB_sd (stops := [124]) kX8_land 60 _ _ _ _ ?_
    cases f with
    | some q =>
      have oq := o q rfl
      have h3 : σ' 89 16 = nI q.1 := h3
      refine br_f (by rw [sgu_k (by omega), h3]; exact fun z => by have := (nI_leI (b := 0) (by omega) (by omega)).mp z; omega) ?_
      have fin := hl (sgu σ' 89 12 0) q (hb q rfl) oq.1 oq.2 sgu_s (by rw [sgu_k (by omega)]; exact h4) (hF.z (fun c hc => sgu_c hc) (fun k hk => sgu_k hk))
      rw [← h3, ← show sgu σ' 89 12 0 89 16 = σ' 89 16 from sgu_k (by omega)] at fin
      exact fin
    | none =>
      have h3 : σ' 89 16 = 0 := h3
      have h4 : σ' 89 17 = -1 := h4
      obtain ⟨B, ht, hWB, hK, hV⟩ := hg' rfl
      refine br_t (by rw [sgu_k (by omega), h3]; decide) ?_
      have o89 : ∀ (u v : Int32) k, k ≠ 12 → k ≠ 3 → sgu (sgu σ' 89 12 u) 89 3 v 89 k = σ' 89 k := fun u v k h1 h2 => by rw [sgu_k h2, sgu_k h1]
      have c90 : ∀ (u v : Int32) k, sgu (sgu σ' 89 12 u) 89 3 v 90 k = σ 90 k := fun u v k => by rw [sgu_c (by omega), sgu_c (by omega), hF.1 90 (by omega) (by omega)]
      have nxt := at124 B ht hWB hK (B 12 6) 0 (sgu (sgu σ' 89 12 0) 89 3 (sgu σ' 89 12 0 89 8)) (by omega) ((hV.lo (by omega)).lo (by omega)) (by rw [sgu_s, sgu_k (by omega)]; exact hV.1) (fun k hk => by omega) (by rw [c90]; exact hC.1.2.1) (by rw [c90]; exact hC.1.2.2.1) (by rw [c90]; exact hC.1.2.2.2.1) (by rw [sgu_k (by omega), sgu_s]) (by rw [o89 _ _ 17 (by omega) (by omega)]; exact h4) (fun c a => by rw [sgu_c (by omega), sgu_c (by omega)]; exact hF.1 c (by omega) (by omega))
      exact nxt
  have loop : ∀ n i p B σ', i + n = 401 → i ≤ p → txS T len 401 0 (clrA A) = txS T len n p B → RU σ' T len p none → RV σ' B → WN B → KpL A B → FrV σ σ' → V mX8_land 30 [(0, .ref 89)] [] σ' Q := by
    intro n
    induction n with
    | zero => intro i p B σ' hi hip ht hS; have := hS.2.2.2.1; omega
    | succ n ih =>
      intro i p B σ' hi hip ht hS hV hWB hK hF
      have hp := hS.2.2.2.1
      have hb := bl_le (T := T) hp
      have hb2 := bl_ge (T := T) (len := len) (p := p)
      have hT9 := hS.2.2.2.2.2.1
      rw [show txS T len (n + 1) p B = (if bl T len p < len then (match fnS T len (bdS T len (bl T len p) B) with
        | .inl f => .inl f
        | .inr (q, B) => txS T len n q B) else .inr B) from rfl] at ht
      refine wpB_sd (stops := [30, 94]) kX8_land 60 _ _ _ _ ?_
      refine bn_t (by rw [hS.2.2.2.2.2.2.1]; rfl) ?_
      refine m_here hS (fun σ1 hS1 hF1 => ?_)
      have hV1 := hV.u hF1.u
      have hF01 := hF.tr hF1.u.v
      by_cases q : bl T len p < len
      · rw [if_pos q] at ht
        have hc : chI T len p = nI (T (bl T len p)) := by unfold chI; rw [if_pos q]
        have := hT9 _ q
        refine br_f (by rw [hc]; exact nI_pos (by omega)) ?_
        refine m_takeClause hS1 (bl_bl hp) hV1 hWB ⟨fun σ2 p2 f hr2 hS2 hF2 => ?_, fun σ2 e C hr2 hS2 hV2 hF2 => ?_⟩
        · have ht2 : txS T len 401 0 (clrA A) = .inl f := by rw [ht]; unfold fnS; rw [hr2]
          have n0 : ¬ σ2 89 16 = 0 := fun z => by
            rw [hS2.2.2.2.2.2.2.1] at z
            have := (fn_0 hS2.2.2.2.2.2.2.2.2).mp z
            simp at this
          refine bn_f n0 ?_
          refine wpB_sd (stops := [94]) kX8_land 60 _ _ _ _ ?_
          refine bn_f n0 ?_
          exact at94 σ2 p2 _ hS2 (hF01.tr hF2) (fun q' z => by simp only [Option.some.injEq] at z; rw [← z]; exact ht2) (fun z => by simp at z)
        · refine bn_t (by rw [hS2.2.2.2.2.2.2.1]; rfl) ?_
          have he := hS2.2.2.2.1
          refine m_here hS2 (fun σ3 hS3 hF3 => ?_)
          have hV3 := hV2.u hF3.u
          have hF03 := (hF01.tr hF2).tr hF3.u.v
          by_cases g : bl T len e < len ∧ T (bl T len e) = 59
          · refine bn_t ((ch_iff (c := 59) hT9 (by omega)).mpr g) ?_
            refine mAr (by rw [hS3.2.2.1]; rfl) (m_want (k := 1) (w := bl T len e) (c := True) (g := 1) hS3 ⟨fun z => absurd z (by decide), fun z => absurd trivial z⟩ (by omega) (by omega) (fun σ4 hS4 hF4 _ => ?_))
            simp only [if_true] at hS4 ⊢
            refine br_f (by decide) ?_
            have hend : endS T len e = .inr (bl T len e + 1) := by unfold endS; rw [if_pos g]
            have hfn : fnS T len (bdS T len (bl T len p) B) = .inr (bl T len e + 1, C) := by unfold fnS; rw [hr2]; dsimp only; rw [hend]
            obtain ⟨w1, w2, w3, w4⟩ := fnS_in hb hWB hfn
            rw [hfn] at ht
            dsimp only at ht
            exact ih (i + 1) (bl T len e + 1) C _ (by omega) (by omega) ht (hS4.at (by omega) (by rw [hS4.2.2.1, nI_1])) ((hV3.u hF4.u).u FrA.at.u) w1 (hK.tr w4) ((hF03.tr hF4.u.v).tr FrA.at.u.v)
          · refine bn_f (fun z => g ((ch_iff (c := 59) hT9 (by omega)).mp z)) ?_
            refine mAr (by rw [hS3.2.2.1]; rfl) (m_want (k := 1) (w := bl T len e) (c := False) (g := 0) hS3 ⟨fun _ z => z, fun _ => rfl⟩ (by omega) (by omega) (fun σ4 hS4 hF4 _ => ?_))
            simp only [if_false] at hS4 ⊢
            refine br_t (bI_f (by simp [orF])) ?_
            have hend : endS T len e = .inl (1, bl T len e) := by unfold endS; rw [if_neg g]
            have ht2 : txS T len 401 0 (clrA A) = .inl (1, bl T len e) := by rw [ht]; unfold fnS; rw [hr2]; dsimp only; rw [hend]
            have n0 : ¬ σ4 89 16 = 0 := fun z => by
              rw [hS4.2.2.2.2.2.2.1] at z
              have := (fn_0 hS4.2.2.2.2.2.2.2.2).mp z
              simp [orF] at this
            refine wpB_sd (stops := [94]) kX8_land 60 _ _ _ _ ?_
            refine bn_f n0 ?_
            exact at94 σ4 _ _ hS4 (hF03.tr hF4.u.v) (fun q' z => by simp only [orF, Option.some.injEq] at z; rw [← z]; exact ht2) (fun z => by simp [orF] at z)
      · rw [if_neg q] at ht
        have hc : chI T len p = -1 := by unfold chI; rw [if_neg q]
        refine br_t (by rw [hc]; decide) ?_
        exact at94 σ1 _ none hS1 hF01 (fun q' z => by simp at z) (fun _ => ⟨B, ht, hWB, hK, hV1⟩)
  refine wpB_sd (stops := [30]) kX8_land 60 _ _ _ _ ?_
  have c0 : clrA A 12 0 = 0 := rfl
  have c5 : clrA A 12 5 = 0 := rfl
  have c6 : clrA A 12 6 = 0 := rfl
  refine loop 401 0 0 (clrA A) _ (by omega) (by omega) rfl ⟨?_, x2, ?_, by omega, fun i hi => ?_, x4, ?_, ?_, fun q z => by simp at z⟩ ⟨?_, ?_, ?_, fun k hk => by omega, fun k hk => by omega, fun k hk => by omega⟩ (clr_WN hW) ⟨rfl, rfl⟩ ((((((FrV.put (by omega)).tr (FrV.put (by omega))).tr (FrV.put (by omega))).tr (FrV.put (by omega))).tr (FrV.put (by omega))).tr (FrV.put (by omega)))
  · repeat rw [sgu_k (by omega)]
    exact x1
  · rw [sgu_k (by omega), sgu_k (by omega), sgu_k (by omega), sgu_k (by omega), sgu_k (by omega), sgu_s]; rfl
  · repeat rw [sgu_c (by omega)]
    exact x3 i hi
  · rw [sgu_k (by omega), sgu_k (by omega), sgu_k (by omega), sgu_k (by omega), sgu_s]; rfl
  · rw [sgu_k (by omega), sgu_k (by omega), sgu_k (by omega), sgu_s]; rfl
  · rw [sgu_k (by omega), sgu_k (by omega), sgu_s, c6]; rfl
  · rw [sgu_k (by omega), sgu_s, c5]; rfl
  · rw [sgu_s, c0]; rfl
theorem byt_bv (x : BitVec 64) {s : Nat} (hs : s ≤ 56) : (x.sshiftRight s).toNat % 256 = (x >>> s).toNat % 256 := by
  apply Nat.eq_of_testBit_eq
  intro j
  rw [show (256 : Nat) = 2 ^ 8 from rfl, Nat.testBit_mod_two_pow, Nat.testBit_mod_two_pow, BitVec.testBit_toNat, BitVec.testBit_toNat, BitVec.getLsbD_sshiftRight, BitVec.getLsbD_ushiftRight]
  by_cases h : j < 8
  · have h1 : s + j < 64 := by omega
    simp [h, h1, show ¬ 64 ≤ j by omega]
  · simp [h]
theorem byt_k1 : ∀ i : Fin 8, (((nI (8 * i.val)).toInt64 &&& 63).toBitVec.smod 64).toNat = 8 * i.val := by decide +kernel
theorem byt_k2 : ∀ i : Fin 8, (((nI (8 * i.val)).toInt64.toUInt64 &&& Int64.toUInt64 63).toBitVec % 64).toNat = 8 * i.val := by decide +kernel
/-- a byte of the fed long, by the other shift -/
theorem byt_s (b : Int64) {i : Nat} (hi : i < 8) : ((b >>> ((nI (8 * i)).toInt64 &&& 63)) &&& 255).toInt32 = nI (bytN b i) := by
  have k1 := byt_k1 ⟨i, hi⟩
  have k2 := byt_k2 ⟨i, hi⟩
  dsimp only at k1 k2
  have h1 : (b >>> ((nI (8 * i)).toInt64 &&& 63)).toBitVec = b.toBitVec.sshiftRight (8 * i) := by
    rw [Int64.toBitVec_shiftRight]
    show b.toBitVec.sshiftRight _ = _
    rw [k1]
  have h2 : (bytX b i).toBitVec = b.toBitVec >>> (8 * i) := by
    show (b.toUInt64 >>> ((nI (8 * i)).toInt64.toUInt64 &&& Int64.toUInt64 63)).toBitVec = _
    rw [UInt64.toBitVec_shiftRight]
    show b.toBitVec >>> (((nI (8 * i)).toInt64.toUInt64 &&& Int64.toUInt64 63).toBitVec % 64).toNat = _
    rw [k2]
  apply Int32.toBitVec_inj.mp
  apply BitVec.eq_of_toNat_eq
  rw [Int64.toBitVec_toInt32, BitVec.signExtend_eq_setWidth_of_le _ (by omega), Int64.toBitVec_and, h1]
  unfold bytN
  rw [h2, ← byt_bv _ (by omega)]
  show _ = (BitVec.ofNat 32 _).toNat
  rw [BitVec.toNat_setWidth, BitVec.toNat_and, BitVec.toNat_ofNat]
  rw [show (Int64.toBitVec 255).toNat = 2 ^ 8 - 1 from rfl, Nat.and_two_pow_sub_one_eq_mod]
set_option maxRecDepth 100000 in
set_option maxHeartbeats 1000000 in
theorem u_feed {σ : Sg} {T : Tx} {len : Nat} {n : Int32} {b : Int64} {Q : Option Value → Sg → Prop} (hX : RW σ T len) (ho : ¬ rg n 1 8 → Q (some (.int OUT)) σ) (hf : ∀ k, 1 ≤ k → k ≤ 8 → n = nI k → 400 < len + k → Q (some (.int FUL)) σ) (h : ∀ k, 1 ≤ k → k ≤ 8 → n = nI k → len + k ≤ 400 → ∀ σ', RW σ' (fdT T len k b) (len + k) → (∀ c, c ≠ 89 → c ≠ 96 → σ' c = σ c) → (∀ k, k ≠ 12 → σ' 89 k = σ 89 k) → Q (some (.int (nI (len + k)))) σ') : MetA mX8_feed [.ref 89, .int n, .long b] σ Q := by
  obtain ⟨x1, x2, x3, x4⟩ := hX
  refine MetA_of qX8_feed (Nat.le_of_ble_eq_true rfl) ?_
  have loop : ∀ k, 1 ≤ k → k ≤ 8 → n = nI k → len + k ≤ 400 → ∀ m σ', m ≤ k → σ' 89 12 = nI (len + (k - m)) → (∀ i, i < len + (k - m) → σ' 96 i = nI (fdT T len k b i)) → (∀ c, c ≠ 89 → c ≠ 96 → σ' c = σ c) → (∀ k, k ≠ 12 → σ' 89 k = σ 89 k) → ∀ v, v = nI m - 1 → V mX8_feed 35 [(0, .ref 89), (1, .int n), (2, .long b), (4, .int v)] [] σ' Q := by
    intro k h1 h8 hn hk m
    induction m with
    | zero =>
      intro σ' hm e1 e56 hF hF5 v hv
      subst hv
      refine wpB_sd (stops := [35]) kX8_feed 30 _ _ _ _ ?_
      refine br_t (by decide) ?_
      rw [Nat.sub_zero] at e1 e56
      have fin := h k h1 h8 hn hk σ' ⟨e1, hk, e56, fun i _ => fdT_lt x4 i⟩ hF hF5
      rw [← e1] at fin
      exact fin
    | succ m ih =>
      intro σ' hm e1 e56 hF hF5 v hv
      have hv := nI_s1 hv
      subst hv
      refine wpB_sd (stops := [35]) kX8_feed 40 _ _ _ _ ?_
      refine br_f (nI_pos (by omega)) ?_
      have hb : ((b >>> (((8 : Int32) * nI m).toInt64 &&& 63)) &&& 255).toInt32 = nI (bytN b m) := by
        rw [show (8 : Int32) = nI 8 from rfl, pk_mul]
        exact byt_s b (by omega)
      refine ast (n := 400) (j := len + (k - (m + 1))) rfl e1 (by omega) ?_
      suffices hh : V mX8_feed 35 [(0, .ref 89), (1, .int n), (2, .long b), (4, .int (nI m + -1))] [] (sgu (sgu σ' 96 (len + (k - (m + 1))) (nI (bytN b m))) 89 12 (sgu σ' 96 (len + (k - (m + 1))) (nI (bytN b m)) 89 12 + 1)) Q by
        rw [← hb] at hh
        exact hh
      have e1' : sgu σ' 96 (len + (k - (m + 1))) (nI (bytN b m)) 89 12 = nI (len + (k - (m + 1))) := by rw [sgu_c (by omega)]; exact e1
      refine ih _ (by omega) ?_ (fun i hi => ?_) (fun c a b => by rw [sgu_c a, sgu_c b]; exact hF c a b) (fun j hj => by rw [sgu_k hj, sgu_c (by omega)]; exact hF5 j hj) _ nI_d1
      · rw [sgu_s, e1', nI_1]
        congr 1
        omega
      · rw [sgu_c (by omega)]
        by_cases z : i = len + (k - (m + 1))
        · subst z
          rw [sgu_s]
          unfold fdT
          rw [if_neg (by omega)]
          congr 2
          omega
        · rw [sgu_k z]; exact e56 i (by omega)
  refine wpB_sd (stops := [35]) kX8_feed 30 _ _ _ _ ?_
  refine m_inI (lo := nI 1) (hi := nI 8) rfl rfl ?_
  refine ⟨fun g => ?_, fun g => ho (fun q => bI_0.mp g ((rg_iff (by omega) (by omega)).mpr q))⟩
  obtain ⟨k, h1, h8, hn⟩ := (rg_iff (by omega) (by omega)).mp (bI_n0 g)
  refine ⟨fun g => ?_, fun g => ?_⟩
  · rw [x1, hn, nI_add] at g
    have g := (nI_leI (b := 400) (by omega) (by omega)).mp g
    refine loop k h1 h8 hn g k σ (Nat.le_refl _) (by rw [Nat.sub_self]; exact x1) (fun i hi => ?_) (fun _ _ _ => rfl) (fun _ _ => rfl) _ (by rw [hn])
    rw [Nat.sub_self] at hi
    unfold fdT
    rw [if_pos (by omega)]
    exact x3 i (by omega)
  · rw [x1, hn, nI_add] at g
    have g : ¬ len + k ≤ 400 := fun q => g (nI_le (b := 400) q (by omega))
    exact hf k h1 h8 hn (by omega)
