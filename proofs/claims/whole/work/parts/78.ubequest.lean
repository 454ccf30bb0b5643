/-! bequest: the reference -/
def FrO (σ σ' : Sg) : Prop := (∀ c, c ≠ 89 → c ≠ 97 → c ≠ 98 → c ≠ 99 → σ' c = σ c) ∧ ∀ k, k ≠ 20 → σ' 89 k = σ 89 k
theorem FrO.rf {σ : Sg} : FrO σ σ := ⟨fun _ _ _ _ _ => rfl, fun _ _ => rfl⟩
theorem FrO.tr {σ σ' σ'' : Sg} (h : FrO σ σ') (h2 : FrO σ' σ'') : FrO σ σ'' := ⟨fun c a b d e => (h2.1 c a b d e).trans (h.1 c a b d e), fun k hk => (h2.2 k hk).trans (h.2 k hk)⟩
theorem FrO.o20 {σ : Sg} {v : Int32} : FrO σ (sgu σ 89 20 v) := ⟨fun c a _ _ _ => sgu_c a, fun k hk => sgu_k hk⟩
theorem FrO.o97 {σ : Sg} {k : Nat} {v : Int32} : FrO σ (sgu σ 97 k v) := ⟨fun c _ b _ _ => sgu_c b, fun k _ => by rw [sgu_c (by omega)]⟩
theorem FrO.o98 {σ : Sg} {k : Nat} {v : Int32} : FrO σ (sgu σ 98 k v) := ⟨fun c _ _ b _ => sgu_c b, fun k _ => by rw [sgu_c (by omega)]⟩
theorem FrO.o99 {σ : Sg} {k : Nat} {v : Int32} : FrO σ (sgu σ 99 k v) := ⟨fun c _ _ _ b => sgu_c b, fun k _ => by rw [sgu_c (by omega)]⟩
theorem FrO.c97 {σ σ' : Sg} (h : ∀ c, c ≠ 97 → σ' c = σ c) : FrO σ σ' := ⟨fun c _ b _ _ => h c b, fun k _ => by rw [h 89 (by omega)]⟩
theorem FrO.w {σ σ' : Sg} (h : FrO σ σ') : σ' 90 = σ 90 := h.1 90 (by omega) (by omega) (by omega) (by omega)
theorem MR.frO {σ σ' : Sg} {A : St} {hg : Nat} (h : MR σ A hg) (hF : FrO σ σ') : MR σ' A hg := by
  obtain ⟨h1, ⟨g1, g2, g3, g4⟩, h3⟩ := h
  have e90 := hF.w
  have e92 := hF.1 92 (by omega) (by omega) (by omega) (by omega)
  have e93 := hF.1 93 (by omega) (by omega) (by omega) (by omega)
  refine ⟨?_, ⟨?_, ?_, ?_, ?_⟩, ?_⟩
  · unfold RMr; rw [e90]; exact h1
  · rw [hF.2 7 (by omega)]; exact g1
  · rw [e93]; exact g2
  · rw [hF.2 3 (by omega), e92]; exact g3
  · rw [hF.2 3 (by omega), e92]; exact g4
  · rw [e90]; exact h3
set_option maxRecDepth 100000 in
set_option maxHeartbeats 1000000 in
theorem m_findOwn {σ : Sg} {A : St} {hg a : Nat} {Q : Option Value → Sg → Prop} (hC : MR σ A hg) (hW : WJ A) (ha : a < 4) (h : ∀ σ', σ' 89 20 = nI (jlN A a) → (∀ k, k < jlN A a → σ' 98 k = nI (jlJ A a k)) → FrO σ σ' → Q none σ') : MetA mX8_findOwn [.ref 89, .int (nI a)] σ Q := by
  refine MetA_of qX8_findOwn (Nat.le_of_ble_eq_true rfl) ?_
  have h24 := hW.1
  have loop : ∀ m j σ', j + m = A 12 0 → σ' 89 20 = nI (lkL A a j).length → (∀ k, k < (lkL A a j).length → σ' 98 k = nI ((lkL A a j).getD k 0)) → FrO σ σ' → V mX8_findOwn 7 [(0, .ref 89), (1, .int (nI a)), (2, .int (nI j))] [] σ' Q := by
    intro m
    induction m with
    | zero =>
      intro j σ' hj e20 e98 hF
      have hj : j = A 12 0 := by omega
      subst hj
      have hR' := (hC.frO hF).1
      refine wpB_sd (stops := [7]) kX8_findOwn 30 _ _ _ _ ?_
      refine ald (n := 800) (j := 0 + 176) rfl rfl (by omega) hR'.1 ?_
      refine br_t (nI_le (by omega) (by omega)) ?_
      exact h σ' e20 e98 hF
    | succ m ih =>
      intro j σ' hj e20 e98 hF
      have hR' := (hC.frO hF).1
      have hlen := lkL_len A a j
      have hwj := hW.2.2 j (by omega)
      have ej := hR'.2.2.2.2.1 j (by omega)
      have skip : ¬ ((lkL A a j).length < 8 ∧ (A 1 j = a ∧ A 6 j = 0)) → V mX8_findOwn 74 [(0, .ref 89), (1, .int (nI a)), (2, .int (nI j))] [] σ' Q := by
        intro q
        refine wpB_sd (stops := [7]) kX8_findOwn 30 _ _ _ _ ?_
        have nxt := ih (j + 1) σ' (by omega) (by rw [lkL, if_neg q]; exact e20) (by rw [lkL, if_neg q]; exact e98) hF
        rw [← nI_1] at nxt
        exact nxt
      refine wpB_sd (stops := [7, 74]) kX8_findOwn 40 _ _ _ _ ?_
      refine ald (n := 800) (j := 0 + 176) rfl rfl (by omega) hR'.1 ?_
      refine br_f (nI_ge (by omega) (by omega)) ?_
      refine ⟨fun g => ?_, fun g => ?_⟩
      · rw [e20] at g
        have g : 8 ≤ (lkL A a j).length := (nI_leI (a := 8) (by omega) (by omega)).mp g
        have ef := lkL_full g (m + 1)
        rw [hj] at ef
        refine h σ' ?_ (fun k hk => ?_) hF
        · unfold jlN; rw [ef]; exact e20
        · unfold jlN at hk; rw [ef] at hk; unfold jlJ; rw [ef]; exact e98 k hk
      · rw [e20] at g
        have g : ¬ 8 ≤ (lkL A a j).length := fun q => g (nI_le (a := 8) q (by omega))
        refine ald (n := 800) (j := 0 + 24 + j) rfl (by simp only [fa_lit, nI_add]) (by omega) ej.2.1 ?_
        refine ⟨fun g1 => skip (fun q => g1 (by rw [q.2.1])), fun g1 => ?_⟩
        have g1 := (nI_eq (by omega) (by omega)).mp g1
        refine ald (n := 800) (j := 0 + 144 + j) rfl (by simp only [fa_lit, nI_add]) (by omega) ej.2.2.2.2.2.2 ?_
        refine ⟨fun g2 => skip (fun q => g2 (by rw [q.2.2]; rfl)), fun g2 => ?_⟩
        have g2 := (nI_eq (b := 0) (by omega) (by omega)).mp g2
        have hc : (lkL A a j).length < 8 ∧ (A 1 j = a ∧ A 6 j = 0) := ⟨by omega, g1, g2⟩
        refine ast (n := 8) (j := (lkL A a j).length) rfl e20 (by omega) ?_
        have e20' : sgu σ' 98 (lkL A a j).length (nI j) 89 20 = nI (lkL A a j).length := by rw [sgu_c (by omega)]; exact e20
        have adv : V mX8_findOwn 74 [(0, .ref 89), (1, .int (nI a)), (2, .int (nI j))] [] (sgu (sgu σ' 98 (lkL A a j).length (nI j)) 89 20 (sgu σ' 98 (lkL A a j).length (nI j) 89 20 + 1)) Q := by
          refine wpB_sd (stops := [7]) kX8_findOwn 30 _ _ _ _ ?_
          have nxt := ih (j + 1) (sgu (sgu σ' 98 (lkL A a j).length (nI j)) 89 20 (sgu σ' 98 (lkL A a j).length (nI j) 89 20 + 1)) (by omega) ?_ (fun k hk => ?_) ((hF.tr FrO.o98).tr FrO.o20)
          · rw [← nI_1] at nxt
            exact nxt
          · rw [lkL, if_pos hc, List.length_append, List.length_singleton, sgu_s, e20', nI_1]
          · rw [lkL, if_pos hc, List.length_append, List.length_singleton] at hk
            rw [sgu_c (by omega), lkL, if_pos hc]
            by_cases z : k = (lkL A a j).length
            · subst z; rw [sgu_s]; simp [List.getD]
            · rw [sgu_k z, e98 k (by omega)]
              congr 1
              simp [List.getD, List.getElem?_append_left (show k < (lkL A a j).length by omega)]
        exact adv
  refine wpB_sd (stops := [7]) kX8_findOwn 30 _ _ _ _ ?_
  exact loop (A 12 0) 0 _ (by omega) (by rw [sgu_s]; rfl) (fun k hk => by simp [lkL] at hk) FrO.o20
theorem m_other {σ : Sg} {a p : Nat} {Q : Option Value → Sg → Prop} (ha : a < 4) (hp : p < 4) (h : Q (some (.int (nI (hrB a p)))) σ) : MetA mX8_other [.ref 89, .int (nI a), .int (nI p)] σ Q := by
  refine MetA_of qX8_other (Nat.le_of_ble_eq_true rfl) ?_
  refine wpB_sd (stops := []) kX8_other 30 _ _ _ _ ?_
  refine ⟨fun g => ?_, fun g => ?_⟩
  · have g := (nI_leI (by omega) (by omega)).mp g
    refine fin_i h ?_
    unfold hrB; rw [if_neg (by omega)]; exact nI_1 _
  · have g : ¬ a ≤ p := fun q => g (nI_le q (by omega))
    refine fin_i h ?_
    unfold hrB; rw [if_pos (by omega)]
def loN (f : Nat → Nat) (n : Nat) : Nat := if n = 0 then 99999999 else mnF f (n - 1)
def hiN (f : Nat → Nat) (n : Nat) : Nat := if n = 0 then 0 else mxF f (n - 1)
theorem loN_s {f : Nat → Nat} {n : Nat} (h : ∀ p, f p ≤ 800) : loN f (n + 1) = if f n < loN f n then f n else loN f n := by
  unfold loN
  rw [if_neg (by omega), show n + 1 - 1 = n by omega]
  cases n with
  | zero =>
    have := h 0
    rw [if_pos rfl, if_pos (by omega)]; rfl
  | succ n => rw [mnF, if_neg (show ¬ n + 1 = 0 by omega), show n + 1 - 1 = n by omega]
theorem hiN_s {f : Nat → Nat} {n : Nat} : hiN f (n + 1) = if hiN f n < f n then f n else hiN f n := by
  unfold hiN
  rw [if_neg (by omega), show n + 1 - 1 = n by omega]
  cases n with
  | zero =>
    rw [if_pos rfl]
    show f 0 = _
    split <;> omega
  | succ n => rw [mxF, if_neg (show ¬ n + 1 = 0 by omega), show n + 1 - 1 = n by omega]
theorem loN_lt {f : Nat → Nat} {n : Nat} (h : ∀ p, f p ≤ 800) : loN f n < 2 ^ 31 := by
  unfold loN
  have := mnF_le h (n - 1)
  split <;> omega
theorem hiN_lt {f : Nat → Nat} {n : Nat} (h : ∀ p, f p ≤ 800) : hiN f n < 2 ^ 31 := by
  unfold hiN
  have := mxF_le h (n - 1)
  split <;> omega
theorem hrB_one {a p q : Nat} (h : hrB a p = hrB a q) : p = q := by
  unfold hrB at h
  split at h <;> split at h <;> omega
/-- the sum of the jars from m on -/
def bqT (q : Nat → Nat) (d c code m p : Nat) : Nat := fb_sm (fun k => if m ≤ k ∧ dgB d c code k = p then q k else 0) c
theorem bqT_c {q : Nat → Nat} {d c code p : Nat} : bqT q d c code c p = 0 := by
  unfold bqT
  have : fb_sm (fun k => if c ≤ k ∧ dgB d c code k = p then q k else 0) c = fb_sm (fun _ => 0) c := fb_sm_cong (fun k hk => if_neg (by omega))
  rw [this, fb_sm_const, Nat.mul_zero]
theorem bqT_s {q : Nat → Nat} {d c code m p : Nat} (hm : m < c) : bqT q d c code m p = bqT q d c code (m + 1) p + (if dgB d c code m = p then q m else 0) := by
  unfold bqT
  have hu := fb_sm_upd (fun k => if m + 1 ≤ k ∧ dgB d c code k = p then q k else 0) (if dgB d c code m = p then q m else 0) hm
  have e : fb_sm (fun k => if k = m then (if dgB d c code m = p then q m else 0) else (fun k => if m + 1 ≤ k ∧ dgB d c code k = p then q k else 0) k) c = fb_sm (fun k => if m ≤ k ∧ dgB d c code k = p then q k else 0) c := fb_sm_cong (fun k hk => by
    show (if k = m then (if dgB d c code m = p then q m else 0) else (if m + 1 ≤ k ∧ dgB d c code k = p then q k else 0)) = (if m ≤ k ∧ dgB d c code k = p then q k else 0)
    by_cases z : k = m
    · subst z
      rw [if_pos rfl]
      by_cases y : dgB d c code k = p
      · rw [if_pos y, if_pos ⟨Nat.le_refl _, y⟩]
      · rw [if_neg y, if_neg (fun w => y w.2)]
    · rw [if_neg z]
      by_cases y : m + 1 ≤ k ∧ dgB d c code k = p
      · rw [if_pos y, if_pos ⟨by omega, y.2⟩]
      · rw [if_neg y, if_neg (fun w => y ⟨by omega, w.2⟩)])
  rw [e] at hu
  have : (if m + 1 ≤ m ∧ dgB d c code m = p then q m else 0) = 0 := if_neg (by omega)
  rw [this] at hu
  exact hu
theorem bqT_0 {q : Nat → Nat} {d c code p : Nat} : bqT q d c code 0 p = bqF q d c code p := by
  unfold bqT bqF
  exact fb_sm_cong (fun k hk => by simp)
theorem bqT_le {q : Nat → Nat} {d c code m p : Nat} (hq : ∀ k, k < c → q k ≤ 99) (hc : c ≤ 8) : bqT q d c code m p ≤ 800 := by
  have := fb_sm_bound (f := fun k => if m ≤ k ∧ dgB d c code k = p then q k else 0) (c := 99) (n := c) (fun k hk => by
    have := hq k hk
    show (if m ≤ k ∧ dgB d c code k = p then q k else 0) ≤ 99
    split <;> omega)
  unfold bqT
  omega
theorem dv_s {d c code m : Nat} (hm : m < c) : code / d ^ (c - (m + 1)) / d = code / d ^ (c - m) := by
  rw [Nat.div_div_eq_div_mul, ← Nat.pow_succ]
  congr 2
  omega
set_option maxRecDepth 100000 in
set_option maxHeartbeats 2000000 in
theorem m_offBy {σ : Sg} {A : St} {hg a code : Nat} {Q : Option Value → Sg → Prop} (hC : MR σ A hg) (hW : WL A) (ha : a < A 12 5) (h2 : 2 ≤ A 12 5) (hcode : code < 2 ^ 30) (e20 : σ 89 20 = nI (jlN A a)) (e98 : ∀ k, k < jlN A a → σ 98 k = nI (jlJ A a k)) (h : ∀ σ', (∀ c, c ≠ 97 → σ' c = σ c) → Q (some (.int (nI (bqV A a code)))) σ') : MetA mX8_offBy [.ref 89, .int (nI a), .int (nI code)] σ Q := by
  refine MetA_of qX8_offBy (Nat.le_of_ble_eq_true rfl) ?_
  have h4 := hW.2.1
  have h24 := hW.1.1
  have hc8 := jlN_le (A := A) (a := a)
  have hq : ∀ k, k < jlN A a → qB A a k ≤ 99 := fun k hk => qB_le hW.1 hk
  have e7 : σ 89 7 = nI (A 12 5) := hC.2.1.1
  have ed : σ 89 7 - 1 = nI (A 12 5 - 1) := by rw [e7]; exact pk_sub (a := A 12 5) (b := 1) (by omega)
  have hle : ∀ p, bqF (qB A a) (A 12 5 - 1) (jlN A a) code p ≤ 800 := fun p => by rw [← bqT_0]; exact bqT_le hq hc8
  -- least and greatest
  have r96 : ∀ m g σ' (u3 : Int32), g + m = A 12 5 → (∀ p, p < A 12 5 - 1 → σ' 97 (hrB a p) = nI (bqF (qB A a) (A 12 5 - 1) (jlN A a) code p)) → (∀ c, c ≠ 97 → σ' c = σ c) → V mX8_offBy 96 [(0, .ref 89), (1, .int (nI a)), (2, .int (nI code)), (3, .int u3), (4, .int (nI (loN (bqF (qB A a) (A 12 5 - 1) (jlN A a) code) (if g ≤ a then g else g - 1)))), (5, .int (nI (hiN (bqF (qB A a) (A 12 5 - 1) (jlN A a) code) (if g ≤ a then g else g - 1)))), (6, .int (nI g))] [] σ' Q := by
    intro m
    induction m with
    | zero =>
      intro g σ' u3 hg1 hs hF
      have hg1 : g = A 12 5 := by omega
      subst hg1
      refine wpB_sd (stops := [96]) kX8_offBy 30 _ _ _ _ ?_
      refine br_t (by rw [hF 89 (by omega), e7]; exact nI_le (by omega) (by omega)) ?_
      refine fin_i (h σ' hF) ?_
      rw [if_neg (by omega)]
      unfold loN hiN
      rw [if_neg (by omega), if_neg (by omega), pk_sub (mnx_le _)]
      rfl
    | succ m ih =>
      intro g σ' u3 hg1 hs hF
      have hlo := loN_lt (n := if g ≤ a then g else g - 1) hle
      have hhi := hiN_lt (n := if g ≤ a then g else g - 1) hle
      have hp4 : g ≠ a → (if g ≤ a then g else g - 1) < A 12 5 - 1 := fun q => by split <;> omega
      have hpg : g ≠ a → hrB a (if g ≤ a then g else g - 1) = g := fun q => by
        unfold hrB
        split <;> split <;> omega
      have hpn : g ≠ a → (if g + 1 ≤ a then g + 1 else g + 1 - 1) = (if g ≤ a then g else g - 1) + 1 := fun q => by split <;> split <;> omega
      have hpe : g = a → (if g + 1 ≤ a then g + 1 else g + 1 - 1) = (if g ≤ a then g else g - 1) := fun q => by split <;> split <;> omega
      have hsg : g ≠ a → σ' 97 g = nI (bqF (qB A a) (A 12 5 - 1) (jlN A a) code (if g ≤ a then g else g - 1)) := fun q => by
        have := hs _ (hp4 q)
        rw [hpg q] at this
        exact this
      have hfp := hle (if g ≤ a then g else g - 1)
      generalize hcn : (if g ≤ a then g else g - 1) = n at *
      -- the end of the round
      have at167 : ∀ u4 u5 : Int32, u4 = nI (loN (bqF (qB A a) (A 12 5 - 1) (jlN A a) code) (if g + 1 ≤ a then g + 1 else g + 1 - 1)) → u5 = nI (hiN (bqF (qB A a) (A 12 5 - 1) (jlN A a) code) (if g + 1 ≤ a then g + 1 else g + 1 - 1)) → ∀ v5 : Value, V mX8_offBy 167 [(0, .ref 89), (1, .int (nI a)), (2, .int (nI code)), (3, .int u3), (4, .int u4), (5, v5), (6, .int (nI g))] [.int u5] σ' Q := by
        intro u4 u5 h4' h5' v5
        subst h4' h5'
        refine wpB_sd (stops := [96]) kX8_offBy 30 _ _ _ _ ?_
        have nxt := ih (g + 1) σ' u3 (by omega) hs hF
        rw [← nI_1 g] at nxt
        exact nxt
      have at135 : ∀ u4 : Int32, u4 = nI (loN (bqF (qB A a) (A 12 5 - 1) (jlN A a) code) (if g + 1 ≤ a then g + 1 else g + 1 - 1)) → ∀ v4 : Value, V mX8_offBy 135 [(0, .ref 89), (1, .int (nI a)), (2, .int (nI code)), (3, .int u3), (4, v4), (5, .int (nI (hiN (bqF (qB A a) (A 12 5 - 1) (jlN A a) code) n))), (6, .int (nI g))] [.int u4] σ' Q := by
        intro u4 h4' v4
        refine wpB_sd (stops := [167]) kX8_offBy 30 _ _ _ _ ?_
        refine ⟨fun gz => at167 _ _ h4' ?_ _, fun gz => ?_⟩
        · rw [hpe ((nI_eq (by omega) (by omega)).mp gz)]
        · have gz : g ≠ a := fun q => gz (by rw [q])
          refine ald (n := 4) (j := g) rfl rfl (by omega) (hsg gz) ?_
          refine ⟨fun gy => at167 _ _ h4' ?_ _, fun gy => ?_⟩
          · have gy := (nI_leI (by omega) (by omega)).mp gy
            rw [hpn gz, hiN_s, if_neg (by omega)]
          · have gy : ¬ bqF (qB A a) (A 12 5 - 1) (jlN A a) code n ≤ hiN (bqF (qB A a) (A 12 5 - 1) (jlN A a) code) n := fun q => gy (nI_le q (by omega))
            refine ald (n := 4) (j := g) rfl rfl (by omega) (hsg gz) ?_
            refine at167 _ _ h4' ?_ _
            rw [hpn gz, hiN_s, if_pos (by omega)]
      refine wpB_sd (stops := [135]) kX8_offBy 30 _ _ _ _ ?_
      refine br_f (by rw [hF 89 (by omega), e7]; exact nI_ge (by omega) (by omega)) ?_
      refine ⟨fun gz => at135 _ ?_ _, fun gz => ?_⟩
      · rw [hpe ((nI_eq (by omega) (by omega)).mp gz)]
      · have gz : g ≠ a := fun q => gz (by rw [q])
        refine ald (n := 4) (j := g) rfl rfl (by omega) (hsg gz) ?_
        refine ⟨fun gy => at135 _ ?_ _, fun gy => ?_⟩
        · have gy := (nI_leI (by omega) (by omega)).mp gy
          rw [hpn gz, loN_s hle, if_neg (by omega)]
        · have gy : ¬ loN (bqF (qB A a) (A 12 5 - 1) (jlN A a) code) n ≤ bqF (qB A a) (A 12 5 - 1) (jlN A a) code n := fun q => gy (nI_le q (by omega))
          refine ald (n := 4) (j := g) rfl rfl (by omega) (hsg gz) ?_
          refine at135 _ ?_ _
          rw [hpn gz, loN_s hle, if_pos (by omega)]
  -- the sums
  have r30 : ∀ m σ', m ≤ jlN A a → (∀ p, p < A 12 5 - 1 → σ' 97 (hrB a p) = nI (bqT (qB A a) (A 12 5 - 1) (jlN A a) code m p)) → (∀ c, c ≠ 97 → σ' c = σ c) → ∀ v, v = nI m - 1 → V mX8_offBy 30 [(0, .ref 89), (1, .int (nI a)), (2, .int (nI code)), (3, .int (nI (code / (A 12 5 - 1) ^ (jlN A a - m)))), (4, .int v)] [] σ' Q := by
    intro m
    induction m with
    | zero =>
      intro σ' hm hs hF v hv
      subst hv
      refine wpB_sd (stops := [30, 96]) kX8_offBy 30 _ _ _ _ ?_
      refine br_t (by decide) ?_
      have nxt := r96 (A 12 5) 0 σ' (nI (code / (A 12 5 - 1) ^ (jlN A a - 0))) (by omega) (fun p hp => by rw [hs p hp, bqT_0]) hF
      rw [if_pos (by omega)] at nxt
      exact nxt
    | succ m ih =>
      intro σ' hm hs hF v hv
      have hv := nI_s1 hv
      subst hv
      have hdl := dg_lt (d := A 12 5 - 1) (c := jlN A a) (code := code) (i := m) (by omega)
      have hdg : code / (A 12 5 - 1) ^ (jlN A a - (m + 1)) % (A 12 5 - 1) = dgB (A 12 5 - 1) (jlN A a) code m := by
        unfold dgB
        rw [show jlN A a - 1 - m = jlN A a - (m + 1) by omega]
      have hrest : code / (A 12 5 - 1) ^ (jlN A a - (m + 1)) < 2 ^ 30 := Nat.lt_of_le_of_lt (Nat.div_le_self _ _) hcode
      have hr4 : hrB a (dgB (A 12 5 - 1) (jlN A a) code m) < 4 := by unfold hrB; split <;> omega
      have hbt := bqT_le (d := A 12 5 - 1) (code := code) (m := m + 1) (p := dgB (A 12 5 - 1) (jlN A a) code m) hq hc8
      have hj := (jl_in (A := A) (a := a) (k := m) (by omega)).1
      have hqm := hq m (by omega)
      have hw72 : σ' 90 (72 + jlJ A a m) = nI (qB A a m) := by
        rw [hF 90 (by omega)]
        have := (hC.1.2.2.2.2.1 _ hj).2.2.2.1
        rw [Nat.zero_add] at this
        exact this
      have ed' : σ' 89 7 - 1 = nI (A 12 5 - 1) := by rw [hF 89 (by omega)]; exact ed
      have hne : ¬ σ' 89 7 - 1 = 0 := by rw [ed']; exact nI_ne0 (by omega) (by omega)
      refine wpB_sd (stops := [30]) kX8_offBy 60 _ _ _ _ ?_
      refine br_f (nI_pos (by omega)) ?_
      refine ⟨hne, ?_⟩
      refine mAr (by rw [ed', pk_rem (by omega) (by omega) (by omega), hdg]) (m_other (a := a) (p := dgB (A 12 5 - 1) (jlN A a) code m) (by omega) (by omega) ?_)
      refine ald (n := 4) (j := hrB a (dgB (A 12 5 - 1) (jlN A a) code m)) rfl rfl hr4 (hs _ hdl) ?_
      refine ald (n := 8) (j := m) rfl rfl (by omega) (v := nI (jlJ A a m)) (by rw [hF 98 (by omega)]; exact e98 m (by omega)) ?_
      refine ald (n := 800) (j := 72 + jlJ A a m) rfl (by simp only [fa_lit, nI_add]) (by omega) hw72 ?_
      refine ast (n := 4) (j := hrB a (dgB (A 12 5 - 1) (jlN A a) code m)) rfl rfl hr4 ?_
      rw [nI_add]
      have hF' : ∀ c, c ≠ 97 → sgu σ' 97 (hrB a (dgB (A 12 5 - 1) (jlN A a) code m)) (nI (bqT (qB A a) (A 12 5 - 1) (jlN A a) code (m + 1) (dgB (A 12 5 - 1) (jlN A a) code m) + qB A a m)) c = σ c := fun c hc => by rw [sgu_c hc]; exact hF c hc
      refine ⟨by rw [sgu_c (by omega)]; exact hne, ?_⟩
      have nxt := ih _ (by omega) (fun p hp => ?_) hF' _ (nI_d1 (m := m))
      · rw [← dv_s (show m < jlN A a by omega), ← pk_div (by omega) (by omega) (by omega), ← ed', ← sgu_c (σ := σ') (c := 97) (c' := 89) (k := hrB a (dgB (A 12 5 - 1) (jlN A a) code m)) (v := nI (bqT (qB A a) (A 12 5 - 1) (jlN A a) code (m + 1) (dgB (A 12 5 - 1) (jlN A a) code m) + qB A a m)) (by omega)] at nxt
        exact nxt
      · rw [bqT_s (show m < jlN A a by omega)]
        by_cases z : p = dgB (A 12 5 - 1) (jlN A a) code m
        · subst z; rw [sgu_s, if_pos rfl]
        · rw [sgu_k (fun y => z (hrB_one y)), if_neg (fun y => z y.symm), Nat.add_zero]; exact hs p hp
  have r2 : ∀ m g σ', g + m = 4 → (∀ k, k < g → σ' 97 k = nI 0) → (∀ c, c ≠ 97 → σ' c = σ c) → V mX8_offBy 2 [(0, .ref 89), (1, .int (nI a)), (2, .int (nI code)), (3, .int (nI g))] [] σ' Q := by
    intro m
    induction m with
    | zero =>
      intro g σ' hg1 hs hF
      have hg1 : g = 4 := by omega
      subst hg1
      refine wpB_sd (stops := [2, 30]) kX8_offBy 30 _ _ _ _ ?_
      refine br_t (by decide) ?_
      have nxt := r30 (jlN A a) σ' (Nat.le_refl _) (fun p hp => by rw [bqT_c]; exact hs _ (by unfold hrB; split <;> omega)) hF (nI (jlN A a) - 1) rfl
      rw [Nat.sub_self, Nat.pow_zero, Nat.div_one, ← e20, ← hF 89 (by omega)] at nxt
      exact nxt
    | succ m ih =>
      intro g σ' hg1 hs hF
      refine wpB_sd (stops := [2]) kX8_offBy 30 _ _ _ _ ?_
      refine br_f (nI_ge (a := g) (b := 4) (by omega) (by omega)) ?_
      refine ast (n := 4) (j := g) rfl rfl (by omega) ?_
      have nxt := ih (g + 1) (sgu σ' 97 g 0) (by omega) (fun k hk => by
        by_cases z : k = g
        · subst z; rw [sgu_s]; rfl
        · rw [sgu_k z]; exact hs k (by omega)) (fun c hc => by rw [sgu_c hc]; exact hF c hc)
      rw [← nI_1] at nxt
      exact nxt
  refine wpB_sd (stops := [2]) kX8_offBy 30 _ _ _ _ ?_
  exact r2 4 0 σ rfl (fun k hk => by omega) (fun _ _ => rfl)
