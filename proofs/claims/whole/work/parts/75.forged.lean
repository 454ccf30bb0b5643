/-! forged -/
abbrev FP (A B : St) (i : Nat) : Prop := B 0 i < A 12 0 ∧ B 1 i < A 12 0 ∧ A 2 (B 1 i) ≤ A 2 (B 0 i)
def Hit (A B : St) (n S : Nat) : Prop := ∀ i, i < n → FP A B i → S.testBit (B 0 i) = true ∨ S.testBit (B 1 i) = true
def KL (S T : Nat) : Prop := pcN S < pcN T ∨ (pcN S = pcN T ∧ S ≤ T)
def IsF (A B : St) (S : Nat) : Prop := S < 2 ^ 24 ∧ Hit A B (B 4 0) S ∧ ∀ T, T < 2 ^ 24 → Hit A B (B 4 0) T → KL S T
theorem IsF_one {A B : St} {S T : Nat} (hS : IsF A B S) (hT : IsF A B T) : S = T := by
  have h1 := hS.2.2 T hT.1 hT.2.1
  have h2 := hT.2.2 S hS.1 hS.2.1
  unfold KL at h1 h2
  omega
theorem KL_sub {S T : Nat} (h : ∀ k, S.testBit k = true → T.testBit k = true) : KL S T := by
  have h1 : S &&& T = S := by
    apply Nat.eq_of_testBit_eq
    intro k
    rw [Nat.testBit_and]
    cases q : S.testBit k with
    | false => rfl
    | true => rw [h k q]; rfl
  have h2 : S ≤ T := by rw [← h1]; exact Nat.and_le_right
  have h3 : pcN S ≤ pcN T := fb_ct_sub (fun k _ q => h k q)
  unfold KL
  omega
theorem KL_tr {S T U : Nat} (h : KL S T) (h2 : KL T U) : KL S U := by
  unfold KL at *
  omega
theorem KL_rf {S : Nat} : KL S S := Or.inr ⟨rfl, Nat.le_refl _⟩
/-- the best of the first n codes so far -/
def BF (f : Nat → Nat) (n b w : Nat) : Prop := ∃ c, c < n ∧ b = f c ∧ w = pcN b ∧ ∀ c', c' < n → KL b (f c')
theorem BF_s0 {f : Nat → Nat} {n b w : Nat} (h : BF f n b w) (h2 : ¬ (pcN (f n) < w ∨ (pcN (f n) = w ∧ f n < b))) : BF f (n + 1) b w := by
  obtain ⟨c, h3, h4, h5, h6⟩ := h
  refine ⟨c, by omega, h4, h5, fun c' hc => ?_⟩
  by_cases q : c' = n
  · subst q; unfold KL; omega
  · exact h6 c' (by omega)
theorem BF_s1 {f : Nat → Nat} {n b w : Nat} (h : n = 0 ∨ BF f n b w) (h2 : pcN (f n) < w ∨ (pcN (f n) = w ∧ f n < b)) : BF f (n + 1) (f n) (pcN (f n)) := by
  refine ⟨n, by omega, rfl, rfl, fun c' hc => ?_⟩
  by_cases q : c' = n
  · subst q; exact KL_rf
  · rcases h with h | ⟨c, h3, h4, h5, h6⟩
    · omega
    · refine KL_tr ?_ (h6 c' (by omega))
      unfold KL; omega
def clS (B : St) (c : Nat → Nat) (code : Nat) : Nat → Nat
  | 0 => 0
  | n + 1 => clS B c code n ||| 2 ^ (if code.testBit n = true then B 1 (c n) else B 0 (c n))
theorem clS_lt {B : St} {c : Nat → Nat} {code : Nat} : ∀ {n : Nat}, (∀ k, k < n → B 0 (c k) < 24 ∧ B 1 (c k) < 24) → clS B c code n < 2 ^ 24
  | 0, _ => by simp [clS]
  | n + 1, h => by
    rw [clS]
    refine Nat.or_lt_two_pow (clS_lt (fun k hk => h k (by omega))) (Nat.pow_lt_pow_right (by omega) ?_)
    have := h n (by omega)
    split <;> omega
theorem clS_has {B : St} {c : Nat → Nat} {code : Nat} : ∀ {n k : Nat}, k < n → (clS B c code n).testBit (B 0 (c k)) = true ∨ (clS B c code n).testBit (B 1 (c k)) = true
  | 0, k, h => absurd h (by omega)
  | n + 1, k, h => by
    rw [clS, fb_bit_set, fb_bit_set]
    by_cases q : k = n
    · subst q
      split
      · exact Or.inr (by simp)
      · exact Or.inl (by simp)
    · rcases clS_has (B := B) (c := c) (code := code) (show k < n by omega) with z | z
      · exact Or.inl (by rw [z]; rfl)
      · exact Or.inr (by rw [z]; rfl)
theorem clS_in {B : St} {c : Nat → Nat} {code T : Nat} : ∀ {n : Nat}, (∀ k, k < n → T.testBit (if code.testBit k = true then B 1 (c k) else B 0 (c k)) = true) → ∀ j, (clS B c code n).testBit j = true → T.testBit j = true
  | 0, _, j, h => by simp [clS] at h
  | n + 1, hk, j, h => by
    rw [clS, fb_bit_set, Bool.or_eq_true, decide_eq_true_eq] at h
    rcases h with h | h
    · exact clS_in (fun k q => hk k (by omega)) j h
    · subst h; exact hk n (by omega)
theorem clS_IsF {A B : St} {c : Nat → Nat} {w b v : Nat} (hw : w ≤ 12) (hWB : WB B) (h1 : ∀ k, k < w → c k < B 4 0 ∧ FP A B (c k)) (h2 : ∀ i, i < B 4 0 → FP A B i → ∃ k, k < w ∧ c k = i) (hb : BF (fun code => clS B c code w) (2 ^ w) b v) : IsF A B b := by
  obtain ⟨c0, h3, h4, h5, h6⟩ := hb
  have hlt : ∀ k, k < w → B 0 (c k) < 24 ∧ B 1 (c k) < 24 := fun k hk => hWB.2.2.1 (c k) (h1 k hk).1
  refine ⟨by rw [h4]; exact clS_lt hlt, fun i hi hf => ?_, fun T hT hH => ?_⟩
  · obtain ⟨k, hk, e⟩ := h2 i hi hf
    have := clS_has (B := B) (c := c) (code := c0) hk
    rw [e] at this
    rw [h4]; exact this
  · have hc := h6 (bset (fun k => if T.testBit (B 0 (c k)) = true then 0 else 1) w) (bset_lt _ _)
    refine KL_tr hc (KL_sub (clS_in (fun k hk => ?_)))
    rw [bset_bit]
    by_cases q : T.testBit (B 0 (c k)) = true
    · simp [q]
    · have := (hH (c k) (h1 k hk).1 (h1 k hk).2).resolve_left q
      simp [q, hk, this]
def rfS (A B : St) (code : Nat) : Nat → Nat
  | 0 => 0
  | n + 1 => if FP A B n ∧ ¬ (rfS A B code n).testBit (B 0 n) = true ∧ ¬ (rfS A B code n).testBit (B 1 n) = true then rfS A B code n ||| 2 ^ (if code.testBit n = true then B 1 n else B 0 n) else rfS A B code n
theorem rfS_lt {A B : St} {code : Nat} : ∀ {n : Nat}, (∀ k, k < n → B 0 k < 24 ∧ B 1 k < 24) → rfS A B code n < 2 ^ 24
  | 0, _ => by simp [rfS]
  | n + 1, h => by
    rw [rfS]
    have ih := rfS_lt (A := A) (code := code) (fun k hk => h k (show k < n + 1 by omega) : ∀ k, k < n → B 0 k < 24 ∧ B 1 k < 24)
    split
    · refine Nat.or_lt_two_pow ih (Nat.pow_lt_pow_right (by omega) ?_)
      have := h n (by omega)
      split <;> omega
    · exact ih
theorem rfS_hit {A B : St} {code : Nat} : ∀ {n : Nat}, Hit A B n (rfS A B code n)
  | 0 => fun i hi => absurd hi (by omega)
  | n + 1 => fun i hi hf => by
    rw [rfS]
    by_cases q : i = n
    · subst q
      split
      · rw [fb_bit_set, fb_bit_set]
        split
        · exact Or.inr (by simp)
        · exact Or.inl (by simp)
      · next hc =>
        by_cases z : (rfS A B code i).testBit (B 0 i) = true
        · exact Or.inl z
        · by_cases y : (rfS A B code i).testBit (B 1 i) = true
          · exact Or.inr y
          · exact absurd ⟨hf, z, y⟩ hc
    · have := rfS_hit (A := A) (B := B) (code := code) (n := n) i (by omega) hf
      split
      · rw [fb_bit_set, fb_bit_set]
        rcases this with z | z
        · exact Or.inl (by rw [z]; rfl)
        · exact Or.inr (by rw [z]; rfl)
      · exact this
theorem rfS_in {A B : St} {code T : Nat} : ∀ {n : Nat}, (∀ k, k < n → FP A B k → T.testBit (if code.testBit k = true then B 1 k else B 0 k) = true) → ∀ j, (rfS A B code n).testBit j = true → T.testBit j = true
  | 0, _, j, h => by simp [rfS] at h
  | n + 1, hk, j, h => by
    rw [rfS] at h
    split at h
    · next hc =>
      rw [fb_bit_set, Bool.or_eq_true, decide_eq_true_eq] at h
      rcases h with h | h
      · exact rfS_in (fun k q => hk k (by omega)) j h
      · subst h; exact hk n (by omega) hc.1
    · exact rfS_in (fun k q => hk k (by omega)) j h
theorem rfS_IsF {A B : St} {b v : Nat} (hWB : WB B) (hb : BF (fun code => rfS A B code (B 4 0)) (2 ^ (B 4 0)) b v) : IsF A B b := by
  obtain ⟨c0, h3, h4, h5, h6⟩ := hb
  refine ⟨by rw [h4]; exact rfS_lt hWB.2.2.1, by rw [h4]; exact rfS_hit, fun T hT hH => ?_⟩
  have hc := h6 (bset (fun k => if T.testBit (B 0 k) = true then 0 else 1) (B 4 0)) (bset_lt _ _)
  refine KL_tr hc (KL_sub (rfS_in (fun k hk hf => ?_)))
  rw [bset_bit]
  by_cases q : T.testBit (B 0 k) = true
  · simp [q]
  · have := (hH k hk hf).resolve_left q
    simp [q, hk, this]
set_option maxRecDepth 100000 in
set_option maxHeartbeats 1000000 in
theorem s_contra {σ : Sg} {A B : St} {Q : Option Value → Sg → Prop} (hR : RCel 7 σ A) (hW : WJ A) (hB : RCb σ B) (hWB : WB B) (h : ∀ (σ' : Sg) (w : Nat) (c : Nat → Nat), w ≤ 12 → (∀ k, k < w → c k < B 4 0 ∧ FP A B (c k)) → (∀ i, i < B 4 0 → FP A B i → ∃ k, k < w ∧ c k = i) → (∀ k, k < w → σ' 84 k = nI (c k)) → FrC 84 84 σ σ' → Q (some (.int (nI w))) σ') : MetA mX3_findContradicted [.ref 81, .ref 7] σ Q := by
  refine MetA_of qX3_findContradicted (Nat.le_of_ble_eq_true rfl) ?_
  have hB0 := hWB.1
  have h24 := hW.1
  have loop : ∀ (m i w : Nat) (c : Nat → Nat) (σ' : Sg), i + m = B 4 0 → w ≤ i → (∀ k, k < w → c k < i ∧ FP A B (c k)) → (∀ j, j < i → FP A B j → ∃ k, k < w ∧ c k = j) → (∀ k, k < w → σ' 84 k = nI (c k)) → FrC 84 84 σ σ' → V mX3_findContradicted 4 [(0, .ref 81), (1, .ref 7), (2, .int (nI w)), (3, .int (nI i))] [] σ' Q := by
    intro m
    induction m with
    | zero =>
      intro i w c σ' hi hw h1 h2 h3 hF
      have hi : i = B 4 0 := by omega
      subst hi
      refine wpB_sd (stops := [4]) kX3_findContradicted 30 _ _ _ _ ?_
      refine br_t (by rw [hF 81 (by omega), hB.1]; exact nI_le (by omega) (by omega)) ?_
      exact h σ' w c (by omega) h1 h2 h3 hF
    | succ m ih =>
      intro i w c σ' hi hw h1 h2 h3 hF
      have hwb := hWB.2.2.1 i (by omega)
      have he : σ' 82 i = nI (B 0 i) := by rw [hF 82 (by omega)]; exact (hB.2.1 i (by omega)).1
      have hy : σ' 83 i = nI (B 1 i) := by rw [hF 83 (by omega)]; exact (hB.2.1 i (by omega)).2
      have hR' : RCel 7 σ' A := hR.fr (fun c a b => hF c (by omega))
      have adv : ∀ (w' : Nat) (c' : Nat → Nat) (σ'' : Sg), w' ≤ i + 1 → (∀ k, k < w' → c' k < i + 1 ∧ FP A B (c' k)) → (∀ j, j < i + 1 → FP A B j → ∃ k, k < w' ∧ c' k = j) → (∀ k, k < w' → σ'' 84 k = nI (c' k)) → FrC 84 84 σ σ'' → V mX3_findContradicted 73 [(0, .ref 81), (1, .ref 7), (2, .int (nI w')), (3, .int (nI i))] [] σ'' Q := by
        intro w' c' σ'' a1 a2 a3 a4 a5
        refine wpB_sd (stops := [4]) kX3_findContradicted 30 _ _ _ _ ?_
        have nxt := ih (i + 1) w' c' σ'' (by omega) a1 a2 a3 a4 a5
        rw [← nI_1] at nxt
        exact nxt
      have skip : ¬ FP A B i → V mX3_findContradicted 73 [(0, .ref 81), (1, .ref 7), (2, .int (nI w)), (3, .int (nI i))] [] σ' Q := by
        intro q
        exact adv w c σ' (by omega) (fun k hk => ⟨by have := (h1 k hk).1; omega, (h1 k hk).2⟩) (fun j hj hf => by
          by_cases z : j = i
          · subst z; exact absurd hf q
          · exact h2 j (by omega) hf) h3 hF
      refine wpB_sd (stops := [4, 73]) kX3_findContradicted 60 _ _ _ _ ?_
      refine br_f (by rw [hF 81 (by omega), hB.1]; exact nI_ge (by omega) (by omega)) ?_
      refine ald (n := 12) (j := i) rfl rfl (by omega) he ?_
      refine ald (n := 12) (j := i) rfl rfl (by omega) hy ?_
      refine s_has (Or.inl rfl) ?_
      rw [hR'.1]
      refine ⟨fun g => V.take 4 (skip (fun q => bI_0.mp g ((ix_iff (by omega)).mpr ⟨_, q.1, rfl⟩))), fun g => ?_⟩
      have g1 : B 0 i < A 12 0 := (nI_ltI (by omega) (by omega)).mp (bI_n0 g).2
      refine s_has (Or.inl rfl) ?_
      rw [hR'.1]
      refine ⟨fun g => V.take 4 (skip (fun q => bI_0.mp g ((ix_iff (by omega)).mpr ⟨_, q.2.1, rfl⟩))), fun g => ?_⟩
      have g2 : B 1 i < A 12 0 := (nI_ltI (by omega) (by omega)).mp (bI_n0 g).2
      have d1 := (hW.2.2 _ g1).2.2.1
      have d2 := (hW.2.2 _ g2).2.2.1
      refine ald (n := 24) (j := B 0 i) rfl rfl (by omega) (hR'.2.2 _ g1).2.2.1 ?_
      refine ald (n := 24) (j := B 1 i) rfl rfl (by omega) (hR'.2.2 _ g2).2.2.1 ?_
      refine ⟨fun g => V.take 4 (skip (fun q => by have := (nI_ltI (by omega) (by omega)).mp g; have := q.2.2; omega)), fun g => ?_⟩
      have g3 : ¬ A 2 (B 0 i) < A 2 (B 1 i) := fun q => g (nI_lt q (by omega))
      refine ast (n := 12) (j := w) rfl rfl (by omega) ?_
      have nxt := adv (w + 1) (fun k => if k = w then i else c k) (sgu σ' 84 w (nI i)) (by omega) (fun k hk => ?_) (fun j hj hf => ?_) (fun k hk => ?_) (fun c hc => by rw [sgu_c (by omega)]; exact hF c hc)
      · rw [← nI_1] at nxt
        exact V.take 4 nxt
      · by_cases z : k = w
        · simp only [z, if_pos]; exact ⟨by omega, g1, g2, by omega⟩
        · simp only [if_neg z]; have := h1 k (by omega); exact ⟨by omega, this.2⟩
      · by_cases z : j = i
        · exact ⟨w, by omega, by simp [z]⟩
        · obtain ⟨k, a, b⟩ := h2 j (by omega) hf
          exact ⟨k, by omega, by simp only [if_neg (show ¬ k = w by omega)]; exact b⟩
      · by_cases z : k = w
        · subst z; rw [sgu_s, if_pos rfl]
        · rw [sgu_k z, if_neg z]; exact h3 k (by omega)
  refine wpB_sd (stops := [4]) kX3_findContradicted 30 _ _ _ _ ?_
  exact loop (B 4 0) 0 0 (fun _ => 0) σ (by omega) (by omega) (fun k hk => by omega) (fun j hj => by omega) (fun k hk => by omega) (fun _ _ => rfl)
set_option maxRecDepth 100000 in
set_option maxHeartbeats 2000000 in
theorem s_fewest {σ : Sg} {A B : St} {Q : Option Value → Sg → Prop} (hR : RCel 7 σ A) (hW : WJ A) (hB : RCb σ B) (hWB : WB B) (h : ∀ σ' b, IsF A B b → FrC 84 84 σ σ' → Q (some (.int (nI b))) σ') : MetA mX3_fewestForged [.ref 81, .ref 7] σ Q := by
  refine MetA_of qX3_fewestForged (Nat.le_of_ble_eq_true rfl) ?_
  have h24 := hW.1
  refine wpB_sd (stops := [15]) kX3_fewestForged 30 _ _ _ _ ?_
  refine s_contra hR hW hB hWB (fun σ1 w c hw h1 h2 h3 hF => ?_)
  have hpw : (2 : Nat) ^ w ≤ 2 ^ 12 := Nat.pow_le_pow_right (by omega) hw
  have hlt : ∀ k, k < w → B 0 (c k) < 24 ∧ B 1 (c k) < 24 := fun k hk => hWB.2.2.1 (c k) (h1 k hk).1
  have hB0 := hWB.1
  -- the set of a choice
  have inner : ∀ code b v, code < 2 ^ w → (∀ S, S = clS B c code w → V mX3_fewestForged 84 [(0, .ref 81), (1, .ref 7), (2, .int (nI w)), (3, .int b), (4, .int v), (5, .int (nI code)), (6, .int (nI S))] [] σ1 Q) → ∀ m i, i + m = w → V mX3_fewestForged 29 [(0, .ref 81), (1, .ref 7), (2, .int (nI w)), (3, .int b), (4, .int v), (5, .int (nI code)), (6, .int (nI (clS B c code i))), (7, .int (nI i))] [] σ1 Q := by
    intro code b v hcode hnx m
    induction m with
    | zero =>
      intro i hi
      have hi : i = w := by omega
      subst hi
      refine wpB_sd (stops := [29, 84]) kX3_fewestForged 30 _ _ _ _ ?_
      refine br_t (nI_le (by omega) (by omega)) ?_
      exact V.take 7 (hnx _ rfl)
    | succ m ih =>
      intro i hi
      have hci := (h1 i (by omega)).1
      have hwb := hlt i (by omega)
      have he : σ1 82 (c i) = nI (B 0 (c i)) := by rw [hF 82 (by omega)]; exact (hB.2.1 _ hci).1
      have hy : σ1 83 (c i) = nI (B 1 (c i)) := by rw [hF 83 (by omega)]; exact (hB.2.1 _ hci).2
      have at74 : ∀ u : Int32, u = nI (if code.testBit i = true then B 1 (c i) else B 0 (c i)) → V mX3_fewestForged 74 [(0, .ref 81), (1, .ref 7), (2, .int (nI w)), (3, .int b), (4, .int v), (5, .int (nI code)), (6, .int (nI (clS B c code i))), (7, .int (nI i)), (8, .int (nI (c i)))] [.int u, .int 1, .int (nI (clS B c code i))] σ1 Q := by
        intro u hu
        subst hu
        refine wpB_sd (stops := [29]) kX3_fewestForged 30 _ _ _ _ ?_
        have nxt := ih (i + 1) (by omega)
        rw [clS, ← nI_1, ← or_bit (by split <;> omega)] at nxt
        exact V.take 8 nxt
      refine wpB_sd (stops := [29, 74]) kX3_fewestForged 30 _ _ _ _ ?_
      refine br_f (nI_ge (by omega) (by omega)) ?_
      refine ald (n := 12) (j := i) rfl rfl (by omega) (h3 i (by omega)) ?_
      refine ⟨fun g => ?_, fun g => ?_⟩
      · refine ald (n := 12) (j := c i) rfl rfl (by omega) hy ?_
        refine at74 _ ?_
        have q : code.testBit i = true := by
          cases z : code.testBit i with
          | true => rfl
          | false => exact absurd ((gbit0 (by omega) (by omega)).mpr z) g
        rw [if_pos q]
      · refine ald (n := 12) (j := c i) rfl rfl (by omega) he ?_
        refine at74 _ ?_
        have q := (gbit0 (by omega) (by omega)).mp g
        rw [if_neg (by rw [q]; decide)]
  have outer : ∀ m code b v, code + m = 2 ^ w → b < 2 ^ 24 → v < 2 ^ 31 → (code = 0 → v = 1000000000) → (0 < code → BF (fun cd => clS B c cd w) code b v) → V mX3_fewestForged 15 [(0, .ref 81), (1, .ref 7), (2, .int (nI w)), (3, .int (nI b)), (4, .int (nI v)), (5, .int (nI code))] [] σ1 Q := by
    intro m
    induction m with
    | zero =>
      intro code b v hc hb hv h0 hs
      have hc : code = 2 ^ w := by omega
      subst hc
      refine wpB_sd (stops := [15]) kX3_fewestForged 30 _ _ _ _ ?_
      refine br_t (by rw [one_shl (by omega)]; exact nI_le (by omega) (by omega)) ?_
      exact h σ1 b (clS_IsF hw hWB h1 h2 (hs (Nat.two_pow_pos w))) hF
    | succ m ih =>
      intro code b v hc hb hv h0 hs
      have hle := fb_ct_le (fun k => (clS B c code w).testBit k) 24
      have hSl := clS_lt (code := code) hlt
      have at118 : ∀ b' v', b' < 2 ^ 24 → v' < 2 ^ 31 → BF (fun cd => clS B c cd w) (code + 1) b' v' → ∀ l6 l7 : Value, V mX3_fewestForged 118 [(0, .ref 81), (1, .ref 7), (2, .int (nI w)), (3, .int (nI b')), (4, .int (nI v')), (5, .int (nI code)), (6, l6), (7, l7)] [] σ1 Q := by
        intro b' v' hb' hv' hB' l6 l7
        refine wpB_sd (stops := [15]) kX3_fewestForged 30 _ _ _ _ ?_
        have nxt := ih (code + 1) b' v' (by omega) hb' hv' (by omega) (fun _ => hB')
        rw [← nI_1] at nxt
        exact V.take 6 nxt
      refine wpB_sd (stops := [15, 29]) kX3_fewestForged 30 _ _ _ _ ?_
      refine br_f (by rw [one_shl (by omega)]; exact nI_ge (by omega) (by omega)) ?_
      refine inner code (nI b) (nI v) (by omega) (fun S hS => ?_) w 0 (by omega)
      subst hS
      have upd : (pcN (clS B c code w) < v ∨ (pcN (clS B c code w) = v ∧ clS B c code w < b)) → V mX3_fewestForged 111 [(0, .ref 81), (1, .ref 7), (2, .int (nI w)), (3, .int (nI b)), (4, .int (nI v)), (5, .int (nI code)), (6, .int (nI (clS B c code w))), (7, .int (nI (pcN (clS B c code w))))] [] σ1 Q := by
        intro q
        refine wpB_sd (stops := [118]) kX3_fewestForged 30 _ _ _ _ ?_
        refine at118 _ _ hSl (by unfold pcN; omega) (BF_s1 (f := fun cd => clS B c cd w) (b := b) (w := v) ?_ q) _ _
        rcases Nat.eq_zero_or_pos code with z | z
        · exact Or.inl z
        · exact Or.inr (hs z)
      have old : ¬ (pcN (clS B c code w) < v ∨ (pcN (clS B c code w) = v ∧ clS B c code w < b)) → V mX3_fewestForged 118 [(0, .ref 81), (1, .ref 7), (2, .int (nI w)), (3, .int (nI b)), (4, .int (nI v)), (5, .int (nI code)), (6, .int (nI (clS B c code w))), (7, .int (nI (pcN (clS B c code w))))] [] σ1 Q := by
        intro q
        refine at118 b v hb hv (BF_s0 (hs ?_) q) _ _
        rcases Nat.eq_zero_or_pos code with z | z
        · have := h0 z
          exact absurd (Or.inl (by unfold pcN; omega)) q
        · exact z
      refine wpB_sd (stops := [111, 118]) kX3_fewestForged 30 _ _ _ _ ?_
      refine s_bitCount hSl ?_
      refine ⟨fun g => upd (Or.inl ((nI_ltI (by unfold pcN; omega) (by omega)).mp g)), fun g => ?_⟩
      have g1 : ¬ pcN (clS B c code w) < v := fun q => g (nI_lt q (by omega))
      refine ⟨fun g => old ?_, fun g => ?_⟩
      · have g2 : ¬ pcN (clS B c code w) = v := fun q => g (by rw [q])
        omega
      · have g2 := (nI_eq (by unfold pcN; omega) (by omega)).mp g
        refine ⟨fun g => old ?_, fun g => upd ?_⟩
        · have g3 := (nI_leI (by omega) (by omega)).mp g
          omega
        · have g3 : ¬ b ≤ clS B c code w := fun q => g (nI_le q (by omega))
          omega
  exact outer (2 ^ w) 0 0 1000000000 (by omega) (by omega) (by omega) (fun _ => rfl) (fun q => by omega)
set_option maxRecDepth 100000 in
theorem t_forged {σ : Sg} {A B : St} {hg : Nat} {Q : Option Value → Sg → Prop} (hC : CS σ A hg) (hW : WL A) (hB : RCb σ B) (hWB : WB B) (h : ∀ σ' b, IsF A B b → FrC 84 84 σ σ' → Q (some (.int (nI b))) σ') : MetA mX7_forged [.ref 0] σ Q := by
  refine MetA_of qX7_forged (Nat.le_of_ble_eq_true rfl) ?_
  refine wpB_sd (stops := []) kX7_forged 40 _ _ _ _ ?_
  exact s_fewest hC.1.1 hW.1 hB hWB h
theorem m_hasB {σ : Sg} {s k : Nat} {Q : Option Value → Sg → Prop} (hs : s < 2 ^ 31) (hk : k < 31) (h : Q (some (.int (bI (s.testBit k = true)))) σ) : MetA mX8_has [.int (nI s), .int (nI k)] σ Q := by
  refine MetA_of qX8_has (Nat.le_of_ble_eq_true rfl) ?_
  refine wpB_sd (stops := []) kX8_has 40 _ _ _ _ ?_
  refine ⟨fun g => ⟨Or.inl rfl, fin_i h (bI_f (fun q => g ((gbit1 hs hk).mpr q))).symm⟩, fun g => ⟨Or.inr rfl, fin_i h (bI_t ((gbit1 hs hk).mp g)).symm⟩⟩
set_option maxRecDepth 100000 in
set_option maxHeartbeats 2000000 in
theorem u_forged {σ : Sg} {A B : St} {hg : Nat} {Q : Option Value → Sg → Prop} (hC : MR σ A hg) (hW : WL A) (hB : RMb σ B) (hWB : WB B) (h : ∀ b, IsF A B b → Q (some (.int (nI b))) σ) : MetA mX8_forged [.ref 89] σ Q := by
  refine MetA_of qX8_forged (Nat.le_of_ble_eq_true rfl) ?_
  have h24 := hW.1.1
  have hB0 := hWB.1
  have hpw : (2 : Nat) ^ B 4 0 ≤ 2 ^ 12 := Nat.pow_le_pow_right (by omega) hB0
  have inner : ∀ code b v, code < 2 ^ B 4 0 → (∀ S, S = rfS A B code (B 4 0) → V mX8_forged 156 [(0, .ref 89), (1, .int b), (2, .int v), (3, .int (nI code)), (4, .int (nI S))] [] σ Q) → ∀ m i, i + m = B 4 0 → V mX8_forged 23 [(0, .ref 89), (1, .int b), (2, .int v), (3, .int (nI code)), (4, .int (nI (rfS A B code i))), (5, .int (nI i))] [] σ Q := by
    intro code b v hcode hnx m
    induction m with
    | zero =>
      intro i hi
      have hi : i = B 4 0 := by omega
      subst hi
      refine wpB_sd (stops := [23, 156]) kX8_forged 30 _ _ _ _ ?_
      refine br_t (by rw [hB.1]; exact nI_le (by omega) (by omega)) ?_
      exact V.take 5 (hnx _ rfl)
    | succ m ih =>
      intro i hi
      have hwb := hWB.2.2.1 i (by omega)
      have hS := rfS_lt (A := A) (code := code) (n := i) (fun k hk => hWB.2.2.1 k (by omega))
      have he : σ 100 i = nI (B 0 i) := (hB.2.1 i (by omega)).1
      have hy : σ 101 i = nI (B 1 i) := (hB.2.1 i (by omega)).2
      have at147 : ∀ (u : Int32) (u8 : Int32), nI (rfS A B code i) ||| u = nI (rfS A B code (i + 1)) → V mX8_forged 147 [(0, .ref 89), (1, .int b), (2, .int v), (3, .int (nI code)), (4, .int (nI (rfS A B code i))), (5, .int (nI i)), (6, .int (nI (B 0 i))), (7, .int (nI (B 1 i))), (8, .int u8)] [.int u, .int (nI (rfS A B code i))] σ Q := by
        intro u u8 hu
        refine wpB_sd (stops := [23]) kX8_forged 30 _ _ _ _ ?_
        have nxt := ih (i + 1) (by omega)
        rw [← hu, ← nI_1] at nxt
        exact V.take 6 nxt
      have at146 : ∀ u8 : Int32, ¬ (FP A B i ∧ ¬ (rfS A B code i).testBit (B 0 i) = true ∧ ¬ (rfS A B code i).testBit (B 1 i) = true) → V mX8_forged 146 [(0, .ref 89), (1, .int b), (2, .int v), (3, .int (nI code)), (4, .int (nI (rfS A B code i))), (5, .int (nI i)), (6, .int (nI (B 0 i))), (7, .int (nI (B 1 i))), (8, .int u8)] [.int (nI (rfS A B code i))] σ Q := by
        intro u8 q
        refine wpB_sd (stops := [147]) kX8_forged 30 _ _ _ _ ?_
        refine at147 0 u8 ?_
        rw [rfS, if_neg q]
        show nI _ ||| nI 0 = _
        rw [fa_or, Nat.or_zero]
      have at142 : ∀ (u u8 : Int32), (FP A B i ∧ ¬ (rfS A B code i).testBit (B 0 i) = true ∧ ¬ (rfS A B code i).testBit (B 1 i) = true) → u = nI (if code.testBit i = true then B 1 i else B 0 i) → V mX8_forged 142 [(0, .ref 89), (1, .int b), (2, .int v), (3, .int (nI code)), (4, .int (nI (rfS A B code i))), (5, .int (nI i)), (6, .int (nI (B 0 i))), (7, .int (nI (B 1 i))), (8, .int u8)] [.int u, .int 1, .int (nI (rfS A B code i))] σ Q := by
        intro u u8 q hu
        subst hu
        refine wpB_sd (stops := [147]) kX8_forged 30 _ _ _ _ ?_
        refine at147 _ u8 ?_
        rw [rfS, if_pos q, or_bit (by split <;> omega)]
      have at96 : ∀ u : Int32, (u = 0 ↔ ¬ FP A B i) → V mX8_forged 96 [(0, .ref 89), (1, .int b), (2, .int v), (3, .int (nI code)), (4, .int (nI (rfS A B code i))), (5, .int (nI i)), (6, .int (nI (B 0 i))), (7, .int (nI (B 1 i)))] [.int u] σ Q := by
        intro u hu
        refine wpB_sd (stops := [142, 146]) kX8_forged 60 _ _ _ _ ?_
        refine ⟨fun g => at146 u (fun q => hu.mp g q.1), fun g => ?_⟩
        have hf : FP A B i := Classical.byContradiction fun q => g (hu.mpr q)
        refine m_hasB (by omega) (by omega) ?_
        refine ⟨fun g => at146 u (fun q => q.2.1 (bI_n0 g)), fun g => ?_⟩
        have g1 := bI_0.mp g
        refine m_hasB (by omega) (by omega) ?_
        refine ⟨fun g => at146 u (fun q => q.2.2 (bI_n0 g)), fun g => ?_⟩
        have g2 := bI_0.mp g
        refine m_hasB (by omega) (by omega) ?_
        refine ⟨fun g => at142 _ u ⟨hf, g1, g2⟩ (by rw [if_neg (bI_0.mp g)]), fun g => at142 _ u ⟨hf, g1, g2⟩ (by rw [if_pos (bI_n0 g)])⟩
      have no : ¬ FP A B i → V mX8_forged 95 [(0, .ref 89), (1, .int b), (2, .int v), (3, .int (nI code)), (4, .int (nI (rfS A B code i))), (5, .int (nI i)), (6, .int (nI (B 0 i))), (7, .int (nI (B 1 i)))] [] σ Q := fun q => by
        refine wpB_sd (stops := [96]) kX8_forged 30 _ _ _ _ ?_
        exact at96 0 ⟨fun _ => q, fun _ => rfl⟩
      refine wpB_sd (stops := [95, 96]) kX8_forged 60 _ _ _ _ ?_
      refine br_f (by rw [hB.1]; exact nI_ge (by omega) (by omega)) ?_
      refine ald (n := 12) (j := i) rfl rfl (by omega) he ?_
      refine ald (n := 12) (j := i) rfl rfl (by omega) hy ?_
      refine m_isJar hC.1 h24 ?_
      refine ⟨fun g => V.take 8 (no (fun q => bI_0.mp g ((ix_iff (by omega)).mpr ⟨_, q.1, rfl⟩))), fun g => ?_⟩
      have g1 : B 0 i < A 12 0 := (nI_ltI (by omega) (by omega)).mp (bI_n0 g).2
      refine m_isJar hC.1 h24 ?_
      refine ⟨fun g => V.take 8 (no (fun q => bI_0.mp g ((ix_iff (by omega)).mpr ⟨_, q.2.1, rfl⟩))), fun g => ?_⟩
      have g2 : B 1 i < A 12 0 := (nI_ltI (by omega) (by omega)).mp (bI_n0 g).2
      have d1 := (hW.1.2.2 _ g1).2.2.1
      have d2 := (hW.1.2.2 _ g2).2.2.1
      refine ald (n := 800) (j := 0 + 48 + B 0 i) rfl (by simp only [fa_lit, nI_add]) (by omega) (hC.1.2.2.2.2.1 _ g1).2.2.1 ?_
      refine ald (n := 800) (j := 0 + 48 + B 1 i) rfl (by simp only [fa_lit, nI_add]) (by omega) (hC.1.2.2.2.2.1 _ g2).2.2.1 ?_
      refine ⟨fun g => V.take 8 (no (fun q => by have := (nI_ltI (by omega) (by omega)).mp g; have := q.2.2; omega)), fun g => ?_⟩
      have g3 : ¬ A 2 (B 0 i) < A 2 (B 1 i) := fun q => g (nI_lt q (by omega))
      exact V.take 8 (at96 1 ⟨fun q => absurd q (by decide), fun q => absurd ⟨g1, g2, by omega⟩ q⟩)
  have outer : ∀ m code b v, code + m = 2 ^ B 4 0 → (0 < code → b < 2 ^ 24) → v < 2 ^ 31 → (code = 0 → v = 99999999) → (0 < code → BF (fun cd => rfS A B cd (B 4 0)) code b v) → ∀ bi : Int32, (code = 0 → bi = -1) → (0 < code → bi = nI b) → V mX8_forged 7 [(0, .ref 89), (1, .int bi), (2, .int (nI v)), (3, .int (nI code))] [] σ Q := by
    intro m
    induction m with
    | zero =>
      intro code b v hc hb hv h0 hs bi hb0 hbi
      have hc : code = 2 ^ B 4 0 := by omega
      subst hc
      have hp := Nat.two_pow_pos (B 4 0)
      refine wpB_sd (stops := [7]) kX8_forged 30 _ _ _ _ ?_
      refine br_t (by rw [hB.1, one_shl (by omega)]; exact nI_le (by omega) (by omega)) ?_
      have fin := h b (rfS_IsF hWB (hs hp))
      rw [← hbi hp] at fin
      exact fin
    | succ m ih =>
      intro code b v hc hb hv h0 hs bi hb0 hbi
      have hle := fb_ct_le (fun k => (rfS A B code (B 4 0)).testBit k) 24
      have hSl := rfS_lt (A := A) (code := code) hWB.2.2.1
      have at187 : ∀ b' v', b' < 2 ^ 24 → v' < 2 ^ 31 → BF (fun cd => rfS A B cd (B 4 0)) (code + 1) b' v' → ∀ bi' : Int32, bi' = nI b' → ∀ l4 l5 : Value, V mX8_forged 187 [(0, .ref 89), (1, .int bi'), (2, .int (nI v')), (3, .int (nI code)), (4, l4), (5, l5)] [] σ Q := by
        intro b' v' hb' hv' hB' bi' hbi' l4 l5
        refine wpB_sd (stops := [7]) kX8_forged 30 _ _ _ _ ?_
        have nxt := ih (code + 1) b' v' (by omega) (fun _ => hb') hv' (by omega) (fun _ => hB') bi' (by omega) (fun _ => hbi')
        rw [← nI_1] at nxt
        exact V.take 4 nxt
      refine wpB_sd (stops := [7, 23]) kX8_forged 30 _ _ _ _ ?_
      refine br_f (by rw [hB.1, one_shl (by omega)]; exact nI_ge (by omega) (by omega)) ?_
      refine inner code bi (nI v) (by omega) (fun S hS => ?_) (B 4 0) 0 (by omega)
      subst hS
      have upd : (pcN (rfS A B code (B 4 0)) < v ∨ (pcN (rfS A B code (B 4 0)) = v ∧ rfS A B code (B 4 0) < b)) → V mX8_forged 181 [(0, .ref 89), (1, .int bi), (2, .int (nI v)), (3, .int (nI code)), (4, .int (nI (rfS A B code (B 4 0)))), (5, .int (nI (pcN (rfS A B code (B 4 0)))))] [] σ Q := by
        intro q
        refine wpB_sd (stops := [187]) kX8_forged 30 _ _ _ _ ?_
        refine at187 _ _ hSl (by unfold pcN; omega) (BF_s1 (f := fun cd => rfS A B cd (B 4 0)) (b := b) (w := v) ?_ q) _ rfl _ _
        rcases Nat.eq_zero_or_pos code with z | z
        · exact Or.inl z
        · exact Or.inr (hs z)
      have c0 : ¬ pcN (rfS A B code (B 4 0)) < v → 0 < code := fun q => by
        rcases Nat.eq_zero_or_pos code with z | z
        · have := h0 z
          exact absurd (by unfold pcN; omega) q
        · exact z
      have old : ¬ (pcN (rfS A B code (B 4 0)) < v ∨ (pcN (rfS A B code (B 4 0)) = v ∧ rfS A B code (B 4 0) < b)) → V mX8_forged 187 [(0, .ref 89), (1, .int bi), (2, .int (nI v)), (3, .int (nI code)), (4, .int (nI (rfS A B code (B 4 0)))), (5, .int (nI (pcN (rfS A B code (B 4 0)))))] [] σ Q := by
        intro q
        have z := c0 (fun y => q (Or.inl y))
        exact at187 b v (hb z) hv (BF_s0 (hs z) q) bi (hbi z) _ _
      refine wpB_sd (stops := [181, 187]) kX8_forged 30 _ _ _ _ ?_
      refine m_ones hSl ?_
      refine ⟨fun g => upd (Or.inl ((nI_ltI (by unfold pcN; omega) (by omega)).mp g)), fun g => ?_⟩
      have g1 : ¬ pcN (rfS A B code (B 4 0)) < v := fun q => g (nI_lt q (by omega))
      have z := c0 g1
      have hb := hb z
      rw [hbi z] at *
      refine ⟨fun g => old ?_, fun g => ?_⟩
      · have g2 : ¬ pcN (rfS A B code (B 4 0)) = v := fun q => g (by rw [q])
        omega
      · have g2 := (nI_eq (by unfold pcN; omega) (by omega)).mp g
        refine ⟨fun g => old ?_, fun g => upd ?_⟩
        · have g3 := (nI_leI (by omega) (by omega)).mp g
          omega
        · have g3 : ¬ b ≤ rfS A B code (B 4 0) := fun q => g (nI_le q (by omega))
          omega
  refine wpB_sd (stops := [7]) kX8_forged 30 _ _ _ _ ?_
  exact outer (2 ^ B 4 0) 0 0 99999999 (by omega) (by omega) (by omega) (fun _ => rfl) (fun q => by omega) (-1) (fun _ => rfl) (fun q => by omega)
