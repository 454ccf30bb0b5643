/-! bequest: the dealer -/
def dgB (d c code i : Nat) : Nat := code / d ^ (c - 1 - i) % d
def bqF (q : Nat → Nat) (d c code p : Nat) : Nat := fb_sm (fun k => if dgB d c code k = p then q k else 0) c
def mnF (f : Nat → Nat) : Nat → Nat
  | 0 => f 0
  | n + 1 => if f (n + 1) < mnF f n then f (n + 1) else mnF f n
def mxF (f : Nat → Nat) : Nat → Nat
  | 0 => f 0
  | n + 1 => if mxF f n < f (n + 1) then f (n + 1) else mxF f n
def bqO (q : Nat → Nat) (d c code : Nat) : Nat := mxF (bqF q d c code) (d - 1) - mnF (bqF q d c code) (d - 1)
def hrB (a p : Nat) : Nat := if p < a then p else p + 1
theorem mnF_le {f : Nat → Nat} {B : Nat} (h : ∀ p, f p ≤ B) : ∀ n, mnF f n ≤ B
  | 0 => h 0
  | n + 1 => by
    have := mnF_le h n
    have := h (n + 1)
    rw [mnF]; split <;> omega
theorem mxF_le {f : Nat → Nat} {B : Nat} (h : ∀ p, f p ≤ B) : ∀ n, mxF f n ≤ B
  | 0 => h 0
  | n + 1 => by
    have := mxF_le h n
    have := h (n + 1)
    rw [mxF]; split <;> omega
theorem mnx_le {f : Nat → Nat} : ∀ n, mnF f n ≤ mxF f n
  | 0 => Nat.le_refl _
  | n + 1 => by
    have := mnx_le (f := f) n
    rw [mnF, mxF]; split <;> split <;> omega
theorem bqF_le {q : Nat → Nat} {d c code p : Nat} (hq : ∀ k, k < c → q k ≤ 99) (hc : c ≤ 8) : ∀ {n}, n ≤ c → fb_sm (fun k => if dgB d c code k = p then q k else 0) n ≤ 99 * n := by
  intro n hn
  have := fb_sm_bound (f := fun k => if dgB d c code k = p then q k else 0) (c := 99) (n := n) (fun k hk => by
    have := hq k (by omega)
    show (if dgB d c code k = p then q k else 0) ≤ 99
    split <;> omega)
  omega
theorem dg_lt {d c code i : Nat} (hd : 1 ≤ d) : dgB d c code i < d := Nat.mod_lt _ (by omega)
theorem dg_step {d c code m : Nat} (hd : 1 ≤ d) (hd3 : d ≤ 3) (hm : m < c) (hdv : d ^ (c - (m + 1)) ∣ code + 1) :
    (dgB d c code m + 1 < d → dgB d c (code + 1) m = dgB d c code m + 1 ∧ ∀ j, j < m → dgB d c (code + 1) j = dgB d c code j) ∧
    (¬ dgB d c code m + 1 < d → dgB d c (code + 1) m = 0 ∧ d ^ (c - m) ∣ code + 1) := by
  have hD : 0 < d ^ (c - (m + 1)) := Nat.pow_pos (by omega)
  have em : c - 1 - m = c - (m + 1) := by omega
  have ec : c - m = c - (m + 1) + 1 := by omega
  have ej : ∀ j, j < m → c - 1 - j = (c - (m + 1)) + (1 + (m - 1 - j)) := fun j hj => by omega
  unfold dgB
  rw [em, ec]
  have key : ∃ s, code / d ^ (c - (m + 1)) = s ∧ (code + 1) / d ^ (c - (m + 1)) = s + 1 ∧ code + 1 = d ^ (c - (m + 1)) * (s + 1) := by
    obtain ⟨t, ht⟩ := hdv
    cases t with
    | zero => omega
    | succ s =>
      refine ⟨s, ?_, ?_, ht⟩
      · have e : code = d ^ (c - (m + 1)) * s + (d ^ (c - (m + 1)) - 1) := by
          rw [Nat.mul_succ] at ht; omega
        rw [e, Nat.mul_add_div hD, Nat.div_eq_of_lt (by omega), Nat.add_zero]
      · rw [ht, Nat.mul_div_cancel_left _ hD]
  obtain ⟨s, h1, h2, h3⟩ := key
  rw [h1, h2]
  refine ⟨fun hl => ⟨?_, fun j hj => ?_⟩, fun hl => ⟨?_, ?_⟩⟩
  · rcases (show d = 1 ∨ d = 2 ∨ d = 3 by omega) with rfl | rfl | rfl <;> omega
  · rw [ej j hj, Nat.pow_add, Nat.pow_add, Nat.pow_one, ← Nat.div_div_eq_div_mul, ← Nat.div_div_eq_div_mul, ← Nat.div_div_eq_div_mul, ← Nat.div_div_eq_div_mul, h1, h2]
    have : (s + 1) / d = s / d := by
      rcases (show d = 1 ∨ d = 2 ∨ d = 3 by omega) with rfl | rfl | rfl <;> omega
    rw [this]
  · rcases (show d = 1 ∨ d = 2 ∨ d = 3 by omega) with rfl | rfl | rfl <;> omega
  · rw [Nat.pow_succ, h3]
    refine Nat.mul_dvd_mul_left _ ?_
    apply Nat.dvd_of_mod_eq_zero
    rcases (show d = 1 ∨ d = 2 ∨ d = 3 by omega) with rfl | rfl | rfl <;> omega
set_option maxRecDepth 100000 in
set_option maxHeartbeats 1000000 in
theorem s_nextWay {σ : Sg} {d c code : Nat} {Q : Option Value → Sg → Prop} (hd : 1 ≤ d) (hd3 : d ≤ 3) (hc : c ≤ 8) (hcn : σ 75 1 = nI c) (hhn : σ 75 3 = nI d) (ht : ∀ i, i < c → σ 78 i = nI (dgB d c code i)) (h : ∀ σ', (∀ i, i < c → σ' 78 i = nI (dgB d c (code + 1) i)) → FrC 78 78 σ σ' → Q none σ') : MetA mX2_nextWay [.ref 75] σ Q := by
  refine MetA_of qX2_nextWay (Nat.le_of_ble_eq_true rfl) ?_
  have loop : ∀ m σ', m ≤ c → (∀ j, j < m → σ' 78 j = nI (dgB d c code j)) → (∀ j, m ≤ j → j < c → σ' 78 j = nI (dgB d c (code + 1) j)) → d ^ (c - m) ∣ code + 1 → FrC 78 78 σ σ' → ∀ v, v = nI m - 1 → V mX2_nextWay 7 [(0, .ref 75), (1, .int v)] [] σ' Q := by
    intro m
    induction m with
    | zero =>
      intro σ' hm h1 h2 h3 hF v hv
      subst hv
      refine wpB_sd (stops := [7]) kX2_nextWay 30 _ _ _ _ ?_
      refine br_t (by decide) ?_
      exact h σ' (fun i hi => h2 i (by omega) hi) hF
    | succ m ih =>
      intro σ' hm h1 h2 h3 hF v hv
      have hv := nI_s1 hv
      subst hv
      obtain ⟨k1, k2⟩ := dg_step hd hd3 (show m < c by omega) h3
      have hl := dg_lt (c := c) (code := code) (i := m) hd
      refine wpB_sd (stops := [7]) kX2_nextWay 30 _ _ _ _ ?_
      refine br_f (nI_pos (by omega)) ?_
      refine ald (n := 8) (j := m) rfl rfl (by omega) (h1 m (by omega)) ?_
      refine ast (n := 8) (j := m) rfl rfl (by omega) ?_
      refine ald (n := 8) (j := m) rfl rfl (by omega) (v := nI (dgB d c code m + 1)) (by rw [sgu_s]; exact nI_1 _) ?_
      refine ⟨fun g => ?_, fun g => ?_⟩
      · rw [sgu_c (by omega), hF 75 (by omega), hhn] at g
        have g := (nI_leI (by omega) (by omega)).mp g
        obtain ⟨k3, k4⟩ := k2 (by omega)
        refine ast (n := 8) (j := m) rfl rfl (by omega) ?_
        refine ih _ (by omega) (fun j hj => by rw [sgu_k (by omega), sgu_k (by omega)]; exact h1 j (by omega)) (fun j hj hj2 => ?_) k4 (fun c hc => by rw [sgu_c (by omega), sgu_c (by omega)]; exact hF c hc) _ nI_d1
        by_cases q : j = m
        · subst q; rw [sgu_s, k3]; rfl
        · rw [sgu_k q, sgu_k q]; exact h2 j (by omega) hj2
      · rw [sgu_c (by omega), hF 75 (by omega), hhn] at g
        have g : ¬ d ≤ dgB d c code m + 1 := fun q => g (nI_le q (by omega))
        obtain ⟨k3, k4⟩ := k1 (by omega)
        refine h _ (fun j hj => ?_) (fun c hc => by rw [sgu_c (by omega)]; exact hF c hc)
        rcases Nat.lt_trichotomy j m with q | q | q
        · rw [sgu_k (by omega), k4 j q]; exact h1 j (by omega)
        · subst q; rw [sgu_s, k3]; exact nI_1 _
        · rw [sgu_k (by omega)]; exact h2 j (by omega) hj
  refine wpB_sd (stops := [7]) kX2_nextWay 30 _ _ _ _ ?_
  refine loop c σ (Nat.le_refl _) ht (fun j a b => by omega) (by rw [Nat.sub_self, Nat.pow_zero]; exact Nat.one_dvd _) (fun _ _ => rfl) _ ?_
  rw [hcn]
set_option maxRecDepth 100000 in
theorem s_countWays {σ : Sg} {d c : Nat} {Q : Option Value → Sg → Prop} (hc : c ≤ 8) (hcn : σ 75 1 = nI c) (hhn : σ 75 3 = nI d) (h : Q (some (.int (nI (d ^ c)))) σ) : MetA mX2_countWays [.ref 75] σ Q := by
  refine MetA_of qX2_countWays (Nat.le_of_ble_eq_true rfl) ?_
  have loop : ∀ m i, i + m = c → V mX2_countWays 4 [(0, .ref 75), (1, .int (nI (d ^ i))), (2, .int (nI i))] [] σ Q := by
    intro m
    induction m with
    | zero =>
      intro i hi
      have hi : i = c := by omega
      subst hi
      refine wpB_sd (stops := [4]) kX2_countWays 30 _ _ _ _ ?_
      refine br_t (by rw [hcn]; exact nI_le (by omega) (by omega)) ?_
      exact h
    | succ m ih =>
      intro i hi
      refine wpB_sd (stops := [4]) kX2_countWays 30 _ _ _ _ ?_
      refine br_f (by rw [hcn]; exact nI_ge (by omega) (by omega)) ?_
      have nxt := ih (i + 1) (by omega)
      rw [Nat.pow_succ, ← pk_mul, ← nI_1, ← hhn] at nxt
      exact nxt
  refine wpB_sd (stops := [4]) kX2_countWays 30 _ _ _ _ ?_
  exact loop c 0 (by omega)
theorem minI {a b : Nat} (ha : a < 2 ^ 31) (hb : b < 2 ^ 31) : (if nI b < nI a then nI b else nI a) = nI (if b < a then b else a) := by
  by_cases q : b < a
  · rw [if_pos q, if_pos (nI_lt q (by omega))]
  · rw [if_neg q, if_neg (fun z => q ((nI_ltI (by omega) (by omega)).mp z))]
theorem maxI {a b : Nat} (ha : a < 2 ^ 31) (hb : b < 2 ^ 31) : (if nI a < nI b then nI b else nI a) = nI (if a < b then b else a) := by
  by_cases q : a < b
  · rw [if_pos q, if_pos (nI_lt q (by omega))]
  · rw [if_neg q, if_neg (fun z => q ((nI_ltI (by omega) (by omega)).mp z))]
set_option maxRecDepth 100000 in
set_option maxHeartbeats 1000000 in
theorem s_diffOf {σ : Sg} {q l : Nat → Nat} {d c code : Nat} {Q : Option Value → Sg → Prop} (hd : 1 ≤ d) (hd3 : d ≤ 3) (hc : c ≤ 8) (hq : ∀ k, k < c → q k ≤ 99) (hl : ∀ k, k < c → l k < 24) (hcn : σ 75 1 = nI c) (hhn : σ 75 3 = nI d) (hlk : ∀ k, k < c → σ 76 k = nI (l k)) (hqq : ∀ k, k < c → σ 11 (l k) = nI (q k)) (ht : ∀ i, i < c → σ 78 i = nI (dgB d c code i)) (h : ∀ σ', FrC 80 80 σ σ' → Q (some (.int (nI (bqO q d c code)))) σ') : MetA mX2_differenceOf [.ref 75, .ref 7] σ Q := by
  refine MetA_of qX2_differenceOf (Nat.le_of_ble_eq_true rfl) ?_
  have hle : ∀ p, bqF q d c code p ≤ 99 * c := fun p => bqF_le hq hc (Nat.le_refl c)
  -- least and greatest
  have r81 : ∀ m i σ', i + m = d → 1 ≤ i → (∀ p, p < d → σ' 80 p = nI (bqF q d c code p)) → FrC 80 80 σ σ' → V mX2_differenceOf 81 [(0, .ref 75), (1, .ref 7), (2, .int (nI (mnF (bqF q d c code) (i - 1)))), (3, .int (nI (mxF (bqF q d c code) (i - 1)))), (4, .int (nI i))] [] σ' Q := by
    intro m
    induction m with
    | zero =>
      intro i σ' hi h1 hs hF
      have hi : i = d := by omega
      subst hi
      refine wpB_sd (stops := [81]) kX2_differenceOf 30 _ _ _ _ ?_
      refine br_t (by rw [hF 75 (by omega), hhn]; exact nI_le (by omega) (by omega)) ?_
      refine fin_i (h σ' hF) ?_
      rw [pk_sub (mnx_le _)]
      rfl
    | succ m ih =>
      intro i σ' hi h1 hs hF
      have a1 := mnF_le hle (i - 1)
      have a2 := mxF_le hle (i - 1)
      have a3 := hle i
      refine wpB_sd (stops := [81]) kX2_differenceOf 30 _ _ _ _ ?_
      refine br_f (by rw [hF 75 (by omega), hhn]; exact nI_ge (by omega) (by omega)) ?_
      refine ald (n := 4) (j := i) rfl rfl (by omega) (hs i (by omega)) ?_
      refine ald (n := 4) (j := i) rfl rfl (by omega) (hs i (by omega)) ?_
      have nxt := ih (i + 1) σ' (by omega) (by omega) hs hF
      obtain ⟨i', rfl⟩ : ∃ i', i = i' + 1 := ⟨i - 1, by omega⟩
      have a1 := mnF_le hle i'
      have a2 := mxF_le hle i'
      rw [show i' + 1 + 1 - 1 = i' + 1 by omega, mnF, mxF, ← nI_1, ← minI (by omega) (by omega), ← maxI (by omega) (by omega)] at nxt
      exact nxt
  -- the sums
  have r25 : ∀ m i σ', i + m = c → (∀ p, p < d → σ' 80 p = nI (fb_sm (fun k => if dgB d c code k = p then q k else 0) i)) → FrC 80 80 σ σ' → V mX2_differenceOf 25 [(0, .ref 75), (1, .ref 7), (2, .int (nI i))] [] σ' Q := by
    intro m
    induction m with
    | zero =>
      intro i σ' hi hs hF
      have hi : i = c := by omega
      subst hi
      refine wpB_sd (stops := [25, 81]) kX2_differenceOf 30 _ _ _ _ ?_
      refine br_t (by rw [hF 75 (by omega), hcn]; exact nI_le (by omega) (by omega)) ?_
      refine ald (n := 4) (j := 0) rfl rfl (by omega) (hs 0 (by omega)) ?_
      refine ald (n := 4) (j := 0) rfl rfl (by omega) (hs 0 (by omega)) ?_
      exact r81 (d - 1) 1 σ' (by omega) (by omega) hs hF
    | succ m ih =>
      intro i σ' hi hs hF
      have hdl := dg_lt (c := c) (code := code) (i := i) hd
      have hb := bqF_le (d := d) (code := code) (p := dgB d c code i) hq hc (show i ≤ c by omega)
      have hqi := hq i (by omega)
      refine wpB_sd (stops := [25]) kX2_differenceOf 30 _ _ _ _ ?_
      refine br_f (by rw [hF 75 (by omega), hcn]; exact nI_ge (by omega) (by omega)) ?_
      refine ald (n := 8) (j := i) rfl rfl (by omega) (v := nI (dgB d c code i)) (by rw [hF 78 (by omega)]; exact ht i (by omega)) ?_
      refine ald (n := 4) (j := dgB d c code i) rfl rfl (by omega) (hs _ hdl) ?_
      refine ald (n := 8) (j := i) rfl rfl (by omega) (v := nI (l i)) (by rw [hF 76 (by omega)]; exact hlk i (by omega)) ?_
      refine ald (n := 24) (j := l i) rfl rfl (hl i (by omega)) (v := nI (q i)) (by rw [hF 11 (by omega)]; exact hqq i (by omega)) ?_
      refine ast (n := 4) (j := dgB d c code i) rfl rfl (by omega) ?_
      have nxt := ih (i + 1) (sgu σ' 80 (dgB d c code i) (nI (fb_sm (fun k => if dgB d c code k = dgB d c code i then q k else 0) i) + nI (q i))) (by omega) (fun p hp => ?_) (fun c hc => by rw [sgu_c (by omega)]; exact hF c hc)
      · rw [← nI_1] at nxt
        exact nxt
      · rw [fb_sm_succ]
        by_cases z : p = dgB d c code i
        · subst z; rw [sgu_s, if_pos rfl]; exact nI_add _ _
        · rw [sgu_k z, if_neg (fun y => z y.symm)]; exact hs p hp
  have r2 : ∀ m i σ', i + m = d → (∀ p, p < i → σ' 80 p = nI 0) → FrC 80 80 σ σ' → V mX2_differenceOf 2 [(0, .ref 75), (1, .ref 7), (2, .int (nI i))] [] σ' Q := by
    intro m
    induction m with
    | zero =>
      intro i σ' hi hs hF
      refine wpB_sd (stops := [2, 25]) kX2_differenceOf 30 _ _ _ _ ?_
      refine br_t (by rw [hF 75 (by omega), hhn]; exact nI_le (by omega) (by omega)) ?_
      exact r25 c 0 σ' (by omega) (fun p hp => hs p (by omega)) hF
    | succ m ih =>
      intro i σ' hi hs hF
      refine wpB_sd (stops := [2]) kX2_differenceOf 30 _ _ _ _ ?_
      refine br_f (by rw [hF 75 (by omega), hhn]; exact nI_ge (by omega) (by omega)) ?_
      refine ast (n := 4) (j := i) rfl rfl (by omega) ?_
      have nxt := ih (i + 1) (sgu σ' 80 i 0) (by omega) (fun p hp => ?_) (fun c hc => by rw [sgu_c (by omega)]; exact hF c hc)
      · rw [← nI_1] at nxt
        exact nxt
      · by_cases z : p = i
        · subst z; rw [sgu_s]; rfl
        · rw [sgu_k z]; exact hs p (by omega)
  refine wpB_sd (stops := [2]) kX2_differenceOf 30 _ _ _ _ ?_
  exact r2 d 0 σ (by omega) (fun p hp => by omega) (fun _ _ => rfl)
