/-! the class: land, feed -/
theorem nar0 : vp_nar .boolean 0 = 0 := by decide +kernel
theorem RT.ld {σ σ' : Sg} {A : St} (h : RT σ A) (hf : ∀ c, c ≠ 14 → σ' c = σ c) (hk : ∀ k, k ≠ 9 → k ≠ 10 → σ' 14 k = σ 14 k) (h9 : σ' 14 9 = nI (A 12 3)) (h10 : σ' 14 10 = nI (A 12 4)) : RLd 14 σ' A := by
  obtain ⟨a, b, c, d, e, g, i⟩ := h
  refine ⟨a.fr (fun c h1 h2 => hf c (by omega)), ?_, ?_, ?_, h9, h10, ?_, ?_⟩
  · rw [hk 0 (by omega) (by omega)]; exact b
  · rw [hk 5 (by omega) (by omega)]; exact c
  · rw [hk 7 (by omega) (by omega)]; exact d
  · rw [hf (14 + 1) (by omega), hf (14 + 2) (by omega), hf (14 + 3) (by omega)]; exact g
  · rw [hf (14 + 5) (by omega)]; exact i
set_option maxRecDepth 100000 in
set_option maxHeartbeats 1000000 in
theorem t_landC {σ : Sg} {T : Tx} {len hg : Nat} {A B0 : St} {Q : Option Value → Sg → Prop} (hC : CS σ A hg) (hW : WL A) (hX : RX σ T len) (hl : ∀ σ' q, txS T len 401 0 (clrA A) = .inl q → 1 ≤ q.1 → q.1 ≤ 3 → σ' 55 1 = 0 → σ' 55 4 = nI q.2 → FrK σ σ' → Q (some (.int (-10 - nI q.1))) σ') (hr : ∀ σ' B, txS T len 401 0 (clrA A) = .inr B → WN B → KpL A B → σ' 55 1 = 0 → σ' 55 4 = -1 → CS σ' B 0 → σ' 54 0 = 0 → σ' 54 1 = 0 → RCb σ' (terA B0) → (∀ c, ¬ (1 ≤ c ∧ c ≤ 26) → c ≠ 54 → c ≠ 55 → c ≠ 81 → c ≠ 85 → σ' c = σ c) → Q (some (.int (nI (B 12 5)))) σ') : MetA mX7_land [.ref 0] σ Q := by
  refine MetA_of qX7_land (Nat.le_of_ble_eq_true rfl) ?_
  refine wpB_sd (stops := []) kX7_land 60 _ _ _ _ ?_
  refine s_readText hX hW (fun σ1 q ht q1 q3 e1 e3 e4 hF => ?_) (fun σ1 B ht hWB hK e1 e4 hT hF => ?_)
  · refine bn_t rfl ?_
    have fin := hl σ1 q ht q1 q3 e1 e4 hF
    rw [← e3] at fin
    exact fin
  · refine bn_f (by decide) ?_
    have h1 : ∀ k, σ1 1 k = σ 1 k := fun k => by rw [hF 1 (by omega) (by omega)]
    have hL : RLd 14 (sgu (sgu σ1 14 9 (σ1 1 9)) 14 10 (sgu σ1 14 9 (σ1 1 9) 1 10)) B := by
      refine hT.ld (fun c hc => by rw [sgu_c hc, sgu_c hc]) (fun k a b => by rw [sgu_k b, sgu_k a]) ?_ ?_
      · rw [sgu_k (by omega), sgu_s, h1, hK.1]; exact hC.1.2.2.2.2.1
      · rw [sgu_s, sgu_c (by omega), h1, hK.2]; exact hC.1.2.2.2.2.2.1
    refine s_copyL (d := 1) (s := 14) (by simp) hL hWB.1.2.1 hWB.1.2.2.1 hWB.1.1.1 (fun σ2 hR2 he2 hF2 => ?_)
    refine ⟨aok (n := 2) (j := 0) rfl rfl (by omega), fun σ3 e3 => ?_⟩
    have e3 : σ3 = sgu σ2 54 0 0 := by rw [e3]; exact congrArg _ nar0
    subst e3
    refine ⟨aok (n := 2) (j := 1) rfl rfl (by omega), fun σ4 e4' => ?_⟩
    have e4' : σ4 = sgu (sgu σ2 54 0 0) 54 1 0 := by rw [e4']; exact congrArg _ nar0
    subst e4'
    have hC5 : CS (sgu (sgu (sgu (sgu σ2 54 0 0) 54 1 0) 81 0 0) 85 0 0) B 0 := by
      refine ⟨hR2.fr (fun c a b d => by rw [sgu_c (by omega), sgu_c (by omega), sgu_c (by omega), sgu_c (by omega)]), ?_⟩
      rw [sgu_c (by omega), sgu_c (by omega), sgu_c (by omega), sgu_c (by omega), he2, sgu_k (by omega), sgu_k (by omega)]
      exact hT.2.2.2.2.1
    have h55 : ∀ k, sgu (sgu (sgu (sgu σ2 54 0 0) 54 1 0) 81 0 0) 85 0 0 55 k = σ1 55 k := fun k => by
      rw [sgu_c (by omega), sgu_c (by omega), sgu_c (by omega), sgu_c (by omega), hF2 55 (by omega), sgu_c (by omega), sgu_c (by omega)]
    have fin := hr _ B ht hWB hK (by rw [h55]; exact e1) (by rw [h55]; exact e4) hC5 (by rw [sgu_c (by omega), sgu_c (by omega), sgu_k (by omega), sgu_s]) (by rw [sgu_c (by omega), sgu_c (by omega), sgu_s]) ?_ (fun c a b d e f => ?_)
    · rw [← hC5.1.2.1] at fin
      exact fin
    · refine ⟨?_, fun k hk => ?_, ?_, fun k hk => ?_⟩
      · rw [sgu_c (by omega), sgu_s]; simp [terA, stu]; rfl
      · simp [terA, stu] at hk
      · rw [sgu_s]; simp [terA, stu]; rfl
      · simp [terA, stu] at hk
    · rw [sgu_c f, sgu_c e, sgu_c b, sgu_c b, hF2 c (by omega), sgu_c (by omega), sgu_c (by omega)]
      exact hF c (by omega) d
/-- a byte of the fed long -/
def bytX (b : Int64) (i : Nat) : Int64 := (b.toUInt64 >>> ((nI (8 * i)).toInt64.toUInt64 &&& Int64.toUInt64 63)).toInt64
def bytN (b : Int64) (i : Nat) : Nat := (bytX b i).toBitVec.toNat % 256
theorem byt_c (x : Int64) : x.toInt32.toInt8.toInt32 = sb (x.toBitVec.toNat % 256) := by
  unfold sb
  congr 1
  apply Int8.toBitVec_inj.mp
  apply BitVec.eq_of_toNat_eq
  rw [Int32.toBitVec_toInt8, Int64.toBitVec_toInt32, Int32.toBitVec_toInt8, BitVec.signExtend_eq_setWidth_of_le _ (by omega), BitVec.signExtend_eq_setWidth_of_le _ (by omega), BitVec.signExtend_eq_setWidth_of_le _ (by omega)]
  show _ = ((BitVec.ofNat 32 _).setWidth 8).toNat
  simp only [BitVec.toNat_setWidth, BitVec.toNat_ofNat]
  omega
theorem nar8 (x : Int64) : vp_nar .byte x.toInt32.toInt8.toInt32 = sb (x.toBitVec.toNat % 256) := by
  show x.toInt32.toInt8.toInt32.toInt8.toInt32 = _
  rw [fb_byte_twice, byt_c]
def fdT (T : Tx) (len n : Nat) (b : Int64) : Tx := fun j => if j < len then T j else bytN b (n - 1 - (j - len))
theorem fdT_lt {T : Tx} {len n : Nat} {b : Int64} (h : ∀ i, i < len → T i < 256) (i : Nat) : fdT T len n b i < 256 := by
  unfold fdT
  split
  · next q => exact h i q
  · exact Nat.mod_lt _ (by omega)
set_option maxRecDepth 100000 in
set_option maxHeartbeats 1000000 in
theorem s_addBytes {σ : Sg} {T : Tx} {len k : Nat} {b : Int64} {Q : Option Value → Sg → Prop} (hX : RX σ T len) (h1 : 1 ≤ k) (h8 : k ≤ 8) (hf : 400 < len + k → Q (some (.int FUL)) σ) (h : len + k ≤ 400 → ∀ σ', RX σ' (fdT T len k b) (len + k) → (∀ c, c ≠ 55 → c ≠ 56 → σ' c = σ c) → (∀ k, k ≠ 1 → σ' 55 k = σ 55 k) → Q (some (.int (nI (len + k)))) σ') : MetA mX6_addBytes [.ref 55, .int (nI k), .long b] σ Q := by
  obtain ⟨x1, x2, x3, x4⟩ := hX
  refine MetA_of qX6_addBytes (Nat.le_of_ble_eq_true rfl) ?_
  have loop : len + k ≤ 400 → ∀ m σ', m ≤ k → σ' 55 1 = nI (len + (k - m)) → (∀ i, i < len + (k - m) → σ' 56 i = sb (fdT T len k b i)) → (∀ c, c ≠ 55 → c ≠ 56 → σ' c = σ c) → (∀ k, k ≠ 1 → σ' 55 k = σ 55 k) → ∀ v, v = nI m - 1 → V mX6_addBytes 20 [(0, .ref 55), (1, .int (nI k)), (2, .long b), (4, .int v)] [] σ' Q := by
    intro hk m
    induction m with
    | zero =>
      intro σ' hm e1 e56 hF hF5 v hv
      subst hv
      refine wpB_sd (stops := [20]) kX6_addBytes 30 _ _ _ _ ?_
      refine br_t (by decide) ?_
      rw [Nat.sub_zero] at e1 e56
      have fin := h hk σ' ⟨e1, hk, e56, fun i _ => fdT_lt x4 i⟩ hF hF5
      rw [← e1] at fin
      exact fin
    | succ m ih =>
      intro σ' hm e1 e56 hF hF5 v hv
      have hv := nI_s1 hv
      subst hv
      refine wpB_sd (stops := [20]) kX6_addBytes 40 _ _ _ _ ?_
      refine br_f (nI_pos (by omega)) ?_
      have hb : (b.toUInt64 >>> (((8 : Int32) * nI m).toInt64.toUInt64 &&& Int64.toUInt64 63)).toInt64 = bytX b m := by
        unfold bytX
        rw [show (8 : Int32) = nI 8 from rfl, pk_mul]
      refine ⟨aok (n := 400) (j := len + (k - (m + 1))) rfl e1 (by omega), fun σ2 e2 => ?_⟩
      have e2 : σ2 = sgu σ' 56 (len + (k - (m + 1))) (sb (bytN b m)) := by
        rw [e2, e1, nI_clamp (by omega)]
        refine congrArg _ ?_
        rw [hb]
        exact nar8 _
      subst e2
      have e1' : sgu σ' 56 (len + (k - (m + 1))) (sb (bytN b m)) 55 1 = nI (len + (k - (m + 1))) := by rw [sgu_c (by omega)]; exact e1
      refine ih _ (by omega) ?_ (fun i hi => ?_) (fun c a b => by rw [sgu_c a, sgu_c b]; exact hF c a b) (fun j hj => by rw [sgu_k hj, sgu_c (by omega)]; exact hF5 j hj) _ nI_d1
      · rw [sgu_s, e1', nI_1]
        congr 1
        omega
      · rw [sgu_c (by omega)]
        by_cases z : i = len + (k - (m + 1))
        · subst z
          rw [sgu_s]
          unfold fdT
          rw [if_neg (by omega)]
          congr 2
          omega
        · rw [sgu_k z]; exact e56 i (by omega)
  refine wpB_sd (stops := [20]) kX6_addBytes 30 _ _ _ _ ?_
  refine ⟨fun g => ?_, fun g => ?_⟩
  · rw [x1, nI_add] at g
    have g := (nI_leI (b := 400) (by omega) (by omega)).mp g
    refine loop g k σ (Nat.le_refl _) (by rw [Nat.sub_self]; exact x1) (fun i hi => ?_) (fun _ _ _ => rfl) (fun _ _ => rfl) _ rfl
    rw [Nat.sub_self] at hi
    unfold fdT
    rw [if_pos (by omega)]
    exact x3 i (by omega)
  · rw [x1, nI_add] at g
    have g : ¬ len + k ≤ 400 := fun q => g (nI_le (b := 400) q (by omega))
    exact hf (by omega)
set_option maxRecDepth 100000 in
set_option maxHeartbeats 1000000 in
theorem t_feed {σ : Sg} {T : Tx} {len : Nat} {n : Int32} {b : Int64} {Q : Option Value → Sg → Prop} (hX : RX σ T len) (ho : ¬ rg n 1 8 → Q (some (.int OUT)) σ) (hf : ∀ k, 1 ≤ k → k ≤ 8 → n = nI k → 400 < len + k → Q (some (.int FUL)) σ) (h : ∀ k, 1 ≤ k → k ≤ 8 → n = nI k → len + k ≤ 400 → ∀ σ', RX σ' (fdT T len k b) (len + k) → (∀ c, c ≠ 55 → c ≠ 56 → σ' c = σ c) → (∀ k, k ≠ 1 → σ' 55 k = σ 55 k) → Q (some (.int (nI (len + k)))) σ') : MetA mX7_feed [.ref 0, .int n, .long b] σ Q := by
  refine MetA_of qX7_feed (Nat.le_of_ble_eq_true rfl) ?_
  refine wpB_sd (stops := []) kX7_feed 30 _ _ _ _ ?_
  refine ⟨fun g => ho (rg_lt (lo := 1) (hi := 8) (by omega) (by omega) g), fun g => ⟨fun g2 => ?_, fun g2 => ho (rg_gt (lo := 1) (hi := 8) (by omega) (by omega) (Int32.not_le.mp g2))⟩⟩
  obtain ⟨k, h1, h8, rfl⟩ := rg_of (lo := 1) (hi := 8) (by omega) (by omega) g (Int32.not_lt.mpr g2)
  exact s_addBytes hX h1 h8 (hf k h1 h8 rfl) (h k h1 h8 rfl)
