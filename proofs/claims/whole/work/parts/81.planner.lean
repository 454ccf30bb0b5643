/-! plan: the planner's leaves -/
def misI (A : St) (a k : Nat) : Int32 := nI (A 9 a) - nI (harvA A (A 12 1 + k)) - nI (if k = 0 then A 8 a else 0)
theorem sub3 {w h s f : Nat} (hw : w < 2 ^ 20) (hh : h < 2 ^ 20) (hs : s < 2 ^ 21) (hf : f < 2 ^ 20) : (nI w - nI h - nI s - nI f ≤ 0 ↔ w - (h + s + f) = 0) ∧ (¬ nI w - nI h - nI s - nI f ≤ 0 → nI w - nI h - nI s - nI f = nI (w - (h + s + f))) := by
  have t1 : (nI w).toInt = (w : Int) := nI_toInt (by omega)
  have t2 : (nI h).toInt = (h : Int) := nI_toInt (by omega)
  have t3 : (nI s).toInt = (s : Int) := nI_toInt (by omega)
  have t4 : (nI f).toInt = (f : Int) := nI_toInt (by omega)
  have u1 : (nI w - nI h).toInt = (w : Int) - h := by rw [fb_subI (by omega) (by omega), t1, t2]
  have u2 : (nI w - nI h - nI s).toInt = (w : Int) - h - s := by rw [fb_subI (by omega) (by omega), u1, t3]
  have u3 : (nI w - nI h - nI s - nI f).toInt = (w : Int) - h - s - f := by rw [fb_subI (by omega) (by omega), u2, t4]
  have z : (0 : Int32).toInt = 0 := by decide
  constructor
  · rw [fa_le, u3, z]; omega
  · intro q
    rw [fa_le, u3, z] at q
    rw [fa_eq, u3, nI_toInt (by omega)]
    omega
theorem harvA_le {A : St} {t : Nat} (hW : WL A) : harvA A t ≤ 99 := by
  unfold harvA
  split
  · omega
  · exact hW.2.2.2.2.2.2.1 _ (Nat.mod_lt _ (by omega))
theorem mis_le {A : St} {a k f : Nat} (hW : WL A) (ha : a < A 12 5) (hf : f < 2 ^ 20) : (misI A a k - nI f ≤ 0 ↔ hwA A a k f = 0) ∧ (¬ misI A a k - nI f ≤ 0 → misI A a k - nI f = nI (hwA A a k f)) := by
  have h1 := hW.2.2.2.2.2.1 a ha
  have h2 := harvA_le (t := A 12 1 + k) hW
  unfold misI hwA
  exact sub3 (by omega) (by omega) (by split <;> omega) hf
theorem mis_0 {A : St} {a k : Nat} (hW : WL A) (ha : a < A 12 5) : misI A a k ≤ 0 ↔ hwA A a k 0 = 0 := by
  have := (mis_le (k := k) (f := 0) hW ha (by omega)).1
  rw [show misI A a k - nI 0 = misI A a k by show misI A a k - 0 = misI A a k; simp] at this
  exact this
def RY (σ : Sg) (A : St) (a k : Nat) : Prop := σ 57 1 = nI (jlN A a) ∧ σ 57 5 = misI A a k ∧ σ 57 4 = nI (moA A a (A 12 1 + k)) ∧ ∀ S, S < 2 ^ jlN A a → σ 73 S = nI (flA A a (A 12 1 + k) S)
theorem pw256 {A : St} {a : Nat} : 2 ^ jlN A a ≤ 256 := Nat.pow_le_pow_right (n := 2) (by omega) (jlN_le (A := A) (a := a))
set_option maxRecDepth 100000 in
theorem s_hungerWith {σ : Sg} {A : St} {a k S U v r : Nat} {Q : Option Value → Sg → Prop} (hr : aokB r 1 256 = true) (hY : RY σ A a k) (hW : WL A) (ha : a < A 12 5) (hS : S < 2 ^ jlN A a) (hU : U < 2 ^ jlN A a) (hv : σ r (U ||| S) = nI v) (h : Q (some (.int (nI (hwA A a k (flA A a (A 12 1 + k) S) + v)))) σ) : MetA mX5_hungerWith [.ref 57, .int (nI S), .ref r, .int (nI U)] σ Q := by
  refine MetA_of qX5_hungerWith (Nat.le_of_ble_eq_true rfl) ?_
  have h256 := pw256 (A := A) (a := a)
  have hor : U ||| S < 2 ^ jlN A a := Nat.or_lt_two_pow hU hS
  have hfl := flA_le (a := a) (t := A 12 1 + k) (S := S) hW.1
  obtain ⟨m1, m2⟩ := mis_le (k := k) (f := flA A a (A 12 1 + k) S) hW ha (by omega)
  have at24 : ∀ u u4 : Int32, u = nI (hwA A a k (flA A a (A 12 1 + k) S)) → V mX5_hungerWith 24 [(0, .ref 57), (1, .int (nI S)), (2, .ref r), (3, .int (nI U)), (4, .int u4)] [.int u] σ Q := by
    intro u u4 hu
    subst hu
    refine wpB_sd (stops := []) kX5_hungerWith 30 _ _ _ _ ?_
    refine ald (n := 256) (j := U ||| S) hr (fa_or _ _) (by omega) hv ?_
    refine fin_i h ?_
    exact nI_add _ _
  refine wpB_sd (stops := [24]) kX5_hungerWith 30 _ _ _ _ ?_
  refine ald (n := 256) (j := S) rfl rfl (by omega) (hY.2.2.2 S hS) ?_
  refine ⟨fun g => ?_, fun g => ?_⟩
  · rw [hY.2.1] at g
    exact at24 0 _ (by rw [m1.mp g]; rfl)
  · rw [hY.2.1] at g
    refine at24 _ _ ?_
    rw [hY.2.1]
    exact m2 g
set_option maxRecDepth 100000 in
set_option maxHeartbeats 1000000 in
theorem s_leastHunger {σ : Sg} {A : St} {a m k U r : Nat} {Q : Option Value → Sg → Prop} (hr : aokB r 1 256 = true) (hY : RY σ A a k) (hW : WL A) (ha : a < A 12 5) (hm : m ≤ 12) (hU : U < 2 ^ jlN A a) (hv : ∀ V, V < 2 ^ jlN A a → σ r V = nI (plK A a m (k + 1) V)) (h : Q (some (.int (nI (plK A a (m + 1) k U)))) σ) : MetA mX5_leastHunger [.ref 57, .ref r, .int (nI U)] σ Q := by
  refine MetA_of qX5_leastHunger (Nat.le_of_ble_eq_true rfl) ?_
  have h256 := pw256 (A := A) (a := a)
  have hfr := frA_lt (A := A) (a := a) (k := k) (U := U)
  have hle : ∀ S, pf A a m k U S ≤ 2000 := fun S => by
    have := pf_le (m := m) (k := k) (U := U) (S := S) hW ha
    omega
  have fin : ∀ v, IsMn (frA A a k U) (pf A a m k U) v → Q (some (.int (nI v))) σ := fun v hv => by
    rw [IsMn_one hv plK_is]; exact h
  have loop : ∀ N T v, T ≤ N → Sub T (frA A a k U) → (∃ S, Sub S (frA A a k U) ∧ v = pf A a m k U S) → (∀ S, Sub S (frA A a k U) → T < S ∨ S = 0 → v ≤ pf A a m k U S) → V mX5_leastHunger 32 [(0, .ref 57), (1, .ref r), (2, .int (nI U)), (3, .int (nI (frA A a k U))), (4, .int (nI v)), (5, .int (nI T))] [] σ Q := by
    intro N
    induction N with
    | zero =>
      intro T v hT hs he hc
      have hT : T = 0 := by omega
      subst hT
      refine wpB_sd (stops := [32]) kX5_leastHunger 30 _ _ _ _ ?_
      refine br_t (by decide) ?_
      exact fin v ⟨he, fun S hS => hc S hS (by omega)⟩
    | succ N ih =>
      intro T v hT hs he hc
      have hTl := sub_le hs
      have hv2 : v ≤ 2000 := by obtain ⟨S, _, e⟩ := he; rw [e]; exact hle S
      have hpT := hle T
      refine wpB_sd (stops := [32]) kX5_leastHunger 30 _ _ _ _ ?_
      refine ⟨fun g => ?_, fun g => ?_⟩
      · have g := (nI_leI (b := 0) (by omega) (by omega)).mp g
        exact fin v ⟨he, fun S hS => hc S hS (by omega)⟩
      · have g : ¬ T ≤ 0 := fun q => g (nI_le (b := 0) q (by omega))
        have hnx : ∀ v', (∃ S, Sub S (frA A a k U) ∧ v' = pf A a m k U S) → v' ≤ v → v' ≤ pf A a m k U T → V mX5_leastHunger 32 [(0, .ref 57), (1, .ref r), (2, .int (nI U)), (3, .int (nI (frA A a k U))), (4, .int (nI v')), (5, .int ((nI T - 1) &&& nI (frA A a k U)))] [] σ Q := by
          intro v' h1 h2 h3
          have e : (nI T - 1) &&& nI (frA A a k U) = nI ((T - 1) &&& frA A a k U) := by
            rw [show nI T - 1 = nI (T - 1) from pk_sub (b := 1) (by omega), fa_and]
          rw [e]
          have hlt : (T - 1) &&& frA A a k U ≤ T - 1 := Nat.and_le_left
          refine ih ((T - 1) &&& frA A a k U) v' (by omega) sub_and h1 (fun S hS hq => ?_)
          rcases Nat.lt_trichotomy S T with q | q | q
          · rcases hq with z | z
            · have := sub_next 8 _ T S (by omega) hs (by omega) hS q
              omega
            · exact Nat.le_trans h2 (hc S hS (Or.inr z))
          · rw [q]; exact h3
          · exact Nat.le_trans h2 (hc S hS (Or.inl q))
        refine s_hungerWith hr hY hW ha (show T < 2 ^ jlN A a by omega) hU (hv _ (Nat.or_lt_two_pow hU (by omega))) ?_
        refine ⟨fun g2 => ?_, fun g2 => ?_⟩
        · have g2 : v ≤ pf A a m k U T := (nI_leI (by omega) (by omega)).mp g2
          exact V.take 6 (hnx v he (Nat.le_refl _) g2)
        · have g2 : ¬ v ≤ pf A a m k U T := fun q => g2 (nI_le q (by unfold pf at hpT; omega))
          exact V.take 6 (hnx (pf A a m k U T) ⟨T, hs, rfl⟩ (by omega) (Nat.le_refl _))
  refine wpB_sd (stops := [32]) kX5_leastHunger 40 _ _ _ _ ?_
  refine s_hungerWith (S := 0) hr hY hW ha (Nat.two_pow_pos _) hU (hv _ (Nat.or_lt_two_pow hU (Nat.two_pow_pos _))) ?_
  have e3 : σ 57 4 &&& (nI U ^^^ (-1)) = nI (frA A a k U) := by rw [hY.2.2.1]; exact fr_I
  refine ⟨fun g => ?_, fun g => ?_⟩
  · rw [hY.2.1] at g
    have nxt := loop 0 0 (pf A a m k U 0) (by omega) sub_0 ⟨0, sub_0, rfl⟩ (fun S hS _ => (plK_0 ((mis_0 hW ha).mp g)).2 S hS)
    rw [← e3] at nxt
    exact nxt
  · have nxt := loop (frA A a k U) (frA A a k U) (pf A a m k U 0) (Nat.le_refl _) (Nat.and_self _) ⟨0, sub_0, rfl⟩ (fun S hS hq => by
      rcases hq with q | q
      · have := sub_le hS; omega
      · rw [q]; exact Nat.le_refl _)
    rw [← e3] at nxt
    exact nxt
set_option maxRecDepth 100000 in
set_option maxHeartbeats 1000000 in
theorem s_firstOf {σ : Sg} {A : St} {a n k U r : Nat} {Q : Option Value → Sg → Prop} (hr : aokB r 1 256 = true) (hY : RY σ A a k) (hW : WL A) (ha : a < A 12 5) (hn : n ≤ 12) (hk : k < n) (hU : U < 2 ^ jlN A a) (hv : ∀ V, V < 2 ^ jlN A a → σ r V = nI (plK A a (n - (k + 1)) (k + 1) V)) (h : Q (some (.int (nI (chS A a n k U)))) σ) : MetA mX5_firstOf [.ref 57, .ref r, .int (nI U), .int (nI (plK A a (n - k) k U))] σ Q := by
  refine MetA_of qX5_firstOf (Nat.le_of_ble_eq_true rfl) ?_
  have h256 := pw256 (A := A) (a := a)
  have hfr := frA_lt (A := A) (a := a) (k := k) (U := U)
  have hch := chS_lt (A := A) (a := a) (U := U) hk
  have hyes := chS_yes (A := A) (a := a) (U := U) hk
  have hcl := sub_le hyes.1
  have hle : ∀ S, pf A a (n - (k + 1)) k U S ≤ 2000 := fun S => by
    have := pf_le (m := n - (k + 1)) (k := k) (U := U) (S := S) hW ha
    omega
  have hpl := plK_le hW ha (n - k) k U
  have loop : ∀ m S, S + m = chS A a n k U → V mX5_firstOf 13 [(0, .ref 57), (1, .ref r), (2, .int (nI U)), (3, .int (nI (plK A a (n - k) k U))), (4, .int (nI (frA A a k U))), (5, .int (nI S))] [] σ Q := by
    intro m
    induction m with
    | zero =>
      intro S hS
      have hS : S = chS A a n k U := by omega
      refine wpB_sd (stops := [13]) kX5_firstOf 30 _ _ _ _ ?_
      refine br_f (nI_nlt (by omega) (by omega)) ?_
      refine bn_t ((sub_I (by omega)).mpr (by rw [hS]; exact hyes.1)) ?_
      refine s_hungerWith hr hY hW ha (show S < 2 ^ jlN A a by omega) hU (hv _ (Nat.or_lt_two_pow hU (by omega))) ?_
      refine bn_t ?_ ?_
      · have := hyes.2
        rw [← hS] at this
        unfold pf at this
        rw [this]
      · rw [← hS] at h
        exact h
    | succ m ih =>
      intro S hS
      have hno := chS_no (A := A) (a := a) (n := n) (k := k) (U := U) (S := S) (by omega)
      have hpS := hle S
      have go : V mX5_firstOf 45 [(0, .ref 57), (1, .ref r), (2, .int (nI U)), (3, .int (nI (plK A a (n - k) k U))), (4, .int (nI (frA A a k U))), (5, .int (nI S))] [] σ Q := by
        refine wpB_sd (stops := [13]) kX5_firstOf 30 _ _ _ _ ?_
        have nxt := ih (S + 1) (by omega)
        rw [← nI_1] at nxt
        exact nxt
      refine wpB_sd (stops := [13, 45]) kX5_firstOf 30 _ _ _ _ ?_
      refine br_f (nI_nlt (by omega) (by omega)) ?_
      refine ⟨fun _ => go, fun g => ?_⟩
      have g := (sub_I (by omega)).mp g
      refine s_hungerWith hr hY hW ha (show S < 2 ^ jlN A a by omega) hU (hv _ (Nat.or_lt_two_pow hU (by omega))) ?_
      refine bn_f ?_ go
      intro q
      exact hno ⟨g, (nI_eq (by omega) (by omega)).mp q⟩
  refine wpB_sd (stops := [13]) kX5_firstOf 40 _ _ _ _ ?_
  have e3 : σ 57 4 &&& (nI U ^^^ (-1)) = nI (frA A a k U) := by rw [hY.2.2.1]; exact fr_I
  have nxt := loop (chS A a n k U) 0 (by omega)
  rw [← e3] at nxt
  exact nxt
set_option maxRecDepth 100000 in
theorem s_jarsOf {σ : Sg} {A : St} {a S : Nat} {Q : Option Value → Sg → Prop} (hW : WJ A) (hS : S < 2 ^ 31) (e1 : σ 57 1 = nI (jlN A a)) (e58 : ∀ i, i < jlN A a → σ 58 i = nI (jlJ A a i)) (h : Q (some (.int (nI (jrS A a S (jlN A a))))) σ) : MetA mX5_jarsOf [.ref 57, .int (nI S)] σ Q := by
  refine MetA_of qX5_jarsOf (Nat.le_of_ble_eq_true rfl) ?_
  have hc8 := jlN_le (A := A) (a := a)
  have h24 := hW.1
  have loop : ∀ m i, i + m = jlN A a → V mX5_jarsOf 4 [(0, .ref 57), (1, .int (nI S)), (2, .int (nI (jrS A a S i))), (3, .int (nI i))] [] σ Q := by
    intro m
    induction m with
    | zero =>
      intro i hi
      have hi : i = jlN A a := by omega
      subst hi
      refine wpB_sd (stops := [4]) kX5_jarsOf 30 _ _ _ _ ?_
      refine br_t (by rw [e1]; exact nI_le (by omega) (by omega)) ?_
      exact h
    | succ m ih =>
      intro i hi
      have hj := (jl_in (A := A) (a := a) (k := i) (by omega)).1
      refine wpB_sd (stops := [4]) kX5_jarsOf 30 _ _ _ _ ?_
      refine br_f (by rw [e1]; exact nI_ge (by omega) (by omega)) ?_
      have nxt := ih (i + 1) (by omega)
      rw [jrS, ← nI_1] at nxt
      refine ⟨fun g => ?_, fun g => ?_⟩
      · rw [if_neg (fun q => g ((gbit1 hS (by omega)).mpr q))] at nxt
        exact nxt
      · rw [if_pos ((gbit1 hS (by omega)).mp g), ← or_bit (by omega)] at nxt
        refine ald (n := 8) (j := i) rfl rfl (by omega) (e58 i (by omega)) ?_
        exact nxt
  refine wpB_sd (stops := [4]) kX5_jarsOf 30 _ _ _ _ ?_
  exact loop (jlN A a) 0 (by omega)
