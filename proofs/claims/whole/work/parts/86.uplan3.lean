/-! plan: the reference's call -/
theorem or_sb {x j : Nat} {c : Prop} [Decidable c] (hj : j < 31) : nI x ||| (bI c <<< (nI j &&& 31)) = nI (if c then x ||| 2 ^ j else x) := by
  by_cases q : c
  · rw [bI_t q, if_pos q]; exact or_bit hj
  · rw [bI_f q, if_neg q, show (0 : Int32) = nI 0 from rfl, pk_shlN (n := 0) (nI j &&& 31) j (s_l j (by omega)) (by omega), fa_or]
    simp
theorem full_I {c : Nat} (h : c ≤ 8) : ((1 : Int32) <<< (nI c &&& 31)) - 1 = nI (cpB c 0) := by
  rw [one_shl (by omega), cp_full]
  exact pk_sub (b := 1) (Nat.two_pow_pos c)
set_option maxRecDepth 100000 in
set_option maxHeartbeats 2000000 in
theorem u_plan {σ : Sg} {A : St} {hg : Nat} {x y z : Int32} {Q : Option Value → Sg → Prop} (hC : MR σ A hg) (hW : WL A) (hu : ¬ ix x (A 12 5) → Q (some (.int UNK)) σ) (ho : ix x (A 12 5) → ¬ (∃ n, 1 ≤ n ∧ n ≤ 12 ∧ y = nI n ∧ okZ z n) → Q (some (.int OUT)) σ) (hm : ∀ a n, a < A 12 5 → 1 ≤ n → n ≤ 12 → x = nI a → y = nI n → z = -1 → ∀ σ', FrO σ σ' → Q (some (.int (nI (plK A a n 0 0)))) σ') (hi : ∀ a n k, a < A 12 5 → 1 ≤ n → n ≤ 12 → k < n → x = nI a → y = nI n → z = nI k → ∀ σ', FrO σ σ' → Q (some (.int (nI (opB A a n k)))) σ') : MetA mX8_plan [.ref 89, .int x, .int y, .int z] σ Q := by
  refine MetA_of qX8_plan (Nat.le_of_ble_eq_true rfl) ?_
  have h4 := hW.2.1
  have h24 := hW.1.1
  have hyr := hW.1.2.1
  have out : ix x (A 12 5) → ¬ (∃ n, 1 ≤ n ∧ n ≤ 12 ∧ y = nI n ∧ okZ z n) → V mX8_plan 38 [(0, .ref 89), (1, .int x), (2, .int y), (3, .int z)] [] σ Q := fun g q => by
    refine wpB_sd (stops := []) kX8_plan 10 _ _ _ _ ?_
    exact ho g q
  -- the search
  have at41 : ∀ a n, a < A 12 5 → 1 ≤ n → n ≤ 12 → x = nI a → y = nI n → okZ z n → V mX8_plan 41 [(0, .ref 89), (1, .int x), (2, .int y), (3, .int z)] [] σ Q := by
    intro a n ha hn1 hn hx hy hz
    subst hx hy
    have h256 := pw256 (A := A) (a := a)
    have hc8 := jlN_le (A := A) (a := a)
    refine wpB_sd (stops := [62]) kX8_plan 80 _ _ _ _ ?_
    refine m_findOwn hC hW.1 (by omega) (fun σ1 e20 e98 hF1 => ?_)
    refine m_findPlan (hC.frO hF1) hW ha hn1 hn e20 e98 (fun σ2 hrow hF2 => ?_)
    have hF : FrO σ σ2 := hF1.tr hF2.o
    have hC2 := hC.frO hF
    have g20 : σ2 89 20 = nI (jlN A a) := by rw [hF2 89 (by omega)]; exact e20
    have g98 : ∀ k, k < jlN A a → σ2 98 k = nI (jlJ A a k) := fun k hk => by rw [hF2 98 (by omega)]; exact e98 k hk
    clear e20 e98
    -- the jars of the set
    have r232 : ∀ k, k < n → z = nI k → ∀ (u4 : Int32) m i, i + m = jlN A a → V mX8_plan 232 [(0, .ref 89), (1, .int (nI a)), (2, .int (nI n)), (3, .int z), (4, .int u4), (5, .int (nI (chS A a n k (usA A a n k)))), (6, .int (nI (jrS A a (chS A a n k (usA A a n k)) i))), (7, .int (nI i))] [] σ2 Q := by
      intro k hk hzk u4 m
      have hch := chS_lt (A := A) (a := a) (n := n) (k := k) (U := usA A a n k) hk
      induction m with
      | zero =>
        intro i him
        have him : i = jlN A a := by omega
        subst him
        refine wpB_sd (stops := [232]) kX8_plan 30 _ _ _ _ ?_
        refine br_t (by rw [g20]; exact nI_le (by omega) (by omega)) ?_
        exact hi a n k ha hn1 hn hk rfl rfl hzk σ2 hF
      | succ m ih =>
        intro i him
        have hj := (jl_in (A := A) (a := a) (k := i) (by omega)).1
        refine wpB_sd (stops := [232]) kX8_plan 30 _ _ _ _ ?_
        refine br_f (by rw [g20]; exact nI_ge (by omega) (by omega)) ?_
        refine m_hasB (by omega) (by omega) ?_
        refine m_one ?_
        refine ald (n := 8) (j := i) rfl rfl (by omega) (g98 i (by omega)) ?_
        have nxt := ih (i + 1) (by omega)
        rw [jrS, ← or_sb (by omega), ← nI_1 i] at nxt
        exact nxt
    -- the years
    have r80 : ∀ k, k < n → z = nI k → ∀ m t (u5 : Int32), t + m = k + 1 → (0 < t → u5 = nI (chS A a n (t - 1) (usA A a n (t - 1)))) → V mX8_plan 80 [(0, .ref 89), (1, .int (nI a)), (2, .int (nI n)), (3, .int z), (4, .int (nI (cpB (jlN A a) (usA A a n t)))), (5, .int u5), (6, .int (nI t))] [] σ2 Q := by
      intro k hk hzk m
      induction m with
      | zero =>
        intro t u5 ht hu5
        have ht : t = k + 1 := by omega
        subst ht
        have hu5 := hu5 (by omega)
        rw [Nat.add_sub_cancel] at hu5
        subst hu5
        refine wpB_sd (stops := [80, 232]) kX8_plan 30 _ _ _ _ ?_
        refine br_t (by rw [hzk]; exact nI_lt (by omega) (by omega)) ?_
        exact r232 k hk hzk _ (jlN A a) 0 (by omega)
      | succ m ih =>
        intro t u5 ht hu5
        have hus := usA_lt (A := A) (a := a) (n := n) (k := t) (by omega)
        have hch := chS_lt (A := A) (a := a) (n := n) (k := t) (U := usA A a n t) (by omega)
        have hyes := chS_yes (A := A) (a := a) (n := n) (k := t) (U := usA A a n t) (by omega)
        have hcpl := cpB_lt (c := jlN A a) (x := usA A a n t)
        have hcc := cp_cp hus
        have hpl := plK_le hW ha (n - t) t (usA A a n t)
        have frc : ∀ S, Sub S (frA A a t (usA A a n t)) ↔ Sub S (cpB (jlN A a) (usA A a n t)) ∧ Sub S (moA A a (A 12 1 + t)) := fun S => by
          have := fr_cp (A := A) (a := a) (k := t) (S := S) hcpl
          rw [hcc] at this
          exact this
        have hlt0 : σ2 99 (256 * t + cpB (jlN A a) (usA A a n t)) = nI (plK A a (n - t) t (usA A a n t)) := by
          have := hrow t (by omega) _ hcpl
          rw [hcc] at this
          exact this
        -- found
        have done : ∀ u7 u8 : Int32, ¬ u7 = 0 → V mX8_plan 92 [(0, .ref 89), (1, .int (nI a)), (2, .int (nI n)), (3, .int z), (4, .int (nI (cpB (jlN A a) (usA A a n t)))), (5, .int (nI (chS A a n t (usA A a n t)))), (6, .int (nI t)), (7, .int u7), (8, .int u8)] [] σ2 Q := by
          intro u7 u8 h7
          refine wpB_sd (stops := [80]) kX8_plan 30 _ _ _ _ ?_
          refine bn_f h7 ?_
          have nxt := ih (t + 1) (nI (chS A a n t (usA A a n t))) (by omega) (fun _ => by rw [Nat.add_sub_cancel])
          have e : nI (cpB (jlN A a) (usA A a n t)) &&& (nI (chS A a n t (usA A a n t)) ^^^ (-1)) = nI (cpB (jlN A a) (usA A a n (t + 1))) := by
            rw [rm_I hcpl hc8]
            congr 1
            have h1 := cp_rm hcpl (S := chS A a n t (usA A a n t)) ((frc _).mp hyes.1).1
            rw [hcc] at h1
            rw [usA, ← h1, cp_cp rmB_lt]
          rw [← e, ← nI_1 t] at nxt
          exact V.take 7 nxt
        have search : ∀ mm S, S + mm = chS A a n t (usA A a n t) → V mX8_plan 92 [(0, .ref 89), (1, .int (nI a)), (2, .int (nI n)), (3, .int z), (4, .int (nI (cpB (jlN A a) (usA A a n t)))), (5, .int (nI S)), (6, .int (nI t)), (7, .int 0)] [] σ2 Q := by
          intro mm
          induction mm with
          | zero =>
            intro S hS
            have hS : S = chS A a n t (usA A a n t) := by omega
            subst hS
            obtain ⟨s1, s2⟩ := (frc _).mp hyes.1
            have at188 : ∀ u8 : Int32, V mX8_plan 188 [(0, .ref 89), (1, .int (nI a)), (2, .int (nI n)), (3, .int z), (4, .int (nI (cpB (jlN A a) (usA A a n t)))), (5, .int (nI (chS A a n t (usA A a n t)))), (6, .int (nI t)), (7, .int 0), (8, .int u8)] [.int 1] σ2 Q := by
              intro u8
              refine wpB_sd (stops := [92]) kX8_plan 30 _ _ _ _ ?_
              refine bn_f (by decide) ?_
              refine mAr (show [Value.int 0] = [Value.int (bI (1 = 0))] from rfl) (m_one (c := 1 = 0) ?_)
              have nxt := done 1 u8 (by decide)
              rw [show nI (chS A a n t (usA A a n t)) = nI (chS A a n t (usA A a n t)) + bI (1 = 0) by show _ = _ + (0 : Int32); simp] at nxt
              exact nxt
            refine wpB_sd (stops := [188]) kX8_plan 80 _ _ _ _ ?_
            refine bn_t rfl ?_
            refine br_t ((sub_I (by omega)).mpr s1) ?_
            refine ald (n := 800) (j := 0 + 177) rfl rfl (by omega) hC2.1.2.1 ?_
            refine mAr (by rw [nI_add]) (m_inSet (a := a) (k := t) hC2 hW (by omega) hch g20 g98 (fun _ => ?_) (fun q => absurd s2 q))
            have hfl := flA_le (a := a) (t := A 12 1 + t) (S := chS A a n t (usA A a n t)) hW.1
            refine br_f (nI_pos (by omega)) ?_
            refine m_hungerBy hC2 hW ha (by omega) (by omega) ?_
            have hidx : (256 : Int32) * (nI t + 1) + (nI (cpB (jlN A a) (usA A a n t)) &&& (nI (chS A a n t (usA A a n t)) ^^^ (-1))) = nI (256 * (t + 1) + rmB (jlN A a) (cpB (jlN A a) (usA A a n t)) (chS A a n t (usA A a n t))) := by rw [rm_I hcpl hc8, ix256]
            have hrm := rmB_lt (c := jlN A a) (l := cpB (jlN A a) (usA A a n t)) (S := chS A a n t (usA A a n t))
            have hlv := hrow (t + 1) (by omega) _ hrm
            rw [cp_rm hcpl s1, hcc] at hlv
            refine ald (n := 3400) (j := 256 * (t + 1) + rmB (jlN A a) (cpB (jlN A a) (usA A a n t)) (chS A a n t (usA A a n t))) rfl hidx (by omega) hlv ?_
            refine ald (n := 3400) (j := 256 * t + cpB (jlN A a) (usA A a n t)) rfl ix256' (by omega) hlt0 ?_
            refine bn_t ?_ ?_
            · have := hyes.2
              unfold pf at this
              rw [nI_add, this]
            · exact at188 _
          | succ mm ih2 =>
            intro S hS
            have hno := chS_no (A := A) (a := a) (n := n) (k := t) (U := usA A a n t) (S := S) (by omega)
            have hle := pf_le (m := n - (t + 1)) (k := t) (U := usA A a n t) (S := S) hW ha
            have at187 : ∀ u8 : Int32, V mX8_plan 187 [(0, .ref 89), (1, .int (nI a)), (2, .int (nI n)), (3, .int z), (4, .int (nI (cpB (jlN A a) (usA A a n t)))), (5, .int (nI S)), (6, .int (nI t)), (7, .int 0), (8, .int u8)] [] σ2 Q := by
              intro u8
              refine wpB_sd (stops := [92]) kX8_plan 30 _ _ _ _ ?_
              refine bn_t rfl ?_
              refine mAr (show [Value.int 1] = [Value.int (bI (0 = 0))] from rfl) (m_one (c := 0 = 0) ?_)
              have nxt := ih2 (S + 1) (by omega)
              rw [← nI_1 S] at nxt
              exact V.take 8 nxt
            refine wpB_sd (stops := [128, 187]) kX8_plan 80 _ _ _ _ ?_
            refine bn_t rfl ?_
            have neg : V mX8_plan 128 [(0, .ref 89), (1, .int (nI a)), (2, .int (nI n)), (3, .int z), (4, .int (nI (cpB (jlN A a) (usA A a n t)))), (5, .int (nI S)), (6, .int (nI t)), (7, .int 0)] [.int (-1)] σ2 Q := by
              refine wpB_sd (stops := [187]) kX8_plan 80 _ _ _ _ ?_
              refine br_t (by decide) ?_
              exact at187 _
            refine ⟨fun g => ?_, fun g => neg⟩
            have s1 := (sub_I (by omega)).mp g
            refine ald (n := 800) (j := 0 + 177) rfl rfl (by omega) hC2.1.2.1 ?_
            refine mAr (by rw [nI_add]) (m_inSet (a := a) (k := t) hC2 hW (by omega) (by omega) g20 g98 (fun s2 => ?_) (fun q => neg))
            have hfl := flA_le (a := a) (t := A 12 1 + t) (S := S) hW.1
            refine wpB_sd (stops := [187]) kX8_plan 80 _ _ _ _ ?_
            refine br_f (nI_pos (by omega)) ?_
            refine m_hungerBy hC2 hW ha (by omega) (by omega) ?_
            have hidx : (256 : Int32) * (nI t + 1) + (nI (cpB (jlN A a) (usA A a n t)) &&& (nI S ^^^ (-1))) = nI (256 * (t + 1) + rmB (jlN A a) (cpB (jlN A a) (usA A a n t)) S) := by rw [rm_I hcpl hc8, ix256]
            have hrm := rmB_lt (c := jlN A a) (l := cpB (jlN A a) (usA A a n t)) (S := S)
            have hlv := hrow (t + 1) (by omega) _ hrm
            rw [cp_rm hcpl s1, hcc] at hlv
            refine ald (n := 3400) (j := 256 * (t + 1) + rmB (jlN A a) (cpB (jlN A a) (usA A a n t)) S) rfl hidx (by omega) hlv ?_
            refine ald (n := 3400) (j := 256 * t + cpB (jlN A a) (usA A a n t)) rfl ix256' (by omega) hlt0 ?_
            refine bn_f ?_ ?_
            · intro q
              rw [nI_add] at q
              exact hno ⟨(frc S).mpr ⟨s1, s2⟩, (nI_eq (show pf A a (n - (t + 1)) t (usA A a n t) S < 2 ^ 31 by omega) (by omega)).mp q⟩
            · exact at187 _
        refine wpB_sd (stops := [92]) kX8_plan 30 _ _ _ _ ?_
        refine br_f (by rw [hzk]; exact nI_nlt (by omega) (by omega)) ?_
        exact search (chS A a n t (usA A a n t)) 0 (by omega)
    have at62 : V mX8_plan 62 [(0, .ref 89), (1, .int (nI a)), (2, .int (nI n)), (3, .int z), (4, .int (nI (cpB (jlN A a) 0)))] [] σ2 Q := by
      refine wpB_sd (stops := [80]) kX8_plan 30 _ _ _ _ ?_
      refine ⟨fun g => ?_, fun g => ?_⟩
      · rcases hz with q | ⟨k, hk, hzk⟩
        · rw [q] at g; exact absurd g (by decide)
        · exact r80 k hk hzk (k + 1) 0 0 (by omega) (fun q => by omega)
      · rcases hz with q | ⟨k, hk, hzk⟩
        · have hcpl := cpB_lt (c := jlN A a) (x := 0)
          have hlv := hrow 0 (by omega) _ hcpl
          rw [cp_cp (Nat.two_pow_pos _)] at hlv
          refine ald (n := 3400) (j := 256 * 0 + cpB (jlN A a) 0) rfl (by rw [Nat.mul_zero, Nat.zero_add]) (by omega) hlv ?_
          exact hm a n ha hn1 hn rfl rfl q σ2 hF
        · exact absurd (by rw [hzk]; exact nI_pos' (by omega)) g
    rw [← full_I hc8, ← g20] at at62
    exact at62
  refine wpB_sd (stops := [38, 41]) kX8_plan 80 _ _ _ _ ?_
  refine m_isHouse hC.2.1 h4 ?_
  refine ⟨fun g => ?_, fun g => hu (fun q => bI_0.mp g ((ix_iff (by omega)).mpr q))⟩
  have gx := (ix_iff (by omega)).mp (bI_n0 g)
  refine m_inI (lo := nI 1) (hi := nI 12) rfl rfl ?_
  refine ⟨fun g => out gx ?_, fun g => ?_⟩
  · rintro ⟨n, a, b, rfl, c⟩
    exact bI_0.mp g ((rg_iff (by omega) (by omega)).mpr ⟨n, a, b, rfl⟩)
  obtain ⟨n, hn1, hn, rfl⟩ := (rg_iff (by omega) (by omega)).mp (bI_n0 g)
  have eqv : (-1 ≤ z ∧ z ≤ nI n - 1) ↔ okZ z n := by
    rw [← okZ_iff (show n < 2 ^ 31 by omega), show nI n - 1 = nI (n - 1) from pk_sub (b := 1) (by omega), fa_le, fa_le, fa_lt, fa_lt, nI_toInt (by omega), nI_toInt (by omega)]
    omega
  refine m_inI (lo := -1) (hi := nI n - 1) rfl rfl ?_
  refine ⟨fun g => ?_, fun g => out gx ?_⟩
  · obtain ⟨a, ha, hx⟩ := gx
    exact at41 a n ha hn1 hn hx rfl (eqv.mp (bI_n0 g))
  · rintro ⟨n', a, b, e, c⟩
    have e := (nI_eq (by omega) (by omega)).mp e
    subst e
    exact bI_0.mp g (eqv.mpr c)
