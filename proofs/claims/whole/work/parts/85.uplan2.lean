/-! plan: the reference's search -/
def FrT (σ σ' : Sg) : Prop := ∀ c, c ≠ 99 → σ' c = σ c
theorem FrT.o {σ σ' : Sg} (h : FrT σ σ') : FrO σ σ' := ⟨fun c _ _ _ b => h c b, fun k _ => by rw [h 89 (by omega)]⟩
def RwM (σ : Sg) (A : St) (a n k : Nat) : Prop := ∀ l, l < 2 ^ jlN A a → σ 99 (256 * k + l) = nI (plK A a (n - k) k (cpB (jlN A a) l))
theorem ix256 {k l : Nat} : (256 : Int32) * (nI k + 1) + nI l = nI (256 * (k + 1) + l) := by
  rw [nI_1, show (256 : Int32) = nI 256 from rfl, pk_mul, nI_add]
theorem ix256' {k l : Nat} : (256 : Int32) * nI k + nI l = nI (256 * k + l) := by
  rw [show (256 : Int32) = nI 256 from rfl, pk_mul, nI_add]
set_option maxRecDepth 100000 in
set_option maxHeartbeats 2000000 in
theorem m_findPlan {σ : Sg} {A : St} {hg a n : Nat} {Q : Option Value → Sg → Prop} (hC : MR σ A hg) (hW : WL A) (ha : a < A 12 5) (hn1 : 1 ≤ n) (hn : n ≤ 12) (e20 : σ 89 20 = nI (jlN A a)) (e98 : ∀ k, k < jlN A a → σ 98 k = nI (jlJ A a k)) (h : ∀ σ', (∀ k, k ≤ n → RwM σ' A a n k) → FrT σ σ' → Q none σ') : MetA mX8_findPlan [.ref 89, .int (nI a), .int (nI n)] σ Q := by
  refine MetA_of qX8_findPlan (Nat.le_of_ble_eq_true rfl) ?_
  have h256 := pw256 (A := A) (a := a)
  have hc8 := jlN_le (A := A) (a := a)
  have h4 := hW.2.1
  have hyr := hW.1.2.1
  -- a set of what is left, in a year
  have r58 : ∀ k l σ', k < n → l < 2 ^ jlN A a → FrT σ σ' → (∀ j, k < j → j ≤ n → RwM σ' A a n j) → (∀ v, v = plK A a (n - k) k (cpB (jlN A a) l) → ∀ u6 : Int32, V mX8_findPlan 159 [(0, .ref 89), (1, .int (nI a)), (2, .int (nI n)), (3, .int (nI k)), (4, .int (nI l)), (5, .int (nI v)), (6, .int u6)] [] σ' Q) → ∀ N T v, T ≤ N → Sub T l → v ≤ 99999999 → (v = 99999999 ∨ ∃ S, Sub S (frA A a k (cpB (jlN A a) l)) ∧ v = pf A a (n - (k + 1)) k (cpB (jlN A a) l) S) → (∀ S, Sub S (frA A a k (cpB (jlN A a) l)) → T < S → v ≤ pf A a (n - (k + 1)) k (cpB (jlN A a) l) S) → V mX8_findPlan 58 [(0, .ref 89), (1, .int (nI a)), (2, .int (nI n)), (3, .int (nI k)), (4, .int (nI l)), (5, .int (nI v)), (6, .int (nI T))] [] σ' Q := by
    intro k l σ' hk hl hF hrow hfin N
    have hC' := hC.frO hF.o
    have e20' : σ' 89 20 = nI (jlN A a) := by rw [hF 89 (by omega)]; exact e20
    have e98' : ∀ k, k < jlN A a → σ' 98 k = nI (jlJ A a k) := fun k hk => by rw [hF 98 (by omega)]; exact e98 k hk
    have hle : ∀ S, pf A a (n - (k + 1)) k (cpB (jlN A a) l) S ≤ 2000 := fun S => by
      have := pf_le (m := n - (k + 1)) (k := k) (U := cpB (jlN A a) l) (S := S) hW ha
      omega
    have hlr : ∀ S, Sub S (frA A a k (cpB (jlN A a) l)) → Sub S l := fun S hS => ((fr_cp hl).mp hS).1
    induction N with
    | zero =>
      intro T v hT hs hv9 he hc
      have hT : T = 0 := by omega
      subst hT
      -- the empty set is the last
      have at120 : ∀ w u7, w ≤ 99999999 → w = pf A a (n - (k + 1)) k (cpB (jlN A a) l) 0 → ∀ wi : Int32, wi = nI w → V mX8_findPlan 120 [(0, .ref 89), (1, .int (nI a)), (2, .int (nI n)), (3, .int (nI k)), (4, .int (nI l)), (5, .int (nI v)), (6, .int (nI 0)), (7, .int u7)] [.int wi] σ' Q := by
        intro w u7 hw9 hw wi hwi
        subst hwi
        have at136 : ∀ v' (u8 : Int32), v' = (if w < v then w else v) → ∀ vi : Int32, vi = nI v' → V mX8_findPlan 136 [(0, .ref 89), (1, .int (nI a)), (2, .int (nI n)), (3, .int (nI k)), (4, .int (nI l)), (5, .int (nI v)), (6, .int (nI 0)), (7, .int u7), (8, .int u8)] [.int vi] σ' Q := by
          intro v' u8 hv' vi hvi
          subst hvi
          have hz : v' = plK A a (n - k) k (cpB (jlN A a) l) := by
            have := plK_is (A := A) (a := a) (m := n - (k + 1)) (k := k) (U := cpB (jlN A a) l)
            rw [show n - (k + 1) + 1 = n - k by omega] at this
            refine IsMn_one ⟨?_, fun S hS => ?_⟩ this
            · by_cases q : w < v
              · rw [if_pos q] at hv'; exact ⟨0, sub_0, by rw [hv']; exact hw⟩
              · rw [if_neg q] at hv'
                rcases he with z | ⟨S, z1, z2⟩
                · have := hle 0; omega
                · exact ⟨S, z1, by rw [hv']; exact z2⟩
            · rcases Nat.eq_zero_or_pos S with z | z
              · rw [z, ← hw, hv']; split <;> omega
              · have := hc S hS z
                rw [hv']; split <;> omega
          refine wpB_sd (stops := [159]) kX8_findPlan 30 _ _ _ _ ?_
          refine bn_t (by rfl) ?_
          refine br_t (by decide) ?_
          exact V.take 7 (hfin v' hz (-1))
        refine wpB_sd (stops := [136]) kX8_findPlan 30 _ _ _ _ ?_
        refine ⟨fun g => ?_, fun g => ?_⟩
        · have g := (nI_leI (by omega) (by omega)).mp g
          exact at136 v _ (by rw [if_neg (by omega)]) _ rfl
        · have g : ¬ v ≤ w := fun q => g (nI_le q (by omega))
          exact at136 w _ (by rw [if_pos (by omega)]) _ rfl
      refine wpB_sd (stops := [120]) kX8_findPlan 40 _ _ _ _ ?_
      refine br_f (by decide) ?_
      refine ald (n := 800) (j := 0 + 177) rfl rfl (by omega) hC'.1.2.1 ?_
      refine mAr (by rw [nI_add]) (m_inSet (a := a) (k := k) (S := 0) hC' hW (by omega) (Nat.two_pow_pos _) e20' e98' (fun _ => ?_) (fun q => absurd sub_0 q))
      have hfl := flA_le (a := a) (t := A 12 1 + k) (S := 0) hW.1
      refine br_t (nI_pos' (by omega)) ?_
      refine m_hungerBy hC' hW ha (by omega) (by omega) ?_
      have hidx : (256 : Int32) * (nI k + 1) + (nI l &&& (nI 0 ^^^ (-1))) = nI (256 * (k + 1) + rmB (jlN A a) l 0) := by rw [rm_I hl hc8, ix256]
      have hrm := rmB_lt (c := jlN A a) (l := l) (S := 0)
      have hlv := hrow (k + 1) (by omega) (by omega) _ hrm
      refine ald (n := 3400) (j := 256 * (k + 1) + rmB (jlN A a) l 0) rfl hidx (by omega) hlv ?_
      have hp0 := hle 0
      refine at120 (pf A a (n - (k + 1)) k (cpB (jlN A a) l) 0) _ (by omega) rfl _ ?_
      rw [nI_add]
      unfold pf
      rw [cp_rm hl sub_0]
    | succ N ih =>
      intro T v hT hs hv9 he hc
      have hTl := sub_le hs
      rcases Nat.eq_zero_or_pos T with q0 | q0
      · exact ih T v (by omega) hs hv9 he hc
      have at120 : ∀ w u7, w ≤ 99999999 → (Sub T (frA A a k (cpB (jlN A a) l)) → w = pf A a (n - (k + 1)) k (cpB (jlN A a) l) T) → (w = 99999999 ∨ (Sub T (frA A a k (cpB (jlN A a) l)) ∧ w = pf A a (n - (k + 1)) k (cpB (jlN A a) l) T)) → ∀ wi : Int32, wi = nI w → V mX8_findPlan 120 [(0, .ref 89), (1, .int (nI a)), (2, .int (nI n)), (3, .int (nI k)), (4, .int (nI l)), (5, .int (nI v)), (6, .int (nI T)), (7, .int u7)] [.int wi] σ' Q := by
        intro w u7 hw9 hw hw2 wi hwi
        subst hwi
        have at136 : ∀ v' (u8 : Int32), v' = (if w < v then w else v) → ∀ vi : Int32, vi = nI v' → V mX8_findPlan 136 [(0, .ref 89), (1, .int (nI a)), (2, .int (nI n)), (3, .int (nI k)), (4, .int (nI l)), (5, .int (nI v)), (6, .int (nI T)), (7, .int u7), (8, .int u8)] [.int vi] σ' Q := by
          intro v' u8 hv' vi hvi
          subst hvi
          refine wpB_sd (stops := [58]) kX8_findPlan 30 _ _ _ _ ?_
          refine bn_f (fun z => ?_) ?_
          · have := (nI_eq (b := 0) (by omega) (by omega)).mp z
            omega
          have hlt : (T - 1) &&& l ≤ T - 1 := Nat.and_le_left
          have nxt := ih ((T - 1) &&& l) v' (by omega) sub_and (by rw [hv']; split <;> omega) ?_ (fun S hS hq => ?_)
          · rw [← fa_and, ← pk_sub (show 1 ≤ T by omega)] at nxt
            exact V.take 7 nxt
          · by_cases q : w < v
            · rw [if_pos q] at hv'
              rcases hw2 with z | ⟨z1, z2⟩
              · exact Or.inl (by omega)
              · exact Or.inr ⟨T, z1, by rw [hv']; exact z2⟩
            · rw [if_neg q] at hv'
              rcases he with z | ⟨S, z1, z2⟩
              · exact Or.inl (by omega)
              · exact Or.inr ⟨S, z1, by rw [hv']; exact z2⟩
          · rcases Nat.lt_trichotomy S T with q | q | q
            · have := sub_next 8 _ T S (by omega) hs q0 (hlr S hS) q
              omega
            · subst q
              have := hw hS
              rw [hv']; split <;> omega
            · have := hc S hS q
              rw [hv']; split <;> omega
        refine wpB_sd (stops := [136]) kX8_findPlan 30 _ _ _ _ ?_
        refine ⟨fun g => ?_, fun g => ?_⟩
        · have g := (nI_leI (by omega) (by omega)).mp g
          exact at136 v _ (by rw [if_neg (by omega)]) _ rfl
        · have g : ¬ v ≤ w := fun q => g (nI_le q (by omega))
          exact at136 w _ (by rw [if_pos (by omega)]) _ rfl
      refine wpB_sd (stops := [120]) kX8_findPlan 40 _ _ _ _ ?_
      refine br_f (nI_pos (by omega)) ?_
      refine ald (n := 800) (j := 0 + 177) rfl rfl (by omega) hC'.1.2.1 ?_
      refine mAr (by rw [nI_add]) (m_inSet (a := a) (k := k) (S := T) hC' hW (by omega) (by omega) e20' e98' (fun hs2 => ?_) (fun hs2 => ?_))
      · have hfl := flA_le (a := a) (t := A 12 1 + k) (S := T) hW.1
        refine br_t (nI_pos' (by omega)) ?_
        refine m_hungerBy hC' hW ha (by omega) (by omega) ?_
        have hidx : (256 : Int32) * (nI k + 1) + (nI l &&& (nI T ^^^ (-1))) = nI (256 * (k + 1) + rmB (jlN A a) l T) := by rw [rm_I hl hc8, ix256]
        have hrm := rmB_lt (c := jlN A a) (l := l) (S := T)
        have hlv := hrow (k + 1) (by omega) (by omega) _ hrm
        refine ald (n := 3400) (j := 256 * (k + 1) + rmB (jlN A a) l T) rfl hidx (by omega) hlv ?_
        have hp0 := hle T
        refine at120 (pf A a (n - (k + 1)) k (cpB (jlN A a) l) T) _ (by omega) (fun _ => rfl) (Or.inr ⟨(fr_cp hl).mpr ⟨hs, hs2⟩, rfl⟩) _ ?_
        rw [nI_add]
        unfold pf
        rw [cp_rm hl hs]
      · refine br_f (by decide) ?_
        exact at120 99999999 _ (by omega) (fun z => absurd ((fr_cp hl).mp z).2 hs2) (Or.inl rfl) _ rfl
  -- the sets of what is left
  have r39 : ∀ k, k < n → (∀ σ', FrT σ σ' → (∀ j, k ≤ j → j ≤ n → RwM σ' A a n j) → V mX8_findPlan 180 [(0, .ref 89), (1, .int (nI a)), (2, .int (nI n)), (3, .int (nI k))] [] σ' Q) → ∀ m l σ', l + m = 2 ^ jlN A a → FrT σ σ' → (∀ j, k < j → j ≤ n → RwM σ' A a n j) → (∀ i, i < l → σ' 99 (256 * k + i) = nI (plK A a (n - k) k (cpB (jlN A a) i))) → V mX8_findPlan 39 [(0, .ref 89), (1, .int (nI a)), (2, .int (nI n)), (3, .int (nI k)), (4, .int (nI l))] [] σ' Q := by
    intro k hk hnx m
    induction m with
    | zero =>
      intro l σ' hl hF hrow hdone
      have hl : l = 2 ^ jlN A a := by omega
      refine wpB_sd (stops := [39, 180]) kX8_findPlan 30 _ _ _ _ ?_
      refine br_t (by rw [hF 89 (by omega), e20, one_shl (by omega)]; exact nI_le (by omega) (by omega)) ?_
      refine V.take 4 (hnx σ' hF (fun j hj hj2 => ?_))
      by_cases q : j = k
      · subst q; exact fun i hi => hdone i (by omega)
      · exact hrow j (by omega) hj2
    | succ m ih =>
      intro l σ' hl hF hrow hdone
      refine wpB_sd (stops := [39, 58]) kX8_findPlan 30 _ _ _ _ ?_
      refine br_f (by rw [hF 89 (by omega), e20, one_shl (by omega)]; exact nI_ge (by omega) (by omega)) ?_
      refine r58 k l σ' hk (by omega) hF hrow (fun v hv u6 => ?_) l l 99999999 (Nat.le_refl _) (Nat.and_self _) (by omega) (Or.inl rfl) (fun S hS hq => ?_)
      · refine wpB_sd (stops := [39]) kX8_findPlan 30 _ _ _ _ ?_
        refine ast (n := 3400) (j := 256 * k + l) rfl ix256' (by omega) ?_
        have nxt := ih (l + 1) (sgu σ' 99 (256 * k + l) (nI v)) (by omega) (fun c hc => by rw [sgu_c hc]; exact hF c hc) (fun j hj hj2 i hi => by rw [sgu_k (by omega)]; exact hrow j hj hj2 i hi) (fun i hi => ?_)
        · rw [← nI_1 l] at nxt
          exact V.take 5 nxt
        · by_cases q : i = l
          · subst q; rw [sgu_s, hv]
          · rw [sgu_k (by omega)]; exact hdone i (by omega)
      · have := sub_le ((fr_cp (show l < 2 ^ jlN A a by omega)).mp hS).1
        omega
  -- the years
  have r32 : ∀ m σ', m ≤ n → FrT σ σ' → (∀ j, m ≤ j → j ≤ n → RwM σ' A a n j) → ∀ v, v = nI m - 1 → V mX8_findPlan 32 [(0, .ref 89), (1, .int (nI a)), (2, .int (nI n)), (3, .int v)] [] σ' Q := by
    intro m
    induction m with
    | zero =>
      intro σ' hm hF hrow v hv
      subst hv
      refine wpB_sd (stops := [32]) kX8_findPlan 30 _ _ _ _ ?_
      refine br_t (by decide) ?_
      exact h σ' (fun k hk => hrow k (by omega) hk) hF
    | succ m ih =>
      intro σ' hm hF hrow v hv
      have hv := nI_s1 hv
      subst hv
      refine wpB_sd (stops := [32, 39]) kX8_findPlan 30 _ _ _ _ ?_
      refine br_f (nI_pos (by omega)) ?_
      refine r39 m (by omega) (fun σ1 hF1 hrow1 => ?_) (2 ^ jlN A a) 0 σ' (by omega) hF (fun j hj hj2 => hrow j (by omega) hj2) (fun i hi => by omega)
      refine wpB_sd (stops := [32]) kX8_findPlan 30 _ _ _ _ ?_
      exact ih σ1 (by omega) hF1 hrow1 _ nI_d1
  have r2 : ∀ m s σ', s + m = 256 → FrT σ σ' → (∀ i, i < s → σ' 99 (256 * n + i) = nI 0) → V mX8_findPlan 2 [(0, .ref 89), (1, .int (nI a)), (2, .int (nI n)), (3, .int (nI s))] [] σ' Q := by
    intro m
    induction m with
    | zero =>
      intro s σ' hs hF hz
      have hs : s = 256 := by omega
      subst hs
      refine wpB_sd (stops := [2, 32]) kX8_findPlan 30 _ _ _ _ ?_
      refine br_t (by decide) ?_
      refine r32 n σ' (Nat.le_refl _) hF (fun j hj hj2 l hl => ?_) _ rfl
      have : j = n := by omega
      subst this
      rw [hz l (by omega), Nat.sub_self]
      rfl
    | succ m ih =>
      intro s σ' hs hF hz
      refine wpB_sd (stops := [2]) kX8_findPlan 30 _ _ _ _ ?_
      refine br_f (nI_ge (a := s) (b := 256) (by omega) (by omega)) ?_
      refine ast (n := 3400) (j := 256 * n + s) rfl ix256' (by omega) ?_
      have nxt := ih (s + 1) (sgu σ' 99 (256 * n + s) 0) (by omega) (fun c hc => by rw [sgu_c hc]; exact hF c hc) (fun i hi => by
        by_cases q : i = s
        · subst q; rw [sgu_s]; rfl
        · rw [sgu_k (by omega)]; exact hz i (by omega))
      rw [← nI_1 s] at nxt
      exact nxt
  refine wpB_sd (stops := [2]) kX8_findPlan 30 _ _ _ _ ?_
  exact r2 256 0 σ rfl (fun _ _ => rfl) (fun i hi => by omega)
