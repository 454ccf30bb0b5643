/-! the reference's reader: houses, jars, clauses -/
theorem RV.out {σ : Sg} {A : St} {c k : Nat} {v : Int32} (h : RV σ A) (hc : (c = 93 ∧ 4 + A 12 5 ≤ k) ∨ (c = 94 ∧ 4 + A 12 5 ≤ k) ∨ (c = 95 ∧ 5 * A 12 0 ≤ k)) : RV (sgu σ c k v) A := by
  obtain ⟨a, b, d, e, f, g⟩ := h
  have h89 : ∀ j, sgu σ c k v 89 j = σ 89 j := fun j => by rw [sgu_c (by omega)]
  have h92 : ∀ j, sgu σ c k v 92 j = σ 92 j := fun j => by rw [sgu_c (by omega)]
  refine ⟨by rw [h89]; exact a, by rw [h89]; exact b, by rw [h89]; exact d, fun j hj => by rw [h92]; exact e j hj, fun j hj => ?_, fun j hj => ?_⟩
  · rw [sgu_at, sgu_at, if_neg (by omega), if_neg (by omega)]; exact f j hj
  · rw [sgu_at, sgu_at, sgu_at, sgu_at, sgu_at, if_neg (by omega), if_neg (by omega), if_neg (by omega), if_neg (by omega), if_neg (by omega)]; exact g j hj
theorem RV_ho {σ : Sg} {A : St} {w s : Nat} {u : Int32} (h : RV σ A) (hu : u = nI (A 12 5 + 1)) (e93 : σ 93 (4 + A 12 5) = nI w) (e94 : σ 94 (4 + A 12 5) = nI s) : RV (sgu σ 89 9 u) (hoA A w s) := by
  obtain ⟨a, b, c, d, e, g⟩ := h
  have e5 : hoA A w s 12 5 = A 12 5 + 1 := stu_s
  have eo : ∀ f k, f ≠ 9 → f ≠ 7 → f ≠ 8 → ¬ (f = 12 ∧ k = 5) → hoA A w s f k = A f k := fun f k a b c d => by
    unfold hoA stu
    rw [if_neg d, if_neg (fun q => c q.1), if_neg (fun q => b q.1), if_neg (fun q => a q.1)]
  have ek : ∀ f k, k ≠ A 12 5 → f ≠ 12 → hoA A w s f k = A f k := fun f k a b => by
    unfold hoA stu
    rw [if_neg (fun q => b q.1), if_neg (fun q => a q.2), if_neg (fun q => a q.2), if_neg (fun q => a q.2)]
  have n9 : hoA A w s 9 (A 12 5) = w := by unfold hoA; rw [stu_f (by omega), stu_f (by omega), stu_f (by omega), stu_s]
  have n7 : hoA A w s 7 (A 12 5) = s := by unfold hoA; rw [stu_f (by omega), stu_f (by omega), stu_s]
  refine ⟨?_, ?_, ?_, fun k hk => ?_, fun k hk => ?_, fun k hk => ?_⟩
  · rw [sgu_k (by omega), eo _ _ (by omega) (by omega) (by omega) (by omega)]; exact a
  · rw [sgu_s, e5]; exact hu
  · rw [sgu_k (by omega), eo _ _ (by omega) (by omega) (by omega) (by omega)]; exact c
  · rw [eo 12 6 (by omega) (by omega) (by omega) (by omega)] at hk
    rw [sgu_c (by omega), eo _ _ (by omega) (by omega) (by omega) (by omega)]; exact d k hk
  · rw [e5] at hk
    rw [sgu_c (by omega), sgu_c (by omega)]
    by_cases z : k = A 12 5
    · subst z; rw [n9, n7]; exact ⟨e93, e94⟩
    · rw [ek _ _ z (by omega), ek _ _ z (by omega)]; exact e k (by omega)
  · rw [eo 12 0 (by omega) (by omega) (by omega) (by omega)] at hk
    rw [sgu_c (by omega), eo _ _ (by omega) (by omega) (by omega) (by omega), eo _ _ (by omega) (by omega) (by omega) (by omega), eo _ _ (by omega) (by omega) (by omega) (by omega), eo _ _ (by omega) (by omega) (by omega) (by omega), eo _ _ (by omega) (by omega) (by omega) (by omega)]
    exact g k hk
theorem RV_ad {σ : Sg} {A : St} {kd hh dt q kp : Nat} {u : Int32} (h : RV σ A) (hu : u = nI (A 12 0 + 1)) (e0 : σ 95 (5 * A 12 0) = nI kd) (e1 : σ 95 (5 * A 12 0 + 1) = nI hh) (e2 : σ 95 (5 * A 12 0 + 2) = nI dt) (e3 : σ 95 (5 * A 12 0 + 3) = nI q) (e4 : σ 95 (5 * A 12 0 + 4) = nI kp) : RV (sgu σ 89 10 u) (addA A kd hh dt q kp 0) := by
  obtain ⟨a, b, c, d, e, g⟩ := h
  have hf : ∀ f j, 6 < f → ¬ (f = 12 ∧ j = 0) → addA A kd hh dt q kp 0 f j = A f j := fun f j a b => addA_f a b
  have hn : addA A kd hh dt q kp 0 12 0 = A 12 0 + 1 := addA_n
  have n0 : addA A kd hh dt q kp 0 0 (A 12 0) = kd := by
    unfold addA
    exact (if_neg (by omega)).trans (if_pos ⟨rfl, by omega⟩)
  have n1 : addA A kd hh dt q kp 0 1 (A 12 0) = hh := by
    unfold addA
    exact (if_neg (by omega)).trans (if_pos ⟨rfl, by omega⟩)
  have n2 : addA A kd hh dt q kp 0 2 (A 12 0) = dt := by
    unfold addA
    exact (if_neg (by omega)).trans (if_pos ⟨rfl, by omega⟩)
  have n3 : addA A kd hh dt q kp 0 3 (A 12 0) = q := by
    unfold addA
    exact (if_neg (by omega)).trans (if_pos ⟨rfl, by omega⟩)
  have n4 : addA A kd hh dt q kp 0 4 (A 12 0) = kp := by
    unfold addA
    exact (if_neg (by omega)).trans (if_pos ⟨rfl, by omega⟩)
  refine ⟨?_, ?_, ?_, fun k hk => ?_, fun k hk => ?_, fun k hk => ?_⟩
  · rw [sgu_k (by omega), hf _ _ (by omega) (by omega)]; exact a
  · rw [sgu_k (by omega), hf _ _ (by omega) (by omega)]; exact b
  · rw [sgu_s, hn]; exact hu
  · rw [hf 12 6 (by omega) (by omega)] at hk
    rw [sgu_c (by omega), hf _ _ (by omega) (by omega)]; exact d k hk
  · rw [hf 12 5 (by omega) (by omega)] at hk
    rw [sgu_c (by omega), sgu_c (by omega), hf _ _ (by omega) (by omega), hf _ _ (by omega) (by omega)]; exact e k hk
  · rw [hn] at hk
    rw [sgu_c (by omega)]
    by_cases z : k = A 12 0
    · subst z; rw [n0, n1, n2, n3, n4]; exact ⟨e0, e1, e2, e3, e4⟩
    · rw [addA_j (by omega) z, addA_j (by omega) z, addA_j (by omega) z, addA_j (by omega) z, addA_j (by omega) z]; exact g k (by omega)
theorem RU.arr {σ : Sg} {T : Tx} {len p c k : Nat} {f : Fl} {v : Int32} (h : RU σ T len p f) (h1 : c ≠ 89) (h2 : c ≠ 96) : RU (sgu σ c k v) T len p f := h.fr (fun k a b => by rw [sgu_c (fun q => h1 q.symm)]) (by rw [sgu_c (fun q => h2 q.symm)])
set_option maxRecDepth 100000 in
set_option maxHeartbeats 2000000 in
theorem m_takeHouse {σ : Sg} {T : Tx} {len p : Nat} {A : St} {Q : Option Value → Sg → Prop} (hS : RU σ T len p none) (hV : RV σ A) (h5 : A 12 5 < 4) (h : CU T len (bdHo T len p A) σ Q) : MetA mX8_takeHouse [.ref 89] σ Q := by
  refine MetA_of qX8_takeHouse (Nat.le_of_ble_eq_true rfl) ?_
  have hp := hS.2.2.2.1
  refine wpB_sd (stops := []) kX8_takeHouse 60 _ _ _ _ ?_
  refine mAr (by rfl) (m_takeNumber (lo := 0) (hi := 100) (m := 99) hS (by omega) (by omega) (by decide) (fun σ1 p1 f1 v1 hS1 n1 hF1 => ?_))
  refine ast (n := 8) (j := 4 + A 12 5) rfl (by rw [hV.2.1]; exact nI_add 4 _) (by omega) ?_
  have hV1 : RV (sgu σ1 93 (4 + A 12 5) v1) A := (hV.u hF1).out (by omega)
  have hS1' : RU (sgu σ1 93 (4 + A 12 5) v1) T len p1 f1 := hS1.arr (by omega) (by omega)
  have hF1' : FrV σ (sgu σ1 93 (4 + A 12 5) v1) := hF1.v.tr (FrV.arr (by omega))
  refine mAr (by rfl) (m_takeNumber (lo := 0) (hi := 21) (m := 20) hS1' (by omega) (by omega) (by decide) (fun σ2 p2 f2 v2 hS2 n2 hF2 => ?_))
  refine ast (n := 8) (j := 4 + A 12 5) rfl (by rw [hV1.2.1]; exact nI_add 4 _) (by omega) ?_
  have hV2 : RV (sgu σ2 94 (4 + A 12 5) v2) A := (hV1.u hF2).out (by omega)
  have hS2' : RU (sgu (sgu σ2 94 (4 + A 12 5) v2) 89 9 (sgu σ2 94 (4 + A 12 5) v2 89 9 + 1)) T len p2 f2 := (hS2.arr (by omega) (by omega)).put (by omega) (by omega) (by omega) (by omega)
  have hF2' : FrV σ (sgu (sgu σ2 94 (4 + A 12 5) v2) 89 9 (sgu σ2 94 (4 + A 12 5) v2 89 9 + 1)) := ((hF1'.tr hF2.v).tr (FrV.arr (by omega))).tr (FrV.put (by omega))
  unfold bdHo at h
  cases h1 : numS T len p 0 100 with
  | inl q =>
    have e3 := n2.bad (n1.inl rfl h1)
    subst e3
    exact h.1 _ p2 q (by rw [h1]) hS2' hF2'
  | inr x1 =>
    obtain ⟨w, e1⟩ := x1
    obtain ⟨f1n, v1e, p1e⟩ := n1.inr rfl h1
    dsimp only at v1e p1e
    subst p1e
    rw [h1] at h
    dsimp only at h
    cases h2 : numS T len p1 0 21 with
    | inl q =>
      have e3 := n2.inl f1n h2
      subst e3
      exact h.1 _ p2 q (by rw [h2]) hS2' hF2'
    | inr x2 =>
      obtain ⟨sl, e2⟩ := x2
      obtain ⟨f2n, v2e, p2e⟩ := n2.inr f1n h2
      dsimp only at v2e p2e
      subst p2e f2n
      refine h.2 _ p2 (hoA A w sl) (by rw [h2]) hS2' (RV_ho hV2 (by rw [hV2.2.1, nI_1]) ?_ ?_) hF2'
      · rw [sgu_c (by omega), hF2.1 93 (by omega), sgu_s]; exact v1e
      · rw [sgu_s]; exact v2e
set_option maxRecDepth 100000 in
set_option maxHeartbeats 4000000 in
theorem m_takeJar {σ : Sg} {T : Tx} {len p : Nat} {A : St} {Q : Option Value → Sg → Prop} (hS : RU σ T len p none) (hV : RV σ A) (hW : WN A) (h0 : A 12 0 < 12) (h : CU T len (bdJr T len p A) σ Q) : MetA mX8_takeJar [.ref 89] σ Q := by
  refine MetA_of qX8_takeJar (Nat.le_of_ble_eq_true rfl) ?_
  have hp := hS.2.2.2.1
  have hb := bl_le (T := T) hp
  have hlt := lt_ge (T := T) (len := len) (p := bl T len p)
  have hle := lt_le (T := T) hb
  have h4 := hW.1.2.1
  -- behind the kind
  have rest : ∀ σ0 f0 (kv w : Int32), RU σ0 T len (lt T len (bl T len p)) f0 → RV σ0 A → FrV σ σ0 → (knd T (bl T len p) (lt T len (bl T len p)) = none → f0 = some (1, bl T len p)) → (∀ k, knd T (bl T len p) (lt T len (bl T len p)) = some k → f0 = none ∧ kv = nI k) → V mX8_takeJar 89 [(0, .ref 89), (1, .int kv)] [.int w] σ0 Q := by
    intro σ0 f0 kv w hS0 hV0 hF0 hno hyes
    have e5 : (5 : Int32) * nI (A 12 0) = nI (5 * A 12 0) := by rw [show (5 : Int32) = nI 5 from rfl, pk_mul]
    refine wpB_sd (stops := []) kX8_takeJar 90 _ _ _ _ ?_
    refine ast (n := 60) (j := 5 * A 12 0) rfl (by rw [hV0.2.2.1]; exact e5) (by omega) ?_
    have hSa : RU (sgu σ0 95 (5 * A 12 0) kv) T len (lt T len (bl T len p)) f0 := hS0.arr (by omega) (by omega)
    have hVa : RV (sgu σ0 95 (5 * A 12 0) kv) A := hV0.out (by omega)
    refine mAr (by rfl) (m_takeNumber (lo := 0) (hi := A 12 5) (m := sgu σ0 95 (5 * A 12 0) kv 89 9 - 1) hSa (by omega) (by omega) (by rw [hVa.2.1]) (fun σ1 p1 f1 v1 hS1 n1 hF1 => ?_))
    refine ast (n := 60) (j := 5 * A 12 0 + 1) rfl (by rw [hV0.2.2.1, e5]; exact nI_add _ 1) (by omega) ?_
    have hSb : RU (sgu σ1 95 (5 * A 12 0 + 1) v1) T len p1 f1 := hS1.arr (by omega) (by omega)
    have hVb : RV (sgu σ1 95 (5 * A 12 0 + 1) v1) A := (hVa.u hF1).out (by omega)
    refine mAr (by rfl) (m_takeNumber (lo := 0) (hi := 100) (m := 99) hSb (by omega) (by omega) (by decide) (fun σ2 p2 f2 v2 hS2 n2 hF2 => ?_))
    refine ast (n := 60) (j := 5 * A 12 0 + 2) rfl (by rw [hV0.2.2.1, e5]; exact nI_add _ 2) (by omega) ?_
    have hSc : RU (sgu σ2 95 (5 * A 12 0 + 2) v2) T len p2 f2 := hS2.arr (by omega) (by omega)
    have hVc : RV (sgu σ2 95 (5 * A 12 0 + 2) v2) A := (hVb.u hF2).out (by omega)
    refine mAr (by rfl) (m_takeNumber (lo := 1) (hi := 100) (m := 99) hSc (by omega) (by omega) (by decide) (fun σ3 p3 f3 v3 hS3 n3 hF3 => ?_))
    refine ast (n := 60) (j := 5 * A 12 0 + 3) rfl (by rw [hV0.2.2.1, e5]; exact nI_add _ 3) (by omega) ?_
    have hSd : RU (sgu σ3 95 (5 * A 12 0 + 3) v3) T len p3 f3 := hS3.arr (by omega) (by omega)
    have hVd : RV (sgu σ3 95 (5 * A 12 0 + 3) v3) A := (hVc.u hF3).out (by omega)
    refine mAr (by rfl) (m_takeNumber (lo := 0) (hi := 100) (m := 99) hSd (by omega) (by omega) (by decide) (fun σ4 p4 f4 v4 hS4 n4 hF4 => ?_))
    refine ast (n := 60) (j := 5 * A 12 0 + 4) rfl (by rw [hV0.2.2.1, e5]; exact nI_add _ 4) (by omega) ?_
    have hVe : RV (sgu σ4 95 (5 * A 12 0 + 4) v4) A := (hVd.u hF4).out (by omega)
    have hSe : RU (sgu (sgu σ4 95 (5 * A 12 0 + 4) v4) 89 10 (sgu σ4 95 (5 * A 12 0 + 4) v4 89 10 + 1)) T len p4 f4 := (hS4.arr (by omega) (by omega)).put (by omega) (by omega) (by omega) (by omega)
    have hFe : FrV σ (sgu (sgu σ4 95 (5 * A 12 0 + 4) v4) 89 10 (sgu σ4 95 (5 * A 12 0 + 4) v4 89 10 + 1)) := (((((((((hF0.tr (FrV.arr (by omega))).tr hF1.v).tr (FrV.arr (by omega))).tr hF2.v).tr (FrV.arr (by omega))).tr hF3.v).tr (FrV.arr (by omega))).tr hF4.v).tr (FrV.arr (by omega))).tr (FrV.put (by omega))
    have g4 : sgu σ4 95 (5 * A 12 0 + 4) v4 95 (5 * A 12 0 + 4) = v4 := sgu_s
    have g3 : sgu σ4 95 (5 * A 12 0 + 4) v4 95 (5 * A 12 0 + 3) = v3 := by rw [sgu_k (by omega), hF4.1 95 (by omega), sgu_s]
    have g2 : sgu σ4 95 (5 * A 12 0 + 4) v4 95 (5 * A 12 0 + 2) = v2 := by rw [sgu_k (by omega), hF4.1 95 (by omega), sgu_k (by omega), hF3.1 95 (by omega), sgu_s]
    have g1 : sgu σ4 95 (5 * A 12 0 + 4) v4 95 (5 * A 12 0 + 1) = v1 := by rw [sgu_k (by omega), hF4.1 95 (by omega), sgu_k (by omega), hF3.1 95 (by omega), sgu_k (by omega), hF2.1 95 (by omega), sgu_s]
    have g0 : sgu σ4 95 (5 * A 12 0 + 4) v4 95 (5 * A 12 0) = kv := by rw [sgu_k (by omega), hF4.1 95 (by omega), sgu_k (by omega), hF3.1 95 (by omega), sgu_k (by omega), hF2.1 95 (by omega), sgu_k (by omega), hF1.1 95 (by omega), sgu_s]
    have weak : ∀ q, f4 = some q → bdJr T len p A = .inl q → Q none (sgu (sgu σ4 95 (5 * A 12 0 + 4) v4) 89 10 (sgu σ4 95 (5 * A 12 0 + 4) v4 89 10 + 1)) := fun q hq hr => by
      subst hq
      exact h.1 _ p4 q hr hSe hFe
    unfold bdJr at weak h
    cases hk : knd T (bl T len p) (lt T len (bl T len p)) with
    | none => exact weak _ (n4.bad (n3.bad (n2.bad (n1.bad (hno hk))))) (by rw [hk])
    | some k =>
      obtain ⟨f0n, kve⟩ := hyes k hk
      rw [hk] at weak h
      dsimp only at weak h
      cases h1 : numS T len (lt T len (bl T len p)) 0 (A 12 5) with
      | inl q => exact weak q (n4.bad (n3.bad (n2.bad (n1.inl f0n h1)))) (by rw [h1])
      | inr x1 =>
        obtain ⟨hh, e1⟩ := x1
        obtain ⟨f1n, v1e, p1e⟩ := n1.inr f0n h1
        dsimp only at v1e p1e
        subst p1e
        rw [h1] at weak h
        dsimp only at weak h
        cases h2 : numS T len p1 0 100 with
        | inl q => exact weak q (n4.bad (n3.bad (n2.inl f1n h2))) (by rw [h2])
        | inr x2 =>
          obtain ⟨d, e2⟩ := x2
          obtain ⟨f2n, v2e, p2e⟩ := n2.inr f1n h2
          dsimp only at v2e p2e
          subst p2e
          rw [h2] at weak h
          dsimp only at weak h
          cases h3 : numS T len p2 1 100 with
          | inl q => exact weak q (n4.bad (n3.inl f2n h3)) (by rw [h3])
          | inr x3 =>
            obtain ⟨qq, e3⟩ := x3
            obtain ⟨f3n, v3e, p3e⟩ := n3.inr f2n h3
            dsimp only at v3e p3e
            subst p3e
            rw [h3] at weak h
            dsimp only at weak h
            cases h4' : numS T len p3 0 100 with
            | inl q => exact weak q (n4.inl f3n h4') (by rw [h4'])
            | inr x4 =>
              obtain ⟨kp, e4⟩ := x4
              obtain ⟨f4n, v4e, p4e⟩ := n4.inr f3n h4'
              dsimp only at v4e p4e
              subst p4e f4n
              rw [h4'] at h
              dsimp only at h
              exact h.2 _ p4 _ rfl hSe (RV_ad hVe (by rw [hVe.2.2.1, nI_1]) (g0.trans kve) (g1.trans v1e) (g2.trans v2e) (g3.trans v3e) (g4.trans v4e)) hFe
  have at70 : ∀ σ0 (kv : Int32), RU σ0 T len (lt T len (bl T len p)) none → RV σ0 A → FrV σ σ0 → σ0 89 14 = nI (bl T len p) → (knd T (bl T len p) (lt T len (bl T len p)) = none → kv = -1) → (∀ k, knd T (bl T len p) (lt T len (bl T len p)) = some k → kv = nI k) → V mX8_takeJar 70 [(0, .ref 89)] [.int kv] σ0 Q := by
    intro σ0 kv hS0 hV0 hF0 e14 hno hyes
    refine wpB_sd (stops := [89]) kX8_takeJar 40 _ _ _ _ ?_
    cases hk : knd T (bl T len p) (lt T len (bl T len p)) with
    | none =>
      have := hno hk
      subst this
      refine br_t (by decide) ?_
      refine mAr (by rw [e14]; rfl) (m_want (k := 1) (w := bl T len p) (c := False) (g := 0) hS0 ⟨fun _ z => z, fun _ => rfl⟩ (by omega) (by omega) (fun σ1 hS1 hF1 _ => ?_))
      simp only [if_false] at hS1 ⊢
      exact rest σ1 _ _ _ hS1 (hV0.u hF1.u) (hF0.tr hF1.u.v) (fun _ => rfl) (fun k z => by rw [hk] at z; simp at z)
    | some k =>
      have hkv := hyes k hk
      subst hkv
      have hk2 := knd_le hk
      refine br_f (nI_pos (by omega)) ?_
      refine mAr (by rw [e14]; rfl) (m_want (k := 1) (w := bl T len p) (c := True) (g := 1) hS0 ⟨fun z => absurd z (by decide), fun z => absurd trivial z⟩ (by omega) (by omega) (fun σ1 hS1 hF1 _ => ?_))
      simp only [if_true] at hS1 ⊢
      exact rest σ1 _ _ _ hS1 (hV0.u hF1.u) (hF0.tr hF1.u.v) (fun z => by rw [hk] at z; simp at z) (fun k' z => by rw [hk] at z; simp only [Option.some.injEq] at z; subst z; exact ⟨rfl, rfl⟩)
  refine wpB_sd (stops := [70]) kX8_takeJar 60 _ _ _ _ ?_
  refine m_takeWord hS (fun σ1 hS1 e14 e15 hF1 => ?_)
  have hV1 := hV.u hF1
  have hsl : bl T len p + (lt T len (bl T len p) - bl T len p) ≤ len := by omega
  have go := fun kv => at70 σ1 kv hS1 hV1 hF1.v e14
  unfold knd at go
  refine mAr (by rfl) (m_isWord (n := 5) (a := 112) (b := 108) (c := 97) (d := 105) (e := 110) hS1 e14 e15 hsl (by omega) (by omega) (C := IsWd T (bl T len p) (lt T len (bl T len p)) wPlain) (by rw [IsWd5 (n := 5) rfl (by omega)]; exact ⟨fun z => ⟨by omega, z.2⟩, fun z => ⟨by omega, z.2⟩⟩) ?_)
  refine ⟨fun g => ?_, fun g => ?_⟩
  · have g := bI_0.mp g
    rw [if_neg g] at go
    refine mAr (by rfl) (m_isWord (n := 4) (a := 112) (b := 108) (c := 117) (d := 109) (e := 0) hS1 e14 e15 hsl (by omega) (by omega) (C := IsWd T (bl T len p) (lt T len (bl T len p)) wPlum) (by rw [IsWd5 (n := 4) rfl (by omega)]; exact ⟨fun z => ⟨by omega, fun k a b => by have := z.2 k a b; rcases (show k = 0 ∨ k = 1 ∨ k = 2 ∨ k = 3 by omega) with rfl | rfl | rfl | rfl <;> exact this⟩, fun z => ⟨by omega, fun k a b => by have := z.2 k a b; rcases (show k = 0 ∨ k = 1 ∨ k = 2 ∨ k = 3 by omega) with rfl | rfl | rfl | rfl <;> exact this⟩⟩) ?_)
    refine ⟨fun g => ?_, fun g => ?_⟩
    · have g := bI_0.mp g
      rw [if_neg g] at go
      refine mAr (by rfl) (m_isWord (n := 5) (a := 103) (b := 108) (c := 97) (d := 115) (e := 115) hS1 e14 e15 hsl (by omega) (by omega) (C := IsWd T (bl T len p) (lt T len (bl T len p)) wGlass) (by rw [IsWd5 (n := 5) rfl (by omega)]; exact ⟨fun z => ⟨by omega, z.2⟩, fun z => ⟨by omega, z.2⟩⟩) ?_)
      refine ⟨fun g => ?_, fun g => ?_⟩
      · have g := bI_0.mp g
        rw [if_neg g] at go
        exact go _ (fun _ => rfl) (fun k z => by simp at z)
      · have g := bI_n0 g
        rw [if_pos g] at go
        exact go _ (fun z => by simp at z) (fun k z => by simp only [Option.some.injEq] at z; subst z; rfl)
    · have g := bI_n0 g
      rw [if_pos g] at go
      exact go _ (fun z => by simp at z) (fun k z => by simp only [Option.some.injEq] at z; subst z; rfl)
  · have g := bI_n0 g
    rw [if_pos g] at go
    exact go _ (fun z => by simp at z) (fun k z => by simp only [Option.some.injEq] at z; subst z; rfl)
theorem CU.fr {T : Tx} {len : Nat} {r : Rz (Nat × St)} {σ σ' : Sg} {Q : Option Value → Sg → Prop} (h : CU T len r σ Q) (hF : FrV σ σ') : CU T len r σ' Q := ⟨fun σ2 p q a b c => h.1 σ2 p q a b (hF.tr c), fun σ2 e B a b c d => h.2 σ2 e B a b c (hF.tr d)⟩
set_option maxRecDepth 100000 in
set_option maxHeartbeats 4000000 in
theorem m_takeClause {σ : Sg} {T : Tx} {len p : Nat} {A : St} {Q : Option Value → Sg → Prop} (hS : RU σ T len p none) (hbl : bl T len p = p) (hV : RV σ A) (hW : WN A) (h : CU T len (bdS T len p A) σ Q) : MetA mX8_takeClause [.ref 89] σ Q := by
  refine MetA_of qX8_takeClause (Nat.le_of_ble_eq_true rfl) ?_
  have hp := hS.2.2.2.1
  have hlt := lt_ge (T := T) (len := len) (p := p)
  have hle := lt_le (T := T) hp
  have h4 := hW.1.2.1
  have h6 := hW.1.2.2.1
  have h12 := hW.2.1
  have eL : p + (lt T len p - p) = lt T len p := by omega
  refine wpB_sd (stops := []) kX8_takeClause 90 _ _ _ _ ?_
  refine m_takeWord hS (fun σ1 hS1 e14 e15 hF1 => ?_)
  rw [hbl] at hS1 e14 e15
  have hV1 := hV.u hF1
  have h := h.fr hF1.v
  have bad : ∀ σ2 k, RU σ2 T len (lt T len p) (orF none k p) → FrA σ1 σ2 → bdS T len p A = .inl (k, p) → Q none σ2 := fun σ2 k hS2 hF2 hr => h.1 σ2 _ _ hr hS2 hF2.u.v
  refine m_isHarvestWord hS1 e14 e15 (by omega) ?_
  rw [eL]
  unfold bdS at h bad
  refine ⟨fun g => ?_, fun g => ?_⟩
  · have g := bI_0.mp g
    rw [if_neg g] at h bad
    refine mAr (by rfl) (m_isWord (n := 5) (a := 104) (b := 111) (c := 117) (d := 115) (e := 101) hS1 e14 e15 (by omega) (by omega) (by omega) (C := IsWd T p (lt T len p) wHouse) (by rw [IsWd5 (n := 5) rfl (by omega)]; exact ⟨fun z => ⟨by omega, z.2⟩, fun z => ⟨by omega, z.2⟩⟩) ?_)
    refine ⟨fun g => ?_, fun g => ?_⟩
    · have g := bI_0.mp g
      rw [if_neg g] at h bad
      refine mAr (by rfl) (m_isWord (n := 3) (a := 106) (b := 97) (c := 114) (d := 0) (e := 0) hS1 e14 e15 (by omega) (by omega) (by omega) (C := IsWd T p (lt T len p) wJar) (by rw [IsWd5 (n := 3) rfl (by omega)]; exact ⟨fun z => ⟨by omega, fun k a b => by have := z.2 k a b; rcases (show k = 0 ∨ k = 1 ∨ k = 2 by omega) with rfl | rfl | rfl <;> exact this⟩, fun z => ⟨by omega, fun k a b => by have := z.2 k a b; rcases (show k = 0 ∨ k = 1 ∨ k = 2 by omega) with rfl | rfl | rfl <;> exact this⟩⟩) ?_)
      refine mAr (by rw [e14]; rfl) (m_want (k := 1) (w := p) (c := IsWd T p (lt T len p) wJar) (g := bI (IsWd T p (lt T len p) wJar)) hS1 bI_0 (by omega) (by omega) (fun σ2 hS2 hF2 _ => ?_))
      by_cases g : IsWd T p (lt T len p) wJar
      · simp only [if_pos g] at hS2 h bad ⊢
        refine br_f (by decide) ?_
        have hV2 := hV1.u hF2.u
        by_cases hc : A 12 0 < 12
        · refine br_f (by rw [hV2.2.2.1]; exact nI_ge (b := 12) hc (by omega)) ?_
          refine mAr (by rw [e14]; rfl) (m_want (k := 3) (w := p) (c := True) (g := 1) hS2 ⟨fun z => absurd z (by decide), fun z => absurd trivial z⟩ (by omega) (by omega) (fun σ3 hS3 hF3 _ => ?_))
          simp only [if_true] at hS3 ⊢
          refine br_f (by decide) ?_
          rw [if_neg (by omega)] at h
          exact m_takeJar hS3 (hV2.u hF3.u) hW hc (h.fr (hF2.u.v.tr hF3.u.v))
        · refine br_t (by rw [hV2.2.2.1]; exact nI_le (a := 12) (by omega) (by omega)) ?_
          refine mAr (by rw [e14]; rfl) (m_want (k := 3) (w := p) (c := False) (g := 0) hS2 ⟨fun _ z => z, fun _ => rfl⟩ (by omega) (by omega) (fun σ3 hS3 hF3 _ => ?_))
          simp only [if_false] at hS3 ⊢
          refine br_t (bI_f (by simp [orF])) ?_
          exact bad σ3 3 hS3 (hF2.tr hF3) (by rw [if_pos (by omega)])
      · simp only [if_neg g] at hS2 bad ⊢
        refine br_t (bI_f (by simp [orF])) ?_
        exact bad σ2 1 hS2 hF2 rfl
    · have g := bI_n0 g
      rw [if_pos g] at h bad
      by_cases hc : A 12 5 < 4
      · refine br_f (by rw [hV1.2.1]; exact nI_ge (b := 4) hc (by omega)) ?_
        refine mAr (by rw [e14]; rfl) (m_want (k := 3) (w := p) (c := True) (g := 1) hS1 ⟨fun z => absurd z (by decide), fun z => absurd trivial z⟩ (by omega) (by omega) (fun σ3 hS3 hF3 _ => ?_))
        simp only [if_true] at hS3 ⊢
        refine br_f (by decide) ?_
        rw [if_neg (by omega)] at h
        exact m_takeHouse hS3 (hV1.u hF3.u) hc (h.fr hF3.u.v)
      · refine br_t (by rw [hV1.2.1]; exact nI_le (a := 4) (by omega) (by omega)) ?_
        refine mAr (by rw [e14]; rfl) (m_want (k := 3) (w := p) (c := False) (g := 0) hS1 ⟨fun _ z => z, fun _ => rfl⟩ (by omega) (by omega) (fun σ3 hS3 hF3 _ => ?_))
        simp only [if_false] at hS3 ⊢
        refine br_t (bI_f (by simp [orF])) ?_
        exact bad σ3 3 hS3 hF3 (by rw [if_pos (by omega)])
  · have g := bI_n0 g
    rw [if_pos g] at h bad
    by_cases hc : A 12 6 = 0
    · refine bn_t (by rw [hV1.1, hc]; rfl) ?_
      refine mAr (by rw [e14]; rfl) (m_want (k := 3) (w := p) (c := True) (g := 1) hS1 ⟨fun z => absurd z (by decide), fun z => absurd trivial z⟩ (by omega) (by omega) (fun σ3 hS3 hF3 _ => ?_))
      simp only [if_true] at hS3 ⊢
      refine br_f (by decide) ?_
      rw [if_neg (by omega)] at h
      exact m_takeHarvest hS3 (hV1.u hF3.u) hc (h.fr hF3.u.v)
    · refine bn_f (by rw [hV1.1]; exact fun z => hc ((nI_eq (b := 0) (by omega) (by omega)).mp z)) ?_
      refine mAr (by rw [e14]; rfl) (m_want (k := 3) (w := p) (c := False) (g := 0) hS1 ⟨fun _ z => z, fun _ => rfl⟩ (by omega) (by omega) (fun σ3 hS3 hF3 _ => ?_))
      simp only [if_false] at hS3 ⊢
      refine br_t (bI_f (by simp [orF])) ?_
      exact bad σ3 3 hS3 hF3 (by rw [if_pos (by omega)])
