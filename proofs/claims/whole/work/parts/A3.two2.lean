/-! keep, goBack, feed, land, two by two -/
theorem RMg.z {σ σ' : Sg} {A : St} (h : RMg σ A) (h5 : A 12 5 ≤ 4) (h6 : A 12 6 ≤ 8) (hF : FrZ σ σ') : RMg σ' A := by
  obtain ⟨a, b, c, d⟩ := h
  refine ⟨by rw [hF.2.1 7 (by omega)]; exact a, fun k hk => by rw [hF.2.2.2 k (by omega)]; exact b k hk, fun z => ⟨by rw [hF.2.1 3 (by omega)]; exact (c z).1, by rw [hF.2.2.1 0 (by omega)]; exact (c z).2⟩, fun z => ⟨by rw [hF.2.1 3 (by omega)]; exact (d z).1, fun k hk => by rw [hF.2.2.1 k (by omega)]; exact (d z).2 k hk⟩⟩
section TWOB
variable {n : Nat} {σ : Sg} {x : Int32}
theorem two_keep (h : Inv n σ) : Two mX7_keep mX8_keep [.ref 0, .int x] [.ref 89, .int x] n σ := by
  obtain ⟨A, B, kp, I, hg, hI, T, len, ft, hc, hm, hw⟩ := h
  refine t_keep hc.1 hw.1 (fun g => ⟨_, rfl, u_keep hm.1 hw.1 (fun _ => ⟨rfl, Inv.mk hc hm hw.up⟩) (fun k hk e => (g ⟨k, by omega, hk, e⟩).elim)⟩) (fun k hk e σ1 r1 r2 r3 r4 r5 => ?_)
  have hm1 : MI σ1 A B kp I hg hI T len ft := hm.fr hw (fun c a => r5 c (by omega) (by omega))
  refine ⟨_, rfl, u_keep hm1.1 hw.1 (fun g => (g ⟨k, by omega, hk, e⟩).elim) (fun k' hk' e' σ2 m1 m2 m3 m4 m5 m6 => ?_)⟩
  have q := nI_one e' e (by omega) (by omega)
  subst q
  have hc1 : CI σ1 A B (fun j => if j = k' then true else kp j) (fun j => if j = k' then A else I j) hg (fun j => if j = k' then hg else hI j) T len ft := by
    refine ⟨hc.1.fr (fun c a b => r5 c (by omega) (by omega)), hc.2.1.fr (fun c a b d => r5 c (by omega) (by omega)), ?_, by rw [r5 55 (by omega) (by omega)]; exact hc.2.2.2.1, fun j hj => ?_⟩
    · obtain ⟨x1, x2, x3, x4⟩ := hc.2.2.1
      exact ⟨by rw [r5 55 (by omega) (by omega)]; exact x1, x2, fun i hi => by rw [r5 56 (by omega) (by omega)]; exact x3 i hi, x4⟩
    · by_cases z : j = k'
      · subst z
        simp only [if_true]
        exact ⟨r3, fun _ => ⟨r1, r2⟩⟩
      · simp only [if_neg z]
        obtain ⟨k1, k2⟩ := hc.2.2.2.2 j hj
        refine ⟨by rw [r4 j z]; exact k1, fun y => ⟨(k2 y).1.fr (fun c a b _ => r5 c (by omega) (by omega)), by rw [r5 _ (by omega) (by omega)]; exact (k2 y).2⟩⟩
  have hM2 : MR σ2 A hg := ⟨hm1.1.1.fr hw.1.1.1 hw.1.2.1 (fun j _ b _ => m6 j (by omega)), hm1.1.2.1.fr (fun c a => m5 c (by omega) (by omega)), by rw [m6 178 (by omega)]; exact hm1.1.2.2⟩
  have hm2 : MI σ2 A B (fun j => if j = k' then true else kp j) (fun j => if j = k' then A else I j) hg (fun j => if j = k' then hg else hI j) T len ft := by
    refine ⟨hM2, hm1.2.1.fr (by rw [m5 89 (by omega) (by omega)]) (by rw [m5 89 (by omega) (by omega)]) (fun c a b => m5 c (by omega) (by omega)), ?_, by rw [m5 89 (by omega) (by omega)]; exact hm1.2.2.2.1, fun j hj => ?_⟩
    · obtain ⟨x1, x2, x3, x4⟩ := hm1.2.2.1
      exact ⟨by rw [m5 89 (by omega) (by omega)]; exact x1, x2, fun i hi => by rw [m5 96 (by omega) (by omega)]; exact x3 i hi, x4⟩
    · by_cases z : j = k'
      · subst z
        simp only [if_true]
        exact ⟨m3, fun _ => ⟨m1, hM2.2.1, m2⟩⟩
      · simp only [if_neg z]
        obtain ⟨k1, k2⟩ := hm1.2.2.2.2 j hj
        refine ⟨by rw [m4 j z]; exact k1, fun y => ?_⟩
        obtain ⟨y1, y2, y3⟩ := k2 y
        have w := (hw.2.2.2.2 j hj y).1
        exact ⟨y1.fr w.1.1 w.2.1 (fun i a b _ => m6 i (by omega)), y2.fr (fun c a => m5 c (by omega) (by omega)), by rw [m6 _ (by omega)]; exact y3⟩
  refine ⟨rfl, Inv.mk (hc1.fr (fun c a => m5 c (by omega) (by omega))) hm2 ⟨hw.1, hw.2.1, hw.2.2.1, hw.2.2.2.1.up, fun j hj y => ?_⟩⟩
  by_cases z : j = k'
  · subst z
    simp only [if_true]
    exact ⟨hw.1, hw.2.2.1, hw.2.2.2.1.up⟩
  · simp only [if_neg z] at y ⊢
    have := hw.2.2.2.2 j hj y
    exact ⟨this.1, this.2.1, this.2.2.up⟩
theorem two_goBack (h : Inv n σ) : Two mX7_goBack mX8_goBack [.ref 0, .int x] [.ref 89, .int x] n σ := by
  obtain ⟨A, B, kp, I, hg, hI, T, len, ft, hc, hm, hw⟩ := h
  obtain ⟨k0, hk0⟩ : ∃ k0, ∀ k, k ≤ 1 → x = nI k → k = k0 := by
    by_cases z : x = nI 1
    · exact ⟨1, fun k hk e => nI_one e z (by omega) (by omega)⟩
    · refine ⟨0, fun k hk e => ?_⟩
      rcases (show k = 0 ∨ k = 1 by omega) with q | q
      · exact q
      · subst q; exact (z e).elim
  have c0 : ∀ k, k ≤ 1 → (σ 54 k = 0 ↔ σ 91 k = 0) := fun k hk => by rw [(hc.2.2.2.2 k hk).1, (hm.2.2.2.2 k hk).1]
  have ck : ∀ k, k ≤ 1 → ¬ σ 54 k = 0 → kp k = true := fun k hk q => by
    rw [(hc.2.2.2.2 k hk).1] at q
    cases z : kp k with
    | true => rfl
    | false => rw [z] at q; exact (q rfl).elim
  refine t_goBack (I := I k0) (hg := hI k0) (fun g => ⟨_, rfl, u_goBack (I := A) (hg := hg) (fun _ => ⟨rfl, Inv.mk hc hm hw.up⟩) (fun k hk e => (g ⟨k, by omega, hk, e⟩).elim) (fun k hk e => (g ⟨k, by omega, hk, e⟩).elim) (fun k hk e => (g ⟨k, by omega, hk, e⟩).elim)⟩) (fun k hk e g => ⟨_, rfl, u_goBack (I := A) (hg := hg) (fun q => (q ⟨k, by omega, hk, e⟩).elim) (fun _ _ _ _ => ⟨rfl, Inv.mk hc hm hw.up⟩) (fun k' hk' e' g' => ?_) (fun k' hk' e' g' => ?_)⟩) (fun k hk e g => ?_) (fun k hk e g σ1 hC1 hF1 => ?_)
  · have q := nI_one e' e (by omega) (by omega)
    subst q
    exact (g' ((c0 k' hk).mp g)).elim
  · have q := nI_one e' e (by omega) (by omega)
    subst q
    exact (g' ((c0 k' hk).mp g)).elim
  · have q := hk0 k hk e
    subst q
    obtain ⟨a, b⟩ := (hc.2.2.2.2 k hk).2 (ck k hk g)
    exact ⟨a, (hw.2.2.2.2 k hk (ck k hk g)).1, b⟩
  · have q := hk0 k hk e
    subst q
    have hkp := ck k hk g
    obtain ⟨w1, w2, w3⟩ := hw.2.2.2.2 k hk hkp
    have hc1 := hc.now hC1 (fun c a b => hF1 c (by omega))
    have hm1 := hm.fr hw (σ' := σ1) (fun c a => hF1 c (by omega))
    have g91 : ¬ σ1 91 k = 0 := fun z => by
      rw [hF1 91 (by omega)] at z
      exact g ((c0 k hk).mpr z)
    refine ⟨_, rfl, u_goBack (I := I k) (hg := hI k) (fun q => (q ⟨k, by omega, hk, e⟩).elim) (fun k' hk' e' g' => ?_) (fun k' hk' e' g' => ?_) (fun k' hk' e' g' σ2 hM2 hF2 => ?_)⟩
    · have q := nI_one e' e (by omega) (by omega)
      subst q
      exact (g91 g').elim
    · have q := nI_one e' e (by omega) (by omega)
      subst q
      obtain ⟨a, b, c⟩ := (hm1.2.2.2.2 k' hk).2 hkp
      exact ⟨a, b, w1, c⟩
    · exact ⟨rfl, Inv.mk (hc1.m hF2) (hm1.now hw hM2 hF2) (hw.now w1 w2 w3.up)⟩
theorem two_feed {b : Int64} (h : Inv n σ) : Two mX7_feed mX8_feed [.ref 0, .int x, .long b] [.ref 89, .int x, .long b] n σ := by
  obtain ⟨A, B, kp, I, hg, hI, T, len, ft, hc, hm, hw⟩ := h
  refine t_feed hc.2.2.1 (fun g => ⟨_, rfl, u_feed hm.2.2.1 (fun _ => ⟨rfl, Inv.mk hc hm hw.up⟩) (fun k h1 hk e => (g ⟨k, h1, hk, e⟩).elim) (fun k h1 hk e => (g ⟨k, h1, hk, e⟩).elim)⟩) (fun k h1 hk e g => ⟨_, rfl, u_feed hm.2.2.1 (fun q => (q ⟨k, h1, hk, e⟩).elim) (fun _ _ _ _ _ => ⟨rfl, Inv.mk hc hm hw.up⟩) (fun k' h1' hk' e' g' => ?_)⟩) (fun k h1 hk e g σ1 hX1 hF1 hG1 => ?_)
  · have q := nI_one e' e (by omega) (by omega)
    subst q
    omega
  have hm1 : MI σ1 A B kp I hg hI T len ft := hm.fr hw (fun c a => hF1 c (by omega) (by omega))
  refine ⟨_, rfl, u_feed hm1.2.2.1 (fun q => (q ⟨k, h1, hk, e⟩).elim) (fun k' h1' hk' e' g' => ?_) (fun k' h1' hk' e' g' σ2 hX2 hF2 hG2 => ?_)⟩
  · have q := nI_one e' e (by omega) (by omega)
    subst q
    omega
  have q := nI_one e' e (by omega) (by omega)
  subst q
  have hc1 : CI σ1 A B kp I hg hI (fdT T len k' b) (len + k') ft := by
    refine ⟨hc.1.fr (fun c a b => hF1 c (by omega) (by omega)), hc.2.1.fr (fun c a b d => hF1 c (by omega) (by omega)), hX1, by rw [hG1 4 (by omega)]; exact hc.2.2.2.1, fun j hj => ?_⟩
    obtain ⟨k1, k2⟩ := hc.2.2.2.2 j hj
    exact ⟨by rw [hF1 54 (by omega) (by omega)]; exact k1, fun y => ⟨(k2 y).1.fr (fun c a b _ => hF1 c (by omega) (by omega)), by rw [hF1 _ (by omega) (by omega)]; exact (k2 y).2⟩⟩
  have rg2 : ∀ C, RMg σ1 C → RMg σ2 C := fun C z => by
    unfold RMg
    rw [hG2 7 (by omega), hG2 3 (by omega), hF2 92 (by omega) (by omega), hF2 93 (by omega) (by omega)]
    exact z
  have e90 : σ2 90 = σ1 90 := hF2 90 (by omega) (by omega)
  have hm2 : MI σ2 A B kp I hg hI (fdT T len k' b) (len + k') ft := by
    refine ⟨⟨hm1.1.1.fr hw.1.1.1 hw.1.2.1 (fun _ _ _ _ => by rw [e90]), rg2 _ hm1.1.2.1, by rw [e90]; exact hm1.1.2.2⟩, hm1.2.1.fr (hG2 24 (by omega)) (hG2 27 (by omega)) (fun c a b => hF2 c (by omega) (by omega)), hX2, by rw [hG2 17 (by omega)]; exact hm1.2.2.2.1, fun j hj => ?_⟩
    obtain ⟨k1, k2⟩ := hm1.2.2.2.2 j hj
    refine ⟨by rw [hF2 91 (by omega) (by omega)]; exact k1, fun y => ?_⟩
    obtain ⟨y1, y2, y3⟩ := k2 y
    have w := (hw.2.2.2.2 j hj y).1
    exact ⟨y1.fr w.1.1 w.2.1 (fun _ _ _ _ => by rw [e90]), rg2 _ y2, by rw [e90]; exact y3⟩
  exact ⟨rfl, Inv.mk (hc1.fr (fun c a => hF2 c (by omega) (by omega))) hm2 hw.up⟩
theorem two_land (h : Inv n σ) : Two mX7_land mX8_land [.ref 0] [.ref 89] n σ := by
  obtain ⟨A, B, kp, I, hg, hI, T, len, ft, hc, hm, hw⟩ := h
  refine t_landC (B0 := B) hc.1 hw.1 hc.2.2.1 (fun σ1 q ht q1 q3 a1 a4 hF => ?_) (fun σ1 C ht hWC hK a1 a4 hC1 k0 k1 hB1 hF => ?_)
  · have hm1 : MI σ1 A B kp I hg hI T len ft := hm.fr hw (fun c a => hF c (by omega) (by omega))
    have hc1 : CI σ1 A B kp I hg hI T 0 (nI q.2) := by
      refine ⟨hc.1.fr (fun c a b => hF c (by omega) (by omega)), hc.2.1.fr (fun c a b d => hF c (by omega) (by omega)), ⟨a1, by omega, fun i hi => by omega, fun i hi => by omega⟩, a4, fun j hj => ?_⟩
      obtain ⟨k1, k2⟩ := hc.2.2.2.2 j hj
      exact ⟨by rw [hF 54 (by omega) (by omega)]; exact k1, fun y => ⟨(k2 y).1.fr (fun c a b _ => hF c (by omega) (by omega)), by rw [hF _ (by omega) (by omega)]; exact (k2 y).2⟩⟩
    refine ⟨_, rfl, u_land (B0 := B) hm1.1 hw.1 hm1.2.2.1 (fun σ2 q' ht' _ _ b12 b17 hF2 => ?_) (fun σ2 C ht' => ?_)⟩
    · rw [ht] at ht'
      simp only [Sum.inl.injEq] at ht'
      subst ht'
      have e90 : σ2 90 = σ1 90 := hF2.1 90 (by omega) (by omega)
      have hm2 : MI σ2 A B kp I hg hI T 0 (nI q.2) := by
        refine ⟨⟨hm1.1.1.fr hw.1.1.1 hw.1.2.1 (fun _ _ _ _ => by rw [e90]), hm1.1.2.1.z hw.1.2.1 hw.1.2.2.1 hF2, by rw [e90]; exact hm1.1.2.2⟩, hm1.2.1.fr (hF2.2.1 24 (by omega)) (hF2.2.1 27 (by omega)) (fun c a b => hF2.1 c (by omega) (by omega)), ⟨b12, by omega, fun i hi => by omega, fun i hi => by omega⟩, b17, fun j hj => ?_⟩
        obtain ⟨k1, k2⟩ := hm1.2.2.2.2 j hj
        refine ⟨by rw [hF2.1 91 (by omega) (by omega)]; exact k1, fun y => ?_⟩
        obtain ⟨y1, y2, y3⟩ := k2 y
        have w := (hw.2.2.2.2 j hj y).1
        exact ⟨y1.fr w.1.1 w.2.1 (fun _ _ _ _ => by rw [e90]), y2.z w.2.1 w.2.2.1 hF2, by rw [e90]; exact y3⟩
      exact ⟨rfl, Inv.mk (hc1.fr (fun c a => hF2.1 c (by omega) (by omega))) hm2 hw.up⟩
    · rw [ht] at ht'
      simp at ht'
  · have hm1 : MI σ1 A B kp I hg hI T len ft := hm.fr hw (fun c a => hF c (by omega) (by omega) (by omega) (by omega) (by omega))
    have hc1 : CI σ1 C (terA B) (fun _ => false) I 0 hI T 0 (-1) := by
      refine ⟨hC1, hB1, ⟨a1, by omega, fun i hi => by omega, fun i hi => by omega⟩, a4, fun j hj => ⟨?_, fun z => by simp at z⟩⟩
      rcases (show j = 0 ∨ j = 1 by omega) with rfl | rfl
      · exact k0
      · exact k1
    refine ⟨_, rfl, u_land (B0 := B) hm1.1 hw.1 hm1.2.2.1 (fun σ2 q' ht' => ?_) (fun σ2 C' ht' hWC' hK' b12 b17 hM2 m0 m1 hB2 hF2 => ?_)⟩
    · rw [ht] at ht'
      simp at ht'
    · rw [ht] at ht'
      simp only [Sum.inr.injEq] at ht'
      subst ht'
      have hm2 : MI σ2 C (terA B) (fun _ => false) I 0 hI T 0 (-1) := by
        refine ⟨hM2, hB2, ⟨b12, by omega, fun i hi => by omega, fun i hi => by omega⟩, b17, fun j hj => ⟨?_, fun z => by simp at z⟩⟩
        rcases (show j = 0 ∨ j = 1 by omega) with rfl | rfl
        · exact m0
        · exact m1
      refine ⟨rfl, Inv.mk (hc1.fr (fun c a => hF2 c (by omega))) hm2 ⟨hWC.1, WB_ter, by omega, ⟨?_, fun k hk => ?_⟩, fun k _ z => by simp at z⟩⟩
      · rw [hWC.2.2.1]; omega
      · rw [hWC.2.2.2.2 k hk]; omega
end TWOB
