/-! the calls, two by two -/
section TWO
variable {n : Nat} {σ : Sg} {x y z : Int32}
theorem two_fault (h : Inv n σ) : Two mX7_fault mX8_fault [.ref 0] [.ref 89] n σ := by
  obtain ⟨A, B, kp, I, hg, hI, T, len, ft, hc, hm, hw⟩ := h
  exact t_fault ⟨_, rfl, u_fault ⟨by rw [hm.2.2.2.1, hc.2.2.2.1], Inv.mk hc hm hw.up⟩⟩
theorem two_told (h : Inv n σ) : Two mX7_told mX8_told [.ref 0, .int x] [.ref 89, .int x] n σ := by
  obtain ⟨A, B, kp, I, hg, hI, T, len, ft, hc, hm, hw⟩ := h
  exact t_told hc.1 hw.1 hc.2.1 ⟨_, rfl, u_told hm.1 hw.1 hm.2.1 ⟨by rw [hm.2.2.1.1, hc.2.2.1.1], Inv.mk hc hm hw.up⟩⟩
theorem two_house (h : Inv n σ) : Two mX7_house mX8_house [.ref 0, .int x, .int y] [.ref 89, .int x, .int y] n σ := by
  obtain ⟨A, B, kp, I, hg, hI, T, len, ft, hc, hm, hw⟩ := h
  have h5 := hw.1.2.1
  refine t_house hc.1 hw.1 (fun g => ⟨_, rfl, u_house hm.1 hw.1 (fun _ => ⟨rfl, Inv.mk hc hm hw.up⟩) (fun a ha e => (g ⟨a, ha, e⟩).elim)⟩) (fun a ha e => ⟨_, rfl, u_house hm.1 hw.1 (fun g => (g ⟨a, ha, e⟩).elim) (fun a' ha' e' => ?_)⟩)
  have q := nI_one e' e (by omega) (by omega)
  subst q
  exact ⟨rfl, Inv.mk hc hm hw.up⟩
theorem two_jar (h : Inv n σ) : Two mX7_jar mX8_jar [.ref 0, .int x, .int y] [.ref 89, .int x, .int y] n σ := by
  obtain ⟨A, B, kp, I, hg, hI, T, len, ft, hc, hm, hw⟩ := h
  have h24 := hw.1.1.1
  refine t_jar hc.1 hw.1 (fun g => ⟨_, rfl, u_jar hm.1 hw.1 (fun _ => ⟨rfl, Inv.mk hc hm hw.up⟩) (fun a ha e => (g ⟨a, ha, e⟩).elim)⟩) (fun a ha e => ⟨_, rfl, u_jar hm.1 hw.1 (fun g => (g ⟨a, ha, e⟩).elim) (fun a' ha' e' => ?_)⟩)
  have q := nI_one e' e (by omega) (by omega)
  subst q
  exact ⟨rfl, Inv.mk hc hm hw.up⟩
theorem two_judge (h : Inv n σ) : Two mX7_judge mX8_judge [.ref 0] [.ref 89] n σ := by
  obtain ⟨A, B, kp, I, hg, hI, T, len, ft, hc, hm, hw⟩ := h
  refine t_judge hc.1 hw.1 hc.2.1 hw.2.1 (fun r hr => ⟨r, rfl, u_judge hm.1 hw.1 hm.2.1 hw.2.1 (fun s hs => ?_)⟩)
  rw [IsJ_one hs hr]
  exact ⟨rfl, Inv.mk hc hm hw.up⟩
theorem two_forged (h : Inv n σ) : Two mX7_forged mX8_forged [.ref 0] [.ref 89] n σ := by
  obtain ⟨A, B, kp, I, hg, hI, T, len, ft, hc, hm, hw⟩ := h
  refine t_forged hc.1 hw.1 hc.2.1 hw.2.1 (fun σ1 b hb hF => ?_)
  have hc1 : CI σ1 A B kp I hg hI T len ft := hc.fr (fun c a => hF c (by omega))
  have hm1 : MI σ1 A B kp I hg hI T len ft := hm.fr hw (fun c a => hF c (by omega))
  refine ⟨_, rfl, u_forged hm1.1 hw.1 hm1.2.1 hw.2.1 (fun s hs => ?_)⟩
  rw [IsF_one hs hb]
  exact ⟨rfl, Inv.mk hc1 hm1 hw.up⟩
theorem two_law (h : Inv n σ) : Two mX7_law mX8_law [.ref 0, .int x] [.ref 89, .int x] n σ := by
  obtain ⟨A, B, kp, I, hg, hI, T, len, ft, hc, hm, hw⟩ := h
  refine t_law hc.1 hw.1 (fun g => ⟨_, rfl, u_law hm.1 hw.1 (fun _ => ⟨rfl, Inv.mk hc hm hw.up⟩) (fun k hk e => (g ⟨k, by omega, hk, e⟩).elim)⟩) (fun k hk e σ1 hC1 hF1 => ?_)
  have hc1 := hc.now hC1 (fun c a b => hF1 c (by omega))
  have hm1 := hm.fr hw (σ' := σ1) (fun c a => hF1 c (by omega))
  refine ⟨_, rfl, u_law hm1.1 hw.1 (fun g => (g ⟨k, by omega, hk, e⟩).elim) (fun k' hk' e' σ2 hM2 hF2 => ?_)⟩
  have q := nI_one e' e (by omega) (by omega)
  subst q
  exact ⟨rfl, Inv.mk (hc1.m hF2) (hm1.now hw hM2 hF2) (hw.now (WL_law hw.1 hk) hw.2.2.1 (hw.2.2.2.1.eq (stu_k (by omega)) (stu_k (by omega)) (fun k => stu_f (by omega))))⟩
theorem two_seed (h : Inv n σ) : Two mX7_seed mX8_seed [.ref 0, .int x] [.ref 89, .int x] n σ := by
  obtain ⟨A, B, kp, I, hg, hI, T, len, ft, hc, hm, hw⟩ := h
  refine t_seed hc.1 hw.1 (fun g => ⟨_, rfl, u_seed hm.1 hw.1 (fun _ => ⟨rfl, Inv.mk hc hm hw.up⟩) (fun k hk e => by rw [e] at g; exact (nI_pos hk g).elim)⟩) (fun k hk e σ1 hC1 hF1 => ?_)
  have hc1 := hc.now hC1 (fun c a b => hF1 c (by omega))
  have hm1 := hm.fr hw (σ' := σ1) (fun c a => hF1 c (by omega))
  refine ⟨_, rfl, u_seed hm1.1 hw.1 (fun g => by rw [e] at g; exact (nI_pos hk g).elim) (fun k' hk' e' σ2 hM2 hF2 => ?_)⟩
  have q := nI_one e' e (by omega) (by omega)
  subst q
  exact ⟨rfl, Inv.mk (hc1.m hF2) (hm1.now hw hM2 hF2) (hw.now (WL_seed hw.1 hk) hw.2.2.1 (hw.2.2.2.1.eq (stu_k (by omega)) (stu_k (by omega)) (fun k => stu_f (by omega))))⟩
theorem two_seals (h : Inv n σ) : Two mX7_seals mX8_seals [.ref 0, .int x, .int y] [.ref 89, .int x, .int y] n σ := by
  obtain ⟨A, B, kp, I, hg, hI, T, len, ft, hc, hm, hw⟩ := h
  have h5 := hw.1.2.1
  refine t_seals hc.1 hw.1 (fun g => ⟨_, rfl, u_seals hm.1 hw.1 (fun _ => ⟨rfl, Inv.mk hc hm hw.up⟩) (fun q _ => (g q).elim) (fun a k ha hk e _ => (g ⟨a, ha, e⟩).elim)⟩) (fun g g2 => ⟨_, rfl, u_seals hm.1 hw.1 (fun q => (q g).elim) (fun _ _ => ⟨rfl, Inv.mk hc hm hw.up⟩) (fun a k ha hk _ e => (g2 ⟨k, by omega, hk, e⟩).elim)⟩) (fun a k ha hk e1 e2 σ1 hC1 hF1 => ?_)
  have hc1 := hc.now hC1 (fun c a b => hF1 c (by omega))
  have hm1 := hm.fr hw (σ' := σ1) (fun c a => hF1 c (by omega))
  refine ⟨_, rfl, u_seals hm1.1 hw.1 (fun g => (g ⟨a, ha, e1⟩).elim) (fun _ g => (g ⟨k, by omega, hk, e2⟩).elim) (fun a' k' ha' hk' e1' e2' σ2 hM2 hF2 => ?_)⟩
  have q := nI_one e1' e1 (by omega) (by omega)
  have q2 := nI_one e2' e2 (by omega) (by omega)
  subst q q2
  exact ⟨rfl, Inv.mk (hc1.m hF2) (hm1.now hw hM2 hF2) (hw.now (WL_seals hw.1 hk) hw.2.2.1 (hw.2.2.2.1.eq (stu_f (by omega)) (stu_f (by omega)) (fun k => stu_f (by omega))))⟩
theorem two_give (h : Inv n σ) : Two mX7_give mX8_give [.ref 0, .int x, .int y] [.ref 89, .int x, .int y] n σ := by
  obtain ⟨A, B, kp, I, hg, hI, T, len, ft, hc, hm, hw⟩ := h
  have h5 := hw.1.2.1
  have h24 := hw.1.1.1
  refine t_give hc.1 hw.1 (fun g => ⟨_, rfl, u_give hm.1 hw.1 (fun _ => ⟨rfl, Inv.mk hc hm hw.up⟩) (fun a b ha hb e1 e2 _ => (g ⟨⟨a, ha, e1⟩, ⟨b, hb, e2⟩⟩).elim) (fun a b ha hb e1 e2 _ => (g ⟨⟨a, ha, e1⟩, ⟨b, hb, e2⟩⟩).elim)⟩) (fun a b ha hb e1 e2 g => ⟨_, rfl, u_give hm.1 hw.1 (fun q => (q ⟨⟨a, ha, e1⟩, ⟨b, hb, e2⟩⟩).elim) (fun a' b' ha' hb' e1' e2' _ => ⟨rfl, Inv.mk hc hm hw.up⟩) (fun a' b' ha' hb' e1' e2' g' => ?_)⟩) (fun a b ha hb e1 e2 g σ1 hC1 hF1 => ?_)
  · have q := nI_one e1' e1 (by omega) (by omega)
    subst q
    omega
  have hc1 := hc.now hC1 (fun c a b => hF1 c (by omega))
  have hm1 := hm.fr hw (σ' := σ1) (fun c a => hF1 c (by omega))
  refine ⟨_, rfl, u_give hm1.1 hw.1 (fun q => (q ⟨⟨a, ha, e1⟩, ⟨b, hb, e2⟩⟩).elim) (fun a' b' ha' hb' e1' e2' g' => ?_) (fun a' b' ha' hb' e1' e2' g' σ2 hM2 hF2 => ?_)⟩
  · have q := nI_one e1' e1 (by omega) (by omega)
    subst q
    omega
  have q := nI_one e1' e1 (by omega) (by omega)
  have q2 := nI_one e2' e2 (by omega) (by omega)
  subst q q2
  exact ⟨rfl, Inv.mk (hc1.m hF2) (hm1.now hw hM2 hF2) (hw.now (WL_own hw.1 hb') hw.2.2.1 (hw.2.2.2.1.eq (stu_f (by omega)) (stu_f (by omega)) (fun k => stu_f (by omega))))⟩
theorem two_label (h : Inv n σ) : Two mX7_label mX8_label [.ref 0, .int x, .int y] [.ref 89, .int x, .int y] n σ := by
  obtain ⟨A, B, kp, I, hg, hI, T, len, ft, hc, hm, hw⟩ := h
  have h24 := hw.1.1.1
  refine t_label hc.1 hw.1 (fun g => ⟨_, rfl, u_label hm.1 hw.1 (fun _ => ⟨rfl, Inv.mk hc hm hw.up⟩) (fun q _ => (g q).elim) (fun a b ha hb e1 e2 _ => (g ⟨a, ha, e1⟩).elim) (fun a b ha hb e1 e2 _ => (g ⟨a, ha, e1⟩).elim)⟩) (fun g g2 => ⟨_, rfl, u_label hm.1 hw.1 (fun q => (q g).elim) (fun _ _ => ⟨rfl, Inv.mk hc hm hw.up⟩) (fun a b ha hb e1 e2 _ => (g2 ⟨b, by omega, hb, e2⟩).elim) (fun a b ha hb e1 e2 _ => (g2 ⟨b, by omega, hb, e2⟩).elim)⟩) (fun a b ha hb e1 e2 g => ⟨_, rfl, u_label hm.1 hw.1 (fun q => (q ⟨a, ha, e1⟩).elim) (fun _ q => (q ⟨b, by omega, hb, e2⟩).elim) (fun a' b' ha' hb' e1' e2' _ => ⟨rfl, Inv.mk hc hm hw.up⟩) (fun a' b' ha' hb' e1' e2' g' => ?_)⟩) (fun a b ha hb e1 e2 g σ1 hC1 hF1 => ?_)
  · have q := nI_one e1' e1 (by omega) (by omega)
    subst q
    omega
  have hc1 := hc.now hC1 (fun c a b => hF1 c (by omega))
  have hm1 := hm.fr hw (σ' := σ1) (fun c a => hF1 c (by omega))
  refine ⟨_, rfl, u_label hm1.1 hw.1 (fun q => (q ⟨a, ha, e1⟩).elim) (fun _ q => (q ⟨b, by omega, hb, e2⟩).elim) (fun a' b' ha' hb' e1' e2' g' => ?_) (fun a' b' ha' hb' e1' e2' g' σ2 hM2 hF2 => ?_)⟩
  · have q := nI_one e1' e1 (by omega) (by omega)
    subst q
    omega
  have q := nI_one e1' e1 (by omega) (by omega)
  have q2 := nI_one e2' e2 (by omega) (by omega)
  subst q q2
  exact ⟨rfl, Inv.mk (hc1.m hF2) (hm1.now hw hM2 hF2) (hw.now (WL_date hw.1 hb') hw.2.2.1 (hw.2.2.2.1.eq (stu_f (by omega)) (stu_f (by omega)) (fun k => stu_f (by omega))))⟩
theorem two_open (hn : n < 512) (h : Inv n σ) : Two mX7_open mX8_open [.ref 0, .int x] [.ref 89, .int x] n σ := by
  obtain ⟨A, B, kp, I, hg, hI, T, len, ft, hc, hm, hw⟩ := h
  have h24 := hw.1.1.1
  refine t_open hc.1 hw.1 (fun g => ⟨_, rfl, u_open hm.1 hw.1 (fun _ => ⟨rfl, Inv.mk hc hm hw.up⟩) (fun a ha e _ => (g ⟨a, ha, e⟩).elim) (fun a ha e _ => (g ⟨a, ha, e⟩).elim)⟩) (fun a ha e g => ⟨_, rfl, u_open hm.1 hw.1 (fun q => (q ⟨a, ha, e⟩).elim) (fun _ _ _ _ => ⟨rfl, Inv.mk hc hm hw.up⟩) (fun a' ha' e' g' => ?_)⟩) (fun a ha e g σ1 hC1 hF1 => ?_)
  · have q := nI_one e' e (by omega) (by omega)
    subst q
    exact (g g').elim
  have hc1 := hc.now hC1 (fun c a b => hF1 c (by omega))
  have hm1 := hm.fr hw (σ' := σ1) (fun c a => hF1 c (by omega))
  refine ⟨_, rfl, u_open hm1.1 hw.1 (fun q => (q ⟨a, ha, e⟩).elim) (fun a' ha' e' g' => ?_) (fun a' ha' e' g' σ2 hM2 hF2 => ?_)⟩
  · have q := nI_one e' e (by omega) (by omega)
    subst q
    exact (g' g).elim
  have q := nI_one e' e (by omega) (by omega)
  subst q
  have hfl := filA_le hw.1.1 (y := A 12 1) ha'
  have ho := hw.1.2.2.2.2.2.2.2 a' ha'
  have hb := hw.2.2.2.1
  have h8 := hb.2 _ ho
  have e8 : opnA A a' 8 (A 1 a') = A 8 (A 1 a') + filA A a' (A 12 1) := stu_s
  have eo : ∀ f k, ¬ (f = 6 ∨ (f = 8 ∧ k = A 1 a')) → opnA A a' f k = A f k := fun f k q => by
    unfold opnA stu
    rw [if_neg (fun z => q (Or.inr z)), if_neg (fun z => q (Or.inl z.1))]
  refine ⟨rfl, Inv.mk (hc1.m hF2) (hm1.now hw hM2 hF2) (hw.now (WL_stock (WL_gone hw.1) _ _ (by omega)) hw.2.2.1 ⟨by rw [eo _ _ (by omega)]; have := hb.1; omega, fun k hk => ?_⟩)⟩
  rw [eo 12 5 (by omega)] at hk
  by_cases z : k = A 1 a'
  · subst z; rw [e8]; omega
  · rw [eo _ _ (by omega)]; have := hb.2 k hk; omega
theorem hgA_le9 {hg t : Nat} : hgA hg t ≤ 999999999 := by unfold hgA; split <;> omega
theorem Bd_yr {A : St} {dr : Bool} {k : Nat} (h : Bd n A) (hk : k ≤ 99) : Bd (n + 1) (yrR dr k (A, fun _ => 0)).1 := by
  refine ⟨?_, fun j hj => ?_⟩
  · rw [yrR_y]; dsimp only; have := h.1; omega
  · rw [yrR_f (by omega) (by omega) (by omega)] at hj
    have h1 := yrR_8 (dr := dr) (k := j) k (A, fun _ => 0)
    have h2 := h.2 j hj
    dsimp only at h1
    omega
theorem two_year (hn : n < 512) (h : Inv n σ) : Two mX7_year mX8_year [.ref 0, .int x] [.ref 89, .int x] n σ := by
  obtain ⟨A, B, kp, I, hg, hI, T, len, ft, hc, hm, hw⟩ := h
  have hy := hw.year hn
  refine t_year hc.1 hw.1 hy hw.2.2.1 (fun g => ⟨_, rfl, u_year hm.1 hw.1 hy hw.2.2.1 (fun _ => ⟨rfl, Inv.mk hc hm hw.up⟩) (fun k h1 hk e => (g ⟨k, h1, hk, e⟩).elim)⟩) (fun k h1 hk e σ1 hC1 hF1 => ?_)
  have hc1 := hc.now hC1 (fun c a b => hF1 c (by omega))
  have hm1 := hm.fr hw (σ' := σ1) (fun c a => hF1 c (by omega))
  refine ⟨_, rfl, u_year hm1.1 hw.1 hy hw.2.2.1 (fun g => (g ⟨k, h1, hk, e⟩).elim) (fun k' h1' hk' e' σ2 hM2 hF2 => ?_)⟩
  have q := nI_one e' e (by omega) (by omega)
  subst q
  exact ⟨rfl, Inv.mk (hc1.m hF2) (hm1.now hw hM2 hF2) (hw.now (yrR_WL _ hw.1 (by dsimp only; omega)) hgA_le9 (Bd_yr hw.2.2.2.1 hk))⟩
theorem two_drift (hn : n < 512) (h : Inv n σ) : Two mX7_drift mX8_drift [.ref 0, .int x] [.ref 89, .int x] n σ := by
  obtain ⟨A, B, kp, I, hg, hI, T, len, ft, hc, hm, hw⟩ := h
  have hy := hw.year hn
  refine t_drift hc.1 hw.1 hy hw.2.2.1 (fun g => ⟨_, rfl, u_drift hm.1 hw.1 hy hw.2.2.1 (fun _ => ⟨rfl, Inv.mk hc hm hw.up⟩) (fun k h1 hk e => (g ⟨k, h1, hk, e⟩).elim)⟩) (fun k h1 hk e σ1 hC1 hF1 => ?_)
  have hc1 := hc.now hC1 (fun c a b => hF1 c (by omega))
  have hm1 := hm.fr hw (σ' := σ1) (fun c a => hF1 c (by omega))
  refine ⟨_, rfl, u_drift hm1.1 hw.1 hy hw.2.2.1 (fun g => (g ⟨k, h1, hk, e⟩).elim) (fun k' h1' hk' e' σ2 hM2 hF2 => ?_)⟩
  have q := nI_one e' e (by omega) (by omega)
  subst q
  exact ⟨rfl, Inv.mk (hc1.m hF2) (hm1.now hw hM2 hF2) (hw.now (yrR_WL _ hw.1 (by dsimp only; omega)) hgA_le9 (Bd_yr hw.2.2.2.1 hk))⟩
theorem two_sealing (hn : n < 512) (h : Inv n σ) : Two mX7_sealing mX8_sealing [.ref 0, .int x, .int y] [.ref 89, .int x, .int y] n σ := by
  obtain ⟨A, B, kp, I, hg, hI, T, len, ft, hc, hm, hw⟩ := h
  have hy := hw.year hn
  have h5 := hw.1.2.1
  refine t_sealing hc.1 hw.1 hy hw.2.2.1 (fun g => ⟨_, rfl, u_sealing hm.1 hw.1 hy hw.2.2.1 (fun _ => ⟨rfl, Inv.mk hc hm hw.up⟩) (fun q _ => (g q).elim) (fun a k ha _ _ e _ => (g ⟨a, ha, e⟩).elim)⟩) (fun g g2 => ⟨_, rfl, u_sealing hm.1 hw.1 hy hw.2.2.1 (fun q => (q g).elim) (fun _ _ => ⟨rfl, Inv.mk hc hm hw.up⟩) (fun a k ha h1 hk _ e => (g2 ⟨k, h1, hk, e⟩).elim)⟩) (fun a k ha h1 hk e1 e2 σ1 hC1 hF1 => ?_)
  have hc1 := hc.now hC1 (fun c a b => hF1 c (by omega))
  have hm1 := hm.fr hw (σ' := σ1) (fun c a => hF1 c (by omega))
  refine ⟨_, rfl, u_sealing hm1.1 hw.1 hy hw.2.2.1 (fun g => (g ⟨a, ha, e1⟩).elim) (fun _ g => (g ⟨k, h1, hk, e2⟩).elim) (fun a' k' ha' h1' hk' e1' e2' σ2 hM2 hF2 => ?_)⟩
  have q := nI_one e1' e1 (by omega) (by omega)
  have q2 := nI_one e2' e2 (by omega) (by omega)
  subst q q2
  exact ⟨rfl, Inv.mk (hc1.m hF2) (hm1.now hw hM2 hF2) hw.up⟩
theorem two_change (hn : n < 512) (h : Inv n σ) : Two mX7_change mX8_change [.ref 0, .int x] [.ref 89, .int x] n σ := by
  obtain ⟨A, B, kp, I, hg, hI, T, len, ft, hc, hm, hw⟩ := h
  have hy := hw.year hn
  refine t_change hc.1 hw.1 hy hw.2.2.1 (fun g => ⟨_, rfl, u_change hm.1 hw.1 hy hw.2.2.1 (fun _ => ⟨rfl, Inv.mk hc hm hw.up⟩) (fun k h1 hk e _ _ => (g ⟨k, h1, hk, e⟩).elim)⟩) (fun k h1 hk e hW' hY' σ1 hC1 hF1 => ?_)
  have hc1 := hc.now hC1 (fun c a b => hF1 c (by omega) (by omega))
  have hm1 := hm.fr hw (σ' := σ1) (fun c a => hF1 c (by omega) (by omega))
  refine ⟨_, rfl, u_change hm1.1 hw.1 hy hw.2.2.1 (fun g => (g ⟨k, h1, hk, e⟩).elim) (fun k' h1' hk' e' _ _ σ2 hM2 hF2 => ?_)⟩
  have q := nI_one e' e (by omega) (by omega)
  subst q
  exact ⟨rfl, Inv.mk (hc1.m hF2) (hm1.now hw hM2 hF2) (hw.now hW' hw.2.2.1 (hw.2.2.2.1.eq hY' (chR_f (by omega) _ _ _) (fun j => chR_f (by omega) _ _ _)))⟩
theorem two_siege (hn : n < 512) (h : Inv n σ) : Two mX7_siege mX8_siege [.ref 0, .int x, .int y] [.ref 89, .int x, .int y] n σ := by
  obtain ⟨A, B, kp, I, hg, hI, T, len, ft, hc, hm, hw⟩ := h
  have hy := hw.year hn
  refine t_siege hc.1 hw.1 hy hw.2.2.1 (fun g => ⟨_, rfl, u_siege hm.1 hw.1 hy hw.2.2.1 (fun _ => ⟨rfl, Inv.mk hc hm hw.up⟩) (fun m k h1 hm' hk e1 e2 => (g ⟨m, k, h1, hm', hk, e1, e2⟩).elim)⟩) (fun m k h1 hm' hk e1 e2 σ1 hC1 hF1 => ?_)
  have hc1 := hc.now hC1 (fun c a b => hF1 c (by omega))
  have hm1 := hm.fr hw (σ' := σ1) (fun c a => hF1 c (by omega))
  refine ⟨_, rfl, u_siege hm1.1 hw.1 hy hw.2.2.1 (fun g => (g ⟨m, k, h1, hm', hk, e1, e2⟩).elim) (fun m' k' h1' hm2 hk' e1' e2' σ2 hM2 hF2 => ?_)⟩
  have q := nI_one e1' e1 (by omega) (by omega)
  have q2 := nI_one e2' e2 (by omega) (by omega)
  subst q q2
  exact ⟨rfl, Inv.mk (hc1.m hF2) (hm1.now hw hM2 hF2) hw.up⟩
theorem two_when (hn : n < 512) (h : Inv n σ) : Two mX7_when mX8_when [.ref 0, .int x, .int y] [.ref 89, .int x, .int y] n σ := by
  obtain ⟨A, B, kp, I, hg, hI, T, len, ft, hc, hm, hw⟩ := h
  have hy := hw.year hn
  refine t_when hc.1 hw.1 hy hw.2.2.1 (fun g => ⟨_, rfl, u_when hm.1 hw.1 hy hw.2.2.1 (fun _ => ⟨rfl, Inv.mk hc hm hw.up⟩) (fun m c b h1 hm' hc' e1 e2 _ => (g ⟨⟨m, h1, hm', e1⟩, ⟨c, by omega, hc', e2⟩⟩).elim)⟩) (fun m c b h1 hm' hc' e1 e2 hb σ1 hC1 hF1 => ?_)
  have hc1 := hc.now hC1 (fun c a b => hF1 c (by omega))
  have hm1 := hm.fr hw (σ' := σ1) (fun c a => hF1 c (by omega))
  refine ⟨_, rfl, u_when hm1.1 hw.1 hy hw.2.2.1 (fun g => (g ⟨⟨m, h1, hm', e1⟩, ⟨c, by omega, hc', e2⟩⟩).elim) (fun m' c' b' h1' hm2 hc2 e1' e2' hb' σ2 hM2 hF2 => ?_)⟩
  have q := nI_one e1' e1 (by omega) (by omega)
  have q2 := nI_one e2' e2 (by omega) (by omega)
  subst q q2
  rw [IsW_one hb' hb]
  exact ⟨rfl, Inv.mk (hc1.m hF2) (hm1.now hw hM2 hF2) hw.up⟩
theorem two_plan (h : Inv n σ) : Two mX7_plan mX8_plan [.ref 0, .int x, .int y, .int z] [.ref 89, .int x, .int y, .int z] n σ := by
  obtain ⟨A, B, kp, I, hg, hI, T, len, ft, hc, hm, hw⟩ := h
  have h5 := hw.1.2.1
  have m1 : ∀ k, k < 2 ^ 31 → ¬ (-1 : Int32) = nI k := fun k hk q => by
    have := nI_pos hk
    rw [← q] at this
    exact this (by decide)
  refine t_plan hc.1 hw.1 (fun g => ⟨_, rfl, u_plan hm.1 hw.1 (fun _ => ⟨rfl, Inv.mk hc hm hw.up⟩) (fun q _ => (g q).elim) (fun a m ha _ _ e _ _ => (g ⟨a, ha, e⟩).elim) (fun a m k ha _ _ _ e _ _ => (g ⟨a, ha, e⟩).elim)⟩) (fun g g2 => ⟨_, rfl, u_plan hm.1 hw.1 (fun q => (q g).elim) (fun _ _ => ⟨rfl, Inv.mk hc hm hw.up⟩) (fun a m ha h1 hm' _ e ez => (g2 ⟨m, h1, hm', e, Or.inl ez⟩).elim) (fun a m k ha h1 hm' hk _ e ez => (g2 ⟨m, h1, hm', e, Or.inr ⟨k, hk, ez⟩⟩).elim)⟩) (fun a m ha h1 hm' e1 e2 ez σ1 hF1 => ?_) (fun a m k ha h1 hm' hk e1 e2 ez σ1 hF1 => ?_)
  · have hc1 : CI σ1 A B kp I hg hI T len ft := hc.fr (fun c a => hF1 c (by omega))
    have hm1 : MI σ1 A B kp I hg hI T len ft := hm.fr hw (fun c a => hF1 c (by omega))
    refine ⟨_, rfl, u_plan hm1.1 hw.1 (fun q => (q ⟨a, ha, e1⟩).elim) (fun _ q => (q ⟨m, h1, hm', e2, Or.inl ez⟩).elim) (fun a' m' ha' h1' hm2 e1' e2' ez' σ2 hF2 => ?_) (fun a' m' k' ha' h1' hm2 hk' e1' e2' ez' σ2 hF2 => ?_)⟩
    · have q := nI_one e1' e1 (by omega) (by omega)
      have q2 := nI_one e2' e2 (by omega) (by omega)
      subst q q2
      exact ⟨rfl, Inv.mk (hc1.mo hF2) (hm1.o hw hF2) hw.up⟩
    · exact (m1 k' (by omega) (ez.symm.trans ez')).elim
  · have hc1 : CI σ1 A B kp I hg hI T len ft := hc.fr (fun c a => hF1 c (by omega))
    have hm1 : MI σ1 A B kp I hg hI T len ft := hm.fr hw (fun c a => hF1 c (by omega))
    refine ⟨_, rfl, u_plan hm1.1 hw.1 (fun q => (q ⟨a, ha, e1⟩).elim) (fun _ q => (q ⟨m, h1, hm', e2, Or.inr ⟨k, hk, ez⟩⟩).elim) (fun a' m' ha' h1' hm2 e1' e2' ez' σ2 hF2 => ?_) (fun a' m' k' ha' h1' hm2 hk' e1' e2' ez' σ2 hF2 => ?_)⟩
    · exact (m1 k (by omega) (ez'.symm.trans ez)).elim
    · have q := nI_one e1' e1 (by omega) (by omega)
      have q2 := nI_one e2' e2 (by omega) (by omega)
      have q3 := nI_one ez' ez (by omega) (by omega)
      subst q q2 q3
      exact ⟨rfl, Inv.mk (hc1.mo hF2) (hm1.o hw hF2) hw.up⟩
theorem two_bequest (h : Inv n σ) : Two mX7_bequest mX8_bequest [.ref 0, .int x, .int y] [.ref 89, .int x, .int y] n σ := by
  obtain ⟨A, B, kp, I, hg, hI, T, len, ft, hc, hm, hw⟩ := h
  have h5 := hw.1.2.1
  refine t_bequest hc.1 hw.1 (fun g => ⟨_, rfl, u_bequest hm.1 hw.1 (fun _ => ⟨rfl, Inv.mk hc hm hw.up⟩) (fun q _ => (g q).elim) (fun a ha _ e1 e2 => (g ⟨⟨a, ha, e1⟩, Or.inl e2⟩).elim) (fun a ha _ e1 _ e2 => (g ⟨⟨a, ha, e1⟩, Or.inr e2⟩).elim)⟩) (fun g g2 => ⟨_, rfl, u_bequest hm.1 hw.1 (fun q => (q g).elim) (fun _ _ => ⟨rfl, Inv.mk hc hm hw.up⟩) (fun a ha h2 e1 e2 => by omega) (fun a ha h2 e1 _ e2 => by omega)⟩) (fun a ha h2 e1 e2 σ1 hF1 => ?_) (fun a ha h2 e1 e2 e3 r hr σ1 hF1 => ?_)
  · have hc1 : CI σ1 A B kp I hg hI T len ft := hc.fr (fun c a => hF1 c (by omega))
    have hm1 : MI σ1 A B kp I hg hI T len ft := hm.fr hw (fun c a => hF1 c (by omega))
    refine ⟨_, rfl, u_bequest hm1.1 hw.1 (fun q => (q ⟨⟨a, ha, e1⟩, Or.inl e2⟩).elim) (fun _ q => by omega) (fun a' ha' h2' e1' e2' σ2 hF2 => ?_) (fun a' ha' h2' e1' e2' => (e2' e2).elim)⟩
    have q := nI_one e1' e1 (by omega) (by omega)
    subst q
    exact ⟨rfl, Inv.mk (hc1.mo hF2) (hm1.o hw hF2) hw.up⟩
  · have hc1 : CI σ1 A B kp I hg hI T len ft := hc.fr (fun c a => hF1 c (by omega))
    have hm1 : MI σ1 A B kp I hg hI T len ft := hm.fr hw (fun c a => hF1 c (by omega))
    refine ⟨_, rfl, u_bequest hm1.1 hw.1 (fun q => (q ⟨⟨a, ha, e1⟩, Or.inr e3⟩).elim) (fun _ q => by omega) (fun a' ha' h2' e1' e2' => (e2 e2').elim) (fun a' ha' h2' e1' e2' e3' r' hr' σ2 hF2 => ?_)⟩
    have q := nI_one e1' e1 (by omega) (by omega)
    subst q
    rw [IsH_one hw.1.1 hr' hr]
    exact ⟨rfl, Inv.mk (hc1.mo hF2) (hm1.o hw hF2) hw.up⟩
theorem WB_gls {A B : St} (hW : WB B) {a b : Nat} (ha : a < 24) (hb : b < 24) (hB : B 4 0 < 12) : WB (glsA B a b) := by
  obtain ⟨w1, w2, w3, w4⟩ := hW
  have e4 : glsA B a b 4 0 = B 4 0 + 1 := stu_s
  have eo : ∀ f k, f ≠ 0 → f ≠ 1 → ¬ (f = 4 ∧ k = 0) → glsA B a b f k = B f k := fun f k q1 q2 q3 => by
    unfold glsA stu
    rw [if_neg q3, if_neg (fun z => q2 z.1), if_neg (fun z => q1 z.1)]
  refine ⟨by omega, by rw [eo _ _ (by omega) (by omega) (by omega)]; exact w2, fun k hk => ?_, fun k hk => ?_⟩
  · rw [e4] at hk
    by_cases z : k = B 4 0
    · subst z
      have e0 : glsA B a b 0 (B 4 0) = a := by unfold glsA; rw [stu_f (by omega), stu_f (by omega), stu_s]
      have e1 : glsA B a b 1 (B 4 0) = b := by unfold glsA; rw [stu_f (by omega), stu_s]
      rw [e0, e1]; exact ⟨ha, hb⟩
    · have e0 : glsA B a b 0 k = B 0 k := by unfold glsA; rw [stu_f (by omega), stu_f (by omega), stu_k z]
      have e1 : glsA B a b 1 k = B 1 k := by unfold glsA; rw [stu_f (by omega), stu_k z, stu_f (by omega)]
      rw [e0, e1]; exact w3 k (by omega)
  · rw [eo _ _ (by omega) (by omega) (by omega)] at hk
    rw [eo _ _ (by omega) (by omega) (by omega), eo _ _ (by omega) (by omega) (by omega)]; exact w4 k hk
theorem WB_bok {A B : St} (hW : WB B) {a b : Nat} (ha : a ≤ 9999) (hb : b < 24) (hB : B 4 1 < 30) : WB (bokA B a b) := by
  obtain ⟨w1, w2, w3, w4⟩ := hW
  have e4 : bokA B a b 4 1 = B 4 1 + 1 := stu_s
  have eo : ∀ f k, f ≠ 2 → f ≠ 3 → ¬ (f = 4 ∧ k = 1) → bokA B a b f k = B f k := fun f k q1 q2 q3 => by
    unfold bokA stu
    rw [if_neg q3, if_neg (fun z => q2 z.1), if_neg (fun z => q1 z.1)]
  refine ⟨by rw [eo _ _ (by omega) (by omega) (by omega)]; exact w1, by omega, fun k hk => ?_, fun k hk => ?_⟩
  · rw [eo _ _ (by omega) (by omega) (by omega)] at hk
    rw [eo _ _ (by omega) (by omega) (by omega), eo _ _ (by omega) (by omega) (by omega)]; exact w3 k hk
  · rw [e4] at hk
    by_cases z : k = B 4 1
    · subst z
      have e0 : bokA B a b 2 (B 4 1) = a := by unfold bokA; rw [stu_f (by omega), stu_f (by omega), stu_s]
      have e1 : bokA B a b 3 (B 4 1) = b := by unfold bokA; rw [stu_f (by omega), stu_s]
      rw [e0, e1]; exact ⟨ha, hb⟩
    · have e0 : bokA B a b 2 k = B 2 k := by unfold bokA; rw [stu_f (by omega), stu_f (by omega), stu_k z]
      have e1 : bokA B a b 3 k = B 3 k := by unfold bokA; rw [stu_f (by omega), stu_k z, stu_f (by omega)]
      rw [e0, e1]; exact w4 k (by omega)
theorem WB_ter {B : St} : WB (terA B) := by
  have e0 : terA B 4 0 = 0 := by unfold terA; rw [stu_k (by omega), stu_s]
  have e1 : terA B 4 1 = 0 := stu_s
  exact ⟨by omega, by omega, fun k hk => by omega, fun k hk => by omega⟩
theorem two_older (h : Inv n σ) : Two mX7_older mX8_older [.ref 0, .int x, .int y] [.ref 89, .int x, .int y] n σ := by
  obtain ⟨A, B, kp, I, hg, hI, T, len, ft, hc, hm, hw⟩ := h
  have h24 := hw.1.1.1
  refine t_older hc.1 hw.1 hc.2.1 hw.2.1 (fun g => ⟨_, rfl, u_older hm.1 hw.1 hm.2.1 hw.2.1 (fun _ => ⟨rfl, Inv.mk hc hm hw.up⟩) (fun q _ => (g q).elim) (fun a b ha hb e1 e2 ne _ => (g ⟨⟨a, ha, e1⟩, ⟨b, hb, e2⟩, ne⟩).elim)⟩) (fun g g2 => ⟨_, rfl, u_older hm.1 hw.1 hm.2.1 hw.2.1 (fun q => (q g).elim) (fun _ _ => ⟨rfl, Inv.mk hc hm hw.up⟩) (fun a b ha hb e1 e2 ne g3 => by omega)⟩) (fun a b ha hb e1 e2 ne g σ1 hB1 hF1 => ?_)
  have hc1 := hc.b hB1 hF1
  have hm1 := hm.fr hw (σ' := σ1) (fun c a => hF1 c (by omega))
  refine ⟨_, rfl, u_older hm1.1 hw.1 hm1.2.1 hw.2.1 (fun q => (q ⟨⟨a, ha, e1⟩, ⟨b, hb, e2⟩, ne⟩).elim) (fun _ q => by omega) (fun a' b' ha' hb' e1' e2' _ _ σ2 hB2 hF2 => ?_)⟩
  have q := nI_one e1' e1 (by omega) (by omega)
  have q2 := nI_one e2' e2 (by omega) (by omega)
  subst q q2
  exact ⟨rfl, Inv.mk (hc1.mn hF2) (hm1.bk hw hB2 hF2) (hw.book (WB_gls (A := A) hw.2.1 (by omega) (by omega) g))⟩
theorem two_write (h : Inv n σ) : Two mX7_write mX8_write [.ref 0, .int x, .int y] [.ref 89, .int x, .int y] n σ := by
  obtain ⟨A, B, kp, I, hg, hI, T, len, ft, hc, hm, hw⟩ := h
  have h24 := hw.1.1.1
  refine t_write hc.1 hw.1 hc.2.1 hw.2.1 (fun g => ⟨_, rfl, u_write hm.1 hw.1 hm.2.1 hw.2.1 (fun _ => ⟨rfl, Inv.mk hc hm hw.up⟩) (fun q _ => (g q).elim) (fun q _ _ => (g q).elim) (fun a b ha hb e1 e2 _ => (g ⟨b, hb, e2⟩).elim)⟩) (fun g g2 => ⟨_, rfl, u_write hm.1 hw.1 hm.2.1 hw.2.1 (fun q => (q g).elim) (fun _ _ => ⟨rfl, Inv.mk hc hm hw.up⟩) (fun _ q _ => (g2 q).elim) (fun a b ha hb e1 e2 _ => (g2 ⟨a, by omega, ha, e1⟩).elim)⟩) (fun g g2 g3 => ⟨_, rfl, u_write hm.1 hw.1 hm.2.1 hw.2.1 (fun q => (q g).elim) (fun _ q => (q g2).elim) (fun _ _ _ => ⟨rfl, Inv.mk hc hm hw.up⟩) (fun a b ha hb e1 e2 g4 => by omega)⟩) (fun a b ha hb e1 e2 g σ1 hB1 hF1 => ?_)
  have hc1 := hc.b hB1 hF1
  have hm1 := hm.fr hw (σ' := σ1) (fun c a => hF1 c (by omega))
  refine ⟨_, rfl, u_write hm1.1 hw.1 hm1.2.1 hw.2.1 (fun q => (q ⟨b, hb, e2⟩).elim) (fun _ q => (q ⟨a, by omega, ha, e1⟩).elim) (fun _ _ q => by omega) (fun a' b' ha' hb' e1' e2' _ σ2 hB2 hF2 => ?_)⟩
  have q := nI_one e1' e1 (by omega) (by omega)
  have q2 := nI_one e2' e2 (by omega) (by omega)
  subst q q2
  exact ⟨rfl, Inv.mk (hc1.mn hF2) (hm1.bk hw hB2 hF2) (hw.book (WB_bok (A := A) hw.2.1 ha (by omega) g))⟩
theorem two_tear (h : Inv n σ) : Two mX7_tear mX8_tear [.ref 0] [.ref 89] n σ := by
  obtain ⟨A, B, kp, I, hg, hI, T, len, ft, hc, hm, hw⟩ := h
  refine t_tear hc.2.1 (fun σ1 hB1 hF1 => ?_)
  have hc1 := hc.b hB1 hF1
  have hm1 := hm.fr hw (σ' := σ1) (fun c a => hF1 c (by omega))
  exact ⟨_, rfl, u_tear hm1.2.1 (fun σ2 hB2 hF2 => ⟨rfl, Inv.mk (hc1.mn hF2) (hm1.bk hw hB2 hF2) (hw.book WB_ter)⟩)⟩
end TWO
