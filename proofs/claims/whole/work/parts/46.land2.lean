/-! Land: copies, sieges -/
set_option maxRecDepth 100000 in
set_option maxHeartbeats 4000000 in
theorem s_copyL {σ : Sg} {A : St} {d s : Nat} {Q : Option Value → Sg → Prop} (hb : (d = 14 ∧ s = 1) ∨ (d = 1 ∧ s = 14) ∨ (d = 28 ∧ s = 1) ∨ (d = 41 ∧ s = 1) ∨ (d = 1 ∧ s = 28) ∨ (d = 1 ∧ s = 41)) (hR : RLd s σ A) (h5 : A 12 5 ≤ 4) (h6 : A 12 6 ≤ 8) (h0 : A 12 0 ≤ 24) (h : ∀ σ', RLd d σ' A → σ' d 8 = σ s 8 → FrL d σ σ' → Q none σ') : MetA mX4_copyFrom [.ref d, .ref s] σ Q := by
  refine MetA_of qX4_copyFrom (Nat.le_of_ble_eq_true rfl) ?_
  obtain ⟨r1, r2, r3, r4, r5, r6, r7, r8⟩ := hR
  have fin : ∀ σ', RCel (d + 6) σ' A → σ' d 0 = σ s 0 → σ' d 5 = σ s 5 → σ' d 7 = σ s 7 → σ' d 8 = σ s 8 → σ' d 9 = σ s 9 → σ' d 10 = σ s 10 → (∀ k, k < 4 → σ' (d + 1) k = σ (s + 1) k ∧ σ' (d + 2) k = σ (s + 2) k ∧ σ' (d + 3) k = σ (s + 3) k) → (∀ k, k < 8 → σ' (d + 5) k = σ (s + 5) k) → FrL d σ σ' → Q none σ' := by
    intro σ' c0 c1 c2 c3 c4 c5 c6 c7 c8 hF
    refine h σ' ⟨c0, c1.trans r2, c2.trans r3, c3.trans r4, c5.trans r5, c6.trans r6, fun k hk => ?_, fun k hk => ?_⟩ c4 hF
    · have := c7 k (by omega)
      rw [this.1, this.2.1, this.2.2]; exact r7 k hk
    · rw [c8 k (by omega)]; exact r8 k hk
  refine wpB_sd (stops := []) kX4_copyFrom 100 _ _ _ _ ?_
  rcases hb with ⟨rfl, rfl⟩ | ⟨rfl, rfl⟩ | ⟨rfl, rfl⟩ | ⟨rfl, rfl⟩ | ⟨rfl, rfl⟩ | ⟨rfl, rfl⟩ <;>
  · refine ⟨acok (n := 4) rfl rfl, ?_⟩
    refine ⟨acok (n := 4) rfl rfl, ?_⟩
    refine ⟨acok (n := 4) rfl rfl, ?_⟩
    refine ⟨acok (n := 8) rfl rfl, ?_⟩
    refine s_copyC (A := A) (by simp) (RCel.fr r1 (fun c a b => ?_)) h0 (fun σ' hc hf => ?_)
    · repeat rw [sgu_c (by omega)]
      rw [sgc_ne (by omega), sgu_c (by omega)]
      repeat rw [sgc_ne (by omega)]
      rw [sgu_c (by omega)]
    · have e4 : ∀ (f g : Nat → Int32) (j : Nat), j < 4 → va_cpy f g 0 0 4 j = f j := fun f g j hj => by rw [pk_cpy_in (by omega) (by omega)]; simp
      have e8 : ∀ (f g : Nat → Int32) (j : Nat), j < 8 → va_cpy f g 0 0 8 j = f j := fun f g j hj => by rw [pk_cpy_in (by omega) (by omega)]; simp
      refine fin σ' hc ?_ ?_ ?_ ?_ ?_ ?_ (fun k hk => ⟨?_, ?_, ?_⟩) (fun k hk => ?_) (fun c hc2 => ?_)
      · rw [hf _ (by omega)]; simp [sgu_at, sgc]
      · rw [hf _ (by omega)]; simp [sgu_at, sgc]
      · rw [hf _ (by omega)]; simp [sgu_at, sgc]
      · rw [hf _ (by omega)]; simp [sgu_at, sgc]
      · rw [hf _ (by omega)]; simp [sgu_at, sgc]
      · rw [hf _ (by omega)]; simp [sgu_at, sgc]
      · rw [hf _ (by omega)]; simp [sgu_at, sgc, e4 _ _ k hk]
      · rw [hf _ (by omega)]; simp [sgu_at, sgc, e4 _ _ k hk]
      · rw [hf _ (by omega)]; simp [sgu_at, sgc, e4 _ _ k hk]
      · rw [hf _ (by omega)]; simp [sgu_at, sgc, e8 _ _ k hk]
      · rw [hf c (by omega)]
        repeat rw [sgu_c (by omega)]
        rw [sgc_ne (by omega), sgu_c (by omega)]
        repeat rw [sgc_ne (by omega)]
        rw [sgu_c (by omega)]
def besA (A : St) : St := fun f k => if f = 12 ∧ k = 6 then 1 else if f = 10 then 0 else if f = 7 then 0 else A f k
set_option maxRecDepth 100000 in
set_option maxHeartbeats 1000000 in
theorem s_besiege {σ : Sg} {A : St} {Q : Option Value → Sg → Prop} (hR : RLd 14 σ A) (h5 : A 12 5 ≤ 4) (h : ∀ σ', RLd 14 σ' (besA A) → σ' 14 8 = σ 14 8 → FrL 14 σ σ' → Q none σ') : MetA mX4_besiege [.ref 14] σ Q := by
  refine MetA_of qX4_besiege (Nat.le_of_ble_eq_true rfl) ?_
  obtain ⟨r1, r2, r3, r4, r5, r6, r7, r8⟩ := hR
  have loop : ∀ n i σi, i + n = A 12 5 → (∀ c, c ≠ 14 → c ≠ 16 → c ≠ 19 → σi c = σ c) → (∀ k, k ≠ 5 → σi 14 k = σ 14 k) → σi 14 5 = 1 → σi 19 0 = 0 → (∀ k, k < i → σi 16 k = 0) → V mX4_besiege 12 [(0, .ref 14), (1, .int (nI i))] [] σi Q := by
    intro n
    induction n with
    | zero =>
      intro i σi hi c1 c2 c3 c4 c5
      have hi : i = A 12 5 := by omega
      subst hi
      refine wpB_sd (stops := [12]) kX4_besiege 20 _ _ _ _ ?_
      refine br_t (by rw [c2 0 (by omega), r2]; exact nI_le (by omega) (by omega)) ?_
      refine h σi ⟨RCel.fr (σ := σ) ?_ (fun c a b => c1 c (by omega) (by omega) (by omega)), ?_, ?_, ?_, ?_, ?_, fun k hk => ?_, fun k hk => ?_⟩ (c2 8 (by omega)) (fun c hc => c1 c (by omega) (by omega) (by omega))
      · exact r1
      · rw [c2 0 (by omega)]; exact r2
      · rw [c3]; rfl
      · rw [c2 7 (by omega)]; exact r4
      · rw [c2 9 (by omega)]; exact r5
      · rw [c2 10 (by omega)]; exact r6
      · have hk : k < A 12 5 := hk
        have := r7 k hk
        refine ⟨?_, ?_, ?_⟩
        · rw [c1 _ (by omega) (by omega) (by omega)]; exact this.1
        · rw [c5 k hk]; rfl
        · rw [c1 _ (by omega) (by omega) (by omega)]; exact this.2.2
      · have hk : k < 1 := hk
        have : k = 0 := by omega
        subst this
        rw [c4]; rfl
    | succ n ih =>
      intro i σi hi c1 c2 c3 c4 c5
      refine wpB_sd (stops := [12]) kX4_besiege 20 _ _ _ _ ?_
      refine br_f (by rw [c2 0 (by omega), r2]; exact nI_ge (by omega) (by omega)) ?_
      refine ast (n := 4) (j := i) rfl rfl (by omega) ?_
      have := ih (i + 1) (sgu σi 16 i 0) (by omega) (fun c a b d => by rw [sgu_c b]; exact c1 c a b d) (fun k hk => by rw [sgu_c (by omega)]; exact c2 k hk) (by rw [sgu_c (by omega)]; exact c3) (by rw [sgu_c (by omega)]; exact c4) (fun k hk => by
        by_cases q : k = i
        · subst q; rw [sgu_s]
        · rw [sgu_k q]; exact c5 k (by omega))
      rw [← nI_1] at this
      exact this
  refine wpB_sd (stops := [12]) kX4_besiege 20 _ _ _ _ ?_
  refine MetA_of qX4_addHarvest (Nat.le_of_ble_eq_true rfl) ?_
  refine wpB_sd (stops := []) kX4_addHarvest 40 _ _ _ _ ?_
  refine br_t (by rw [sgu_s]; decide) ?_
  refine ast (n := 8) (j := 0) rfl (by rw [sgu_s]; rfl) (by omega) ?_
  refine loop (A 12 5) 0 _ (by omega) (fun c a b d => ?_) (fun k hk => ?_) ?_ ?_ (fun k hk => absurd hk (by omega))
  · rw [sgu_c a, sgu_c d, sgu_c a]
  · rw [sgu_k hk, sgu_c (by omega), sgu_k hk]
  · rw [sgu_s, sgu_c (by omega), sgu_s]; decide
  · rw [sgu_c (by omega)]; exact sgu_s
