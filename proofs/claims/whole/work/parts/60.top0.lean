/-! the calls: common words -/
abbrev UNK : Int32 := -1000000001
abbrev OUT : Int32 := -1000000002
abbrev NOTT : Int32 := -1000000003
abbrev FUL : Int32 := -1000000004
def ix (x : Int32) (n : Nat) : Prop := ∃ k, k < n ∧ x = nI k
theorem ix_iff {x : Int32} {n : Nat} (hn : n < 2 ^ 31) : (0 ≤ x ∧ x < nI n) ↔ ix x n := by
  constructor
  · intro ⟨h1, h2⟩
    rcases pk_ix x hn with q | q | ⟨j, hj, e⟩
    · exact absurd q (Int32.not_lt.mpr h1)
    · exact absurd q (Int32.not_le.mpr h2)
    · exact ⟨j, hj, e⟩
  · rintro ⟨k, hk, rfl⟩
    exact ⟨nI_pos' (by omega), nI_lt hk hn⟩
def rg (x : Int32) (lo hi : Nat) : Prop := ∃ k, lo ≤ k ∧ k ≤ hi ∧ x = nI k
theorem rg_iff {x : Int32} {lo hi : Nat} (hh : hi < 2 ^ 30) (hl : lo < 2 ^ 30) : (nI lo ≤ x ∧ x ≤ nI hi) ↔ rg x lo hi := by
  constructor
  · intro ⟨h1, h2⟩
    rw [fa_le, nI_toInt (by omega)] at h1
    rw [fa_le, nI_toInt (by omega)] at h2
    obtain ⟨k, hk⟩ : ∃ k : Nat, x.toInt = k := ⟨x.toInt.toNat, by omega⟩
    refine ⟨k, by omega, by omega, ?_⟩
    rw [fa_eq, nI_toInt (by omega)]; exact hk
  · rintro ⟨k, h1, h2, rfl⟩
    exact ⟨nI_le h1 (by omega), nI_le h2 (by omega)⟩
theorem rg_lt {x : Int32} {lo hi : Nat} (hh : hi < 2 ^ 30) (hl : lo < 2 ^ 30) (h : x < nI lo) : ¬ rg x lo hi := fun q => absurd h (Int32.not_lt.mpr ((rg_iff hh hl).mpr q).1)
theorem rg_gt {x : Int32} {lo hi : Nat} (hh : hi < 2 ^ 30) (hl : lo < 2 ^ 30) (h : nI hi < x) : ¬ rg x lo hi := fun q => absurd h (Int32.not_lt.mpr ((rg_iff hh hl).mpr q).2)
theorem rg_of {x : Int32} {lo hi : Nat} (hh : hi < 2 ^ 30) (hl : lo < 2 ^ 30) (h : ¬ x < nI lo) (h2 : ¬ nI hi < x) : rg x lo hi := (rg_iff hh hl).mp ⟨Int32.not_lt.mp h, Int32.not_lt.mp h2⟩
theorem bI_n0 {c : Prop} [Decidable c] (h : ¬ bI c = 0) : c := by
  by_cases q : c
  · exact q
  · exact absurd (bI_f q) h
/-- the class's land, and what it hungered -/
def CS (σ : Sg) (A : St) (hg : Nat) : Prop := RLd 1 σ A ∧ σ 1 8 = nI hg
/-- the reference's -/
def MR (σ : Sg) (A : St) (hg : Nat) : Prop := RMr 0 σ A ∧ RMg σ A ∧ σ 90 178 = nI hg
def FrX (σ σ' : Sg) : Prop := ∀ c, ¬ (1 ≤ c ∧ c ≤ 26) → σ' c = σ c
def FrM (σ σ' : Sg) : Prop := (∀ c, c ≠ 90 → c ≠ 97 → σ' c = σ c) ∧ ∀ k, 400 ≤ k → σ' 90 k = σ 90 k
theorem FrX.rf {σ : Sg} : FrX σ σ := fun _ _ => rfl
theorem FrX.tr {σ σ' σ'' : Sg} (h : FrX σ σ') (h2 : FrX σ' σ'') : FrX σ σ'' := fun c hc => (h2 c hc).trans (h c hc)
theorem FrM.rf {σ : Sg} : FrM σ σ := ⟨fun _ _ _ => rfl, fun _ _ => rfl⟩
theorem FrM.tr {σ σ' σ'' : Sg} (h : FrM σ σ') (h2 : FrM σ' σ'') : FrM σ σ'' := ⟨fun c hc hc2 => (h2.1 c hc hc2).trans (h.1 c hc hc2), fun k hk => (h2.2 k hk).trans (h.2 k hk)⟩
theorem FrL.x {σ σ' : Sg} (h : FrL 1 σ σ') : FrX σ σ' := fun c hc => h c (by omega)
theorem FrL.x2 {σ σ' : Sg} (h : FrL 14 σ σ') : FrX σ σ' := fun c hc => h c (by omega)
theorem FrP.m {x : Nat} {σ σ' : Sg} (h : FrP x σ σ') (hx : x ≤ 200) : FrM σ σ' := ⟨h.1, fun k hk => h.2 k (by omega)⟩
theorem FrM.put {k : Nat} {v : Int32} {σ : Sg} (h : k < 400) : FrM σ (sgu σ 90 k v) := ⟨fun c hc _ => sgu_c hc, fun i hi => sgu_k (by omega)⟩
/-- one number of an abstract land is changed, on both sides -/
theorem RLd_one {L : Nat} {σ : Sg} {A : St} {f k v c i : Nat} (h : RLd L σ A) (hW : WL A)
    (hc : (f = 12 ∧ k = 3 ∧ c = L ∧ i = 9) ∨ (f = 12 ∧ k = 4 ∧ c = L ∧ i = 10) ∨ (f = 7 ∧ c = L + 2 ∧ i = k) ∨ (f = 8 ∧ c = L + 3 ∧ i = k) ∨ (f = 1 ∧ c = L + 8 ∧ i = k) ∨ (f = 2 ∧ c = L + 9 ∧ i = k)) : RLd L (sgu σ c i (nI v)) (stu A f k v) := by
  obtain ⟨⟨c0, c7, c3⟩, h2, h3, h4, h5, h6, h7, h8⟩ := h
  have hn : ∀ g j, ¬ (g = f ∧ j = k) → stu A f k v g j = A g j := fun g j q => if_neg q
  have e0 : stu A f k v 12 0 = A 12 0 := hn _ _ (by omega)
  have e5 : stu A f k v 12 5 = A 12 5 := hn _ _ (by omega)
  have e6 : stu A f k v 12 6 = A 12 6 := hn _ _ (by omega)
  have eg : stu A f k v 6 = A 6 := funext fun j => hn _ _ (by omega)
  have at_ : ∀ c' i' g j, σ c' i' = nI (A g j) → ((c' = c ∧ i' = i) ↔ (g = f ∧ j = k)) → sgu σ c i (nI v) c' i' = nI (stu A f k v g j) := by
    intro c' i' g j hv hiff
    rw [sgu_at]
    by_cases q : c' = c ∧ i' = i
    · rw [if_pos q]
      obtain ⟨rfl, rfl⟩ := hiff.mp q
      rw [stu_s]
    · rw [if_neg q, hn _ _ (fun z => q (hiff.mpr z))]; exact hv
  refine ⟨⟨?_, ?_, fun j hj => ?_⟩, ?_, ?_, ?_, ?_, ?_, fun j hj => ?_, fun j hj => ?_⟩
  · exact at_ _ _ _ _ c0 (by omega)
  · rw [sgu_at, if_neg (by omega), eg, e0]; exact c7
  · rw [e0] at hj
    have c3 := c3 j hj
    exact ⟨at_ _ _ _ _ c3.1 (by omega), at_ _ _ _ _ c3.2.1 (by omega), at_ _ _ _ _ c3.2.2.1 (by omega), at_ _ _ _ _ c3.2.2.2.1 (by omega), at_ _ _ _ _ c3.2.2.2.2.1 (by omega), at_ _ _ _ _ c3.2.2.2.2.2 (by omega)⟩
  · exact at_ _ _ _ _ h2 (by omega)
  · exact at_ _ _ _ _ h3 (by omega)
  · exact at_ _ _ _ _ h4 (by omega)
  · exact at_ _ _ _ _ h5 (by omega)
  · exact at_ _ _ _ _ h6 (by omega)
  · rw [e5] at hj
    have h7 := h7 j hj
    exact ⟨at_ _ _ _ _ h7.1 (by omega), at_ _ _ _ _ h7.2.1 (by omega), at_ _ _ _ _ h7.2.2 (by omega)⟩
  · rw [e6] at hj
    exact at_ _ _ _ _ (h8 j hj) (by omega)
theorem RMr_one {x : Nat} {σ : Sg} {A : St} {f k v i : Nat} (h : RMr x σ A) (hW : WL A)
    (hc : (f = 12 ∧ k = 3 ∧ i = x + 179) ∨ (f = 12 ∧ k = 4 ∧ i = x + 180) ∨ (f = 7 ∧ k < 4 ∧ i = x + 168 + k) ∨ (f = 8 ∧ k < 4 ∧ i = x + 172 + k) ∨ (f = 1 ∧ k < 24 ∧ i = x + 24 + k) ∨ (f = 2 ∧ k < 24 ∧ i = x + 48 + k) ∨ (f = 6 ∧ k < 24 ∧ i = x + 144 + k)) : RMr x (sgu σ 90 i (nI v)) (stu A f k v) := by
  obtain ⟨r0, r1, r2, r3, r4, r5⟩ := h
  have h24 := hW.1.1
  have h4 := hW.2.1
  have hn : ∀ g j, ¬ (g = f ∧ j = k) → stu A f k v g j = A g j := fun g j q => if_neg q
  have e0 : stu A f k v 12 0 = A 12 0 := hn _ _ (by omega)
  have e5 : stu A f k v 12 5 = A 12 5 := hn _ _ (by omega)
  have at_ : ∀ i' g j, σ 90 i' = nI (A g j) → ((i' = i) ↔ (g = f ∧ j = k)) → sgu σ 90 i (nI v) 90 i' = nI (stu A f k v g j) := by
    intro i' g j hv hiff
    by_cases q : i' = i
    · subst q
      obtain ⟨rfl, rfl⟩ := hiff.mp rfl
      rw [sgu_s, stu_s]
    · rw [sgu_k q, hn _ _ (fun z => q (hiff.mpr z))]; exact hv
  refine ⟨at_ _ _ _ r0 (by omega), at_ _ _ _ r1 (by omega), at_ _ _ _ r2 (by omega), at_ _ _ _ r3 (by omega), fun j hj => ?_, fun j hj => ?_⟩
  · rw [e0] at hj
    have r4 := r4 j hj
    exact ⟨at_ _ _ _ r4.1 (by omega), at_ _ _ _ r4.2.1 (by omega), at_ _ _ _ r4.2.2.1 (by omega), at_ _ _ _ r4.2.2.2.1 (by omega), at_ _ _ _ r4.2.2.2.2.1 (by omega), at_ _ _ _ r4.2.2.2.2.2.1 (by omega), at_ _ _ _ r4.2.2.2.2.2.2 (by omega)⟩
  · rw [e5] at hj
    have r5 := r5 j hj
    exact ⟨at_ _ _ _ r5.1 (by omega), at_ _ _ _ r5.2 (by omega)⟩
theorem RMg_one {σ σ' : Sg} {A : St} {f k v : Nat} (h : RMg σ A) (hf : ∀ c, c = 89 ∨ c = 92 ∨ c = 93 → σ' c = σ c) (h9 : f ≠ 9) (h10 : f ≠ 10) (h12 : f = 12 → k ≠ 5 ∧ k ≠ 6) : RMg σ' (stu A f k v) :=
  (h.fr hf).eq (if_neg (by omega)) (if_neg (by omega)) (fun i => if_neg (by omega)) (fun i => if_neg (by omega))
theorem MR_one {σ : Sg} {A : St} {hg f k v i : Nat} (h : MR σ A hg) (hW : WL A) (hc : (f = 12 ∧ k = 3 ∧ i = 0 + 179) ∨ (f = 12 ∧ k = 4 ∧ i = 0 + 180) ∨ (f = 7 ∧ k < 4 ∧ i = 0 + 168 + k) ∨ (f = 8 ∧ k < 4 ∧ i = 0 + 172 + k) ∨ (f = 1 ∧ k < 24 ∧ i = 0 + 24 + k) ∨ (f = 2 ∧ k < 24 ∧ i = 0 + 48 + k) ∨ (f = 6 ∧ k < 24 ∧ i = 0 + 144 + k)) : MR (sgu σ 90 i (nI v)) (stu A f k v) hg :=
  ⟨RMr_one h.1 hW hc, RMg_one h.2.1 (fun c hc => sgu_c (by omega)) (by omega) (by omega) (by omega), by rw [sgu_k (by omega)]; exact h.2.2⟩
theorem CS_one {σ : Sg} {A : St} {hg f k v c i : Nat} (h : CS σ A hg) (hW : WL A) (hc : (f = 12 ∧ k = 3 ∧ c = 1 ∧ i = 9) ∨ (f = 12 ∧ k = 4 ∧ c = 1 ∧ i = 10) ∨ (f = 7 ∧ c = 1 + 2 ∧ i = k) ∨ (f = 8 ∧ c = 1 + 3 ∧ i = k) ∨ (f = 1 ∧ c = 1 + 8 ∧ i = k) ∨ (f = 2 ∧ c = 1 + 9 ∧ i = k)) : CS (sgu σ c i (nI v)) (stu A f k v) hg :=
  ⟨RLd_one h.1 hW hc, by rw [sgu_at, if_neg (by omega)]; exact h.2⟩
