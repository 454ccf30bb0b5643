/-! siege: the two states agree but for seals, harvests, and the law between years -/
def Ag (C M : St) : Prop := ∀ f k, f ≠ 7 → f ≠ 10 → ¬ (f = 12 ∧ k = 6) → C f k = M f k
theorem Ag.f {C M : St} (h : Ag C M) {f k : Nat} (h7 : f ≠ 7) (h10 : f ≠ 10) (h12 : f = 12 → k ≠ 6) : C f k = M f k := h f k h7 h10 (fun q => h12 q.1 q.2)
theorem Ag_u {C M : St} (h : Ag C M) (f k v : Nat) : Ag (stu C f k v) (stu M f k v) := by
  intro g j h7 h10 h12
  unfold stu
  split
  · rfl
  · exact h g j h7 h10 h12
theorem Ag_7 {C M : St} (h : Ag C M) (k v : Nat) : Ag C (stu M 7 k v) := by
  intro g j h7 h10 h12
  rw [stu_f h7]; exact h g j h7 h10 h12
theorem Ag_fto {C M : St} (h : Ag C M) (hh l y : Nat) : ∀ n, ftoA C hh l y n = ftoA M hh l y n
  | 0 => rfl
  | n + 1 => by
    have e1 : C 1 n = M 1 n := h.f (by omega) (by omega) (by omega)
    have e6 : C 6 n = M 6 n := h.f (by omega) (by omega) (by omega)
    have e2 : ∀ j, C 2 j = M 2 j := fun j => h.f (by omega) (by omega) (by omega)
    rw [ftoA, ftoA, Ag_fto h hh l y n, e1, e6, e2 n]
    split
    · split
      · rfl
      · next f hf => rw [e2 f]
    · rfl
theorem Ag_nx {C M : St} (h : Ag C M) (hh has : Nat) : nxA C hh has = nxA M hh has := by
  unfold nxA
  rw [Ag_fto h, h.f (f := 9) (k := hh) (by omega) (by omega) (by omega), h.f (f := 12) (k := 3) (by omega) (by omega) (by omega), h.f (f := 12) (k := 1) (by omega) (by omega) (by omega), h.f (f := 12) (k := 0) (by omega) (by omega) (by omega)]
theorem Ag_fil {C M : St} (h : Ag C M) (j y : Nat) : filA C j y = filA M j y := by
  unfold filA
  rw [h.f (f := 0) (k := j) (by omega) (by omega) (by omega), h.f (f := 4) (k := j) (by omega) (by omega) (by omega), h.f (f := 5) (k := j) (by omega) (by omega) (by omega), h.f (f := 3) (k := j) (by omega) (by omega) (by omega)]
theorem Ag_eatL (hh : Nat) : ∀ (n : Nat) {C M : St} (has : Nat), Ag C M → (eatL hh n C has).2 = (eatL hh n M has).2 ∧ Ag (eatL hh n C has).1 (eatL hh n M has).1
  | 0, _, _, _, h => ⟨rfl, h⟩
  | n + 1, C, M, has, h => by
    rw [eatL, eatL, Ag_nx h]
    cases nxA M hh has with
    | none => exact ⟨rfl, h⟩
    | some j =>
      dsimp only
      rw [Ag_fil h, h.f (f := 12) (k := 1) (by omega) (by omega) (by omega)]
      exact Ag_eatL hh n _ (Ag_u h 6 j 1)
theorem Ag_add {C M : St} (h : Ag C M) (k hh d q kp y : Nat) : Ag (addA C k hh d q kp y) (addA M k hh d q kp y) := by
  intro f j h7 h10 h12
  unfold addA
  rw [h.f (f := 12) (k := 0) (by omega) (by omega) (by omega)]
  split
  · rfl
  · split
    · rfl
    · exact h f j h7 h10 h12
theorem Ag_eat {C M : St} (h : Ag C M) {hh v : Nat} (h7 : C 7 hh = M 7 hh) : (eatA C hh v).2 = (eatA M hh v).2 ∧ Ag (eatA C hh v).1 (eatA M hh v).1 := by
  have e8 : C 8 hh = M 8 hh := h.f (by omega) (by omega) (by omega)
  have e9 : C 9 hh = M 9 hh := h.f (by omega) (by omega) (by omega)
  obtain ⟨a, b⟩ := Ag_eatL hh 24 (v + M 8 hh) h
  unfold eatA
  dsimp only
  rw [e8, e9, Ag_nx h]
  refine ⟨by rw [a], ?_⟩
  rw [a]
  unfold eatS
  rw [b.f (f := 9) (k := hh) (by omega) (by omega) (by omega), b.f (f := 12) (k := 0) (by omega) (by omega) (by omega), b.f (f := 12) (k := 1) (by omega) (by omega) (by omega), eatL_f hh 24 C _ 7 hh (by omega), eatL_f hh 24 M _ 7 hh (by omega), h7]
  split
  · exact Ag_add (Ag_u b 8 hh 0) _ _ _ _ _ _
  · exact Ag_u b 8 hh 0
/-- a house, a year, in the reference's siege -/
def mhS (k : Nat) (s : Ys) : Ys := ((eatA (stu s.1 7 k 0) k 0).1, fun i => if i = k then s.2 k + (eatA (stu s.1 7 k 0) k 0).2 else s.2 i)
def mhR : Nat → Ys → Ys
  | 0, s => s
  | n + 1, s => mhS n (mhR n s)
def myS (lw : Nat) (s : Ys) : Ys := (stu (mhR (s.1 12 5) (stu s.1 12 3 lw, s.2)).1 12 1 (s.1 12 1 + 1), (mhR (s.1 12 5) (stu s.1 12 3 lw, s.2)).2)
def myR (l k : Nat) : Nat → Ys → Ys
  | 0, s => s
  | n + 1, s => myS (if k ≤ n then 2 else l) (myR l k n s)
def siA (A : St) (n k : Nat) : Nat := fb_sm (yrR false k (besA A, fun _ => 0)).2 4 + fb_sm (yrR false (n - k) (stu (yrR false k (besA A, fun _ => 0)).1 12 3 2, fun _ => 0)).2 4
theorem besA_WL {A : St} (h : WL A) : WL (besA A) := by
  obtain ⟨h0, h1, h2, h3, h4, h5, h6, h7⟩ := h
  refine ⟨h0, h1, by show (1 : Nat) ≤ 8; omega, h3, h4, fun k hk => ?_, fun k hk => ?_, h7⟩
  · have := h5 k hk
    exact ⟨this.1, by show (0 : Nat) ≤ 20; omega, this.2.2⟩
  · show (0 : Nat) ≤ 99; omega
/-- no harvest, no seals -/
def Bsg (C : St) : Prop := C 12 6 = 1 ∧ C 10 0 = 0 ∧ ∀ k, C 7 k = 0
theorem Bsg_bes (A : St) : Bsg (besA A) := ⟨rfl, rfl, fun _ => rfl⟩
theorem Bsg.harv {C : St} (h : Bsg C) (t : Nat) : harvA C t = 0 := by
  unfold harvA
  rw [if_neg (by rw [h.1]; omega), h.1, Nat.mod_one, h.2.1]
theorem Bsg.hs {k : Nat} {s : Ys} (h : Bsg s.1) : Bsg (hsS false k s).1 := ⟨by rw [hsS_f (by omega) (by omega) (by omega)]; exact h.1, by rw [hsS_f (by omega) (by omega) (by omega)]; exact h.2.1, fun i => by rw [hsS_f (by omega) (by omega) (by omega)]; exact h.2.2 i⟩
theorem Bsg.yr {n : Nat} {s : Ys} (h : Bsg s.1) : Bsg (yrR false n s).1 := ⟨by rw [yrR_f (by omega) (by omega) (by omega)]; exact h.1, by rw [yrR_f (by omega) (by omega) (by omega)]; exact h.2.1, fun i => by rw [yrR_f (by omega) (by omega) (by omega)]; exact h.2.2 i⟩
theorem Ag_hs {k : Nat} {s t : Ys} (h : Ag s.1 t.1) (hb : Bsg s.1) (h2 : s.2 = t.2) : Ag (hsS false k s).1 (mhS k t).1 ∧ (hsS false k s).2 = (mhS k t).2 := by
  unfold hsS mhS
  dsimp only
  rw [hsA1_ff, hsV_ff, hb.harv]
  obtain ⟨a, b⟩ := Ag_eat (hh := k) (v := 0) (Ag_7 h k 0) (by rw [stu_s]; exact hb.2.2 k)
  exact ⟨b, by rw [a, h2]⟩
theorem Bsg.hsR {s : Ys} (h : Bsg s.1) : ∀ n, Bsg (hsR false n s).1
  | 0 => h
  | n + 1 => (Bsg.hsR h n).hs
theorem Ag_hsR {s t : Ys} (h : Ag s.1 t.1) (hb : Bsg s.1) (h2 : s.2 = t.2) : ∀ n, Ag (hsR false n s).1 (mhR n t).1 ∧ (hsR false n s).2 = (mhR n t).2
  | 0 => ⟨h, h2⟩
  | n + 1 => by
    have ih := Ag_hsR h hb h2 n
    rw [hsR, mhR]
    exact Ag_hs ih.1 (hb.hsR n) ih.2
theorem Ag_yr {s t : Ys} {lw : Nat} (h : Ag s.1 (stu t.1 12 3 lw)) (hb : Bsg s.1) (h2 : s.2 = t.2) : Ag (yrS false s).1 (myS lw t).1 ∧ (yrS false s).2 = (myS lw t).2 := by
  have e5 : s.1 12 5 = t.1 12 5 := by rw [h.f (by omega) (by omega) (by omega), stu_k (by omega)]
  have e1 : s.1 12 1 = t.1 12 1 := by rw [h.f (by omega) (by omega) (by omega), stu_k (by omega)]
  unfold yrS myS
  rw [yrB_ff, e5, e1]
  obtain ⟨a, b⟩ := Ag_hsR (s := (s.1, s.2)) (t := (stu t.1 12 3 lw, t.2)) h hb h2 (t.1 12 5)
  exact ⟨Ag_u a 12 1 _, b⟩
theorem mhS_3 {k : Nat} {s : Ys} : (mhS k s).1 12 3 = s.1 12 3 := by
  unfold mhS; dsimp only; rw [eatA_f (by omega) (by omega) (by omega), stu_f (by omega)]
theorem mhR_f3 : ∀ (n : Nat) (s : Ys), (mhR n s).1 12 3 = s.1 12 3
  | 0, _ => rfl
  | n + 1, s => by rw [mhR, mhS_3, mhR_f3 n s]
theorem myS_3 {lw : Nat} {s : Ys} : (myS lw s).1 12 3 = lw := by
  unfold myS; dsimp only; rw [stu_k (by omega), mhR_f3]; dsimp only; rw [stu_s]
theorem yr_add {dr : Bool} (B : St) (ms : Nat → Nat) : ∀ n, (yrR dr n (B, ms)).1 = (yrR dr n (B, fun _ => 0)).1 ∧ ∀ i, (yrR dr n (B, ms)).2 i = ms i + (yrR dr n (B, fun _ => 0)).2 i
  | 0 => ⟨rfl, fun i => rfl⟩
  | n + 1 => by
    have ih := yr_add (dr := dr) B ms n
    have hs : ∀ (k : Nat) (C : St) (m1 m2 : Nat → Nat), (∀ i, m1 i = ms i + m2 i) → (hsR dr k (C, m1)).1 = (hsR dr k (C, m2)).1 ∧ ∀ i, (hsR dr k (C, m1)).2 i = ms i + (hsR dr k (C, m2)).2 i := by
      intro k
      induction k with
      | zero => intro C m1 m2 h; exact ⟨rfl, h⟩
      | succ k ihk =>
        intro C m1 m2 h
        have := ihk C m1 m2 h
        rw [hsR, hsR]
        unfold hsS
        dsimp only
        rw [this.1]
        refine ⟨rfl, fun i => ?_⟩
        by_cases q : i = k
        · rw [if_pos q, if_pos q, this.2 k, q, Nat.add_assoc]
        · rw [if_neg q, if_neg q, this.2 i]
    rw [yrR, yrR]
    unfold yrS
    rw [ih.1]
    have h2 := hs ((yrR dr n (B, fun _ => 0)).1 12 5) (yrB dr (yrR dr n (B, fun _ => 0)).1) (yrR dr n (B, ms)).2 (yrR dr n (B, fun _ => 0)).2 ih.2
    exact ⟨by rw [h2.1], h2.2⟩
theorem siege_1 {A : St} {k : Nat} : ∀ t, t ≤ k → Ag (yrR false t (besA A, fun _ => 0)).1 (myR (A 12 3) k t (A, fun _ => 0)).1 ∧ (yrR false t (besA A, fun _ => 0)).2 = (myR (A 12 3) k t (A, fun _ => 0)).2 ∧ (myR (A 12 3) k t (A, fun _ => 0)).1 12 3 = A 12 3
  | 0, _ => ⟨fun f j h7 h10 h12 => by show besA A f j = A f j; unfold besA; rw [if_neg h12, if_neg h10, if_neg h7], rfl, rfl⟩
  | t + 1, ht => by
    obtain ⟨a, b, c⟩ := siege_1 (A := A) (k := k) t (by omega)
    rw [yrR, myR, if_neg (by omega)]
    have hb : Bsg (yrR false t (besA A, fun _ => 0)).1 := Bsg.yr (s := (besA A, fun _ => 0)) (Bsg_bes A)
    have := Ag_yr (lw := A 12 3) (by rw [stu_id c]; exact a) hb b
    exact ⟨this.1, this.2, myS_3⟩
theorem siege_2 {A : St} {k : Nat} : ∀ t, Ag (yrR false t (stu (yrR false k (besA A, fun _ => 0)).1 12 3 2, (yrR false k (besA A, fun _ => 0)).2)).1 (stu (myR (A 12 3) k (k + t) (A, fun _ => 0)).1 12 3 2) ∧ (yrR false t (stu (yrR false k (besA A, fun _ => 0)).1 12 3 2, (yrR false k (besA A, fun _ => 0)).2)).2 = (myR (A 12 3) k (k + t) (A, fun _ => 0)).2
  | 0 => by
    obtain ⟨a, b, c⟩ := siege_1 (A := A) (k := k) k (Nat.le_refl _)
    exact ⟨Ag_u a 12 3 2, b⟩
  | t + 1 => by
    obtain ⟨a, b⟩ := siege_2 (A := A) (k := k) t
    rw [yrR, ← Nat.add_assoc, myR, if_pos (by omega)]
    have hb0 : Bsg (yrR false k (besA A, fun _ => 0)).1 := Bsg.yr (s := (besA A, fun _ => 0)) (Bsg_bes A)
    have hb1 : Bsg (stu (yrR false k (besA A, fun _ => 0)).1 12 3 2) := ⟨by rw [stu_k (by omega)]; exact hb0.1, by rw [stu_f (by omega)]; exact hb0.2.1, fun i => by rw [stu_f (by omega)]; exact hb0.2.2 i⟩
    have hb : Bsg (yrR false t (stu (yrR false k (besA A, fun _ => 0)).1 12 3 2, (yrR false k (besA A, fun _ => 0)).2)).1 := Bsg.yr (s := (stu (yrR false k (besA A, fun _ => 0)).1 12 3 2, _)) hb1
    have := Ag_yr (lw := 2) a hb b
    refine ⟨?_, this.2⟩
    rw [stu_id myS_3]; exact this.1
/-- the reference's sum is the class's two -/
theorem siege_eq {A : St} {n k : Nat} (hk : k ≤ n) : fb_sm (myR (A 12 3) k n (A, fun _ => 0)).2 4 = siA A n k := by
  obtain ⟨a, b⟩ := siege_2 (A := A) (k := k) (n - k)
  rw [show k + (n - k) = n by omega] at b
  rw [← b]
  have := (yr_add (dr := false) (stu (yrR false k (besA A, fun _ => 0)).1 12 3 2) (yrR false k (besA A, fun _ => 0)).2 (n - k)).2
  unfold siA
  rw [sm4, sm4, sm4, this 0, this 1, this 2, this 3]
  omega
theorem siA_le {A : St} {n k : Nat} (hW : WL A) (hn : n ≤ 20) (hk : k ≤ n) (hy : A 12 1 + 99 < 2 ^ 19) : siA A n k ≤ 4 * (99 * 20) := by
  have hWb := besA_WL hW
  have h1 := yrR_le (dr := false) k (s := (besA A, fun _ => 0)) hWb (by show A 12 1 + k < _; omega) (fun _ => rfl)
  have hW1 := yrR_WL (dr := false) k (s := (besA A, fun _ => 0)) hWb (by show A 12 1 + k < _; omega)
  have hy1 : (yrR false k (besA A, fun _ => 0)).1 12 1 = A 12 1 + k := yrR_y k _
  have hW2 : WL (stu (yrR false k (besA A, fun _ => 0)).1 12 3 2) := by
    obtain ⟨g0, g1, g2, g3, g4, g5, g6, g7⟩ := hW1
    exact ⟨g0, g1, g2, by rw [stu_s]; omega, g4, g5, g6, g7⟩
  have h2 := yrR_le (dr := false) (n - k) (s := (stu (yrR false k (besA A, fun _ => 0)).1 12 3 2, fun _ => 0)) hW2 (by dsimp only; rw [stu_k (by omega), hy1]; omega) (fun _ => rfl)
  unfold siA
  rw [sm4, sm4]
  have := h1 0; have := h1 1; have := h1 2; have := h1 3
  have := h2 0; have := h2 1; have := h2 2; have := h2 3
  omega
