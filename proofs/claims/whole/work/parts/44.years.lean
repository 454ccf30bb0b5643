/-! years: the specification, its bounds -/
def buC (A : St) (k : Nat) : Bool := decide (A 6 k = 0 ∧ ¬ A 0 k = 2 ∧ A 4 k < A 12 1 - A 5 k)
def buS (A : St) (k : Nat) : St := if buC A k = true then (if drA (A 12 4) / 65536 % 10 = 0 then stu (stu A 12 4 (drA (A 12 4))) 6 k 1 else stu A 12 4 (drA (A 12 4))) else A
def buR : Nat → St → St
  | 0, A => A
  | n + 1, A => buS (buR n A) n
abbrev Ys : Type := St × (Nat → Nat)
def hsA1 (dr : Bool) (A : St) : St := if dr = true then stu A 12 4 (drA (A 12 4)) else A
def hsV (dr : Bool) (A : St) : Nat := if dr = true then drA (A 12 4) / 65536 % 30 else harvA A (A 12 1)
def hsS (dr : Bool) (k : Nat) (s : Ys) : Ys := ((eatA (hsA1 dr s.1) k (hsV dr s.1)).1, fun i => if i = k then s.2 k + (eatA (hsA1 dr s.1) k (hsV dr s.1)).2 else s.2 i)
def hsR (dr : Bool) : Nat → Ys → Ys
  | 0, s => s
  | n + 1, s => hsS dr n (hsR dr n s)
def yrB (dr : Bool) (A : St) : St := if dr = true then buR (A 12 0) A else A
def yrS (dr : Bool) (s : Ys) : Ys := (stu (hsR dr (s.1 12 5) (yrB dr s.1, s.2)).1 12 1 (s.1 12 1 + 1), (hsR dr (s.1 12 5) (yrB dr s.1, s.2)).2)
def yrR (dr : Bool) : Nat → Ys → Ys
  | 0, s => s
  | n + 1, s => yrS dr (yrR dr n s)
theorem V.take {ms : MS} {pc : Nat} {lv : Lv} {st : List Value} {σ : Sg} {R : Option Value → Sg → Prop} (n : Nat) (h : V ms pc (lv.take n) st σ R) : V ms pc lv st σ R := V.sub (fun _ hq => List.mem_of_mem_take hq) h
/-- fields that eating leaves: all but the jars', the stocks and the number of jars -/
theorem eatA_f {A : St} {hh harv f k : Nat} (hf : 6 < f) (h8 : f ≠ 8) (h12 : ¬ (f = 12 ∧ k = 0)) : (eatA A hh harv).1 f k = A f k := by
  unfold eatA eatS
  dsimp only
  split
  · rw [addA_f hf h12, stu_f h8, eatL_f _ _ _ _ _ _ (by omega)]
  · rw [stu_f h8, eatL_f _ _ _ _ _ _ (by omega)]
theorem eatA_le {A : St} {hh harv : Nat} : (eatA A hh harv).2 ≤ A 9 hh := Nat.sub_le _ _
theorem WL.j {A : St} (h : WL A) : WJ A := h.1
theorem eatL_WL {A : St} (h : WL A) (hh n has : Nat) : WL (eatL hh n A has).1 := by
  obtain ⟨h0, h1, h2, h3, h4, h5, h6, h7⟩ := h
  have e := fun f k hf => eatL_f hh n A has f k hf
  refine ⟨(eatL_w hh n A has h0).1, ?_, ?_, ?_, ?_, fun k hk => ?_, fun k hk => ?_, fun k hk => ?_⟩
  · rw [e 12 5 (by omega)]; exact h1
  · rw [e 12 6 (by omega)]; exact h2
  · rw [e 12 3 (by omega)]; exact h3
  · rw [e 12 4 (by omega)]; exact h4
  · rw [e 12 5 (by omega)] at hk
    rw [e 9 k (by omega), e 7 k (by omega), e 8 k (by omega)]; exact h5 k hk
  · rw [e 12 6 (by omega)] at hk
    rw [e 10 k (by omega)]; exact h6 k hk
  · rw [e 12 0 (by omega)] at hk
    rw [e 12 5 (by omega), e 1 k (by omega)]; exact h7 k hk
theorem WL_stock {A : St} (h : WL A) (hh v : Nat) (hv : v < 2 ^ 20) : WL (stu A 8 hh v) := by
  obtain ⟨h0, h1, h2, h3, h4, h5, h6, h7⟩ := h
  refine ⟨h0, h1, h2, h3, h4, fun k hk => ?_, h6, h7⟩
  have := h5 k hk
  refine ⟨this.1, this.2.1, ?_⟩
  by_cases q : k = hh
  · subst q; rw [stu_s]; exact hv
  · rw [stu_k q]; exact this.2.2
theorem WL_add {A : St} (h : WL A) {hh d q : Nat} (hn : A 12 0 < 24) (hh2 : hh < A 12 5) (hd : d < 2 ^ 20) (hq : q ≤ 99) : WL (addA A 0 hh d q 5 (A 12 1)) := by
  obtain ⟨⟨g0, g1, g2⟩, h1, h2, h3, h4, h5, h6, h7⟩ := h
  have e := fun f k (hf : 6 < f) (h2 : ¬ (f = 12 ∧ k = 0)) => addA_f (A := A) (k := 0) (h := hh) (d := d) (q := q) (kp := 5) (y := A 12 1) hf h2
  refine ⟨⟨?_, ?_, fun j hj => ?_⟩, ?_, ?_, ?_, ?_, fun k hk => ?_, fun k hk => ?_, fun j hj => ?_⟩
  · rw [addA_n]; omega
  · rw [e 12 1 (by omega) (by omega)]; exact g1
  · rw [addA_n] at hj
    rw [e 12 1 (by omega) (by omega)]
    by_cases z : j = A 12 0
    · subst z
      simp [addA]
      omega
    · rw [addA_j (by omega) z, addA_j (by omega) z, addA_j (by omega) z, addA_j (by omega) z, addA_j (by omega) z, addA_j (by omega) z, addA_j (by omega) z]
      exact g2 j (by omega)
  · rw [e 12 5 (by omega) (by omega)]; exact h1
  · rw [e 12 6 (by omega) (by omega)]; exact h2
  · rw [e 12 3 (by omega) (by omega)]; exact h3
  · rw [e 12 4 (by omega) (by omega)]; exact h4
  · rw [e 12 5 (by omega) (by omega)] at hk
    rw [e 9 k (by omega) (by omega), e 7 k (by omega) (by omega), e 8 k (by omega) (by omega)]; exact h5 k hk
  · rw [e 12 6 (by omega) (by omega)] at hk
    rw [e 10 k (by omega) (by omega)]; exact h6 k hk
  · rw [addA_n] at hj
    rw [e 12 5 (by omega) (by omega)]
    by_cases z : j = A 12 0
    · subst z; simp [addA]; omega
    · rw [addA_j (by omega) z]; exact h7 j (by omega)
theorem eatA_WL {A : St} (h : WL A) {hh harv : Nat} (hh2 : hh < A 12 5) (hy : A 12 1 < 2 ^ 19) : WL (eatA A hh harv).1 := by
  unfold eatA eatS
  dsimp only
  have h1 := eatL_WL h hh 24 (harv + A 8 hh)
  have e := fun f k hf => eatL_f hh 24 A (harv + A 8 hh) f k hf
  split
  · next hc =>
    have h2 := WL_stock h1 hh 0 (by omega)
    have h7 := (h.2.2.2.2.2.1 hh hh2).2.1
    refine WL_add h2 (by show (eatL hh 24 A _).1 12 0 < 24; exact hc.2.2.2) (by show hh < (eatL hh 24 A _).1 12 5; rw [e 12 5 (by omega)]; exact hh2) (by rw [e 12 1 (by omega), e 7 hh (by omega)]; omega) (by split <;> omega)
  · exact WL_stock h1 hh 0 (by omega)
theorem WL_seed {A : St} (h : WL A) {v : Nat} (hv : v < 2 ^ 31) : WL (stu A 12 4 v) := by
  obtain ⟨h0, h1, h2, h3, h4, h5, h6, h7⟩ := h
  exact ⟨h0, h1, h2, h3, by rw [stu_s]; exact hv, h5, h6, h7⟩
theorem WL_gone {A : St} (h : WL A) {k : Nat} : WL (stu A 6 k 1) := by
  obtain ⟨h0, h1, h2, h3, h4, h5, h6, h7⟩ := h
  exact ⟨WJ_g h0 (by omega), h1, h2, h3, h4, h5, h6, h7⟩
theorem WL_year {A : St} (h : WL A) {v : Nat} (hv : A 12 1 ≤ v) (hv2 : v < 2 ^ 20) : WL (stu A 12 1 v) := by
  obtain ⟨⟨g0, g1, g2⟩, h1, h2, h3, h4, h5, h6, h7⟩ := h
  refine ⟨⟨g0, by rw [stu_s]; exact hv2, fun j hj => ?_⟩, h1, h2, h3, h4, h5, h6, h7⟩
  have := g2 j hj
  refine ⟨this.1, this.2.1, this.2.2.1, this.2.2.2.1, this.2.2.2.2.1, ?_, this.2.2.2.2.2.2⟩
  rw [stu_s]; exact Nat.le_trans this.2.2.2.2.2.1 hv
theorem buS_f {A : St} {k f i : Nat} (h6 : f ≠ 6) (h12 : ¬ (f = 12 ∧ i = 4)) : buS A k f i = A f i := by
  have e : ∀ v, stu A 12 4 v f i = A f i := fun v => if_neg (fun q => h12 ⟨q.1, q.2⟩)
  unfold buS
  split
  · split
    · rw [stu_f h6, e]
    · rw [e]
  · rfl
theorem buR_f {f i : Nat} (h6 : f ≠ 6) (h12 : ¬ (f = 12 ∧ i = 4)) : ∀ (n : Nat) (A : St), buR n A f i = A f i
  | 0, _ => rfl
  | n + 1, A => by rw [buR, buS_f h6 h12, buR_f h6 h12 n A]
theorem buS_WL {A : St} (h : WL A) {k : Nat} : WL (buS A k) := by
  have hd := drA_lt (A 12 4)
  unfold buS
  split
  · split
    · exact WL_gone (WL_seed h hd)
    · exact WL_seed h hd
  · exact h
theorem buR_WL : ∀ (n : Nat) {A : St}, WL A → WL (buR n A)
  | 0, _, h => h
  | n + 1, _, h => buS_WL (buR_WL n h)
theorem hsA1_WL {dr : Bool} {A : St} (h : WL A) : WL (hsA1 dr A) := by
  unfold hsA1; split
  · exact WL_seed h (drA_lt _)
  · exact h
theorem hsA1_f {dr : Bool} {A : St} {f k : Nat} (h12 : ¬ (f = 12 ∧ k = 4)) : hsA1 dr A f k = A f k := by
  unfold hsA1; split
  · exact if_neg (fun q => h12 ⟨q.1, q.2⟩)
  · rfl
theorem hsV_le {dr : Bool} {A : St} (h : WL A) : hsV dr A ≤ 99 := by
  unfold hsV; split
  · have : drA (A 12 4) / 65536 % 30 < 30 := Nat.mod_lt _ (by omega)
    omega
  · unfold harvA; split
    · omega
    · exact h.2.2.2.2.2.2.1 _ (Nat.mod_lt _ (by omega))
theorem hsS_f {dr : Bool} {n : Nat} {s : Ys} {f k : Nat} (hf : 6 < f) (h8 : f ≠ 8) (h12 : ¬ (f = 12 ∧ (k = 0 ∨ k = 4))) : (hsS dr n s).1 f k = s.1 f k := by
  unfold hsS; dsimp only
  rw [eatA_f hf h8 (by omega), hsA1_f (by omega)]
theorem hsR_f {dr : Bool} {f k : Nat} (hf : 6 < f) (h8 : f ≠ 8) (h12 : ¬ (f = 12 ∧ (k = 0 ∨ k = 4))) : ∀ (n : Nat) (s : Ys), (hsR dr n s).1 f k = s.1 f k
  | 0, _ => rfl
  | n + 1, s => by rw [hsR, hsS_f hf h8 h12, hsR_f hf h8 h12 n s]
theorem hsR_WL {dr : Bool} : ∀ (n : Nat) {s : Ys}, WL s.1 → n ≤ s.1 12 5 → s.1 12 1 < 2 ^ 19 → WL (hsR dr n s).1
  | 0, _, h, _, _ => h
  | n + 1, s, h, hn, hy => by
    have ih := hsR_WL (dr := dr) n h (by omega) hy
    rw [hsR]
    unfold hsS; dsimp only
    refine eatA_WL (hsA1_WL ih) ?_ ?_
    · rw [hsA1_f (by omega), hsR_f (by omega) (by omega) (by omega)]; omega
    · rw [hsA1_f (by omega), hsR_f (by omega) (by omega) (by omega)]; exact hy
theorem yrB_WL {dr : Bool} {A : St} (h : WL A) : WL (yrB dr A) := by
  unfold yrB; split
  · exact buR_WL _ h
  · exact h
theorem yrB_f {dr : Bool} {A : St} {f k : Nat} (h6 : f ≠ 6) (h12 : ¬ (f = 12 ∧ k = 4)) : yrB dr A f k = A f k := by
  unfold yrB; split
  · exact buR_f h6 h12 _ _
  · rfl
theorem yrS_f {dr : Bool} {s : Ys} {f k : Nat} (hf : 6 < f) (h8 : f ≠ 8) (h12 : ¬ (f = 12 ∧ (k = 0 ∨ k = 1 ∨ k = 4))) : (yrS dr s).1 f k = s.1 f k := by
  unfold yrS; dsimp only
  rw [show ∀ B : St, ∀ v, stu B 12 1 v f k = B f k from fun B v => if_neg (fun q => by omega), hsR_f hf h8 (by omega)]
  dsimp only; rw [yrB_f (by omega) (by omega)]
theorem yrR_f {dr : Bool} {f k : Nat} (hf : 6 < f) (h8 : f ≠ 8) (h12 : ¬ (f = 12 ∧ (k = 0 ∨ k = 1 ∨ k = 4))) : ∀ (n : Nat) (s : Ys), (yrR dr n s).1 f k = s.1 f k
  | 0, _ => rfl
  | n + 1, s => by rw [yrR, yrS_f hf h8 h12, yrR_f hf h8 h12 n s]
theorem yrS_y {dr : Bool} {s : Ys} : (yrS dr s).1 12 1 = s.1 12 1 + 1 := by unfold yrS; dsimp only; rw [stu_s]
theorem yrR_y {dr : Bool} : ∀ (n : Nat) (s : Ys), (yrR dr n s).1 12 1 = s.1 12 1 + n
  | 0, _ => rfl
  | n + 1, s => by rw [yrR, yrS_y, yrR_y n s, Nat.add_assoc]
theorem yrS_WL {dr : Bool} {s : Ys} (h : WL s.1) (hy : s.1 12 1 < 2 ^ 19) : WL (yrS dr s).1 := by
  unfold yrS; dsimp only
  have h1 : WL (hsR dr (s.1 12 5) (yrB dr s.1, s.2)).1 := hsR_WL _ (yrB_WL h) (by dsimp only; rw [yrB_f (by omega) (by omega)]; omega) (by dsimp only; rw [yrB_f (by omega) (by omega)]; exact hy)
  refine WL_year h1 ?_ (by omega)
  rw [hsR_f (by omega) (by omega) (by omega)]; dsimp only; rw [yrB_f (by omega) (by omega)]; omega
theorem yrR_WL {dr : Bool} : ∀ (n : Nat) {s : Ys}, WL s.1 → s.1 12 1 + n < 2 ^ 19 → WL (yrR dr n s).1
  | 0, _, h, _ => h
  | n + 1, s, h, hy => by
    rw [yrR]
    exact yrS_WL (yrR_WL n h (by omega)) (by rw [yrR_y]; omega)
theorem hsR_le {dr : Bool} {B : Nat} : ∀ (n : Nat) {s : Ys}, WL s.1 → n ≤ s.1 12 5 → (∀ i, s.2 i ≤ B) → ∀ i, (hsR dr n s).2 i ≤ B + 99 ∧ (n ≤ i → (hsR dr n s).2 i ≤ B)
  | 0, s, _, _, hB, i => ⟨by have := hB i; show s.2 i ≤ _; omega, fun _ => hB i⟩
  | n + 1, s, h, hn, hB, i => by
    have ih := hsR_le (dr := dr) n h (by omega) hB
    rw [hsR]
    unfold hsS; dsimp only
    by_cases q : i = n
    · subst q
      rw [if_pos rfl]
      have h1 := (ih i).2 (Nat.le_refl _)
      have h2 : (eatA (hsA1 dr (hsR dr i s).1) i (hsV dr (hsR dr i s).1)).2 ≤ 99 := by
        refine Nat.le_trans eatA_le ?_
        rw [hsA1_f (by omega), hsR_f (by omega) (by omega) (by omega)]
        exact (h.2.2.2.2.2.1 i (by omega)).1
      exact ⟨by omega, fun z => by omega⟩
    · rw [if_neg q]
      exact ⟨(ih i).1, fun z => (ih i).2 (by omega)⟩
theorem yrR_le {dr : Bool} : ∀ (n : Nat) {s : Ys}, WL s.1 → s.1 12 1 + n < 2 ^ 19 → (∀ i, s.2 i = 0) → ∀ i, (yrR dr n s).2 i ≤ 99 * n
  | 0, s, _, _, h0, i => by show s.2 i ≤ _; rw [h0]; omega
  | n + 1, s, h, hy, h0, i => by
    have ih := yrR_le (dr := dr) n h (by omega) h0
    have hw := yrR_WL (dr := dr) n h (by omega)
    rw [yrR]
    unfold yrS; dsimp only
    have := (hsR_le (dr := dr) (B := 99 * n) ((yrR dr n s).1 12 5) (s := (yrB dr (yrR dr n s).1, (yrR dr n s).2)) (yrB_WL hw) (by dsimp only; rw [yrB_f (by omega) (by omega)]; omega) ih i).1
    omega
