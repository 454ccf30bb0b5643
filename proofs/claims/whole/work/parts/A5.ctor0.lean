/-! constructors: common words -/
def mg_AO (U : State) : Prop := (Cond.arrayOver (.array .int)).before #[] U = true
theorem mg_AO.moved {u U : State} (hvm : u.vm.Alike U.vm) (h : mg_AO u) : mg_AO U := by
  have hfc : ∀ n, U.vm.findClass n = u.vm.findClass n := fun n => hvm.findClass n none
  unfold mg_AO Cond.before Cond.holds at h ⊢
  simp only [Cond.value, beq_iff_eq] at h ⊢
  rw [hfc]
  cases hI : u.vm.findClass (FieldType.array .int).toString with
  | none => rw [hI] at h; simp at h
  | some cI =>
    rw [hI] at h
    simp only [Option.bind_some, Option.bind_eq_some_iff, Option.map_eq_some_iff] at h ⊢
    obtain ⟨cA, hA, kA, hkA, hc⟩ := h
    obtain ⟨k', hk', he⟩ := hvm.2.2 _ _ hkA
    have hq : k'.kind = kA.kind := by rw [he]
    refine ⟨cA, ?_, k', hk', ?_⟩
    · exact (hvm.findIdx?_eqK _ (fun _ => rfl)).trans hA
    · rw [hq, hfc]; exact hc
/-- what constructors ask of the tables beside the common words -/
def CtU (U : State) : Prop := (va_Nw (.methodLinkNest RX4 29 yX1_init "DatedJars") U ∧ va_Nw (.methodLinkNest RX7 9 yX4_init "DatedJars") U ∧ va_Nw (.methodLinkNest RX7 29 yX6_init "DatedJars") U ∧ va_Nw (.methodLinkNest RX7 36 yX5_init "DatedJars") U ∧ va_Nw (.methodLinkNest RX7 43 yX2_init "DatedJars") U ∧ va_Nw (.methodLinkNest RX7 50 yX3_init "DatedJars") U ∧ va_Nw (.methodLinkNest RX7 57 yX0_init "DatedJars") U) ∧ va_AO "DatedJars$Land" U ∧ mg_AO U
theorem CtU.warm {s U : State} (h : CtU s) (hW : s.WarmedH U.vm) : CtU U := by
  obtain ⟨⟨a, b, c, d, e, f, g⟩, i, j⟩ := h
  exact ⟨⟨a.warmM hW, b.warmM hW, c.warmM hW, d.warmM hW, e.warmM hW, f.warmM hW, g.warmM hW⟩, i.moved hW.alike, j.moved hW.alike⟩
theorem CtU.same {u U : State} (h : CtU u) (hv : u.vm = U.vm) : CtU U := by
  obtain ⟨⟨a, b, c, d, e, f, g⟩, i, j⟩ := h
  have hal : u.vm.Alike U.vm := by rw [hv]; exact Vm.Alike.refl _
  exact ⟨⟨a.same rfl hv, b.same rfl hv, c.same rfl hv, d.same rfl hv, e.same rfl hv, f.same rfl hv, g.same rfl hv⟩, i.moved hal, j.moved hal⟩
abbrev iA (cy : Nat → ClassId) (N : Nat) : va_E := .inl (cy 1, N, .inl (fun _ => 0))
def ctPre (D : va_G) (cy : Nat → ClassId) (h0 sz : Nat) (e0 : va_E) : Array Value → State → Prop := va_Pc [.ref h0] (fun U => U.heap.size = sz ∧ va_P D vwCl [(h0, e0)] U.heap ∧ (va_K D vwCl (tysA cy) U ∧ CtU U) ∧ va_D (fun _ => True) [(h0, e0)])
def ctPost (D : va_G) (w : (Nat → Nat) → va_W) (h0 sz : Nat) (e0 : va_E) : Array Value → State → Outcome → State → Prop := va_Qv (fun u : Nat → Nat => u 0 = h0) (fun u t => va_P D vwCl (w u) t.heap ∧ va_D (va_A [(h0, e0)] sz) (w u)) (va_A [(h0, e0)] sz)
theorem ct_blind {D : va_G} {cy : Nat → ClassId} {h0 sz : Nat} {e0 : va_E} : FrameBlind (ctPre D cy h0 sz e0) := by
  intro a U g mk q
  obtain ⟨q0, q1, q2, ⟨q3, q4⟩, q5⟩ := q
  exact ⟨q0, q1, q2, ⟨va_K.moved (u := U) (U := U.calling g mk a) (Vm.Alike.refl U.vm) q3, q4.same rfl⟩, q5⟩
theorem ct_nd : ∀ n a : Nat, va_nd (List.range' a n) = true := by
  intro n
  induction n with
  | zero => intro a; rfl
  | succ n ih =>
    intro a
    rw [List.range'_succ]
    unfold va_nd
    simp [ih (a + 1)]
theorem arrV_cg {c0 : ClassId} {N : Nat} {f g : Nat → Value} (h : ∀ j, j < N → f j = g j) : arrV c0 N f = arrV c0 N g := by
  unfold arrV
  congr 2
  funext j
  exact h j.val j.isLt
theorem ct_lastP {D : va_G} {wr : va_W} {x : Nat × va_E} {H : Heap} (h : va_P D vwCl (wr ++ [x]) H) : va_P D vwCl [x] H := fun k y hk => by
  have hk0 : y = x := by simpa using List.mem_of_getElem? hk
  subst hk0
  exact h wr.length y (by simp)
theorem ct_lastD {A : Nat → Prop} {wr : va_W} {x : Nat × va_E} (_ : va_D A (wr ++ [x])) : va_D (fun _ => True) [x] := ⟨fun i j a b hi hj _ => by
  have h1 := (List.getElem?_eq_some_iff.mp hi).1
  have h2 := (List.getElem?_eq_some_iff.mp hj).1
  simp at h1 h2
  omega, fun _ _ _ => trivial⟩
section CTJ
variable {p : Program} {l : Launch} {e : Env} {R : Room} {s : State} {m : MethodId} {args : Array Value} {below : List Frame} {meth : Method} {c : Code} {H : Heap} {locs : List Loc} {cells slots : Nat} {Q : State → Prop}
variable {cc : ByteArray} {pc : Nat} {ls : Array Slot} {rest st0 : List Value} {D : va_G} {A : Nat → Prop} {cy : Nat → ClassId} {ws : va_W}
theorem ct_join {w : (Nat → Nat) → va_W} {wr : va_W} {q : Nat} {e0 : va_E} {mc ms : Nat} {a0 : Array Value} (hr : va_Run p l e R s m args below meth c H locs cells slots mc ms (F0 m pc ls st0) rest (ctPost D w q H.size e0 a0) (va_A [(q, e0)] H.size)) (hP : va_P D vwCl (wr ++ [(q, e0)]) H) (hD : va_D A (wr ++ [(q, e0)])) (hS : va_S A s.heap H locs) (hA : ∀ x, s.heap.size ≤ x → A x)
    (kk : ∀ (u : Nat → Nat) (H1 : Heap) (locs1 : List Loc), u 0 = q → va_P D vwCl (wr ++ w u) H1 → va_D A (wr ++ w u) → va_S A s.heap H1 locs1 → W p l e R s m args below meth c H1 locs1 (cells + mc) (slots + ms) Q (F0 m (pc + 3) ls rest)) : W p l e R s m args below meth c H locs cells slots Q (F0 m pc ls st0) := by
  have h1 : [wr.length].map (fun i => (wr ++ [(q, e0)])[i]?) = [(q, e0)].map some := by simp
  have h2 : (List.range' 0 wr.length).map (fun i => (wr ++ [(q, e0)])[i]?) = wr.map some := by
    apply List.ext_getElem?
    intro i
    rw [List.getElem?_map, List.getElem?_map]
    by_cases z : i < wr.length
    · have e1 : (List.range' 0 wr.length)[i]? = some i := by rw [List.getElem?_range' (by omega)]; simp
      rw [e1]
      show some ((wr ++ [(q, e0)])[i]?) = _
      rw [List.getElem?_append_left z, List.getElem?_eq_getElem z]
      rfl
    · rw [List.getElem?_eq_none (by simp; omega), List.getElem?_eq_none (by omega)]
      rfl
  have hF := va_free (wc := [(q, e0)]) hD hS hA [wr.length] h1
  refine va_callv hr hS (fun x _ h => hF x h) hF (fun u t H1 locs1 ht hvm hw hB hz1 hk1 hS1 => ?_)
  obtain ⟨hP1, hD1⟩ := hB
  rw [ht] at hP1
  obtain ⟨hP2, hD2⟩ := va_join (wr := wr) (w1 := w u) hP hD [wr.length] (List.range' 0 wr.length) h1 h2 (ct_nd _ _) (fun i hi => by
    have := List.mem_range'.mp hi
    simp
    omega) hk1 hF hP1 hD1
  exact kk u H1 locs1 hw hP2 hD2 hS1
/-- new int[N] -/
theorem ct_int (hx : p.tables.exec = Jvm.exec) (hb : c.code = cc) (harr : (Cond.arrayClass (newarray.typeOf .int)).before args s = true) (hK : va_K D vwCl (tysA cy) s) (hP : va_P D vwCl ws H) (hD : va_D A ws) (hS : va_S A s.heap H locs) (hA : ∀ q, s.heap.size ≤ q → A q) {n : Int32} {N : Nat} (hn : ¬ n < 0) (hN : n.toNatClampNeg = N) (hby : N * 4 ≤ 536870912) (hcells : cells + 1 ≤ R.cells) (hslots : slots + N ≤ R.slots) (hdg : decode cc pc = .ok (.newarray .int, 2))
    (kk : ∀ (q : Nat) (H1 : Heap), va_P D vwCl (ws ++ [(q, iA cy N)]) H1 → va_D A (ws ++ [(q, iA cy N)]) → va_S A s.heap H1 locs → W p l e R s m args below meth c H1 locs (cells + 1) (slots + N) Q (F0 m (pc + 2) ls (.ref q :: rest))) : W p l e R s m args below meth c H locs cells slots Q (F0 m pc ls (.int n :: rest)) := by
  refine va_newa (a0 := (N, .inl (fun _ => 0))) hx hb harr rfl hK hP hD hS hA (fun _ => rfl) hn hN hby hcells hslots hdg (fun q cA H1 hK1 hP1 hD1 hS1 => ?_)
  have e1 : cA = cy 1 := Option.some.inj (Eq.trans (Eq.symm (show s.vm.findClass ("[" ++ FieldType.int.toString) = some cA from (hK1.2 5 (cA, .int) rfl).2)) (show s.vm.findClass ("[" ++ FieldType.int.toString) = some (cy 1) from (hK.2 0 (cy 1, .int) rfl).2))
  subst e1
  exact kk q H1 hP1 hD1 hS1
theorem ct_byte (hx : p.tables.exec = Jvm.exec) (hb : c.code = cc) (harr : (Cond.arrayClass (newarray.typeOf .byte)).before args s = true) (hK : va_K D vwCl (tysA cy) s) (hP : va_P D vwCl ws H) (hD : va_D A ws) (hS : va_S A s.heap H locs) (hA : ∀ q, s.heap.size ≤ q → A q) {n : Int32} {N : Nat} (hn : ¬ n < 0) (hN : n.toNatClampNeg = N) (hby : N * 1 ≤ 536870912) (hcells : cells + 1 ≤ R.cells) (hslots : slots + N ≤ R.slots) (hdg : decode cc pc = .ok (.newarray .byte, 2))
    (kk : ∀ (q : Nat) (H1 : Heap), va_P D vwCl (ws ++ [(q, .inl (cy 2, N, .inl (fun _ => 0)))]) H1 → va_D A (ws ++ [(q, .inl (cy 2, N, .inl (fun _ => 0)))]) → va_S A s.heap H1 locs → W p l e R s m args below meth c H1 locs (cells + 1) (slots + N) Q (F0 m (pc + 2) ls (.ref q :: rest))) : W p l e R s m args below meth c H locs cells slots Q (F0 m pc ls (.int n :: rest)) := by
  refine va_newa (a0 := (N, .inl (fun _ => 0))) hx hb harr rfl hK hP hD hS hA (fun _ => rfl) hn hN hby hcells hslots hdg (fun q cA H1 hK1 hP1 hD1 hS1 => ?_)
  have e1 : cA = cy 2 := Option.some.inj (Eq.trans (Eq.symm (show s.vm.findClass ("[" ++ FieldType.byte.toString) = some cA from (hK1.2 5 (cA, .byte) rfl).2)) (show s.vm.findClass ("[" ++ FieldType.byte.toString) = some (cy 2) from (hK.2 1 (cy 2, .byte) rfl).2))
  subst e1
  exact kk q H1 hP1 hD1 hS1
theorem ct_bool (hx : p.tables.exec = Jvm.exec) (hb : c.code = cc) (harr : (Cond.arrayClass (newarray.typeOf .boolean)).before args s = true) (hK : va_K D vwCl (tysA cy) s) (hP : va_P D vwCl ws H) (hD : va_D A ws) (hS : va_S A s.heap H locs) (hA : ∀ q, s.heap.size ≤ q → A q) {n : Int32} {N : Nat} (hn : ¬ n < 0) (hN : n.toNatClampNeg = N) (hby : N * 1 ≤ 536870912) (hcells : cells + 1 ≤ R.cells) (hslots : slots + N ≤ R.slots) (hdg : decode cc pc = .ok (.newarray .boolean, 2))
    (kk : ∀ (q : Nat) (H1 : Heap), va_P D vwCl (ws ++ [(q, .inl (cy 3, N, .inl (fun _ => 0)))]) H1 → va_D A (ws ++ [(q, .inl (cy 3, N, .inl (fun _ => 0)))]) → va_S A s.heap H1 locs → W p l e R s m args below meth c H1 locs (cells + 1) (slots + N) Q (F0 m (pc + 2) ls (.ref q :: rest))) : W p l e R s m args below meth c H locs cells slots Q (F0 m pc ls (.int n :: rest)) := by
  refine va_newa (a0 := (N, .inl (fun _ => 0))) hx hb harr rfl hK hP hD hS hA (fun _ => rfl) hn hN hby hcells hslots hdg (fun q cA H1 hK1 hP1 hD1 hS1 => ?_)
  have e1 : cA = cy 3 := Option.some.inj (Eq.trans (Eq.symm (show s.vm.findClass ("[" ++ FieldType.boolean.toString) = some cA from (hK1.2 5 (cA, .boolean) rfl).2)) (show s.vm.findClass ("[" ++ FieldType.boolean.toString) = some (cy 3) from (hK.2 2 (cy 3, .boolean) rfl).2))
  subst e1
  exact kk q H1 hP1 hD1 hS1
abbrev qA (c0 : ClassId) (N : Nat) (f : Nat → Option Nat) : va_E := .inl (c0, N, .inr (.inr (.inr (.inr f))))
theorem ct_land (hx : p.tables.exec = Jvm.exec) (hb : c.code = cc) {own : String} {index : Nat} (hown : s.vm.findClass own = some m.cls) (hcl : (Cond.classLink own index "DatedJars$Land").before args s = true) (hover : va_AO "DatedJars$Land" s) (hK : va_K D vwCl (tysA cy) s) (hP : va_P D vwCl ws H) (hD : va_D A ws) (hS : va_S A s.heap H locs) (hA : ∀ q, s.heap.size ≤ q → A q) {n : Int32} {N : Nat} (hn : ¬ n < 0) (hN : n.toNatClampNeg = N) (hby : N * 4 ≤ 536870912) (hcells : cells + 1 ≤ R.cells) (hslots : slots + N ≤ R.slots) (hdg : decode cc pc = .ok (.anewarray index, 3))
    (kk : ∀ (q : Nat) (H1 : Heap), va_P D vwCl (ws ++ [(q, qA (cy 4) N (fun _ => none))]) H1 → va_D A (ws ++ [(q, qA (cy 4) N (fun _ => none))]) → va_S A s.heap H1 locs → W p l e R s m args below meth c H1 locs (cells + 1) (slots + N) Q (F0 m (pc + 3) ls (.ref q :: rest))) : W p l e R s m args below meth c H locs cells slots Q (F0 m pc ls (.int n :: rest)) := by
  refine va_newq hx hb hown hcl hover hK hP hD hS hA hn hN hby hcells hslots hdg (fun q cA H1 hK1 hP1 hD1 hS1 => ?_)
  obtain ⟨-, -, -, -, -, h1⟩ := (hK1.2 5 (cA, .object "DatedJars$Land") rfl).2
  obtain ⟨-, -, -, -, -, h2⟩ := (hK.2 3 (cy 4, .object "DatedJars$Land") rfl).2
  have e1 : cA = cy 4 := Option.some.inj (h1.symm.trans h2)
  subst e1
  exact kk q H1 hP1 hD1 hS1
/-- new int[N][M]: the rows lie behind the outer one -/
theorem ct_multi (hx : p.tables.exec = Jvm.exec) (hb : c.code = cc) {own : String} {index : Nat} (hown : s.vm.findClass own = some m.cls) (hcl : (Cond.classLink own index ("[" ++ (FieldType.array .int).toString)).before args s = true) (hover : mg_AO s) (harr : (Cond.arrayClass .int).before args s = true) (hK : va_K D vwCl (tysA cy) s) (hP : va_P D vwCl ws H) (hD : va_D A ws) (hS : va_S A s.heap H locs) (hA : ∀ q, s.heap.size ≤ q → A q) {n k : Int32} {N M : Nat} (hn : ¬ n < 0) (hk : ¬ k < 0) (hN : n.toNatClampNeg = N) (hM : k.toNatClampNeg = M) (hb1 : N * 4 ≤ 536870912) (hb2 : M * 4 ≤ 536870912) (hcells : cells + (1 + N) ≤ R.cells) (hslots : slots + (N + N * M) ≤ R.slots) (hdg : decode cc pc = .ok (.multianewarray index 2, 4))
    (kk : ∀ (q : Nat) (H1 : Heap), va_P D vwCl (ws ++ ((q, qA (cy 5) N (fun i => some (q + 1 + i))) :: (List.range N).map (fun i => (q + 1 + i, iA cy M)))) H1 → va_D A (ws ++ ((q, qA (cy 5) N (fun i => some (q + 1 + i))) :: (List.range N).map (fun i => (q + 1 + i, iA cy M)))) → va_S A s.heap H1 locs → W p l e R s m args below meth c H1 locs (cells + (1 + N)) (slots + (N + N * M)) Q (F0 m (pc + 4) ls (.ref q :: rest))) : W p l e R s m args below meth c H locs cells slots Q (F0 m pc ls (.int k :: .int n :: rest)) := by
  refine mg_W hx hb hown hcl hover harr hS.1 hn hk hN hM hb1 hb2 hcells hslots hdg (fun H1 cA cI hA1 hI1 hz hold hout hrow => ?_)
  have e1 : cI = cy 1 := Option.some.inj (hI1.symm.trans (show s.vm.findClass (FieldType.array .int).toString = some (cy 1) from (hK.2 0 (cy 1, .int) rfl).2))
  have e2 : cA = cy 5 := Option.some.inj (hA1.symm.trans (show s.vm.findClass ("[" ++ (FieldType.array .int).toString) = some (cy 5) from (hK.2 4 (cy 5, .array .int) rfl).2))
  subst e1 e2
  have hP0 : va_P D vwCl ws H1 := hP.kept (fun i x hi => hold x.1 (hP i x hi).lt)
  have key : ∀ x : Nat × va_E, x ∈ ((H.size, qA (cy 5) N (fun i => some (H.size + 1 + i))) :: (List.range N).map (fun i => (H.size + 1 + i, iA cy M))) → va_at D vwCl x H1 ∧ H.size ≤ x.1 := by
    intro x hx
    rcases List.mem_cons.mp hx with rfl | h
    · refine ⟨?_, Nat.le_refl _⟩
      show H1[H.size]? = some (vp_cell _ _)
      rw [hout]
      show _ = some (arrV (cy 5) N (fun j => va_rf (some (H.size + 1 + j))))
      rw [arrV_cg (g := fun j => va_rf (some (H.size + 1 + j))) (fun j hj => by unfold mg_f; rw [if_pos hj]; rfl)]
    · obtain ⟨i, hi, rfl⟩ := List.mem_map.mp h
      have hi := List.mem_range.mp hi
      exact ⟨hrow i hi, by dsimp only; omega⟩
  refine kk H.size H1 (hP0.app (fun i x hi => (key x (List.mem_of_getElem? hi)).1)) (hD.app ⟨fun i j x y hi hj exy => ?_, fun i x hi => hA _ (Nat.le_trans hS.1 (key x (List.mem_of_getElem? hi)).2)⟩ (fun i j x y hi hj exy => ?_)) ⟨by have := hS.1; omega, fun q h1 h2 => (hold q (Nat.lt_of_lt_of_le h1 hS.1)).trans (hS.2.1 q h1 h2), hS.2.2⟩
  · have ad : ∀ (i : Nat) (x : Nat × va_E), ((H.size, qA (cy 5) N (fun i => some (H.size + 1 + i))) :: (List.range N).map (fun i => (H.size + 1 + i, iA cy M)))[i]? = some x → x.1 = H.size + i := by
      intro i x hi
      cases i with
      | zero => simp at hi; rw [← hi]; rfl
      | succ i =>
        rw [List.getElem?_cons_succ, List.getElem?_map] at hi
        obtain ⟨z, hz, rfl⟩ := Option.map_eq_some_iff.mp hi
        have := List.getElem?_eq_some_iff.mp hz
        obtain ⟨h1, h2⟩ := this
        rw [List.getElem_range] at h2
        subst h2
        dsimp only
        omega
    have h1 := ad i x hi
    have h2 := ad j y hj
    omega
  · have h1 := (hP i x hi).lt
    have h2 := (key y (List.mem_of_getElem? hj)).2
    omega
end CTJ
