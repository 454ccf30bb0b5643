/-! new int[N][M]: the outer row, then the inner ones, each stored as it is made -/
section MG
variable {E : CtlPost} {e : Env} {d : Bool} {acts : List Action} {S : State}
theorem mg_row {c0 comp : ClassId} {k0 : Class} {ty : FieldType} {n : Nat} {v : Value} {Q : Addr → Pre} (hk : S.vm.classes[c0]? = some k0) (hkind : k0.kind = .array comp ty) (h1 : n ≤ e.platform.arrayLengthLimit) (h2 : n * componentBytes ty ≤ e.platform.maxHeapBytes) (hf : fits ty v = true) (hc : S.heap.size < e.platform.maxCells) (hs : S.slotsUsed + n ≤ e.platform.maxSlots) (hq : ∀ acts', Q S.heap.size d acts' (S.pushCell (arrV c0 n (fun _ => v)))) : wp (newArray c0 n v) Q E e d acts S := by
  have hfit : ∀ (i : Nat) (w : Value), (Array.replicate n v)[i]? = some w → S.fitsSlot c0 .none i w = true := by
    intro i w hw
    have e1 : w = v := by
      rw [Array.getElem?_replicate] at hw
      split at hw
      · exact (Option.some.inj hw).symm
      · cases hw
    subst e1
    simp [State.fitsSlot, State.slotType?, hk, hkind, hf]
  have hq := hq (allocActs (Array.replicate n v) S.heap.size acts)
  rw [← arrV_new] at hq
  have n1 : ¬ n > e.platform.arrayLengthLimit := Nat.not_lt.mpr h1
  have n2 : ¬ n * componentBytes ty > e.platform.maxHeapBytes := Nat.not_lt.mpr h2
  have n3 : ¬ n > e.platform.maxSlots := by omega
  unfold newArray arrayFits
  simp only [wp_bind', W.ask, W.ite, wp_pure', W.theClass, W.alloc, W.stop, if_neg n1]
  refine ⟨k0, hk, ?_⟩
  simp only [hkind, wp_bind', W.ask, W.ite, wp_pure', W.alloc, if_neg n2, if_neg n3]
  exact ⟨hc, by rw [Array.size_replicate]; exact hs, hfit, hq⟩
end MG
def mg_f (h i : Nat) : Nat → Value := fun j => if j < i then .ref (h + 1 + j) else .null
theorem mg_f0 {h : Nat} : mg_f h 0 = fun _ => .null := by
  funext j
  unfold mg_f
  rw [if_neg (by omega)]
theorem mg_fs {h i : Nat} : updV (mg_f h i) i (.ref (h + 1 + i)) = mg_f h (i + 1) := by
  funext j
  unfold updV mg_f
  by_cases q : j = i
  · subst q
    rw [if_pos rfl, if_pos (by omega)]
  · rw [if_neg q]
    by_cases z : j < i
    · rw [if_pos z, if_pos (by omega)]
    · rw [if_neg z, if_neg (by omega)]
section MGL
variable {p : Program} {l : Launch} {e : Env} {R : Room} {s : State} {m : MethodId} {args : Array Value} {below : List Frame} {meth : Method} {c : Code} {locs : List Loc} {cells slots : Nat}
/-- i of the inner rows are there -/
def mg_S (p : Program) (l : Launch) (e : Env) (R : Room) (s : State) (m : MethodId) (args : Array Value) (below : List Frame) (meth : Method) (c : Code) (locs : List Loc) (cells slots : Nat) (H : Heap) (vm₁ : Vm) (cA cI : ClassId) (N M i : Nat) (T : State) : Prop :=
  T.heap.size = H.size + 1 + i ∧ T.heap[H.size]? = some (arrV cA N (mg_f H.size i)) ∧ (∀ j, j < i → T.heap[H.size + 1 + j]? = some (arrV cI M (fun _ => .int 0))) ∧ (∀ q, q < H.size → T.heap[q]? = H[q]?) ∧ T.vm = vm₁ ∧ ∃ L : List Loc, (∀ x ∈ L, x.base = H.size) ∧ Stand p l e R s m args below meth c T (locs ++ L) (cells + (1 + i)) (slots + (N + i * M))
theorem mg_loop {H : Heap} {vm₁ : Vm} {cA cI cc : ClassId} {kA kI : Class} {N M : Nat} {k : Int32} {b : Nat → PUnit → Sem (ForInStep PUnit)} (hvA : vm₁.classes[cA]? = some kA) (hkA : kA.kind = .array cI (.array .int)) (hvI : vm₁.classes[cI]? = some kI) (hkI : kI.kind = .array cc .int) (hk : ¬ k < 0) (hM : k.toNatClampNeg = M) (hlim : M ≤ e.platform.arrayLengthLimit) (hby : M * 4 ≤ e.platform.maxHeapBytes) (hcells : cells + (1 + N) ≤ R.cells) (hslots : slots + (N + N * M) ≤ R.slots)
    (hb : ∀ i r, b i r = (do let a ← Op.multianewarray.make cI [k]; writeLoc H.size i (.ref a); Pure.pure (ForInStep.yield PUnit.unit))) :
    ∀ (j i : Nat) (T : State), i + j = N → mg_S p l e R s m args below meth c locs cells slots H vm₁ cA cI N M i T → ∃ T', mg_S p l e R s m args below meth c locs cells slots H vm₁ cA cI N M N T' ∧ ∀ (E : CtlPost) (f : JFrame) (Q : PUnit → Pre) (d : Bool) (acts : List Action), (∀ d' acts', Q PUnit.unit d' acts' (T'.setTop f)) → wp (forIn (List.range' i j 1) PUnit.unit b) Q E e d acts (T.setTop f) := by
  intro j
  induction j with
  | zero =>
    intro i T hi hT
    have hi : i = N := by omega
    subst hi
    refine ⟨T, hT, fun E f Q d acts hq => ?_⟩
    simp only [List.range'_zero, List.forIn_nil, wp_pure']
    exact hq _ _
  | succ j ih =>
    intro i T hi hT
    obtain ⟨t1, t2, t3, t4, t5, L, t6, X⟩ := hT
    have hmul : (i + 1) * M ≤ N * M := Nat.mul_le_mul_right M (by omega)
    have hmul2 : (i + 1) * M = i * M + M := Nat.succ_mul i M
    obtain ⟨r1, r2⟩ := X.roomAbove (a := 1) (b := M) (by omega) (by omega)
    have hlt : H.size < T.heap.size := by omega
    have hcell : (T.pushCell (arrV cI M (fun _ => .int 0))).heap[H.size]? = some (arrV cA N (mg_f H.size i)) := by
      show (T.heap.push _)[H.size]? = _
      rw [Array.getElem?_push, if_neg (by omega)]; exact t2
    have X2 := (X.pushed (arrV cI M (fun _ => .int 0))).stored hcell i (.ref (H.size + 1 + i))
    rw [arrV_size, arrV_store, mg_fs] at X2
    have hnew : mg_S p l e R s m args below meth c locs cells slots H vm₁ cA cI N M (i + 1) ((T.pushCell (arrV cI M (fun _ => .int 0))).setCell H.size (arrV cA N (mg_f H.size (i + 1)))) := by
      refine ⟨?_, ?_, fun q hq => ?_, fun q hq => ?_, t5, L ++ [⟨H.size, i⟩], fun x hx => ?_, ?_⟩
      · show ((T.heap.push _).setIfInBounds _ _).size = _
        rw [Array.size_setIfInBounds, Array.size_push]; omega
      · show ((T.heap.push _).setIfInBounds _ _)[H.size]? = _
        rw [Array.getElem?_setIfInBounds_self_of_lt (by rw [Array.size_push]; omega)]
      · show ((T.heap.push _).setIfInBounds _ _)[H.size + 1 + q]? = _
        rw [Array.getElem?_setIfInBounds_ne (by omega), Array.getElem?_push]
        by_cases z : q = i
        · subst z; rw [if_pos (by omega)]
        · rw [if_neg (by omega)]; exact t3 q (by omega)
      · show ((T.heap.push _).setIfInBounds _ _)[q]? = _
        rw [Array.getElem?_setIfInBounds_ne (by omega), Array.getElem?_push, if_neg (by omega)]
        exact t4 q hq
      · rcases List.mem_append.mp hx with z | z
        · exact t6 x z
        · rw [List.mem_singleton.mp z]
      · rw [← List.append_assoc]
        have e1 : cells + (1 + i) + 1 = cells + (1 + (i + 1)) := by omega
        have e2 : slots + (N + i * M) + M = slots + (N + (i + 1) * M) := by omega
        rw [e1, e2] at X2
        exact X2
    obtain ⟨T', h1, h2⟩ := ih (i + 1) _ (by omega) hnew
    refine ⟨T', h1, fun E f Q d acts hq => ?_⟩
    rw [List.range'_succ]
    simp only [List.forIn_cons, wp_bind', hb]
    rw [Op.multianewarray.make]
    simp only [wp_bind', W.ite, if_neg hk, wp_pure', W.theClass]
    refine ⟨kI, by show T.vm.classes[cI]? = _; rw [t5]; exact hvI, ?_⟩
    simp only [hkI]
    refine mg_row (k0 := kI) (comp := cc) (ty := .int) (by show T.vm.classes[cI]? = _; rw [t5]; exact hvI) hkI (by rw [hM]; exact hlim) (by rw [hM]; exact hby) rfl (by show T.heap.size < _; omega) (by show T.slotsUsed + _ ≤ _; rw [hM]; exact r2) (fun acts' => ?_)
    rw [hM]
    simp only [W.writeLoc, wp_bind', wp_pure']
    refine ⟨arrV cA N (mg_f H.size i), hcell, by simp [arrV], by rw [arrV_size]; omega, ?_, ?_⟩
    · show State.fitsSlot _ cA .none i _ = true
      simp [State.fitsSlot, State.slotType?, t5, hvA, hkA]
      rfl
    · rw [arrV_store]
      have e3 : (T.setTop f).heap.size = H.size + 1 + i := t1
      rw [e3, mg_fs]
      exact h2 E f Q _ _ hq
end MGL
theorem mg_over {args : Array Value} {first s : State} {o : Option Outcome} {idx : List Nat} (h : (Cond.arrayOver (.array .int)).holds args first o s idx = true) : ∃ (cI cA : ClassId) (kA : Class), s.vm.findClass (FieldType.array .int).toString = some cI ∧ s.vm.classes[cA]? = some kA ∧ kA.kind = .array cI (.array .int) ∧ s.vm.findClass ("[" ++ (FieldType.array .int).toString) = some cA := by
  simp only [Cond.holds, Cond.value, beq_iff_eq] at h
  cases hI : s.vm.findClass (FieldType.array .int).toString with
  | none => rw [hI] at h; simp at h
  | some cI =>
    rw [hI] at h
    simp only [Option.bind_some, Option.bind_eq_some_iff, Option.map_eq_some_iff] at h
    obtain ⟨cA, hA, kA, hkA, hc⟩ := h
    have hf := Array.findIdx?_eq_some_iff_getElem.mp hA
    obtain ⟨hlt, hq, -⟩ := hf
    rw [(Array.getElem?_eq_some_iff.mp hkA).2] at hq
    cases hkind : kA.kind with
    | array cmp ty =>
      rw [hkind] at hc hq
      simp only [Bool.and_eq_true, beq_iff_eq, decide_eq_true_eq] at hc hq
      exact ⟨cI, cA, kA, rfl, hkA, by rw [hkind, hq, hc.1], hc.2⟩
    | _ => rw [hkind] at hc; simp at hc
section MGW
variable {p : Program} {l : Launch} {e : Env} {R : Room} {s : State} {m : MethodId} {args : Array Value} {below : List Frame} {meth : Method} {c : Code} {H : Heap} {locs : List Loc} {cells slots : Nat} {Q : State → Prop}
set_option maxHeartbeats 1000000 in
theorem mg_W {cc : ByteArray} {pc : Nat} {ls : Array Slot} {rest : List Value} (hexec : p.tables.exec = Jvm.exec) (hb : c.code = cc) {own : String} {index : Nat} (hown : s.vm.findClass own = some m.cls) (hclink : (Cond.classLink own index ("[" ++ (FieldType.array .int).toString)).before args s = true) (hover : (Cond.arrayOver (.array .int)).before args s = true) (harr : (Cond.arrayClass .int).before args s = true) (hsz : s.heap.size ≤ H.size)
    {n k : Int32} {N M : Nat} (hn : ¬ n < 0) (hk : ¬ k < 0) (hN : n.toNatClampNeg = N) (hM : k.toNatClampNeg = M) (hb1 : N * 4 ≤ 536870912) (hb2 : M * 4 ≤ 536870912) (hcells : cells + (1 + N) ≤ R.cells) (hslots : slots + (N + N * M) ≤ R.slots) (hdg : decode cc pc = .ok (.multianewarray index 2, 4))
    (kk : ∀ (H1 : Heap) (cA cI : ClassId), s.vm.findClass ("[" ++ (FieldType.array .int).toString) = some cA → s.vm.findClass (FieldType.array .int).toString = some cI → H1.size = H.size + 1 + N → (∀ q, q < H.size → H1[q]? = H[q]?) → H1[H.size]? = some (arrV cA N (mg_f H.size N)) → (∀ j, j < N → H1[H.size + 1 + j]? = some (arrV cI M (fun _ => .int 0))) → W p l e R s m args below meth c H1 locs (cells + (1 + N)) (slots + (N + N * M)) Q (F0 m (pc + 4) ls (.ref H.size :: rest))) : W p l e R s m args below meth c H locs cells slots Q (F0 m pc ls (.int k :: .int n :: rest)) := by
  intro T hT X
  subst hb
  have hpl : e.platform.magicAccessors = ({} : Platform).magicAccessors := by rw [X.admits.platform]
  obtain ⟨cI, cA, kA, hI, hkA, hkindA, hA⟩ := mg_over hover
  obtain ⟨cI2, kI, cc, hI2, hkI, hkindI⟩ := Cond.arrayClass_spec harr
  have e1 : cI2 = cI := Option.some.inj (hI2.symm.trans hI)
  subst e1
  obtain ⟨c0, hc0, hcl⟩ := Cond.classLink_spec hown hclink e.platform hpl
  have e2 : c0 = cA := Option.some.inj (hc0.symm.trans hA)
  subst e2
  obtain ⟨g1, g2, g3⟩ := State.classEntry (e := e) X.warmed hcl
  generalize T.vm.noted m.cls index (.cls c0) = vm₁ at g1 g2 g3
  have hal : s.vm.Alike vm₁ := g2.alike
  obtain ⟨kA1, hkA1, eA⟩ := hal.2.2 _ _ hkA
  obtain ⟨kI1, hkI1, eI⟩ := hal.2.2 _ _ hkI
  have qA : kA1.kind = .array cI2 (.array .int) := by rw [eA]; exact hkindA
  have qI : kI1.kind = .array cc .int := by rw [eI]; exact hkindI
  have hl1 : N ≤ e.platform.arrayLengthLimit := by rw [Launch.admits_arrayLengthLimit X.admits]; omega
  have hl2 : M ≤ e.platform.arrayLengthLimit := by rw [Launch.admits_arrayLengthLimit X.admits]; omega
  have hh1 : N * 4 ≤ e.platform.maxHeapBytes := by rw [Launch.admits_maxHeapBytes X.admits]; omega
  have hh2 : M * 4 ≤ e.platform.maxHeapBytes := by rw [Launch.admits_maxHeapBytes X.admits]; omega
  obtain ⟨r1, r2⟩ := X.roomAbove (a := 1 + N) (b := N + N * M) hcells hslots
  have X1 := X.noted g2
  have X2 := X1.pushed (arrV c0 N (fun _ => .null))
  rw [arrV_size] at X2
  have h0 : mg_S p l e R s m args below meth c locs cells slots H vm₁ c0 cI2 N M 0 ((T.setVm vm₁).pushCell (arrV c0 N (fun _ => .null))) := by
    refine ⟨?_, ?_, fun q hq => by omega, fun q hq => ?_, rfl, [], (fun x hx => (by cases hx)), ?_⟩
    · show (T.heap.push _).size = _
      rw [Array.size_push, hT]
    · show (T.heap.push _)[H.size]? = _
      rw [hT, Array.getElem?_push_size, mg_f0]
    · show (T.heap.push _)[q]? = _
      rw [hT, Array.getElem?_push, if_neg (by omega)]
    · rw [List.append_nil]
      have z1 : slots + (N + 0 * M) = slots + N := by omega
      rw [z1]
      exact X2
  obtain ⟨T', hT', hwp⟩ := mg_loop (b := fun i _ => (do let a ← Op.multianewarray.make cI2 [k]; writeLoc H.size i (.ref a); Pure.pure (ForInStep.yield PUnit.unit))) hkA1 qA hkI1 qI hk hM hl2 hh2 hcells hslots (fun _ _ => rfl) N 0 _ (by omega) h0
  obtain ⟨u1, u2, u3, u4, u5, L, u6, X3⟩ := hT'
  have X4 := Stand.forget X3 (fun y hy => by rw [u6 y hy]; exact hsz)
  obtain ⟨t, a1, b1⟩ := kk T'.heap c0 cI2 hA hI u1 u4 u2 u3 T' rfl X4
  refine ⟨t, ?_, b1⟩
  have hst : (F0 m pc ls (.int k :: .int n :: rest)).stack = .int k :: .int n :: rest := rfl
  jvm_step X.here [hexec, hdg]
  have hrs : ∀ {Q9 : ClassId → Pre} {E9 : CtlPost} {d9 : Bool} {acts9 : List Action}, wp (Jvm.resolveClassAt index) Q9 E9 e d9 acts9 (T.setTop (F0 m pc ls (.int k :: .int n :: rest))) ↔ Q9 c0 d9 acts9 ((T.setTop (F0 m pc ls (.int k :: .int n :: rest))).setVm vm₁) := fun {Q9 E9 d9 acts9} => W.resolveClassAt_links (t := T.setTop (F0 m pc ls (.int k :: .int n :: rest))) (mm := m) (vm' := vm₁) (State.method?_setTop (F0 m pc ls (.int k :: .int n :: rest)) X.here.top) g1
  simp only [Op.multianewarray.sem, wp_bind', hrs]
  rw [W.popN, if_neg (by decide)]
  refine ⟨F0 m pc ls (.int k :: .int n :: rest), State.topJava?_setTop' (s := T.setVm vm₁) _ X.here.top, [.int n, .int k], rest, rfl, rfl, ?_⟩
  simp only [List.mapM_cons, List.mapM_nil, wp_bind', wp_pure']
  rw [Op.multianewarray.make]
  simp only [wp_bind', W.ite, if_neg hn, wp_pure', W.theClass]
  refine ⟨kA1, hkA1, ?_⟩
  simp only [qA, wp_bind']
  refine mg_row (k0 := kA1) (comp := cI2) (ty := .array .int) hkA1 qA (by rw [hN]; exact hl1) (by rw [hN]; exact hh1) rfl (by show T.heap.size < _; omega) (by show T.slotsUsed + _ ≤ _; rw [hN]; omega) (fun acts' => ?_)
  rw [hN]
  have hfd : [k].find? (fun x => decide (x < 0)) = none := by simp [hk]
  simp only [hfd, wp_bind', W.ite, wp_pure', ite_self]
  have ez : (((T.setTop (F0 m pc ls (.int k :: .int n :: rest))).setVm vm₁).setTop { method := m, pc := pc, locals := ls, stack := rest, locked := none }).heap.size = H.size := by
    show T.heap.size = _
    rw [hT]
  have eS : (((T.setTop (F0 m pc ls (.int k :: .int n :: rest))).setVm vm₁).setTop { method := m, pc := pc, locals := ls, stack := rest, locked := none }).pushCell (arrV c0 N fun _ => Value.null) = ((T.setVm vm₁).pushCell (arrV c0 N fun _ => Value.null)).setTop { method := m, pc := pc, locals := ls, stack := rest, locked := none } := by
    show (((T.setVm vm₁).setTop (F0 m pc ls (.int k :: .int n :: rest))).setTop _).pushCell _ = _
    rw [State.setTop_setTop]
    rfl
  rw [ez, eS, Std.Legacy.Range.forIn_eq_forIn_range']
  have hr9 : ([:N] : Std.Legacy.Range).size = N := by simp [Std.Legacy.Range.size]
  rw [hr9]
  refine hwp _ _ _ _ _ (fun d' acts2 => ?_)
  simp only [wp_bind', wp_pure', W.mark, W.pushRef, State.topJava?_setTop' _ X4.here.top, Option.some.injEq, exists_eq_left', State.setTop_setTop]
  intro acts3
  simp [jvm, X4.here.top]
  exact a1
end MGW
