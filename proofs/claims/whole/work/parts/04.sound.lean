/-! ENGINE 3: soundness -/
def ilen (ins : Instr) (w : Nat) : Nat := match ins with
  | .iload _ => 2 | .aload _ => 2 | .lload _ => 2 | .istore _ => 2 | .astore _ => 2 | .bipush _ => 2 | .ldc _ => 2
  | .sipush _ => 3 | .iinc _ _ => 3 | .ldc_w _ => 3 | .ldc2_w _ => 3 | .goto _ => 3 | .ifCond _ _ => 3 | .if_icmp _ _ => 3 | .getfield _ => 3 | .putfield _ => 3 | .invokevirtual _ => 3 | .invokestatic _ => 3
  | .tableswitch _ _ _ _ => w
  | .lookupswitch _ _ => w
  | _ => 1
def TTx (w : Nat) : u_T := match w with
  | 0 => TX0 | 1 => TX1 | 2 => TX2 | 3 => TX3 | 4 => TX4 | 5 => TX5 | 6 => TX6 | 7 => TX7 | _ => TX8
def TYx (w : Nat) : Nat → FieldType := match w with
  | 0 => tyX0 | 1 => tyX1 | 2 => tyX2 | 3 => tyX3 | 4 => tyX4 | 5 => tyX5 | 6 => tyX6 | 7 => tyX7 | _ => tyX8
def NNx (w : Nat) : Nat := match w with
  | 0 => 3 | 1 => 8 | 2 => 8 | 3 => 4 | 4 => 12 | 5 => 8 | 6 => 6 | 7 => 10 | _ => 28
def RRx (w : Nat) : String := match w with
  | 0 => RX0 | 1 => RX1 | 2 => RX2 | 3 => RX3 | 4 => RX4 | 5 => RX5 | 6 => RX6 | 7 => RX7 | _ => RX8
theorem cl_at {w : Nat} (h : w < 9) : vwCl[w]? = some (RRx w, TTx w, NNx w) := by
  match w, h with
  | 0, _ => rfl | 1, _ => rfl | 2, _ => rfl | 3, _ => rfl | 4, _ => rfl | 5, _ => rfl | 6, _ => rfl | 7, _ => rfl | 8, _ => rfl
theorem ty_at {w : Nat} (h : w < 9) : ∀ k, k < NNx w → parseFieldDescriptor (TTx w k).2.2.1 = some (TYx w k) := by
  match w, h with
  | 0, _ => exact tyX0_ok | 1, _ => exact tyX1_ok | 2, _ => exact tyX2_ok | 3, _ => exact tyX3_ok | 4, _ => exact tyX4_ok | 5, _ => exact tyX5_ok | 6, _ => exact tyX6_ok | 7, _ => exact tyX7_ok | 8, _ => exact tyX8_ok
theorem nm_at {w : Nat} (h : w < 9) : ∀ a, a < NNx w → ∀ b, b < NNx w → a ≠ b → (TTx w a).2.1 ≠ (TTx w b).2.1 := by
  match w, h with
  | 0, _ => exact nmX0 | 1, _ => exact nmX1 | 2, _ => exact nmX2 | 3, _ => exact nmX3 | 4, _ => exact nmX4 | 5, _ => exact nmX5 | 6, _ => exact nmX6 | 7, _ => exact nmX7 | 8, _ => exact nmX8
def roomB (ms cm : MS) : Bool := Nat.ble (cm.2.2.2.2.frames + 1) ms.2.2.2.2.frames && Nat.ble (8 + (cm.2.2.1 + 11) + cm.2.2.2.2.locals) ms.2.2.2.2.locals
def parB (cm : MS) (n : Nat) : Bool := decide ((parseMethodDescriptor cm.1.desc).map (fun d => d.parameters.length) = some n)
def chkX (ms : MS) (ins : Instr) (x y w : Nat) (z : Int32) (zl : Int64) (cm : MS) (pc : Nat) : Bool := match ins with
  | .iload_n k => Nat.beq k.val y
  | .iload k => Nat.beq k y
  | .aload_n k => Nat.beq k.val y
  | .aload k => Nat.beq k y
  | .lload_n k => Nat.beq k.val y
  | .lload k => Nat.beq k y
  | .istore_n k => Nat.beq k.val y && Nat.ble (y + 1) ms.2.2.1
  | .istore k => Nat.beq k y && Nat.ble (y + 1) ms.2.2.1
  | .astore_n k => Nat.beq k.val y && Nat.ble (y + 1) ms.2.2.1
  | .astore k => Nat.beq k y && Nat.ble (y + 1) ms.2.2.1
  | .lstore_n k => Nat.beq k.val y && Nat.ble (y + 2) ms.2.2.1
  | .iinc k n => Nat.beq k y && Nat.ble (y + 1) ms.2.2.1 && decide (Int32.ofInt n = z)
  | .iconst n => decide (Int32.ofInt n = z)
  | .bipush n => decide ((Int8.ofInt n).toInt32 = z)
  | .sipush n => decide ((Int16.ofInt n).toInt32 = z)
  | .lconst n => decide (Int64.ofNat (n : Nat) = zl)
  | .ldc idx => bif Nat.beq w 97 then decide (ms.1.cls = "DatedJars$Reader") && Nat.ble (y + 1) 6 && Nat.beq (eg_idx.getD y 0) idx else decide (lw_tbl[x]? = some (.constant ms.1.cls idx z))
  | .ldc_w idx => decide (lw_tbl[x]? = some (.constant ms.1.cls idx z))
  | .ldc2_w idx => decide (lw_tbl[x]? = some (.constantLong ms.1.cls idx zl))
  | .goto off => decide ((pc : Int) + off = (x : Int))
  | .ifCond _ off => decide ((pc : Int) + off = (x : Int))
  | .if_icmp _ off => decide ((pc : Int) + off = (x : Int))
  | .tableswitch d lo hi offs => decide (0 ≤ (pc : Int) + d) && offs.toList.all (fun o => decide (0 ≤ (pc : Int) + o)) && decide (lo + offs.size = hi + 1)
  | .lookupswitch d ps => decide (0 ≤ (pc : Int) + d) && ps.toList.all (fun o => decide (0 ≤ (pc : Int) + o.2)) && (ps.toList.zip (ps.toList.drop 1)).all (fun (a, next) => a.1 < next.1)
  | .getfield idx => Nat.ble (w + 1) 9 && Nat.ble (y + 1) (NNx w) && decide (lw_tbl[x]? = some (.fieldLink ms.1.cls idx (TTx w y).1 (TTx w y).2.1 (TTx w y).2.2.1))
  | .putfield idx => Nat.ble (w + 1) 9 && Nat.ble (y + 1) (NNx w) && decide (lw_tbl[x]? = some (.fieldLink ms.1.cls idx (TTx w y).1 (TTx w y).2.1 (TTx w y).2.2.1)) && !(TTx w y).2.2.2 && decide (TYx w y = bif Nat.beq w 6 && Nat.beq y 5 then .boolean else .int)
  | .invokevirtual idx => decide (lw_tbl[x]? = some (.methodLink ms.1.cls idx cm.1)) && Nat.ble 1 y && parB cm (y - 1) && roomB ms cm && !stB cm.1 && (bif Nat.beq w 99 then decide (cm.1.cls = "java/lang/String") else Nat.ble (w + 1) 9 && decide (RRx w = cm.1.cls))
  | .invokestatic idx => bif Nat.beq w 98 then decide (lw_tbl[x]? = some (.methodLink ms.1.cls idx arraycopyName)) && Nat.ble 1 ms.2.2.2.2.frames && Nat.ble 26 ms.2.2.2.2.locals else bif Nat.beq w 96 then decide (lw_tbl[x]? = some (.methodLink ms.1.cls idx Lib.Math.min.name)) && Nat.ble 1 ms.2.2.2.2.frames && Nat.ble 21 ms.2.2.2.2.locals else bif Nat.beq w 95 then decide (lw_tbl[x]? = some (.methodLink ms.1.cls idx Lib.Math.max.name)) && Nat.ble 1 ms.2.2.2.2.frames && Nat.ble 21 ms.2.2.2.2.locals else decide (lw_tbl[x]? = some (.methodLink ms.1.cls idx cm.1)) && parB cm y && roomB ms cm && stB cm.1
  | _ => true
def chkE (ms : MS) (pc : Nat) (e : En) : Bool := match e with
  | (ins, npc, x, y, w, z, zl, cm) => decide (decode ms.2.1 pc = .ok (ins, ilen ins w)) && Nat.beq npc (pc + ilen ins w) && chkX ms ins x y w z zl cm pc
def chkC (ms : MS) (cd : Cd) : Bool := cd.all fun q => q.2.all fun r => chkE ms r.1 r.2
theorem fnd1_mem {pc : Nat} : ∀ {l : List (Nat × En)} {e : En}, fnd1 pc l = some e → (pc, e) ∈ l
  | [], e, h => by simp [fnd1] at h
  | (k, u) :: t, e, h => by
    unfold fnd1 at h
    cases hb : Nat.beq k pc with
    | true =>
      rw [hb] at h
      have e1 : k = pc := Nat.eq_of_beq_eq_true hb
      have e2 : u = e := by simpa using h
      subst e1; subst e2
      exact List.mem_cons_self
    | false =>
      rw [hb] at h
      exact List.mem_cons_of_mem _ (fnd1_mem (by simpa using h))
theorem fnd2_chk {ms : MS} {pc : Nat} : ∀ {cd : Cd} {e : En}, chkC ms cd = true → fnd2 pc cd = some e → chkE ms pc e = true
  | [], e, _, h => by simp [fnd2] at h
  | (u, l) :: t, e, hc, h => by
    unfold fnd2 at h
    have hc2 := List.all_eq_true.mp hc
    cases hb : Nat.ble pc u with
    | true =>
      rw [hb] at h
      exact List.all_eq_true.mp (hc2 (u, l) List.mem_cons_self) (pc, e) (fnd1_mem (by simpa using h))
    | false =>
      rw [hb] at h
      exact fnd2_chk (List.all_eq_true.mpr fun q hq => hc2 q (List.mem_cons_of_mem _ hq)) (by simpa using h)
theorem StrU.at {ad : Nat → Nat} {s U : State} {H : Heap} {locs : List Loc} (h : StrU ad s s.heap) (hS : va_S (AA ad) s.heap H locs) (hU : U.heap = H) (hW : s.WarmedH U.vm) : StrU ad U U.heap := by
  obtain ⟨⟨adV, h1⟩, h2, h3⟩ := h
  have hq : ∀ a : Nat, a < s.heap.size → ¬ AA ad a → U.heap[a]? = s.heap[a]? := fun a h4 h5 => by rw [hU]; exact hS.2.1 a h4 h5
  exact ⟨⟨adV, (h1.kept hq).moved hW.alike⟩, (h2.kept hq).moved hW.alike, fun i hi => (h3 i hi).warm hW⟩
theorem eg_blind {D : va_G} {ad : Nat → Nat} {cy : Nat → ClassId} {σ : Sg} {av : List Value} : FrameBlind (va_Pc av (fun U => GdU D ad cy U ∧ va_P D vwCl (cellsA ad cy σ) U.heap)) := by
  intro a U g mk q
  obtain ⟨q0, ⟨qK, ⟨⟨adV, q1⟩, q2, q3⟩, qI⟩, qP⟩ := q
  exact ⟨q0, ⟨va_K.moved (u := U) (U := U.calling g mk a) (Vm.Alike.refl U.vm) qK, ⟨⟨adV, vk_S.moved (u := U) (U := U.calling g mk a) (Vm.Alike.refl U.vm) q1⟩, va_Z.moved (u := U) (U := U.calling g mk a) (Vm.Alike.refl U.vm) q2, fun i hi => vk_R.same (u := U) (U := U.calling g mk a) rfl (q3 i hi)⟩, qI⟩, qP⟩
section EGC
variable {p : Program} {l : Launch} {e : Env} {R : Room} {s : State} {m : MethodId} {args : Array Value} {below : List Frame} {meth : Method} {c : Code} {H : Heap} {locs : List Loc} {Q : State → Prop}
theorem eg_call {pc : Nat} {ls : Array Slot} {rest st0 : List Value} {a : Array Value} {D : va_G} {ad : Nat → Nat} {cy : Nat → ClassId} {R1 : Option Value → Sg → Prop}
    (hr : va_Run p l e R s m args below meth c H locs 0 0 0 0 (F0 m pc ls st0) rest (QQ D ad cy R1 a) (AA ad)) (hS : va_S (AA ad) s.heap H locs)
    (kk : ∀ (v : Option Value) (σ' : Sg) (H1 : Heap) (locs1 : List Loc), R1 v σ' → va_P D vwCl (cellsA ad cy σ') H1 → va_S (AA ad) s.heap H1 locs1 → W p l e R s m args below meth c H1 locs1 0 0 Q (F0 m (pc + 3) ls ((v.map (eg_cv ad)).toList ++ rest))) : W p l e R s m args below meth c H locs 0 0 Q (F0 m pc ls st0) := by
  intro T hT X
  obtain ⟨v, st₀, t, T', L, h0, X', hL, e1, e2, ⟨⟨v1, σ', hv, hp, hb⟩, hz, hk⟩, st⟩ := hr T hT X
  cases hv
  rw [h0] at hz hk
  obtain ⟨t2, a1, b1⟩ := kk v1 σ' T'.heap (locs ++ L) hp (by rw [e1]; exact hb)
    ⟨Nat.le_trans hS.1 (by rw [e1]; exact hz), fun q h1 h2 => by rw [e1, hk q (Nat.lt_of_lt_of_le h1 hS.1) h2]; exact hS.2.1 q h1 h2, fun q hq => by
      rcases List.mem_append.mp hq with h | h
      · exact hS.2.2 q h
      · exact hL q h⟩ T' rfl X'
  exact ⟨t2, st t2 a1, b1⟩
end EGC
theorem lc_args (ad : Nat → Nat) : ∀ (av : List Value) (i : Nat), lv_args i (av.map (eg_cv ad)) = eg_lc ad (lv_args i av)
  | [], _ => rfl
  | v :: t, i => by
    simp only [List.map_cons, lv_args, eg_cv_cat, lc_args ad t, eg_lc]
theorem sl_len (ad : Nat → Nat) : ∀ (av : List Value), (lg_sl (av.map (eg_cv ad))).length = (lg_sl av).length
  | [] => rfl
  | v :: t => by
    have := sl_len ad t
    simp only [lg_sl] at this
    simp only [lg_sl, List.map_cons, List.flatMap_cons, eg_cv_cat, List.length_append, this]
    split <;> rfl
theorem MetA_of {ms : MS} {av : List Value} {σ : Sg} {R : Option Value → Sg → Prop} (hok : OkM ms) (hlen : (lg_sl av).length ≤ ms.2.2.1) (h : V ms 0 (lv_args 0 av) [] σ R) : MetA ms av σ R := by
  refine ⟨hok, fun l D ad cy => ?_⟩
  refine Met.ofW (cc := ms.2.1) (maxL := ms.2.2.1) (ret := ms.2.2.2.1) hok.2.2.2.1 rfl ?_
  intro p e s m args below meth c s₁ B hml hv
  obtain ⟨rfl, hG, hP⟩ := hv
  have hts := atoms_spec (ws := wsM ms) B.pre
  rw [lg_entry_eq]
  have hl := lv_entry (av.map (eg_cv ad)) (n := ms.2.2.1) (by rw [sl_len]; exact hlen)
  rw [lc_args] at hl
  exact h p l e s m _ below meth c D ad cy ⟨B.exec, B.bytes, B.returns, hml, findClass_of_methodNamed B.named, fun w hw => hts w (List.mem_cons_of_mem _ hw), B.notSynchronized, hG.1, hG.2.1, hG.2.2⟩ s.heap [] _ hP va_S.rf hl
theorem MetA.mono {ms : MS} {av : List Value} {σ : Sg} {R R' : Option Value → Sg → Prop} (h : MetA ms av σ R) (hR : ∀ v σ', R v σ' → R' v σ') : MetA ms av σ R' := by
  refine ⟨h.1, fun l D ad cy => ?_⟩
  have hM := h.2 l D ad cy
  intro p e ha hc hk s m args below hf happ hpre hcl
  obtain ⟨k, o, h1, h2, h3, ⟨⟨v, σ', hv, hr, hP⟩, hF⟩, hL⟩ := hM p e ha hc hk s m args below hf happ hpre hcl
  exact ⟨k, o, h1, h2, h3, ⟨⟨v, σ', hv, hR v σ' hr, hP⟩, hF⟩, hL⟩
theorem V.mono {ms : MS} {pc : Nat} {lv : Lv} {st : List Value} {σ : Sg} {R R' : Option Value → Sg → Prop} (h : V ms pc lv st σ R) (hR : ∀ v σ', R v σ' → R' v σ') : V ms pc lv st σ R' := by
  intro p l e s m args below meth c D ad cy C H locs ls hP hS hl T hT X
  obtain ⟨t, h1, o, h2, h3, ⟨⟨v, σ', hv, hr, hP2⟩, hF⟩, hL⟩ := h p l e s m args below meth c D ad cy C H locs ls hP hS hl T hT X
  exact ⟨t, h1, o, h2, h3, ⟨⟨v, σ', hv, hR v σ' hr, hP2⟩, hF⟩, hL⟩
theorem V.sub {ms : MS} {pc : Nat} {lv lv' : Lv} {st : List Value} {σ : Sg} {R : Option Value → Sg → Prop} (hs : ∀ q ∈ lv', q ∈ lv) (h : V ms pc lv' st σ R) : V ms pc lv st σ R := by
  intro p l e s m args below meth c D ad cy C H locs ls hP hS hl
  refine h p l e s m args below meth c D ad cy C H locs ls hP hS (hl.of fun q hq => ?_)
  obtain ⟨q0, h0, rfl⟩ := List.mem_map.mp hq
  exact List.mem_map.mpr ⟨q0, hs q0 h0, rfl⟩
