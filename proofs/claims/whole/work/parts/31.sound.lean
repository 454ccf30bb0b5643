/-! ENGINE 4: soundness -/
theorem fnd1_mem {pc : Nat} : ∀ {l : List (Nat × En)} {e : En}, fnd1 pc l = some e → (pc, e) ∈ l
  | [], e, h => by simp [fnd1] at h
  | (k, u) :: t, e, h => by
    unfold fnd1 at h
    cases hb : Nat.beq k pc with
    | true =>
      rw [hb] at h
      have e1 : k = pc := Nat.eq_of_beq_eq_true hb
      have e2 : u = e := by simpa using h
      subst e1; subst e2
      exact List.mem_cons_self
    | false =>
      rw [hb] at h
      exact List.mem_cons_of_mem _ (fnd1_mem (by simpa using h))
theorem fnd2_chk {ms : MS} {pc : Nat} : ∀ {cd : Cd} {e : En}, chkC ms cd = true → fnd2 pc cd = some e → chkE ms pc e = true
  | [], e, _, h => by simp [fnd2] at h
  | (u, l) :: t, e, hc, h => by
    unfold fnd2 at h
    have hc2 := List.all_eq_true.mp hc
    cases hb : Nat.ble pc u with
    | true =>
      rw [hb] at h
      exact List.all_eq_true.mp (hc2 (u, l) List.mem_cons_self) (pc, e) (fnd1_mem (by simpa using h))
    | false =>
      rw [hb] at h
      exact fnd2_chk (List.all_eq_true.mpr fun q hq => hc2 q (List.mem_cons_of_mem _ hq)) (by simpa using h)
theorem StrU.at {ad : Nat → Nat} {s U : State} {H : Heap} {locs : List Loc} (h : StrU ad s s.heap) (hS : va_S (AA ad) s.heap H locs) (hU : U.heap = H) (hW : s.WarmedH U.vm) : StrU ad U U.heap := by
  obtain ⟨⟨adV, h1⟩, h2, h3, h6⟩ := h
  have hq : ∀ a : Nat, a < s.heap.size → ¬ AA ad a → U.heap[a]? = s.heap[a]? := fun a h4 h5 => by rw [hU]; exact hS.2.1 a h4 h5
  exact ⟨⟨adV, (h1.kept hq).moved hW.alike⟩, (h2.kept hq).moved hW.alike, fun i hi => (h3 i hi).warm hW, (h6.kept hq).moved hW.alike⟩
theorem eg_blind {D : va_G} {ad : Nat → Nat} {cy : Nat → ClassId} {σ : Sg} {av : List Value} : FrameBlind (va_Pc av (fun U => GdU D ad cy U ∧ va_P D vwCl (cellsA ad cy σ) U.heap)) := by
  intro a U g mk q
  obtain ⟨q0, ⟨qK, ⟨⟨adV, q1⟩, q2, q3, q4⟩, qI⟩, qP⟩ := q
  exact ⟨q0, ⟨va_K.moved (u := U) (U := U.calling g mk a) (Vm.Alike.refl U.vm) qK, ⟨⟨adV, vk_S.moved (u := U) (U := U.calling g mk a) (Vm.Alike.refl U.vm) q1⟩, va_Z.moved (u := U) (U := U.calling g mk a) (Vm.Alike.refl U.vm) q2, fun i hi => vk_R.same (u := U) (U := U.calling g mk a) rfl (q3 i hi), va_Zq.moved (u := U) (U := U.calling g mk a) (Vm.Alike.refl U.vm) q4⟩, qI⟩, qP⟩
section EGC
variable {p : Program} {l : Launch} {e : Env} {R : Room} {s : State} {m : MethodId} {args : Array Value} {below : List Frame} {meth : Method} {c : Code} {H : Heap} {locs : List Loc} {cells slots : Nat} {Q : State → Prop}
theorem eg_call {pc : Nat} {ls : Array Slot} {rest st0 : List Value} {a : Array Value} {D : va_G} {ad : Nat → Nat} {cy : Nat → ClassId} {R1 : Option Value → Sg → Prop}
    (hr : va_Run p l e R s m args below meth c H locs cells slots 0 0 (F0 m pc ls st0) rest (QQ D ad cy R1 a) (AA ad)) (hS : va_S (AA ad) s.heap H locs)
    (kk : ∀ (v : Option Value) (σ' : Sg) (H1 : Heap) (locs1 : List Loc), R1 v σ' → va_P D vwCl (cellsA ad cy σ') H1 → va_S (AA ad) s.heap H1 locs1 → W p l e R s m args below meth c H1 locs1 cells slots Q (F0 m (pc + 3) ls ((v.map (eg_cv ad)).toList ++ rest))) : W p l e R s m args below meth c H locs cells slots Q (F0 m pc ls st0) := by
  intro T hT X
  obtain ⟨v, st₀, t, T', L, h0, X', hL, e1, e2, ⟨⟨v1, σ', hv, hp, hb⟩, hz, hk⟩, st⟩ := hr T hT X
  cases hv
  rw [h0] at hz hk
  obtain ⟨t2, a1, b1⟩ := kk v1 σ' T'.heap (locs ++ L) hp (by rw [e1]; exact hb)
    ⟨Nat.le_trans hS.1 (by rw [e1]; exact hz), fun q h1 h2 => by rw [e1, hk q (Nat.lt_of_lt_of_le h1 hS.1) h2]; exact hS.2.1 q h1 h2, fun q hq => by
      rcases List.mem_append.mp hq with h | h
      · exact hS.2.2 q h
      · exact hL q h⟩ T' rfl X'
  exact ⟨t2, st t2 a1, b1⟩
end EGC
theorem lc_args (ad : Nat → Nat) : ∀ (av : List Value) (i : Nat), lv_args i (av.map (eg_cv ad)) = eg_lc ad (lv_args i av)
  | [], _ => rfl
  | v :: t, i => by
    simp only [List.map_cons, lv_args, eg_cv_cat, lc_args ad t, eg_lc]
theorem sl_len (ad : Nat → Nat) : ∀ (av : List Value), (lg_sl (av.map (eg_cv ad))).length = (lg_sl av).length
  | [] => rfl
  | v :: t => by
    have := sl_len ad t
    simp only [lg_sl] at this
    simp only [lg_sl, List.map_cons, List.flatMap_cons, eg_cv_cat, List.length_append, this]
    split <;> rfl
theorem MetA_of {ms : MS} {av : List Value} {σ : Sg} {R : Option Value → Sg → Prop} (hok : OkM ms) (hlen : (lg_sl av).length ≤ ms.2.2.1) (h : V ms 0 (lv_args 0 av) [] σ R) : MetA ms av σ R := by
  refine ⟨hok, fun l D ad cy => ?_⟩
  refine Met.ofW (cc := ms.2.1) (maxL := ms.2.2.1) (ret := ms.2.2.2.1) hok.2.2.2.1 rfl ?_
  intro p e s m args below meth c s₁ B hml hv
  obtain ⟨rfl, hG, hP⟩ := hv
  have hts := atoms_spec (ws := wsM ms) B.pre
  rw [lg_entry_eq]
  have hl := lv_entry (av.map (eg_cv ad)) (n := ms.2.2.1) (by rw [sl_len]; exact hlen)
  rw [lc_args] at hl
  exact h p l e s m _ below meth c D ad cy ⟨B.exec, B.bytes, B.returns, hml, findClass_of_methodNamed B.named, fun w hw => hts w (List.mem_cons_of_mem _ hw), B.notSynchronized, hG.1, hG.2.1, hG.2.2⟩ s.heap [] _ hP va_S.rf hl
theorem MetA.mono {ms : MS} {av : List Value} {σ : Sg} {R R' : Option Value → Sg → Prop} (h : MetA ms av σ R) (hR : ∀ v σ', R v σ' → R' v σ') : MetA ms av σ R' := by
  refine ⟨h.1, fun l D ad cy => ?_⟩
  have hM := h.2 l D ad cy
  intro p e ha hc hk s m args below hf happ hpre hcl
  obtain ⟨k, o, h1, h2, h3, ⟨⟨v, σ', hv, hr, hP⟩, hF⟩, hL⟩ := hM p e ha hc hk s m args below hf happ hpre hcl
  exact ⟨k, o, h1, h2, h3, ⟨⟨v, σ', hv, hR v σ' hr, hP⟩, hF⟩, hL⟩
theorem V.mono {ms : MS} {pc : Nat} {lv : Lv} {st : List Value} {σ : Sg} {R R' : Option Value → Sg → Prop} (h : V ms pc lv st σ R) (hR : ∀ v σ', R v σ' → R' v σ') : V ms pc lv st σ R' := by
  intro p l e s m args below meth c D ad cy C H locs ls hP hS hl T hT X
  obtain ⟨t, h1, o, h2, h3, ⟨⟨v, σ', hv, hr, hP2⟩, hF⟩, hL⟩ := h p l e s m args below meth c D ad cy C H locs ls hP hS hl T hT X
  exact ⟨t, h1, o, h2, h3, ⟨⟨v, σ', hv, hR v σ' hr, hP2⟩, hF⟩, hL⟩
theorem V.sub {ms : MS} {pc : Nat} {lv lv' : Lv} {st : List Value} {σ : Sg} {R : Option Value → Sg → Prop} (hs : ∀ q ∈ lv', q ∈ lv) (h : V ms pc lv' st σ R) : V ms pc lv st σ R := by
  intro p l e s m args below meth c D ad cy C H locs ls hP hS hl
  refine h p l e s m args below meth c D ad cy C H locs ls hP hS (hl.of fun q hq => ?_)
  obtain ⟨q0, h0, rfl⟩ := List.mem_map.mp hq
  exact List.mem_map.mpr ⟨q0, hs q0 h0, rfl⟩
