/-! String.length and String.charAt of the six words -/
def mJ_coder : MS := (yJ0_coder_7d493, cJ0_coder_7d493, 1, (some .byte), { frames := 0, cells := 0, slots := 0, locals := 0 })
def mJ_isLatin1 : MS := (yJ0_isLatin1_aae02, cJ0_isLatin1_aae02, 1, (some .boolean), { frames := 0, cells := 0, slots := 0, locals := 0 })
def mJ_lat : MS := (yJ1_charAt_3b067, cJ1_charAt_3b067, 2, (some .char), { frames := 2, cells := 0, slots := 0, locals := 43 })
def mJ_chk : MS := (yJ0_checkIndex_df160, cJ0_checkIndex_df160, 2, none, { frames := 1, cells := 0, slots := 0, locals := 22 })
def mJ_chk3 : MS := (yJ3_checkIndex_8e157, cJ3_checkIndex_8e157, 3, (some .int), { frames := 0, cells := 0, slots := 0, locals := 0 })
theorem qJ_coder : OkM mJ_coder := ⟨(Gd_in (i := 409) (by decide +kernel) (by decide +kernel)), (Gd_in (i := 74) (by decide +kernel) (by decide +kernel)), ⟨fun _ => ⟨(Gd_in (i := 407) (by decide +kernel) (by decide +kernel)), (Gd_in (i := 408) (by decide +kernel) (by decide +kernel))⟩, fun h => absurd h (by decide +kernel)⟩, by decide +kernel, ⟨by decide +kernel, by decide +kernel⟩, rfl, rfl⟩
theorem qJ_isLatin1 : OkM mJ_isLatin1 := ⟨(Gd_in (i := 419) (by decide +kernel) (by decide +kernel)), (Gd_in (i := 74) (by decide +kernel) (by decide +kernel)), ⟨fun _ => ⟨(Gd_in (i := 417) (by decide +kernel) (by decide +kernel)), (Gd_in (i := 418) (by decide +kernel) (by decide +kernel))⟩, fun h => absurd h (by decide +kernel)⟩, by decide +kernel, ⟨by decide +kernel, by decide +kernel⟩, rfl, rfl⟩
theorem dJ_coder_0 : decode cJ0_coder_7d493 0 = .ok (.getstatic 38, 3) := by decide +kernel
theorem dJ_coder_3 : decode cJ0_coder_7d493 3 = .ok (.ifCond .eq 10, 3) := by decide +kernel
theorem dJ_coder_6 : decode cJ0_coder_7d493 6 = .ok (.aload_n 0, 1) := by decide +kernel
theorem dJ_coder_7 : decode cJ0_coder_7d493 7 = .ok (.getfield 15, 3) := by decide +kernel
theorem dJ_coder_10 : decode cJ0_coder_7d493 10 = .ok (.goto 4, 3) := by decide +kernel
theorem dJ_coder_13 : decode cJ0_coder_7d493 13 = .ok (.iconst 1, 1) := by decide +kernel
theorem dJ_coder_14 : decode cJ0_coder_7d493 14 = .ok (.ireturn, 1) := by decide +kernel
theorem dJ_isLatin1_0 : decode cJ0_isLatin1_aae02 0 = .ok (.getstatic 38, 3) := by decide +kernel
theorem dJ_isLatin1_3 : decode cJ0_isLatin1_aae02 3 = .ok (.ifCond .eq 14, 3) := by decide +kernel
theorem dJ_isLatin1_6 : decode cJ0_isLatin1_aae02 6 = .ok (.aload_n 0, 1) := by decide +kernel
theorem dJ_isLatin1_7 : decode cJ0_isLatin1_aae02 7 = .ok (.getfield 15, 3) := by decide +kernel
theorem dJ_isLatin1_10 : decode cJ0_isLatin1_aae02 10 = .ok (.ifCond .ne 7, 3) := by decide +kernel
theorem dJ_isLatin1_13 : decode cJ0_isLatin1_aae02 13 = .ok (.iconst 1, 1) := by decide +kernel
theorem dJ_isLatin1_14 : decode cJ0_isLatin1_aae02 14 = .ok (.goto 4, 3) := by decide +kernel
theorem dJ_isLatin1_17 : decode cJ0_isLatin1_aae02 17 = .ok (.iconst 0, 1) := by decide +kernel
theorem dJ_isLatin1_18 : decode cJ0_isLatin1_aae02 18 = .ok (.ireturn, 1) := by decide +kernel
theorem dJ_lat_0 : decode cJ1_charAt_3b067 0 = .ok (.iload_n 1, 1) := by decide +kernel
theorem dJ_lat_1 : decode cJ1_charAt_3b067 1 = .ok (.aload_n 0, 1) := by decide +kernel
theorem dJ_lat_2 : decode cJ1_charAt_3b067 2 = .ok (.arraylength, 1) := by decide +kernel
theorem dJ_lat_3 : decode cJ1_charAt_3b067 3 = .ok (.invokestatic 9, 3) := by decide +kernel
theorem dJ_lat_6 : decode cJ1_charAt_3b067 6 = .ok (.aload_n 0, 1) := by decide +kernel
theorem dJ_lat_7 : decode cJ1_charAt_3b067 7 = .ok (.iload_n 1, 1) := by decide +kernel
theorem dJ_lat_8 : decode cJ1_charAt_3b067 8 = .ok (.baload, 1) := by decide +kernel
theorem dJ_lat_9 : decode cJ1_charAt_3b067 9 = .ok (.sipush 255, 3) := by decide +kernel
theorem dJ_lat_12 : decode cJ1_charAt_3b067 12 = .ok (.iand, 1) := by decide +kernel
theorem dJ_lat_13 : decode cJ1_charAt_3b067 13 = .ok (.i2c, 1) := by decide +kernel
theorem dJ_lat_14 : decode cJ1_charAt_3b067 14 = .ok (.ireturn, 1) := by decide +kernel
theorem dJ_chk_0 : decode cJ0_checkIndex_df160 0 = .ok (.iload_n 0, 1) := by decide +kernel
theorem dJ_chk_1 : decode cJ0_checkIndex_df160 1 = .ok (.iload_n 1, 1) := by decide +kernel
theorem dJ_chk_2 : decode cJ0_checkIndex_df160 2 = .ok (.getstatic 1053, 3) := by decide +kernel
theorem dJ_chk_5 : decode cJ0_checkIndex_df160 5 = .ok (.invokestatic 1059, 3) := by decide +kernel
theorem dJ_chk_8 : decode cJ0_checkIndex_df160 8 = .ok (.pop, 1) := by decide +kernel
theorem dJ_chk_9 : decode cJ0_checkIndex_df160 9 = .ok (.return_, 1) := by decide +kernel
theorem dJ_chk3_0 : decode cJ3_checkIndex_8e157 0 = .ok (.iload_n 0, 1) := by decide +kernel
theorem dJ_chk3_1 : decode cJ3_checkIndex_8e157 1 = .ok (.ifCond .lt 8, 3) := by decide +kernel
theorem dJ_chk3_4 : decode cJ3_checkIndex_8e157 4 = .ok (.iload_n 0, 1) := by decide +kernel
theorem dJ_chk3_5 : decode cJ3_checkIndex_8e157 5 = .ok (.iload_n 1, 1) := by decide +kernel
theorem dJ_chk3_6 : decode cJ3_checkIndex_8e157 6 = .ok (.if_icmp .lt 10, 3) := by decide +kernel
theorem dJ_chk3_9 : decode cJ3_checkIndex_8e157 9 = .ok (.aload_n 2, 1) := by decide +kernel
theorem dJ_chk3_10 : decode cJ3_checkIndex_8e157 10 = .ok (.iload_n 0, 1) := by decide +kernel
theorem dJ_chk3_11 : decode cJ3_checkIndex_8e157 11 = .ok (.iload_n 1, 1) := by decide +kernel
theorem dJ_chk3_12 : decode cJ3_checkIndex_8e157 12 = .ok (.invokestatic 95, 3) := by decide +kernel
theorem dJ_chk3_15 : decode cJ3_checkIndex_8e157 15 = .ok (.athrow, 1) := by decide +kernel
theorem dJ_chk3_16 : decode cJ3_checkIndex_8e157 16 = .ok (.iload_n 0, 1) := by decide +kernel
theorem dJ_chk3_17 : decode cJ3_checkIndex_8e157 17 = .ok (.ireturn, 1) := by decide +kernel
theorem dJ_length_0 : decode cJ0_length_8abf5 0 = .ok (.aload_n 0, 1) := by decide +kernel
theorem dJ_length_1 : decode cJ0_length_8abf5 1 = .ok (.getfield 9, 3) := by decide +kernel
theorem dJ_length_4 : decode cJ0_length_8abf5 4 = .ok (.arraylength, 1) := by decide +kernel
theorem dJ_length_5 : decode cJ0_length_8abf5 5 = .ok (.aload_n 0, 1) := by decide +kernel
theorem dJ_length_6 : decode cJ0_length_8abf5 6 = .ok (.invokevirtual 335, 3) := by decide +kernel
theorem dJ_length_9 : decode cJ0_length_8abf5 9 = .ok (.ishr, 1) := by decide +kernel
theorem dJ_length_10 : decode cJ0_length_8abf5 10 = .ok (.ireturn, 1) := by decide +kernel
theorem dJ_charAt_0 : decode cJ0_charAt_5068e 0 = .ok (.aload_n 0, 1) := by decide +kernel
theorem dJ_charAt_1 : decode cJ0_charAt_5068e 1 = .ok (.invokevirtual 492, 3) := by decide +kernel
theorem dJ_charAt_4 : decode cJ0_charAt_5068e 4 = .ok (.ifCond .eq 12, 3) := by decide +kernel
theorem dJ_charAt_7 : decode cJ0_charAt_5068e 7 = .ok (.aload_n 0, 1) := by decide +kernel
theorem dJ_charAt_8 : decode cJ0_charAt_5068e 8 = .ok (.getfield 9, 3) := by decide +kernel
theorem dJ_charAt_11 : decode cJ0_charAt_5068e 11 = .ok (.iload_n 1, 1) := by decide +kernel
theorem dJ_charAt_12 : decode cJ0_charAt_5068e 12 = .ok (.invokestatic 495, 3) := by decide +kernel
theorem dJ_charAt_15 : decode cJ0_charAt_5068e 15 = .ok (.ireturn, 1) := by decide +kernel
theorem dJ_charAt_16 : decode cJ0_charAt_5068e 16 = .ok (.aload_n 0, 1) := by decide +kernel
theorem dJ_charAt_17 : decode cJ0_charAt_5068e 17 = .ok (.getfield 9, 3) := by decide +kernel
theorem dJ_charAt_20 : decode cJ0_charAt_5068e 20 = .ok (.iload_n 1, 1) := by decide +kernel
theorem dJ_charAt_21 : decode cJ0_charAt_5068e 21 = .ok (.invokestatic 498, 3) := by decide +kernel
theorem dJ_charAt_24 : decode cJ0_charAt_5068e 24 = .ok (.ireturn, 1) := by decide +kernel
theorem MetR_of {ms : MS} {l : Launch} {D : va_G} {ad : Nat → Nat} {cy : Nat → ClassId} {σ : Sg} {av : List Value} {P : State → Prop} {R : Option Value → Sg → Prop} (hpl : plainName ms.1.cls = true) (hlen : (lg_sl av).length ≤ ms.2.2.1)
    (h : ∀ (p : Program) (e : Env) (s : State) (m : MethodId) (args : Array Value) (below : List Frame) (meth : Method) (c : Code), Cx ms p s m args meth c D ad cy → P s → va_P D vwCl (cellsA ad cy σ) s.heap → ∀ ls : Array Slot, lv_has ls ms.2.2.1 (lv_args 0 av) → W p l e ms.2.2.2.2 s m args below meth c s.heap [] 0 0 (MQ below (QQ D ad cy R) args s 0 0 (AA ad)) (F0 m 0 ls [])) :
    Met l ms.1 (wsM ms) ms.2.2.2.2 (va_Pc av (fun U => GdU D ad cy U ∧ va_P D vwCl (cellsA ad cy σ) U.heap ∧ P U)) (QQ D ad cy R) 0 0 (AA ad) := by
  refine Met.ofW (cc := ms.2.1) (maxL := ms.2.2.1) (ret := ms.2.2.2.1) hpl rfl ?_
  intro p e s m args below meth c s₁ B hml hv
  obtain ⟨rfl, hG, hP, hPP⟩ := hv
  have hts := atoms_spec (ws := wsM ms) B.pre
  rw [lg_entry_eq]
  have hl := lv_entry av (n := ms.2.2.1) hlen
  exact h p e s m _ below meth c ⟨B.exec, B.bytes, B.returns, hml, findClass_of_methodNamed B.named, fun w hw => hts w (List.mem_cons_of_mem _ hw), B.notSynchronized, hG.1, hG.2.1, hG.2.2⟩ hPP hP _ hl
theorem eg_blindR {D : va_G} {ad : Nat → Nat} {cy : Nat → ClassId} {σ : Sg} {av : List Value} {P : State → Prop} (hb : ∀ a (U : State) g mk, P U → P (U.calling g mk a)) : FrameBlind (va_Pc av (fun U => GdU D ad cy U ∧ va_P D vwCl (cellsA ad cy σ) U.heap ∧ P U)) := by
  intro a U g mk q
  obtain ⟨q0, q1, q2, q3⟩ := q
  subst q0
  obtain ⟨qK, ⟨⟨adV, w1⟩, w2, w3, w4⟩, qI⟩ := q1
  exact ⟨rfl, ⟨va_K.moved (u := U) (U := U.calling g mk av.toArray) (Vm.Alike.refl U.vm) qK, ⟨⟨adV, vk_S.moved (u := U) (U := U.calling g mk av.toArray) (Vm.Alike.refl U.vm) w1⟩, va_Z.moved (u := U) (U := U.calling g mk av.toArray) (Vm.Alike.refl U.vm) w2, fun i hi => vk_R.same (u := U) (U := U.calling g mk av.toArray) rfl (w3 i hi), va_Zq.moved (u := U) (U := U.calling g mk av.toArray) (Vm.Alike.refl U.vm) w4⟩, qI⟩, q2, hb _ U g mk q3⟩
theorem s_coder {σ : Sg} {i : Nat} {Q : Option Value → Sg → Prop} (hi : i < 6) (h : Q (some (.int 0)) σ) : MetA mJ_coder [.ref (1000 + i)] σ Q := by
  refine MetA_of qJ_coder (Nat.le_of_ble_eq_true rfl) ?_
  intro p l e s m args below meth c D ad cy C H locs ls hP hS hl
  obtain ⟨hx, hb, hr, hml, hown, hts, hlocks, hK, ⟨⟨adV, hstr⟩, hz, hR, hZq⟩, hI⟩ := C
  have hl : lv_has ls 1 [(0, .ref (ad (1000 + i)))] := hl
  refine va_gets (index := 38) hx hb hz hS hown (hts _ (Gd_in (i := 410) (by decide +kernel) (by decide +kernel))) (fun _ q => q) dJ_coder_0 ?_
  refine lv_if_eq (tgt := 13) hx hb dJ_coder_3 (by decide) (fun q => absurd q (by decide)) (fun _ => ?_)
  refine lv_aload_n hx hb dJ_coder_6 rfl (lv_at hl 0 rfl) ?_
  refine vk_getf hx hb (hstr.1 i hi).2.1 hS hown (hts _ (Gd_in (i := 1203) (by decide +kernel) (by decide +kernel))) (fun _ q => q) dJ_coder_7 ?_
  refine lv_goto (tgt := 14) hx hb dJ_coder_10 (by decide) ?_
  exact W.zret (v := 0) (ty := .byte) hx hb hr (by decide) (fun t ht hW => ⟨⟨some (.int 0), σ, rfl, h, by rw [ht]; exact hP⟩, hS.F ht⟩) hS.2.2 dJ_coder_14 (hlocks := hlocks)
theorem s_isLatin1 {σ : Sg} {i : Nat} {Q : Option Value → Sg → Prop} (hi : i < 6) (h : Q (some (.int 1)) σ) : MetA mJ_isLatin1 [.ref (1000 + i)] σ Q := by
  refine MetA_of qJ_isLatin1 (Nat.le_of_ble_eq_true rfl) ?_
  intro p l e s m args below meth c D ad cy C H locs ls hP hS hl
  obtain ⟨hx, hb, hr, hml, hown, hts, hlocks, hK, ⟨⟨adV, hstr⟩, hz, hR, hZq⟩, hI⟩ := C
  have hl : lv_has ls 1 [(0, .ref (ad (1000 + i)))] := hl
  refine va_gets (index := 38) hx hb hz hS hown (hts _ (Gd_in (i := 410) (by decide +kernel) (by decide +kernel))) (fun _ q => q) dJ_isLatin1_0 ?_
  refine lv_if_eq (tgt := 17) hx hb dJ_isLatin1_3 (by decide) (fun q => absurd q (by decide)) (fun _ => ?_)
  refine lv_aload_n hx hb dJ_isLatin1_6 rfl (lv_at hl 0 rfl) ?_
  refine vk_getf hx hb (hstr.1 i hi).2.1 hS hown (hts _ (Gd_in (i := 1203) (by decide +kernel) (by decide +kernel))) (fun _ q => q) dJ_isLatin1_7 ?_
  refine lv_if_ne (tgt := 17) hx hb dJ_isLatin1_10 (by decide) (fun q => absurd rfl q) (fun _ => ?_)
  refine lv_iconst (v := 1) hx hb dJ_isLatin1_13 (by decide) ?_
  refine lv_goto (tgt := 18) hx hb dJ_isLatin1_14 (by decide) ?_
  exact W.zret (v := 1) (ty := .boolean) hx hb hr (by decide) (fun t ht hW => ⟨⟨some (.int 1), σ, rfl, h, by rw [ht]; exact hP⟩, hS.F ht⟩) hS.2.2 dJ_isLatin1_18 (hlocks := hlocks)
/-- Preconditions.checkIndex, of an index that is in -/
theorem s_chk3 {l : Launch} {D : va_G} {ad : Nat → Nat} {cy : Nat → ClassId} {σ : Sg} {k N : Nat} {v : Value} (hk : k < N) (hN : N < 2 ^ 31) (hv : v = .null ∨ ∃ t, v = .ref t) : Met l mJ_chk3.1 (wsM mJ_chk3) mJ_chk3.2.2.2.2 (va_Pc [.int (nI k), .int (nI N), v] (fun U => GdU D ad cy U ∧ va_P D vwCl (cellsA ad cy σ) U.heap ∧ True)) (QQ D ad cy (fun v σ' => v = some (.int (nI k)) ∧ σ' = σ)) 0 0 (AA ad) := by
  refine MetR_of (P := fun _ => True) (by decide +kernel) (by rcases hv with rfl | ⟨t, rfl⟩ <;> exact Nat.le_of_ble_eq_true rfl) ?_
  intro p e s m args below meth c C _ hP ls hl
  obtain ⟨hx, hb, hr, hml, hown, hts, hlocks, hK, -, hI⟩ := C
  have hS : va_S (AA ad) s.heap s.heap [] := va_S.rf
  have hl : lv_has ls 3 [(0, .int (nI k)), (1, .int (nI N)), (2, v)] := hl
  refine lv_iload_n hx hb dJ_chk3_0 rfl (lv_at hl 0 rfl) ?_
  refine lv_if_lt (tgt := 9) hx hb dJ_chk3_1 (by decide) (fun q => absurd q (nI_pos (by omega))) (fun _ => ?_)
  refine lv_iload_n hx hb dJ_chk3_4 rfl (lv_at hl 0 rfl) ?_
  refine lv_iload_n hx hb dJ_chk3_5 rfl (lv_at hl 1 rfl) ?_
  refine lv_icmp_lt (tgt := 16) hx hb dJ_chk3_6 (by decide) (fun _ => ?_) (fun q => absurd (nI_lt hk hN) q)
  refine lv_iload_n hx hb dJ_chk3_16 rfl (lv_at hl 0 rfl) ?_
  exact W.iret (v := nI k) hx hb hr (fun t ht hW => ⟨⟨some (.int (nI k)), σ, rfl, ⟨rfl, rfl⟩, by rw [ht]; exact hP⟩, hS.F ht⟩) hS.2.2 dJ_chk3_17 (hlocks := hlocks)
theorem eg_wsG {ms : MS} (h : Cond.code ms.1 ms.2.1 ms.2.2.1 ms.2.2.2.1 ∈ Gd) : GoodIn Gd (wsM ms) := fun w hw => by
  rcases List.mem_cons.mp hw with rfl | h2
  · exact Gd_good _ h
  · exact Gd_good _ h2
/-- String.checkIndex -/
theorem s_chk {l : Launch} {D : va_G} {ad : Nat → Nat} {cy : Nat → ClassId} {σ : Sg} {k N : Nat} (hk : k < N) (hN : N < 2 ^ 31) : Met l mJ_chk.1 (wsM mJ_chk) mJ_chk.2.2.2.2 (va_Pc [.int (nI k), .int (nI N)] (fun U => GdU D ad cy U ∧ va_P D vwCl (cellsA ad cy σ) U.heap ∧ True)) (QQ D ad cy (fun v σ' => v = none ∧ σ' = σ)) 0 0 (AA ad) := by
  refine MetR_of (P := fun _ => True) (by decide +kernel) (Nat.le_of_ble_eq_true rfl) ?_
  intro p e s m args below meth c C _ hP ls hl
  obtain ⟨hx, hb, hr, hml, hown, hts, hlocks, hK, hStr, hI⟩ := C
  have hS : va_S (AA ad) s.heap s.heap [] := va_S.rf
  have hl : lv_has ls 2 [(0, .int (nI k)), (1, .int (nI N))] := hl
  refine lv_iload_n hx hb dJ_chk_0 rfl (lv_at hl 0 rfl) ?_
  refine lv_iload_n hx hb dJ_chk_1 rfl (lv_at hl 1 rfl) ?_
  have go : ∀ v : Value, (v = .null ∨ ∃ t, v = .ref t) → va_Z "jdk/internal/util/Preconditions" "SIOOBE_FORMATTER" "Ljava/util/function/BiFunction;" v (AA ad) s s.heap → W p l e mJ_chk.2.2.2.2 s m args below meth c s.heap [] 0 0 (MQ below (QQ D ad cy (fun v σ' => v = none ∧ σ' = σ)) args s 0 0 (AA ad)) (F0 m 2 ls [.int (nI N), .int (nI k)]) := by
    intro v hv hz
    refine va_gets (index := 1053) hx hb hz hS hown (hts _ (Gd_in (i := 426) (by decide +kernel) (by decide +kernel))) (fun _ q => q) dJ_chk_2 ?_
    refine eg_call (va_runS (As := [.int (nI k), .int (nI N), v]) (rest := []) (n := 3) (nL := 2) (Ts := Gd) (own := "java/lang/String") ⟨hx, hb, hml, hown, hts⟩ (s_chk3 (l := l) (D := D) (ad := ad) (cy := cy) (σ := σ) hk hN hv) ⟨callB_of 3 hts (eg_wsG (Gd_in (i := 430) (by decide +kernel) (by decide +kernel))) rfl rfl rfl (hts _ (Gd_in (i := 76) (by decide +kernel) (by decide +kernel))) (hts _ (Gd_in (i := 428) (by decide +kernel) (by decide +kernel))) ⟨by decide +kernel, by decide +kernel, by decide +kernel⟩ ⟨Nat.le_of_ble_eq_true rfl, Nat.le_of_ble_eq_true rfl⟩, hts _ (Gd_in (i := 429) (by decide +kernel) (by decide +kernel))⟩ ⟨eg_blindR (fun _ _ _ _ _ => trivial), fun U hU hW => ⟨rfl, ⟨va_K.moved hW.alike hK, hStr.at hS hU hW, hI⟩, by rw [hU]; exact hP, trivial⟩⟩ rfl rfl hl.1 rfl (lv_room (Nat.le_of_ble_eq_true rfl)) dJ_chk_5 ⟨Nat.zero_le _, Nat.zero_le _⟩) hS (fun v2 σ' H1 locs1 hR1 hP1 hS1 => ?_)
    obtain ⟨rfl, rfl⟩ := hR1
    refine lv_pop (va := .int (nI k)) hx hb dJ_chk_8 rfl ?_
    exact W.vret hx hb hr (fun t ht hW => ⟨⟨none, σ', rfl, ⟨rfl, rfl⟩, by rw [ht]; exact hP1⟩, hS1.F ht⟩) hS1.2.2 dJ_chk_9 (hlocks := hlocks)
  rcases hStr.2.2.2 with hz | ⟨t, hz⟩
  · exact go .null (Or.inl rfl) hz
  · exact go (.ref t) (Or.inr ⟨t, rfl⟩) hz
/-- StringLatin1.charAt -/
theorem s_lat {l : Launch} {D : va_G} {ad : Nat → Nat} {cy : Nat → ClassId} {σ : Sg} {k N t : Nat} {f : Nat → Int32} (hk : k < N) (hN : N < 2 ^ 31) (h1 : ((f k &&& 255).toUInt32 % 65536).toInt32 = f k) (h2 : narrow .char (.int (f k)) = .int (f k)) : Met l mJ_lat.1 (wsM mJ_lat) mJ_lat.2.2.2.2 (va_Pc [.ref t, .int (nI k)] (fun U => GdU D ad cy U ∧ va_P D vwCl (cellsA ad cy σ) U.heap ∧ va_T .byte t N (fun j => .int (f j)) (AA ad) U U.heap)) (QQ D ad cy (fun v σ' => v = some (.int (f k)) ∧ σ' = σ)) 0 0 (AA ad) := by
  refine MetR_of (P := fun U => va_T .byte t N (fun j => .int (f j)) (AA ad) U U.heap) (by decide +kernel) (Nat.le_of_ble_eq_true rfl) ?_
  intro p e s m args below meth c C hT hP ls hl
  obtain ⟨hx, hb, hr, hml, hown, hts, hlocks, hK, hStr, hI⟩ := C
  have hS : va_S (AA ad) s.heap s.heap [] := va_S.rf
  have hl : lv_has ls 2 [(0, .ref t), (1, .int (nI k))] := hl
  refine lv_iload_n hx hb dJ_lat_0 rfl (lv_at hl 1 rfl) ?_
  refine lv_aload_n hx hb dJ_lat_1 rfl (lv_at hl 0 rfl) ?_
  refine va_tlen (v := nI N) hx hb hT hS rfl dJ_lat_2 ?_
  refine eg_call (va_runS (As := [.int (nI k), .int (nI N)]) (rest := []) (n := 2) (nL := 2) (Ts := Gd) (own := "java/lang/StringLatin1") ⟨hx, hb, hml, hown, hts⟩ (s_chk (l := l) (D := D) (ad := ad) (cy := cy) (σ := σ) hk hN) ⟨callB_of 2 hts (eg_wsG (Gd_in (i := 425) (by decide +kernel) (by decide +kernel))) rfl rfl rfl (hts _ (Gd_in (i := 74) (by decide +kernel) (by decide +kernel))) (hts _ (Gd_in (i := 423) (by decide +kernel) (by decide +kernel))) ⟨by decide +kernel, by decide +kernel, by decide +kernel⟩ ⟨Nat.le_of_ble_eq_true rfl, Nat.le_of_ble_eq_true rfl⟩, hts _ (Gd_in (i := 424) (by decide +kernel) (by decide +kernel))⟩ ⟨eg_blindR (fun _ _ _ _ _ => trivial), fun U hU hW => ⟨rfl, ⟨va_K.moved hW.alike hK, hStr.at hS hU hW, hI⟩, by rw [hU]; exact hP, trivial⟩⟩ rfl rfl hl.1 rfl (lv_room (Nat.le_of_ble_eq_true rfl)) dJ_lat_3 ⟨Nat.zero_le _, Nat.zero_le _⟩) hS (fun v2 σ' H1 locs1 hR1 hP1 hS1 => ?_)
  obtain ⟨rfl, rfl⟩ := hR1
  refine lv_aload_n hx hb dJ_lat_6 rfl (lv_at hl 0 rfl) ?_
  refine lv_iload_n hx hb dJ_lat_7 rfl (lv_at hl 1 rfl) ?_
  refine va_tb (v := .int (f k)) hx hb hT hS1 (vp_in_nI hk hN) (by rw [nI_clamp (by omega)]) dJ_lat_8 ?_
  refine lv_sipush (v := 255) hx hb dJ_lat_9 (by decide) ?_
  refine lv_iand hx hb dJ_lat_12 ?_
  refine lv_i2c (v := f k) hx hb dJ_lat_13 h1 ?_
  exact W.zret (v := f k) (ty := .char) hx hb hr h2 (fun t ht hW => ⟨⟨some (.int (f k)), σ', rfl, ⟨rfl, rfl⟩, by rw [ht]; exact hP1⟩, hS1.F ht⟩) hS1.2.2 dJ_lat_14 (hlocks := hlocks)
theorem eg_shr0 : ∀ i : Fin 6, nI (eg_len.getD i.val 0) >>> ((0 : Int32) &&& 31) = nI (eg_len.getD i.val 0) ∧ eg_len.getD i.val 0 < 8 := by decide
theorem eg_ch : ∀ i : Fin 6, ∀ k : Fin 8, k.val < eg_len.getD i.val 0 → (((eg_byt.getD i.val []).getD k.val 0 &&& 255).toUInt32 % 65536).toInt32 = (eg_byt.getD i.val []).getD k.val 0 ∧ narrow .char (.int ((eg_byt.getD i.val []).getD k.val 0)) = .int ((eg_byt.getD i.val []).getD k.val 0) := by decide +kernel
theorem s_len {σ : Sg} {i : Nat} {Q : Option Value → Sg → Prop} (hi : i < 6) (h : Q (some (.int (nI (eg_len.getD i 0)))) σ) : MetA mJ0_length [.ref (1000 + i)] σ Q := by
  refine MetA_of qJ0_length (Nat.le_of_ble_eq_true rfl) ?_
  intro p l e s m args below meth c D ad cy C H locs ls hP hS hl
  obtain ⟨hx, hb, hr, hml, hown, hts, hlocks, hK, hStr, hI⟩ := C
  obtain ⟨adV, hstr⟩ := id hStr.1
  have hl : lv_has ls 1 [(0, .ref (ad (1000 + i)))] := hl
  refine lv_aload_n hx hb dJ_length_0 rfl (lv_at hl 0 rfl) ?_
  refine vk_getf hx hb (hstr.1 i hi).2.2.1 hS hown (hts _ (Gd_in (i := 1202) (by decide +kernel) (by decide +kernel))) (fun _ q => q) dJ_length_1 ?_
  refine va_tlen (v := nI (eg_len.getD i 0)) hx hb (hstr.1 i hi).2.2.2 hS rfl dJ_length_4 ?_
  refine lv_aload_n hx hb dJ_length_5 rfl (lv_at hl 0 rfl) ?_
  refine eg_call (va_runV (As := []) (rest := [.int (nI (eg_len.getD i 0))]) (b := ad (1000 + i)) (C := "java/lang/String") (n := 0) (nL := 1) (Ts := Gd) (own := "java/lang/String") ⟨hx, hb, hml, hown, hts⟩ ((s_coder (σ := σ) (Q := fun v σ' => v = some (.int 0) ∧ σ' = σ) hi ⟨rfl, rfl⟩).2 l D ad cy) ⟨eg_cb (ms := mJ0_length) hts qJ_coder (hts _ (Gd_in (i := 406) (by decide +kernel) (by decide +kernel))) (by decide +kernel) (by decide +kernel) rfl, hts _ (Gd_in (i := 407) (by decide +kernel) (by decide +kernel)), hts _ (Gd_in (i := 408) (by decide +kernel) (by decide +kernel))⟩ ⟨eg_blind, vk_recv (i := i) (adK := fun i => ad (1000 + i)) hstr hi hS, fun U hU hW => ⟨rfl, ⟨va_K.moved hW.alike hK, hStr.at hS hU hW, hI⟩, by rw [hU]; exact hP⟩⟩ rfl rfl hl.1 rfl (lv_room (Nat.le_of_ble_eq_true rfl)) dJ_length_6 ⟨Nat.zero_le _, Nat.zero_le _⟩) hS (fun v2 σ' H1 locs1 hR1 hP1 hS1 => ?_)
  obtain ⟨rfl, rfl⟩ := hR1
  refine lv_ishr (x := nI (eg_len.getD i 0)) (y := 0) hx hb dJ_length_9 ?_
  rw [(eg_shr0 ⟨i, hi⟩).1]
  exact W.iret (v := nI (eg_len.getD i 0)) hx hb hr (fun t ht hW => ⟨⟨some (.int (nI (eg_len.getD i 0))), σ', rfl, h, by rw [ht]; exact hP1⟩, hS1.F ht⟩) hS1.2.2 dJ_length_10 (hlocks := hlocks)
theorem s_charAt {σ : Sg} {i k : Nat} {Q : Option Value → Sg → Prop} (hi : i < 6) (hk : k < eg_len.getD i 0) (h : Q (some (.int ((eg_byt.getD i []).getD k 0))) σ) : MetA mJ0_charAt [.ref (1000 + i), .int (nI k)] σ Q := by
  refine MetA_of qJ0_charAt (Nat.le_of_ble_eq_true rfl) ?_
  intro p l e s m args below meth c D ad cy C H locs ls hP hS hl
  obtain ⟨hx, hb, hr, hml, hown, hts, hlocks, hK, hStr, hI⟩ := C
  obtain ⟨adV, hstr⟩ := id hStr.1
  have h8 : eg_len.getD i 0 < 8 := (eg_shr0 ⟨i, hi⟩).2
  obtain ⟨c1, c2⟩ := eg_ch ⟨i, hi⟩ ⟨k, by omega⟩ hk
  dsimp only at c1 c2
  have hl : lv_has ls 2 [(0, .ref (ad (1000 + i))), (1, .int (nI k))] := hl
  refine lv_aload_n hx hb dJ_charAt_0 rfl (lv_at hl 0 rfl) ?_
  refine eg_call (va_runV (As := []) (rest := []) (b := ad (1000 + i)) (C := "java/lang/String") (n := 0) (nL := 2) (Ts := Gd) (own := "java/lang/String") ⟨hx, hb, hml, hown, hts⟩ ((s_isLatin1 (σ := σ) (Q := fun v σ' => v = some (.int 1) ∧ σ' = σ) hi ⟨rfl, rfl⟩).2 l D ad cy) ⟨eg_cb (ms := mJ0_charAt) hts qJ_isLatin1 (hts _ (Gd_in (i := 416) (by decide +kernel) (by decide +kernel))) (by decide +kernel) (by decide +kernel) rfl, hts _ (Gd_in (i := 417) (by decide +kernel) (by decide +kernel)), hts _ (Gd_in (i := 418) (by decide +kernel) (by decide +kernel))⟩ ⟨eg_blind, vk_recv (i := i) (adK := fun i => ad (1000 + i)) hstr hi hS, fun U hU hW => ⟨rfl, ⟨va_K.moved hW.alike hK, hStr.at hS hU hW, hI⟩, by rw [hU]; exact hP⟩⟩ rfl rfl hl.1 rfl (lv_room (Nat.le_of_ble_eq_true rfl)) dJ_charAt_1 ⟨Nat.zero_le _, Nat.zero_le _⟩) hS (fun v2 σ' H1 locs1 hR1 hP1 hS1 => ?_)
  obtain ⟨rfl, rfl⟩ := hR1
  refine lv_if_eq (x := 1) (tgt := 16) hx hb dJ_charAt_4 (by decide) (fun q => absurd q (by decide)) (fun _ => ?_)
  refine lv_aload_n hx hb dJ_charAt_7 rfl (lv_at hl 0 rfl) ?_
  refine vk_getf hx hb (hstr.1 i hi).2.2.1 hS1 hown (hts _ (Gd_in (i := 1202) (by decide +kernel) (by decide +kernel))) (fun _ q => q) dJ_charAt_8 ?_
  refine lv_iload_n hx hb dJ_charAt_11 rfl (lv_at hl 1 rfl) ?_
  refine eg_call (va_runS (As := [.ref (adV i), .int (nI k)]) (rest := []) (n := 2) (nL := 2) (Ts := Gd) (own := "java/lang/String") ⟨hx, hb, hml, hown, hts⟩ (s_lat (l := l) (D := D) (ad := ad) (cy := cy) (σ := σ') (t := adV i) (f := fun j => (eg_byt.getD i []).getD j 0) hk (by omega) c1 c2) ⟨callB_of 2 hts (eg_wsG (Gd_in (i := 422) (by decide +kernel) (by decide +kernel))) rfl rfl rfl (hts _ (Gd_in (i := 75) (by decide +kernel) (by decide +kernel))) (hts _ (Gd_in (i := 420) (by decide +kernel) (by decide +kernel))) ⟨by decide +kernel, by decide +kernel, by decide +kernel⟩ ⟨Nat.le_of_ble_eq_true rfl, Nat.le_of_ble_eq_true rfl⟩, hts _ (Gd_in (i := 421) (by decide +kernel) (by decide +kernel))⟩ ⟨eg_blindR (fun a U g mk q => va_T.moved (u := U) (U := U.calling g mk a) (Vm.Alike.refl U.vm) q), fun U hU hW => ⟨rfl, ⟨va_K.moved hW.alike hK, hStr.at hS1 hU hW, hI⟩, by rw [hU]; exact hP1, ((hstr.1 i hi).2.2.2.kept (fun a h4 h5 => by rw [hU]; exact hS1.2.1 a h4 h5)).moved hW.alike⟩⟩ rfl rfl hl.1 rfl (lv_room (Nat.le_of_ble_eq_true rfl)) dJ_charAt_12 ⟨Nat.zero_le _, Nat.zero_le _⟩) hS1 (fun v2 σ2 H2 locs2 hR2 hP2 hS2 => ?_)
  obtain ⟨rfl, rfl⟩ := hR2
  exact W.zret (v := (eg_byt.getD i []).getD k 0) (ty := .char) hx hb hr c2 (fun t ht hW => ⟨⟨some (.int ((eg_byt.getD i []).getD k 0)), σ2, rfl, h, by rw [ht]; exact hP2⟩, hS2.F ht⟩) hS2.2.2 dJ_charAt_15 (hlocks := hlocks)
