/-! constructors: DatedJars$Cellar DatedJars$Book DatedJars$Dealer DatedJars$Glass DatedJars$Reader DatedJars$Planner DatedJars$Land DatedJarsModel -/
def wX1 (cy : Nat → ClassId) (u : Nat → Nat) : va_W := [(u 0, .inr (1, [.int 0, .ref (u 1), .ref (u 2), .ref (u 3), .ref (u 4), .ref (u 5), .ref (u 6), .int 0])), (u 1, iA cy 24), (u 2, iA cy 24), (u 3, iA cy 24), (u 4, iA cy 24), (u 5, iA cy 24), (u 6, iA cy 24)]
def mIX1 : MS := (yX1_init, cX1_init, 1, none, { frames := 1, cells := 6, slots := 144, locals := 12 })
theorem dIX1_0 : decode cX1_init 0 = .ok (.aload_n 0, 1) := by decide +kernel
theorem dIX1_1 : decode cX1_init 1 = .ok (.invokespecial 3, 3) := by decide +kernel
theorem dIX1_4 : decode cX1_init 4 = .ok (.aload_n 0, 1) := by decide +kernel
theorem dIX1_5 : decode cX1_init 5 = .ok (.bipush 24, 2) := by decide +kernel
theorem dIX1_7 : decode cX1_init 7 = .ok (.newarray .int, 2) := by decide +kernel
theorem dIX1_9 : decode cX1_init 9 = .ok (.putfield 9, 3) := by decide +kernel
theorem dIX1_12 : decode cX1_init 12 = .ok (.aload_n 0, 1) := by decide +kernel
theorem dIX1_13 : decode cX1_init 13 = .ok (.bipush 24, 2) := by decide +kernel
theorem dIX1_15 : decode cX1_init 15 = .ok (.newarray .int, 2) := by decide +kernel
theorem dIX1_17 : decode cX1_init 17 = .ok (.putfield 15, 3) := by decide +kernel
theorem dIX1_20 : decode cX1_init 20 = .ok (.aload_n 0, 1) := by decide +kernel
theorem dIX1_21 : decode cX1_init 21 = .ok (.bipush 24, 2) := by decide +kernel
theorem dIX1_23 : decode cX1_init 23 = .ok (.newarray .int, 2) := by decide +kernel
theorem dIX1_25 : decode cX1_init 25 = .ok (.putfield 18, 3) := by decide +kernel
theorem dIX1_28 : decode cX1_init 28 = .ok (.aload_n 0, 1) := by decide +kernel
theorem dIX1_29 : decode cX1_init 29 = .ok (.bipush 24, 2) := by decide +kernel
theorem dIX1_31 : decode cX1_init 31 = .ok (.newarray .int, 2) := by decide +kernel
theorem dIX1_33 : decode cX1_init 33 = .ok (.putfield 21, 3) := by decide +kernel
theorem dIX1_36 : decode cX1_init 36 = .ok (.aload_n 0, 1) := by decide +kernel
theorem dIX1_37 : decode cX1_init 37 = .ok (.bipush 24, 2) := by decide +kernel
theorem dIX1_39 : decode cX1_init 39 = .ok (.newarray .int, 2) := by decide +kernel
theorem dIX1_41 : decode cX1_init 41 = .ok (.putfield 24, 3) := by decide +kernel
theorem dIX1_44 : decode cX1_init 44 = .ok (.aload_n 0, 1) := by decide +kernel
theorem dIX1_45 : decode cX1_init 45 = .ok (.bipush 24, 2) := by decide +kernel
theorem dIX1_47 : decode cX1_init 47 = .ok (.newarray .int, 2) := by decide +kernel
theorem dIX1_49 : decode cX1_init 49 = .ok (.putfield 27, 3) := by decide +kernel
theorem dIX1_52 : decode cX1_init 52 = .ok (.return_, 1) := by decide +kernel
set_option maxHeartbeats 4000000 in
set_option maxRecDepth 100000 in
theorem cX1 (l : Launch) (D : va_G) (cy : Nat → ClassId) (h0 sz : Nat) : Met l mIX1.1 (wsM mIX1) mIX1.2.2.2.2 (ctPre D cy h0 sz (.inr (1, [.int 0, .null, .null, .null, .null, .null, .null, .int 0]))) (ctPost D (wX1 cy) h0 sz (.inr (1, [.int 0, .null, .null, .null, .null, .null, .null, .int 0]))) 6 144 (va_A [(h0, .inr (1, [.int 0, .null, .null, .null, .null, .null, .null, .int 0]))] sz) := by
  refine Met.ofW (cc := cX1_init) (maxL := 1) (ret := none) (by decide) rfl ?_
  intro p e s m args below meth c s₁ B hml hv
  obtain ⟨rfl, hsz, hP, ⟨hK, hCt⟩, hD0⟩ := hv
  have hx := B.exec
  have hb := B.bytes
  have hr := B.returns
  have hts0 := atoms_spec (ws := wsM mIX1) B.pre
  have hts : ∀ w ∈ Gd, w.before _ s = true := fun w hw => hts0 w (List.mem_cons_of_mem _ hw)
  have hown : s.vm.findClass RX1 = some m.cls := findClass_of_methodNamed B.named
  have hlocks := B.notSynchronized
  have hin : meth.name = "<init>" := (name_of_methodNamed B.named B.method).1
  subst hsz
  have hD := hD0.self (sz := s.heap.size)
  generalize hAe : va_A [(h0, .inr (1, [.int 0, .null, .null, .null, .null, .null, .null, .int 0]))] s.heap.size = A at hD ⊢
  have hA : ∀ q : Nat, s.heap.size ≤ q → A q := fun q h => by rw [← hAe]; exact Or.inr h
  have hS : va_S A s.heap s.heap [] := va_S.rf
  have hP : va_P D vwCl ((h0, .inr (1, [.int 0, .null, .null, .null, .null, .null, .null, .int 0])) :: []) _ := hP
  have hD : va_D A ((h0, .inr (1, [.int 0, .null, .null, .null, .null, .null, .null, .int 0])) :: []) := hD
  have hl := lv_entry ([.ref h0]) (n := 1) (Nat.le_of_ble_eq_true rfl)
  rw [lg_entry_eq]
  generalize (lg_sl ([.ref h0]) ++ List.replicate (1 - (lg_sl ([.ref h0])).length) Slot.unset).toArray = ls at hl ⊢
  have hl : lv_has ls 1 [(0, .ref h0)] := hl
  refine lv_aload_n hx hb dIX1_0 rfl (lv_at hl 0 rfl) ?_
  refine W.objInit hx hb hown (hts _ (Gd_in (i := 100) (by decide +kernel) (by decide +kernel))) (hts _ (Gd_in (i := 87) (by decide +kernel) (by decide +kernel))) (hts _ (Gd_in (i := 88) (by decide +kernel) (by decide +kernel))) rfl (by rw [hml]; exact hl.1) rfl dIX1_1 (Nat.le_of_ble_eq_true rfl) (Nat.le_of_ble_eq_true rfl) ?_
  refine W.eq (g2 := F0 m 4 ls []) rfl ?_
  refine lv_aload_n hx hb dIX1_4 rfl (lv_at hl 0 rfl) ?_
  refine lv_bipush (v := 24) hx hb dIX1_5 (by decide) ?_
  refine ct_int (N := 24) hx hb (hts _ (Gd_in (i := 140) (by decide +kernel) (by decide +kernel))) hK hP hD hS hA (by decide) (by decide) (by decide) (Nat.le_of_ble_eq_true rfl) (Nat.le_of_ble_eq_true rfl) dIX1_7 (fun q7 H hP hD hS => ?_)
  refine W.widen (k := 1) (n := 24) (by decide) (by decide) ?_
  have hP : va_P D vwCl ((h0, .inr (1, [.int 0, .null, .null, .null, .null, .null, .null, .int 0])) :: [(q7, iA cy 24)]) _ := hP
  have hD : va_D A ((h0, .inr (1, [.int 0, .null, .null, .null, .null, .null, .null, .int 0])) :: [(q7, iA cy 24)]) := hD
  refine va_putF (D := D) (ci := 1) (v := .ref q7) (ty := .array .int) (C := RX1) (T := TX1) (N := 8) hx hb hts uGX1 tyX1 tyX1_ok nmX1 hown hK hP hD hS 0 rfl rfl 1 (by decide) (hts _ (Gd_in (i := 105) (by decide +kernel) (by decide +kernel))) (fun _ h9 => h9) rfl hin rfl (by decide +kernel) rfl rfl (Nat.le_of_ble_eq_true rfl) dIX1_9 (fun H locs hP hD hS => ?_)
  have hP : va_P D vwCl ((h0, .inr (1, [.int 0, .ref q7, .null, .null, .null, .null, .null, .int 0])) :: [(q7, iA cy 24)]) _ := hP
  have hD : va_D A ((h0, .inr (1, [.int 0, .ref q7, .null, .null, .null, .null, .null, .int 0])) :: [(q7, iA cy 24)]) := hD
  refine lv_aload_n hx hb dIX1_12 rfl (lv_at hl 0 rfl) ?_
  refine lv_bipush (v := 24) hx hb dIX1_13 (by decide) ?_
  refine ct_int (N := 24) hx hb (hts _ (Gd_in (i := 140) (by decide +kernel) (by decide +kernel))) hK hP hD hS hA (by decide) (by decide) (by decide) (Nat.le_of_ble_eq_true rfl) (Nat.le_of_ble_eq_true rfl) dIX1_15 (fun q15 H hP hD hS => ?_)
  refine W.widen (k := 2) (n := 48) (by decide) (by decide) ?_
  have hP : va_P D vwCl ((h0, .inr (1, [.int 0, .ref q7, .null, .null, .null, .null, .null, .int 0])) :: [(q7, iA cy 24), (q15, iA cy 24)]) _ := hP
  have hD : va_D A ((h0, .inr (1, [.int 0, .ref q7, .null, .null, .null, .null, .null, .int 0])) :: [(q7, iA cy 24), (q15, iA cy 24)]) := hD
  refine va_putF (D := D) (ci := 1) (v := .ref q15) (ty := .array .int) (C := RX1) (T := TX1) (N := 8) hx hb hts uGX1 tyX1 tyX1_ok nmX1 hown hK hP hD hS 0 rfl rfl 2 (by decide) (hts _ (Gd_in (i := 108) (by decide +kernel) (by decide +kernel))) (fun _ h9 => h9) rfl hin rfl (by decide +kernel) rfl rfl (Nat.le_of_ble_eq_true rfl) dIX1_17 (fun H locs hP hD hS => ?_)
  have hP : va_P D vwCl ((h0, .inr (1, [.int 0, .ref q7, .ref q15, .null, .null, .null, .null, .int 0])) :: [(q7, iA cy 24), (q15, iA cy 24)]) _ := hP
  have hD : va_D A ((h0, .inr (1, [.int 0, .ref q7, .ref q15, .null, .null, .null, .null, .int 0])) :: [(q7, iA cy 24), (q15, iA cy 24)]) := hD
  refine lv_aload_n hx hb dIX1_20 rfl (lv_at hl 0 rfl) ?_
  refine lv_bipush (v := 24) hx hb dIX1_21 (by decide) ?_
  refine ct_int (N := 24) hx hb (hts _ (Gd_in (i := 140) (by decide +kernel) (by decide +kernel))) hK hP hD hS hA (by decide) (by decide) (by decide) (Nat.le_of_ble_eq_true rfl) (Nat.le_of_ble_eq_true rfl) dIX1_23 (fun q23 H hP hD hS => ?_)
  refine W.widen (k := 3) (n := 72) (by decide) (by decide) ?_
  have hP : va_P D vwCl ((h0, .inr (1, [.int 0, .ref q7, .ref q15, .null, .null, .null, .null, .int 0])) :: [(q7, iA cy 24), (q15, iA cy 24), (q23, iA cy 24)]) _ := hP
  have hD : va_D A ((h0, .inr (1, [.int 0, .ref q7, .ref q15, .null, .null, .null, .null, .int 0])) :: [(q7, iA cy 24), (q15, iA cy 24), (q23, iA cy 24)]) := hD
  refine va_putF (D := D) (ci := 1) (v := .ref q23) (ty := .array .int) (C := RX1) (T := TX1) (N := 8) hx hb hts uGX1 tyX1 tyX1_ok nmX1 hown hK hP hD hS 0 rfl rfl 3 (by decide) (hts _ (Gd_in (i := 110) (by decide +kernel) (by decide +kernel))) (fun _ h9 => h9) rfl hin rfl (by decide +kernel) rfl rfl (Nat.le_of_ble_eq_true rfl) dIX1_25 (fun H locs hP hD hS => ?_)
  have hP : va_P D vwCl ((h0, .inr (1, [.int 0, .ref q7, .ref q15, .ref q23, .null, .null, .null, .int 0])) :: [(q7, iA cy 24), (q15, iA cy 24), (q23, iA cy 24)]) _ := hP
  have hD : va_D A ((h0, .inr (1, [.int 0, .ref q7, .ref q15, .ref q23, .null, .null, .null, .int 0])) :: [(q7, iA cy 24), (q15, iA cy 24), (q23, iA cy 24)]) := hD
  refine lv_aload_n hx hb dIX1_28 rfl (lv_at hl 0 rfl) ?_
  refine lv_bipush (v := 24) hx hb dIX1_29 (by decide) ?_
  refine ct_int (N := 24) hx hb (hts _ (Gd_in (i := 140) (by decide +kernel) (by decide +kernel))) hK hP hD hS hA (by decide) (by decide) (by decide) (Nat.le_of_ble_eq_true rfl) (Nat.le_of_ble_eq_true rfl) dIX1_31 (fun q31 H hP hD hS => ?_)
  refine W.widen (k := 4) (n := 96) (by decide) (by decide) ?_
  have hP : va_P D vwCl ((h0, .inr (1, [.int 0, .ref q7, .ref q15, .ref q23, .null, .null, .null, .int 0])) :: [(q7, iA cy 24), (q15, iA cy 24), (q23, iA cy 24), (q31, iA cy 24)]) _ := hP
  have hD : va_D A ((h0, .inr (1, [.int 0, .ref q7, .ref q15, .ref q23, .null, .null, .null, .int 0])) :: [(q7, iA cy 24), (q15, iA cy 24), (q23, iA cy 24), (q31, iA cy 24)]) := hD
  refine va_putF (D := D) (ci := 1) (v := .ref q31) (ty := .array .int) (C := RX1) (T := TX1) (N := 8) hx hb hts uGX1 tyX1 tyX1_ok nmX1 hown hK hP hD hS 0 rfl rfl 4 (by decide) (hts _ (Gd_in (i := 113) (by decide +kernel) (by decide +kernel))) (fun _ h9 => h9) rfl hin rfl (by decide +kernel) rfl rfl (Nat.le_of_ble_eq_true rfl) dIX1_33 (fun H locs hP hD hS => ?_)
  have hP : va_P D vwCl ((h0, .inr (1, [.int 0, .ref q7, .ref q15, .ref q23, .ref q31, .null, .null, .int 0])) :: [(q7, iA cy 24), (q15, iA cy 24), (q23, iA cy 24), (q31, iA cy 24)]) _ := hP
  have hD : va_D A ((h0, .inr (1, [.int 0, .ref q7, .ref q15, .ref q23, .ref q31, .null, .null, .int 0])) :: [(q7, iA cy 24), (q15, iA cy 24), (q23, iA cy 24), (q31, iA cy 24)]) := hD
  refine lv_aload_n hx hb dIX1_36 rfl (lv_at hl 0 rfl) ?_
  refine lv_bipush (v := 24) hx hb dIX1_37 (by decide) ?_
  refine ct_int (N := 24) hx hb (hts _ (Gd_in (i := 140) (by decide +kernel) (by decide +kernel))) hK hP hD hS hA (by decide) (by decide) (by decide) (Nat.le_of_ble_eq_true rfl) (Nat.le_of_ble_eq_true rfl) dIX1_39 (fun q39 H hP hD hS => ?_)
  refine W.widen (k := 5) (n := 120) (by decide) (by decide) ?_
  have hP : va_P D vwCl ((h0, .inr (1, [.int 0, .ref q7, .ref q15, .ref q23, .ref q31, .null, .null, .int 0])) :: [(q7, iA cy 24), (q15, iA cy 24), (q23, iA cy 24), (q31, iA cy 24), (q39, iA cy 24)]) _ := hP
  have hD : va_D A ((h0, .inr (1, [.int 0, .ref q7, .ref q15, .ref q23, .ref q31, .null, .null, .int 0])) :: [(q7, iA cy 24), (q15, iA cy 24), (q23, iA cy 24), (q31, iA cy 24), (q39, iA cy 24)]) := hD
  refine va_putF (D := D) (ci := 1) (v := .ref q39) (ty := .array .int) (C := RX1) (T := TX1) (N := 8) hx hb hts uGX1 tyX1 tyX1_ok nmX1 hown hK hP hD hS 0 rfl rfl 5 (by decide) (hts _ (Gd_in (i := 116) (by decide +kernel) (by decide +kernel))) (fun _ h9 => h9) rfl hin rfl (by decide +kernel) rfl rfl (Nat.le_of_ble_eq_true rfl) dIX1_41 (fun H locs hP hD hS => ?_)
  have hP : va_P D vwCl ((h0, .inr (1, [.int 0, .ref q7, .ref q15, .ref q23, .ref q31, .ref q39, .null, .int 0])) :: [(q7, iA cy 24), (q15, iA cy 24), (q23, iA cy 24), (q31, iA cy 24), (q39, iA cy 24)]) _ := hP
  have hD : va_D A ((h0, .inr (1, [.int 0, .ref q7, .ref q15, .ref q23, .ref q31, .ref q39, .null, .int 0])) :: [(q7, iA cy 24), (q15, iA cy 24), (q23, iA cy 24), (q31, iA cy 24), (q39, iA cy 24)]) := hD
  refine lv_aload_n hx hb dIX1_44 rfl (lv_at hl 0 rfl) ?_
  refine lv_bipush (v := 24) hx hb dIX1_45 (by decide) ?_
  refine ct_int (N := 24) hx hb (hts _ (Gd_in (i := 140) (by decide +kernel) (by decide +kernel))) hK hP hD hS hA (by decide) (by decide) (by decide) (Nat.le_of_ble_eq_true rfl) (Nat.le_of_ble_eq_true rfl) dIX1_47 (fun q47 H hP hD hS => ?_)
  refine W.widen (k := 6) (n := 144) (by decide) (by decide) ?_
  have hP : va_P D vwCl ((h0, .inr (1, [.int 0, .ref q7, .ref q15, .ref q23, .ref q31, .ref q39, .null, .int 0])) :: [(q7, iA cy 24), (q15, iA cy 24), (q23, iA cy 24), (q31, iA cy 24), (q39, iA cy 24), (q47, iA cy 24)]) _ := hP
  have hD : va_D A ((h0, .inr (1, [.int 0, .ref q7, .ref q15, .ref q23, .ref q31, .ref q39, .null, .int 0])) :: [(q7, iA cy 24), (q15, iA cy 24), (q23, iA cy 24), (q31, iA cy 24), (q39, iA cy 24), (q47, iA cy 24)]) := hD
  refine va_putF (D := D) (ci := 1) (v := .ref q47) (ty := .array .int) (C := RX1) (T := TX1) (N := 8) hx hb hts uGX1 tyX1 tyX1_ok nmX1 hown hK hP hD hS 0 rfl rfl 6 (by decide) (hts _ (Gd_in (i := 119) (by decide +kernel) (by decide +kernel))) (fun _ h9 => h9) rfl hin rfl (by decide +kernel) rfl rfl (Nat.le_of_ble_eq_true rfl) dIX1_49 (fun H locs hP hD hS => ?_)
  have hP : va_P D vwCl ((h0, .inr (1, [.int 0, .ref q7, .ref q15, .ref q23, .ref q31, .ref q39, .ref q47, .int 0])) :: [(q7, iA cy 24), (q15, iA cy 24), (q23, iA cy 24), (q31, iA cy 24), (q39, iA cy 24), (q47, iA cy 24)]) _ := hP
  have hD : va_D A ((h0, .inr (1, [.int 0, .ref q7, .ref q15, .ref q23, .ref q31, .ref q39, .ref q47, .int 0])) :: [(q7, iA cy 24), (q15, iA cy 24), (q23, iA cy 24), (q31, iA cy 24), (q39, iA cy 24), (q47, iA cy 24)]) := hD
  exact W.vret hx hb hr (fun t ht hW => ⟨⟨fun i => [h0, q7, q15, q23, q31, q39, q47].getD i 0, rfl, rfl, by rw [ht]; exact hP, by rw [hAe]; exact hD⟩, by rw [hAe]; exact hS.F ht⟩) hS.2.2 dIX1_52 (hlocks := hlocks)
def wX0 (cy : Nat → ClassId) (u : Nat → Nat) : va_W := [(u 0, .inr (0, [.int 0, .ref (u 1), .ref (u 2)])), (u 1, iA cy 30), (u 2, iA cy 30)]
def mIX0 : MS := (yX0_init, cX0_init, 1, none, { frames := 1, cells := 2, slots := 60, locals := 12 })
theorem dIX0_0 : decode cX0_init 0 = .ok (.aload_n 0, 1) := by decide +kernel
theorem dIX0_1 : decode cX0_init 1 = .ok (.invokespecial 3, 3) := by decide +kernel
theorem dIX0_4 : decode cX0_init 4 = .ok (.aload_n 0, 1) := by decide +kernel
theorem dIX0_5 : decode cX0_init 5 = .ok (.bipush 30, 2) := by decide +kernel
theorem dIX0_7 : decode cX0_init 7 = .ok (.newarray .int, 2) := by decide +kernel
theorem dIX0_9 : decode cX0_init 9 = .ok (.putfield 9, 3) := by decide +kernel
theorem dIX0_12 : decode cX0_init 12 = .ok (.aload_n 0, 1) := by decide +kernel
theorem dIX0_13 : decode cX0_init 13 = .ok (.bipush 30, 2) := by decide +kernel
theorem dIX0_15 : decode cX0_init 15 = .ok (.newarray .int, 2) := by decide +kernel
theorem dIX0_17 : decode cX0_init 17 = .ok (.putfield 15, 3) := by decide +kernel
theorem dIX0_20 : decode cX0_init 20 = .ok (.return_, 1) := by decide +kernel
set_option maxHeartbeats 4000000 in
set_option maxRecDepth 100000 in
theorem cX0 (l : Launch) (D : va_G) (cy : Nat → ClassId) (h0 sz : Nat) : Met l mIX0.1 (wsM mIX0) mIX0.2.2.2.2 (ctPre D cy h0 sz (.inr (0, [.int 0, .null, .null]))) (ctPost D (wX0 cy) h0 sz (.inr (0, [.int 0, .null, .null]))) 2 60 (va_A [(h0, .inr (0, [.int 0, .null, .null]))] sz) := by
  refine Met.ofW (cc := cX0_init) (maxL := 1) (ret := none) (by decide) rfl ?_
  intro p e s m args below meth c s₁ B hml hv
  obtain ⟨rfl, hsz, hP, ⟨hK, hCt⟩, hD0⟩ := hv
  have hx := B.exec
  have hb := B.bytes
  have hr := B.returns
  have hts0 := atoms_spec (ws := wsM mIX0) B.pre
  have hts : ∀ w ∈ Gd, w.before _ s = true := fun w hw => hts0 w (List.mem_cons_of_mem _ hw)
  have hown : s.vm.findClass RX0 = some m.cls := findClass_of_methodNamed B.named
  have hlocks := B.notSynchronized
  have hin : meth.name = "<init>" := (name_of_methodNamed B.named B.method).1
  subst hsz
  have hD := hD0.self (sz := s.heap.size)
  generalize hAe : va_A [(h0, .inr (0, [.int 0, .null, .null]))] s.heap.size = A at hD ⊢
  have hA : ∀ q : Nat, s.heap.size ≤ q → A q := fun q h => by rw [← hAe]; exact Or.inr h
  have hS : va_S A s.heap s.heap [] := va_S.rf
  have hP : va_P D vwCl ((h0, .inr (0, [.int 0, .null, .null])) :: []) _ := hP
  have hD : va_D A ((h0, .inr (0, [.int 0, .null, .null])) :: []) := hD
  have hl := lv_entry ([.ref h0]) (n := 1) (Nat.le_of_ble_eq_true rfl)
  rw [lg_entry_eq]
  generalize (lg_sl ([.ref h0]) ++ List.replicate (1 - (lg_sl ([.ref h0])).length) Slot.unset).toArray = ls at hl ⊢
  have hl : lv_has ls 1 [(0, .ref h0)] := hl
  refine lv_aload_n hx hb dIX0_0 rfl (lv_at hl 0 rfl) ?_
  refine W.objInit hx hb hown (hts _ (Gd_in (i := 320) (by decide +kernel) (by decide +kernel))) (hts _ (Gd_in (i := 87) (by decide +kernel) (by decide +kernel))) (hts _ (Gd_in (i := 88) (by decide +kernel) (by decide +kernel))) rfl (by rw [hml]; exact hl.1) rfl dIX0_1 (Nat.le_of_ble_eq_true rfl) (Nat.le_of_ble_eq_true rfl) ?_
  refine W.eq (g2 := F0 m 4 ls []) rfl ?_
  refine lv_aload_n hx hb dIX0_4 rfl (lv_at hl 0 rfl) ?_
  refine lv_bipush (v := 30) hx hb dIX0_5 (by decide) ?_
  refine ct_int (N := 30) hx hb (hts _ (Gd_in (i := 140) (by decide +kernel) (by decide +kernel))) hK hP hD hS hA (by decide) (by decide) (by decide) (Nat.le_of_ble_eq_true rfl) (Nat.le_of_ble_eq_true rfl) dIX0_7 (fun q7 H hP hD hS => ?_)
  refine W.widen (k := 1) (n := 30) (by decide) (by decide) ?_
  have hP : va_P D vwCl ((h0, .inr (0, [.int 0, .null, .null])) :: [(q7, iA cy 30)]) _ := hP
  have hD : va_D A ((h0, .inr (0, [.int 0, .null, .null])) :: [(q7, iA cy 30)]) := hD
  refine va_putF (D := D) (ci := 0) (v := .ref q7) (ty := .array .int) (C := RX0) (T := TX0) (N := 3) hx hb hts uGX0 tyX0 tyX0_ok nmX0 hown hK hP hD hS 0 rfl rfl 1 (by decide) (hts _ (Gd_in (i := 323) (by decide +kernel) (by decide +kernel))) (fun _ h9 => h9) rfl hin rfl (by decide +kernel) rfl rfl (Nat.le_of_ble_eq_true rfl) dIX0_9 (fun H locs hP hD hS => ?_)
  have hP : va_P D vwCl ((h0, .inr (0, [.int 0, .ref q7, .null])) :: [(q7, iA cy 30)]) _ := hP
  have hD : va_D A ((h0, .inr (0, [.int 0, .ref q7, .null])) :: [(q7, iA cy 30)]) := hD
  refine lv_aload_n hx hb dIX0_12 rfl (lv_at hl 0 rfl) ?_
  refine lv_bipush (v := 30) hx hb dIX0_13 (by decide) ?_
  refine ct_int (N := 30) hx hb (hts _ (Gd_in (i := 140) (by decide +kernel) (by decide +kernel))) hK hP hD hS hA (by decide) (by decide) (by decide) (Nat.le_of_ble_eq_true rfl) (Nat.le_of_ble_eq_true rfl) dIX0_15 (fun q15 H hP hD hS => ?_)
  refine W.widen (k := 2) (n := 60) (by decide) (by decide) ?_
  have hP : va_P D vwCl ((h0, .inr (0, [.int 0, .ref q7, .null])) :: [(q7, iA cy 30), (q15, iA cy 30)]) _ := hP
  have hD : va_D A ((h0, .inr (0, [.int 0, .ref q7, .null])) :: [(q7, iA cy 30), (q15, iA cy 30)]) := hD
  refine va_putF (D := D) (ci := 0) (v := .ref q15) (ty := .array .int) (C := RX0) (T := TX0) (N := 3) hx hb hts uGX0 tyX0 tyX0_ok nmX0 hown hK hP hD hS 0 rfl rfl 2 (by decide) (hts _ (Gd_in (i := 324) (by decide +kernel) (by decide +kernel))) (fun _ h9 => h9) rfl hin rfl (by decide +kernel) rfl rfl (Nat.le_of_ble_eq_true rfl) dIX0_17 (fun H locs hP hD hS => ?_)
  have hP : va_P D vwCl ((h0, .inr (0, [.int 0, .ref q7, .ref q15])) :: [(q7, iA cy 30), (q15, iA cy 30)]) _ := hP
  have hD : va_D A ((h0, .inr (0, [.int 0, .ref q7, .ref q15])) :: [(q7, iA cy 30), (q15, iA cy 30)]) := hD
  exact W.vret hx hb hr (fun t ht hW => ⟨⟨fun i => [h0, q7, q15].getD i 0, rfl, rfl, by rw [ht]; exact hP, by rw [hAe]; exact hD⟩, by rw [hAe]; exact hS.F ht⟩) hS.2.2 dIX0_20 (hlocks := hlocks)
def wX2 (cy : Nat → ClassId) (u : Nat → Nat) : va_W := [(u 0, .inr (2, [.ref (u 1), .int 0, .ref (u 2), .int 0, .ref (u 3), .ref (u 4), .ref (u 5), .int 0])), (u 1, iA cy 8), (u 2, iA cy 4), (u 3, iA cy 8), (u 4, iA cy 8), (u 5, iA cy 4)]
def mIX2 : MS := (yX2_init, cX2_init, 1, none, { frames := 1, cells := 5, slots := 32, locals := 12 })
theorem dIX2_0 : decode cX2_init 0 = .ok (.aload_n 0, 1) := by decide +kernel
theorem dIX2_1 : decode cX2_init 1 = .ok (.invokespecial 3, 3) := by decide +kernel
theorem dIX2_4 : decode cX2_init 4 = .ok (.aload_n 0, 1) := by decide +kernel
theorem dIX2_5 : decode cX2_init 5 = .ok (.bipush 8, 2) := by decide +kernel
theorem dIX2_7 : decode cX2_init 7 = .ok (.newarray .int, 2) := by decide +kernel
theorem dIX2_9 : decode cX2_init 9 = .ok (.putfield 9, 3) := by decide +kernel
theorem dIX2_12 : decode cX2_init 12 = .ok (.aload_n 0, 1) := by decide +kernel
theorem dIX2_13 : decode cX2_init 13 = .ok (.iconst 4, 1) := by decide +kernel
theorem dIX2_14 : decode cX2_init 14 = .ok (.newarray .int, 2) := by decide +kernel
theorem dIX2_16 : decode cX2_init 16 = .ok (.putfield 15, 3) := by decide +kernel
theorem dIX2_19 : decode cX2_init 19 = .ok (.aload_n 0, 1) := by decide +kernel
theorem dIX2_20 : decode cX2_init 20 = .ok (.bipush 8, 2) := by decide +kernel
theorem dIX2_22 : decode cX2_init 22 = .ok (.newarray .int, 2) := by decide +kernel
theorem dIX2_24 : decode cX2_init 24 = .ok (.putfield 18, 3) := by decide +kernel
theorem dIX2_27 : decode cX2_init 27 = .ok (.aload_n 0, 1) := by decide +kernel
theorem dIX2_28 : decode cX2_init 28 = .ok (.bipush 8, 2) := by decide +kernel
theorem dIX2_30 : decode cX2_init 30 = .ok (.newarray .int, 2) := by decide +kernel
theorem dIX2_32 : decode cX2_init 32 = .ok (.putfield 21, 3) := by decide +kernel
theorem dIX2_35 : decode cX2_init 35 = .ok (.aload_n 0, 1) := by decide +kernel
theorem dIX2_36 : decode cX2_init 36 = .ok (.iconst 4, 1) := by decide +kernel
theorem dIX2_37 : decode cX2_init 37 = .ok (.newarray .int, 2) := by decide +kernel
theorem dIX2_39 : decode cX2_init 39 = .ok (.putfield 24, 3) := by decide +kernel
theorem dIX2_42 : decode cX2_init 42 = .ok (.return_, 1) := by decide +kernel
set_option maxHeartbeats 4000000 in
set_option maxRecDepth 100000 in
theorem cX2 (l : Launch) (D : va_G) (cy : Nat → ClassId) (h0 sz : Nat) : Met l mIX2.1 (wsM mIX2) mIX2.2.2.2.2 (ctPre D cy h0 sz (.inr (2, [.null, .int 0, .null, .int 0, .null, .null, .null, .int 0]))) (ctPost D (wX2 cy) h0 sz (.inr (2, [.null, .int 0, .null, .int 0, .null, .null, .null, .int 0]))) 5 32 (va_A [(h0, .inr (2, [.null, .int 0, .null, .int 0, .null, .null, .null, .int 0]))] sz) := by
  refine Met.ofW (cc := cX2_init) (maxL := 1) (ret := none) (by decide) rfl ?_
  intro p e s m args below meth c s₁ B hml hv
  obtain ⟨rfl, hsz, hP, ⟨hK, hCt⟩, hD0⟩ := hv
  have hx := B.exec
  have hb := B.bytes
  have hr := B.returns
  have hts0 := atoms_spec (ws := wsM mIX2) B.pre
  have hts : ∀ w ∈ Gd, w.before _ s = true := fun w hw => hts0 w (List.mem_cons_of_mem _ hw)
  have hown : s.vm.findClass RX2 = some m.cls := findClass_of_methodNamed B.named
  have hlocks := B.notSynchronized
  have hin : meth.name = "<init>" := (name_of_methodNamed B.named B.method).1
  subst hsz
  have hD := hD0.self (sz := s.heap.size)
  generalize hAe : va_A [(h0, .inr (2, [.null, .int 0, .null, .int 0, .null, .null, .null, .int 0]))] s.heap.size = A at hD ⊢
  have hA : ∀ q : Nat, s.heap.size ≤ q → A q := fun q h => by rw [← hAe]; exact Or.inr h
  have hS : va_S A s.heap s.heap [] := va_S.rf
  have hP : va_P D vwCl ((h0, .inr (2, [.null, .int 0, .null, .int 0, .null, .null, .null, .int 0])) :: []) _ := hP
  have hD : va_D A ((h0, .inr (2, [.null, .int 0, .null, .int 0, .null, .null, .null, .int 0])) :: []) := hD
  have hl := lv_entry ([.ref h0]) (n := 1) (Nat.le_of_ble_eq_true rfl)
  rw [lg_entry_eq]
  generalize (lg_sl ([.ref h0]) ++ List.replicate (1 - (lg_sl ([.ref h0])).length) Slot.unset).toArray = ls at hl ⊢
  have hl : lv_has ls 1 [(0, .ref h0)] := hl
  refine lv_aload_n hx hb dIX2_0 rfl (lv_at hl 0 rfl) ?_
  refine W.objInit hx hb hown (hts _ (Gd_in (i := 268) (by decide +kernel) (by decide +kernel))) (hts _ (Gd_in (i := 87) (by decide +kernel) (by decide +kernel))) (hts _ (Gd_in (i := 88) (by decide +kernel) (by decide +kernel))) rfl (by rw [hml]; exact hl.1) rfl dIX2_1 (Nat.le_of_ble_eq_true rfl) (Nat.le_of_ble_eq_true rfl) ?_
  refine W.eq (g2 := F0 m 4 ls []) rfl ?_
  refine lv_aload_n hx hb dIX2_4 rfl (lv_at hl 0 rfl) ?_
  refine lv_bipush (v := 8) hx hb dIX2_5 (by decide) ?_
  refine ct_int (N := 8) hx hb (hts _ (Gd_in (i := 140) (by decide +kernel) (by decide +kernel))) hK hP hD hS hA (by decide) (by decide) (by decide) (Nat.le_of_ble_eq_true rfl) (Nat.le_of_ble_eq_true rfl) dIX2_7 (fun q7 H hP hD hS => ?_)
  refine W.widen (k := 1) (n := 8) (by decide) (by decide) ?_
  have hP : va_P D vwCl ((h0, .inr (2, [.null, .int 0, .null, .int 0, .null, .null, .null, .int 0])) :: [(q7, iA cy 8)]) _ := hP
  have hD : va_D A ((h0, .inr (2, [.null, .int 0, .null, .int 0, .null, .null, .null, .int 0])) :: [(q7, iA cy 8)]) := hD
  refine va_putF (D := D) (ci := 2) (v := .ref q7) (ty := .array .int) (C := RX2) (T := TX2) (N := 8) hx hb hts uGX2 tyX2 tyX2_ok nmX2 hown hK hP hD hS 0 rfl rfl 0 (by decide) (hts _ (Gd_in (i := 269) (by decide +kernel) (by decide +kernel))) (fun _ h9 => h9) rfl hin rfl (by decide +kernel) rfl rfl (Nat.le_of_ble_eq_true rfl) dIX2_9 (fun H locs hP hD hS => ?_)
  have hP : va_P D vwCl ((h0, .inr (2, [.ref q7, .int 0, .null, .int 0, .null, .null, .null, .int 0])) :: [(q7, iA cy 8)]) _ := hP
  have hD : va_D A ((h0, .inr (2, [.ref q7, .int 0, .null, .int 0, .null, .null, .null, .int 0])) :: [(q7, iA cy 8)]) := hD
  refine lv_aload_n hx hb dIX2_12 rfl (lv_at hl 0 rfl) ?_
  refine lv_iconst (v := 4) hx hb dIX2_13 (by decide) ?_
  refine ct_int (N := 4) hx hb (hts _ (Gd_in (i := 140) (by decide +kernel) (by decide +kernel))) hK hP hD hS hA (by decide) (by decide) (by decide) (Nat.le_of_ble_eq_true rfl) (Nat.le_of_ble_eq_true rfl) dIX2_14 (fun q14 H hP hD hS => ?_)
  refine W.widen (k := 2) (n := 12) (by decide) (by decide) ?_
  have hP : va_P D vwCl ((h0, .inr (2, [.ref q7, .int 0, .null, .int 0, .null, .null, .null, .int 0])) :: [(q7, iA cy 8), (q14, iA cy 4)]) _ := hP
  have hD : va_D A ((h0, .inr (2, [.ref q7, .int 0, .null, .int 0, .null, .null, .null, .int 0])) :: [(q7, iA cy 8), (q14, iA cy 4)]) := hD
  refine va_putF (D := D) (ci := 2) (v := .ref q14) (ty := .array .int) (C := RX2) (T := TX2) (N := 8) hx hb hts uGX2 tyX2 tyX2_ok nmX2 hown hK hP hD hS 0 rfl rfl 2 (by decide) (hts _ (Gd_in (i := 271) (by decide +kernel) (by decide +kernel))) (fun _ h9 => h9) rfl hin rfl (by decide +kernel) rfl rfl (Nat.le_of_ble_eq_true rfl) dIX2_16 (fun H locs hP hD hS => ?_)
  have hP : va_P D vwCl ((h0, .inr (2, [.ref q7, .int 0, .ref q14, .int 0, .null, .null, .null, .int 0])) :: [(q7, iA cy 8), (q14, iA cy 4)]) _ := hP
  have hD : va_D A ((h0, .inr (2, [.ref q7, .int 0, .ref q14, .int 0, .null, .null, .null, .int 0])) :: [(q7, iA cy 8), (q14, iA cy 4)]) := hD
  refine lv_aload_n hx hb dIX2_19 rfl (lv_at hl 0 rfl) ?_
  refine lv_bipush (v := 8) hx hb dIX2_20 (by decide) ?_
  refine ct_int (N := 8) hx hb (hts _ (Gd_in (i := 140) (by decide +kernel) (by decide +kernel))) hK hP hD hS hA (by decide) (by decide) (by decide) (Nat.le_of_ble_eq_true rfl) (Nat.le_of_ble_eq_true rfl) dIX2_22 (fun q22 H hP hD hS => ?_)
  refine W.widen (k := 3) (n := 20) (by decide) (by decide) ?_
  have hP : va_P D vwCl ((h0, .inr (2, [.ref q7, .int 0, .ref q14, .int 0, .null, .null, .null, .int 0])) :: [(q7, iA cy 8), (q14, iA cy 4), (q22, iA cy 8)]) _ := hP
  have hD : va_D A ((h0, .inr (2, [.ref q7, .int 0, .ref q14, .int 0, .null, .null, .null, .int 0])) :: [(q7, iA cy 8), (q14, iA cy 4), (q22, iA cy 8)]) := hD
  refine va_putF (D := D) (ci := 2) (v := .ref q22) (ty := .array .int) (C := RX2) (T := TX2) (N := 8) hx hb hts uGX2 tyX2 tyX2_ok nmX2 hown hK hP hD hS 0 rfl rfl 4 (by decide) (hts _ (Gd_in (i := 273) (by decide +kernel) (by decide +kernel))) (fun _ h9 => h9) rfl hin rfl (by decide +kernel) rfl rfl (Nat.le_of_ble_eq_true rfl) dIX2_24 (fun H locs hP hD hS => ?_)
  have hP : va_P D vwCl ((h0, .inr (2, [.ref q7, .int 0, .ref q14, .int 0, .ref q22, .null, .null, .int 0])) :: [(q7, iA cy 8), (q14, iA cy 4), (q22, iA cy 8)]) _ := hP
  have hD : va_D A ((h0, .inr (2, [.ref q7, .int 0, .ref q14, .int 0, .ref q22, .null, .null, .int 0])) :: [(q7, iA cy 8), (q14, iA cy 4), (q22, iA cy 8)]) := hD
  refine lv_aload_n hx hb dIX2_27 rfl (lv_at hl 0 rfl) ?_
  refine lv_bipush (v := 8) hx hb dIX2_28 (by decide) ?_
  refine ct_int (N := 8) hx hb (hts _ (Gd_in (i := 140) (by decide +kernel) (by decide +kernel))) hK hP hD hS hA (by decide) (by decide) (by decide) (Nat.le_of_ble_eq_true rfl) (Nat.le_of_ble_eq_true rfl) dIX2_30 (fun q30 H hP hD hS => ?_)
  refine W.widen (k := 4) (n := 28) (by decide) (by decide) ?_
  have hP : va_P D vwCl ((h0, .inr (2, [.ref q7, .int 0, .ref q14, .int 0, .ref q22, .null, .null, .int 0])) :: [(q7, iA cy 8), (q14, iA cy 4), (q22, iA cy 8), (q30, iA cy 8)]) _ := hP
  have hD : va_D A ((h0, .inr (2, [.ref q7, .int 0, .ref q14, .int 0, .ref q22, .null, .null, .int 0])) :: [(q7, iA cy 8), (q14, iA cy 4), (q22, iA cy 8), (q30, iA cy 8)]) := hD
  refine va_putF (D := D) (ci := 2) (v := .ref q30) (ty := .array .int) (C := RX2) (T := TX2) (N := 8) hx hb hts uGX2 tyX2 tyX2_ok nmX2 hown hK hP hD hS 0 rfl rfl 5 (by decide) (hts _ (Gd_in (i := 274) (by decide +kernel) (by decide +kernel))) (fun _ h9 => h9) rfl hin rfl (by decide +kernel) rfl rfl (Nat.le_of_ble_eq_true rfl) dIX2_32 (fun H locs hP hD hS => ?_)
  have hP : va_P D vwCl ((h0, .inr (2, [.ref q7, .int 0, .ref q14, .int 0, .ref q22, .ref q30, .null, .int 0])) :: [(q7, iA cy 8), (q14, iA cy 4), (q22, iA cy 8), (q30, iA cy 8)]) _ := hP
  have hD : va_D A ((h0, .inr (2, [.ref q7, .int 0, .ref q14, .int 0, .ref q22, .ref q30, .null, .int 0])) :: [(q7, iA cy 8), (q14, iA cy 4), (q22, iA cy 8), (q30, iA cy 8)]) := hD
  refine lv_aload_n hx hb dIX2_35 rfl (lv_at hl 0 rfl) ?_
  refine lv_iconst (v := 4) hx hb dIX2_36 (by decide) ?_
  refine ct_int (N := 4) hx hb (hts _ (Gd_in (i := 140) (by decide +kernel) (by decide +kernel))) hK hP hD hS hA (by decide) (by decide) (by decide) (Nat.le_of_ble_eq_true rfl) (Nat.le_of_ble_eq_true rfl) dIX2_37 (fun q37 H hP hD hS => ?_)
  refine W.widen (k := 5) (n := 32) (by decide) (by decide) ?_
  have hP : va_P D vwCl ((h0, .inr (2, [.ref q7, .int 0, .ref q14, .int 0, .ref q22, .ref q30, .null, .int 0])) :: [(q7, iA cy 8), (q14, iA cy 4), (q22, iA cy 8), (q30, iA cy 8), (q37, iA cy 4)]) _ := hP
  have hD : va_D A ((h0, .inr (2, [.ref q7, .int 0, .ref q14, .int 0, .ref q22, .ref q30, .null, .int 0])) :: [(q7, iA cy 8), (q14, iA cy 4), (q22, iA cy 8), (q30, iA cy 8), (q37, iA cy 4)]) := hD
  refine va_putF (D := D) (ci := 2) (v := .ref q37) (ty := .array .int) (C := RX2) (T := TX2) (N := 8) hx hb hts uGX2 tyX2 tyX2_ok nmX2 hown hK hP hD hS 0 rfl rfl 6 (by decide) (hts _ (Gd_in (i := 275) (by decide +kernel) (by decide +kernel))) (fun _ h9 => h9) rfl hin rfl (by decide +kernel) rfl rfl (Nat.le_of_ble_eq_true rfl) dIX2_39 (fun H locs hP hD hS => ?_)
  have hP : va_P D vwCl ((h0, .inr (2, [.ref q7, .int 0, .ref q14, .int 0, .ref q22, .ref q30, .ref q37, .int 0])) :: [(q7, iA cy 8), (q14, iA cy 4), (q22, iA cy 8), (q30, iA cy 8), (q37, iA cy 4)]) _ := hP
  have hD : va_D A ((h0, .inr (2, [.ref q7, .int 0, .ref q14, .int 0, .ref q22, .ref q30, .ref q37, .int 0])) :: [(q7, iA cy 8), (q14, iA cy 4), (q22, iA cy 8), (q30, iA cy 8), (q37, iA cy 4)]) := hD
  exact W.vret hx hb hr (fun t ht hW => ⟨⟨fun i => [h0, q7, q14, q22, q30, q37].getD i 0, rfl, rfl, by rw [ht]; exact hP, by rw [hAe]; exact hD⟩, by rw [hAe]; exact hS.F ht⟩) hS.2.2 dIX2_42 (hlocks := hlocks)
def wX3 (cy : Nat → ClassId) (u : Nat → Nat) : va_W := [(u 0, .inr (3, [.int 0, .ref (u 1), .ref (u 2), .ref (u 3)])), (u 1, iA cy 12), (u 2, iA cy 12), (u 3, iA cy 12)]
def mIX3 : MS := (yX3_init, cX3_init, 1, none, { frames := 1, cells := 3, slots := 36, locals := 12 })
theorem dIX3_0 : decode cX3_init 0 = .ok (.aload_n 0, 1) := by decide +kernel
theorem dIX3_1 : decode cX3_init 1 = .ok (.invokespecial 3, 3) := by decide +kernel
theorem dIX3_4 : decode cX3_init 4 = .ok (.aload_n 0, 1) := by decide +kernel
theorem dIX3_5 : decode cX3_init 5 = .ok (.bipush 12, 2) := by decide +kernel
theorem dIX3_7 : decode cX3_init 7 = .ok (.newarray .int, 2) := by decide +kernel
theorem dIX3_9 : decode cX3_init 9 = .ok (.putfield 9, 3) := by decide +kernel
theorem dIX3_12 : decode cX3_init 12 = .ok (.aload_n 0, 1) := by decide +kernel
theorem dIX3_13 : decode cX3_init 13 = .ok (.bipush 12, 2) := by decide +kernel
theorem dIX3_15 : decode cX3_init 15 = .ok (.newarray .int, 2) := by decide +kernel
theorem dIX3_17 : decode cX3_init 17 = .ok (.putfield 15, 3) := by decide +kernel
theorem dIX3_20 : decode cX3_init 20 = .ok (.aload_n 0, 1) := by decide +kernel
theorem dIX3_21 : decode cX3_init 21 = .ok (.bipush 12, 2) := by decide +kernel
theorem dIX3_23 : decode cX3_init 23 = .ok (.newarray .int, 2) := by decide +kernel
theorem dIX3_25 : decode cX3_init 25 = .ok (.putfield 18, 3) := by decide +kernel
theorem dIX3_28 : decode cX3_init 28 = .ok (.return_, 1) := by decide +kernel
set_option maxHeartbeats 4000000 in
set_option maxRecDepth 100000 in
theorem cX3 (l : Launch) (D : va_G) (cy : Nat → ClassId) (h0 sz : Nat) : Met l mIX3.1 (wsM mIX3) mIX3.2.2.2.2 (ctPre D cy h0 sz (.inr (3, [.int 0, .null, .null, .null]))) (ctPost D (wX3 cy) h0 sz (.inr (3, [.int 0, .null, .null, .null]))) 3 36 (va_A [(h0, .inr (3, [.int 0, .null, .null, .null]))] sz) := by
  refine Met.ofW (cc := cX3_init) (maxL := 1) (ret := none) (by decide) rfl ?_
  intro p e s m args below meth c s₁ B hml hv
  obtain ⟨rfl, hsz, hP, ⟨hK, hCt⟩, hD0⟩ := hv
  have hx := B.exec
  have hb := B.bytes
  have hr := B.returns
  have hts0 := atoms_spec (ws := wsM mIX3) B.pre
  have hts : ∀ w ∈ Gd, w.before _ s = true := fun w hw => hts0 w (List.mem_cons_of_mem _ hw)
  have hown : s.vm.findClass RX3 = some m.cls := findClass_of_methodNamed B.named
  have hlocks := B.notSynchronized
  have hin : meth.name = "<init>" := (name_of_methodNamed B.named B.method).1
  subst hsz
  have hD := hD0.self (sz := s.heap.size)
  generalize hAe : va_A [(h0, .inr (3, [.int 0, .null, .null, .null]))] s.heap.size = A at hD ⊢
  have hA : ∀ q : Nat, s.heap.size ≤ q → A q := fun q h => by rw [← hAe]; exact Or.inr h
  have hS : va_S A s.heap s.heap [] := va_S.rf
  have hP : va_P D vwCl ((h0, .inr (3, [.int 0, .null, .null, .null])) :: []) _ := hP
  have hD : va_D A ((h0, .inr (3, [.int 0, .null, .null, .null])) :: []) := hD
  have hl := lv_entry ([.ref h0]) (n := 1) (Nat.le_of_ble_eq_true rfl)
  rw [lg_entry_eq]
  generalize (lg_sl ([.ref h0]) ++ List.replicate (1 - (lg_sl ([.ref h0])).length) Slot.unset).toArray = ls at hl ⊢
  have hl : lv_has ls 1 [(0, .ref h0)] := hl
  refine lv_aload_n hx hb dIX3_0 rfl (lv_at hl 0 rfl) ?_
  refine W.objInit hx hb hown (hts _ (Gd_in (i := 300) (by decide +kernel) (by decide +kernel))) (hts _ (Gd_in (i := 87) (by decide +kernel) (by decide +kernel))) (hts _ (Gd_in (i := 88) (by decide +kernel) (by decide +kernel))) rfl (by rw [hml]; exact hl.1) rfl dIX3_1 (Nat.le_of_ble_eq_true rfl) (Nat.le_of_ble_eq_true rfl) ?_
  refine W.eq (g2 := F0 m 4 ls []) rfl ?_
  refine lv_aload_n hx hb dIX3_4 rfl (lv_at hl 0 rfl) ?_
  refine lv_bipush (v := 12) hx hb dIX3_5 (by decide) ?_
  refine ct_int (N := 12) hx hb (hts _ (Gd_in (i := 140) (by decide +kernel) (by decide +kernel))) hK hP hD hS hA (by decide) (by decide) (by decide) (Nat.le_of_ble_eq_true rfl) (Nat.le_of_ble_eq_true rfl) dIX3_7 (fun q7 H hP hD hS => ?_)
  refine W.widen (k := 1) (n := 12) (by decide) (by decide) ?_
  have hP : va_P D vwCl ((h0, .inr (3, [.int 0, .null, .null, .null])) :: [(q7, iA cy 12)]) _ := hP
  have hD : va_D A ((h0, .inr (3, [.int 0, .null, .null, .null])) :: [(q7, iA cy 12)]) := hD
  refine va_putF (D := D) (ci := 3) (v := .ref q7) (ty := .array .int) (C := RX3) (T := TX3) (N := 4) hx hb hts uGX3 tyX3 tyX3_ok nmX3 hown hK hP hD hS 0 rfl rfl 1 (by decide) (hts _ (Gd_in (i := 303) (by decide +kernel) (by decide +kernel))) (fun _ h9 => h9) rfl hin rfl (by decide +kernel) rfl rfl (Nat.le_of_ble_eq_true rfl) dIX3_9 (fun H locs hP hD hS => ?_)
  have hP : va_P D vwCl ((h0, .inr (3, [.int 0, .ref q7, .null, .null])) :: [(q7, iA cy 12)]) _ := hP
  have hD : va_D A ((h0, .inr (3, [.int 0, .ref q7, .null, .null])) :: [(q7, iA cy 12)]) := hD
  refine lv_aload_n hx hb dIX3_12 rfl (lv_at hl 0 rfl) ?_
  refine lv_bipush (v := 12) hx hb dIX3_13 (by decide) ?_
  refine ct_int (N := 12) hx hb (hts _ (Gd_in (i := 140) (by decide +kernel) (by decide +kernel))) hK hP hD hS hA (by decide) (by decide) (by decide) (Nat.le_of_ble_eq_true rfl) (Nat.le_of_ble_eq_true rfl) dIX3_15 (fun q15 H hP hD hS => ?_)
  refine W.widen (k := 2) (n := 24) (by decide) (by decide) ?_
  have hP : va_P D vwCl ((h0, .inr (3, [.int 0, .ref q7, .null, .null])) :: [(q7, iA cy 12), (q15, iA cy 12)]) _ := hP
  have hD : va_D A ((h0, .inr (3, [.int 0, .ref q7, .null, .null])) :: [(q7, iA cy 12), (q15, iA cy 12)]) := hD
  refine va_putF (D := D) (ci := 3) (v := .ref q15) (ty := .array .int) (C := RX3) (T := TX3) (N := 4) hx hb hts uGX3 tyX3 tyX3_ok nmX3 hown hK hP hD hS 0 rfl rfl 2 (by decide) (hts _ (Gd_in (i := 304) (by decide +kernel) (by decide +kernel))) (fun _ h9 => h9) rfl hin rfl (by decide +kernel) rfl rfl (Nat.le_of_ble_eq_true rfl) dIX3_17 (fun H locs hP hD hS => ?_)
  have hP : va_P D vwCl ((h0, .inr (3, [.int 0, .ref q7, .ref q15, .null])) :: [(q7, iA cy 12), (q15, iA cy 12)]) _ := hP
  have hD : va_D A ((h0, .inr (3, [.int 0, .ref q7, .ref q15, .null])) :: [(q7, iA cy 12), (q15, iA cy 12)]) := hD
  refine lv_aload_n hx hb dIX3_20 rfl (lv_at hl 0 rfl) ?_
  refine lv_bipush (v := 12) hx hb dIX3_21 (by decide) ?_
  refine ct_int (N := 12) hx hb (hts _ (Gd_in (i := 140) (by decide +kernel) (by decide +kernel))) hK hP hD hS hA (by decide) (by decide) (by decide) (Nat.le_of_ble_eq_true rfl) (Nat.le_of_ble_eq_true rfl) dIX3_23 (fun q23 H hP hD hS => ?_)
  refine W.widen (k := 3) (n := 36) (by decide) (by decide) ?_
  have hP : va_P D vwCl ((h0, .inr (3, [.int 0, .ref q7, .ref q15, .null])) :: [(q7, iA cy 12), (q15, iA cy 12), (q23, iA cy 12)]) _ := hP
  have hD : va_D A ((h0, .inr (3, [.int 0, .ref q7, .ref q15, .null])) :: [(q7, iA cy 12), (q15, iA cy 12), (q23, iA cy 12)]) := hD
  refine va_putF (D := D) (ci := 3) (v := .ref q23) (ty := .array .int) (C := RX3) (T := TX3) (N := 4) hx hb hts uGX3 tyX3 tyX3_ok nmX3 hown hK hP hD hS 0 rfl rfl 3 (by decide) (hts _ (Gd_in (i := 305) (by decide +kernel) (by decide +kernel))) (fun _ h9 => h9) rfl hin rfl (by decide +kernel) rfl rfl (Nat.le_of_ble_eq_true rfl) dIX3_25 (fun H locs hP hD hS => ?_)
  have hP : va_P D vwCl ((h0, .inr (3, [.int 0, .ref q7, .ref q15, .ref q23])) :: [(q7, iA cy 12), (q15, iA cy 12), (q23, iA cy 12)]) _ := hP
  have hD : va_D A ((h0, .inr (3, [.int 0, .ref q7, .ref q15, .ref q23])) :: [(q7, iA cy 12), (q15, iA cy 12), (q23, iA cy 12)]) := hD
  exact W.vret hx hb hr (fun t ht hW => ⟨⟨fun i => [h0, q7, q15, q23].getD i 0, rfl, rfl, by rw [ht]; exact hP, by rw [hAe]; exact hD⟩, by rw [hAe]; exact hS.F ht⟩) hS.2.2 dIX3_28 (hlocks := hlocks)
def wX6 (cy : Nat → ClassId) (u : Nat → Nat) : va_W := [(u 0, .inr (6, [.ref (u 1), .int 0, .int 0, .int 0, .int (-1), .int 0])), (u 1, .inl (cy 2, 400, .inl (fun _ => 0)))]
def mIX6 : MS := (yX6_init, cX6_init, 1, none, { frames := 1, cells := 1, slots := 400, locals := 12 })
theorem dIX6_0 : decode cX6_init 0 = .ok (.aload_n 0, 1) := by decide +kernel
theorem dIX6_1 : decode cX6_init 1 = .ok (.invokespecial 3, 3) := by decide +kernel
theorem dIX6_4 : decode cX6_init 4 = .ok (.aload_n 0, 1) := by decide +kernel
theorem dIX6_5 : decode cX6_init 5 = .ok (.sipush 400, 3) := by decide +kernel
theorem dIX6_8 : decode cX6_init 8 = .ok (.newarray .byte, 2) := by decide +kernel
theorem dIX6_10 : decode cX6_init 10 = .ok (.putfield 9, 3) := by decide +kernel
theorem dIX6_13 : decode cX6_init 13 = .ok (.aload_n 0, 1) := by decide +kernel
theorem dIX6_14 : decode cX6_init 14 = .ok (.iconst (-1), 1) := by decide +kernel
theorem dIX6_15 : decode cX6_init 15 = .ok (.putfield 15, 3) := by decide +kernel
theorem dIX6_18 : decode cX6_init 18 = .ok (.return_, 1) := by decide +kernel
set_option maxHeartbeats 4000000 in
set_option maxRecDepth 100000 in
theorem cX6 (l : Launch) (D : va_G) (cy : Nat → ClassId) (h0 sz : Nat) : Met l mIX6.1 (wsM mIX6) mIX6.2.2.2.2 (ctPre D cy h0 sz (.inr (6, [.null, .int 0, .int 0, .int 0, .int 0, .int 0]))) (ctPost D (wX6 cy) h0 sz (.inr (6, [.null, .int 0, .int 0, .int 0, .int 0, .int 0]))) 1 400 (va_A [(h0, .inr (6, [.null, .int 0, .int 0, .int 0, .int 0, .int 0]))] sz) := by
  refine Met.ofW (cc := cX6_init) (maxL := 1) (ret := none) (by decide) rfl ?_
  intro p e s m args below meth c s₁ B hml hv
  obtain ⟨rfl, hsz, hP, ⟨hK, hCt⟩, hD0⟩ := hv
  have hx := B.exec
  have hb := B.bytes
  have hr := B.returns
  have hts0 := atoms_spec (ws := wsM mIX6) B.pre
  have hts : ∀ w ∈ Gd, w.before _ s = true := fun w hw => hts0 w (List.mem_cons_of_mem _ hw)
  have hown : s.vm.findClass RX6 = some m.cls := findClass_of_methodNamed B.named
  have hlocks := B.notSynchronized
  have hin : meth.name = "<init>" := (name_of_methodNamed B.named B.method).1
  subst hsz
  have hD := hD0.self (sz := s.heap.size)
  generalize hAe : va_A [(h0, .inr (6, [.null, .int 0, .int 0, .int 0, .int 0, .int 0]))] s.heap.size = A at hD ⊢
  have hA : ∀ q : Nat, s.heap.size ≤ q → A q := fun q h => by rw [← hAe]; exact Or.inr h
  have hS : va_S A s.heap s.heap [] := va_S.rf
  have hP : va_P D vwCl ((h0, .inr (6, [.null, .int 0, .int 0, .int 0, .int 0, .int 0])) :: []) _ := hP
  have hD : va_D A ((h0, .inr (6, [.null, .int 0, .int 0, .int 0, .int 0, .int 0])) :: []) := hD
  have hl := lv_entry ([.ref h0]) (n := 1) (Nat.le_of_ble_eq_true rfl)
  rw [lg_entry_eq]
  generalize (lg_sl ([.ref h0]) ++ List.replicate (1 - (lg_sl ([.ref h0])).length) Slot.unset).toArray = ls at hl ⊢
  have hl : lv_has ls 1 [(0, .ref h0)] := hl
  refine lv_aload_n hx hb dIX6_0 rfl (lv_at hl 0 rfl) ?_
  refine W.objInit hx hb hown (hts _ (Gd_in (i := 203) (by decide +kernel) (by decide +kernel))) (hts _ (Gd_in (i := 87) (by decide +kernel) (by decide +kernel))) (hts _ (Gd_in (i := 88) (by decide +kernel) (by decide +kernel))) rfl (by rw [hml]; exact hl.1) rfl dIX6_1 (Nat.le_of_ble_eq_true rfl) (Nat.le_of_ble_eq_true rfl) ?_
  refine W.eq (g2 := F0 m 4 ls []) rfl ?_
  refine lv_aload_n hx hb dIX6_4 rfl (lv_at hl 0 rfl) ?_
  refine lv_sipush (v := 400) hx hb dIX6_5 (by decide) ?_
  refine ct_byte (N := 400) hx hb (hts _ (Gd_in (i := 227) (by decide +kernel) (by decide +kernel))) hK hP hD hS hA (by decide) (by decide) (by decide) (Nat.le_of_ble_eq_true rfl) (Nat.le_of_ble_eq_true rfl) dIX6_8 (fun q8 H hP hD hS => ?_)
  refine W.widen (k := 1) (n := 400) (by decide) (by decide) ?_
  have hP : va_P D vwCl ((h0, .inr (6, [.null, .int 0, .int 0, .int 0, .int 0, .int 0])) :: [(q8, .inl (cy 2, 400, .inl (fun _ => 0)))]) _ := hP
  have hD : va_D A ((h0, .inr (6, [.null, .int 0, .int 0, .int 0, .int 0, .int 0])) :: [(q8, .inl (cy 2, 400, .inl (fun _ => 0)))]) := hD
  refine va_putF (D := D) (ci := 6) (v := .ref q8) (ty := .array .byte) (C := RX6) (T := TX6) (N := 6) hx hb hts uGX6 tyX6 tyX6_ok nmX6 hown hK hP hD hS 0 rfl rfl 0 (by decide) (hts _ (Gd_in (i := 204) (by decide +kernel) (by decide +kernel))) (fun _ h9 => h9) rfl hin rfl (by decide +kernel) rfl rfl (Nat.le_of_ble_eq_true rfl) dIX6_10 (fun H locs hP hD hS => ?_)
  have hP : va_P D vwCl ((h0, .inr (6, [.ref q8, .int 0, .int 0, .int 0, .int 0, .int 0])) :: [(q8, .inl (cy 2, 400, .inl (fun _ => 0)))]) _ := hP
  have hD : va_D A ((h0, .inr (6, [.ref q8, .int 0, .int 0, .int 0, .int 0, .int 0])) :: [(q8, .inl (cy 2, 400, .inl (fun _ => 0)))]) := hD
  refine lv_aload_n hx hb dIX6_13 rfl (lv_at hl 0 rfl) ?_
  refine lv_iconst (v := (-1)) hx hb dIX6_14 (by decide) ?_
  refine va_put (D := D) (ci := 6) (v := .int (-1)) (ty := .int) (C := RX6) (T := TX6) (N := 6) hx hb hts uGX6 tyX6 tyX6_ok nmX6 hown hK hP hD hS 0 rfl rfl 4 (by decide) (hts _ (Gd_in (i := 210) (by decide +kernel) (by decide +kernel))) (fun _ h9 => h9) rfl (by decide +kernel) rfl rfl (Nat.le_of_ble_eq_true rfl) dIX6_15 (fun H locs hP hD hS => ?_)
  have hP : va_P D vwCl ((h0, .inr (6, [.ref q8, .int 0, .int 0, .int 0, .int (-1), .int 0])) :: [(q8, .inl (cy 2, 400, .inl (fun _ => 0)))]) _ := hP
  have hD : va_D A ((h0, .inr (6, [.ref q8, .int 0, .int 0, .int 0, .int (-1), .int 0])) :: [(q8, .inl (cy 2, 400, .inl (fun _ => 0)))]) := hD
  exact W.vret hx hb hr (fun t ht hW => ⟨⟨fun i => [h0, q8].getD i 0, rfl, rfl, by rw [ht]; exact hP, by rw [hAe]; exact hD⟩, by rw [hAe]; exact hS.F ht⟩) hS.2.2 dIX6_18 (hlocks := hlocks)
def wX5 (cy : Nat → ClassId) (u : Nat → Nat) : va_W := [(u 0, .inr (5, [.ref (u 1), .int 0, .ref (u 2), .ref (u 16), .int 0, .int 0, .ref (u 17), .int 0])), (u 1, iA cy 8), (u 2, qA (cy 5) 13 (fun i => some (u 2 + 1 + i))), (u 2 + 1 + 0, iA cy 256), (u 2 + 1 + 1, iA cy 256), (u 2 + 1 + 2, iA cy 256), (u 2 + 1 + 3, iA cy 256), (u 2 + 1 + 4, iA cy 256), (u 2 + 1 + 5, iA cy 256), (u 2 + 1 + 6, iA cy 256), (u 2 + 1 + 7, iA cy 256), (u 2 + 1 + 8, iA cy 256), (u 2 + 1 + 9, iA cy 256), (u 2 + 1 + 10, iA cy 256), (u 2 + 1 + 11, iA cy 256), (u 2 + 1 + 12, iA cy 256), (u 16, iA cy 256), (u 17, iA cy 12)]
def mIX5 : MS := (yX5_init, cX5_init, 1, none, { frames := 1, cells := 17, slots := 3617, locals := 12 })
theorem dIX5_0 : decode cX5_init 0 = .ok (.aload_n 0, 1) := by decide +kernel
theorem dIX5_1 : decode cX5_init 1 = .ok (.invokespecial 3, 3) := by decide +kernel
theorem dIX5_4 : decode cX5_init 4 = .ok (.aload_n 0, 1) := by decide +kernel
theorem dIX5_5 : decode cX5_init 5 = .ok (.bipush 8, 2) := by decide +kernel
theorem dIX5_7 : decode cX5_init 7 = .ok (.newarray .int, 2) := by decide +kernel
theorem dIX5_9 : decode cX5_init 9 = .ok (.putfield 9, 3) := by decide +kernel
theorem dIX5_12 : decode cX5_init 12 = .ok (.aload_n 0, 1) := by decide +kernel
theorem dIX5_13 : decode cX5_init 13 = .ok (.bipush 13, 2) := by decide +kernel
theorem dIX5_15 : decode cX5_init 15 = .ok (.sipush 256, 3) := by decide +kernel
theorem dIX5_18 : decode cX5_init 18 = .ok (.multianewarray 15 2, 4) := by decide +kernel
theorem dIX5_22 : decode cX5_init 22 = .ok (.putfield 17, 3) := by decide +kernel
theorem dIX5_25 : decode cX5_init 25 = .ok (.aload_n 0, 1) := by decide +kernel
theorem dIX5_26 : decode cX5_init 26 = .ok (.sipush 256, 3) := by decide +kernel
theorem dIX5_29 : decode cX5_init 29 = .ok (.newarray .int, 2) := by decide +kernel
theorem dIX5_31 : decode cX5_init 31 = .ok (.putfield 20, 3) := by decide +kernel
theorem dIX5_34 : decode cX5_init 34 = .ok (.aload_n 0, 1) := by decide +kernel
theorem dIX5_35 : decode cX5_init 35 = .ok (.bipush 12, 2) := by decide +kernel
theorem dIX5_37 : decode cX5_init 37 = .ok (.newarray .int, 2) := by decide +kernel
theorem dIX5_39 : decode cX5_init 39 = .ok (.putfield 23, 3) := by decide +kernel
theorem dIX5_42 : decode cX5_init 42 = .ok (.return_, 1) := by decide +kernel
set_option maxHeartbeats 4000000 in
set_option maxRecDepth 100000 in
theorem cX5 (l : Launch) (D : va_G) (cy : Nat → ClassId) (h0 sz : Nat) : Met l mIX5.1 (wsM mIX5) mIX5.2.2.2.2 (ctPre D cy h0 sz (.inr (5, [.null, .int 0, .null, .null, .int 0, .int 0, .null, .int 0]))) (ctPost D (wX5 cy) h0 sz (.inr (5, [.null, .int 0, .null, .null, .int 0, .int 0, .null, .int 0]))) 17 3617 (va_A [(h0, .inr (5, [.null, .int 0, .null, .null, .int 0, .int 0, .null, .int 0]))] sz) := by
  refine Met.ofW (cc := cX5_init) (maxL := 1) (ret := none) (by decide) rfl ?_
  intro p e s m args below meth c s₁ B hml hv
  obtain ⟨rfl, hsz, hP, ⟨hK, hCt⟩, hD0⟩ := hv
  have hx := B.exec
  have hb := B.bytes
  have hr := B.returns
  have hts0 := atoms_spec (ws := wsM mIX5) B.pre
  have hts : ∀ w ∈ Gd, w.before _ s = true := fun w hw => hts0 w (List.mem_cons_of_mem _ hw)
  have hown : s.vm.findClass RX5 = some m.cls := findClass_of_methodNamed B.named
  have hlocks := B.notSynchronized
  have hin : meth.name = "<init>" := (name_of_methodNamed B.named B.method).1
  subst hsz
  have hD := hD0.self (sz := s.heap.size)
  generalize hAe : va_A [(h0, .inr (5, [.null, .int 0, .null, .null, .int 0, .int 0, .null, .int 0]))] s.heap.size = A at hD ⊢
  have hA : ∀ q : Nat, s.heap.size ≤ q → A q := fun q h => by rw [← hAe]; exact Or.inr h
  have hS : va_S A s.heap s.heap [] := va_S.rf
  have hP : va_P D vwCl ((h0, .inr (5, [.null, .int 0, .null, .null, .int 0, .int 0, .null, .int 0])) :: []) _ := hP
  have hD : va_D A ((h0, .inr (5, [.null, .int 0, .null, .null, .int 0, .int 0, .null, .int 0])) :: []) := hD
  have hl := lv_entry ([.ref h0]) (n := 1) (Nat.le_of_ble_eq_true rfl)
  rw [lg_entry_eq]
  generalize (lg_sl ([.ref h0]) ++ List.replicate (1 - (lg_sl ([.ref h0])).length) Slot.unset).toArray = ls at hl ⊢
  have hl : lv_has ls 1 [(0, .ref h0)] := hl
  refine lv_aload_n hx hb dIX5_0 rfl (lv_at hl 0 rfl) ?_
  refine W.objInit hx hb hown (hts _ (Gd_in (i := 233) (by decide +kernel) (by decide +kernel))) (hts _ (Gd_in (i := 87) (by decide +kernel) (by decide +kernel))) (hts _ (Gd_in (i := 88) (by decide +kernel) (by decide +kernel))) rfl (by rw [hml]; exact hl.1) rfl dIX5_1 (Nat.le_of_ble_eq_true rfl) (Nat.le_of_ble_eq_true rfl) ?_
  refine W.eq (g2 := F0 m 4 ls []) rfl ?_
  refine lv_aload_n hx hb dIX5_4 rfl (lv_at hl 0 rfl) ?_
  refine lv_bipush (v := 8) hx hb dIX5_5 (by decide) ?_
  refine ct_int (N := 8) hx hb (hts _ (Gd_in (i := 140) (by decide +kernel) (by decide +kernel))) hK hP hD hS hA (by decide) (by decide) (by decide) (Nat.le_of_ble_eq_true rfl) (Nat.le_of_ble_eq_true rfl) dIX5_7 (fun q7 H hP hD hS => ?_)
  refine W.widen (k := 1) (n := 8) (by decide) (by decide) ?_
  have hP : va_P D vwCl ((h0, .inr (5, [.null, .int 0, .null, .null, .int 0, .int 0, .null, .int 0])) :: [(q7, iA cy 8)]) _ := hP
  have hD : va_D A ((h0, .inr (5, [.null, .int 0, .null, .null, .int 0, .int 0, .null, .int 0])) :: [(q7, iA cy 8)]) := hD
  refine va_putF (D := D) (ci := 5) (v := .ref q7) (ty := .array .int) (C := RX5) (T := TX5) (N := 8) hx hb hts uGX5 tyX5 tyX5_ok nmX5 hown hK hP hD hS 0 rfl rfl 0 (by decide) (hts _ (Gd_in (i := 236) (by decide +kernel) (by decide +kernel))) (fun _ h9 => h9) rfl hin rfl (by decide +kernel) rfl rfl (Nat.le_of_ble_eq_true rfl) dIX5_9 (fun H locs hP hD hS => ?_)
  have hP : va_P D vwCl ((h0, .inr (5, [.ref q7, .int 0, .null, .null, .int 0, .int 0, .null, .int 0])) :: [(q7, iA cy 8)]) _ := hP
  have hD : va_D A ((h0, .inr (5, [.ref q7, .int 0, .null, .null, .int 0, .int 0, .null, .int 0])) :: [(q7, iA cy 8)]) := hD
  refine lv_aload_n hx hb dIX5_12 rfl (lv_at hl 0 rfl) ?_
  refine lv_bipush (v := 13) hx hb dIX5_13 (by decide) ?_
  refine lv_sipush (v := 256) hx hb dIX5_15 (by decide) ?_
  refine ct_multi (N := 13) (M := 256) hx hb hown (hts _ (Gd_in (i := 234) (by decide +kernel) (by decide +kernel))) hCt.2.2 (hts _ (Gd_in (i := 140) (by decide +kernel) (by decide +kernel))) hK hP hD hS hA (by decide) (by decide) (by decide) (by decide) (by decide) (by decide) (Nat.le_of_ble_eq_true rfl) (Nat.le_of_ble_eq_true rfl) dIX5_18 (fun q18 H hP hD hS => ?_)
  refine W.widen (k := 15) (n := 3349) (by decide) (by decide) ?_
  have hP : va_P D vwCl ((h0, .inr (5, [.ref q7, .int 0, .null, .null, .int 0, .int 0, .null, .int 0])) :: [(q7, iA cy 8), (q18, qA (cy 5) 13 (fun i => some (q18 + 1 + i))), (q18 + 1 + 0, iA cy 256), (q18 + 1 + 1, iA cy 256), (q18 + 1 + 2, iA cy 256), (q18 + 1 + 3, iA cy 256), (q18 + 1 + 4, iA cy 256), (q18 + 1 + 5, iA cy 256), (q18 + 1 + 6, iA cy 256), (q18 + 1 + 7, iA cy 256), (q18 + 1 + 8, iA cy 256), (q18 + 1 + 9, iA cy 256), (q18 + 1 + 10, iA cy 256), (q18 + 1 + 11, iA cy 256), (q18 + 1 + 12, iA cy 256)]) _ := hP
  have hD : va_D A ((h0, .inr (5, [.ref q7, .int 0, .null, .null, .int 0, .int 0, .null, .int 0])) :: [(q7, iA cy 8), (q18, qA (cy 5) 13 (fun i => some (q18 + 1 + i))), (q18 + 1 + 0, iA cy 256), (q18 + 1 + 1, iA cy 256), (q18 + 1 + 2, iA cy 256), (q18 + 1 + 3, iA cy 256), (q18 + 1 + 4, iA cy 256), (q18 + 1 + 5, iA cy 256), (q18 + 1 + 6, iA cy 256), (q18 + 1 + 7, iA cy 256), (q18 + 1 + 8, iA cy 256), (q18 + 1 + 9, iA cy 256), (q18 + 1 + 10, iA cy 256), (q18 + 1 + 11, iA cy 256), (q18 + 1 + 12, iA cy 256)]) := hD
  refine va_putF (D := D) (ci := 5) (v := .ref q18) (ty := .array (.array .int)) (C := RX5) (T := TX5) (N := 8) hx hb hts uGX5 tyX5 tyX5_ok nmX5 hown hK hP hD hS 0 rfl rfl 2 (by decide) (hts _ (Gd_in (i := 238) (by decide +kernel) (by decide +kernel))) (fun _ h9 => h9) rfl hin rfl (by decide +kernel) rfl rfl (Nat.le_of_ble_eq_true rfl) dIX5_22 (fun H locs hP hD hS => ?_)
  have hP : va_P D vwCl ((h0, .inr (5, [.ref q7, .int 0, .ref q18, .null, .int 0, .int 0, .null, .int 0])) :: [(q7, iA cy 8), (q18, qA (cy 5) 13 (fun i => some (q18 + 1 + i))), (q18 + 1 + 0, iA cy 256), (q18 + 1 + 1, iA cy 256), (q18 + 1 + 2, iA cy 256), (q18 + 1 + 3, iA cy 256), (q18 + 1 + 4, iA cy 256), (q18 + 1 + 5, iA cy 256), (q18 + 1 + 6, iA cy 256), (q18 + 1 + 7, iA cy 256), (q18 + 1 + 8, iA cy 256), (q18 + 1 + 9, iA cy 256), (q18 + 1 + 10, iA cy 256), (q18 + 1 + 11, iA cy 256), (q18 + 1 + 12, iA cy 256)]) _ := hP
  have hD : va_D A ((h0, .inr (5, [.ref q7, .int 0, .ref q18, .null, .int 0, .int 0, .null, .int 0])) :: [(q7, iA cy 8), (q18, qA (cy 5) 13 (fun i => some (q18 + 1 + i))), (q18 + 1 + 0, iA cy 256), (q18 + 1 + 1, iA cy 256), (q18 + 1 + 2, iA cy 256), (q18 + 1 + 3, iA cy 256), (q18 + 1 + 4, iA cy 256), (q18 + 1 + 5, iA cy 256), (q18 + 1 + 6, iA cy 256), (q18 + 1 + 7, iA cy 256), (q18 + 1 + 8, iA cy 256), (q18 + 1 + 9, iA cy 256), (q18 + 1 + 10, iA cy 256), (q18 + 1 + 11, iA cy 256), (q18 + 1 + 12, iA cy 256)]) := hD
  refine lv_aload_n hx hb dIX5_25 rfl (lv_at hl 0 rfl) ?_
  refine lv_sipush (v := 256) hx hb dIX5_26 (by decide) ?_
  refine ct_int (N := 256) hx hb (hts _ (Gd_in (i := 140) (by decide +kernel) (by decide +kernel))) hK hP hD hS hA (by decide) (by decide) (by decide) (Nat.le_of_ble_eq_true rfl) (Nat.le_of_ble_eq_true rfl) dIX5_29 (fun q29 H hP hD hS => ?_)
  refine W.widen (k := 16) (n := 3605) (by decide) (by decide) ?_
  have hP : va_P D vwCl ((h0, .inr (5, [.ref q7, .int 0, .ref q18, .null, .int 0, .int 0, .null, .int 0])) :: [(q7, iA cy 8), (q18, qA (cy 5) 13 (fun i => some (q18 + 1 + i))), (q18 + 1 + 0, iA cy 256), (q18 + 1 + 1, iA cy 256), (q18 + 1 + 2, iA cy 256), (q18 + 1 + 3, iA cy 256), (q18 + 1 + 4, iA cy 256), (q18 + 1 + 5, iA cy 256), (q18 + 1 + 6, iA cy 256), (q18 + 1 + 7, iA cy 256), (q18 + 1 + 8, iA cy 256), (q18 + 1 + 9, iA cy 256), (q18 + 1 + 10, iA cy 256), (q18 + 1 + 11, iA cy 256), (q18 + 1 + 12, iA cy 256), (q29, iA cy 256)]) _ := hP
  have hD : va_D A ((h0, .inr (5, [.ref q7, .int 0, .ref q18, .null, .int 0, .int 0, .null, .int 0])) :: [(q7, iA cy 8), (q18, qA (cy 5) 13 (fun i => some (q18 + 1 + i))), (q18 + 1 + 0, iA cy 256), (q18 + 1 + 1, iA cy 256), (q18 + 1 + 2, iA cy 256), (q18 + 1 + 3, iA cy 256), (q18 + 1 + 4, iA cy 256), (q18 + 1 + 5, iA cy 256), (q18 + 1 + 6, iA cy 256), (q18 + 1 + 7, iA cy 256), (q18 + 1 + 8, iA cy 256), (q18 + 1 + 9, iA cy 256), (q18 + 1 + 10, iA cy 256), (q18 + 1 + 11, iA cy 256), (q18 + 1 + 12, iA cy 256), (q29, iA cy 256)]) := hD
  refine va_putF (D := D) (ci := 5) (v := .ref q29) (ty := .array .int) (C := RX5) (T := TX5) (N := 8) hx hb hts uGX5 tyX5 tyX5_ok nmX5 hown hK hP hD hS 0 rfl rfl 3 (by decide) (hts _ (Gd_in (i := 239) (by decide +kernel) (by decide +kernel))) (fun _ h9 => h9) rfl hin rfl (by decide +kernel) rfl rfl (Nat.le_of_ble_eq_true rfl) dIX5_31 (fun H locs hP hD hS => ?_)
  have hP : va_P D vwCl ((h0, .inr (5, [.ref q7, .int 0, .ref q18, .ref q29, .int 0, .int 0, .null, .int 0])) :: [(q7, iA cy 8), (q18, qA (cy 5) 13 (fun i => some (q18 + 1 + i))), (q18 + 1 + 0, iA cy 256), (q18 + 1 + 1, iA cy 256), (q18 + 1 + 2, iA cy 256), (q18 + 1 + 3, iA cy 256), (q18 + 1 + 4, iA cy 256), (q18 + 1 + 5, iA cy 256), (q18 + 1 + 6, iA cy 256), (q18 + 1 + 7, iA cy 256), (q18 + 1 + 8, iA cy 256), (q18 + 1 + 9, iA cy 256), (q18 + 1 + 10, iA cy 256), (q18 + 1 + 11, iA cy 256), (q18 + 1 + 12, iA cy 256), (q29, iA cy 256)]) _ := hP
  have hD : va_D A ((h0, .inr (5, [.ref q7, .int 0, .ref q18, .ref q29, .int 0, .int 0, .null, .int 0])) :: [(q7, iA cy 8), (q18, qA (cy 5) 13 (fun i => some (q18 + 1 + i))), (q18 + 1 + 0, iA cy 256), (q18 + 1 + 1, iA cy 256), (q18 + 1 + 2, iA cy 256), (q18 + 1 + 3, iA cy 256), (q18 + 1 + 4, iA cy 256), (q18 + 1 + 5, iA cy 256), (q18 + 1 + 6, iA cy 256), (q18 + 1 + 7, iA cy 256), (q18 + 1 + 8, iA cy 256), (q18 + 1 + 9, iA cy 256), (q18 + 1 + 10, iA cy 256), (q18 + 1 + 11, iA cy 256), (q18 + 1 + 12, iA cy 256), (q29, iA cy 256)]) := hD
  refine lv_aload_n hx hb dIX5_34 rfl (lv_at hl 0 rfl) ?_
  refine lv_bipush (v := 12) hx hb dIX5_35 (by decide) ?_
  refine ct_int (N := 12) hx hb (hts _ (Gd_in (i := 140) (by decide +kernel) (by decide +kernel))) hK hP hD hS hA (by decide) (by decide) (by decide) (Nat.le_of_ble_eq_true rfl) (Nat.le_of_ble_eq_true rfl) dIX5_37 (fun q37 H hP hD hS => ?_)
  refine W.widen (k := 17) (n := 3617) (by decide) (by decide) ?_
  have hP : va_P D vwCl ((h0, .inr (5, [.ref q7, .int 0, .ref q18, .ref q29, .int 0, .int 0, .null, .int 0])) :: [(q7, iA cy 8), (q18, qA (cy 5) 13 (fun i => some (q18 + 1 + i))), (q18 + 1 + 0, iA cy 256), (q18 + 1 + 1, iA cy 256), (q18 + 1 + 2, iA cy 256), (q18 + 1 + 3, iA cy 256), (q18 + 1 + 4, iA cy 256), (q18 + 1 + 5, iA cy 256), (q18 + 1 + 6, iA cy 256), (q18 + 1 + 7, iA cy 256), (q18 + 1 + 8, iA cy 256), (q18 + 1 + 9, iA cy 256), (q18 + 1 + 10, iA cy 256), (q18 + 1 + 11, iA cy 256), (q18 + 1 + 12, iA cy 256), (q29, iA cy 256), (q37, iA cy 12)]) _ := hP
  have hD : va_D A ((h0, .inr (5, [.ref q7, .int 0, .ref q18, .ref q29, .int 0, .int 0, .null, .int 0])) :: [(q7, iA cy 8), (q18, qA (cy 5) 13 (fun i => some (q18 + 1 + i))), (q18 + 1 + 0, iA cy 256), (q18 + 1 + 1, iA cy 256), (q18 + 1 + 2, iA cy 256), (q18 + 1 + 3, iA cy 256), (q18 + 1 + 4, iA cy 256), (q18 + 1 + 5, iA cy 256), (q18 + 1 + 6, iA cy 256), (q18 + 1 + 7, iA cy 256), (q18 + 1 + 8, iA cy 256), (q18 + 1 + 9, iA cy 256), (q18 + 1 + 10, iA cy 256), (q18 + 1 + 11, iA cy 256), (q18 + 1 + 12, iA cy 256), (q29, iA cy 256), (q37, iA cy 12)]) := hD
  refine va_putF (D := D) (ci := 5) (v := .ref q37) (ty := .array .int) (C := RX5) (T := TX5) (N := 8) hx hb hts uGX5 tyX5 tyX5_ok nmX5 hown hK hP hD hS 0 rfl rfl 6 (by decide) (hts _ (Gd_in (i := 242) (by decide +kernel) (by decide +kernel))) (fun _ h9 => h9) rfl hin rfl (by decide +kernel) rfl rfl (Nat.le_of_ble_eq_true rfl) dIX5_39 (fun H locs hP hD hS => ?_)
  have hP : va_P D vwCl ((h0, .inr (5, [.ref q7, .int 0, .ref q18, .ref q29, .int 0, .int 0, .ref q37, .int 0])) :: [(q7, iA cy 8), (q18, qA (cy 5) 13 (fun i => some (q18 + 1 + i))), (q18 + 1 + 0, iA cy 256), (q18 + 1 + 1, iA cy 256), (q18 + 1 + 2, iA cy 256), (q18 + 1 + 3, iA cy 256), (q18 + 1 + 4, iA cy 256), (q18 + 1 + 5, iA cy 256), (q18 + 1 + 6, iA cy 256), (q18 + 1 + 7, iA cy 256), (q18 + 1 + 8, iA cy 256), (q18 + 1 + 9, iA cy 256), (q18 + 1 + 10, iA cy 256), (q18 + 1 + 11, iA cy 256), (q18 + 1 + 12, iA cy 256), (q29, iA cy 256), (q37, iA cy 12)]) _ := hP
  have hD : va_D A ((h0, .inr (5, [.ref q7, .int 0, .ref q18, .ref q29, .int 0, .int 0, .ref q37, .int 0])) :: [(q7, iA cy 8), (q18, qA (cy 5) 13 (fun i => some (q18 + 1 + i))), (q18 + 1 + 0, iA cy 256), (q18 + 1 + 1, iA cy 256), (q18 + 1 + 2, iA cy 256), (q18 + 1 + 3, iA cy 256), (q18 + 1 + 4, iA cy 256), (q18 + 1 + 5, iA cy 256), (q18 + 1 + 6, iA cy 256), (q18 + 1 + 7, iA cy 256), (q18 + 1 + 8, iA cy 256), (q18 + 1 + 9, iA cy 256), (q18 + 1 + 10, iA cy 256), (q18 + 1 + 11, iA cy 256), (q18 + 1 + 12, iA cy 256), (q29, iA cy 256), (q37, iA cy 12)]) := hD
  exact W.vret hx hb hr (fun t ht hW => ⟨⟨fun i => [h0, q7, q18, q18 + 1 + 0, q18 + 1 + 1, q18 + 1 + 2, q18 + 1 + 3, q18 + 1 + 4, q18 + 1 + 5, q18 + 1 + 6, q18 + 1 + 7, q18 + 1 + 8, q18 + 1 + 9, q18 + 1 + 10, q18 + 1 + 11, q18 + 1 + 12, q29, q37].getD i 0, rfl, rfl, by rw [ht]; exact hP, by rw [hAe]; exact hD⟩, by rw [hAe]; exact hS.F ht⟩) hS.2.2 dIX5_42 (hlocks := hlocks)
def wX4 (cy : Nat → ClassId) (u : Nat → Nat) : va_W := [(u 0, .inr (4, [.int 0, .ref (u 1), .ref (u 2), .ref (u 3), .ref (u 4), .int 0, .ref (u 5), .int 0, .int 0, .int 0, .int 0, .ref (u 6)])), (u 1, iA cy 4), (u 2, iA cy 4), (u 3, iA cy 4), (u 4, iA cy 4), (u 5, iA cy 8), (u 6, .inr (1, [.int 0, .ref (u 7), .ref (u 8), .ref (u 9), .ref (u 10), .ref (u 11), .ref (u 12), .int 0])), (u 7, iA cy 24), (u 8, iA cy 24), (u 9, iA cy 24), (u 10, iA cy 24), (u 11, iA cy 24), (u 12, iA cy 24)]
def mIX4 : MS := (yX4_init, cX4_init, 1, none, { frames := 2, cells := 12, slots := 176, locals := 32 })
theorem dIX4_0 : decode cX4_init 0 = .ok (.aload_n 0, 1) := by decide +kernel
theorem dIX4_1 : decode cX4_init 1 = .ok (.invokespecial 3, 3) := by decide +kernel
theorem dIX4_4 : decode cX4_init 4 = .ok (.aload_n 0, 1) := by decide +kernel
theorem dIX4_5 : decode cX4_init 5 = .ok (.iconst 4, 1) := by decide +kernel
theorem dIX4_6 : decode cX4_init 6 = .ok (.newarray .int, 2) := by decide +kernel
theorem dIX4_8 : decode cX4_init 8 = .ok (.putfield 9, 3) := by decide +kernel
theorem dIX4_11 : decode cX4_init 11 = .ok (.aload_n 0, 1) := by decide +kernel
theorem dIX4_12 : decode cX4_init 12 = .ok (.iconst 4, 1) := by decide +kernel
theorem dIX4_13 : decode cX4_init 13 = .ok (.newarray .int, 2) := by decide +kernel
theorem dIX4_15 : decode cX4_init 15 = .ok (.putfield 15, 3) := by decide +kernel
theorem dIX4_18 : decode cX4_init 18 = .ok (.aload_n 0, 1) := by decide +kernel
theorem dIX4_19 : decode cX4_init 19 = .ok (.iconst 4, 1) := by decide +kernel
theorem dIX4_20 : decode cX4_init 20 = .ok (.newarray .int, 2) := by decide +kernel
theorem dIX4_22 : decode cX4_init 22 = .ok (.putfield 18, 3) := by decide +kernel
theorem dIX4_25 : decode cX4_init 25 = .ok (.aload_n 0, 1) := by decide +kernel
theorem dIX4_26 : decode cX4_init 26 = .ok (.iconst 4, 1) := by decide +kernel
theorem dIX4_27 : decode cX4_init 27 = .ok (.newarray .int, 2) := by decide +kernel
theorem dIX4_29 : decode cX4_init 29 = .ok (.putfield 21, 3) := by decide +kernel
theorem dIX4_32 : decode cX4_init 32 = .ok (.aload_n 0, 1) := by decide +kernel
theorem dIX4_33 : decode cX4_init 33 = .ok (.bipush 8, 2) := by decide +kernel
theorem dIX4_35 : decode cX4_init 35 = .ok (.newarray .int, 2) := by decide +kernel
theorem dIX4_37 : decode cX4_init 37 = .ok (.putfield 24, 3) := by decide +kernel
theorem dIX4_40 : decode cX4_init 40 = .ok (.aload_n 0, 1) := by decide +kernel
theorem dIX4_41 : decode cX4_init 41 = .ok (.new 27, 3) := by decide +kernel
theorem dIX4_44 : decode cX4_init 44 = .ok (.dup, 1) := by decide +kernel
theorem dIX4_45 : decode cX4_init 45 = .ok (.invokespecial 29, 3) := by decide +kernel
theorem dIX4_48 : decode cX4_init 48 = .ok (.putfield 30, 3) := by decide +kernel
theorem dIX4_51 : decode cX4_init 51 = .ok (.return_, 1) := by decide +kernel
set_option maxHeartbeats 4000000 in
set_option maxRecDepth 100000 in
theorem cX4 (l : Launch) (D : va_G) (cy : Nat → ClassId) (h0 sz : Nat) : Met l mIX4.1 (wsM mIX4) mIX4.2.2.2.2 (ctPre D cy h0 sz (.inr (4, [.int 0, .null, .null, .null, .null, .int 0, .null, .int 0, .int 0, .int 0, .int 0, .null]))) (ctPost D (wX4 cy) h0 sz (.inr (4, [.int 0, .null, .null, .null, .null, .int 0, .null, .int 0, .int 0, .int 0, .int 0, .null]))) 12 176 (va_A [(h0, .inr (4, [.int 0, .null, .null, .null, .null, .int 0, .null, .int 0, .int 0, .int 0, .int 0, .null]))] sz) := by
  refine Met.ofW (cc := cX4_init) (maxL := 1) (ret := none) (by decide) rfl ?_
  intro p e s m args below meth c s₁ B hml hv
  obtain ⟨rfl, hsz, hP, ⟨hK, hCt⟩, hD0⟩ := hv
  have hx := B.exec
  have hb := B.bytes
  have hr := B.returns
  have hts0 := atoms_spec (ws := wsM mIX4) B.pre
  have hts : ∀ w ∈ Gd, w.before _ s = true := fun w hw => hts0 w (List.mem_cons_of_mem _ hw)
  have hown : s.vm.findClass RX4 = some m.cls := findClass_of_methodNamed B.named
  have hlocks := B.notSynchronized
  have hin : meth.name = "<init>" := (name_of_methodNamed B.named B.method).1
  subst hsz
  have hD := hD0.self (sz := s.heap.size)
  generalize hAe : va_A [(h0, .inr (4, [.int 0, .null, .null, .null, .null, .int 0, .null, .int 0, .int 0, .int 0, .int 0, .null]))] s.heap.size = A at hD ⊢
  have hA : ∀ q : Nat, s.heap.size ≤ q → A q := fun q h => by rw [← hAe]; exact Or.inr h
  have hS : va_S A s.heap s.heap [] := va_S.rf
  have hP : va_P D vwCl ((h0, .inr (4, [.int 0, .null, .null, .null, .null, .int 0, .null, .int 0, .int 0, .int 0, .int 0, .null])) :: []) _ := hP
  have hD : va_D A ((h0, .inr (4, [.int 0, .null, .null, .null, .null, .int 0, .null, .int 0, .int 0, .int 0, .int 0, .null])) :: []) := hD
  have hl := lv_entry ([.ref h0]) (n := 1) (Nat.le_of_ble_eq_true rfl)
  rw [lg_entry_eq]
  generalize (lg_sl ([.ref h0]) ++ List.replicate (1 - (lg_sl ([.ref h0])).length) Slot.unset).toArray = ls at hl ⊢
  have hl : lv_has ls 1 [(0, .ref h0)] := hl
  refine lv_aload_n hx hb dIX4_0 rfl (lv_at hl 0 rfl) ?_
  refine W.objInit hx hb hown (hts _ (Gd_in (i := 94) (by decide +kernel) (by decide +kernel))) (hts _ (Gd_in (i := 87) (by decide +kernel) (by decide +kernel))) (hts _ (Gd_in (i := 88) (by decide +kernel) (by decide +kernel))) rfl (by rw [hml]; exact hl.1) rfl dIX4_1 (Nat.le_of_ble_eq_true rfl) (Nat.le_of_ble_eq_true rfl) ?_
  refine W.eq (g2 := F0 m 4 ls []) rfl ?_
  refine lv_aload_n hx hb dIX4_4 rfl (lv_at hl 0 rfl) ?_
  refine lv_iconst (v := 4) hx hb dIX4_5 (by decide) ?_
  refine ct_int (N := 4) hx hb (hts _ (Gd_in (i := 140) (by decide +kernel) (by decide +kernel))) hK hP hD hS hA (by decide) (by decide) (by decide) (Nat.le_of_ble_eq_true rfl) (Nat.le_of_ble_eq_true rfl) dIX4_6 (fun q6 H hP hD hS => ?_)
  refine W.widen (k := 1) (n := 4) (by decide) (by decide) ?_
  have hP : va_P D vwCl ((h0, .inr (4, [.int 0, .null, .null, .null, .null, .int 0, .null, .int 0, .int 0, .int 0, .int 0, .null])) :: [(q6, iA cy 4)]) _ := hP
  have hD : va_D A ((h0, .inr (4, [.int 0, .null, .null, .null, .null, .int 0, .null, .int 0, .int 0, .int 0, .int 0, .null])) :: [(q6, iA cy 4)]) := hD
  refine va_putF (D := D) (ci := 4) (v := .ref q6) (ty := .array .int) (C := RX4) (T := TX4) (N := 12) hx hb hts uGX4 tyX4 tyX4_ok nmX4 hown hK hP hD hS 0 rfl rfl 1 (by decide) (hts _ (Gd_in (i := 145) (by decide +kernel) (by decide +kernel))) (fun _ h9 => h9) rfl hin rfl (by decide +kernel) rfl rfl (Nat.le_of_ble_eq_true rfl) dIX4_8 (fun H locs hP hD hS => ?_)
  have hP : va_P D vwCl ((h0, .inr (4, [.int 0, .ref q6, .null, .null, .null, .int 0, .null, .int 0, .int 0, .int 0, .int 0, .null])) :: [(q6, iA cy 4)]) _ := hP
  have hD : va_D A ((h0, .inr (4, [.int 0, .ref q6, .null, .null, .null, .int 0, .null, .int 0, .int 0, .int 0, .int 0, .null])) :: [(q6, iA cy 4)]) := hD
  refine lv_aload_n hx hb dIX4_11 rfl (lv_at hl 0 rfl) ?_
  refine lv_iconst (v := 4) hx hb dIX4_12 (by decide) ?_
  refine ct_int (N := 4) hx hb (hts _ (Gd_in (i := 140) (by decide +kernel) (by decide +kernel))) hK hP hD hS hA (by decide) (by decide) (by decide) (Nat.le_of_ble_eq_true rfl) (Nat.le_of_ble_eq_true rfl) dIX4_13 (fun q13 H hP hD hS => ?_)
  refine W.widen (k := 2) (n := 8) (by decide) (by decide) ?_
  have hP : va_P D vwCl ((h0, .inr (4, [.int 0, .ref q6, .null, .null, .null, .int 0, .null, .int 0, .int 0, .int 0, .int 0, .null])) :: [(q6, iA cy 4), (q13, iA cy 4)]) _ := hP
  have hD : va_D A ((h0, .inr (4, [.int 0, .ref q6, .null, .null, .null, .int 0, .null, .int 0, .int 0, .int 0, .int 0, .null])) :: [(q6, iA cy 4), (q13, iA cy 4)]) := hD
  refine va_putF (D := D) (ci := 4) (v := .ref q13) (ty := .array .int) (C := RX4) (T := TX4) (N := 12) hx hb hts uGX4 tyX4 tyX4_ok nmX4 hown hK hP hD hS 0 rfl rfl 2 (by decide) (hts _ (Gd_in (i := 148) (by decide +kernel) (by decide +kernel))) (fun _ h9 => h9) rfl hin rfl (by decide +kernel) rfl rfl (Nat.le_of_ble_eq_true rfl) dIX4_15 (fun H locs hP hD hS => ?_)
  have hP : va_P D vwCl ((h0, .inr (4, [.int 0, .ref q6, .ref q13, .null, .null, .int 0, .null, .int 0, .int 0, .int 0, .int 0, .null])) :: [(q6, iA cy 4), (q13, iA cy 4)]) _ := hP
  have hD : va_D A ((h0, .inr (4, [.int 0, .ref q6, .ref q13, .null, .null, .int 0, .null, .int 0, .int 0, .int 0, .int 0, .null])) :: [(q6, iA cy 4), (q13, iA cy 4)]) := hD
  refine lv_aload_n hx hb dIX4_18 rfl (lv_at hl 0 rfl) ?_
  refine lv_iconst (v := 4) hx hb dIX4_19 (by decide) ?_
  refine ct_int (N := 4) hx hb (hts _ (Gd_in (i := 140) (by decide +kernel) (by decide +kernel))) hK hP hD hS hA (by decide) (by decide) (by decide) (Nat.le_of_ble_eq_true rfl) (Nat.le_of_ble_eq_true rfl) dIX4_20 (fun q20 H hP hD hS => ?_)
  refine W.widen (k := 3) (n := 12) (by decide) (by decide) ?_
  have hP : va_P D vwCl ((h0, .inr (4, [.int 0, .ref q6, .ref q13, .null, .null, .int 0, .null, .int 0, .int 0, .int 0, .int 0, .null])) :: [(q6, iA cy 4), (q13, iA cy 4), (q20, iA cy 4)]) _ := hP
  have hD : va_D A ((h0, .inr (4, [.int 0, .ref q6, .ref q13, .null, .null, .int 0, .null, .int 0, .int 0, .int 0, .int 0, .null])) :: [(q6, iA cy 4), (q13, iA cy 4), (q20, iA cy 4)]) := hD
  refine va_putF (D := D) (ci := 4) (v := .ref q20) (ty := .array .int) (C := RX4) (T := TX4) (N := 12) hx hb hts uGX4 tyX4 tyX4_ok nmX4 hown hK hP hD hS 0 rfl rfl 3 (by decide) (hts _ (Gd_in (i := 150) (by decide +kernel) (by decide +kernel))) (fun _ h9 => h9) rfl hin rfl (by decide +kernel) rfl rfl (Nat.le_of_ble_eq_true rfl) dIX4_22 (fun H locs hP hD hS => ?_)
  have hP : va_P D vwCl ((h0, .inr (4, [.int 0, .ref q6, .ref q13, .ref q20, .null, .int 0, .null, .int 0, .int 0, .int 0, .int 0, .null])) :: [(q6, iA cy 4), (q13, iA cy 4), (q20, iA cy 4)]) _ := hP
  have hD : va_D A ((h0, .inr (4, [.int 0, .ref q6, .ref q13, .ref q20, .null, .int 0, .null, .int 0, .int 0, .int 0, .int 0, .null])) :: [(q6, iA cy 4), (q13, iA cy 4), (q20, iA cy 4)]) := hD
  refine lv_aload_n hx hb dIX4_25 rfl (lv_at hl 0 rfl) ?_
  refine lv_iconst (v := 4) hx hb dIX4_26 (by decide) ?_
  refine ct_int (N := 4) hx hb (hts _ (Gd_in (i := 140) (by decide +kernel) (by decide +kernel))) hK hP hD hS hA (by decide) (by decide) (by decide) (Nat.le_of_ble_eq_true rfl) (Nat.le_of_ble_eq_true rfl) dIX4_27 (fun q27 H hP hD hS => ?_)
  refine W.widen (k := 4) (n := 16) (by decide) (by decide) ?_
  have hP : va_P D vwCl ((h0, .inr (4, [.int 0, .ref q6, .ref q13, .ref q20, .null, .int 0, .null, .int 0, .int 0, .int 0, .int 0, .null])) :: [(q6, iA cy 4), (q13, iA cy 4), (q20, iA cy 4), (q27, iA cy 4)]) _ := hP
  have hD : va_D A ((h0, .inr (4, [.int 0, .ref q6, .ref q13, .ref q20, .null, .int 0, .null, .int 0, .int 0, .int 0, .int 0, .null])) :: [(q6, iA cy 4), (q13, iA cy 4), (q20, iA cy 4), (q27, iA cy 4)]) := hD
  refine va_putF (D := D) (ci := 4) (v := .ref q27) (ty := .array .int) (C := RX4) (T := TX4) (N := 12) hx hb hts uGX4 tyX4 tyX4_ok nmX4 hown hK hP hD hS 0 rfl rfl 4 (by decide) (hts _ (Gd_in (i := 153) (by decide +kernel) (by decide +kernel))) (fun _ h9 => h9) rfl hin rfl (by decide +kernel) rfl rfl (Nat.le_of_ble_eq_true rfl) dIX4_29 (fun H locs hP hD hS => ?_)
  have hP : va_P D vwCl ((h0, .inr (4, [.int 0, .ref q6, .ref q13, .ref q20, .ref q27, .int 0, .null, .int 0, .int 0, .int 0, .int 0, .null])) :: [(q6, iA cy 4), (q13, iA cy 4), (q20, iA cy 4), (q27, iA cy 4)]) _ := hP
  have hD : va_D A ((h0, .inr (4, [.int 0, .ref q6, .ref q13, .ref q20, .ref q27, .int 0, .null, .int 0, .int 0, .int 0, .int 0, .null])) :: [(q6, iA cy 4), (q13, iA cy 4), (q20, iA cy 4), (q27, iA cy 4)]) := hD
  refine lv_aload_n hx hb dIX4_32 rfl (lv_at hl 0 rfl) ?_
  refine lv_bipush (v := 8) hx hb dIX4_33 (by decide) ?_
  refine ct_int (N := 8) hx hb (hts _ (Gd_in (i := 140) (by decide +kernel) (by decide +kernel))) hK hP hD hS hA (by decide) (by decide) (by decide) (Nat.le_of_ble_eq_true rfl) (Nat.le_of_ble_eq_true rfl) dIX4_35 (fun q35 H hP hD hS => ?_)
  refine W.widen (k := 5) (n := 24) (by decide) (by decide) ?_
  have hP : va_P D vwCl ((h0, .inr (4, [.int 0, .ref q6, .ref q13, .ref q20, .ref q27, .int 0, .null, .int 0, .int 0, .int 0, .int 0, .null])) :: [(q6, iA cy 4), (q13, iA cy 4), (q20, iA cy 4), (q27, iA cy 4), (q35, iA cy 8)]) _ := hP
  have hD : va_D A ((h0, .inr (4, [.int 0, .ref q6, .ref q13, .ref q20, .ref q27, .int 0, .null, .int 0, .int 0, .int 0, .int 0, .null])) :: [(q6, iA cy 4), (q13, iA cy 4), (q20, iA cy 4), (q27, iA cy 4), (q35, iA cy 8)]) := hD
  refine va_putF (D := D) (ci := 4) (v := .ref q35) (ty := .array .int) (C := RX4) (T := TX4) (N := 12) hx hb hts uGX4 tyX4 tyX4_ok nmX4 hown hK hP hD hS 0 rfl rfl 6 (by decide) (hts _ (Gd_in (i := 156) (by decide +kernel) (by decide +kernel))) (fun _ h9 => h9) rfl hin rfl (by decide +kernel) rfl rfl (Nat.le_of_ble_eq_true rfl) dIX4_37 (fun H locs hP hD hS => ?_)
  have hP : va_P D vwCl ((h0, .inr (4, [.int 0, .ref q6, .ref q13, .ref q20, .ref q27, .int 0, .ref q35, .int 0, .int 0, .int 0, .int 0, .null])) :: [(q6, iA cy 4), (q13, iA cy 4), (q20, iA cy 4), (q27, iA cy 4), (q35, iA cy 8)]) _ := hP
  have hD : va_D A ((h0, .inr (4, [.int 0, .ref q6, .ref q13, .ref q20, .ref q27, .int 0, .ref q35, .int 0, .int 0, .int 0, .int 0, .null])) :: [(q6, iA cy 4), (q13, iA cy 4), (q20, iA cy 4), (q27, iA cy 4), (q35, iA cy 8)]) := hD
  refine lv_aload_n hx hb dIX4_40 rfl (lv_at hl 0 rfl) ?_
  refine va_new (ci := 1) (fs := [.int 0, .null, .null, .null, .null, .null, .null, .int 0]) (C := RX1) (T := TX1) (N := 8) hx hb hts uGX1 tyX1 tyX1_ok hown (hts _ (Gd_in (i := 95) (by decide +kernel) (by decide +kernel))) (hts _ (Gd_in (i := 96) (by decide +kernel) (by decide +kernel))) (hts _ (Gd_in (i := 67) (by decide +kernel) (by decide +kernel))) hK hP hD hS hA rfl (fun j hj => by rcases (show j = 0 ∨ j = 1 ∨ j = 2 ∨ j = 3 ∨ j = 4 ∨ j = 5 ∨ j = 6 ∨ j = 7 by omega) with rfl | rfl | rfl | rfl | rfl | rfl | rfl | rfl <;> rfl) (Nat.le_of_ble_eq_true rfl) (Nat.le_of_ble_eq_true rfl) dIX4_41 (fun q41 H hP hD hS => ?_)
  refine W.widen (k := 6) (n := 32) (by decide) (by decide) ?_
  have hP : va_P D vwCl (((h0, .inr (4, [.int 0, .ref q6, .ref q13, .ref q20, .ref q27, .int 0, .ref q35, .int 0, .int 0, .int 0, .int 0, .null])) :: [(q6, iA cy 4), (q13, iA cy 4), (q20, iA cy 4), (q27, iA cy 4), (q35, iA cy 8)]) ++ [(q41, .inr (1, [.int 0, .null, .null, .null, .null, .null, .null, .int 0]))]) _ := hP
  have hD : va_D A (((h0, .inr (4, [.int 0, .ref q6, .ref q13, .ref q20, .ref q27, .int 0, .ref q35, .int 0, .int 0, .int 0, .int 0, .null])) :: [(q6, iA cy 4), (q13, iA cy 4), (q20, iA cy 4), (q27, iA cy 4), (q35, iA cy 8)]) ++ [(q41, .inr (1, [.int 0, .null, .null, .null, .null, .null, .null, .int 0]))]) := hD
  refine lv_dup hx hb dIX4_44 rfl ?_
  refine ct_join (w := wX1 cy) (wr := (h0, .inr (4, [.int 0, .ref q6, .ref q13, .ref q20, .ref q27, .int 0, .ref q35, .int 0, .int 0, .int 0, .int 0, .null])) :: [(q6, iA cy 4), (q13, iA cy 4), (q20, iA cy 4), (q27, iA cy 4), (q35, iA cy 8)]) (q := q41) (e0 := .inr (1, [.int 0, .null, .null, .null, .null, .null, .null, .int 0])) (va_runIN (As := []) (rest := [.ref q41, .ref h0]) (host := "DatedJars") ⟨hx, hb, hml, hown, hts⟩ (cX1 l D cy q41 _) ⟨va_cnB 0 hts (eg_wsG (ms := mIX1) (Gd_in (i := 99) (by decide +kernel) (by decide +kernel))) rfl rfl rfl hCt.1.1 (hts _ (Gd_in (i := 67) (by decide +kernel) (by decide +kernel))) ⟨by decide +kernel, by decide +kernel, by decide +kernel⟩ ⟨(Nat.le_of_ble_eq_true rfl), (Nat.le_of_ble_eq_true rfl)⟩, rfl, hts _ (Gd_in (i := 98) (by decide +kernel) (by decide +kernel))⟩ ⟨ct_blind, fun U hU hW => ⟨rfl, by rw [hU], by rw [hU]; exact ct_lastP hP, ⟨va_K.moved hW.alike hK, hCt.warm hW⟩, ct_lastD hD⟩⟩ rfl rfl hl.1 rfl (lv_room (Nat.le_of_ble_eq_true rfl)) dIX4_45 ⟨(Nat.le_of_ble_eq_true rfl), (Nat.le_of_ble_eq_true rfl)⟩) hP hD hS hA (fun u1 H locs e1 hPn hDn hSn => ?_)
  subst e1
  refine W.widen (k := 12) (n := 176) (by decide) (by decide) ?_
  have hS := hSn
  have hP := hPn
  have hD := hDn
  have hP : va_P D vwCl ((h0, .inr (4, [.int 0, .ref q6, .ref q13, .ref q20, .ref q27, .int 0, .ref q35, .int 0, .int 0, .int 0, .int 0, .null])) :: ([(q6, iA cy 4), (q13, iA cy 4), (q20, iA cy 4), (q27, iA cy 4), (q35, iA cy 8)] ++ wX1 cy u1)) _ := hP
  have hD : va_D A ((h0, .inr (4, [.int 0, .ref q6, .ref q13, .ref q20, .ref q27, .int 0, .ref q35, .int 0, .int 0, .int 0, .int 0, .null])) :: ([(q6, iA cy 4), (q13, iA cy 4), (q20, iA cy 4), (q27, iA cy 4), (q35, iA cy 8)] ++ wX1 cy u1)) := hD
  clear hPn hDn hSn
  refine va_putF (D := D) (ci := 4) (v := .ref (u1 0)) (ty := .object "DatedJars$Cellar") (C := RX4) (T := TX4) (N := 12) hx hb hts uGX4 tyX4 tyX4_ok nmX4 hown hK hP hD hS 0 rfl rfl 11 (by decide) (hts _ (Gd_in (i := 167) (by decide +kernel) (by decide +kernel))) (fun _ h9 => h9) rfl hin rfl (by decide +kernel) rfl rfl (Nat.le_of_ble_eq_true rfl) dIX4_48 (fun H locs hP hD hS => ?_)
  have hP : va_P D vwCl ((h0, .inr (4, [.int 0, .ref q6, .ref q13, .ref q20, .ref q27, .int 0, .ref q35, .int 0, .int 0, .int 0, .int 0, .ref (u1 0)])) :: ([(q6, iA cy 4), (q13, iA cy 4), (q20, iA cy 4), (q27, iA cy 4), (q35, iA cy 8)] ++ wX1 cy u1)) _ := hP
  have hD : va_D A ((h0, .inr (4, [.int 0, .ref q6, .ref q13, .ref q20, .ref q27, .int 0, .ref q35, .int 0, .int 0, .int 0, .int 0, .ref (u1 0)])) :: ([(q6, iA cy 4), (q13, iA cy 4), (q20, iA cy 4), (q27, iA cy 4), (q35, iA cy 8)] ++ wX1 cy u1)) := hD
  exact W.vret hx hb hr (fun t ht hW => ⟨⟨fun i => [h0, q6, q13, q20, q27, q35, (u1 0), (u1 1), (u1 2), (u1 3), (u1 4), (u1 5), (u1 6)].getD i 0, rfl, rfl, by rw [ht]; exact hP, by rw [hAe]; exact hD⟩, by rw [hAe]; exact hS.F ht⟩) hS.2.2 dIX4_51 (hlocks := hlocks)
def wX8 (cy : Nat → ClassId) (u : Nat → Nat) : va_W := [(u 0, .inr (8, [.ref (u 1), .ref (u 2), .ref (u 3), .int 1, .ref (u 4), .ref (u 5), .ref (u 6), .int 0, .int 0, .int 0, .int 0, .ref (u 7), .int 0, .int 0, .int 0, .int 0, .int 0, .int (-1), .ref (u 8), .ref (u 9), .int 0, .ref (u 10), .ref (u 11), .ref (u 12), .int 0, .ref (u 13), .ref (u 14), .int 0])), (u 1, iA cy 800), (u 2, .inl (cy 3, 2, .inl (fun _ => 0))), (u 3, .inl (cy 1, 16, .inl (upd (fun _ => 0) 0 10))), (u 4, iA cy 8), (u 5, iA cy 8), (u 6, iA cy 60), (u 7, iA cy 400), (u 8, iA cy 4), (u 9, iA cy 8), (u 10, iA cy 3400), (u 11, iA cy 12), (u 12, iA cy 12), (u 13, iA cy 30), (u 14, iA cy 30)]
def mIX8 : MS := (yX8_init, cX8_init, 1, none, { frames := 1, cells := 14, slots := 4790, locals := 12 })
theorem dIX8_0 : decode cX8_init 0 = .ok (.aload_n 0, 1) := by decide +kernel
theorem dIX8_1 : decode cX8_init 1 = .ok (.invokespecial 1, 3) := by decide +kernel
theorem dIX8_4 : decode cX8_init 4 = .ok (.aload_n 0, 1) := by decide +kernel
theorem dIX8_5 : decode cX8_init 5 = .ok (.sipush 800, 3) := by decide +kernel
theorem dIX8_8 : decode cX8_init 8 = .ok (.newarray .int, 2) := by decide +kernel
theorem dIX8_10 : decode cX8_init 10 = .ok (.putfield 7, 3) := by decide +kernel
theorem dIX8_13 : decode cX8_init 13 = .ok (.aload_n 0, 1) := by decide +kernel
theorem dIX8_14 : decode cX8_init 14 = .ok (.iconst 2, 1) := by decide +kernel
theorem dIX8_15 : decode cX8_init 15 = .ok (.newarray .boolean, 2) := by decide +kernel
theorem dIX8_17 : decode cX8_init 17 = .ok (.putfield 13, 3) := by decide +kernel
theorem dIX8_20 : decode cX8_init 20 = .ok (.aload_n 0, 1) := by decide +kernel
theorem dIX8_21 : decode cX8_init 21 = .ok (.bipush 16, 2) := by decide +kernel
theorem dIX8_23 : decode cX8_init 23 = .ok (.newarray .int, 2) := by decide +kernel
theorem dIX8_25 : decode cX8_init 25 = .ok (.putfield 17, 3) := by decide +kernel
theorem dIX8_28 : decode cX8_init 28 = .ok (.aload_n 0, 1) := by decide +kernel
theorem dIX8_29 : decode cX8_init 29 = .ok (.bipush 8, 2) := by decide +kernel
theorem dIX8_31 : decode cX8_init 31 = .ok (.newarray .int, 2) := by decide +kernel
theorem dIX8_33 : decode cX8_init 33 = .ok (.putfield 20, 3) := by decide +kernel
theorem dIX8_36 : decode cX8_init 36 = .ok (.aload_n 0, 1) := by decide +kernel
theorem dIX8_37 : decode cX8_init 37 = .ok (.bipush 8, 2) := by decide +kernel
theorem dIX8_39 : decode cX8_init 39 = .ok (.newarray .int, 2) := by decide +kernel
theorem dIX8_41 : decode cX8_init 41 = .ok (.putfield 23, 3) := by decide +kernel
theorem dIX8_44 : decode cX8_init 44 = .ok (.aload_n 0, 1) := by decide +kernel
theorem dIX8_45 : decode cX8_init 45 = .ok (.bipush 60, 2) := by decide +kernel
theorem dIX8_47 : decode cX8_init 47 = .ok (.newarray .int, 2) := by decide +kernel
theorem dIX8_49 : decode cX8_init 49 = .ok (.putfield 26, 3) := by decide +kernel
theorem dIX8_52 : decode cX8_init 52 = .ok (.aload_n 0, 1) := by decide +kernel
theorem dIX8_53 : decode cX8_init 53 = .ok (.sipush 400, 3) := by decide +kernel
theorem dIX8_56 : decode cX8_init 56 = .ok (.newarray .int, 2) := by decide +kernel
theorem dIX8_58 : decode cX8_init 58 = .ok (.putfield 29, 3) := by decide +kernel
theorem dIX8_61 : decode cX8_init 61 = .ok (.aload_n 0, 1) := by decide +kernel
theorem dIX8_62 : decode cX8_init 62 = .ok (.iconst (-1), 1) := by decide +kernel
theorem dIX8_63 : decode cX8_init 63 = .ok (.putfield 32, 3) := by decide +kernel
theorem dIX8_66 : decode cX8_init 66 = .ok (.aload_n 0, 1) := by decide +kernel
theorem dIX8_67 : decode cX8_init 67 = .ok (.iconst 4, 1) := by decide +kernel
theorem dIX8_68 : decode cX8_init 68 = .ok (.newarray .int, 2) := by decide +kernel
theorem dIX8_70 : decode cX8_init 70 = .ok (.putfield 36, 3) := by decide +kernel
theorem dIX8_73 : decode cX8_init 73 = .ok (.aload_n 0, 1) := by decide +kernel
theorem dIX8_74 : decode cX8_init 74 = .ok (.bipush 8, 2) := by decide +kernel
theorem dIX8_76 : decode cX8_init 76 = .ok (.newarray .int, 2) := by decide +kernel
theorem dIX8_78 : decode cX8_init 78 = .ok (.putfield 39, 3) := by decide +kernel
theorem dIX8_81 : decode cX8_init 81 = .ok (.aload_n 0, 1) := by decide +kernel
theorem dIX8_82 : decode cX8_init 82 = .ok (.sipush 3400, 3) := by decide +kernel
theorem dIX8_85 : decode cX8_init 85 = .ok (.newarray .int, 2) := by decide +kernel
theorem dIX8_87 : decode cX8_init 87 = .ok (.putfield 42, 3) := by decide +kernel
theorem dIX8_90 : decode cX8_init 90 = .ok (.aload_n 0, 1) := by decide +kernel
theorem dIX8_91 : decode cX8_init 91 = .ok (.bipush 12, 2) := by decide +kernel
theorem dIX8_93 : decode cX8_init 93 = .ok (.newarray .int, 2) := by decide +kernel
theorem dIX8_95 : decode cX8_init 95 = .ok (.putfield 45, 3) := by decide +kernel
theorem dIX8_98 : decode cX8_init 98 = .ok (.aload_n 0, 1) := by decide +kernel
theorem dIX8_99 : decode cX8_init 99 = .ok (.bipush 12, 2) := by decide +kernel
theorem dIX8_101 : decode cX8_init 101 = .ok (.newarray .int, 2) := by decide +kernel
theorem dIX8_103 : decode cX8_init 103 = .ok (.putfield 48, 3) := by decide +kernel
theorem dIX8_106 : decode cX8_init 106 = .ok (.aload_n 0, 1) := by decide +kernel
theorem dIX8_107 : decode cX8_init 107 = .ok (.bipush 30, 2) := by decide +kernel
theorem dIX8_109 : decode cX8_init 109 = .ok (.newarray .int, 2) := by decide +kernel
theorem dIX8_111 : decode cX8_init 111 = .ok (.putfield 51, 3) := by decide +kernel
theorem dIX8_114 : decode cX8_init 114 = .ok (.aload_n 0, 1) := by decide +kernel
theorem dIX8_115 : decode cX8_init 115 = .ok (.bipush 30, 2) := by decide +kernel
theorem dIX8_117 : decode cX8_init 117 = .ok (.newarray .int, 2) := by decide +kernel
theorem dIX8_119 : decode cX8_init 119 = .ok (.putfield 54, 3) := by decide +kernel
theorem dIX8_122 : decode cX8_init 122 = .ok (.aload_n 0, 1) := by decide +kernel
theorem dIX8_123 : decode cX8_init 123 = .ok (.getfield 17, 3) := by decide +kernel
theorem dIX8_126 : decode cX8_init 126 = .ok (.iconst 0, 1) := by decide +kernel
theorem dIX8_127 : decode cX8_init 127 = .ok (.bipush 10, 2) := by decide +kernel
theorem dIX8_129 : decode cX8_init 129 = .ok (.iastore, 1) := by decide +kernel
theorem dIX8_130 : decode cX8_init 130 = .ok (.aload_n 0, 1) := by decide +kernel
theorem dIX8_131 : decode cX8_init 131 = .ok (.iconst 1, 1) := by decide +kernel
theorem dIX8_132 : decode cX8_init 132 = .ok (.putfield 57, 3) := by decide +kernel
theorem dIX8_135 : decode cX8_init 135 = .ok (.return_, 1) := by decide +kernel
set_option maxHeartbeats 4000000 in
set_option maxRecDepth 100000 in
theorem cX8 (l : Launch) (D : va_G) (cy : Nat → ClassId) (h0 sz : Nat) : Met l mIX8.1 (wsM mIX8) mIX8.2.2.2.2 (ctPre D cy h0 sz (.inr (8, [.null, .null, .null, .int 0, .null, .null, .null, .int 0, .int 0, .int 0, .int 0, .null, .int 0, .int 0, .int 0, .int 0, .int 0, .int 0, .null, .null, .int 0, .null, .null, .null, .int 0, .null, .null, .int 0]))) (ctPost D (wX8 cy) h0 sz (.inr (8, [.null, .null, .null, .int 0, .null, .null, .null, .int 0, .int 0, .int 0, .int 0, .null, .int 0, .int 0, .int 0, .int 0, .int 0, .int 0, .null, .null, .int 0, .null, .null, .null, .int 0, .null, .null, .int 0]))) 14 4790 (va_A [(h0, .inr (8, [.null, .null, .null, .int 0, .null, .null, .null, .int 0, .int 0, .int 0, .int 0, .null, .int 0, .int 0, .int 0, .int 0, .int 0, .int 0, .null, .null, .int 0, .null, .null, .null, .int 0, .null, .null, .int 0]))] sz) := by
  refine Met.ofW (cc := cX8_init) (maxL := 1) (ret := none) (by decide) rfl ?_
  intro p e s m args below meth c s₁ B hml hv
  obtain ⟨rfl, hsz, hP, ⟨hK, hCt⟩, hD0⟩ := hv
  have hx := B.exec
  have hb := B.bytes
  have hr := B.returns
  have hts0 := atoms_spec (ws := wsM mIX8) B.pre
  have hts : ∀ w ∈ Gd, w.before _ s = true := fun w hw => hts0 w (List.mem_cons_of_mem _ hw)
  have hown : s.vm.findClass RX8 = some m.cls := findClass_of_methodNamed B.named
  have hlocks := B.notSynchronized
  have hin : meth.name = "<init>" := (name_of_methodNamed B.named B.method).1
  subst hsz
  have hD := hD0.self (sz := s.heap.size)
  generalize hAe : va_A [(h0, .inr (8, [.null, .null, .null, .int 0, .null, .null, .null, .int 0, .int 0, .int 0, .int 0, .null, .int 0, .int 0, .int 0, .int 0, .int 0, .int 0, .null, .null, .int 0, .null, .null, .null, .int 0, .null, .null, .int 0]))] s.heap.size = A at hD ⊢
  have hA : ∀ q : Nat, s.heap.size ≤ q → A q := fun q h => by rw [← hAe]; exact Or.inr h
  have hS : va_S A s.heap s.heap [] := va_S.rf
  have hP : va_P D vwCl ((h0, .inr (8, [.null, .null, .null, .int 0, .null, .null, .null, .int 0, .int 0, .int 0, .int 0, .null, .int 0, .int 0, .int 0, .int 0, .int 0, .int 0, .null, .null, .int 0, .null, .null, .null, .int 0, .null, .null, .int 0])) :: []) _ := hP
  have hD : va_D A ((h0, .inr (8, [.null, .null, .null, .int 0, .null, .null, .null, .int 0, .int 0, .int 0, .int 0, .null, .int 0, .int 0, .int 0, .int 0, .int 0, .int 0, .null, .null, .int 0, .null, .null, .null, .int 0, .null, .null, .int 0])) :: []) := hD
  have hl := lv_entry ([.ref h0]) (n := 1) (Nat.le_of_ble_eq_true rfl)
  rw [lg_entry_eq]
  generalize (lg_sl ([.ref h0]) ++ List.replicate (1 - (lg_sl ([.ref h0])).length) Slot.unset).toArray = ls at hl ⊢
  have hl : lv_has ls 1 [(0, .ref h0)] := hl
  refine lv_aload_n hx hb dIX8_0 rfl (lv_at hl 0 rfl) ?_
  refine W.objInit hx hb hown (hts _ (Gd_in (i := 822) (by decide +kernel) (by decide +kernel))) (hts _ (Gd_in (i := 87) (by decide +kernel) (by decide +kernel))) (hts _ (Gd_in (i := 88) (by decide +kernel) (by decide +kernel))) rfl (by rw [hml]; exact hl.1) rfl dIX8_1 (Nat.le_of_ble_eq_true rfl) (Nat.le_of_ble_eq_true rfl) ?_
  refine W.eq (g2 := F0 m 4 ls []) rfl ?_
  refine lv_aload_n hx hb dIX8_4 rfl (lv_at hl 0 rfl) ?_
  refine lv_sipush (v := 800) hx hb dIX8_5 (by decide) ?_
  refine ct_int (N := 800) hx hb (hts _ (Gd_in (i := 140) (by decide +kernel) (by decide +kernel))) hK hP hD hS hA (by decide) (by decide) (by decide) (Nat.le_of_ble_eq_true rfl) (Nat.le_of_ble_eq_true rfl) dIX8_8 (fun q8 H hP hD hS => ?_)
  refine W.widen (k := 1) (n := 800) (by decide) (by decide) ?_
  have hP : va_P D vwCl ((h0, .inr (8, [.null, .null, .null, .int 0, .null, .null, .null, .int 0, .int 0, .int 0, .int 0, .null, .int 0, .int 0, .int 0, .int 0, .int 0, .int 0, .null, .null, .int 0, .null, .null, .null, .int 0, .null, .null, .int 0])) :: [(q8, iA cy 800)]) _ := hP
  have hD : va_D A ((h0, .inr (8, [.null, .null, .null, .int 0, .null, .null, .null, .int 0, .int 0, .int 0, .int 0, .null, .int 0, .int 0, .int 0, .int 0, .int 0, .int 0, .null, .null, .int 0, .null, .null, .null, .int 0, .null, .null, .int 0])) :: [(q8, iA cy 800)]) := hD
  refine va_putF (D := D) (ci := 8) (v := .ref q8) (ty := .array .int) (C := RX8) (T := TX8) (N := 28) hx hb hts uGX8 tyX8 tyX8_ok nmX8 hown hK hP hD hS 0 rfl rfl 0 (by decide) (hts _ (Gd_in (i := 823) (by decide +kernel) (by decide +kernel))) (fun _ h9 => h9) rfl hin rfl (by decide +kernel) rfl rfl (Nat.le_of_ble_eq_true rfl) dIX8_10 (fun H locs hP hD hS => ?_)
  have hP : va_P D vwCl ((h0, .inr (8, [.ref q8, .null, .null, .int 0, .null, .null, .null, .int 0, .int 0, .int 0, .int 0, .null, .int 0, .int 0, .int 0, .int 0, .int 0, .int 0, .null, .null, .int 0, .null, .null, .null, .int 0, .null, .null, .int 0])) :: [(q8, iA cy 800)]) _ := hP
  have hD : va_D A ((h0, .inr (8, [.ref q8, .null, .null, .int 0, .null, .null, .null, .int 0, .int 0, .int 0, .int 0, .null, .int 0, .int 0, .int 0, .int 0, .int 0, .int 0, .null, .null, .int 0, .null, .null, .null, .int 0, .null, .null, .int 0])) :: [(q8, iA cy 800)]) := hD
  refine lv_aload_n hx hb dIX8_13 rfl (lv_at hl 0 rfl) ?_
  refine lv_iconst (v := 2) hx hb dIX8_14 (by decide) ?_
  refine ct_bool (N := 2) hx hb (hts _ (Gd_in (i := 226) (by decide +kernel) (by decide +kernel))) hK hP hD hS hA (by decide) (by decide) (by decide) (Nat.le_of_ble_eq_true rfl) (Nat.le_of_ble_eq_true rfl) dIX8_15 (fun q15 H hP hD hS => ?_)
  refine W.widen (k := 2) (n := 802) (by decide) (by decide) ?_
  have hP : va_P D vwCl ((h0, .inr (8, [.ref q8, .null, .null, .int 0, .null, .null, .null, .int 0, .int 0, .int 0, .int 0, .null, .int 0, .int 0, .int 0, .int 0, .int 0, .int 0, .null, .null, .int 0, .null, .null, .null, .int 0, .null, .null, .int 0])) :: [(q8, iA cy 800), (q15, .inl (cy 3, 2, .inl (fun _ => 0)))]) _ := hP
  have hD : va_D A ((h0, .inr (8, [.ref q8, .null, .null, .int 0, .null, .null, .null, .int 0, .int 0, .int 0, .int 0, .null, .int 0, .int 0, .int 0, .int 0, .int 0, .int 0, .null, .null, .int 0, .null, .null, .null, .int 0, .null, .null, .int 0])) :: [(q8, iA cy 800), (q15, .inl (cy 3, 2, .inl (fun _ => 0)))]) := hD
  refine va_putF (D := D) (ci := 8) (v := .ref q15) (ty := .array .boolean) (C := RX8) (T := TX8) (N := 28) hx hb hts uGX8 tyX8 tyX8_ok nmX8 hown hK hP hD hS 0 rfl rfl 1 (by decide) (hts _ (Gd_in (i := 824) (by decide +kernel) (by decide +kernel))) (fun _ h9 => h9) rfl hin rfl (by decide +kernel) rfl rfl (Nat.le_of_ble_eq_true rfl) dIX8_17 (fun H locs hP hD hS => ?_)
  have hP : va_P D vwCl ((h0, .inr (8, [.ref q8, .ref q15, .null, .int 0, .null, .null, .null, .int 0, .int 0, .int 0, .int 0, .null, .int 0, .int 0, .int 0, .int 0, .int 0, .int 0, .null, .null, .int 0, .null, .null, .null, .int 0, .null, .null, .int 0])) :: [(q8, iA cy 800), (q15, .inl (cy 3, 2, .inl (fun _ => 0)))]) _ := hP
  have hD : va_D A ((h0, .inr (8, [.ref q8, .ref q15, .null, .int 0, .null, .null, .null, .int 0, .int 0, .int 0, .int 0, .null, .int 0, .int 0, .int 0, .int 0, .int 0, .int 0, .null, .null, .int 0, .null, .null, .null, .int 0, .null, .null, .int 0])) :: [(q8, iA cy 800), (q15, .inl (cy 3, 2, .inl (fun _ => 0)))]) := hD
  refine lv_aload_n hx hb dIX8_20 rfl (lv_at hl 0 rfl) ?_
  refine lv_bipush (v := 16) hx hb dIX8_21 (by decide) ?_
  refine ct_int (N := 16) hx hb (hts _ (Gd_in (i := 140) (by decide +kernel) (by decide +kernel))) hK hP hD hS hA (by decide) (by decide) (by decide) (Nat.le_of_ble_eq_true rfl) (Nat.le_of_ble_eq_true rfl) dIX8_23 (fun q23 H hP hD hS => ?_)
  refine W.widen (k := 3) (n := 818) (by decide) (by decide) ?_
  have hP : va_P D vwCl ((h0, .inr (8, [.ref q8, .ref q15, .null, .int 0, .null, .null, .null, .int 0, .int 0, .int 0, .int 0, .null, .int 0, .int 0, .int 0, .int 0, .int 0, .int 0, .null, .null, .int 0, .null, .null, .null, .int 0, .null, .null, .int 0])) :: [(q8, iA cy 800), (q15, .inl (cy 3, 2, .inl (fun _ => 0))), (q23, iA cy 16)]) _ := hP
  have hD : va_D A ((h0, .inr (8, [.ref q8, .ref q15, .null, .int 0, .null, .null, .null, .int 0, .int 0, .int 0, .int 0, .null, .int 0, .int 0, .int 0, .int 0, .int 0, .int 0, .null, .null, .int 0, .null, .null, .null, .int 0, .null, .null, .int 0])) :: [(q8, iA cy 800), (q15, .inl (cy 3, 2, .inl (fun _ => 0))), (q23, iA cy 16)]) := hD
  refine va_putF (D := D) (ci := 8) (v := .ref q23) (ty := .array .int) (C := RX8) (T := TX8) (N := 28) hx hb hts uGX8 tyX8 tyX8_ok nmX8 hown hK hP hD hS 0 rfl rfl 2 (by decide) (hts _ (Gd_in (i := 825) (by decide +kernel) (by decide +kernel))) (fun _ h9 => h9) rfl hin rfl (by decide +kernel) rfl rfl (Nat.le_of_ble_eq_true rfl) dIX8_25 (fun H locs hP hD hS => ?_)
  have hP : va_P D vwCl ((h0, .inr (8, [.ref q8, .ref q15, .ref q23, .int 0, .null, .null, .null, .int 0, .int 0, .int 0, .int 0, .null, .int 0, .int 0, .int 0, .int 0, .int 0, .int 0, .null, .null, .int 0, .null, .null, .null, .int 0, .null, .null, .int 0])) :: [(q8, iA cy 800), (q15, .inl (cy 3, 2, .inl (fun _ => 0))), (q23, iA cy 16)]) _ := hP
  have hD : va_D A ((h0, .inr (8, [.ref q8, .ref q15, .ref q23, .int 0, .null, .null, .null, .int 0, .int 0, .int 0, .int 0, .null, .int 0, .int 0, .int 0, .int 0, .int 0, .int 0, .null, .null, .int 0, .null, .null, .null, .int 0, .null, .null, .int 0])) :: [(q8, iA cy 800), (q15, .inl (cy 3, 2, .inl (fun _ => 0))), (q23, iA cy 16)]) := hD
  refine lv_aload_n hx hb dIX8_28 rfl (lv_at hl 0 rfl) ?_
  refine lv_bipush (v := 8) hx hb dIX8_29 (by decide) ?_
  refine ct_int (N := 8) hx hb (hts _ (Gd_in (i := 140) (by decide +kernel) (by decide +kernel))) hK hP hD hS hA (by decide) (by decide) (by decide) (Nat.le_of_ble_eq_true rfl) (Nat.le_of_ble_eq_true rfl) dIX8_31 (fun q31 H hP hD hS => ?_)
  refine W.widen (k := 4) (n := 826) (by decide) (by decide) ?_
  have hP : va_P D vwCl ((h0, .inr (8, [.ref q8, .ref q15, .ref q23, .int 0, .null, .null, .null, .int 0, .int 0, .int 0, .int 0, .null, .int 0, .int 0, .int 0, .int 0, .int 0, .int 0, .null, .null, .int 0, .null, .null, .null, .int 0, .null, .null, .int 0])) :: [(q8, iA cy 800), (q15, .inl (cy 3, 2, .inl (fun _ => 0))), (q23, iA cy 16), (q31, iA cy 8)]) _ := hP
  have hD : va_D A ((h0, .inr (8, [.ref q8, .ref q15, .ref q23, .int 0, .null, .null, .null, .int 0, .int 0, .int 0, .int 0, .null, .int 0, .int 0, .int 0, .int 0, .int 0, .int 0, .null, .null, .int 0, .null, .null, .null, .int 0, .null, .null, .int 0])) :: [(q8, iA cy 800), (q15, .inl (cy 3, 2, .inl (fun _ => 0))), (q23, iA cy 16), (q31, iA cy 8)]) := hD
  refine va_putF (D := D) (ci := 8) (v := .ref q31) (ty := .array .int) (C := RX8) (T := TX8) (N := 28) hx hb hts uGX8 tyX8 tyX8_ok nmX8 hown hK hP hD hS 0 rfl rfl 4 (by decide) (hts _ (Gd_in (i := 827) (by decide +kernel) (by decide +kernel))) (fun _ h9 => h9) rfl hin rfl (by decide +kernel) rfl rfl (Nat.le_of_ble_eq_true rfl) dIX8_33 (fun H locs hP hD hS => ?_)
  have hP : va_P D vwCl ((h0, .inr (8, [.ref q8, .ref q15, .ref q23, .int 0, .ref q31, .null, .null, .int 0, .int 0, .int 0, .int 0, .null, .int 0, .int 0, .int 0, .int 0, .int 0, .int 0, .null, .null, .int 0, .null, .null, .null, .int 0, .null, .null, .int 0])) :: [(q8, iA cy 800), (q15, .inl (cy 3, 2, .inl (fun _ => 0))), (q23, iA cy 16), (q31, iA cy 8)]) _ := hP
  have hD : va_D A ((h0, .inr (8, [.ref q8, .ref q15, .ref q23, .int 0, .ref q31, .null, .null, .int 0, .int 0, .int 0, .int 0, .null, .int 0, .int 0, .int 0, .int 0, .int 0, .int 0, .null, .null, .int 0, .null, .null, .null, .int 0, .null, .null, .int 0])) :: [(q8, iA cy 800), (q15, .inl (cy 3, 2, .inl (fun _ => 0))), (q23, iA cy 16), (q31, iA cy 8)]) := hD
  refine lv_aload_n hx hb dIX8_36 rfl (lv_at hl 0 rfl) ?_
  refine lv_bipush (v := 8) hx hb dIX8_37 (by decide) ?_
  refine ct_int (N := 8) hx hb (hts _ (Gd_in (i := 140) (by decide +kernel) (by decide +kernel))) hK hP hD hS hA (by decide) (by decide) (by decide) (Nat.le_of_ble_eq_true rfl) (Nat.le_of_ble_eq_true rfl) dIX8_39 (fun q39 H hP hD hS => ?_)
  refine W.widen (k := 5) (n := 834) (by decide) (by decide) ?_
  have hP : va_P D vwCl ((h0, .inr (8, [.ref q8, .ref q15, .ref q23, .int 0, .ref q31, .null, .null, .int 0, .int 0, .int 0, .int 0, .null, .int 0, .int 0, .int 0, .int 0, .int 0, .int 0, .null, .null, .int 0, .null, .null, .null, .int 0, .null, .null, .int 0])) :: [(q8, iA cy 800), (q15, .inl (cy 3, 2, .inl (fun _ => 0))), (q23, iA cy 16), (q31, iA cy 8), (q39, iA cy 8)]) _ := hP
  have hD : va_D A ((h0, .inr (8, [.ref q8, .ref q15, .ref q23, .int 0, .ref q31, .null, .null, .int 0, .int 0, .int 0, .int 0, .null, .int 0, .int 0, .int 0, .int 0, .int 0, .int 0, .null, .null, .int 0, .null, .null, .null, .int 0, .null, .null, .int 0])) :: [(q8, iA cy 800), (q15, .inl (cy 3, 2, .inl (fun _ => 0))), (q23, iA cy 16), (q31, iA cy 8), (q39, iA cy 8)]) := hD
  refine va_putF (D := D) (ci := 8) (v := .ref q39) (ty := .array .int) (C := RX8) (T := TX8) (N := 28) hx hb hts uGX8 tyX8 tyX8_ok nmX8 hown hK hP hD hS 0 rfl rfl 5 (by decide) (hts _ (Gd_in (i := 828) (by decide +kernel) (by decide +kernel))) (fun _ h9 => h9) rfl hin rfl (by decide +kernel) rfl rfl (Nat.le_of_ble_eq_true rfl) dIX8_41 (fun H locs hP hD hS => ?_)
  have hP : va_P D vwCl ((h0, .inr (8, [.ref q8, .ref q15, .ref q23, .int 0, .ref q31, .ref q39, .null, .int 0, .int 0, .int 0, .int 0, .null, .int 0, .int 0, .int 0, .int 0, .int 0, .int 0, .null, .null, .int 0, .null, .null, .null, .int 0, .null, .null, .int 0])) :: [(q8, iA cy 800), (q15, .inl (cy 3, 2, .inl (fun _ => 0))), (q23, iA cy 16), (q31, iA cy 8), (q39, iA cy 8)]) _ := hP
  have hD : va_D A ((h0, .inr (8, [.ref q8, .ref q15, .ref q23, .int 0, .ref q31, .ref q39, .null, .int 0, .int 0, .int 0, .int 0, .null, .int 0, .int 0, .int 0, .int 0, .int 0, .int 0, .null, .null, .int 0, .null, .null, .null, .int 0, .null, .null, .int 0])) :: [(q8, iA cy 800), (q15, .inl (cy 3, 2, .inl (fun _ => 0))), (q23, iA cy 16), (q31, iA cy 8), (q39, iA cy 8)]) := hD
  refine lv_aload_n hx hb dIX8_44 rfl (lv_at hl 0 rfl) ?_
  refine lv_bipush (v := 60) hx hb dIX8_45 (by decide) ?_
  refine ct_int (N := 60) hx hb (hts _ (Gd_in (i := 140) (by decide +kernel) (by decide +kernel))) hK hP hD hS hA (by decide) (by decide) (by decide) (Nat.le_of_ble_eq_true rfl) (Nat.le_of_ble_eq_true rfl) dIX8_47 (fun q47 H hP hD hS => ?_)
  refine W.widen (k := 6) (n := 894) (by decide) (by decide) ?_
  have hP : va_P D vwCl ((h0, .inr (8, [.ref q8, .ref q15, .ref q23, .int 0, .ref q31, .ref q39, .null, .int 0, .int 0, .int 0, .int 0, .null, .int 0, .int 0, .int 0, .int 0, .int 0, .int 0, .null, .null, .int 0, .null, .null, .null, .int 0, .null, .null, .int 0])) :: [(q8, iA cy 800), (q15, .inl (cy 3, 2, .inl (fun _ => 0))), (q23, iA cy 16), (q31, iA cy 8), (q39, iA cy 8), (q47, iA cy 60)]) _ := hP
  have hD : va_D A ((h0, .inr (8, [.ref q8, .ref q15, .ref q23, .int 0, .ref q31, .ref q39, .null, .int 0, .int 0, .int 0, .int 0, .null, .int 0, .int 0, .int 0, .int 0, .int 0, .int 0, .null, .null, .int 0, .null, .null, .null, .int 0, .null, .null, .int 0])) :: [(q8, iA cy 800), (q15, .inl (cy 3, 2, .inl (fun _ => 0))), (q23, iA cy 16), (q31, iA cy 8), (q39, iA cy 8), (q47, iA cy 60)]) := hD
  refine va_putF (D := D) (ci := 8) (v := .ref q47) (ty := .array .int) (C := RX8) (T := TX8) (N := 28) hx hb hts uGX8 tyX8 tyX8_ok nmX8 hown hK hP hD hS 0 rfl rfl 6 (by decide) (hts _ (Gd_in (i := 829) (by decide +kernel) (by decide +kernel))) (fun _ h9 => h9) rfl hin rfl (by decide +kernel) rfl rfl (Nat.le_of_ble_eq_true rfl) dIX8_49 (fun H locs hP hD hS => ?_)
  have hP : va_P D vwCl ((h0, .inr (8, [.ref q8, .ref q15, .ref q23, .int 0, .ref q31, .ref q39, .ref q47, .int 0, .int 0, .int 0, .int 0, .null, .int 0, .int 0, .int 0, .int 0, .int 0, .int 0, .null, .null, .int 0, .null, .null, .null, .int 0, .null, .null, .int 0])) :: [(q8, iA cy 800), (q15, .inl (cy 3, 2, .inl (fun _ => 0))), (q23, iA cy 16), (q31, iA cy 8), (q39, iA cy 8), (q47, iA cy 60)]) _ := hP
  have hD : va_D A ((h0, .inr (8, [.ref q8, .ref q15, .ref q23, .int 0, .ref q31, .ref q39, .ref q47, .int 0, .int 0, .int 0, .int 0, .null, .int 0, .int 0, .int 0, .int 0, .int 0, .int 0, .null, .null, .int 0, .null, .null, .null, .int 0, .null, .null, .int 0])) :: [(q8, iA cy 800), (q15, .inl (cy 3, 2, .inl (fun _ => 0))), (q23, iA cy 16), (q31, iA cy 8), (q39, iA cy 8), (q47, iA cy 60)]) := hD
  refine lv_aload_n hx hb dIX8_52 rfl (lv_at hl 0 rfl) ?_
  refine lv_sipush (v := 400) hx hb dIX8_53 (by decide) ?_
  refine ct_int (N := 400) hx hb (hts _ (Gd_in (i := 140) (by decide +kernel) (by decide +kernel))) hK hP hD hS hA (by decide) (by decide) (by decide) (Nat.le_of_ble_eq_true rfl) (Nat.le_of_ble_eq_true rfl) dIX8_56 (fun q56 H hP hD hS => ?_)
  refine W.widen (k := 7) (n := 1294) (by decide) (by decide) ?_
  have hP : va_P D vwCl ((h0, .inr (8, [.ref q8, .ref q15, .ref q23, .int 0, .ref q31, .ref q39, .ref q47, .int 0, .int 0, .int 0, .int 0, .null, .int 0, .int 0, .int 0, .int 0, .int 0, .int 0, .null, .null, .int 0, .null, .null, .null, .int 0, .null, .null, .int 0])) :: [(q8, iA cy 800), (q15, .inl (cy 3, 2, .inl (fun _ => 0))), (q23, iA cy 16), (q31, iA cy 8), (q39, iA cy 8), (q47, iA cy 60), (q56, iA cy 400)]) _ := hP
  have hD : va_D A ((h0, .inr (8, [.ref q8, .ref q15, .ref q23, .int 0, .ref q31, .ref q39, .ref q47, .int 0, .int 0, .int 0, .int 0, .null, .int 0, .int 0, .int 0, .int 0, .int 0, .int 0, .null, .null, .int 0, .null, .null, .null, .int 0, .null, .null, .int 0])) :: [(q8, iA cy 800), (q15, .inl (cy 3, 2, .inl (fun _ => 0))), (q23, iA cy 16), (q31, iA cy 8), (q39, iA cy 8), (q47, iA cy 60), (q56, iA cy 400)]) := hD
  refine va_putF (D := D) (ci := 8) (v := .ref q56) (ty := .array .int) (C := RX8) (T := TX8) (N := 28) hx hb hts uGX8 tyX8 tyX8_ok nmX8 hown hK hP hD hS 0 rfl rfl 11 (by decide) (hts _ (Gd_in (i := 834) (by decide +kernel) (by decide +kernel))) (fun _ h9 => h9) rfl hin rfl (by decide +kernel) rfl rfl (Nat.le_of_ble_eq_true rfl) dIX8_58 (fun H locs hP hD hS => ?_)
  have hP : va_P D vwCl ((h0, .inr (8, [.ref q8, .ref q15, .ref q23, .int 0, .ref q31, .ref q39, .ref q47, .int 0, .int 0, .int 0, .int 0, .ref q56, .int 0, .int 0, .int 0, .int 0, .int 0, .int 0, .null, .null, .int 0, .null, .null, .null, .int 0, .null, .null, .int 0])) :: [(q8, iA cy 800), (q15, .inl (cy 3, 2, .inl (fun _ => 0))), (q23, iA cy 16), (q31, iA cy 8), (q39, iA cy 8), (q47, iA cy 60), (q56, iA cy 400)]) _ := hP
  have hD : va_D A ((h0, .inr (8, [.ref q8, .ref q15, .ref q23, .int 0, .ref q31, .ref q39, .ref q47, .int 0, .int 0, .int 0, .int 0, .ref q56, .int 0, .int 0, .int 0, .int 0, .int 0, .int 0, .null, .null, .int 0, .null, .null, .null, .int 0, .null, .null, .int 0])) :: [(q8, iA cy 800), (q15, .inl (cy 3, 2, .inl (fun _ => 0))), (q23, iA cy 16), (q31, iA cy 8), (q39, iA cy 8), (q47, iA cy 60), (q56, iA cy 400)]) := hD
  refine lv_aload_n hx hb dIX8_61 rfl (lv_at hl 0 rfl) ?_
  refine lv_iconst (v := (-1)) hx hb dIX8_62 (by decide) ?_
  refine va_put (D := D) (ci := 8) (v := .int (-1)) (ty := .int) (C := RX8) (T := TX8) (N := 28) hx hb hts uGX8 tyX8 tyX8_ok nmX8 hown hK hP hD hS 0 rfl rfl 17 (by decide) (hts _ (Gd_in (i := 840) (by decide +kernel) (by decide +kernel))) (fun _ h9 => h9) rfl (by decide +kernel) rfl rfl (Nat.le_of_ble_eq_true rfl) dIX8_63 (fun H locs hP hD hS => ?_)
  have hP : va_P D vwCl ((h0, .inr (8, [.ref q8, .ref q15, .ref q23, .int 0, .ref q31, .ref q39, .ref q47, .int 0, .int 0, .int 0, .int 0, .ref q56, .int 0, .int 0, .int 0, .int 0, .int 0, .int (-1), .null, .null, .int 0, .null, .null, .null, .int 0, .null, .null, .int 0])) :: [(q8, iA cy 800), (q15, .inl (cy 3, 2, .inl (fun _ => 0))), (q23, iA cy 16), (q31, iA cy 8), (q39, iA cy 8), (q47, iA cy 60), (q56, iA cy 400)]) _ := hP
  have hD : va_D A ((h0, .inr (8, [.ref q8, .ref q15, .ref q23, .int 0, .ref q31, .ref q39, .ref q47, .int 0, .int 0, .int 0, .int 0, .ref q56, .int 0, .int 0, .int 0, .int 0, .int 0, .int (-1), .null, .null, .int 0, .null, .null, .null, .int 0, .null, .null, .int 0])) :: [(q8, iA cy 800), (q15, .inl (cy 3, 2, .inl (fun _ => 0))), (q23, iA cy 16), (q31, iA cy 8), (q39, iA cy 8), (q47, iA cy 60), (q56, iA cy 400)]) := hD
  refine lv_aload_n hx hb dIX8_66 rfl (lv_at hl 0 rfl) ?_
  refine lv_iconst (v := 4) hx hb dIX8_67 (by decide) ?_
  refine ct_int (N := 4) hx hb (hts _ (Gd_in (i := 140) (by decide +kernel) (by decide +kernel))) hK hP hD hS hA (by decide) (by decide) (by decide) (Nat.le_of_ble_eq_true rfl) (Nat.le_of_ble_eq_true rfl) dIX8_68 (fun q68 H hP hD hS => ?_)
  refine W.widen (k := 8) (n := 1298) (by decide) (by decide) ?_
  have hP : va_P D vwCl ((h0, .inr (8, [.ref q8, .ref q15, .ref q23, .int 0, .ref q31, .ref q39, .ref q47, .int 0, .int 0, .int 0, .int 0, .ref q56, .int 0, .int 0, .int 0, .int 0, .int 0, .int (-1), .null, .null, .int 0, .null, .null, .null, .int 0, .null, .null, .int 0])) :: [(q8, iA cy 800), (q15, .inl (cy 3, 2, .inl (fun _ => 0))), (q23, iA cy 16), (q31, iA cy 8), (q39, iA cy 8), (q47, iA cy 60), (q56, iA cy 400), (q68, iA cy 4)]) _ := hP
  have hD : va_D A ((h0, .inr (8, [.ref q8, .ref q15, .ref q23, .int 0, .ref q31, .ref q39, .ref q47, .int 0, .int 0, .int 0, .int 0, .ref q56, .int 0, .int 0, .int 0, .int 0, .int 0, .int (-1), .null, .null, .int 0, .null, .null, .null, .int 0, .null, .null, .int 0])) :: [(q8, iA cy 800), (q15, .inl (cy 3, 2, .inl (fun _ => 0))), (q23, iA cy 16), (q31, iA cy 8), (q39, iA cy 8), (q47, iA cy 60), (q56, iA cy 400), (q68, iA cy 4)]) := hD
  refine va_putF (D := D) (ci := 8) (v := .ref q68) (ty := .array .int) (C := RX8) (T := TX8) (N := 28) hx hb hts uGX8 tyX8 tyX8_ok nmX8 hown hK hP hD hS 0 rfl rfl 18 (by decide) (hts _ (Gd_in (i := 841) (by decide +kernel) (by decide +kernel))) (fun _ h9 => h9) rfl hin rfl (by decide +kernel) rfl rfl (Nat.le_of_ble_eq_true rfl) dIX8_70 (fun H locs hP hD hS => ?_)
  have hP : va_P D vwCl ((h0, .inr (8, [.ref q8, .ref q15, .ref q23, .int 0, .ref q31, .ref q39, .ref q47, .int 0, .int 0, .int 0, .int 0, .ref q56, .int 0, .int 0, .int 0, .int 0, .int 0, .int (-1), .ref q68, .null, .int 0, .null, .null, .null, .int 0, .null, .null, .int 0])) :: [(q8, iA cy 800), (q15, .inl (cy 3, 2, .inl (fun _ => 0))), (q23, iA cy 16), (q31, iA cy 8), (q39, iA cy 8), (q47, iA cy 60), (q56, iA cy 400), (q68, iA cy 4)]) _ := hP
  have hD : va_D A ((h0, .inr (8, [.ref q8, .ref q15, .ref q23, .int 0, .ref q31, .ref q39, .ref q47, .int 0, .int 0, .int 0, .int 0, .ref q56, .int 0, .int 0, .int 0, .int 0, .int 0, .int (-1), .ref q68, .null, .int 0, .null, .null, .null, .int 0, .null, .null, .int 0])) :: [(q8, iA cy 800), (q15, .inl (cy 3, 2, .inl (fun _ => 0))), (q23, iA cy 16), (q31, iA cy 8), (q39, iA cy 8), (q47, iA cy 60), (q56, iA cy 400), (q68, iA cy 4)]) := hD
  refine lv_aload_n hx hb dIX8_73 rfl (lv_at hl 0 rfl) ?_
  refine lv_bipush (v := 8) hx hb dIX8_74 (by decide) ?_
  refine ct_int (N := 8) hx hb (hts _ (Gd_in (i := 140) (by decide +kernel) (by decide +kernel))) hK hP hD hS hA (by decide) (by decide) (by decide) (Nat.le_of_ble_eq_true rfl) (Nat.le_of_ble_eq_true rfl) dIX8_76 (fun q76 H hP hD hS => ?_)
  refine W.widen (k := 9) (n := 1306) (by decide) (by decide) ?_
  have hP : va_P D vwCl ((h0, .inr (8, [.ref q8, .ref q15, .ref q23, .int 0, .ref q31, .ref q39, .ref q47, .int 0, .int 0, .int 0, .int 0, .ref q56, .int 0, .int 0, .int 0, .int 0, .int 0, .int (-1), .ref q68, .null, .int 0, .null, .null, .null, .int 0, .null, .null, .int 0])) :: [(q8, iA cy 800), (q15, .inl (cy 3, 2, .inl (fun _ => 0))), (q23, iA cy 16), (q31, iA cy 8), (q39, iA cy 8), (q47, iA cy 60), (q56, iA cy 400), (q68, iA cy 4), (q76, iA cy 8)]) _ := hP
  have hD : va_D A ((h0, .inr (8, [.ref q8, .ref q15, .ref q23, .int 0, .ref q31, .ref q39, .ref q47, .int 0, .int 0, .int 0, .int 0, .ref q56, .int 0, .int 0, .int 0, .int 0, .int 0, .int (-1), .ref q68, .null, .int 0, .null, .null, .null, .int 0, .null, .null, .int 0])) :: [(q8, iA cy 800), (q15, .inl (cy 3, 2, .inl (fun _ => 0))), (q23, iA cy 16), (q31, iA cy 8), (q39, iA cy 8), (q47, iA cy 60), (q56, iA cy 400), (q68, iA cy 4), (q76, iA cy 8)]) := hD
  refine va_putF (D := D) (ci := 8) (v := .ref q76) (ty := .array .int) (C := RX8) (T := TX8) (N := 28) hx hb hts uGX8 tyX8 tyX8_ok nmX8 hown hK hP hD hS 0 rfl rfl 19 (by decide) (hts _ (Gd_in (i := 842) (by decide +kernel) (by decide +kernel))) (fun _ h9 => h9) rfl hin rfl (by decide +kernel) rfl rfl (Nat.le_of_ble_eq_true rfl) dIX8_78 (fun H locs hP hD hS => ?_)
  have hP : va_P D vwCl ((h0, .inr (8, [.ref q8, .ref q15, .ref q23, .int 0, .ref q31, .ref q39, .ref q47, .int 0, .int 0, .int 0, .int 0, .ref q56, .int 0, .int 0, .int 0, .int 0, .int 0, .int (-1), .ref q68, .ref q76, .int 0, .null, .null, .null, .int 0, .null, .null, .int 0])) :: [(q8, iA cy 800), (q15, .inl (cy 3, 2, .inl (fun _ => 0))), (q23, iA cy 16), (q31, iA cy 8), (q39, iA cy 8), (q47, iA cy 60), (q56, iA cy 400), (q68, iA cy 4), (q76, iA cy 8)]) _ := hP
  have hD : va_D A ((h0, .inr (8, [.ref q8, .ref q15, .ref q23, .int 0, .ref q31, .ref q39, .ref q47, .int 0, .int 0, .int 0, .int 0, .ref q56, .int 0, .int 0, .int 0, .int 0, .int 0, .int (-1), .ref q68, .ref q76, .int 0, .null, .null, .null, .int 0, .null, .null, .int 0])) :: [(q8, iA cy 800), (q15, .inl (cy 3, 2, .inl (fun _ => 0))), (q23, iA cy 16), (q31, iA cy 8), (q39, iA cy 8), (q47, iA cy 60), (q56, iA cy 400), (q68, iA cy 4), (q76, iA cy 8)]) := hD
  refine lv_aload_n hx hb dIX8_81 rfl (lv_at hl 0 rfl) ?_
  refine lv_sipush (v := 3400) hx hb dIX8_82 (by decide) ?_
  refine ct_int (N := 3400) hx hb (hts _ (Gd_in (i := 140) (by decide +kernel) (by decide +kernel))) hK hP hD hS hA (by decide) (by decide) (by decide) (Nat.le_of_ble_eq_true rfl) (Nat.le_of_ble_eq_true rfl) dIX8_85 (fun q85 H hP hD hS => ?_)
  refine W.widen (k := 10) (n := 4706) (by decide) (by decide) ?_
  have hP : va_P D vwCl ((h0, .inr (8, [.ref q8, .ref q15, .ref q23, .int 0, .ref q31, .ref q39, .ref q47, .int 0, .int 0, .int 0, .int 0, .ref q56, .int 0, .int 0, .int 0, .int 0, .int 0, .int (-1), .ref q68, .ref q76, .int 0, .null, .null, .null, .int 0, .null, .null, .int 0])) :: [(q8, iA cy 800), (q15, .inl (cy 3, 2, .inl (fun _ => 0))), (q23, iA cy 16), (q31, iA cy 8), (q39, iA cy 8), (q47, iA cy 60), (q56, iA cy 400), (q68, iA cy 4), (q76, iA cy 8), (q85, iA cy 3400)]) _ := hP
  have hD : va_D A ((h0, .inr (8, [.ref q8, .ref q15, .ref q23, .int 0, .ref q31, .ref q39, .ref q47, .int 0, .int 0, .int 0, .int 0, .ref q56, .int 0, .int 0, .int 0, .int 0, .int 0, .int (-1), .ref q68, .ref q76, .int 0, .null, .null, .null, .int 0, .null, .null, .int 0])) :: [(q8, iA cy 800), (q15, .inl (cy 3, 2, .inl (fun _ => 0))), (q23, iA cy 16), (q31, iA cy 8), (q39, iA cy 8), (q47, iA cy 60), (q56, iA cy 400), (q68, iA cy 4), (q76, iA cy 8), (q85, iA cy 3400)]) := hD
  refine va_putF (D := D) (ci := 8) (v := .ref q85) (ty := .array .int) (C := RX8) (T := TX8) (N := 28) hx hb hts uGX8 tyX8 tyX8_ok nmX8 hown hK hP hD hS 0 rfl rfl 21 (by decide) (hts _ (Gd_in (i := 844) (by decide +kernel) (by decide +kernel))) (fun _ h9 => h9) rfl hin rfl (by decide +kernel) rfl rfl (Nat.le_of_ble_eq_true rfl) dIX8_87 (fun H locs hP hD hS => ?_)
  have hP : va_P D vwCl ((h0, .inr (8, [.ref q8, .ref q15, .ref q23, .int 0, .ref q31, .ref q39, .ref q47, .int 0, .int 0, .int 0, .int 0, .ref q56, .int 0, .int 0, .int 0, .int 0, .int 0, .int (-1), .ref q68, .ref q76, .int 0, .ref q85, .null, .null, .int 0, .null, .null, .int 0])) :: [(q8, iA cy 800), (q15, .inl (cy 3, 2, .inl (fun _ => 0))), (q23, iA cy 16), (q31, iA cy 8), (q39, iA cy 8), (q47, iA cy 60), (q56, iA cy 400), (q68, iA cy 4), (q76, iA cy 8), (q85, iA cy 3400)]) _ := hP
  have hD : va_D A ((h0, .inr (8, [.ref q8, .ref q15, .ref q23, .int 0, .ref q31, .ref q39, .ref q47, .int 0, .int 0, .int 0, .int 0, .ref q56, .int 0, .int 0, .int 0, .int 0, .int 0, .int (-1), .ref q68, .ref q76, .int 0, .ref q85, .null, .null, .int 0, .null, .null, .int 0])) :: [(q8, iA cy 800), (q15, .inl (cy 3, 2, .inl (fun _ => 0))), (q23, iA cy 16), (q31, iA cy 8), (q39, iA cy 8), (q47, iA cy 60), (q56, iA cy 400), (q68, iA cy 4), (q76, iA cy 8), (q85, iA cy 3400)]) := hD
  refine lv_aload_n hx hb dIX8_90 rfl (lv_at hl 0 rfl) ?_
  refine lv_bipush (v := 12) hx hb dIX8_91 (by decide) ?_
  refine ct_int (N := 12) hx hb (hts _ (Gd_in (i := 140) (by decide +kernel) (by decide +kernel))) hK hP hD hS hA (by decide) (by decide) (by decide) (Nat.le_of_ble_eq_true rfl) (Nat.le_of_ble_eq_true rfl) dIX8_93 (fun q93 H hP hD hS => ?_)
  refine W.widen (k := 11) (n := 4718) (by decide) (by decide) ?_
  have hP : va_P D vwCl ((h0, .inr (8, [.ref q8, .ref q15, .ref q23, .int 0, .ref q31, .ref q39, .ref q47, .int 0, .int 0, .int 0, .int 0, .ref q56, .int 0, .int 0, .int 0, .int 0, .int 0, .int (-1), .ref q68, .ref q76, .int 0, .ref q85, .null, .null, .int 0, .null, .null, .int 0])) :: [(q8, iA cy 800), (q15, .inl (cy 3, 2, .inl (fun _ => 0))), (q23, iA cy 16), (q31, iA cy 8), (q39, iA cy 8), (q47, iA cy 60), (q56, iA cy 400), (q68, iA cy 4), (q76, iA cy 8), (q85, iA cy 3400), (q93, iA cy 12)]) _ := hP
  have hD : va_D A ((h0, .inr (8, [.ref q8, .ref q15, .ref q23, .int 0, .ref q31, .ref q39, .ref q47, .int 0, .int 0, .int 0, .int 0, .ref q56, .int 0, .int 0, .int 0, .int 0, .int 0, .int (-1), .ref q68, .ref q76, .int 0, .ref q85, .null, .null, .int 0, .null, .null, .int 0])) :: [(q8, iA cy 800), (q15, .inl (cy 3, 2, .inl (fun _ => 0))), (q23, iA cy 16), (q31, iA cy 8), (q39, iA cy 8), (q47, iA cy 60), (q56, iA cy 400), (q68, iA cy 4), (q76, iA cy 8), (q85, iA cy 3400), (q93, iA cy 12)]) := hD
  refine va_putF (D := D) (ci := 8) (v := .ref q93) (ty := .array .int) (C := RX8) (T := TX8) (N := 28) hx hb hts uGX8 tyX8 tyX8_ok nmX8 hown hK hP hD hS 0 rfl rfl 22 (by decide) (hts _ (Gd_in (i := 845) (by decide +kernel) (by decide +kernel))) (fun _ h9 => h9) rfl hin rfl (by decide +kernel) rfl rfl (Nat.le_of_ble_eq_true rfl) dIX8_95 (fun H locs hP hD hS => ?_)
  have hP : va_P D vwCl ((h0, .inr (8, [.ref q8, .ref q15, .ref q23, .int 0, .ref q31, .ref q39, .ref q47, .int 0, .int 0, .int 0, .int 0, .ref q56, .int 0, .int 0, .int 0, .int 0, .int 0, .int (-1), .ref q68, .ref q76, .int 0, .ref q85, .ref q93, .null, .int 0, .null, .null, .int 0])) :: [(q8, iA cy 800), (q15, .inl (cy 3, 2, .inl (fun _ => 0))), (q23, iA cy 16), (q31, iA cy 8), (q39, iA cy 8), (q47, iA cy 60), (q56, iA cy 400), (q68, iA cy 4), (q76, iA cy 8), (q85, iA cy 3400), (q93, iA cy 12)]) _ := hP
  have hD : va_D A ((h0, .inr (8, [.ref q8, .ref q15, .ref q23, .int 0, .ref q31, .ref q39, .ref q47, .int 0, .int 0, .int 0, .int 0, .ref q56, .int 0, .int 0, .int 0, .int 0, .int 0, .int (-1), .ref q68, .ref q76, .int 0, .ref q85, .ref q93, .null, .int 0, .null, .null, .int 0])) :: [(q8, iA cy 800), (q15, .inl (cy 3, 2, .inl (fun _ => 0))), (q23, iA cy 16), (q31, iA cy 8), (q39, iA cy 8), (q47, iA cy 60), (q56, iA cy 400), (q68, iA cy 4), (q76, iA cy 8), (q85, iA cy 3400), (q93, iA cy 12)]) := hD
  refine lv_aload_n hx hb dIX8_98 rfl (lv_at hl 0 rfl) ?_
  refine lv_bipush (v := 12) hx hb dIX8_99 (by decide) ?_
  refine ct_int (N := 12) hx hb (hts _ (Gd_in (i := 140) (by decide +kernel) (by decide +kernel))) hK hP hD hS hA (by decide) (by decide) (by decide) (Nat.le_of_ble_eq_true rfl) (Nat.le_of_ble_eq_true rfl) dIX8_101 (fun q101 H hP hD hS => ?_)
  refine W.widen (k := 12) (n := 4730) (by decide) (by decide) ?_
  have hP : va_P D vwCl ((h0, .inr (8, [.ref q8, .ref q15, .ref q23, .int 0, .ref q31, .ref q39, .ref q47, .int 0, .int 0, .int 0, .int 0, .ref q56, .int 0, .int 0, .int 0, .int 0, .int 0, .int (-1), .ref q68, .ref q76, .int 0, .ref q85, .ref q93, .null, .int 0, .null, .null, .int 0])) :: [(q8, iA cy 800), (q15, .inl (cy 3, 2, .inl (fun _ => 0))), (q23, iA cy 16), (q31, iA cy 8), (q39, iA cy 8), (q47, iA cy 60), (q56, iA cy 400), (q68, iA cy 4), (q76, iA cy 8), (q85, iA cy 3400), (q93, iA cy 12), (q101, iA cy 12)]) _ := hP
  have hD : va_D A ((h0, .inr (8, [.ref q8, .ref q15, .ref q23, .int 0, .ref q31, .ref q39, .ref q47, .int 0, .int 0, .int 0, .int 0, .ref q56, .int 0, .int 0, .int 0, .int 0, .int 0, .int (-1), .ref q68, .ref q76, .int 0, .ref q85, .ref q93, .null, .int 0, .null, .null, .int 0])) :: [(q8, iA cy 800), (q15, .inl (cy 3, 2, .inl (fun _ => 0))), (q23, iA cy 16), (q31, iA cy 8), (q39, iA cy 8), (q47, iA cy 60), (q56, iA cy 400), (q68, iA cy 4), (q76, iA cy 8), (q85, iA cy 3400), (q93, iA cy 12), (q101, iA cy 12)]) := hD
  refine va_putF (D := D) (ci := 8) (v := .ref q101) (ty := .array .int) (C := RX8) (T := TX8) (N := 28) hx hb hts uGX8 tyX8 tyX8_ok nmX8 hown hK hP hD hS 0 rfl rfl 23 (by decide) (hts _ (Gd_in (i := 846) (by decide +kernel) (by decide +kernel))) (fun _ h9 => h9) rfl hin rfl (by decide +kernel) rfl rfl (Nat.le_of_ble_eq_true rfl) dIX8_103 (fun H locs hP hD hS => ?_)
  have hP : va_P D vwCl ((h0, .inr (8, [.ref q8, .ref q15, .ref q23, .int 0, .ref q31, .ref q39, .ref q47, .int 0, .int 0, .int 0, .int 0, .ref q56, .int 0, .int 0, .int 0, .int 0, .int 0, .int (-1), .ref q68, .ref q76, .int 0, .ref q85, .ref q93, .ref q101, .int 0, .null, .null, .int 0])) :: [(q8, iA cy 800), (q15, .inl (cy 3, 2, .inl (fun _ => 0))), (q23, iA cy 16), (q31, iA cy 8), (q39, iA cy 8), (q47, iA cy 60), (q56, iA cy 400), (q68, iA cy 4), (q76, iA cy 8), (q85, iA cy 3400), (q93, iA cy 12), (q101, iA cy 12)]) _ := hP
  have hD : va_D A ((h0, .inr (8, [.ref q8, .ref q15, .ref q23, .int 0, .ref q31, .ref q39, .ref q47, .int 0, .int 0, .int 0, .int 0, .ref q56, .int 0, .int 0, .int 0, .int 0, .int 0, .int (-1), .ref q68, .ref q76, .int 0, .ref q85, .ref q93, .ref q101, .int 0, .null, .null, .int 0])) :: [(q8, iA cy 800), (q15, .inl (cy 3, 2, .inl (fun _ => 0))), (q23, iA cy 16), (q31, iA cy 8), (q39, iA cy 8), (q47, iA cy 60), (q56, iA cy 400), (q68, iA cy 4), (q76, iA cy 8), (q85, iA cy 3400), (q93, iA cy 12), (q101, iA cy 12)]) := hD
  refine lv_aload_n hx hb dIX8_106 rfl (lv_at hl 0 rfl) ?_
  refine lv_bipush (v := 30) hx hb dIX8_107 (by decide) ?_
  refine ct_int (N := 30) hx hb (hts _ (Gd_in (i := 140) (by decide +kernel) (by decide +kernel))) hK hP hD hS hA (by decide) (by decide) (by decide) (Nat.le_of_ble_eq_true rfl) (Nat.le_of_ble_eq_true rfl) dIX8_109 (fun q109 H hP hD hS => ?_)
  refine W.widen (k := 13) (n := 4760) (by decide) (by decide) ?_
  have hP : va_P D vwCl ((h0, .inr (8, [.ref q8, .ref q15, .ref q23, .int 0, .ref q31, .ref q39, .ref q47, .int 0, .int 0, .int 0, .int 0, .ref q56, .int 0, .int 0, .int 0, .int 0, .int 0, .int (-1), .ref q68, .ref q76, .int 0, .ref q85, .ref q93, .ref q101, .int 0, .null, .null, .int 0])) :: [(q8, iA cy 800), (q15, .inl (cy 3, 2, .inl (fun _ => 0))), (q23, iA cy 16), (q31, iA cy 8), (q39, iA cy 8), (q47, iA cy 60), (q56, iA cy 400), (q68, iA cy 4), (q76, iA cy 8), (q85, iA cy 3400), (q93, iA cy 12), (q101, iA cy 12), (q109, iA cy 30)]) _ := hP
  have hD : va_D A ((h0, .inr (8, [.ref q8, .ref q15, .ref q23, .int 0, .ref q31, .ref q39, .ref q47, .int 0, .int 0, .int 0, .int 0, .ref q56, .int 0, .int 0, .int 0, .int 0, .int 0, .int (-1), .ref q68, .ref q76, .int 0, .ref q85, .ref q93, .ref q101, .int 0, .null, .null, .int 0])) :: [(q8, iA cy 800), (q15, .inl (cy 3, 2, .inl (fun _ => 0))), (q23, iA cy 16), (q31, iA cy 8), (q39, iA cy 8), (q47, iA cy 60), (q56, iA cy 400), (q68, iA cy 4), (q76, iA cy 8), (q85, iA cy 3400), (q93, iA cy 12), (q101, iA cy 12), (q109, iA cy 30)]) := hD
  refine va_putF (D := D) (ci := 8) (v := .ref q109) (ty := .array .int) (C := RX8) (T := TX8) (N := 28) hx hb hts uGX8 tyX8 tyX8_ok nmX8 hown hK hP hD hS 0 rfl rfl 25 (by decide) (hts _ (Gd_in (i := 848) (by decide +kernel) (by decide +kernel))) (fun _ h9 => h9) rfl hin rfl (by decide +kernel) rfl rfl (Nat.le_of_ble_eq_true rfl) dIX8_111 (fun H locs hP hD hS => ?_)
  have hP : va_P D vwCl ((h0, .inr (8, [.ref q8, .ref q15, .ref q23, .int 0, .ref q31, .ref q39, .ref q47, .int 0, .int 0, .int 0, .int 0, .ref q56, .int 0, .int 0, .int 0, .int 0, .int 0, .int (-1), .ref q68, .ref q76, .int 0, .ref q85, .ref q93, .ref q101, .int 0, .ref q109, .null, .int 0])) :: [(q8, iA cy 800), (q15, .inl (cy 3, 2, .inl (fun _ => 0))), (q23, iA cy 16), (q31, iA cy 8), (q39, iA cy 8), (q47, iA cy 60), (q56, iA cy 400), (q68, iA cy 4), (q76, iA cy 8), (q85, iA cy 3400), (q93, iA cy 12), (q101, iA cy 12), (q109, iA cy 30)]) _ := hP
  have hD : va_D A ((h0, .inr (8, [.ref q8, .ref q15, .ref q23, .int 0, .ref q31, .ref q39, .ref q47, .int 0, .int 0, .int 0, .int 0, .ref q56, .int 0, .int 0, .int 0, .int 0, .int 0, .int (-1), .ref q68, .ref q76, .int 0, .ref q85, .ref q93, .ref q101, .int 0, .ref q109, .null, .int 0])) :: [(q8, iA cy 800), (q15, .inl (cy 3, 2, .inl (fun _ => 0))), (q23, iA cy 16), (q31, iA cy 8), (q39, iA cy 8), (q47, iA cy 60), (q56, iA cy 400), (q68, iA cy 4), (q76, iA cy 8), (q85, iA cy 3400), (q93, iA cy 12), (q101, iA cy 12), (q109, iA cy 30)]) := hD
  refine lv_aload_n hx hb dIX8_114 rfl (lv_at hl 0 rfl) ?_
  refine lv_bipush (v := 30) hx hb dIX8_115 (by decide) ?_
  refine ct_int (N := 30) hx hb (hts _ (Gd_in (i := 140) (by decide +kernel) (by decide +kernel))) hK hP hD hS hA (by decide) (by decide) (by decide) (Nat.le_of_ble_eq_true rfl) (Nat.le_of_ble_eq_true rfl) dIX8_117 (fun q117 H hP hD hS => ?_)
  refine W.widen (k := 14) (n := 4790) (by decide) (by decide) ?_
  have hP : va_P D vwCl ((h0, .inr (8, [.ref q8, .ref q15, .ref q23, .int 0, .ref q31, .ref q39, .ref q47, .int 0, .int 0, .int 0, .int 0, .ref q56, .int 0, .int 0, .int 0, .int 0, .int 0, .int (-1), .ref q68, .ref q76, .int 0, .ref q85, .ref q93, .ref q101, .int 0, .ref q109, .null, .int 0])) :: [(q8, iA cy 800), (q15, .inl (cy 3, 2, .inl (fun _ => 0))), (q23, iA cy 16), (q31, iA cy 8), (q39, iA cy 8), (q47, iA cy 60), (q56, iA cy 400), (q68, iA cy 4), (q76, iA cy 8), (q85, iA cy 3400), (q93, iA cy 12), (q101, iA cy 12), (q109, iA cy 30), (q117, iA cy 30)]) _ := hP
  have hD : va_D A ((h0, .inr (8, [.ref q8, .ref q15, .ref q23, .int 0, .ref q31, .ref q39, .ref q47, .int 0, .int 0, .int 0, .int 0, .ref q56, .int 0, .int 0, .int 0, .int 0, .int 0, .int (-1), .ref q68, .ref q76, .int 0, .ref q85, .ref q93, .ref q101, .int 0, .ref q109, .null, .int 0])) :: [(q8, iA cy 800), (q15, .inl (cy 3, 2, .inl (fun _ => 0))), (q23, iA cy 16), (q31, iA cy 8), (q39, iA cy 8), (q47, iA cy 60), (q56, iA cy 400), (q68, iA cy 4), (q76, iA cy 8), (q85, iA cy 3400), (q93, iA cy 12), (q101, iA cy 12), (q109, iA cy 30), (q117, iA cy 30)]) := hD
  refine va_putF (D := D) (ci := 8) (v := .ref q117) (ty := .array .int) (C := RX8) (T := TX8) (N := 28) hx hb hts uGX8 tyX8 tyX8_ok nmX8 hown hK hP hD hS 0 rfl rfl 26 (by decide) (hts _ (Gd_in (i := 849) (by decide +kernel) (by decide +kernel))) (fun _ h9 => h9) rfl hin rfl (by decide +kernel) rfl rfl (Nat.le_of_ble_eq_true rfl) dIX8_119 (fun H locs hP hD hS => ?_)
  have hP : va_P D vwCl ((h0, .inr (8, [.ref q8, .ref q15, .ref q23, .int 0, .ref q31, .ref q39, .ref q47, .int 0, .int 0, .int 0, .int 0, .ref q56, .int 0, .int 0, .int 0, .int 0, .int 0, .int (-1), .ref q68, .ref q76, .int 0, .ref q85, .ref q93, .ref q101, .int 0, .ref q109, .ref q117, .int 0])) :: [(q8, iA cy 800), (q15, .inl (cy 3, 2, .inl (fun _ => 0))), (q23, iA cy 16), (q31, iA cy 8), (q39, iA cy 8), (q47, iA cy 60), (q56, iA cy 400), (q68, iA cy 4), (q76, iA cy 8), (q85, iA cy 3400), (q93, iA cy 12), (q101, iA cy 12), (q109, iA cy 30), (q117, iA cy 30)]) _ := hP
  have hD : va_D A ((h0, .inr (8, [.ref q8, .ref q15, .ref q23, .int 0, .ref q31, .ref q39, .ref q47, .int 0, .int 0, .int 0, .int 0, .ref q56, .int 0, .int 0, .int 0, .int 0, .int 0, .int (-1), .ref q68, .ref q76, .int 0, .ref q85, .ref q93, .ref q101, .int 0, .ref q109, .ref q117, .int 0])) :: [(q8, iA cy 800), (q15, .inl (cy 3, 2, .inl (fun _ => 0))), (q23, iA cy 16), (q31, iA cy 8), (q39, iA cy 8), (q47, iA cy 60), (q56, iA cy 400), (q68, iA cy 4), (q76, iA cy 8), (q85, iA cy 3400), (q93, iA cy 12), (q101, iA cy 12), (q109, iA cy 30), (q117, iA cy 30)]) := hD
  refine lv_aload_n hx hb dIX8_122 rfl (lv_at hl 0 rfl) ?_
  refine va_get (C := RX8) (T := TX8) (N := 28) (ci := 8) hx hb hts uGX8 hown hK hP 0 rfl rfl 2 (by decide) (hts _ (Gd_in (i := 825) (by decide +kernel) (by decide +kernel))) (fun _ q => q) (v := .ref q23) rfl dIX8_123 ?_
  refine lv_iconst (v := 0) hx hb dIX8_126 (by decide) ?_
  refine lv_bipush (v := 10) hx hb dIX8_127 (by decide) ?_
  refine va_iast (i := 0) hx hb hK hP hD hS 3 0 rfl rfl (by unfold vp_in; decide) dIX8_129 (fun H locs hP hD hS => ?_)
  have hP : va_P D vwCl ((h0, .inr (8, [.ref q8, .ref q15, .ref q23, .int 0, .ref q31, .ref q39, .ref q47, .int 0, .int 0, .int 0, .int 0, .ref q56, .int 0, .int 0, .int 0, .int 0, .int 0, .int (-1), .ref q68, .ref q76, .int 0, .ref q85, .ref q93, .ref q101, .int 0, .ref q109, .ref q117, .int 0])) :: [(q8, iA cy 800), (q15, .inl (cy 3, 2, .inl (fun _ => 0))), (q23, .inl (cy 1, 16, .inl (upd (fun _ => 0) 0 10))), (q31, iA cy 8), (q39, iA cy 8), (q47, iA cy 60), (q56, iA cy 400), (q68, iA cy 4), (q76, iA cy 8), (q85, iA cy 3400), (q93, iA cy 12), (q101, iA cy 12), (q109, iA cy 30), (q117, iA cy 30)]) _ := hP
  have hD : va_D A ((h0, .inr (8, [.ref q8, .ref q15, .ref q23, .int 0, .ref q31, .ref q39, .ref q47, .int 0, .int 0, .int 0, .int 0, .ref q56, .int 0, .int 0, .int 0, .int 0, .int 0, .int (-1), .ref q68, .ref q76, .int 0, .ref q85, .ref q93, .ref q101, .int 0, .ref q109, .ref q117, .int 0])) :: [(q8, iA cy 800), (q15, .inl (cy 3, 2, .inl (fun _ => 0))), (q23, .inl (cy 1, 16, .inl (upd (fun _ => 0) 0 10))), (q31, iA cy 8), (q39, iA cy 8), (q47, iA cy 60), (q56, iA cy 400), (q68, iA cy 4), (q76, iA cy 8), (q85, iA cy 3400), (q93, iA cy 12), (q101, iA cy 12), (q109, iA cy 30), (q117, iA cy 30)]) := hD
  refine lv_aload_n hx hb dIX8_130 rfl (lv_at hl 0 rfl) ?_
  refine lv_iconst (v := 1) hx hb dIX8_131 (by decide) ?_
  refine va_put (D := D) (ci := 8) (v := .int 1) (ty := .int) (C := RX8) (T := TX8) (N := 28) hx hb hts uGX8 tyX8 tyX8_ok nmX8 hown hK hP hD hS 0 rfl rfl 3 (by decide) (hts _ (Gd_in (i := 826) (by decide +kernel) (by decide +kernel))) (fun _ h9 => h9) rfl (by decide +kernel) rfl rfl (Nat.le_of_ble_eq_true rfl) dIX8_132 (fun H locs hP hD hS => ?_)
  have hP : va_P D vwCl ((h0, .inr (8, [.ref q8, .ref q15, .ref q23, .int 1, .ref q31, .ref q39, .ref q47, .int 0, .int 0, .int 0, .int 0, .ref q56, .int 0, .int 0, .int 0, .int 0, .int 0, .int (-1), .ref q68, .ref q76, .int 0, .ref q85, .ref q93, .ref q101, .int 0, .ref q109, .ref q117, .int 0])) :: [(q8, iA cy 800), (q15, .inl (cy 3, 2, .inl (fun _ => 0))), (q23, .inl (cy 1, 16, .inl (upd (fun _ => 0) 0 10))), (q31, iA cy 8), (q39, iA cy 8), (q47, iA cy 60), (q56, iA cy 400), (q68, iA cy 4), (q76, iA cy 8), (q85, iA cy 3400), (q93, iA cy 12), (q101, iA cy 12), (q109, iA cy 30), (q117, iA cy 30)]) _ := hP
  have hD : va_D A ((h0, .inr (8, [.ref q8, .ref q15, .ref q23, .int 1, .ref q31, .ref q39, .ref q47, .int 0, .int 0, .int 0, .int 0, .ref q56, .int 0, .int 0, .int 0, .int 0, .int 0, .int (-1), .ref q68, .ref q76, .int 0, .ref q85, .ref q93, .ref q101, .int 0, .ref q109, .ref q117, .int 0])) :: [(q8, iA cy 800), (q15, .inl (cy 3, 2, .inl (fun _ => 0))), (q23, .inl (cy 1, 16, .inl (upd (fun _ => 0) 0 10))), (q31, iA cy 8), (q39, iA cy 8), (q47, iA cy 60), (q56, iA cy 400), (q68, iA cy 4), (q76, iA cy 8), (q85, iA cy 3400), (q93, iA cy 12), (q101, iA cy 12), (q109, iA cy 30), (q117, iA cy 30)]) := hD
  exact W.vret hx hb hr (fun t ht hW => ⟨⟨fun i => [h0, q8, q15, q23, q31, q39, q47, q56, q68, q76, q85, q93, q101, q109, q117].getD i 0, rfl, rfl, by rw [ht]; exact hP, by rw [hAe]; exact hD⟩, by rw [hAe]; exact hS.F ht⟩) hS.2.2 dIX8_135 (hlocks := hlocks)
