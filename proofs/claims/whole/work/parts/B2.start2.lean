/-! the law: what the Statement gives at its start -/
theorem st_arr {s : State} {cA comp : ClassId} {k : Class} {ty : FieldType} (h1 : s.vm.classes[cA]? = some k) (h2 : k.kind = .array comp ty) : ArrOfT s cA ty := fun n z => ⟨fun x => by simp [arrV], k, h1, comp, h2⟩
set_option maxRecDepth 100000 in
theorem st_K {s : State} {args : Array Value} (hts : ∀ w ∈ lw_tbl, w.before args s = true) : ∃ (D : va_G) (cy : Nat → ClassId), va_K D vwCl (tysA cy) s := by
  obtain ⟨c0, i0, h0⟩ := u_known (C := RX0) (T := TX0) (N := 3) (n := 3) hts (fun w hw => Gd_tb (uGX0 w hw)) (hts _ (List.mem_of_getElem? (i := 316) (by decide +kernel)))
  obtain ⟨c1, i1, h1⟩ := u_known (C := RX1) (T := TX1) (N := 8) (n := 8) hts (fun w hw => Gd_tb (uGX1 w hw)) (hts _ (List.mem_of_getElem? (i := 96) (by decide +kernel)))
  obtain ⟨c2, i2, h2⟩ := u_known (C := RX2) (T := TX2) (N := 8) (n := 8) hts (fun w hw => Gd_tb (uGX2 w hw)) (hts _ (List.mem_of_getElem? (i := 264) (by decide +kernel)))
  obtain ⟨c3, i3, h3⟩ := u_known (C := RX3) (T := TX3) (N := 4) (n := 4) hts (fun w hw => Gd_tb (uGX3 w hw)) (hts _ (List.mem_of_getElem? (i := 296) (by decide +kernel)))
  obtain ⟨c4, i4, h4⟩ := u_known (C := RX4) (T := TX4) (N := 12) (n := 12) hts (fun w hw => Gd_tb (uGX4 w hw)) (hts _ (List.mem_of_getElem? (i := 90) (by decide +kernel)))
  obtain ⟨c5, i5, h5⟩ := u_known (C := RX5) (T := TX5) (N := 8) (n := 8) hts (fun w hw => Gd_tb (uGX5 w hw)) (hts _ (List.mem_of_getElem? (i := 229) (by decide +kernel)))
  obtain ⟨c6, i6, h6⟩ := u_known (C := RX6) (T := TX6) (N := 6) (n := 6) hts (fun w hw => Gd_tb (uGX6 w hw)) (hts _ (List.mem_of_getElem? (i := 199) (by decide +kernel)))
  obtain ⟨c7, i7, h7⟩ := u_known (C := RX7) (T := TX7) (N := 10) (n := 10) hts (fun w hw => Gd_tb (uGX7 w hw)) (hts _ (List.mem_of_getElem? (i := 82) (by decide +kernel)))
  obtain ⟨c8, i8, h8⟩ := u_known (C := RX8) (T := TX8) (N := 28) (n := 28) hts (fun w hw => Gd_tb (uGX8 w hw)) (hts _ (List.mem_of_getElem? (i := 818) (by decide +kernel)))
  obtain ⟨y1, k1, p1, f1, g1, e1⟩ := Cond.arrayClass_spec (type := .int) (hts _ (List.mem_of_getElem? (i := 140) (by decide +kernel)))
  obtain ⟨y2, k2, p2, f2, g2, e2⟩ := Cond.arrayClass_spec (type := .byte) (hts _ (List.mem_of_getElem? (i := 227) (by decide +kernel)))
  obtain ⟨y3, k3, p3, f3, g3, e3⟩ := Cond.arrayClass_spec (type := .boolean) (hts _ (List.mem_of_getElem? (i := 226) (by decide +kernel)))
  obtain ⟨p4, y4, k4, f4, -, g4, e4, n4⟩ := Cond.arrayOver_spec (n := "DatedJars$Land") (hts _ (List.mem_of_getElem? (i := 197) (by decide +kernel)))
  obtain ⟨p5, y5, k5, f5, g5, e5, n5⟩ := mg_over (hts _ (List.mem_of_getElem? (i := 235) (by decide +kernel)))
  refine ⟨(fun k => match k with | 0 => c0 | 1 => c1 | 2 => c2 | 3 => c3 | 4 => c4 | 5 => c5 | 6 => c6 | 7 => c7 | _ => c8, fun k => match k with | 0 => i0 | 1 => i1 | 2 => i2 | 3 => i3 | 4 => i4 | 5 => i5 | 6 => i6 | 7 => i7 | _ => i8), fun k => match k with | 1 => y1 | 2 => y2 | 3 => y3 | 4 => y4 | _ => y5, ?_, ?_⟩
  · intro k q hq
    match k, hq with
    | 0, hq => cases hq; exact h0
    | 1, hq => cases hq; exact h1
    | 2, hq => cases hq; exact h2
    | 3, hq => cases hq; exact h3
    | 4, hq => cases hq; exact h4
    | 5, hq => cases hq; exact h5
    | 6, hq => cases hq; exact h6
    | 7, hq => cases hq; exact h7
    | 8, hq => cases hq; exact h8
    | k + 9, hq => simp [vwCl] at hq
  · intro k q hq
    match k, hq with
    | 0, hq => cases hq; exact ⟨st_arr g1 e1, f1⟩
    | 1, hq => cases hq; exact ⟨st_arr g2 e2, f2⟩
    | 2, hq => cases hq; exact ⟨st_arr g3 e3, f3⟩
    | 3, hq => cases hq; exact ⟨st_arr g4 e4, k4, p4, g4, e4, f4, n4⟩
    | 4, hq => cases hq; exact ⟨st_arr g5 e5, n5⟩
    | k + 5, hq => simp [tysA] at hq
theorem ns_ex : ∀ i : Fin 6, Cond.exactly (.string "DatedJars$Reader" (eg_idx.getD i.val 0)) "java/lang/String" ∈ flatC (Jvm.Cond.and given_1 narrow_1) := by decide +kernel
theorem ns_co : ∀ i : Fin 6, Cond.eq (.field (.string "DatedJars$Reader" (eg_idx.getD i.val 0)) "java/lang/String" "coder" "B") (.int 0) ∈ flatC (Jvm.Cond.and given_1 narrow_1) := by decide +kernel
theorem ns_ar : ∀ i : Fin 6, Cond.arrayOf (.field (.string "DatedJars$Reader" (eg_idx.getD i.val 0)) "java/lang/String" "value" "[B") .byte ∈ flatC (Jvm.Cond.and given_1 narrow_1) := by decide +kernel
theorem ns_le : ∀ i : Fin 6, Cond.eq (.length (.field (.string "DatedJars$Reader" (eg_idx.getD i.val 0)) "java/lang/String" "value" "[B")) (.int (Int32.ofNat (eg_len.getD i.val 0))) ∈ flatC (Jvm.Cond.and given_1 narrow_1) := by decide +kernel
theorem ns_el : ∀ i : Fin 6, ∀ j : Fin 8, j.val < eg_len.getD i.val 0 → Cond.eq (.elem (.field (.string "DatedJars$Reader" (eg_idx.getD i.val 0)) "java/lang/String" "value" "[B") (.int (Int32.ofNat j.val))) (.int ((eg_byt.getD i.val []).getD j.val 0)) ∈ flatC (Jvm.Cond.and given_1 narrow_1) := by decide +kernel
theorem ns_ne : ∀ i j : Fin 6, i ≠ j → (Cond.not (Cond.eq (.string "DatedJars$Reader" (eg_idx.getD i.val 0)) (.string "DatedJars$Reader" (eg_idx.getD j.val 0))) ∈ flatC (Jvm.Cond.and given_1 narrow_1) ∨ Cond.not (Cond.eq (.string "DatedJars$Reader" (eg_idx.getD j.val 0)) (.string "DatedJars$Reader" (eg_idx.getD i.val 0))) ∈ flatC (Jvm.Cond.and given_1 narrow_1)) := by decide +kernel
theorem ns_sr : ∀ i : Fin 6, lw_tbl[([397, 474, 483, 492, 493, 494] : List Nat).getD i.val 0]? = some (Cond.stringRef "DatedJars$Reader" (eg_idx.getD i.val 0) (eg_txt.getD i.val "")) := by decide +kernel
theorem st_S {s : State} {b : Nat} (hts : ∀ w ∈ lw_tbl, w.before #[Value.ref b] s = true) (hgv : (Jvm.Cond.and given_1 narrow_1).before #[Value.ref b] s = true) : ∃ ka : Nat → Nat, (∃ adV : Nat → Nat, vk_S 6 eg_len eg_byt ka adV (fun q => s.heap.size ≤ q) s s.heap) ∧ va_Z "java/lang/String" "COMPACT_STRINGS" "Z" (.int 1) (fun q => s.heap.size ≤ q) s s.heap ∧ (∀ i : Nat, i < 6 → vk_R "DatedJars$Reader" (eg_idx.getD i 0) (eg_txt.getD i "") (ka i) s) ∧ va_Zq "jdk/internal/util/Preconditions" "SIOOBE_FORMATTER" "Ljava/util/function/BiFunction;" (fun q => s.heap.size ≤ q) s s.heap := by
  have hs := flat_of_before _ hgv
  have hA : ∀ a : Nat, a < s.heap.size → ¬ (fun q : Nat => s.heap.size ≤ q) a := fun a h q => Nat.not_le.mpr h q
  obtain ⟨ka, adV, h1, h2⟩ := vk_Sof (args := #[Value.ref b]) (s := s) (N := 6) (tm := fun i => .string "DatedJars$Reader" (eg_idx.getD i 0)) (len := eg_len) (byt := eg_byt) (A := fun q => s.heap.size ≤ q) (fun i hi => Nat.lt_trans (eg_shr0 ⟨i, hi⟩).2 (by decide)) (fun i hi => hs _ (ns_ex ⟨i, hi⟩)) (fun i hi => hs _ (ns_co ⟨i, hi⟩)) (fun i hi => hs _ (ns_ar ⟨i, hi⟩)) (fun i hi => hs _ (ns_le ⟨i, hi⟩)) (fun i hi j hj => hs _ (ns_el ⟨i, hi⟩ ⟨j, Nat.lt_trans hj (eg_shr0 ⟨i, hi⟩).2⟩ hj)) (fun i j hi hj hij => by
    rcases ns_ne ⟨i, hi⟩ ⟨j, hj⟩ (fun q => hij (congrArg Fin.val q)) with q | q
    · exact Or.inl (hs _ q)
    · exact Or.inr (hs _ q)) hA
  refine ⟨ka, ⟨adV, h1⟩, va_Zof (hts _ (List.mem_of_getElem? (i := 411) (by decide +kernel))) (hts _ (List.mem_of_getElem? (i := 74) (by decide +kernel))) (va_eqi (hs _ (by decide +kernel))) hA, fun i hi => vk_R.of (hts _ (List.mem_of_getElem? (ns_sr ⟨i, hi⟩))) (h2 i hi), va_Zqof (hts _ (List.mem_of_getElem? (i := 427) (by decide +kernel))) (hts _ (List.mem_of_getElem? (i := 76) (by decide +kernel))) (hs _ (by decide +kernel)) hA⟩
set_option maxHeartbeats 4000000 in
set_option maxRecDepth 100000 in
theorem whole_start {p : Program} {e : Env} {s : State} {m : MethodId} {below : List Frame} {meth : Method} {c : Code} (l : Launch) {b L : Nat} {xs : Nat → Int32} (hL : L ≤ 2048) (C0 : lw_At p s m meth c b L xs) : W p l e room_1 s m #[Value.ref b] below meth c s.heap [] 0 0 (lw_Z below #[Value.ref b] s) (entryFrame m ([Value.ref b] : List Value).toArray 4) := by
  obtain ⟨hx, hb, hr, hml, hown, hts, hX, hbl, hlocks, hgv⟩ := id C0
  have htg : ∀ w ∈ Gd, w.before #[Value.ref b] s = true := fun w hw => hts w (Gd_tb hw)
  obtain ⟨D, cy, hK⟩ := st_K hts
  obtain ⟨ka, ⟨adV, hV⟩, hZ, hRf, hZq⟩ := st_S hts hgv
  have hCt : CtU s := ⟨⟨va_Nw.of rfl (hts _ (List.mem_of_getElem? (i := 97) (by decide +kernel))), va_Nw.of rfl (hts _ (List.mem_of_getElem? (i := 91) (by decide +kernel))), va_Nw.of rfl (hts _ (List.mem_of_getElem? (i := 200) (by decide +kernel))), va_Nw.of rfl (hts _ (List.mem_of_getElem? (i := 230) (by decide +kernel))), va_Nw.of rfl (hts _ (List.mem_of_getElem? (i := 265) (by decide +kernel))), va_Nw.of rfl (hts _ (List.mem_of_getElem? (i := 297) (by decide +kernel))), va_Nw.of rfl (hts _ (List.mem_of_getElem? (i := 317) (by decide +kernel)))⟩, va_AO.of (hts _ (List.mem_of_getElem? (i := 197) (by decide +kernel))), (hts (Cond.arrayOver (.array .int)) (List.mem_of_getElem? (i := 235) (by decide +kernel)))⟩
  have hA : ∀ q : Nat, s.heap.size ≤ q → (fun q : Nat => s.heap.size ≤ q) q := fun _ h => h
  have hS : va_S (fun q : Nat => s.heap.size ≤ q) s.heap s.heap [] := va_S.rf
  have hP : va_P D vwCl [] s.heap := fun k q h => by simp at h
  have hD : va_D (fun q : Nat => s.heap.size ≤ q) [] := ⟨fun i j p q h => by simp at h, fun k q h => by simp at h⟩
  have hl := lv_entry ([.ref b]) (n := 4) (Nat.le_of_ble_eq_true rfl)
  rw [lg_entry_eq]
  generalize (lg_sl ([.ref b]) ++ List.replicate (4 - (lg_sl ([.ref b])).length) Slot.unset).toArray = ls at hl ⊢
  have hl : lv_has ls 4 [(0, .ref b)] := hl
  refine va_new (ci := 7) (fs := [.null, .null, .null, .null, .null, .null, .null, .null, .null, .null]) (C := RX7) (T := TX7) (N := 10) hx hb htg uGX7 tyX7 tyX7_ok hown (hts _ (List.mem_of_getElem? (i := 81) (by decide +kernel))) (hts _ (List.mem_of_getElem? (i := 82) (by decide +kernel))) (hts _ (List.mem_of_getElem? (i := 65) (by decide +kernel))) hK hP hD hS hA rfl (fun j hj => by rcases (show j = 0 ∨ j = 1 ∨ j = 2 ∨ j = 3 ∨ j = 4 ∨ j = 5 ∨ j = 6 ∨ j = 7 ∨ j = 8 ∨ j = 9 by omega) with rfl | rfl | rfl | rfl | rfl | rfl | rfl | rfl | rfl | rfl <;> rfl) (Nat.le_of_ble_eq_true rfl) (Nat.le_of_ble_eq_true rfl) dL_0 (fun q0 H hP hD hS => ?_)
  refine W.widen (k := 1) (n := 10) (by decide) (by decide) ?_
  refine lv_dup hx hb dL_3 rfl ?_
  refine ct_join (w := wX7 cy) (wr := []) (q := q0) (e0 := .inr (7, [.null, .null, .null, .null, .null, .null, .null, .null, .null, .null])) (va_runI (As := []) (rest := [.ref q0]) (Ts := Gd) ⟨hx, hb, hml, hown, htg⟩ (cX7 l D cy q0 _) (cwI 0 htg (eg_wsG (ms := mIX7) (Gd_in (i := 85) (by decide +kernel) (by decide +kernel))) rfl rfl rfl (hts _ (List.mem_of_getElem? (i := 65) (by decide +kernel))) (hts _ (List.mem_of_getElem? (i := 83) (by decide +kernel))) (hts _ (List.mem_of_getElem? (i := 84) (by decide +kernel))) rfl ⟨by decide +kernel, by decide +kernel, by decide +kernel⟩ ⟨(Nat.le_of_ble_eq_true rfl), (Nat.le_of_ble_eq_true rfl)⟩) ⟨ct_blind, fun U hU hW => ⟨rfl, by rw [hU], by rw [hU]; exact ct_lastP hP, ⟨va_K.moved hW.alike hK, hCt.warm hW⟩, ct_lastD hD⟩⟩ rfl rfl hl.1 rfl (lv_room (Nat.le_of_ble_eq_true rfl)) dL_4 ⟨(Nat.le_of_ble_eq_true rfl), (Nat.le_of_ble_eq_true rfl)⟩) hP hD hS hA (fun u7 H locs e1 hPn hDn hSn => ?_)
  subst e1
  refine W.widen (k := 89) (n := 4944) (by decide) (by decide) ?_
  have hS := hSn
  have hP : va_P D vwCl (wX7 cy u7) H := hPn
  have hD : va_D (fun q : Nat => s.heap.size ≤ q) (wX7 cy u7) := hDn
  clear hPn hDn hSn
  refine lv_astore_n (lv' := [(1, .ref (u7 0)), (0, .ref b)]) hx hb dL_7 rfl hl (by decide) rfl (fun ls hl => ?_)
  refine va_new (ci := 8) (fs := [.null, .null, .null, .int 0, .null, .null, .null, .int 0, .int 0, .int 0, .int 0, .null, .int 0, .int 0, .int 0, .int 0, .int 0, .int 0, .null, .null, .int 0, .null, .null, .null, .int 0, .null, .null, .int 0]) (C := RX8) (T := TX8) (N := 28) hx hb htg uGX8 tyX8 tyX8_ok hown (hts _ (List.mem_of_getElem? (i := 817) (by decide +kernel))) (hts _ (List.mem_of_getElem? (i := 818) (by decide +kernel))) (hts _ (List.mem_of_getElem? (i := 73) (by decide +kernel))) hK hP hD hS hA rfl (fun j hj => by rcases (show j = 0 ∨ j = 1 ∨ j = 2 ∨ j = 3 ∨ j = 4 ∨ j = 5 ∨ j = 6 ∨ j = 7 ∨ j = 8 ∨ j = 9 ∨ j = 10 ∨ j = 11 ∨ j = 12 ∨ j = 13 ∨ j = 14 ∨ j = 15 ∨ j = 16 ∨ j = 17 ∨ j = 18 ∨ j = 19 ∨ j = 20 ∨ j = 21 ∨ j = 22 ∨ j = 23 ∨ j = 24 ∨ j = 25 ∨ j = 26 ∨ j = 27 by omega) with rfl | rfl | rfl | rfl | rfl | rfl | rfl | rfl | rfl | rfl | rfl | rfl | rfl | rfl | rfl | rfl | rfl | rfl | rfl | rfl | rfl | rfl | rfl | rfl | rfl | rfl | rfl | rfl <;> rfl) (Nat.le_of_ble_eq_true rfl) (Nat.le_of_ble_eq_true rfl) dL_8 (fun q8 H hP hD hS => ?_)
  refine W.widen (k := 90) (n := 4972) (by decide) (by decide) ?_
  refine lv_dup hx hb dL_11 rfl ?_
  refine ct_join (w := wX8 cy) (wr := wX7 cy u7) (q := q8) (e0 := .inr (8, [.null, .null, .null, .int 0, .null, .null, .null, .int 0, .int 0, .int 0, .int 0, .null, .int 0, .int 0, .int 0, .int 0, .int 0, .int 0, .null, .null, .int 0, .null, .null, .null, .int 0, .null, .null, .int 0])) (va_runI (As := []) (rest := [.ref q8]) (Ts := Gd) ⟨hx, hb, hml, hown, htg⟩ (cX8 l D cy q8 _) (cwI 0 htg (eg_wsG (ms := mIX8) (Gd_in (i := 821) (by decide +kernel) (by decide +kernel))) rfl rfl rfl (hts _ (List.mem_of_getElem? (i := 73) (by decide +kernel))) (hts _ (List.mem_of_getElem? (i := 819) (by decide +kernel))) (hts _ (List.mem_of_getElem? (i := 820) (by decide +kernel))) rfl ⟨by decide +kernel, by decide +kernel, by decide +kernel⟩ ⟨(Nat.le_of_ble_eq_true rfl), (Nat.le_of_ble_eq_true rfl)⟩) ⟨ct_blind, fun U hU hW => ⟨rfl, by rw [hU], by rw [hU]; exact ct_lastP hP, ⟨va_K.moved hW.alike hK, hCt.warm hW⟩, ct_lastD hD⟩⟩ rfl rfl hl.1 rfl (lv_room (Nat.le_of_ble_eq_true rfl)) dL_12 ⟨(Nat.le_of_ble_eq_true rfl), (Nat.le_of_ble_eq_true rfl)⟩) hP hD hS hA (fun u8 H locs e2 hPn hDn hSn => ?_)
  subst e2
  refine W.widen (k := 600000) (n := 7302250) (by decide) (by decide) ?_
  refine lv_astore_n (lv' := [(2, .ref (u8 0)), (1, .ref (u7 0)), (0, .ref b)]) hx hb dL_15 rfl hl (by decide) rfl (fun ls hl => ?_)
  refine lv_iconst (v := 0) hx hb dL_16 (by decide) ?_
  refine lv_istore_n (lv' := [(3, .int 0), (2, .ref (u8 0)), (1, .ref (u7 0)), (0, .ref b)]) hx hb dL_17 rfl hl (by decide) rfl (fun ls hl => ?_)
  obtain ⟨hI, hAA⟩ := cells_I (ka := ka) hDn
  have eka : (fun i => adL u7 u8 ka (1000 + i)) = ka := funext fun i => adL_s
  have hStr : StrU (adL u7 u8 ka) s s.heap := ⟨⟨adV, by rw [eka]; exact hV.narrow hAA⟩, hZ.narrow hAA, fun i hi => by rw [adL_s]; exact hRf i hi, hZq.narrow hAA⟩
  refine va_forget (fun q hq => hSn.2.2 q hq) ?_
  exact lw_loop hL ⟨C0, hK, hStr, hI, hAA⟩ 513 0 (by omega) (by omega) sg0 H [] ls Inv_0 (cells_P hPn) ⟨hSn.1, fun q h1 _ => hSn.2.1 q h1 (Nat.not_le.mpr h1), fun q hq => by cases hq⟩ hl
