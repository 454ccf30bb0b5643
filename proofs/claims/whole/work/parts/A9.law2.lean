/-! the law: its cases -/
section LWC
variable {p : Program} {l : Launch} {e : Env} {s : State} {m : MethodId} {below : List Frame} {meth : Method} {c : Code} {H : Heap} {locs : List Loc} {b L : Nat} {xs : Nat → Int32} {D : va_G} {ad : Nat → Nat} {cy : Nat → ClassId} {ls : Array Slot} {σ : Sg} {n : Nat}
set_option maxHeartbeats 1000000 in
theorem lw_c0 (hn : n < 512) (hi : 4 * n + 4 ≤ L) (hL : L ≤ 2048) (C : LwC p s m meth c b L xs D ad cy) (hInv : Inv n σ) (hP : va_P D vwCl (cellsA ad cy σ) H) (hS : va_S (AA ad) s.heap H locs) (hl : lv_has ls 4 [(3, .int (nI (4 * n))), (2, .ref (ad 89)), (1, .ref (ad 0)), (0, .ref b)])
    (nx : ∀ (σ' : Sg) (H1 : Heap) (locs1 : List Loc), Inv (n + 1) σ' → va_P D vwCl (cellsA ad cy σ') H1 → va_S (AA ad) s.heap H1 locs1 → W p l e room_1 s m #[Value.ref b] below meth c H1 locs1 600000 7302250 (lw_Z below #[Value.ref b] s) (F0 m 897 ls [])) : W p l e room_1 s m #[Value.ref b] below meth c H locs 600000 7302250 (lw_Z below #[Value.ref b] s) (F0 m 156 ls []) := by
  obtain ⟨hx, hb, hrt, hml, hown, hts, hX, hbl, hlocks, hgv⟩ := id C.1
  have hbA : ¬ AA ad b := fun q => Nat.not_le.mpr hbl (C.2.2.2.2 b q)
  have v1 : vp_in (nI (4 * n) + 1) L := by rw [nI_1]; exact vp_in_nI (by omega) (by omega)
  have v2 : vp_in (nI (4 * n) + 2) L := by rw [show (2 : Int32) = nI 2 from rfl, nI_add]; exact vp_in_nI (by omega) (by omega)
  have v3 : vp_in (nI (4 * n) + 3) L := by rw [show (3 : Int32) = nI 3 from rfl, nI_add]; exact vp_in_nI (by omega) (by omega)
  have h2 := two_feed (n := n) (σ := σ) (x := (xs (nI (4 * n) + 1).toNatClampNeg)) (b := (((xs (nI (4 * n) + 2).toNatClampNeg).toInt64 <<< ((32 : Int32).toInt64 &&& 63)) ||| ((xs (nI (4 * n) + 3).toNatClampNeg).toInt64 &&& 4294967295))) hInv
  unfold Two at h2
  refine lv_aload_n hx hb dL_156 rfl (lv_at hl 2 rfl) ?_
  refine lv_aload_n hx hb dL_157 rfl (lv_at hl 3 rfl) ?_
  refine lv_iload_n hx hb dL_158 rfl (lv_at hl 0 rfl) ?_
  refine lv_iconst (v := 1) hx hb dL_159 (by decide) ?_
  refine lv_iadd hx hb dL_160 ?_
  refine va_sld hx hb hX hbl hbA hS v1 dL_161 ?_
  refine lv_aload_n hx hb dL_162 rfl (lv_at hl 3 rfl) ?_
  refine lv_iload_n hx hb dL_163 rfl (lv_at hl 0 rfl) ?_
  refine lv_iconst (v := 2) hx hb dL_164 (by decide) ?_
  refine lv_iadd hx hb dL_165 ?_
  refine va_sld hx hb hX hbl hbA hS v2 dL_166 ?_
  refine lv_i2l hx hb dL_167 rfl ?_
  refine lv_bipush (v := 32) hx hb dL_168 (by decide) ?_
  refine lv_lshl hx hb dL_170 rfl ?_
  refine lv_aload_n hx hb dL_171 rfl (lv_at hl 3 rfl) ?_
  refine lv_iload_n hx hb dL_172 rfl (lv_at hl 0 rfl) ?_
  refine lv_iconst (v := 3) hx hb dL_173 (by decide) ?_
  refine lv_iadd hx hb dL_174 ?_
  refine va_sld hx hb hX hbl hbA hS v3 dL_175 ?_
  refine lv_i2l hx hb dL_176 rfl ?_
  refine lv_ldc2 (v := 4294967295) hx hb hown (hts _ (List.mem_of_getElem? (i := 1201) (by decide +kernel))) dL_177 ?_
  refine lv_land hx hb dL_180 ?_
  refine lv_lor hx hb dL_181 ?_
  refine lw_call (ms := mX7_feed) (r := 0) (w := 7) (li := 363) (As := [.int (xs (nI (4 * n) + 1).toNatClampNeg), .long (((xs (nI (4 * n) + 2).toNatClampNeg).toInt64 <<< ((32 : Int32).toInt64 &&& 63)) ||| ((xs (nI (4 * n) + 3).toNatClampNeg).toInt64 &&& 4294967295))]) (rest := []) C h2 rfl (by decide +kernel) (show parB mX7_feed 2 = true by decide +kernel) (by decide +kernel) (by decide +kernel) (by decide) rfl rfl (by decide) rfl hP hS hl (Nat.le_of_ble_eq_true rfl) dL_182 (fun v1 σ1 H locs hR1 hP hS => ?_)
  obtain ⟨ans, rfl, h3⟩ := hR1
  refine lv_aload_n hx hb dL_185 rfl (lv_at hl 1 rfl) ?_
  refine lv_aload_n hx hb dL_186 rfl (lv_at hl 3 rfl) ?_
  refine lv_iload_n hx hb dL_187 rfl (lv_at hl 0 rfl) ?_
  refine lv_iconst (v := 1) hx hb dL_188 (by decide) ?_
  refine lv_iadd hx hb dL_189 ?_
  refine va_sld hx hb hX hbl hbA hS v1 dL_190 ?_
  refine lv_aload_n hx hb dL_191 rfl (lv_at hl 3 rfl) ?_
  refine lv_iload_n hx hb dL_192 rfl (lv_at hl 0 rfl) ?_
  refine lv_iconst (v := 2) hx hb dL_193 (by decide) ?_
  refine lv_iadd hx hb dL_194 ?_
  refine va_sld hx hb hX hbl hbA hS v2 dL_195 ?_
  refine lv_i2l hx hb dL_196 rfl ?_
  refine lv_bipush (v := 32) hx hb dL_197 (by decide) ?_
  refine lv_lshl hx hb dL_199 rfl ?_
  refine lv_aload_n hx hb dL_200 rfl (lv_at hl 3 rfl) ?_
  refine lv_iload_n hx hb dL_201 rfl (lv_at hl 0 rfl) ?_
  refine lv_iconst (v := 3) hx hb dL_202 (by decide) ?_
  refine lv_iadd hx hb dL_203 ?_
  refine va_sld hx hb hX hbl hbA hS v3 dL_204 ?_
  refine lv_i2l hx hb dL_205 rfl ?_
  refine lv_ldc2 (v := 4294967295) hx hb hown (hts _ (List.mem_of_getElem? (i := 1201) (by decide +kernel))) dL_206 ?_
  refine lv_land hx hb dL_209 ?_
  refine lv_lor hx hb dL_210 ?_
  refine lw_call (ms := mX8_feed) (r := 89) (w := 8) (li := 908) (As := [.int (xs (nI (4 * n) + 1).toNatClampNeg), .long (((xs (nI (4 * n) + 2).toNatClampNeg).toInt64 <<< ((32 : Int32).toInt64 &&& 63)) ||| ((xs (nI (4 * n) + 3).toNatClampNeg).toInt64 &&& 4294967295))]) (rest := [.int ans]) C h3 rfl (by decide +kernel) (show parB mX8_feed 2 = true by decide +kernel) (by decide +kernel) (by decide +kernel) (by decide) rfl rfl (by decide) rfl hP hS hl (Nat.le_of_ble_eq_true rfl) dL_211 (fun v1 σ2 H locs hR2 hP hS => ?_)
  obtain ⟨rfl, hInv2⟩ := hR2
  refine lv_icmp_eq (x := ans) (y := ans) (tgt := 897) hx hb dL_214 (by decide) (fun _ => ?_) (fun z => absurd rfl z)
  exact nx σ2 H locs hInv2 hP hS
set_option maxHeartbeats 1000000 in
theorem lw_c1 (hn : n < 512) (hi : 4 * n + 4 ≤ L) (hL : L ≤ 2048) (C : LwC p s m meth c b L xs D ad cy) (hInv : Inv n σ) (hP : va_P D vwCl (cellsA ad cy σ) H) (hS : va_S (AA ad) s.heap H locs) (hl : lv_has ls 4 [(3, .int (nI (4 * n))), (2, .ref (ad 89)), (1, .ref (ad 0)), (0, .ref b)])
    (nx : ∀ (σ' : Sg) (H1 : Heap) (locs1 : List Loc), Inv (n + 1) σ' → va_P D vwCl (cellsA ad cy σ') H1 → va_S (AA ad) s.heap H1 locs1 → W p l e room_1 s m #[Value.ref b] below meth c H1 locs1 600000 7302250 (lw_Z below #[Value.ref b] s) (F0 m 897 ls [])) : W p l e room_1 s m #[Value.ref b] below meth c H locs 600000 7302250 (lw_Z below #[Value.ref b] s) (F0 m 219 ls []) := by
  obtain ⟨hx, hb, hrt, hml, hown, hts, hX, hbl, hlocks, hgv⟩ := id C.1
  have hbA : ¬ AA ad b := fun q => Nat.not_le.mpr hbl (C.2.2.2.2 b q)
  have v1 : vp_in (nI (4 * n) + 1) L := by rw [nI_1]; exact vp_in_nI (by omega) (by omega)
  have v2 : vp_in (nI (4 * n) + 2) L := by rw [show (2 : Int32) = nI 2 from rfl, nI_add]; exact vp_in_nI (by omega) (by omega)
  have v3 : vp_in (nI (4 * n) + 3) L := by rw [show (3 : Int32) = nI 3 from rfl, nI_add]; exact vp_in_nI (by omega) (by omega)
  have h2 := two_land (n := n) (σ := σ) hInv
  unfold Two at h2
  refine lv_aload_n hx hb dL_219 rfl (lv_at hl 2 rfl) ?_
  refine lw_call (ms := mX7_land) (r := 0) (w := 7) (li := 373) (As := []) (rest := []) C h2 rfl (by decide +kernel) (show parB mX7_land 0 = true by decide +kernel) (by decide +kernel) (by decide +kernel) (by decide) rfl rfl (by decide) rfl hP hS hl (Nat.le_of_ble_eq_true rfl) dL_220 (fun v1 σ1 H locs hR1 hP hS => ?_)
  obtain ⟨ans, rfl, h3⟩ := hR1
  refine lv_aload_n hx hb dL_223 rfl (lv_at hl 1 rfl) ?_
  refine lw_call (ms := mX8_land) (r := 89) (w := 8) (li := 919) (As := []) (rest := [.int ans]) C h3 rfl (by decide +kernel) (show parB mX8_land 0 = true by decide +kernel) (by decide +kernel) (by decide +kernel) (by decide) rfl rfl (by decide) rfl hP hS hl (Nat.le_of_ble_eq_true rfl) dL_224 (fun v1 σ2 H locs hR2 hP hS => ?_)
  obtain ⟨rfl, hInv2⟩ := hR2
  refine lv_icmp_eq (x := ans) (y := ans) (tgt := 897) hx hb dL_227 (by decide) (fun _ => ?_) (fun z => absurd rfl z)
  exact nx σ2 H locs hInv2 hP hS
set_option maxHeartbeats 1000000 in
theorem lw_c2 (hn : n < 512) (hi : 4 * n + 4 ≤ L) (hL : L ≤ 2048) (C : LwC p s m meth c b L xs D ad cy) (hInv : Inv n σ) (hP : va_P D vwCl (cellsA ad cy σ) H) (hS : va_S (AA ad) s.heap H locs) (hl : lv_has ls 4 [(3, .int (nI (4 * n))), (2, .ref (ad 89)), (1, .ref (ad 0)), (0, .ref b)])
    (nx : ∀ (σ' : Sg) (H1 : Heap) (locs1 : List Loc), Inv (n + 1) σ' → va_P D vwCl (cellsA ad cy σ') H1 → va_S (AA ad) s.heap H1 locs1 → W p l e room_1 s m #[Value.ref b] below meth c H1 locs1 600000 7302250 (lw_Z below #[Value.ref b] s) (F0 m 897 ls [])) : W p l e room_1 s m #[Value.ref b] below meth c H locs 600000 7302250 (lw_Z below #[Value.ref b] s) (F0 m 232 ls []) := by
  obtain ⟨hx, hb, hrt, hml, hown, hts, hX, hbl, hlocks, hgv⟩ := id C.1
  have hbA : ¬ AA ad b := fun q => Nat.not_le.mpr hbl (C.2.2.2.2 b q)
  have v1 : vp_in (nI (4 * n) + 1) L := by rw [nI_1]; exact vp_in_nI (by omega) (by omega)
  have v2 : vp_in (nI (4 * n) + 2) L := by rw [show (2 : Int32) = nI 2 from rfl, nI_add]; exact vp_in_nI (by omega) (by omega)
  have v3 : vp_in (nI (4 * n) + 3) L := by rw [show (3 : Int32) = nI 3 from rfl, nI_add]; exact vp_in_nI (by omega) (by omega)
  have h2 := two_fault (n := n) (σ := σ) hInv
  unfold Two at h2
  refine lv_aload_n hx hb dL_232 rfl (lv_at hl 2 rfl) ?_
  refine lw_call (ms := mX7_fault) (r := 0) (w := 7) (li := 515) (As := []) (rest := []) C h2 rfl (by decide +kernel) (show parB mX7_fault 0 = true by decide +kernel) (by decide +kernel) (by decide +kernel) (by decide) rfl rfl (by decide) rfl hP hS hl (Nat.le_of_ble_eq_true rfl) dL_233 (fun v1 σ1 H locs hR1 hP hS => ?_)
  obtain ⟨ans, rfl, h3⟩ := hR1
  refine lv_aload_n hx hb dL_236 rfl (lv_at hl 1 rfl) ?_
  refine lw_call (ms := mX8_fault) (r := 89) (w := 8) (li := 972) (As := []) (rest := [.int ans]) C h3 rfl (by decide +kernel) (show parB mX8_fault 0 = true by decide +kernel) (by decide +kernel) (by decide +kernel) (by decide) rfl rfl (by decide) rfl hP hS hl (Nat.le_of_ble_eq_true rfl) dL_237 (fun v1 σ2 H locs hR2 hP hS => ?_)
  obtain ⟨rfl, hInv2⟩ := hR2
  refine lv_icmp_eq (x := ans) (y := ans) (tgt := 897) hx hb dL_240 (by decide) (fun _ => ?_) (fun z => absurd rfl z)
  exact nx σ2 H locs hInv2 hP hS
set_option maxHeartbeats 1000000 in
theorem lw_c3 (hn : n < 512) (hi : 4 * n + 4 ≤ L) (hL : L ≤ 2048) (C : LwC p s m meth c b L xs D ad cy) (hInv : Inv n σ) (hP : va_P D vwCl (cellsA ad cy σ) H) (hS : va_S (AA ad) s.heap H locs) (hl : lv_has ls 4 [(3, .int (nI (4 * n))), (2, .ref (ad 89)), (1, .ref (ad 0)), (0, .ref b)])
    (nx : ∀ (σ' : Sg) (H1 : Heap) (locs1 : List Loc), Inv (n + 1) σ' → va_P D vwCl (cellsA ad cy σ') H1 → va_S (AA ad) s.heap H1 locs1 → W p l e room_1 s m #[Value.ref b] below meth c H1 locs1 600000 7302250 (lw_Z below #[Value.ref b] s) (F0 m 897 ls [])) : W p l e room_1 s m #[Value.ref b] below meth c H locs 600000 7302250 (lw_Z below #[Value.ref b] s) (F0 m 245 ls []) := by
  obtain ⟨hx, hb, hrt, hml, hown, hts, hX, hbl, hlocks, hgv⟩ := id C.1
  have hbA : ¬ AA ad b := fun q => Nat.not_le.mpr hbl (C.2.2.2.2 b q)
  have v1 : vp_in (nI (4 * n) + 1) L := by rw [nI_1]; exact vp_in_nI (by omega) (by omega)
  have v2 : vp_in (nI (4 * n) + 2) L := by rw [show (2 : Int32) = nI 2 from rfl, nI_add]; exact vp_in_nI (by omega) (by omega)
  have v3 : vp_in (nI (4 * n) + 3) L := by rw [show (3 : Int32) = nI 3 from rfl, nI_add]; exact vp_in_nI (by omega) (by omega)
  have h2 := two_told (n := n) (σ := σ) (x := (xs (nI (4 * n) + 1).toNatClampNeg)) hInv
  unfold Two at h2
  refine lv_aload_n hx hb dL_245 rfl (lv_at hl 2 rfl) ?_
  refine lv_aload_n hx hb dL_246 rfl (lv_at hl 3 rfl) ?_
  refine lv_iload_n hx hb dL_247 rfl (lv_at hl 0 rfl) ?_
  refine lv_iconst (v := 1) hx hb dL_248 (by decide) ?_
  refine lv_iadd hx hb dL_249 ?_
  refine va_sld hx hb hX hbl hbA hS v1 dL_250 ?_
  refine lw_call (ms := mX7_told) (r := 0) (w := 7) (li := 519) (As := [.int (xs (nI (4 * n) + 1).toNatClampNeg)]) (rest := []) C h2 rfl (by decide +kernel) (show parB mX7_told 1 = true by decide +kernel) (by decide +kernel) (by decide +kernel) (by decide) rfl rfl (by decide) rfl hP hS hl (Nat.le_of_ble_eq_true rfl) dL_251 (fun v1 σ1 H locs hR1 hP hS => ?_)
  obtain ⟨ans, rfl, h3⟩ := hR1
  refine lv_aload_n hx hb dL_254 rfl (lv_at hl 1 rfl) ?_
  refine lv_aload_n hx hb dL_255 rfl (lv_at hl 3 rfl) ?_
  refine lv_iload_n hx hb dL_256 rfl (lv_at hl 0 rfl) ?_
  refine lv_iconst (v := 1) hx hb dL_257 (by decide) ?_
  refine lv_iadd hx hb dL_258 ?_
  refine va_sld hx hb hX hbl hbA hS v1 dL_259 ?_
  refine lw_call (ms := mX8_told) (r := 89) (w := 8) (li := 976) (As := [.int (xs (nI (4 * n) + 1).toNatClampNeg)]) (rest := [.int ans]) C h3 rfl (by decide +kernel) (show parB mX8_told 1 = true by decide +kernel) (by decide +kernel) (by decide +kernel) (by decide) rfl rfl (by decide) rfl hP hS hl (Nat.le_of_ble_eq_true rfl) dL_260 (fun v1 σ2 H locs hR2 hP hS => ?_)
  obtain ⟨rfl, hInv2⟩ := hR2
  refine lv_icmp_eq (x := ans) (y := ans) (tgt := 897) hx hb dL_263 (by decide) (fun _ => ?_) (fun z => absurd rfl z)
  exact nx σ2 H locs hInv2 hP hS
set_option maxHeartbeats 1000000 in
theorem lw_c4 (hn : n < 512) (hi : 4 * n + 4 ≤ L) (hL : L ≤ 2048) (C : LwC p s m meth c b L xs D ad cy) (hInv : Inv n σ) (hP : va_P D vwCl (cellsA ad cy σ) H) (hS : va_S (AA ad) s.heap H locs) (hl : lv_has ls 4 [(3, .int (nI (4 * n))), (2, .ref (ad 89)), (1, .ref (ad 0)), (0, .ref b)])
    (nx : ∀ (σ' : Sg) (H1 : Heap) (locs1 : List Loc), Inv (n + 1) σ' → va_P D vwCl (cellsA ad cy σ') H1 → va_S (AA ad) s.heap H1 locs1 → W p l e room_1 s m #[Value.ref b] below meth c H1 locs1 600000 7302250 (lw_Z below #[Value.ref b] s) (F0 m 897 ls [])) : W p l e room_1 s m #[Value.ref b] below meth c H locs 600000 7302250 (lw_Z below #[Value.ref b] s) (F0 m 268 ls []) := by
  obtain ⟨hx, hb, hrt, hml, hown, hts, hX, hbl, hlocks, hgv⟩ := id C.1
  have hbA : ¬ AA ad b := fun q => Nat.not_le.mpr hbl (C.2.2.2.2 b q)
  have v1 : vp_in (nI (4 * n) + 1) L := by rw [nI_1]; exact vp_in_nI (by omega) (by omega)
  have v2 : vp_in (nI (4 * n) + 2) L := by rw [show (2 : Int32) = nI 2 from rfl, nI_add]; exact vp_in_nI (by omega) (by omega)
  have v3 : vp_in (nI (4 * n) + 3) L := by rw [show (3 : Int32) = nI 3 from rfl, nI_add]; exact vp_in_nI (by omega) (by omega)
  have h2 := two_house (n := n) (σ := σ) (x := (xs (nI (4 * n) + 1).toNatClampNeg)) (y := (xs (nI (4 * n) + 2).toNatClampNeg)) hInv
  unfold Two at h2
  refine lv_aload_n hx hb dL_268 rfl (lv_at hl 2 rfl) ?_
  refine lv_aload_n hx hb dL_269 rfl (lv_at hl 3 rfl) ?_
  refine lv_iload_n hx hb dL_270 rfl (lv_at hl 0 rfl) ?_
  refine lv_iconst (v := 1) hx hb dL_271 (by decide) ?_
  refine lv_iadd hx hb dL_272 ?_
  refine va_sld hx hb hX hbl hbA hS v1 dL_273 ?_
  refine lv_aload_n hx hb dL_274 rfl (lv_at hl 3 rfl) ?_
  refine lv_iload_n hx hb dL_275 rfl (lv_at hl 0 rfl) ?_
  refine lv_iconst (v := 2) hx hb dL_276 (by decide) ?_
  refine lv_iadd hx hb dL_277 ?_
  refine va_sld hx hb hX hbl hbA hS v2 dL_278 ?_
  refine lw_call (ms := mX7_house) (r := 0) (w := 7) (li := 527) (As := [.int (xs (nI (4 * n) + 1).toNatClampNeg), .int (xs (nI (4 * n) + 2).toNatClampNeg)]) (rest := []) C h2 rfl (by decide +kernel) (show parB mX7_house 2 = true by decide +kernel) (by decide +kernel) (by decide +kernel) (by decide) rfl rfl (by decide) rfl hP hS hl (Nat.le_of_ble_eq_true rfl) dL_279 (fun v1 σ1 H locs hR1 hP hS => ?_)
  obtain ⟨ans, rfl, h3⟩ := hR1
  refine lv_aload_n hx hb dL_282 rfl (lv_at hl 1 rfl) ?_
  refine lv_aload_n hx hb dL_283 rfl (lv_at hl 3 rfl) ?_
  refine lv_iload_n hx hb dL_284 rfl (lv_at hl 0 rfl) ?_
  refine lv_iconst (v := 1) hx hb dL_285 (by decide) ?_
  refine lv_iadd hx hb dL_286 ?_
  refine va_sld hx hb hX hbl hbA hS v1 dL_287 ?_
  refine lv_aload_n hx hb dL_288 rfl (lv_at hl 3 rfl) ?_
  refine lv_iload_n hx hb dL_289 rfl (lv_at hl 0 rfl) ?_
  refine lv_iconst (v := 2) hx hb dL_290 (by decide) ?_
  refine lv_iadd hx hb dL_291 ?_
  refine va_sld hx hb hX hbl hbA hS v2 dL_292 ?_
  refine lw_call (ms := mX8_house) (r := 89) (w := 8) (li := 988) (As := [.int (xs (nI (4 * n) + 1).toNatClampNeg), .int (xs (nI (4 * n) + 2).toNatClampNeg)]) (rest := [.int ans]) C h3 rfl (by decide +kernel) (show parB mX8_house 2 = true by decide +kernel) (by decide +kernel) (by decide +kernel) (by decide) rfl rfl (by decide) rfl hP hS hl (Nat.le_of_ble_eq_true rfl) dL_293 (fun v1 σ2 H locs hR2 hP hS => ?_)
  obtain ⟨rfl, hInv2⟩ := hR2
  refine lv_icmp_eq (x := ans) (y := ans) (tgt := 897) hx hb dL_296 (by decide) (fun _ => ?_) (fun z => absurd rfl z)
  exact nx σ2 H locs hInv2 hP hS
set_option maxHeartbeats 1000000 in
theorem lw_c5 (hn : n < 512) (hi : 4 * n + 4 ≤ L) (hL : L ≤ 2048) (C : LwC p s m meth c b L xs D ad cy) (hInv : Inv n σ) (hP : va_P D vwCl (cellsA ad cy σ) H) (hS : va_S (AA ad) s.heap H locs) (hl : lv_has ls 4 [(3, .int (nI (4 * n))), (2, .ref (ad 89)), (1, .ref (ad 0)), (0, .ref b)])
    (nx : ∀ (σ' : Sg) (H1 : Heap) (locs1 : List Loc), Inv (n + 1) σ' → va_P D vwCl (cellsA ad cy σ') H1 → va_S (AA ad) s.heap H1 locs1 → W p l e room_1 s m #[Value.ref b] below meth c H1 locs1 600000 7302250 (lw_Z below #[Value.ref b] s) (F0 m 897 ls [])) : W p l e room_1 s m #[Value.ref b] below meth c H locs 600000 7302250 (lw_Z below #[Value.ref b] s) (F0 m 301 ls []) := by
  obtain ⟨hx, hb, hrt, hml, hown, hts, hX, hbl, hlocks, hgv⟩ := id C.1
  have hbA : ¬ AA ad b := fun q => Nat.not_le.mpr hbl (C.2.2.2.2 b q)
  have v1 : vp_in (nI (4 * n) + 1) L := by rw [nI_1]; exact vp_in_nI (by omega) (by omega)
  have v2 : vp_in (nI (4 * n) + 2) L := by rw [show (2 : Int32) = nI 2 from rfl, nI_add]; exact vp_in_nI (by omega) (by omega)
  have v3 : vp_in (nI (4 * n) + 3) L := by rw [show (3 : Int32) = nI 3 from rfl, nI_add]; exact vp_in_nI (by omega) (by omega)
  have h2 := two_jar (n := n) (σ := σ) (x := (xs (nI (4 * n) + 1).toNatClampNeg)) (y := (xs (nI (4 * n) + 2).toNatClampNeg)) hInv
  unfold Two at h2
  refine lv_aload_n hx hb dL_301 rfl (lv_at hl 2 rfl) ?_
  refine lv_aload_n hx hb dL_302 rfl (lv_at hl 3 rfl) ?_
  refine lv_iload_n hx hb dL_303 rfl (lv_at hl 0 rfl) ?_
  refine lv_iconst (v := 1) hx hb dL_304 (by decide) ?_
  refine lv_iadd hx hb dL_305 ?_
  refine va_sld hx hb hX hbl hbA hS v1 dL_306 ?_
  refine lv_aload_n hx hb dL_307 rfl (lv_at hl 3 rfl) ?_
  refine lv_iload_n hx hb dL_308 rfl (lv_at hl 0 rfl) ?_
  refine lv_iconst (v := 2) hx hb dL_309 (by decide) ?_
  refine lv_iadd hx hb dL_310 ?_
  refine va_sld hx hb hX hbl hbA hS v2 dL_311 ?_
  refine lw_call (ms := mX7_jar) (r := 0) (w := 7) (li := 556) (As := [.int (xs (nI (4 * n) + 1).toNatClampNeg), .int (xs (nI (4 * n) + 2).toNatClampNeg)]) (rest := []) C h2 rfl (by decide +kernel) (show parB mX7_jar 2 = true by decide +kernel) (by decide +kernel) (by decide +kernel) (by decide) rfl rfl (by decide) rfl hP hS hl (Nat.le_of_ble_eq_true rfl) dL_312 (fun v1 σ1 H locs hR1 hP hS => ?_)
  obtain ⟨ans, rfl, h3⟩ := hR1
  refine lv_aload_n hx hb dL_315 rfl (lv_at hl 1 rfl) ?_
  refine lv_aload_n hx hb dL_316 rfl (lv_at hl 3 rfl) ?_
  refine lv_iload_n hx hb dL_317 rfl (lv_at hl 0 rfl) ?_
  refine lv_iconst (v := 1) hx hb dL_318 (by decide) ?_
  refine lv_iadd hx hb dL_319 ?_
  refine va_sld hx hb hX hbl hbA hS v1 dL_320 ?_
  refine lv_aload_n hx hb dL_321 rfl (lv_at hl 3 rfl) ?_
  refine lv_iload_n hx hb dL_322 rfl (lv_at hl 0 rfl) ?_
  refine lv_iconst (v := 2) hx hb dL_323 (by decide) ?_
  refine lv_iadd hx hb dL_324 ?_
  refine va_sld hx hb hX hbl hbA hS v2 dL_325 ?_
  refine lw_call (ms := mX8_jar) (r := 89) (w := 8) (li := 1012) (As := [.int (xs (nI (4 * n) + 1).toNatClampNeg), .int (xs (nI (4 * n) + 2).toNatClampNeg)]) (rest := [.int ans]) C h3 rfl (by decide +kernel) (show parB mX8_jar 2 = true by decide +kernel) (by decide +kernel) (by decide +kernel) (by decide) rfl rfl (by decide) rfl hP hS hl (Nat.le_of_ble_eq_true rfl) dL_326 (fun v1 σ2 H locs hR2 hP hS => ?_)
  obtain ⟨rfl, hInv2⟩ := hR2
  refine lv_icmp_eq (x := ans) (y := ans) (tgt := 897) hx hb dL_329 (by decide) (fun _ => ?_) (fun z => absurd rfl z)
  exact nx σ2 H locs hInv2 hP hS
set_option maxHeartbeats 1000000 in
theorem lw_c6 (hn : n < 512) (hi : 4 * n + 4 ≤ L) (hL : L ≤ 2048) (C : LwC p s m meth c b L xs D ad cy) (hInv : Inv n σ) (hP : va_P D vwCl (cellsA ad cy σ) H) (hS : va_S (AA ad) s.heap H locs) (hl : lv_has ls 4 [(3, .int (nI (4 * n))), (2, .ref (ad 89)), (1, .ref (ad 0)), (0, .ref b)])
    (nx : ∀ (σ' : Sg) (H1 : Heap) (locs1 : List Loc), Inv (n + 1) σ' → va_P D vwCl (cellsA ad cy σ') H1 → va_S (AA ad) s.heap H1 locs1 → W p l e room_1 s m #[Value.ref b] below meth c H1 locs1 600000 7302250 (lw_Z below #[Value.ref b] s) (F0 m 897 ls [])) : W p l e room_1 s m #[Value.ref b] below meth c H locs 600000 7302250 (lw_Z below #[Value.ref b] s) (F0 m 334 ls []) := by
  obtain ⟨hx, hb, hrt, hml, hown, hts, hX, hbl, hlocks, hgv⟩ := id C.1
  have hbA : ¬ AA ad b := fun q => Nat.not_le.mpr hbl (C.2.2.2.2 b q)
  have v1 : vp_in (nI (4 * n) + 1) L := by rw [nI_1]; exact vp_in_nI (by omega) (by omega)
  have v2 : vp_in (nI (4 * n) + 2) L := by rw [show (2 : Int32) = nI 2 from rfl, nI_add]; exact vp_in_nI (by omega) (by omega)
  have v3 : vp_in (nI (4 * n) + 3) L := by rw [show (3 : Int32) = nI 3 from rfl, nI_add]; exact vp_in_nI (by omega) (by omega)
  have h2 := two_law (n := n) (σ := σ) (x := (xs (nI (4 * n) + 1).toNatClampNeg)) hInv
  unfold Two at h2
  refine lv_aload_n hx hb dL_334 rfl (lv_at hl 2 rfl) ?_
  refine lv_aload_n hx hb dL_335 rfl (lv_at hl 3 rfl) ?_
  refine lv_iload_n hx hb dL_336 rfl (lv_at hl 0 rfl) ?_
  refine lv_iconst (v := 1) hx hb dL_337 (by decide) ?_
  refine lv_iadd hx hb dL_338 ?_
  refine va_sld hx hb hX hbl hbA hS v1 dL_339 ?_
  refine lw_call (ms := mX7_law) (r := 0) (w := 7) (li := 576) (As := [.int (xs (nI (4 * n) + 1).toNatClampNeg)]) (rest := []) C h2 rfl (by decide +kernel) (show parB mX7_law 1 = true by decide +kernel) (by decide +kernel) (by decide +kernel) (by decide) rfl rfl (by decide) rfl hP hS hl (Nat.le_of_ble_eq_true rfl) dL_340 (fun v1 σ1 H locs hR1 hP hS => ?_)
  obtain ⟨ans, rfl, h3⟩ := hR1
  refine lv_aload_n hx hb dL_343 rfl (lv_at hl 1 rfl) ?_
  refine lv_aload_n hx hb dL_344 rfl (lv_at hl 3 rfl) ?_
  refine lv_iload_n hx hb dL_345 rfl (lv_at hl 0 rfl) ?_
  refine lv_iconst (v := 1) hx hb dL_346 (by decide) ?_
  refine lv_iadd hx hb dL_347 ?_
  refine va_sld hx hb hX hbl hbA hS v1 dL_348 ?_
  refine lw_call (ms := mX8_law) (r := 89) (w := 8) (li := 1024) (As := [.int (xs (nI (4 * n) + 1).toNatClampNeg)]) (rest := [.int ans]) C h3 rfl (by decide +kernel) (show parB mX8_law 1 = true by decide +kernel) (by decide +kernel) (by decide +kernel) (by decide) rfl rfl (by decide) rfl hP hS hl (Nat.le_of_ble_eq_true rfl) dL_349 (fun v1 σ2 H locs hR2 hP hS => ?_)
  obtain ⟨rfl, hInv2⟩ := hR2
  refine lv_icmp_eq (x := ans) (y := ans) (tgt := 897) hx hb dL_352 (by decide) (fun _ => ?_) (fun z => absurd rfl z)
  exact nx σ2 H locs hInv2 hP hS
set_option maxHeartbeats 1000000 in
theorem lw_c7 (hn : n < 512) (hi : 4 * n + 4 ≤ L) (hL : L ≤ 2048) (C : LwC p s m meth c b L xs D ad cy) (hInv : Inv n σ) (hP : va_P D vwCl (cellsA ad cy σ) H) (hS : va_S (AA ad) s.heap H locs) (hl : lv_has ls 4 [(3, .int (nI (4 * n))), (2, .ref (ad 89)), (1, .ref (ad 0)), (0, .ref b)])
    (nx : ∀ (σ' : Sg) (H1 : Heap) (locs1 : List Loc), Inv (n + 1) σ' → va_P D vwCl (cellsA ad cy σ') H1 → va_S (AA ad) s.heap H1 locs1 → W p l e room_1 s m #[Value.ref b] below meth c H1 locs1 600000 7302250 (lw_Z below #[Value.ref b] s) (F0 m 897 ls [])) : W p l e room_1 s m #[Value.ref b] below meth c H locs 600000 7302250 (lw_Z below #[Value.ref b] s) (F0 m 357 ls []) := by
  obtain ⟨hx, hb, hrt, hml, hown, hts, hX, hbl, hlocks, hgv⟩ := id C.1
  have hbA : ¬ AA ad b := fun q => Nat.not_le.mpr hbl (C.2.2.2.2 b q)
  have v1 : vp_in (nI (4 * n) + 1) L := by rw [nI_1]; exact vp_in_nI (by omega) (by omega)
  have v2 : vp_in (nI (4 * n) + 2) L := by rw [show (2 : Int32) = nI 2 from rfl, nI_add]; exact vp_in_nI (by omega) (by omega)
  have v3 : vp_in (nI (4 * n) + 3) L := by rw [show (3 : Int32) = nI 3 from rfl, nI_add]; exact vp_in_nI (by omega) (by omega)
  have h2 := two_seals (n := n) (σ := σ) (x := (xs (nI (4 * n) + 1).toNatClampNeg)) (y := (xs (nI (4 * n) + 2).toNatClampNeg)) hInv
  unfold Two at h2
  refine lv_aload_n hx hb dL_357 rfl (lv_at hl 2 rfl) ?_
  refine lv_aload_n hx hb dL_358 rfl (lv_at hl 3 rfl) ?_
  refine lv_iload_n hx hb dL_359 rfl (lv_at hl 0 rfl) ?_
  refine lv_iconst (v := 1) hx hb dL_360 (by decide) ?_
  refine lv_iadd hx hb dL_361 ?_
  refine va_sld hx hb hX hbl hbA hS v1 dL_362 ?_
  refine lv_aload_n hx hb dL_363 rfl (lv_at hl 3 rfl) ?_
  refine lv_iload_n hx hb dL_364 rfl (lv_at hl 0 rfl) ?_
  refine lv_iconst (v := 2) hx hb dL_365 (by decide) ?_
  refine lv_iadd hx hb dL_366 ?_
  refine va_sld hx hb hX hbl hbA hS v2 dL_367 ?_
  refine lw_call (ms := mX7_seals) (r := 0) (w := 7) (li := 580) (As := [.int (xs (nI (4 * n) + 1).toNatClampNeg), .int (xs (nI (4 * n) + 2).toNatClampNeg)]) (rest := []) C h2 rfl (by decide +kernel) (show parB mX7_seals 2 = true by decide +kernel) (by decide +kernel) (by decide +kernel) (by decide) rfl rfl (by decide) rfl hP hS hl (Nat.le_of_ble_eq_true rfl) dL_368 (fun v1 σ1 H locs hR1 hP hS => ?_)
  obtain ⟨ans, rfl, h3⟩ := hR1
  refine lv_aload_n hx hb dL_371 rfl (lv_at hl 1 rfl) ?_
  refine lv_aload_n hx hb dL_372 rfl (lv_at hl 3 rfl) ?_
  refine lv_iload_n hx hb dL_373 rfl (lv_at hl 0 rfl) ?_
  refine lv_iconst (v := 1) hx hb dL_374 (by decide) ?_
  refine lv_iadd hx hb dL_375 ?_
  refine va_sld hx hb hX hbl hbA hS v1 dL_376 ?_
  refine lv_aload_n hx hb dL_377 rfl (lv_at hl 3 rfl) ?_
  refine lv_iload_n hx hb dL_378 rfl (lv_at hl 0 rfl) ?_
  refine lv_iconst (v := 2) hx hb dL_379 (by decide) ?_
  refine lv_iadd hx hb dL_380 ?_
  refine va_sld hx hb hX hbl hbA hS v2 dL_381 ?_
  refine lw_call (ms := mX8_seals) (r := 89) (w := 8) (li := 1029) (As := [.int (xs (nI (4 * n) + 1).toNatClampNeg), .int (xs (nI (4 * n) + 2).toNatClampNeg)]) (rest := [.int ans]) C h3 rfl (by decide +kernel) (show parB mX8_seals 2 = true by decide +kernel) (by decide +kernel) (by decide +kernel) (by decide) rfl rfl (by decide) rfl hP hS hl (Nat.le_of_ble_eq_true rfl) dL_382 (fun v1 σ2 H locs hR2 hP hS => ?_)
  obtain ⟨rfl, hInv2⟩ := hR2
  refine lv_icmp_eq (x := ans) (y := ans) (tgt := 897) hx hb dL_385 (by decide) (fun _ => ?_) (fun z => absurd rfl z)
  exact nx σ2 H locs hInv2 hP hS
set_option maxHeartbeats 1000000 in
theorem lw_c8 (hn : n < 512) (hi : 4 * n + 4 ≤ L) (hL : L ≤ 2048) (C : LwC p s m meth c b L xs D ad cy) (hInv : Inv n σ) (hP : va_P D vwCl (cellsA ad cy σ) H) (hS : va_S (AA ad) s.heap H locs) (hl : lv_has ls 4 [(3, .int (nI (4 * n))), (2, .ref (ad 89)), (1, .ref (ad 0)), (0, .ref b)])
    (nx : ∀ (σ' : Sg) (H1 : Heap) (locs1 : List Loc), Inv (n + 1) σ' → va_P D vwCl (cellsA ad cy σ') H1 → va_S (AA ad) s.heap H1 locs1 → W p l e room_1 s m #[Value.ref b] below meth c H1 locs1 600000 7302250 (lw_Z below #[Value.ref b] s) (F0 m 897 ls [])) : W p l e room_1 s m #[Value.ref b] below meth c H locs 600000 7302250 (lw_Z below #[Value.ref b] s) (F0 m 390 ls []) := by
  obtain ⟨hx, hb, hrt, hml, hown, hts, hX, hbl, hlocks, hgv⟩ := id C.1
  have hbA : ¬ AA ad b := fun q => Nat.not_le.mpr hbl (C.2.2.2.2 b q)
  have v1 : vp_in (nI (4 * n) + 1) L := by rw [nI_1]; exact vp_in_nI (by omega) (by omega)
  have v2 : vp_in (nI (4 * n) + 2) L := by rw [show (2 : Int32) = nI 2 from rfl, nI_add]; exact vp_in_nI (by omega) (by omega)
  have v3 : vp_in (nI (4 * n) + 3) L := by rw [show (3 : Int32) = nI 3 from rfl, nI_add]; exact vp_in_nI (by omega) (by omega)
  have h2 := two_give (n := n) (σ := σ) (x := (xs (nI (4 * n) + 1).toNatClampNeg)) (y := (xs (nI (4 * n) + 2).toNatClampNeg)) hInv
  unfold Two at h2
  refine lv_aload_n hx hb dL_390 rfl (lv_at hl 2 rfl) ?_
  refine lv_aload_n hx hb dL_391 rfl (lv_at hl 3 rfl) ?_
  refine lv_iload_n hx hb dL_392 rfl (lv_at hl 0 rfl) ?_
  refine lv_iconst (v := 1) hx hb dL_393 (by decide) ?_
  refine lv_iadd hx hb dL_394 ?_
  refine va_sld hx hb hX hbl hbA hS v1 dL_395 ?_
  refine lv_aload_n hx hb dL_396 rfl (lv_at hl 3 rfl) ?_
  refine lv_iload_n hx hb dL_397 rfl (lv_at hl 0 rfl) ?_
  refine lv_iconst (v := 2) hx hb dL_398 (by decide) ?_
  refine lv_iadd hx hb dL_399 ?_
  refine va_sld hx hb hX hbl hbA hS v2 dL_400 ?_
  refine lw_call (ms := mX7_give) (r := 0) (w := 7) (li := 584) (As := [.int (xs (nI (4 * n) + 1).toNatClampNeg), .int (xs (nI (4 * n) + 2).toNatClampNeg)]) (rest := []) C h2 rfl (by decide +kernel) (show parB mX7_give 2 = true by decide +kernel) (by decide +kernel) (by decide +kernel) (by decide) rfl rfl (by decide) rfl hP hS hl (Nat.le_of_ble_eq_true rfl) dL_401 (fun v1 σ1 H locs hR1 hP hS => ?_)
  obtain ⟨ans, rfl, h3⟩ := hR1
  refine lv_aload_n hx hb dL_404 rfl (lv_at hl 1 rfl) ?_
  refine lv_aload_n hx hb dL_405 rfl (lv_at hl 3 rfl) ?_
  refine lv_iload_n hx hb dL_406 rfl (lv_at hl 0 rfl) ?_
  refine lv_iconst (v := 1) hx hb dL_407 (by decide) ?_
  refine lv_iadd hx hb dL_408 ?_
  refine va_sld hx hb hX hbl hbA hS v1 dL_409 ?_
  refine lv_aload_n hx hb dL_410 rfl (lv_at hl 3 rfl) ?_
  refine lv_iload_n hx hb dL_411 rfl (lv_at hl 0 rfl) ?_
  refine lv_iconst (v := 2) hx hb dL_412 (by decide) ?_
  refine lv_iadd hx hb dL_413 ?_
  refine va_sld hx hb hX hbl hbA hS v2 dL_414 ?_
  refine lw_call (ms := mX8_give) (r := 89) (w := 8) (li := 1034) (As := [.int (xs (nI (4 * n) + 1).toNatClampNeg), .int (xs (nI (4 * n) + 2).toNatClampNeg)]) (rest := [.int ans]) C h3 rfl (by decide +kernel) (show parB mX8_give 2 = true by decide +kernel) (by decide +kernel) (by decide +kernel) (by decide) rfl rfl (by decide) rfl hP hS hl (Nat.le_of_ble_eq_true rfl) dL_415 (fun v1 σ2 H locs hR2 hP hS => ?_)
  obtain ⟨rfl, hInv2⟩ := hR2
  refine lv_icmp_eq (x := ans) (y := ans) (tgt := 897) hx hb dL_418 (by decide) (fun _ => ?_) (fun z => absurd rfl z)
  exact nx σ2 H locs hInv2 hP hS
set_option maxHeartbeats 1000000 in
theorem lw_c9 (hn : n < 512) (hi : 4 * n + 4 ≤ L) (hL : L ≤ 2048) (C : LwC p s m meth c b L xs D ad cy) (hInv : Inv n σ) (hP : va_P D vwCl (cellsA ad cy σ) H) (hS : va_S (AA ad) s.heap H locs) (hl : lv_has ls 4 [(3, .int (nI (4 * n))), (2, .ref (ad 89)), (1, .ref (ad 0)), (0, .ref b)])
    (nx : ∀ (σ' : Sg) (H1 : Heap) (locs1 : List Loc), Inv (n + 1) σ' → va_P D vwCl (cellsA ad cy σ') H1 → va_S (AA ad) s.heap H1 locs1 → W p l e room_1 s m #[Value.ref b] below meth c H1 locs1 600000 7302250 (lw_Z below #[Value.ref b] s) (F0 m 897 ls [])) : W p l e room_1 s m #[Value.ref b] below meth c H locs 600000 7302250 (lw_Z below #[Value.ref b] s) (F0 m 423 ls []) := by
  obtain ⟨hx, hb, hrt, hml, hown, hts, hX, hbl, hlocks, hgv⟩ := id C.1
  have hbA : ¬ AA ad b := fun q => Nat.not_le.mpr hbl (C.2.2.2.2 b q)
  have v1 : vp_in (nI (4 * n) + 1) L := by rw [nI_1]; exact vp_in_nI (by omega) (by omega)
  have v2 : vp_in (nI (4 * n) + 2) L := by rw [show (2 : Int32) = nI 2 from rfl, nI_add]; exact vp_in_nI (by omega) (by omega)
  have v3 : vp_in (nI (4 * n) + 3) L := by rw [show (3 : Int32) = nI 3 from rfl, nI_add]; exact vp_in_nI (by omega) (by omega)
  have h2 := two_label (n := n) (σ := σ) (x := (xs (nI (4 * n) + 1).toNatClampNeg)) (y := (xs (nI (4 * n) + 2).toNatClampNeg)) hInv
  unfold Two at h2
  refine lv_aload_n hx hb dL_423 rfl (lv_at hl 2 rfl) ?_
  refine lv_aload_n hx hb dL_424 rfl (lv_at hl 3 rfl) ?_
  refine lv_iload_n hx hb dL_425 rfl (lv_at hl 0 rfl) ?_
  refine lv_iconst (v := 1) hx hb dL_426 (by decide) ?_
  refine lv_iadd hx hb dL_427 ?_
  refine va_sld hx hb hX hbl hbA hS v1 dL_428 ?_
  refine lv_aload_n hx hb dL_429 rfl (lv_at hl 3 rfl) ?_
  refine lv_iload_n hx hb dL_430 rfl (lv_at hl 0 rfl) ?_
  refine lv_iconst (v := 2) hx hb dL_431 (by decide) ?_
  refine lv_iadd hx hb dL_432 ?_
  refine va_sld hx hb hX hbl hbA hS v2 dL_433 ?_
  refine lw_call (ms := mX7_label) (r := 0) (w := 7) (li := 589) (As := [.int (xs (nI (4 * n) + 1).toNatClampNeg), .int (xs (nI (4 * n) + 2).toNatClampNeg)]) (rest := []) C h2 rfl (by decide +kernel) (show parB mX7_label 2 = true by decide +kernel) (by decide +kernel) (by decide +kernel) (by decide) rfl rfl (by decide) rfl hP hS hl (Nat.le_of_ble_eq_true rfl) dL_434 (fun v1 σ1 H locs hR1 hP hS => ?_)
  obtain ⟨ans, rfl, h3⟩ := hR1
  refine lv_aload_n hx hb dL_437 rfl (lv_at hl 1 rfl) ?_
  refine lv_aload_n hx hb dL_438 rfl (lv_at hl 3 rfl) ?_
  refine lv_iload_n hx hb dL_439 rfl (lv_at hl 0 rfl) ?_
  refine lv_iconst (v := 1) hx hb dL_440 (by decide) ?_
  refine lv_iadd hx hb dL_441 ?_
  refine va_sld hx hb hX hbl hbA hS v1 dL_442 ?_
  refine lv_aload_n hx hb dL_443 rfl (lv_at hl 3 rfl) ?_
  refine lv_iload_n hx hb dL_444 rfl (lv_at hl 0 rfl) ?_
  refine lv_iconst (v := 2) hx hb dL_445 (by decide) ?_
  refine lv_iadd hx hb dL_446 ?_
  refine va_sld hx hb hX hbl hbA hS v2 dL_447 ?_
  refine lw_call (ms := mX8_label) (r := 89) (w := 8) (li := 1039) (As := [.int (xs (nI (4 * n) + 1).toNatClampNeg), .int (xs (nI (4 * n) + 2).toNatClampNeg)]) (rest := [.int ans]) C h3 rfl (by decide +kernel) (show parB mX8_label 2 = true by decide +kernel) (by decide +kernel) (by decide +kernel) (by decide) rfl rfl (by decide) rfl hP hS hl (Nat.le_of_ble_eq_true rfl) dL_448 (fun v1 σ2 H locs hR2 hP hS => ?_)
  obtain ⟨rfl, hInv2⟩ := hR2
  refine lv_icmp_eq (x := ans) (y := ans) (tgt := 897) hx hb dL_451 (by decide) (fun _ => ?_) (fun z => absurd rfl z)
  exact nx σ2 H locs hInv2 hP hS
set_option maxHeartbeats 1000000 in
theorem lw_c10 (hn : n < 512) (hi : 4 * n + 4 ≤ L) (hL : L ≤ 2048) (C : LwC p s m meth c b L xs D ad cy) (hInv : Inv n σ) (hP : va_P D vwCl (cellsA ad cy σ) H) (hS : va_S (AA ad) s.heap H locs) (hl : lv_has ls 4 [(3, .int (nI (4 * n))), (2, .ref (ad 89)), (1, .ref (ad 0)), (0, .ref b)])
    (nx : ∀ (σ' : Sg) (H1 : Heap) (locs1 : List Loc), Inv (n + 1) σ' → va_P D vwCl (cellsA ad cy σ') H1 → va_S (AA ad) s.heap H1 locs1 → W p l e room_1 s m #[Value.ref b] below meth c H1 locs1 600000 7302250 (lw_Z below #[Value.ref b] s) (F0 m 897 ls [])) : W p l e room_1 s m #[Value.ref b] below meth c H locs 600000 7302250 (lw_Z below #[Value.ref b] s) (F0 m 456 ls []) := by
  obtain ⟨hx, hb, hrt, hml, hown, hts, hX, hbl, hlocks, hgv⟩ := id C.1
  have hbA : ¬ AA ad b := fun q => Nat.not_le.mpr hbl (C.2.2.2.2 b q)
  have v1 : vp_in (nI (4 * n) + 1) L := by rw [nI_1]; exact vp_in_nI (by omega) (by omega)
  have v2 : vp_in (nI (4 * n) + 2) L := by rw [show (2 : Int32) = nI 2 from rfl, nI_add]; exact vp_in_nI (by omega) (by omega)
  have v3 : vp_in (nI (4 * n) + 3) L := by rw [show (3 : Int32) = nI 3 from rfl, nI_add]; exact vp_in_nI (by omega) (by omega)
  have h2 := two_open (n := n) (σ := σ) (x := (xs (nI (4 * n) + 1).toNatClampNeg)) hn hInv
  unfold Two at h2
  refine lv_aload_n hx hb dL_456 rfl (lv_at hl 2 rfl) ?_
  refine lv_aload_n hx hb dL_457 rfl (lv_at hl 3 rfl) ?_
  refine lv_iload_n hx hb dL_458 rfl (lv_at hl 0 rfl) ?_
  refine lv_iconst (v := 1) hx hb dL_459 (by decide) ?_
  refine lv_iadd hx hb dL_460 ?_
  refine va_sld hx hb hX hbl hbA hS v1 dL_461 ?_
  refine lw_call (ms := mX7_open) (r := 0) (w := 7) (li := 593) (As := [.int (xs (nI (4 * n) + 1).toNatClampNeg)]) (rest := []) C h2 rfl (by decide +kernel) (show parB mX7_open 1 = true by decide +kernel) (by decide +kernel) (by decide +kernel) (by decide) rfl rfl (by decide) rfl hP hS hl (Nat.le_of_ble_eq_true rfl) dL_462 (fun v1 σ1 H locs hR1 hP hS => ?_)
  obtain ⟨ans, rfl, h3⟩ := hR1
  refine lv_aload_n hx hb dL_465 rfl (lv_at hl 1 rfl) ?_
  refine lv_aload_n hx hb dL_466 rfl (lv_at hl 3 rfl) ?_
  refine lv_iload_n hx hb dL_467 rfl (lv_at hl 0 rfl) ?_
  refine lv_iconst (v := 1) hx hb dL_468 (by decide) ?_
  refine lv_iadd hx hb dL_469 ?_
  refine va_sld hx hb hX hbl hbA hS v1 dL_470 ?_
  refine lw_call (ms := mX8_open) (r := 89) (w := 8) (li := 1044) (As := [.int (xs (nI (4 * n) + 1).toNatClampNeg)]) (rest := [.int ans]) C h3 rfl (by decide +kernel) (show parB mX8_open 1 = true by decide +kernel) (by decide +kernel) (by decide +kernel) (by decide) rfl rfl (by decide) rfl hP hS hl (Nat.le_of_ble_eq_true rfl) dL_471 (fun v1 σ2 H locs hR2 hP hS => ?_)
  obtain ⟨rfl, hInv2⟩ := hR2
  refine lv_icmp_eq (x := ans) (y := ans) (tgt := 897) hx hb dL_474 (by decide) (fun _ => ?_) (fun z => absurd rfl z)
  exact nx σ2 H locs hInv2 hP hS
set_option maxHeartbeats 1000000 in
theorem lw_c11 (hn : n < 512) (hi : 4 * n + 4 ≤ L) (hL : L ≤ 2048) (C : LwC p s m meth c b L xs D ad cy) (hInv : Inv n σ) (hP : va_P D vwCl (cellsA ad cy σ) H) (hS : va_S (AA ad) s.heap H locs) (hl : lv_has ls 4 [(3, .int (nI (4 * n))), (2, .ref (ad 89)), (1, .ref (ad 0)), (0, .ref b)])
    (nx : ∀ (σ' : Sg) (H1 : Heap) (locs1 : List Loc), Inv (n + 1) σ' → va_P D vwCl (cellsA ad cy σ') H1 → va_S (AA ad) s.heap H1 locs1 → W p l e room_1 s m #[Value.ref b] below meth c H1 locs1 600000 7302250 (lw_Z below #[Value.ref b] s) (F0 m 897 ls [])) : W p l e room_1 s m #[Value.ref b] below meth c H locs 600000 7302250 (lw_Z below #[Value.ref b] s) (F0 m 479 ls []) := by
  obtain ⟨hx, hb, hrt, hml, hown, hts, hX, hbl, hlocks, hgv⟩ := id C.1
  have hbA : ¬ AA ad b := fun q => Nat.not_le.mpr hbl (C.2.2.2.2 b q)
  have v1 : vp_in (nI (4 * n) + 1) L := by rw [nI_1]; exact vp_in_nI (by omega) (by omega)
  have v2 : vp_in (nI (4 * n) + 2) L := by rw [show (2 : Int32) = nI 2 from rfl, nI_add]; exact vp_in_nI (by omega) (by omega)
  have v3 : vp_in (nI (4 * n) + 3) L := by rw [show (3 : Int32) = nI 3 from rfl, nI_add]; exact vp_in_nI (by omega) (by omega)
  have h2 := two_year (n := n) (σ := σ) (x := (xs (nI (4 * n) + 1).toNatClampNeg)) hn hInv
  unfold Two at h2
  refine lv_aload_n hx hb dL_479 rfl (lv_at hl 2 rfl) ?_
  refine lv_aload_n hx hb dL_480 rfl (lv_at hl 3 rfl) ?_
  refine lv_iload_n hx hb dL_481 rfl (lv_at hl 0 rfl) ?_
  refine lv_iconst (v := 1) hx hb dL_482 (by decide) ?_
  refine lv_iadd hx hb dL_483 ?_
  refine va_sld hx hb hX hbl hbA hS v1 dL_484 ?_
  refine lw_call (ms := mX7_year) (r := 0) (w := 7) (li := 603) (As := [.int (xs (nI (4 * n) + 1).toNatClampNeg)]) (rest := []) C h2 rfl (by decide +kernel) (show parB mX7_year 1 = true by decide +kernel) (by decide +kernel) (by decide +kernel) (by decide) rfl rfl (by decide) rfl hP hS hl (Nat.le_of_ble_eq_true rfl) dL_485 (fun v1 σ1 H locs hR1 hP hS => ?_)
  obtain ⟨ans, rfl, h3⟩ := hR1
  refine lv_aload_n hx hb dL_488 rfl (lv_at hl 1 rfl) ?_
  refine lv_aload_n hx hb dL_489 rfl (lv_at hl 3 rfl) ?_
  refine lv_iload_n hx hb dL_490 rfl (lv_at hl 0 rfl) ?_
  refine lv_iconst (v := 1) hx hb dL_491 (by decide) ?_
  refine lv_iadd hx hb dL_492 ?_
  refine va_sld hx hb hX hbl hbA hS v1 dL_493 ?_
  refine lw_call (ms := mX8_year) (r := 89) (w := 8) (li := 1048) (As := [.int (xs (nI (4 * n) + 1).toNatClampNeg)]) (rest := [.int ans]) C h3 rfl (by decide +kernel) (show parB mX8_year 1 = true by decide +kernel) (by decide +kernel) (by decide +kernel) (by decide) rfl rfl (by decide) rfl hP hS hl (Nat.le_of_ble_eq_true rfl) dL_494 (fun v1 σ2 H locs hR2 hP hS => ?_)
  obtain ⟨rfl, hInv2⟩ := hR2
  refine lv_icmp_eq (x := ans) (y := ans) (tgt := 897) hx hb dL_497 (by decide) (fun _ => ?_) (fun z => absurd rfl z)
  exact nx σ2 H locs hInv2 hP hS
set_option maxHeartbeats 1000000 in
theorem lw_c12 (hn : n < 512) (hi : 4 * n + 4 ≤ L) (hL : L ≤ 2048) (C : LwC p s m meth c b L xs D ad cy) (hInv : Inv n σ) (hP : va_P D vwCl (cellsA ad cy σ) H) (hS : va_S (AA ad) s.heap H locs) (hl : lv_has ls 4 [(3, .int (nI (4 * n))), (2, .ref (ad 89)), (1, .ref (ad 0)), (0, .ref b)])
    (nx : ∀ (σ' : Sg) (H1 : Heap) (locs1 : List Loc), Inv (n + 1) σ' → va_P D vwCl (cellsA ad cy σ') H1 → va_S (AA ad) s.heap H1 locs1 → W p l e room_1 s m #[Value.ref b] below meth c H1 locs1 600000 7302250 (lw_Z below #[Value.ref b] s) (F0 m 897 ls [])) : W p l e room_1 s m #[Value.ref b] below meth c H locs 600000 7302250 (lw_Z below #[Value.ref b] s) (F0 m 502 ls []) := by
  obtain ⟨hx, hb, hrt, hml, hown, hts, hX, hbl, hlocks, hgv⟩ := id C.1
  have hbA : ¬ AA ad b := fun q => Nat.not_le.mpr hbl (C.2.2.2.2 b q)
  have v1 : vp_in (nI (4 * n) + 1) L := by rw [nI_1]; exact vp_in_nI (by omega) (by omega)
  have v2 : vp_in (nI (4 * n) + 2) L := by rw [show (2 : Int32) = nI 2 from rfl, nI_add]; exact vp_in_nI (by omega) (by omega)
  have v3 : vp_in (nI (4 * n) + 3) L := by rw [show (3 : Int32) = nI 3 from rfl, nI_add]; exact vp_in_nI (by omega) (by omega)
  have h2 := two_drift (n := n) (σ := σ) (x := (xs (nI (4 * n) + 1).toNatClampNeg)) hn hInv
  unfold Two at h2
  refine lv_aload_n hx hb dL_502 rfl (lv_at hl 2 rfl) ?_
  refine lv_aload_n hx hb dL_503 rfl (lv_at hl 3 rfl) ?_
  refine lv_iload_n hx hb dL_504 rfl (lv_at hl 0 rfl) ?_
  refine lv_iconst (v := 1) hx hb dL_505 (by decide) ?_
  refine lv_iadd hx hb dL_506 ?_
  refine va_sld hx hb hX hbl hbA hS v1 dL_507 ?_
  refine lw_call (ms := mX7_drift) (r := 0) (w := 7) (li := 642) (As := [.int (xs (nI (4 * n) + 1).toNatClampNeg)]) (rest := []) C h2 rfl (by decide +kernel) (show parB mX7_drift 1 = true by decide +kernel) (by decide +kernel) (by decide +kernel) (by decide) rfl rfl (by decide) rfl hP hS hl (Nat.le_of_ble_eq_true rfl) dL_508 (fun v1 σ1 H locs hR1 hP hS => ?_)
  obtain ⟨ans, rfl, h3⟩ := hR1
  refine lv_aload_n hx hb dL_511 rfl (lv_at hl 1 rfl) ?_
  refine lv_aload_n hx hb dL_512 rfl (lv_at hl 3 rfl) ?_
  refine lv_iload_n hx hb dL_513 rfl (lv_at hl 0 rfl) ?_
  refine lv_iconst (v := 1) hx hb dL_514 (by decide) ?_
  refine lv_iadd hx hb dL_515 ?_
  refine va_sld hx hb hX hbl hbA hS v1 dL_516 ?_
  refine lw_call (ms := mX8_drift) (r := 89) (w := 8) (li := 1078) (As := [.int (xs (nI (4 * n) + 1).toNatClampNeg)]) (rest := [.int ans]) C h3 rfl (by decide +kernel) (show parB mX8_drift 1 = true by decide +kernel) (by decide +kernel) (by decide +kernel) (by decide) rfl rfl (by decide) rfl hP hS hl (Nat.le_of_ble_eq_true rfl) dL_517 (fun v1 σ2 H locs hR2 hP hS => ?_)
  obtain ⟨rfl, hInv2⟩ := hR2
  refine lv_icmp_eq (x := ans) (y := ans) (tgt := 897) hx hb dL_520 (by decide) (fun _ => ?_) (fun z => absurd rfl z)
  exact nx σ2 H locs hInv2 hP hS
set_option maxHeartbeats 1000000 in
theorem lw_c13 (hn : n < 512) (hi : 4 * n + 4 ≤ L) (hL : L ≤ 2048) (C : LwC p s m meth c b L xs D ad cy) (hInv : Inv n σ) (hP : va_P D vwCl (cellsA ad cy σ) H) (hS : va_S (AA ad) s.heap H locs) (hl : lv_has ls 4 [(3, .int (nI (4 * n))), (2, .ref (ad 89)), (1, .ref (ad 0)), (0, .ref b)])
    (nx : ∀ (σ' : Sg) (H1 : Heap) (locs1 : List Loc), Inv (n + 1) σ' → va_P D vwCl (cellsA ad cy σ') H1 → va_S (AA ad) s.heap H1 locs1 → W p l e room_1 s m #[Value.ref b] below meth c H1 locs1 600000 7302250 (lw_Z below #[Value.ref b] s) (F0 m 897 ls [])) : W p l e room_1 s m #[Value.ref b] below meth c H locs 600000 7302250 (lw_Z below #[Value.ref b] s) (F0 m 525 ls []) := by
  obtain ⟨hx, hb, hrt, hml, hown, hts, hX, hbl, hlocks, hgv⟩ := id C.1
  have hbA : ¬ AA ad b := fun q => Nat.not_le.mpr hbl (C.2.2.2.2 b q)
  have v1 : vp_in (nI (4 * n) + 1) L := by rw [nI_1]; exact vp_in_nI (by omega) (by omega)
  have v2 : vp_in (nI (4 * n) + 2) L := by rw [show (2 : Int32) = nI 2 from rfl, nI_add]; exact vp_in_nI (by omega) (by omega)
  have v3 : vp_in (nI (4 * n) + 3) L := by rw [show (3 : Int32) = nI 3 from rfl, nI_add]; exact vp_in_nI (by omega) (by omega)
  have h2 := two_plan (n := n) (σ := σ) (x := (xs (nI (4 * n) + 1).toNatClampNeg)) (y := (xs (nI (4 * n) + 2).toNatClampNeg)) (z := (xs (nI (4 * n) + 3).toNatClampNeg)) hInv
  unfold Two at h2
  refine lv_aload_n hx hb dL_525 rfl (lv_at hl 2 rfl) ?_
  refine lv_aload_n hx hb dL_526 rfl (lv_at hl 3 rfl) ?_
  refine lv_iload_n hx hb dL_527 rfl (lv_at hl 0 rfl) ?_
  refine lv_iconst (v := 1) hx hb dL_528 (by decide) ?_
  refine lv_iadd hx hb dL_529 ?_
  refine va_sld hx hb hX hbl hbA hS v1 dL_530 ?_
  refine lv_aload_n hx hb dL_531 rfl (lv_at hl 3 rfl) ?_
  refine lv_iload_n hx hb dL_532 rfl (lv_at hl 0 rfl) ?_
  refine lv_iconst (v := 2) hx hb dL_533 (by decide) ?_
  refine lv_iadd hx hb dL_534 ?_
  refine va_sld hx hb hX hbl hbA hS v2 dL_535 ?_
  refine lv_aload_n hx hb dL_536 rfl (lv_at hl 3 rfl) ?_
  refine lv_iload_n hx hb dL_537 rfl (lv_at hl 0 rfl) ?_
  refine lv_iconst (v := 3) hx hb dL_538 (by decide) ?_
  refine lv_iadd hx hb dL_539 ?_
  refine va_sld hx hb hX hbl hbA hS v3 dL_540 ?_
  refine lw_call (ms := mX7_plan) (r := 0) (w := 7) (li := 646) (As := [.int (xs (nI (4 * n) + 1).toNatClampNeg), .int (xs (nI (4 * n) + 2).toNatClampNeg), .int (xs (nI (4 * n) + 3).toNatClampNeg)]) (rest := []) C h2 rfl (by decide +kernel) (show parB mX7_plan 3 = true by decide +kernel) (by decide +kernel) (by decide +kernel) (by decide) rfl rfl (by decide) rfl hP hS hl (Nat.le_of_ble_eq_true rfl) dL_541 (fun v1 σ1 H locs hR1 hP hS => ?_)
  obtain ⟨ans, rfl, h3⟩ := hR1
  refine lv_aload_n hx hb dL_544 rfl (lv_at hl 1 rfl) ?_
  refine lv_aload_n hx hb dL_545 rfl (lv_at hl 3 rfl) ?_
  refine lv_iload_n hx hb dL_546 rfl (lv_at hl 0 rfl) ?_
  refine lv_iconst (v := 1) hx hb dL_547 (by decide) ?_
  refine lv_iadd hx hb dL_548 ?_
  refine va_sld hx hb hX hbl hbA hS v1 dL_549 ?_
  refine lv_aload_n hx hb dL_550 rfl (lv_at hl 3 rfl) ?_
  refine lv_iload_n hx hb dL_551 rfl (lv_at hl 0 rfl) ?_
  refine lv_iconst (v := 2) hx hb dL_552 (by decide) ?_
  refine lv_iadd hx hb dL_553 ?_
  refine va_sld hx hb hX hbl hbA hS v2 dL_554 ?_
  refine lv_aload_n hx hb dL_555 rfl (lv_at hl 3 rfl) ?_
  refine lv_iload_n hx hb dL_556 rfl (lv_at hl 0 rfl) ?_
  refine lv_iconst (v := 3) hx hb dL_557 (by decide) ?_
  refine lv_iadd hx hb dL_558 ?_
  refine va_sld hx hb hX hbl hbA hS v3 dL_559 ?_
  refine lw_call (ms := mX8_plan) (r := 89) (w := 8) (li := 1090) (As := [.int (xs (nI (4 * n) + 1).toNatClampNeg), .int (xs (nI (4 * n) + 2).toNatClampNeg), .int (xs (nI (4 * n) + 3).toNatClampNeg)]) (rest := [.int ans]) C h3 rfl (by decide +kernel) (show parB mX8_plan 3 = true by decide +kernel) (by decide +kernel) (by decide +kernel) (by decide) rfl rfl (by decide) rfl hP hS hl (Nat.le_of_ble_eq_true rfl) dL_560 (fun v1 σ2 H locs hR2 hP hS => ?_)
  obtain ⟨rfl, hInv2⟩ := hR2
  refine lv_icmp_eq (x := ans) (y := ans) (tgt := 897) hx hb dL_563 (by decide) (fun _ => ?_) (fun z => absurd rfl z)
  exact nx σ2 H locs hInv2 hP hS
set_option maxHeartbeats 1000000 in
theorem lw_c14 (hn : n < 512) (hi : 4 * n + 4 ≤ L) (hL : L ≤ 2048) (C : LwC p s m meth c b L xs D ad cy) (hInv : Inv n σ) (hP : va_P D vwCl (cellsA ad cy σ) H) (hS : va_S (AA ad) s.heap H locs) (hl : lv_has ls 4 [(3, .int (nI (4 * n))), (2, .ref (ad 89)), (1, .ref (ad 0)), (0, .ref b)])
    (nx : ∀ (σ' : Sg) (H1 : Heap) (locs1 : List Loc), Inv (n + 1) σ' → va_P D vwCl (cellsA ad cy σ') H1 → va_S (AA ad) s.heap H1 locs1 → W p l e room_1 s m #[Value.ref b] below meth c H1 locs1 600000 7302250 (lw_Z below #[Value.ref b] s) (F0 m 897 ls [])) : W p l e room_1 s m #[Value.ref b] below meth c H locs 600000 7302250 (lw_Z below #[Value.ref b] s) (F0 m 568 ls []) := by
  obtain ⟨hx, hb, hrt, hml, hown, hts, hX, hbl, hlocks, hgv⟩ := id C.1
  have hbA : ¬ AA ad b := fun q => Nat.not_le.mpr hbl (C.2.2.2.2 b q)
  have v1 : vp_in (nI (4 * n) + 1) L := by rw [nI_1]; exact vp_in_nI (by omega) (by omega)
  have v2 : vp_in (nI (4 * n) + 2) L := by rw [show (2 : Int32) = nI 2 from rfl, nI_add]; exact vp_in_nI (by omega) (by omega)
  have v3 : vp_in (nI (4 * n) + 3) L := by rw [show (3 : Int32) = nI 3 from rfl, nI_add]; exact vp_in_nI (by omega) (by omega)
  have h2 := two_sealing (n := n) (σ := σ) (x := (xs (nI (4 * n) + 1).toNatClampNeg)) (y := (xs (nI (4 * n) + 2).toNatClampNeg)) hn hInv
  unfold Two at h2
  refine lv_aload_n hx hb dL_568 rfl (lv_at hl 2 rfl) ?_
  refine lv_aload_n hx hb dL_569 rfl (lv_at hl 3 rfl) ?_
  refine lv_iload_n hx hb dL_570 rfl (lv_at hl 0 rfl) ?_
  refine lv_iconst (v := 1) hx hb dL_571 (by decide) ?_
  refine lv_iadd hx hb dL_572 ?_
  refine va_sld hx hb hX hbl hbA hS v1 dL_573 ?_
  refine lv_aload_n hx hb dL_574 rfl (lv_at hl 3 rfl) ?_
  refine lv_iload_n hx hb dL_575 rfl (lv_at hl 0 rfl) ?_
  refine lv_iconst (v := 2) hx hb dL_576 (by decide) ?_
  refine lv_iadd hx hb dL_577 ?_
  refine va_sld hx hb hX hbl hbA hS v2 dL_578 ?_
  refine lw_call (ms := mX7_sealing) (r := 0) (w := 7) (li := 686) (As := [.int (xs (nI (4 * n) + 1).toNatClampNeg), .int (xs (nI (4 * n) + 2).toNatClampNeg)]) (rest := []) C h2 rfl (by decide +kernel) (show parB mX7_sealing 2 = true by decide +kernel) (by decide +kernel) (by decide +kernel) (by decide) rfl rfl (by decide) rfl hP hS hl (Nat.le_of_ble_eq_true rfl) dL_579 (fun v1 σ1 H locs hR1 hP hS => ?_)
  obtain ⟨ans, rfl, h3⟩ := hR1
  refine lv_aload_n hx hb dL_582 rfl (lv_at hl 1 rfl) ?_
  refine lv_aload_n hx hb dL_583 rfl (lv_at hl 3 rfl) ?_
  refine lv_iload_n hx hb dL_584 rfl (lv_at hl 0 rfl) ?_
  refine lv_iconst (v := 1) hx hb dL_585 (by decide) ?_
  refine lv_iadd hx hb dL_586 ?_
  refine va_sld hx hb hX hbl hbA hS v1 dL_587 ?_
  refine lv_aload_n hx hb dL_588 rfl (lv_at hl 3 rfl) ?_
  refine lv_iload_n hx hb dL_589 rfl (lv_at hl 0 rfl) ?_
  refine lv_iconst (v := 2) hx hb dL_590 (by decide) ?_
  refine lv_iadd hx hb dL_591 ?_
  refine va_sld hx hb hX hbl hbA hS v2 dL_592 ?_
  refine lw_call (ms := mX8_sealing) (r := 89) (w := 8) (li := 1116) (As := [.int (xs (nI (4 * n) + 1).toNatClampNeg), .int (xs (nI (4 * n) + 2).toNatClampNeg)]) (rest := [.int ans]) C h3 rfl (by decide +kernel) (show parB mX8_sealing 2 = true by decide +kernel) (by decide +kernel) (by decide +kernel) (by decide) rfl rfl (by decide) rfl hP hS hl (Nat.le_of_ble_eq_true rfl) dL_593 (fun v1 σ2 H locs hR2 hP hS => ?_)
  obtain ⟨rfl, hInv2⟩ := hR2
  refine lv_icmp_eq (x := ans) (y := ans) (tgt := 897) hx hb dL_596 (by decide) (fun _ => ?_) (fun z => absurd rfl z)
  exact nx σ2 H locs hInv2 hP hS
set_option maxHeartbeats 1000000 in
theorem lw_c15 (hn : n < 512) (hi : 4 * n + 4 ≤ L) (hL : L ≤ 2048) (C : LwC p s m meth c b L xs D ad cy) (hInv : Inv n σ) (hP : va_P D vwCl (cellsA ad cy σ) H) (hS : va_S (AA ad) s.heap H locs) (hl : lv_has ls 4 [(3, .int (nI (4 * n))), (2, .ref (ad 89)), (1, .ref (ad 0)), (0, .ref b)])
    (nx : ∀ (σ' : Sg) (H1 : Heap) (locs1 : List Loc), Inv (n + 1) σ' → va_P D vwCl (cellsA ad cy σ') H1 → va_S (AA ad) s.heap H1 locs1 → W p l e room_1 s m #[Value.ref b] below meth c H1 locs1 600000 7302250 (lw_Z below #[Value.ref b] s) (F0 m 897 ls [])) : W p l e room_1 s m #[Value.ref b] below meth c H locs 600000 7302250 (lw_Z below #[Value.ref b] s) (F0 m 601 ls []) := by
  obtain ⟨hx, hb, hrt, hml, hown, hts, hX, hbl, hlocks, hgv⟩ := id C.1
  have hbA : ¬ AA ad b := fun q => Nat.not_le.mpr hbl (C.2.2.2.2 b q)
  have v1 : vp_in (nI (4 * n) + 1) L := by rw [nI_1]; exact vp_in_nI (by omega) (by omega)
  have v2 : vp_in (nI (4 * n) + 2) L := by rw [show (2 : Int32) = nI 2 from rfl, nI_add]; exact vp_in_nI (by omega) (by omega)
  have v3 : vp_in (nI (4 * n) + 3) L := by rw [show (3 : Int32) = nI 3 from rfl, nI_add]; exact vp_in_nI (by omega) (by omega)
  have h2 := two_change (n := n) (σ := σ) (x := (xs (nI (4 * n) + 1).toNatClampNeg)) hn hInv
  unfold Two at h2
  refine lv_aload_n hx hb dL_601 rfl (lv_at hl 2 rfl) ?_
  refine lv_aload_n hx hb dL_602 rfl (lv_at hl 3 rfl) ?_
  refine lv_iload_n hx hb dL_603 rfl (lv_at hl 0 rfl) ?_
  refine lv_iconst (v := 1) hx hb dL_604 (by decide) ?_
  refine lv_iadd hx hb dL_605 ?_
  refine va_sld hx hb hX hbl hbA hS v1 dL_606 ?_
  refine lw_call (ms := mX7_change) (r := 0) (w := 7) (li := 691) (As := [.int (xs (nI (4 * n) + 1).toNatClampNeg)]) (rest := []) C h2 rfl (by decide +kernel) (show parB mX7_change 1 = true by decide +kernel) (by decide +kernel) (by decide +kernel) (by decide) rfl rfl (by decide) rfl hP hS hl (Nat.le_of_ble_eq_true rfl) dL_607 (fun v1 σ1 H locs hR1 hP hS => ?_)
  obtain ⟨ans, rfl, h3⟩ := hR1
  refine lv_aload_n hx hb dL_610 rfl (lv_at hl 1 rfl) ?_
  refine lv_aload_n hx hb dL_611 rfl (lv_at hl 3 rfl) ?_
  refine lv_iload_n hx hb dL_612 rfl (lv_at hl 0 rfl) ?_
  refine lv_iconst (v := 1) hx hb dL_613 (by decide) ?_
  refine lv_iadd hx hb dL_614 ?_
  refine va_sld hx hb hX hbl hbA hS v1 dL_615 ?_
  refine lw_call (ms := mX8_change) (r := 89) (w := 8) (li := 1129) (As := [.int (xs (nI (4 * n) + 1).toNatClampNeg)]) (rest := [.int ans]) C h3 rfl (by decide +kernel) (show parB mX8_change 1 = true by decide +kernel) (by decide +kernel) (by decide +kernel) (by decide) rfl rfl (by decide) rfl hP hS hl (Nat.le_of_ble_eq_true rfl) dL_616 (fun v1 σ2 H locs hR2 hP hS => ?_)
  obtain ⟨rfl, hInv2⟩ := hR2
  refine lv_icmp_eq (x := ans) (y := ans) (tgt := 897) hx hb dL_619 (by decide) (fun _ => ?_) (fun z => absurd rfl z)
  exact nx σ2 H locs hInv2 hP hS
set_option maxHeartbeats 1000000 in
theorem lw_c16 (hn : n < 512) (hi : 4 * n + 4 ≤ L) (hL : L ≤ 2048) (C : LwC p s m meth c b L xs D ad cy) (hInv : Inv n σ) (hP : va_P D vwCl (cellsA ad cy σ) H) (hS : va_S (AA ad) s.heap H locs) (hl : lv_has ls 4 [(3, .int (nI (4 * n))), (2, .ref (ad 89)), (1, .ref (ad 0)), (0, .ref b)])
    (nx : ∀ (σ' : Sg) (H1 : Heap) (locs1 : List Loc), Inv (n + 1) σ' → va_P D vwCl (cellsA ad cy σ') H1 → va_S (AA ad) s.heap H1 locs1 → W p l e room_1 s m #[Value.ref b] below meth c H1 locs1 600000 7302250 (lw_Z below #[Value.ref b] s) (F0 m 897 ls [])) : W p l e room_1 s m #[Value.ref b] below meth c H locs 600000 7302250 (lw_Z below #[Value.ref b] s) (F0 m 624 ls []) := by
  obtain ⟨hx, hb, hrt, hml, hown, hts, hX, hbl, hlocks, hgv⟩ := id C.1
  have hbA : ¬ AA ad b := fun q => Nat.not_le.mpr hbl (C.2.2.2.2 b q)
  have v1 : vp_in (nI (4 * n) + 1) L := by rw [nI_1]; exact vp_in_nI (by omega) (by omega)
  have v2 : vp_in (nI (4 * n) + 2) L := by rw [show (2 : Int32) = nI 2 from rfl, nI_add]; exact vp_in_nI (by omega) (by omega)
  have v3 : vp_in (nI (4 * n) + 3) L := by rw [show (3 : Int32) = nI 3 from rfl, nI_add]; exact vp_in_nI (by omega) (by omega)
  have h2 := two_bequest (n := n) (σ := σ) (x := (xs (nI (4 * n) + 1).toNatClampNeg)) (y := (xs (nI (4 * n) + 2).toNatClampNeg)) hInv
  unfold Two at h2
  refine lv_aload_n hx hb dL_624 rfl (lv_at hl 2 rfl) ?_
  refine lv_aload_n hx hb dL_625 rfl (lv_at hl 3 rfl) ?_
  refine lv_iload_n hx hb dL_626 rfl (lv_at hl 0 rfl) ?_
  refine lv_iconst (v := 1) hx hb dL_627 (by decide) ?_
  refine lv_iadd hx hb dL_628 ?_
  refine va_sld hx hb hX hbl hbA hS v1 dL_629 ?_
  refine lv_aload_n hx hb dL_630 rfl (lv_at hl 3 rfl) ?_
  refine lv_iload_n hx hb dL_631 rfl (lv_at hl 0 rfl) ?_
  refine lv_iconst (v := 2) hx hb dL_632 (by decide) ?_
  refine lv_iadd hx hb dL_633 ?_
  refine va_sld hx hb hX hbl hbA hS v2 dL_634 ?_
  refine lw_call (ms := mX7_bequest) (r := 0) (w := 7) (li := 708) (As := [.int (xs (nI (4 * n) + 1).toNatClampNeg), .int (xs (nI (4 * n) + 2).toNatClampNeg)]) (rest := []) C h2 rfl (by decide +kernel) (show parB mX7_bequest 2 = true by decide +kernel) (by decide +kernel) (by decide +kernel) (by decide) rfl rfl (by decide) rfl hP hS hl (Nat.le_of_ble_eq_true rfl) dL_635 (fun v1 σ1 H locs hR1 hP hS => ?_)
  obtain ⟨ans, rfl, h3⟩ := hR1
  refine lv_aload_n hx hb dL_638 rfl (lv_at hl 1 rfl) ?_
  refine lv_aload_n hx hb dL_639 rfl (lv_at hl 3 rfl) ?_
  refine lv_iload_n hx hb dL_640 rfl (lv_at hl 0 rfl) ?_
  refine lv_iconst (v := 1) hx hb dL_641 (by decide) ?_
  refine lv_iadd hx hb dL_642 ?_
  refine va_sld hx hb hX hbl hbA hS v1 dL_643 ?_
  refine lv_aload_n hx hb dL_644 rfl (lv_at hl 3 rfl) ?_
  refine lv_iload_n hx hb dL_645 rfl (lv_at hl 0 rfl) ?_
  refine lv_iconst (v := 2) hx hb dL_646 (by decide) ?_
  refine lv_iadd hx hb dL_647 ?_
  refine va_sld hx hb hX hbl hbA hS v2 dL_648 ?_
  refine lw_call (ms := mX8_bequest) (r := 89) (w := 8) (li := 1141) (As := [.int (xs (nI (4 * n) + 1).toNatClampNeg), .int (xs (nI (4 * n) + 2).toNatClampNeg)]) (rest := [.int ans]) C h3 rfl (by decide +kernel) (show parB mX8_bequest 2 = true by decide +kernel) (by decide +kernel) (by decide +kernel) (by decide) rfl rfl (by decide) rfl hP hS hl (Nat.le_of_ble_eq_true rfl) dL_649 (fun v1 σ2 H locs hR2 hP hS => ?_)
  obtain ⟨rfl, hInv2⟩ := hR2
  refine lv_icmp_eq (x := ans) (y := ans) (tgt := 897) hx hb dL_652 (by decide) (fun _ => ?_) (fun z => absurd rfl z)
  exact nx σ2 H locs hInv2 hP hS
set_option maxHeartbeats 1000000 in
theorem lw_c17 (hn : n < 512) (hi : 4 * n + 4 ≤ L) (hL : L ≤ 2048) (C : LwC p s m meth c b L xs D ad cy) (hInv : Inv n σ) (hP : va_P D vwCl (cellsA ad cy σ) H) (hS : va_S (AA ad) s.heap H locs) (hl : lv_has ls 4 [(3, .int (nI (4 * n))), (2, .ref (ad 89)), (1, .ref (ad 0)), (0, .ref b)])
    (nx : ∀ (σ' : Sg) (H1 : Heap) (locs1 : List Loc), Inv (n + 1) σ' → va_P D vwCl (cellsA ad cy σ') H1 → va_S (AA ad) s.heap H1 locs1 → W p l e room_1 s m #[Value.ref b] below meth c H1 locs1 600000 7302250 (lw_Z below #[Value.ref b] s) (F0 m 897 ls [])) : W p l e room_1 s m #[Value.ref b] below meth c H locs 600000 7302250 (lw_Z below #[Value.ref b] s) (F0 m 657 ls []) := by
  obtain ⟨hx, hb, hrt, hml, hown, hts, hX, hbl, hlocks, hgv⟩ := id C.1
  have hbA : ¬ AA ad b := fun q => Nat.not_le.mpr hbl (C.2.2.2.2 b q)
  have v1 : vp_in (nI (4 * n) + 1) L := by rw [nI_1]; exact vp_in_nI (by omega) (by omega)
  have v2 : vp_in (nI (4 * n) + 2) L := by rw [show (2 : Int32) = nI 2 from rfl, nI_add]; exact vp_in_nI (by omega) (by omega)
  have v3 : vp_in (nI (4 * n) + 3) L := by rw [show (3 : Int32) = nI 3 from rfl, nI_add]; exact vp_in_nI (by omega) (by omega)
  have h2 := two_siege (n := n) (σ := σ) (x := (xs (nI (4 * n) + 1).toNatClampNeg)) (y := (xs (nI (4 * n) + 2).toNatClampNeg)) hn hInv
  unfold Two at h2
  refine lv_aload_n hx hb dL_657 rfl (lv_at hl 2 rfl) ?_
  refine lv_aload_n hx hb dL_658 rfl (lv_at hl 3 rfl) ?_
  refine lv_iload_n hx hb dL_659 rfl (lv_at hl 0 rfl) ?_
  refine lv_iconst (v := 1) hx hb dL_660 (by decide) ?_
  refine lv_iadd hx hb dL_661 ?_
  refine va_sld hx hb hX hbl hbA hS v1 dL_662 ?_
  refine lv_aload_n hx hb dL_663 rfl (lv_at hl 3 rfl) ?_
  refine lv_iload_n hx hb dL_664 rfl (lv_at hl 0 rfl) ?_
  refine lv_iconst (v := 2) hx hb dL_665 (by decide) ?_
  refine lv_iadd hx hb dL_666 ?_
  refine va_sld hx hb hX hbl hbA hS v2 dL_667 ?_
  refine lw_call (ms := mX7_siege) (r := 0) (w := 7) (li := 737) (As := [.int (xs (nI (4 * n) + 1).toNatClampNeg), .int (xs (nI (4 * n) + 2).toNatClampNeg)]) (rest := []) C h2 rfl (by decide +kernel) (show parB mX7_siege 2 = true by decide +kernel) (by decide +kernel) (by decide +kernel) (by decide) rfl rfl (by decide) rfl hP hS hl (Nat.le_of_ble_eq_true rfl) dL_668 (fun v1 σ1 H locs hR1 hP hS => ?_)
  obtain ⟨ans, rfl, h3⟩ := hR1
  refine lv_aload_n hx hb dL_671 rfl (lv_at hl 1 rfl) ?_
  refine lv_aload_n hx hb dL_672 rfl (lv_at hl 3 rfl) ?_
  refine lv_iload_n hx hb dL_673 rfl (lv_at hl 0 rfl) ?_
  refine lv_iconst (v := 1) hx hb dL_674 (by decide) ?_
  refine lv_iadd hx hb dL_675 ?_
  refine va_sld hx hb hX hbl hbA hS v1 dL_676 ?_
  refine lv_aload_n hx hb dL_677 rfl (lv_at hl 3 rfl) ?_
  refine lv_iload_n hx hb dL_678 rfl (lv_at hl 0 rfl) ?_
  refine lv_iconst (v := 2) hx hb dL_679 (by decide) ?_
  refine lv_iadd hx hb dL_680 ?_
  refine va_sld hx hb hX hbl hbA hS v2 dL_681 ?_
  refine lw_call (ms := mX8_siege) (r := 89) (w := 8) (li := 1153) (As := [.int (xs (nI (4 * n) + 1).toNatClampNeg), .int (xs (nI (4 * n) + 2).toNatClampNeg)]) (rest := [.int ans]) C h3 rfl (by decide +kernel) (show parB mX8_siege 2 = true by decide +kernel) (by decide +kernel) (by decide +kernel) (by decide) rfl rfl (by decide) rfl hP hS hl (Nat.le_of_ble_eq_true rfl) dL_682 (fun v1 σ2 H locs hR2 hP hS => ?_)
  obtain ⟨rfl, hInv2⟩ := hR2
  refine lv_icmp_eq (x := ans) (y := ans) (tgt := 897) hx hb dL_685 (by decide) (fun _ => ?_) (fun z => absurd rfl z)
  exact nx σ2 H locs hInv2 hP hS
set_option maxHeartbeats 1000000 in
theorem lw_c18 (hn : n < 512) (hi : 4 * n + 4 ≤ L) (hL : L ≤ 2048) (C : LwC p s m meth c b L xs D ad cy) (hInv : Inv n σ) (hP : va_P D vwCl (cellsA ad cy σ) H) (hS : va_S (AA ad) s.heap H locs) (hl : lv_has ls 4 [(3, .int (nI (4 * n))), (2, .ref (ad 89)), (1, .ref (ad 0)), (0, .ref b)])
    (nx : ∀ (σ' : Sg) (H1 : Heap) (locs1 : List Loc), Inv (n + 1) σ' → va_P D vwCl (cellsA ad cy σ') H1 → va_S (AA ad) s.heap H1 locs1 → W p l e room_1 s m #[Value.ref b] below meth c H1 locs1 600000 7302250 (lw_Z below #[Value.ref b] s) (F0 m 897 ls [])) : W p l e room_1 s m #[Value.ref b] below meth c H locs 600000 7302250 (lw_Z below #[Value.ref b] s) (F0 m 690 ls []) := by
  obtain ⟨hx, hb, hrt, hml, hown, hts, hX, hbl, hlocks, hgv⟩ := id C.1
  have hbA : ¬ AA ad b := fun q => Nat.not_le.mpr hbl (C.2.2.2.2 b q)
  have v1 : vp_in (nI (4 * n) + 1) L := by rw [nI_1]; exact vp_in_nI (by omega) (by omega)
  have v2 : vp_in (nI (4 * n) + 2) L := by rw [show (2 : Int32) = nI 2 from rfl, nI_add]; exact vp_in_nI (by omega) (by omega)
  have v3 : vp_in (nI (4 * n) + 3) L := by rw [show (3 : Int32) = nI 3 from rfl, nI_add]; exact vp_in_nI (by omega) (by omega)
  have h2 := two_when (n := n) (σ := σ) (x := (xs (nI (4 * n) + 1).toNatClampNeg)) (y := (xs (nI (4 * n) + 2).toNatClampNeg)) hn hInv
  unfold Two at h2
  refine lv_aload_n hx hb dL_690 rfl (lv_at hl 2 rfl) ?_
  refine lv_aload_n hx hb dL_691 rfl (lv_at hl 3 rfl) ?_
  refine lv_iload_n hx hb dL_692 rfl (lv_at hl 0 rfl) ?_
  refine lv_iconst (v := 1) hx hb dL_693 (by decide) ?_
  refine lv_iadd hx hb dL_694 ?_
  refine va_sld hx hb hX hbl hbA hS v1 dL_695 ?_
  refine lv_aload_n hx hb dL_696 rfl (lv_at hl 3 rfl) ?_
  refine lv_iload_n hx hb dL_697 rfl (lv_at hl 0 rfl) ?_
  refine lv_iconst (v := 2) hx hb dL_698 (by decide) ?_
  refine lv_iadd hx hb dL_699 ?_
  refine va_sld hx hb hX hbl hbA hS v2 dL_700 ?_
  refine lw_call (ms := mX7_when) (r := 0) (w := 7) (li := 750) (As := [.int (xs (nI (4 * n) + 1).toNatClampNeg), .int (xs (nI (4 * n) + 2).toNatClampNeg)]) (rest := []) C h2 rfl (by decide +kernel) (show parB mX7_when 2 = true by decide +kernel) (by decide +kernel) (by decide +kernel) (by decide) rfl rfl (by decide) rfl hP hS hl (Nat.le_of_ble_eq_true rfl) dL_701 (fun v1 σ1 H locs hR1 hP hS => ?_)
  obtain ⟨ans, rfl, h3⟩ := hR1
  refine lv_aload_n hx hb dL_704 rfl (lv_at hl 1 rfl) ?_
  refine lv_aload_n hx hb dL_705 rfl (lv_at hl 3 rfl) ?_
  refine lv_iload_n hx hb dL_706 rfl (lv_at hl 0 rfl) ?_
  refine lv_iconst (v := 1) hx hb dL_707 (by decide) ?_
  refine lv_iadd hx hb dL_708 ?_
  refine va_sld hx hb hX hbl hbA hS v1 dL_709 ?_
  refine lv_aload_n hx hb dL_710 rfl (lv_at hl 3 rfl) ?_
  refine lv_iload_n hx hb dL_711 rfl (lv_at hl 0 rfl) ?_
  refine lv_iconst (v := 2) hx hb dL_712 (by decide) ?_
  refine lv_iadd hx hb dL_713 ?_
  refine va_sld hx hb hX hbl hbA hS v2 dL_714 ?_
  refine lw_call (ms := mX8_when) (r := 89) (w := 8) (li := 1161) (As := [.int (xs (nI (4 * n) + 1).toNatClampNeg), .int (xs (nI (4 * n) + 2).toNatClampNeg)]) (rest := [.int ans]) C h3 rfl (by decide +kernel) (show parB mX8_when 2 = true by decide +kernel) (by decide +kernel) (by decide +kernel) (by decide) rfl rfl (by decide) rfl hP hS hl (Nat.le_of_ble_eq_true rfl) dL_715 (fun v1 σ2 H locs hR2 hP hS => ?_)
  obtain ⟨rfl, hInv2⟩ := hR2
  refine lv_icmp_eq (x := ans) (y := ans) (tgt := 897) hx hb dL_718 (by decide) (fun _ => ?_) (fun z => absurd rfl z)
  exact nx σ2 H locs hInv2 hP hS
set_option maxHeartbeats 1000000 in
theorem lw_c19 (hn : n < 512) (hi : 4 * n + 4 ≤ L) (hL : L ≤ 2048) (C : LwC p s m meth c b L xs D ad cy) (hInv : Inv n σ) (hP : va_P D vwCl (cellsA ad cy σ) H) (hS : va_S (AA ad) s.heap H locs) (hl : lv_has ls 4 [(3, .int (nI (4 * n))), (2, .ref (ad 89)), (1, .ref (ad 0)), (0, .ref b)])
    (nx : ∀ (σ' : Sg) (H1 : Heap) (locs1 : List Loc), Inv (n + 1) σ' → va_P D vwCl (cellsA ad cy σ') H1 → va_S (AA ad) s.heap H1 locs1 → W p l e room_1 s m #[Value.ref b] below meth c H1 locs1 600000 7302250 (lw_Z below #[Value.ref b] s) (F0 m 897 ls [])) : W p l e room_1 s m #[Value.ref b] below meth c H locs 600000 7302250 (lw_Z below #[Value.ref b] s) (F0 m 723 ls []) := by
  obtain ⟨hx, hb, hrt, hml, hown, hts, hX, hbl, hlocks, hgv⟩ := id C.1
  have hbA : ¬ AA ad b := fun q => Nat.not_le.mpr hbl (C.2.2.2.2 b q)
  have v1 : vp_in (nI (4 * n) + 1) L := by rw [nI_1]; exact vp_in_nI (by omega) (by omega)
  have v2 : vp_in (nI (4 * n) + 2) L := by rw [show (2 : Int32) = nI 2 from rfl, nI_add]; exact vp_in_nI (by omega) (by omega)
  have v3 : vp_in (nI (4 * n) + 3) L := by rw [show (3 : Int32) = nI 3 from rfl, nI_add]; exact vp_in_nI (by omega) (by omega)
  have h2 := two_older (n := n) (σ := σ) (x := (xs (nI (4 * n) + 1).toNatClampNeg)) (y := (xs (nI (4 * n) + 2).toNatClampNeg)) hInv
  unfold Two at h2
  refine lv_aload_n hx hb dL_723 rfl (lv_at hl 2 rfl) ?_
  refine lv_aload_n hx hb dL_724 rfl (lv_at hl 3 rfl) ?_
  refine lv_iload_n hx hb dL_725 rfl (lv_at hl 0 rfl) ?_
  refine lv_iconst (v := 1) hx hb dL_726 (by decide) ?_
  refine lv_iadd hx hb dL_727 ?_
  refine va_sld hx hb hX hbl hbA hS v1 dL_728 ?_
  refine lv_aload_n hx hb dL_729 rfl (lv_at hl 3 rfl) ?_
  refine lv_iload_n hx hb dL_730 rfl (lv_at hl 0 rfl) ?_
  refine lv_iconst (v := 2) hx hb dL_731 (by decide) ?_
  refine lv_iadd hx hb dL_732 ?_
  refine va_sld hx hb hX hbl hbA hS v2 dL_733 ?_
  refine lw_call (ms := mX7_older) (r := 0) (w := 7) (li := 754) (As := [.int (xs (nI (4 * n) + 1).toNatClampNeg), .int (xs (nI (4 * n) + 2).toNatClampNeg)]) (rest := []) C h2 rfl (by decide +kernel) (show parB mX7_older 2 = true by decide +kernel) (by decide +kernel) (by decide +kernel) (by decide) rfl rfl (by decide) rfl hP hS hl (Nat.le_of_ble_eq_true rfl) dL_734 (fun v1 σ1 H locs hR1 hP hS => ?_)
  obtain ⟨ans, rfl, h3⟩ := hR1
  refine lv_aload_n hx hb dL_737 rfl (lv_at hl 1 rfl) ?_
  refine lv_aload_n hx hb dL_738 rfl (lv_at hl 3 rfl) ?_
  refine lv_iload_n hx hb dL_739 rfl (lv_at hl 0 rfl) ?_
  refine lv_iconst (v := 1) hx hb dL_740 (by decide) ?_
  refine lv_iadd hx hb dL_741 ?_
  refine va_sld hx hb hX hbl hbA hS v1 dL_742 ?_
  refine lv_aload_n hx hb dL_743 rfl (lv_at hl 3 rfl) ?_
  refine lv_iload_n hx hb dL_744 rfl (lv_at hl 0 rfl) ?_
  refine lv_iconst (v := 2) hx hb dL_745 (by decide) ?_
  refine lv_iadd hx hb dL_746 ?_
  refine va_sld hx hb hX hbl hbA hS v2 dL_747 ?_
  refine lw_call (ms := mX8_older) (r := 89) (w := 8) (li := 1166) (As := [.int (xs (nI (4 * n) + 1).toNatClampNeg), .int (xs (nI (4 * n) + 2).toNatClampNeg)]) (rest := [.int ans]) C h3 rfl (by decide +kernel) (show parB mX8_older 2 = true by decide +kernel) (by decide +kernel) (by decide +kernel) (by decide) rfl rfl (by decide) rfl hP hS hl (Nat.le_of_ble_eq_true rfl) dL_748 (fun v1 σ2 H locs hR2 hP hS => ?_)
  obtain ⟨rfl, hInv2⟩ := hR2
  refine lv_icmp_eq (x := ans) (y := ans) (tgt := 897) hx hb dL_751 (by decide) (fun _ => ?_) (fun z => absurd rfl z)
  exact nx σ2 H locs hInv2 hP hS
set_option maxHeartbeats 1000000 in
theorem lw_c20 (hn : n < 512) (hi : 4 * n + 4 ≤ L) (hL : L ≤ 2048) (C : LwC p s m meth c b L xs D ad cy) (hInv : Inv n σ) (hP : va_P D vwCl (cellsA ad cy σ) H) (hS : va_S (AA ad) s.heap H locs) (hl : lv_has ls 4 [(3, .int (nI (4 * n))), (2, .ref (ad 89)), (1, .ref (ad 0)), (0, .ref b)])
    (nx : ∀ (σ' : Sg) (H1 : Heap) (locs1 : List Loc), Inv (n + 1) σ' → va_P D vwCl (cellsA ad cy σ') H1 → va_S (AA ad) s.heap H1 locs1 → W p l e room_1 s m #[Value.ref b] below meth c H1 locs1 600000 7302250 (lw_Z below #[Value.ref b] s) (F0 m 897 ls [])) : W p l e room_1 s m #[Value.ref b] below meth c H locs 600000 7302250 (lw_Z below #[Value.ref b] s) (F0 m 756 ls []) := by
  obtain ⟨hx, hb, hrt, hml, hown, hts, hX, hbl, hlocks, hgv⟩ := id C.1
  have hbA : ¬ AA ad b := fun q => Nat.not_le.mpr hbl (C.2.2.2.2 b q)
  have v1 : vp_in (nI (4 * n) + 1) L := by rw [nI_1]; exact vp_in_nI (by omega) (by omega)
  have v2 : vp_in (nI (4 * n) + 2) L := by rw [show (2 : Int32) = nI 2 from rfl, nI_add]; exact vp_in_nI (by omega) (by omega)
  have v3 : vp_in (nI (4 * n) + 3) L := by rw [show (3 : Int32) = nI 3 from rfl, nI_add]; exact vp_in_nI (by omega) (by omega)
  have h2 := two_forged (n := n) (σ := σ) hInv
  unfold Two at h2
  refine lv_aload_n hx hb dL_756 rfl (lv_at hl 2 rfl) ?_
  refine lw_call (ms := mX7_forged) (r := 0) (w := 7) (li := 763) (As := []) (rest := []) C h2 rfl (by decide +kernel) (show parB mX7_forged 0 = true by decide +kernel) (by decide +kernel) (by decide +kernel) (by decide) rfl rfl (by decide) rfl hP hS hl (Nat.le_of_ble_eq_true rfl) dL_757 (fun v1 σ1 H locs hR1 hP hS => ?_)
  obtain ⟨ans, rfl, h3⟩ := hR1
  refine lv_aload_n hx hb dL_760 rfl (lv_at hl 1 rfl) ?_
  refine lw_call (ms := mX8_forged) (r := 89) (w := 8) (li := 1170) (As := []) (rest := [.int ans]) C h3 rfl (by decide +kernel) (show parB mX8_forged 0 = true by decide +kernel) (by decide +kernel) (by decide +kernel) (by decide) rfl rfl (by decide) rfl hP hS hl (Nat.le_of_ble_eq_true rfl) dL_761 (fun v1 σ2 H locs hR2 hP hS => ?_)
  obtain ⟨rfl, hInv2⟩ := hR2
  refine lv_icmp_eq (x := ans) (y := ans) (tgt := 897) hx hb dL_764 (by decide) (fun _ => ?_) (fun z => absurd rfl z)
  exact nx σ2 H locs hInv2 hP hS
set_option maxHeartbeats 1000000 in
theorem lw_c21 (hn : n < 512) (hi : 4 * n + 4 ≤ L) (hL : L ≤ 2048) (C : LwC p s m meth c b L xs D ad cy) (hInv : Inv n σ) (hP : va_P D vwCl (cellsA ad cy σ) H) (hS : va_S (AA ad) s.heap H locs) (hl : lv_has ls 4 [(3, .int (nI (4 * n))), (2, .ref (ad 89)), (1, .ref (ad 0)), (0, .ref b)])
    (nx : ∀ (σ' : Sg) (H1 : Heap) (locs1 : List Loc), Inv (n + 1) σ' → va_P D vwCl (cellsA ad cy σ') H1 → va_S (AA ad) s.heap H1 locs1 → W p l e room_1 s m #[Value.ref b] below meth c H1 locs1 600000 7302250 (lw_Z below #[Value.ref b] s) (F0 m 897 ls [])) : W p l e room_1 s m #[Value.ref b] below meth c H locs 600000 7302250 (lw_Z below #[Value.ref b] s) (F0 m 769 ls []) := by
  obtain ⟨hx, hb, hrt, hml, hown, hts, hX, hbl, hlocks, hgv⟩ := id C.1
  have hbA : ¬ AA ad b := fun q => Nat.not_le.mpr hbl (C.2.2.2.2 b q)
  have v1 : vp_in (nI (4 * n) + 1) L := by rw [nI_1]; exact vp_in_nI (by omega) (by omega)
  have v2 : vp_in (nI (4 * n) + 2) L := by rw [show (2 : Int32) = nI 2 from rfl, nI_add]; exact vp_in_nI (by omega) (by omega)
  have v3 : vp_in (nI (4 * n) + 3) L := by rw [show (3 : Int32) = nI 3 from rfl, nI_add]; exact vp_in_nI (by omega) (by omega)
  have h2 := two_write (n := n) (σ := σ) (x := (xs (nI (4 * n) + 1).toNatClampNeg)) (y := (xs (nI (4 * n) + 2).toNatClampNeg)) hInv
  unfold Two at h2
  refine lv_aload_n hx hb dL_769 rfl (lv_at hl 2 rfl) ?_
  refine lv_aload_n hx hb dL_770 rfl (lv_at hl 3 rfl) ?_
  refine lv_iload_n hx hb dL_771 rfl (lv_at hl 0 rfl) ?_
  refine lv_iconst (v := 1) hx hb dL_772 (by decide) ?_
  refine lv_iadd hx hb dL_773 ?_
  refine va_sld hx hb hX hbl hbA hS v1 dL_774 ?_
  refine lv_aload_n hx hb dL_775 rfl (lv_at hl 3 rfl) ?_
  refine lv_iload_n hx hb dL_776 rfl (lv_at hl 0 rfl) ?_
  refine lv_iconst (v := 2) hx hb dL_777 (by decide) ?_
  refine lv_iadd hx hb dL_778 ?_
  refine va_sld hx hb hX hbl hbA hS v2 dL_779 ?_
  refine lw_call (ms := mX7_write) (r := 0) (w := 7) (li := 783) (As := [.int (xs (nI (4 * n) + 1).toNatClampNeg), .int (xs (nI (4 * n) + 2).toNatClampNeg)]) (rest := []) C h2 rfl (by decide +kernel) (show parB mX7_write 2 = true by decide +kernel) (by decide +kernel) (by decide +kernel) (by decide) rfl rfl (by decide) rfl hP hS hl (Nat.le_of_ble_eq_true rfl) dL_780 (fun v1 σ1 H locs hR1 hP hS => ?_)
  obtain ⟨ans, rfl, h3⟩ := hR1
  refine lv_aload_n hx hb dL_783 rfl (lv_at hl 1 rfl) ?_
  refine lv_aload_n hx hb dL_784 rfl (lv_at hl 3 rfl) ?_
  refine lv_iload_n hx hb dL_785 rfl (lv_at hl 0 rfl) ?_
  refine lv_iconst (v := 1) hx hb dL_786 (by decide) ?_
  refine lv_iadd hx hb dL_787 ?_
  refine va_sld hx hb hX hbl hbA hS v1 dL_788 ?_
  refine lv_aload_n hx hb dL_789 rfl (lv_at hl 3 rfl) ?_
  refine lv_iload_n hx hb dL_790 rfl (lv_at hl 0 rfl) ?_
  refine lv_iconst (v := 2) hx hb dL_791 (by decide) ?_
  refine lv_iadd hx hb dL_792 ?_
  refine va_sld hx hb hX hbl hbA hS v2 dL_793 ?_
  refine lw_call (ms := mX8_write) (r := 89) (w := 8) (li := 1177) (As := [.int (xs (nI (4 * n) + 1).toNatClampNeg), .int (xs (nI (4 * n) + 2).toNatClampNeg)]) (rest := [.int ans]) C h3 rfl (by decide +kernel) (show parB mX8_write 2 = true by decide +kernel) (by decide +kernel) (by decide +kernel) (by decide) rfl rfl (by decide) rfl hP hS hl (Nat.le_of_ble_eq_true rfl) dL_794 (fun v1 σ2 H locs hR2 hP hS => ?_)
  obtain ⟨rfl, hInv2⟩ := hR2
  refine lv_icmp_eq (x := ans) (y := ans) (tgt := 897) hx hb dL_797 (by decide) (fun _ => ?_) (fun z => absurd rfl z)
  exact nx σ2 H locs hInv2 hP hS
set_option maxHeartbeats 1000000 in
theorem lw_c22 (hn : n < 512) (hi : 4 * n + 4 ≤ L) (hL : L ≤ 2048) (C : LwC p s m meth c b L xs D ad cy) (hInv : Inv n σ) (hP : va_P D vwCl (cellsA ad cy σ) H) (hS : va_S (AA ad) s.heap H locs) (hl : lv_has ls 4 [(3, .int (nI (4 * n))), (2, .ref (ad 89)), (1, .ref (ad 0)), (0, .ref b)])
    (nx : ∀ (σ' : Sg) (H1 : Heap) (locs1 : List Loc), Inv (n + 1) σ' → va_P D vwCl (cellsA ad cy σ') H1 → va_S (AA ad) s.heap H1 locs1 → W p l e room_1 s m #[Value.ref b] below meth c H1 locs1 600000 7302250 (lw_Z below #[Value.ref b] s) (F0 m 897 ls [])) : W p l e room_1 s m #[Value.ref b] below meth c H locs 600000 7302250 (lw_Z below #[Value.ref b] s) (F0 m 802 ls []) := by
  obtain ⟨hx, hb, hrt, hml, hown, hts, hX, hbl, hlocks, hgv⟩ := id C.1
  have hbA : ¬ AA ad b := fun q => Nat.not_le.mpr hbl (C.2.2.2.2 b q)
  have v1 : vp_in (nI (4 * n) + 1) L := by rw [nI_1]; exact vp_in_nI (by omega) (by omega)
  have v2 : vp_in (nI (4 * n) + 2) L := by rw [show (2 : Int32) = nI 2 from rfl, nI_add]; exact vp_in_nI (by omega) (by omega)
  have v3 : vp_in (nI (4 * n) + 3) L := by rw [show (3 : Int32) = nI 3 from rfl, nI_add]; exact vp_in_nI (by omega) (by omega)
  have h2 := two_tear (n := n) (σ := σ) hInv
  unfold Two at h2
  refine lv_aload_n hx hb dL_802 rfl (lv_at hl 2 rfl) ?_
  refine lw_call (ms := mX7_tear) (r := 0) (w := 7) (li := 792) (As := []) (rest := []) C h2 rfl (by decide +kernel) (show parB mX7_tear 0 = true by decide +kernel) (by decide +kernel) (by decide +kernel) (by decide) rfl rfl (by decide) rfl hP hS hl (Nat.le_of_ble_eq_true rfl) dL_803 (fun v1 σ1 H locs hR1 hP hS => ?_)
  obtain ⟨ans, rfl, h3⟩ := hR1
  refine lv_aload_n hx hb dL_806 rfl (lv_at hl 1 rfl) ?_
  refine lw_call (ms := mX8_tear) (r := 89) (w := 8) (li := 1181) (As := []) (rest := [.int ans]) C h3 rfl (by decide +kernel) (show parB mX8_tear 0 = true by decide +kernel) (by decide +kernel) (by decide +kernel) (by decide) rfl rfl (by decide) rfl hP hS hl (Nat.le_of_ble_eq_true rfl) dL_807 (fun v1 σ2 H locs hR2 hP hS => ?_)
  obtain ⟨rfl, hInv2⟩ := hR2
  refine lv_icmp_eq (x := ans) (y := ans) (tgt := 897) hx hb dL_810 (by decide) (fun _ => ?_) (fun z => absurd rfl z)
  exact nx σ2 H locs hInv2 hP hS
set_option maxHeartbeats 1000000 in
theorem lw_c23 (hn : n < 512) (hi : 4 * n + 4 ≤ L) (hL : L ≤ 2048) (C : LwC p s m meth c b L xs D ad cy) (hInv : Inv n σ) (hP : va_P D vwCl (cellsA ad cy σ) H) (hS : va_S (AA ad) s.heap H locs) (hl : lv_has ls 4 [(3, .int (nI (4 * n))), (2, .ref (ad 89)), (1, .ref (ad 0)), (0, .ref b)])
    (nx : ∀ (σ' : Sg) (H1 : Heap) (locs1 : List Loc), Inv (n + 1) σ' → va_P D vwCl (cellsA ad cy σ') H1 → va_S (AA ad) s.heap H1 locs1 → W p l e room_1 s m #[Value.ref b] below meth c H1 locs1 600000 7302250 (lw_Z below #[Value.ref b] s) (F0 m 897 ls [])) : W p l e room_1 s m #[Value.ref b] below meth c H locs 600000 7302250 (lw_Z below #[Value.ref b] s) (F0 m 815 ls []) := by
  obtain ⟨hx, hb, hrt, hml, hown, hts, hX, hbl, hlocks, hgv⟩ := id C.1
  have hbA : ¬ AA ad b := fun q => Nat.not_le.mpr hbl (C.2.2.2.2 b q)
  have v1 : vp_in (nI (4 * n) + 1) L := by rw [nI_1]; exact vp_in_nI (by omega) (by omega)
  have v2 : vp_in (nI (4 * n) + 2) L := by rw [show (2 : Int32) = nI 2 from rfl, nI_add]; exact vp_in_nI (by omega) (by omega)
  have v3 : vp_in (nI (4 * n) + 3) L := by rw [show (3 : Int32) = nI 3 from rfl, nI_add]; exact vp_in_nI (by omega) (by omega)
  have h2 := two_judge (n := n) (σ := σ) hInv
  unfold Two at h2
  refine lv_aload_n hx hb dL_815 rfl (lv_at hl 2 rfl) ?_
  refine lw_call (ms := mX7_judge) (r := 0) (w := 7) (li := 796) (As := []) (rest := []) C h2 rfl (by decide +kernel) (show parB mX7_judge 0 = true by decide +kernel) (by decide +kernel) (by decide +kernel) (by decide) rfl rfl (by decide) rfl hP hS hl (Nat.le_of_ble_eq_true rfl) dL_816 (fun v1 σ1 H locs hR1 hP hS => ?_)
  obtain ⟨ans, rfl, h3⟩ := hR1
  refine lv_aload_n hx hb dL_819 rfl (lv_at hl 1 rfl) ?_
  refine lw_call (ms := mX8_judge) (r := 89) (w := 8) (li := 1185) (As := []) (rest := [.int ans]) C h3 rfl (by decide +kernel) (show parB mX8_judge 0 = true by decide +kernel) (by decide +kernel) (by decide +kernel) (by decide) rfl rfl (by decide) rfl hP hS hl (Nat.le_of_ble_eq_true rfl) dL_820 (fun v1 σ2 H locs hR2 hP hS => ?_)
  obtain ⟨rfl, hInv2⟩ := hR2
  refine lv_icmp_eq (x := ans) (y := ans) (tgt := 897) hx hb dL_823 (by decide) (fun _ => ?_) (fun z => absurd rfl z)
  exact nx σ2 H locs hInv2 hP hS
set_option maxHeartbeats 1000000 in
theorem lw_c24 (hn : n < 512) (hi : 4 * n + 4 ≤ L) (hL : L ≤ 2048) (C : LwC p s m meth c b L xs D ad cy) (hInv : Inv n σ) (hP : va_P D vwCl (cellsA ad cy σ) H) (hS : va_S (AA ad) s.heap H locs) (hl : lv_has ls 4 [(3, .int (nI (4 * n))), (2, .ref (ad 89)), (1, .ref (ad 0)), (0, .ref b)])
    (nx : ∀ (σ' : Sg) (H1 : Heap) (locs1 : List Loc), Inv (n + 1) σ' → va_P D vwCl (cellsA ad cy σ') H1 → va_S (AA ad) s.heap H1 locs1 → W p l e room_1 s m #[Value.ref b] below meth c H1 locs1 600000 7302250 (lw_Z below #[Value.ref b] s) (F0 m 897 ls [])) : W p l e room_1 s m #[Value.ref b] below meth c H locs 600000 7302250 (lw_Z below #[Value.ref b] s) (F0 m 828 ls []) := by
  obtain ⟨hx, hb, hrt, hml, hown, hts, hX, hbl, hlocks, hgv⟩ := id C.1
  have hbA : ¬ AA ad b := fun q => Nat.not_le.mpr hbl (C.2.2.2.2 b q)
  have v1 : vp_in (nI (4 * n) + 1) L := by rw [nI_1]; exact vp_in_nI (by omega) (by omega)
  have v2 : vp_in (nI (4 * n) + 2) L := by rw [show (2 : Int32) = nI 2 from rfl, nI_add]; exact vp_in_nI (by omega) (by omega)
  have v3 : vp_in (nI (4 * n) + 3) L := by rw [show (3 : Int32) = nI 3 from rfl, nI_add]; exact vp_in_nI (by omega) (by omega)
  have h2 := two_seed (n := n) (σ := σ) (x := (xs (nI (4 * n) + 1).toNatClampNeg)) hInv
  unfold Two at h2
  refine lv_aload_n hx hb dL_828 rfl (lv_at hl 2 rfl) ?_
  refine lv_aload_n hx hb dL_829 rfl (lv_at hl 3 rfl) ?_
  refine lv_iload_n hx hb dL_830 rfl (lv_at hl 0 rfl) ?_
  refine lv_iconst (v := 1) hx hb dL_831 (by decide) ?_
  refine lv_iadd hx hb dL_832 ?_
  refine va_sld hx hb hX hbl hbA hS v1 dL_833 ?_
  refine lw_call (ms := mX7_seed) (r := 0) (w := 7) (li := 805) (As := [.int (xs (nI (4 * n) + 1).toNatClampNeg)]) (rest := []) C h2 rfl (by decide +kernel) (show parB mX7_seed 1 = true by decide +kernel) (by decide +kernel) (by decide +kernel) (by decide) rfl rfl (by decide) rfl hP hS hl (Nat.le_of_ble_eq_true rfl) dL_834 (fun v1 σ1 H locs hR1 hP hS => ?_)
  obtain ⟨ans, rfl, h3⟩ := hR1
  refine lv_aload_n hx hb dL_837 rfl (lv_at hl 1 rfl) ?_
  refine lv_aload_n hx hb dL_838 rfl (lv_at hl 3 rfl) ?_
  refine lv_iload_n hx hb dL_839 rfl (lv_at hl 0 rfl) ?_
  refine lv_iconst (v := 1) hx hb dL_840 (by decide) ?_
  refine lv_iadd hx hb dL_841 ?_
  refine va_sld hx hb hX hbl hbA hS v1 dL_842 ?_
  refine lw_call (ms := mX8_seed) (r := 89) (w := 8) (li := 1189) (As := [.int (xs (nI (4 * n) + 1).toNatClampNeg)]) (rest := [.int ans]) C h3 rfl (by decide +kernel) (show parB mX8_seed 1 = true by decide +kernel) (by decide +kernel) (by decide +kernel) (by decide) rfl rfl (by decide) rfl hP hS hl (Nat.le_of_ble_eq_true rfl) dL_843 (fun v1 σ2 H locs hR2 hP hS => ?_)
  obtain ⟨rfl, hInv2⟩ := hR2
  refine lv_icmp_eq (x := ans) (y := ans) (tgt := 897) hx hb dL_846 (by decide) (fun _ => ?_) (fun z => absurd rfl z)
  exact nx σ2 H locs hInv2 hP hS
set_option maxHeartbeats 1000000 in
theorem lw_c25 (hn : n < 512) (hi : 4 * n + 4 ≤ L) (hL : L ≤ 2048) (C : LwC p s m meth c b L xs D ad cy) (hInv : Inv n σ) (hP : va_P D vwCl (cellsA ad cy σ) H) (hS : va_S (AA ad) s.heap H locs) (hl : lv_has ls 4 [(3, .int (nI (4 * n))), (2, .ref (ad 89)), (1, .ref (ad 0)), (0, .ref b)])
    (nx : ∀ (σ' : Sg) (H1 : Heap) (locs1 : List Loc), Inv (n + 1) σ' → va_P D vwCl (cellsA ad cy σ') H1 → va_S (AA ad) s.heap H1 locs1 → W p l e room_1 s m #[Value.ref b] below meth c H1 locs1 600000 7302250 (lw_Z below #[Value.ref b] s) (F0 m 897 ls [])) : W p l e room_1 s m #[Value.ref b] below meth c H locs 600000 7302250 (lw_Z below #[Value.ref b] s) (F0 m 851 ls []) := by
  obtain ⟨hx, hb, hrt, hml, hown, hts, hX, hbl, hlocks, hgv⟩ := id C.1
  have hbA : ¬ AA ad b := fun q => Nat.not_le.mpr hbl (C.2.2.2.2 b q)
  have v1 : vp_in (nI (4 * n) + 1) L := by rw [nI_1]; exact vp_in_nI (by omega) (by omega)
  have v2 : vp_in (nI (4 * n) + 2) L := by rw [show (2 : Int32) = nI 2 from rfl, nI_add]; exact vp_in_nI (by omega) (by omega)
  have v3 : vp_in (nI (4 * n) + 3) L := by rw [show (3 : Int32) = nI 3 from rfl, nI_add]; exact vp_in_nI (by omega) (by omega)
  have h2 := two_keep (n := n) (σ := σ) (x := (xs (nI (4 * n) + 1).toNatClampNeg)) hInv
  unfold Two at h2
  refine lv_aload_n hx hb dL_851 rfl (lv_at hl 2 rfl) ?_
  refine lv_aload_n hx hb dL_852 rfl (lv_at hl 3 rfl) ?_
  refine lv_iload_n hx hb dL_853 rfl (lv_at hl 0 rfl) ?_
  refine lv_iconst (v := 1) hx hb dL_854 (by decide) ?_
  refine lv_iadd hx hb dL_855 ?_
  refine va_sld hx hb hX hbl hbA hS v1 dL_856 ?_
  refine lw_call (ms := mX7_keep) (r := 0) (w := 7) (li := 809) (As := [.int (xs (nI (4 * n) + 1).toNatClampNeg)]) (rest := []) C h2 rfl (by decide +kernel) (show parB mX7_keep 1 = true by decide +kernel) (by decide +kernel) (by decide +kernel) (by decide) rfl rfl (by decide) rfl hP hS hl (Nat.le_of_ble_eq_true rfl) dL_857 (fun v1 σ1 H locs hR1 hP hS => ?_)
  obtain ⟨ans, rfl, h3⟩ := hR1
  refine lv_aload_n hx hb dL_860 rfl (lv_at hl 1 rfl) ?_
  refine lv_aload_n hx hb dL_861 rfl (lv_at hl 3 rfl) ?_
  refine lv_iload_n hx hb dL_862 rfl (lv_at hl 0 rfl) ?_
  refine lv_iconst (v := 1) hx hb dL_863 (by decide) ?_
  refine lv_iadd hx hb dL_864 ?_
  refine va_sld hx hb hX hbl hbA hS v1 dL_865 ?_
  refine lw_call (ms := mX8_keep) (r := 89) (w := 8) (li := 1193) (As := [.int (xs (nI (4 * n) + 1).toNatClampNeg)]) (rest := [.int ans]) C h3 rfl (by decide +kernel) (show parB mX8_keep 1 = true by decide +kernel) (by decide +kernel) (by decide +kernel) (by decide) rfl rfl (by decide) rfl hP hS hl (Nat.le_of_ble_eq_true rfl) dL_866 (fun v1 σ2 H locs hR2 hP hS => ?_)
  obtain ⟨rfl, hInv2⟩ := hR2
  refine lv_icmp_eq (x := ans) (y := ans) (tgt := 897) hx hb dL_869 (by decide) (fun _ => ?_) (fun z => absurd rfl z)
  exact nx σ2 H locs hInv2 hP hS
set_option maxHeartbeats 1000000 in
theorem lw_c26 (hn : n < 512) (hi : 4 * n + 4 ≤ L) (hL : L ≤ 2048) (C : LwC p s m meth c b L xs D ad cy) (hInv : Inv n σ) (hP : va_P D vwCl (cellsA ad cy σ) H) (hS : va_S (AA ad) s.heap H locs) (hl : lv_has ls 4 [(3, .int (nI (4 * n))), (2, .ref (ad 89)), (1, .ref (ad 0)), (0, .ref b)])
    (nx : ∀ (σ' : Sg) (H1 : Heap) (locs1 : List Loc), Inv (n + 1) σ' → va_P D vwCl (cellsA ad cy σ') H1 → va_S (AA ad) s.heap H1 locs1 → W p l e room_1 s m #[Value.ref b] below meth c H1 locs1 600000 7302250 (lw_Z below #[Value.ref b] s) (F0 m 897 ls [])) : W p l e room_1 s m #[Value.ref b] below meth c H locs 600000 7302250 (lw_Z below #[Value.ref b] s) (F0 m 874 ls []) := by
  obtain ⟨hx, hb, hrt, hml, hown, hts, hX, hbl, hlocks, hgv⟩ := id C.1
  have hbA : ¬ AA ad b := fun q => Nat.not_le.mpr hbl (C.2.2.2.2 b q)
  have v1 : vp_in (nI (4 * n) + 1) L := by rw [nI_1]; exact vp_in_nI (by omega) (by omega)
  have v2 : vp_in (nI (4 * n) + 2) L := by rw [show (2 : Int32) = nI 2 from rfl, nI_add]; exact vp_in_nI (by omega) (by omega)
  have v3 : vp_in (nI (4 * n) + 3) L := by rw [show (3 : Int32) = nI 3 from rfl, nI_add]; exact vp_in_nI (by omega) (by omega)
  have h2 := two_goBack (n := n) (σ := σ) (x := (xs (nI (4 * n) + 1).toNatClampNeg)) hInv
  unfold Two at h2
  refine lv_aload_n hx hb dL_874 rfl (lv_at hl 2 rfl) ?_
  refine lv_aload_n hx hb dL_875 rfl (lv_at hl 3 rfl) ?_
  refine lv_iload_n hx hb dL_876 rfl (lv_at hl 0 rfl) ?_
  refine lv_iconst (v := 1) hx hb dL_877 (by decide) ?_
  refine lv_iadd hx hb dL_878 ?_
  refine va_sld hx hb hX hbl hbA hS v1 dL_879 ?_
  refine lw_call (ms := mX7_goBack) (r := 0) (w := 7) (li := 813) (As := [.int (xs (nI (4 * n) + 1).toNatClampNeg)]) (rest := []) C h2 rfl (by decide +kernel) (show parB mX7_goBack 1 = true by decide +kernel) (by decide +kernel) (by decide +kernel) (by decide) rfl rfl (by decide) rfl hP hS hl (Nat.le_of_ble_eq_true rfl) dL_880 (fun v1 σ1 H locs hR1 hP hS => ?_)
  obtain ⟨ans, rfl, h3⟩ := hR1
  refine lv_aload_n hx hb dL_883 rfl (lv_at hl 1 rfl) ?_
  refine lv_aload_n hx hb dL_884 rfl (lv_at hl 3 rfl) ?_
  refine lv_iload_n hx hb dL_885 rfl (lv_at hl 0 rfl) ?_
  refine lv_iconst (v := 1) hx hb dL_886 (by decide) ?_
  refine lv_iadd hx hb dL_887 ?_
  refine va_sld hx hb hX hbl hbA hS v1 dL_888 ?_
  refine lw_call (ms := mX8_goBack) (r := 89) (w := 8) (li := 1197) (As := [.int (xs (nI (4 * n) + 1).toNatClampNeg)]) (rest := [.int ans]) C h3 rfl (by decide +kernel) (show parB mX8_goBack 1 = true by decide +kernel) (by decide +kernel) (by decide +kernel) (by decide) rfl rfl (by decide) rfl hP hS hl (Nat.le_of_ble_eq_true rfl) dL_889 (fun v1 σ2 H locs hR2 hP hS => ?_)
  obtain ⟨rfl, hInv2⟩ := hR2
  refine lv_icmp_eq (x := ans) (y := ans) (tgt := 897) hx hb dL_892 (by decide) (fun _ => ?_) (fun z => absurd rfl z)
  exact nx σ2 H locs hInv2 hP hS
end LWC
