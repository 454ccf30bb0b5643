/-! the law: its loop -/
section LWL
variable {p : Program} {l : Launch} {e : Env} {s : State} {m : MethodId} {below : List Frame} {meth : Method} {c : Code} {b L : Nat} {xs : Nat → Int32} {D : va_G} {ad : Nat → Nat} {cy : Nat → ClassId}
set_option maxHeartbeats 2000000 in
theorem lw_loop (hL : L ≤ 2048) (C : LwC p s m meth c b L xs D ad cy) : ∀ (k n : Nat), n + k = 513 → 4 * n ≤ L → ∀ (σ : Sg) (H : Heap) (locs : List Loc) (ls : Array Slot), Inv n σ → va_P D vwCl (cellsA ad cy σ) H → va_S (AA ad) s.heap H locs → lv_has ls 4 [(3, .int (nI (4 * n))), (2, .ref (ad 89)), (1, .ref (ad 0)), (0, .ref b)] → W p l e room_1 s m #[Value.ref b] below meth c H locs 600000 7302250 (lw_Z below #[Value.ref b] s) (F0 m 18 ls []) := by
  intro k
  induction k with
  | zero => intro n hk hn; omega
  | succ k ih =>
    intro n hk hn σ H locs ls hInv hP hS hl
    obtain ⟨hx, hb, hrt, hml, hown, hts, hX, hbl, hlocks, hgv⟩ := id C.1
    have hbA : ¬ AA ad b := fun q => Nat.not_le.mpr hbl (C.2.2.2.2 b q)
    refine lv_iload_n hx hb dL_18 rfl (lv_at hl 0 rfl) ?_
    refine lv_aload_n hx hb dL_19 rfl (lv_at hl 3 rfl) ?_
    refine va_slen hx hb hX hbl hbA hS dL_20 ?_
    refine lv_iconst (v := 4) hx hb dL_21 (by decide) ?_
    refine lv_isub hx hb dL_22 ?_
    have hcmp : (Int32.ofNat L - 4 < nI (4 * n)) ↔ L < 4 * n + 4 := by
      rcases Nat.lt_or_ge L 4 with q | q
      · have hn0 : n = 0 := by omega
        subst hn0
        rcases (show L = 0 ∨ L = 1 ∨ L = 2 ∨ L = 3 by omega) with rfl | rfl | rfl | rfl <;> exact ⟨fun _ => by omega, fun _ => by decide⟩
      · have e1 : Int32.ofNat L - 4 = nI (L - 4) := pk_sub (a := L) (b := 4) q
        rw [e1, nI_ltI (by omega) (by omega)]
        omega
    refine lv_icmp_gt (tgt := 903) hx hb dL_23 (by decide) (fun _ => ?_) (fun g => ?_)
    · refine lv_iconst (v := 1) hx hb dL_903 (by decide) ?_
      refine va_forget (fun q hq => C.2.2.2.2 _ (hS.2.2 q hq)) ?_
      exact lw_ret hx hb hrt hlocks dL_904
    · have g : ¬ L < 4 * n + 4 := fun q => g (hcmp.mpr q)
      have hi : 4 * n + 4 ≤ L := by omega
      have hn5 : n < 512 := by omega
      refine lv_aload_n hx hb dL_26 rfl (lv_at hl 3 rfl) ?_
      refine lv_iload_n hx hb dL_27 rfl (lv_at hl 0 rfl) ?_
      refine va_sld hx hb hX hbl hbA hS (vp_in_nI (by omega) (by omega)) dL_28 ?_
      refine lv_bipush (v := 31) hx hb dL_29 (by decide) ?_
      refine lv_iand hx hb dL_31 ?_
      obtain ⟨j, hj, ej⟩ := pk_andE (xs (nI (4 * n)).toNatClampNeg) (m := 31) 5 (by decide)
      rw [ej]
      have nx : ∀ (σ' : Sg) (H1 : Heap) (locs1 : List Loc), Inv (n + 1) σ' → va_P D vwCl (cellsA ad cy σ') H1 → va_S (AA ad) s.heap H1 locs1 → W p l e room_1 s m #[Value.ref b] below meth c H1 locs1 600000 7302250 (lw_Z below #[Value.ref b] s) (F0 m 897 ls []) := by
        intro σ' H1 locs1 hI1 hP1 hS1
        refine lv_iinc (v := nI (4 * (n + 1))) (lv' := [(3, .int (nI (4 * (n + 1)))), (2, .ref (ad 89)), (1, .ref (ad 0)), (0, .ref b)]) hx hb dL_897 hl (k := 0) rfl (by show nI (4 * n) + nI 4 = _; rw [nI_add]; rfl) (by decide) rfl (fun ls2 hl2 => ?_)
        refine lv_goto (tgt := 18) hx hb dL_900 (by decide) ?_
        exact ih (n + 1) (by omega) (by omega) σ' H1 locs1 ls2 hI1 hP1 hS1 hl2
      have hI9 : Inv (n + 1) σ := by
        obtain ⟨A, B, kp, I, hg, hI, T, len, ft, h1, h2, h3⟩ := hInv
        exact ⟨A, B, kp, I, hg, hI, T, len, ft, h1, h2, h3.up⟩
      have hj32 : j < 32 := hj
      rcases (show j = 0 ∨ j = 1 ∨ j = 2 ∨ j = 3 ∨ j = 4 ∨ j = 5 ∨ j = 6 ∨ j = 7 ∨ j = 8 ∨ j = 9 ∨ j = 10 ∨ j = 11 ∨ j = 12 ∨ j = 13 ∨ j = 14 ∨ j = 15 ∨ j = 16 ∨ j = 17 ∨ j = 18 ∨ j = 19 ∨ j = 20 ∨ j = 21 ∨ j = 22 ∨ j = 23 ∨ j = 24 ∨ j = 25 ∨ j = 26 ∨ j = 27 ∨ j = 28 ∨ j = 29 ∨ j = 30 ∨ j = 31 by omega) with rfl | rfl | rfl | rfl | rfl | rfl | rfl | rfl | rfl | rfl | rfl | rfl | rfl | rfl | rfl | rfl | rfl | rfl | rfl | rfl | rfl | rfl | rfl | rfl | rfl | rfl | rfl | rfl | rfl | rfl | rfl | rfl
      · exact lv_tableIn (off := 124) (tgt := 156) hx hb dL_32 (by decide) (by decide) (by decide +kernel) (by decide) (lw_c0 hn5 hi hL C hInv hP hS hl nx)
      · exact lv_tableIn (off := 187) (tgt := 219) hx hb dL_32 (by decide) (by decide) (by decide +kernel) (by decide) (lw_c1 hn5 hi hL C hInv hP hS hl nx)
      · exact lv_tableIn (off := 200) (tgt := 232) hx hb dL_32 (by decide) (by decide) (by decide +kernel) (by decide) (lw_c2 hn5 hi hL C hInv hP hS hl nx)
      · exact lv_tableIn (off := 213) (tgt := 245) hx hb dL_32 (by decide) (by decide) (by decide +kernel) (by decide) (lw_c3 hn5 hi hL C hInv hP hS hl nx)
      · exact lv_tableIn (off := 236) (tgt := 268) hx hb dL_32 (by decide) (by decide) (by decide +kernel) (by decide) (lw_c4 hn5 hi hL C hInv hP hS hl nx)
      · exact lv_tableIn (off := 269) (tgt := 301) hx hb dL_32 (by decide) (by decide) (by decide +kernel) (by decide) (lw_c5 hn5 hi hL C hInv hP hS hl nx)
      · exact lv_tableIn (off := 302) (tgt := 334) hx hb dL_32 (by decide) (by decide) (by decide +kernel) (by decide) (lw_c6 hn5 hi hL C hInv hP hS hl nx)
      · exact lv_tableIn (off := 325) (tgt := 357) hx hb dL_32 (by decide) (by decide) (by decide +kernel) (by decide) (lw_c7 hn5 hi hL C hInv hP hS hl nx)
      · exact lv_tableIn (off := 358) (tgt := 390) hx hb dL_32 (by decide) (by decide) (by decide +kernel) (by decide) (lw_c8 hn5 hi hL C hInv hP hS hl nx)
      · exact lv_tableIn (off := 391) (tgt := 423) hx hb dL_32 (by decide) (by decide) (by decide +kernel) (by decide) (lw_c9 hn5 hi hL C hInv hP hS hl nx)
      · exact lv_tableIn (off := 424) (tgt := 456) hx hb dL_32 (by decide) (by decide) (by decide +kernel) (by decide) (lw_c10 hn5 hi hL C hInv hP hS hl nx)
      · exact lv_tableIn (off := 447) (tgt := 479) hx hb dL_32 (by decide) (by decide) (by decide +kernel) (by decide) (lw_c11 hn5 hi hL C hInv hP hS hl nx)
      · exact lv_tableIn (off := 470) (tgt := 502) hx hb dL_32 (by decide) (by decide) (by decide +kernel) (by decide) (lw_c12 hn5 hi hL C hInv hP hS hl nx)
      · exact lv_tableIn (off := 493) (tgt := 525) hx hb dL_32 (by decide) (by decide) (by decide +kernel) (by decide) (lw_c13 hn5 hi hL C hInv hP hS hl nx)
      · exact lv_tableIn (off := 536) (tgt := 568) hx hb dL_32 (by decide) (by decide) (by decide +kernel) (by decide) (lw_c14 hn5 hi hL C hInv hP hS hl nx)
      · exact lv_tableIn (off := 569) (tgt := 601) hx hb dL_32 (by decide) (by decide) (by decide +kernel) (by decide) (lw_c15 hn5 hi hL C hInv hP hS hl nx)
      · exact lv_tableIn (off := 592) (tgt := 624) hx hb dL_32 (by decide) (by decide) (by decide +kernel) (by decide) (lw_c16 hn5 hi hL C hInv hP hS hl nx)
      · exact lv_tableIn (off := 625) (tgt := 657) hx hb dL_32 (by decide) (by decide) (by decide +kernel) (by decide) (lw_c17 hn5 hi hL C hInv hP hS hl nx)
      · exact lv_tableIn (off := 658) (tgt := 690) hx hb dL_32 (by decide) (by decide) (by decide +kernel) (by decide) (lw_c18 hn5 hi hL C hInv hP hS hl nx)
      · exact lv_tableIn (off := 691) (tgt := 723) hx hb dL_32 (by decide) (by decide) (by decide +kernel) (by decide) (lw_c19 hn5 hi hL C hInv hP hS hl nx)
      · exact lv_tableIn (off := 724) (tgt := 756) hx hb dL_32 (by decide) (by decide) (by decide +kernel) (by decide) (lw_c20 hn5 hi hL C hInv hP hS hl nx)
      · exact lv_tableIn (off := 737) (tgt := 769) hx hb dL_32 (by decide) (by decide) (by decide +kernel) (by decide) (lw_c21 hn5 hi hL C hInv hP hS hl nx)
      · exact lv_tableIn (off := 770) (tgt := 802) hx hb dL_32 (by decide) (by decide) (by decide +kernel) (by decide) (lw_c22 hn5 hi hL C hInv hP hS hl nx)
      · exact lv_tableIn (off := 783) (tgt := 815) hx hb dL_32 (by decide) (by decide) (by decide +kernel) (by decide) (lw_c23 hn5 hi hL C hInv hP hS hl nx)
      · exact lv_tableIn (off := 796) (tgt := 828) hx hb dL_32 (by decide) (by decide) (by decide +kernel) (by decide) (lw_c24 hn5 hi hL C hInv hP hS hl nx)
      · exact lv_tableIn (off := 819) (tgt := 851) hx hb dL_32 (by decide) (by decide) (by decide +kernel) (by decide) (lw_c25 hn5 hi hL C hInv hP hS hl nx)
      · exact lv_tableIn (off := 842) (tgt := 874) hx hb dL_32 (by decide) (by decide) (by decide +kernel) (by decide) (lw_c26 hn5 hi hL C hInv hP hS hl nx)
      · exact lv_tableOut (tgt := 897) hx hb dL_32 (by decide) (by decide) (nx σ H locs hI9 hP hS)
      · exact lv_tableOut (tgt := 897) hx hb dL_32 (by decide) (by decide) (nx σ H locs hI9 hP hS)
      · exact lv_tableOut (tgt := 897) hx hb dL_32 (by decide) (by decide) (nx σ H locs hI9 hP hS)
      · exact lv_tableOut (tgt := 897) hx hb dL_32 (by decide) (by decide) (nx σ H locs hI9 hP hS)
      · exact lv_tableOut (tgt := 897) hx hb dL_32 (by decide) (by decide) (nx σ H locs hI9 hP hS)
end LWL
