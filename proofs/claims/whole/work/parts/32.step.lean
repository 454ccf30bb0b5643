/-! ENGINE 4: one instruction is sound -/
def KV (ms : MS) (K : Nat → Lv → List Value → Sg → Prop) (R : Option Value → Sg → Prop) : Prop := ∀ (a : Nat) (b : Lv) (c : List Value) (d : Sg), K a b c d → V ms a b c d R
theorem eg_kept {D : va_G} {ad : Nat → Nat} {cy : Nat → ClassId} {σ σ' : Sg} {H1 : Heap} {c : Nat} {e : va_E} (hc : c < NC) (he : e = cellE ad cy σ' c) (h : ∀ d, d ≠ c → σ' d = σ d) (hP : va_P D vwCl ((cellsA ad cy σ).set c (ad c, e)) H1) : va_P D vwCl (cellsA ad cy σ') H1 := by
  rw [cells_set hc he h] at hP; exact hP
theorem sgc_self {σ : Sg} {c : Nat} {f : Nat → Int32} : sgc σ c f c = f := if_pos rfl
theorem sgc_ne {σ : Sg} {c d : Nat} {f : Nat → Int32} (h : d ≠ c) : sgc σ c f d = σ d := if_neg h
theorem cellE_obj {ad : Nat → Nat} {cy : Nat → ClassId} {σ : Sg} {k : Nat} (h : (shp k).1 = 0) : cellE ad cy σ k = .inr ((shp k).2.1, eg_sl ad (σ k) 0 (shp k).2.2) := if_pos h
theorem cellE_arr {ad : Nat → Nat} {cy : Nat → ClassId} {σ : Sg} {k : Nat} (h0 : ¬ (shp k).1 = 0) (h : (shp k).1 ≤ 3) : cellE ad cy σ k = .inl (cy (shp k).1, (shp k).2.1, .inl (σ k)) := by
  unfold cellE; rw [if_neg h0, if_pos h]
theorem cellE_ref {ad : Nat → Nat} {cy : Nat → ClassId} {σ : Sg} {k : Nat} (h0 : ¬ (shp k).1 = 0) (h : ¬ (shp k).1 ≤ 3) : cellE ad cy σ k = .inl (cy (shp k).1, (shp k).2.1, .inr (.inr (.inr (.inr (fun i => some (ad (eg_rb (shp k).2.2 + eg_rs (shp k).2.2 * i))))))) := by
  unfold cellE; rw [if_neg h0, if_neg h]
theorem gfV_spec {σ : Sg} {a w y : Nat} {v : Value} (h : gfV σ a w y = some v) : a < NC ∧ (shp a).1 = 0 ∧ (shp a).2.1 = w ∧ ∀ ad : Nat → Nat, (eg_sl ad (σ a) 0 (shp a).2.2)[y]? = some (eg_cv ad v) := by
  unfold gfV at h
  cases hb : Nat.ble NC a with
  | true => rw [hb] at h; simp at h
  | false =>
    have ha : a < NC := by
      have : ¬ NC ≤ a := fun q => by rw [Nat.ble_eq_true_of_le q] at hb; cases hb
      omega
    rw [hb] at h
    simp only [cond_false] at h
    split at h
    · next ci sl he =>
      cases hw : Nat.beq ci w with
      | false => rw [hw] at h; simp at h
      | true =>
        rw [hw] at h
        simp only [cond_true] at h
        have hw2 : ci = w := Nat.eq_of_beq_eq_true hw
        refine ⟨ha, by rw [he], by rw [he]; exact hw2, fun ad => ?_⟩
        rw [he]
        show (eg_sl ad (σ a) 0 sl)[y]? = _
        rw [eg_sl_at, ← eg_nth_eq]
        cases hn : eg_nth sl y with
        | none => rw [hn] at h; cases h
        | some o =>
          rw [hn] at h
          cases o with
          | none => cases h; simp [eg_cv]
          | some r => cases h; simp [eg_cv]
    · cases h
theorem pfB_spec {a w y : Nat} (h : pfB a w y = true) : a < NC ∧ (shp a).1 = 0 ∧ (shp a).2.1 = w ∧ (shp a).2.2[y]? = some none := by
  unfold pfB at h
  cases hb : Nat.ble NC a with
  | true => rw [hb] at h; simp at h
  | false =>
    have ha : a < NC := by
      have : ¬ NC ≤ a := fun q => by rw [Nat.ble_eq_true_of_le q] at hb; cases hb
      omega
    rw [hb] at h
    simp only [cond_false] at h
    split at h
    · next ci sl he =>
      cases hw : Nat.beq ci w with
      | false => rw [hw] at h; simp at h
      | true =>
        rw [hw] at h
        simp only [cond_true] at h
        have hw2 : ci = w := Nat.eq_of_beq_eq_true hw
        refine ⟨ha, by rw [he], by rw [he]; exact hw2, ?_⟩
        rw [he]
        show sl[y]? = _
        rw [← eg_nth_eq]
        split at h
        · assumption
        · cases h
    · cases h
theorem rcvB_spec {b w : Nat} (hw : Nat.beq w 99 = false) (h : rcvB b w = true) : b < NC ∧ (shp b).1 = 0 ∧ (shp b).2.1 = w := by
  unfold rcvB at h
  rw [hw] at h
  simp only [cond_false] at h
  cases hb : Nat.ble NC b with
  | true => rw [hb] at h; simp at h
  | false =>
    have ha : b < NC := by
      have : ¬ NC ≤ b := fun q => by rw [Nat.ble_eq_true_of_le q] at hb; cases hb
      omega
    rw [hb] at h
    simp only [cond_false] at h
    split at h
    · next ci sl he => exact ⟨ha, by rw [he], by rw [he]; exact Nat.eq_of_beq_eq_true h⟩
    · cases h
theorem popA_spec : ∀ {n : Nat} {st acc as r : List Value}, popA n st acc = some (as, r) → ∃ ps : List Value, ps.length = n ∧ st = ps ++ r ∧ as = ps.reverse ++ acc
  | 0, st, acc, as, r, h => by
    simp only [popA, Option.some.injEq, Prod.mk.injEq] at h
    exact ⟨[], rfl, by simp [h.2], by simp [h.1]⟩
  | n + 1, v :: st, acc, as, r, h => by
    obtain ⟨ps, h1, h2, h3⟩ := popA_spec (by simpa only [popA] using h)
    exact ⟨v :: ps, by simp [h1], by simp [h2], by simp [h3]⟩
  | n + 1, [], acc, as, r, h => by simp [popA] at h
theorem stk_le {r : List Value} (ad : Nat → Nat) (h : Nat.ble (stkB r) 8 = true) : ((r.map (eg_cv ad)).map fun v => v.category).sum ≤ 8 := by
  have h2 : ∀ l : List Value, ((l.map (eg_cv ad)).map fun v => v.category).sum = stkB l := by
    intro l
    induction l with
    | nil => rfl
    | cons v t ih => simp only [List.map_cons, List.sum_cons, ih, stkB, eg_cv_cat]
  rw [h2]
  exact Nat.le_of_ble_eq_true h
theorem vpush_map (ad : Nat → Nat) (v : Option Value) (r : List Value) : (v.map (eg_cv ad)).toList ++ r.map (eg_cv ad) = (vpush v r).map (eg_cv ad) := by
  cases v <;> rfl
theorem cx_w {ms : MS} {p : Program} {s : State} {m : MethodId} {args : Array Value} {meth : Method} {c : Code} {D : va_G} {ad : Nat → Nat} {cy : Nat → ClassId} (C : Cx ms p s m args meth c D ad cy) {w : Cond} {i : Nat} (h : decide (lw_tbl[i]? = some w) = true) (hg : goodWord w = true) : w.before args s = true := C.2.2.2.2.2.1 w (Gd_in (of_decide_eq_true h) hg)

theorem uG_of (ws : List Cond) (ps : List Nat) (hp : ws = ps.filterMap (fun i => lw_tbl[i]?)) (h : ws.all goodWord = true) : ∀ w ∈ ws, w ∈ Gd := by
  intro w hw
  have h1 := List.all_eq_true.mp h w hw
  rw [hp] at hw
  obtain ⟨i, -, hi⟩ := List.mem_filterMap.mp hw
  exact Gd_in hi h1
theorem uGX0 : ∀ w ∈ u_ws RX0 TX0 3, w ∈ Gd := uG_of _ [325, 327, 329] (by decide +kernel) (by decide +kernel)
theorem uGX1 : ∀ w ∈ u_ws RX1 TX1 8, w ∈ Gd := uG_of _ [123, 125, 127, 129, 131, 133, 135, 137] (by decide +kernel) (by decide +kernel)
theorem uGX2 : ∀ w ∈ u_ws RX2 TX2 8, w ∈ Gd := uG_of _ [278, 280, 282, 284, 286, 288, 290, 292] (by decide +kernel) (by decide +kernel)
theorem uGX3 : ∀ w ∈ u_ws RX3 TX3 4, w ∈ Gd := uG_of _ [306, 308, 310, 312] (by decide +kernel) (by decide +kernel)
theorem uGX4 : ∀ w ∈ u_ws RX4 TX4 12, w ∈ Gd := uG_of _ [172, 174, 176, 178, 180, 182, 184, 186, 188, 190, 192, 194] (by decide +kernel) (by decide +kernel)
theorem uGX5 : ∀ w ∈ u_ws RX5 TX5 8, w ∈ Gd := uG_of _ [246, 248, 250, 252, 254, 256, 258, 260] (by decide +kernel) (by decide +kernel)
theorem uGX6 : ∀ w ∈ u_ws RX6 TX6 6, w ∈ Gd := uG_of _ [213, 215, 217, 219, 221, 223] (by decide +kernel) (by decide +kernel)
theorem uGX7 : ∀ w ∈ u_ws RX7 TX7 10, w ∈ Gd := uG_of _ [342, 344, 346, 348, 350, 352, 354, 356, 358, 360] (by decide +kernel) (by decide +kernel)
theorem uGX8 : ∀ w ∈ u_ws RX8 TX8 28, w ∈ Gd := uG_of _ [851, 853, 855, 857, 859, 861, 863, 865, 867, 869, 871, 873, 875, 877, 879, 881, 883, 885, 887, 889, 891, 893, 895, 897, 899, 901, 903, 905] (by decide +kernel) (by decide +kernel)
theorem uG_at {w : Nat} (h : w < 9) : ∀ x ∈ u_ws (RRx w) (TTx w) (NNx w), x ∈ Gd := by
  match w, h with
  | 0, _ => exact uGX0 | 1, _ => exact uGX1 | 2, _ => exact uGX2 | 3, _ => exact uGX3 | 4, _ => exact uGX4 | 5, _ => exact uGX5 | 6, _ => exact uGX6 | 7, _ => exact uGX7 | 8, _ => exact uGX8
theorem lk_nil (d v : Int) : Op.lookupswitch.offset [] d v = d := by first | rfl | simp [Op.lookupswitch.offset]
theorem lk_cons (k o : Int) (t : List (Int × Int)) (d v : Int) : Op.lookupswitch.offset ((k, o) :: t) d v = if k = v then o else Op.lookupswitch.offset t d v := rfl
theorem lkAll_get {x : Int32} {pc : Nat} {K : Nat → Prop} {d : Int} : ∀ {ps : List (Int × Int)}, lkAll x pc K d ps → K ((pc : Int) + Op.lookupswitch.offset ps d x.toInt).toNat
  | [], h => by rw [lk_nil]; exact h
  | (k, o) :: t, h => by
    rw [lk_cons]
    by_cases e : k = x.toInt
    · rw [if_pos e]; exact h.1 e.symm
    · rw [if_neg e]; exact lkAll_get (h.2 (fun q => e q.symm))
theorem lk_nonneg {pc : Nat} {d v : Int} (hd : 0 ≤ (pc : Int) + d) : ∀ {ps : List (Int × Int)}, (∀ o ∈ ps, 0 ≤ (pc : Int) + o.2) → 0 ≤ (pc : Int) + Op.lookupswitch.offset ps d v
  | [], _ => by rw [lk_nil]; exact hd
  | (k, o) :: t, h => by
    rw [lk_cons]
    by_cases e : k = v
    · rw [if_pos e]; exact h (k, o) List.mem_cons_self
    · rw [if_neg e]; exact lk_nonneg hd (fun q hq => h q (List.mem_cons_of_mem _ hq))
theorem swAll_get {x : Int32} {pc : Nat} {K : Nat → Prop} : ∀ {os : List Int} {v : Int} {j : Nat} {o : Int}, swAll x pc K os v → os[j]? = some o → x.toInt = v + j → K ((pc : Int) + o).toNat
  | [], v, j, o, _, hj, _ => by simp at hj
  | a :: t, v, 0, o, h, hj, hx => by
    have e : a = o := by simpa using hj
    subst e
    exact h.1 (by simpa using hx)
  | a :: t, v, j + 1, o, h, hj, hx => swAll_get h.2 (by simpa using hj) (by rw [hx]; push_cast; omega)
theorem eg_nar {v : Int32} (h : v = 0 ∨ v = 1) : narrow .boolean (.int v) = .int v ∧ fits .boolean (.int v) = true := by
  rcases h with rfl | rfl <;> exact ⟨by decide +kernel, by decide +kernel⟩
theorem stB_inst {cm : MS} (h : OkM cm) (hs : (!stB cm.1) = true) : Cond.instanceMethod cm.1 ∈ Gd ∧ Cond.selects cm.1.cls cm.1 cm.1 ∈ Gd := h.2.2.1.1 (by simpa using hs)
theorem eg_cb {R : Room} {s : State} {args : Array Value} {own : String} {index n : Nat} {cm : MS} {ms : MS} (hts : ∀ w ∈ Gd, w.before args s = true) (hok : OkM cm) (hl : (Cond.methodLink own index cm.1).before args s = true) (hpar : parB cm n = true) (hroom : roomB ms cm = true) (hR : R = ms.2.2.2.2) : CallB R s args own index cm.1 cm.2.1 cm.2.2.1 cm.2.2.2.1 (wsM cm) cm.2.2.2.2 0 0 n := by
  subst hR
  simp only [roomB, Bool.and_eq_true] at hroom
  refine callB_of n hts (fun w hw => ?_) rfl hok.2.2.2.2.2.1 hok.2.2.2.2.2.2 (hts _ hok.2.1) hl ⟨hok.2.2.2.2.1.1, hok.2.2.2.2.1.2, of_decide_eq_true hpar⟩ ⟨Nat.le_of_ble_eq_true hroom.1, Nat.le_of_ble_eq_true hroom.2⟩
  rcases List.mem_cons.mp hw with rfl | h
  · exact Gd_good _ hok.1
  · exact Gd_good _ h
theorem maG0 : Cond.initialized "java/lang/Math" ∈ Gd := Gd_in (i := 79) (by decide +kernel) (by decide +kernel)
theorem minG1 : Cond.static Lib.Math.min.name ∈ Gd := Gd_in (i := 570) (by decide +kernel) (by decide +kernel)
theorem minG2 : Cond.code Lib.Math.min.name Lib.Math.min.code 2 (some .int) ∈ Gd := Gd_in (i := 571) (by decide +kernel) (by decide +kernel)
theorem maxG1 : Cond.static Lib.Math.max.name ∈ Gd := Gd_in (i := 639) (by decide +kernel) (by decide +kernel)
theorem maxG2 : Cond.code Lib.Math.max.name Lib.Math.max.code 2 (some .int) ∈ Gd := Gd_in (i := 640) (by decide +kernel) (by decide +kernel)
theorem acG1 : Cond.native arraycopyName ∈ Gd := Gd_in (i := 509) (by decide +kernel) (by decide +kernel)
theorem acG2 : Cond.static arraycopyName ∈ Gd := Gd_in (i := 508) (by decide +kernel) (by decide +kernel)
theorem acG3 : Cond.initialized "java/lang/System" ∈ Gd := Gd_in (i := 78) (by decide +kernel) (by decide +kernel)
set_option maxHeartbeats 4000000 in
theorem wpI_sd {ms : MS} {ins : Instr} {npc x y w : Nat} {z : Int32} {zl : Int64} {cm : MS} {pc : Nat} {lv : Lv} {st : List Value} {σ : Sg} {K : Nat → Lv → List Value → Sg → Prop} {R : Option Value → Sg → Prop} (hch : chkE ms pc (ins, npc, x, y, w, z, zl, cm) = true) (hK : KV ms K R) (h : wpI ins npc x y w z zl cm ms.2.2.2.1 pc lv st σ K R) : V ms pc lv st σ R := by
  intro p l e s m args below meth c D ad cy C H locs ls hP hS hl
  simp only [chkE, Bool.and_eq_true] at hch
  obtain ⟨⟨hd0, hn⟩, hX⟩ := hch
  have hd := of_decide_eq_true hd0
  have hn := Nat.eq_of_beq_eq_true hn
  subst hn
  have hx := C.1
  have hb := C.2.1
  have go : ∀ {a : Nat} {b : Lv} {d : List Value} {σ2 : Sg} {H2 : Heap} {locs2 : List Loc} {ls2 : Array Slot}, K a b d σ2 → va_P D vwCl (cellsA ad cy σ2) H2 → va_S (AA ad) s.heap H2 locs2 → lv_has ls2 ms.2.2.1 (eg_lc ad b) → W p l e ms.2.2.2.2 s m args below meth c H2 locs2 0 0 (MQ below (QQ D ad cy R) args s 0 0 (AA ad)) (F0 m a ls2 (d.map (eg_cv ad))) := fun k a b c9 => hK _ _ _ _ k p l e s m args below meth c D ad cy C _ _ _ a b c9
  cases ins with
  | iload_n k =>
    simp only [wpI] at h
    have hy : (k : Nat) = y := Nat.eq_of_beq_eq_true hX
    split at h
    · next a he => exact lv_iload_n hx hb hd hy (lget_has hl he) (go h hP hS hl)
    · exact h.elim
  | iload k =>
    simp only [wpI] at h
    have hy : k = y := Nat.eq_of_beq_eq_true hX
    split at h
    · next a he => exact lv_iload hx hb hd (by rw [hy]; exact lget_has hl he) (go h hP hS hl)
    · exact h.elim
  | aload_n k =>
    simp only [wpI] at h
    have hy : (k : Nat) = y := Nat.eq_of_beq_eq_true hX
    split at h
    · next a he => exact lv_aload_n hx hb hd hy (lget_has hl he) (go h hP hS hl)
    · exact h.elim
  | aload k =>
    simp only [wpI] at h
    have hy : k = y := Nat.eq_of_beq_eq_true hX
    split at h
    · next a he => exact lv_aload hx hb hd (by rw [hy]; exact lget_has hl he) (go h hP hS hl)
    · exact h.elim
  | lload_n k =>
    simp only [wpI] at h
    have hy : (k : Nat) = y := Nat.eq_of_beq_eq_true hX
    split at h
    · next a he => exact lv_lload_n hx hb hd hy (lget_has hl he) (go h hP hS hl)
    · exact h.elim
  | lload k =>
    simp only [wpI] at h
    have hy : k = y := Nat.eq_of_beq_eq_true hX
    split at h
    · next a he => exact lv_lload hx hb hd (by rw [hy]; exact lget_has hl he) (go h hP hS hl)
    · exact h.elim
  | istore_n k =>
    simp only [wpI] at h
    simp only [chkX, Bool.and_eq_true] at hX
    have hy : (k : Nat) = y := Nat.eq_of_beq_eq_true hX.1
    have hy2 : y + 1 ≤ ms.2.2.1 := Nat.le_of_ble_eq_true hX.2
    split at h
    · exact lv_istore_n hx hb hd hy hl (by omega) rfl (fun ls2 hl2 => go h hP hS (lset_has hl2))
    · exact h.elim
  | istore k =>
    simp only [wpI] at h
    simp only [chkX, Bool.and_eq_true] at hX
    have hy : k = y := Nat.eq_of_beq_eq_true hX.1
    have hy2 : y + 1 ≤ ms.2.2.1 := Nat.le_of_ble_eq_true hX.2
    subst hy
    split at h
    · exact lv_istore hx hb hd hl (by omega) rfl (fun ls2 hl2 => go h hP hS (lset_has hl2))
    · exact h.elim
  | astore_n k =>
    simp only [wpI] at h
    simp only [chkX, Bool.and_eq_true] at hX
    have hy : (k : Nat) = y := Nat.eq_of_beq_eq_true hX.1
    have hy2 : y + 1 ≤ ms.2.2.1 := Nat.le_of_ble_eq_true hX.2
    split at h
    · exact lv_astore_n hx hb hd hy hl (by omega) rfl (fun ls2 hl2 => go h hP hS (lset_has hl2))
    · exact h.elim
  | astore k =>
    simp only [wpI] at h
    simp only [chkX, Bool.and_eq_true] at hX
    have hy : k = y := Nat.eq_of_beq_eq_true hX.1
    have hy2 : y + 1 ≤ ms.2.2.1 := Nat.le_of_ble_eq_true hX.2
    subst hy
    split at h
    · exact lv_astore hx hb hd hl (by omega) rfl (fun ls2 hl2 => go h hP hS (lset_has hl2))
    · exact h.elim
  | lstore_n k =>
    simp only [wpI] at h
    simp only [chkX, Bool.and_eq_true] at hX
    have hy : (k : Nat) = y := Nat.eq_of_beq_eq_true hX.1
    have hy2 : y + 2 ≤ ms.2.2.1 := Nat.le_of_ble_eq_true hX.2
    split at h
    · exact lv_lstore_n hx hb hd hy hl (by omega) rfl (fun ls2 hl2 => go h hP hS (lset2_has hl2))
    · exact h.elim
  | iinc k n =>
    simp only [wpI] at h
    simp only [chkX, Bool.and_eq_true] at hX
    have hy : k = y := Nat.eq_of_beq_eq_true hX.1.1
    have hy2 : y + 1 ≤ ms.2.2.1 := Nat.le_of_ble_eq_true hX.1.2
    have hz := of_decide_eq_true hX.2
    subst hy
    split at h
    · next a he =>
      obtain ⟨j, hj⟩ := List.getElem?_of_mem (show (k, eg_cv ad (.int a)) ∈ eg_lc ad lv from List.mem_map.mpr ⟨(k, .int a), lget_mem he, rfl⟩)
      exact lv_iinc (v := a + z) hx hb hd hl hj (by rw [hz]) (by omega) rfl (fun ls2 hl2 => go h hP hS (lset_has hl2))
    · exact h.elim
  | iconst n => exact lv_iconst hx hb hd (of_decide_eq_true hX) (go h hP hS hl)
  | bipush n => exact lv_bipush hx hb hd (of_decide_eq_true hX) (go h hP hS hl)
  | sipush n => exact lv_sipush hx hb hd (of_decide_eq_true hX) (go h hP hS hl)
  | lconst n => exact lv_lconst hx hb hd (of_decide_eq_true hX) (go h hP hS hl)
  | ldc idx =>
    simp only [wpI] at h
    simp only [chkX] at hX
    cases hw : Nat.beq w 97 with
    | true =>
      rw [hw] at h hX
      simp only [cond_true, Bool.and_eq_true] at h hX
      have hi := Nat.eq_of_beq_eq_true hX.2
      subst hi
      have hr := C.2.2.2.2.2.2.2.2.1.2.2.1 y (Nat.le_of_ble_eq_true hX.1.2)
      exact va_ldcS hx hb (own := "DatedJars$Reader") (by rw [← of_decide_eq_true hX.1.1]; exact C.2.2.2.2.1) hr hd (go h hP hS hl)
    | false =>
      rw [hw] at h hX
      exact lv_ldc hx hb C.2.2.2.2.1 (cx_w C hX rfl) hd (go h hP hS hl)
  | ldc_w idx => exact lv_ldcw hx hb C.2.2.2.2.1 (cx_w C hX rfl) hd (go h hP hS hl)
  | ldc2_w idx => exact lv_ldc2 hx hb C.2.2.2.2.1 (cx_w C hX rfl) hd (go h hP hS hl)
  | iadd =>
    simp only [wpI] at h
    split at h
    · exact lv_iadd hx hb hd (go h hP hS hl)
    · exact h.elim
  | isub =>
    simp only [wpI] at h
    split at h
    · exact lv_isub hx hb hd (go h hP hS hl)
    · exact h.elim
  | imul =>
    simp only [wpI] at h
    split at h
    · exact lv_imul hx hb hd (go h hP hS hl)
    · exact h.elim
  | iand =>
    simp only [wpI] at h
    split at h
    · exact lv_iand hx hb hd (go h hP hS hl)
    · exact h.elim
  | ior =>
    simp only [wpI] at h
    split at h
    · exact lv_ior hx hb hd (go h hP hS hl)
    · exact h.elim
  | ixor =>
    simp only [wpI] at h
    split at h
    · exact lv_ixor hx hb hd (go h hP hS hl)
    · exact h.elim
  | ishl =>
    simp only [wpI] at h
    split at h
    · exact lv_ishl hx hb hd (go h hP hS hl)
    · exact h.elim
  | ishr =>
    simp only [wpI] at h
    split at h
    · exact lv_ishr hx hb hd (go h hP hS hl)
    · exact h.elim
  | ineg =>
    simp only [wpI] at h
    split at h
    · exact lv_ineg hx hb hd (go h hP hS hl)
    · exact h.elim
  | ladd =>
    simp only [wpI] at h
    split at h
    · exact lv_ladd hx hb hd (go h hP hS hl)
    · exact h.elim
  | lmul =>
    simp only [wpI] at h
    split at h
    · exact lv_lmul hx hb hd (go h hP hS hl)
    · exact h.elim
  | land =>
    simp only [wpI] at h
    split at h
    · exact lv_land hx hb hd (go h hP hS hl)
    · exact h.elim
  | lor =>
    simp only [wpI] at h
    split at h
    · exact lv_lor hx hb hd (go h hP hS hl)
    · exact h.elim
  | lcmp =>
    simp only [wpI] at h
    split at h
    · exact W.lcmp hx hb hd (go h hP hS hl)
    · exact h.elim
  | iushr =>
    simp only [wpI] at h
    split at h
    · exact lv_iushr hx hb hd rfl (go h hP hS hl)
    · exact h.elim
  | i2l =>
    simp only [wpI] at h
    split at h
    · exact lv_i2l hx hb hd rfl (go h hP hS hl)
    · exact h.elim
  | l2i =>
    simp only [wpI] at h
    split at h
    · exact lv_l2i hx hb hd rfl (go h hP hS hl)
    · exact h.elim
  | i2b =>
    simp only [wpI] at h
    split at h
    · exact lv_i2b hx hb hd rfl (go h hP hS hl)
    · exact h.elim
  | lshl =>
    simp only [wpI] at h
    split at h
    · exact lv_lshl hx hb hd rfl (go h hP hS hl)
    · exact h.elim
  | lshr =>
    simp only [wpI] at h
    split at h
    · exact lv_lshr hx hb hd rfl (go h hP hS hl)
    · exact h.elim
  | lushr =>
    simp only [wpI] at h
    split at h
    · exact lv_lushr hx hb hd rfl (go h hP hS hl)
    · exact h.elim
  | idiv =>
    simp only [wpI] at h
    split at h
    · exact lv_idiv hx hb hd h.1 (go h.2 hP hS hl)
    · exact h.elim
  | irem =>
    simp only [wpI] at h
    split at h
    · exact lv_irem hx hb hd h.1 (go h.2 hP hS hl)
    · exact h.elim
  | lrem =>
    simp only [wpI] at h
    split at h
    · exact lv_lrem hx hb hd h.1 (go h.2 hP hS hl)
    · exact h.elim
  | dup =>
    simp only [wpI] at h
    split at h
    · next a r =>
      cases hc : Nat.beq a.category 1 with
      | true =>
        rw [hc] at h
        exact lv_dup hx hb hd (by rw [eg_cv_cat]; exact Nat.eq_of_beq_eq_true hc) (go h hP hS hl)
      | false => rw [hc] at h; exact h.elim
    · exact h.elim
  | pop =>
    simp only [wpI] at h
    split at h
    · next a r =>
      cases hc : Nat.beq a.category 1 with
      | true =>
        rw [hc] at h
        exact lv_pop hx hb hd (by rw [eg_cv_cat]; exact Nat.eq_of_beq_eq_true hc) (go h hP hS hl)
      | false => rw [hc] at h; exact h.elim
    · exact h.elim
  | dup2 =>
    simp only [wpI] at h
    split at h
    · next a b r =>
      cases hc : (Nat.beq a.category 1 && Nat.beq b.category 1) with
      | true =>
        rw [hc] at h
        simp only [Bool.and_eq_true] at hc
        exact lv_dup2_11 hx hb hd (by rw [eg_cv_cat]; exact Nat.eq_of_beq_eq_true hc.1) (by rw [eg_cv_cat]; exact Nat.eq_of_beq_eq_true hc.2) (go h hP hS hl)
      | false => rw [hc] at h; exact h.elim
    · exact h.elim
  | goto off => exact lv_goto hx hb hd (of_decide_eq_true hX) (go h hP hS hl)
  | ifCond cnd off =>
    have ht := of_decide_eq_true hX
    cases cnd <;> simp only [wpI] at h <;> split at h
    · exact lv_if_eq hx hb hd ht (fun q => go (h.1 q) hP hS hl) (fun q => go (h.2 q) hP hS hl)
    · exact h.elim
    · exact lv_if_ne hx hb hd ht (fun q => go (h.1 q) hP hS hl) (fun q => go (h.2 q) hP hS hl)
    · exact h.elim
    · exact lv_if_lt hx hb hd ht (fun q => go (h.1 q) hP hS hl) (fun q => go (h.2 q) hP hS hl)
    · exact h.elim
    · exact lv_if_ge hx hb hd ht (fun q => go (h.1 q) hP hS hl) (fun q => go (h.2 q) hP hS hl)
    · exact h.elim
    · exact lv_if_gt hx hb hd ht (fun q => go (h.1 q) hP hS hl) (fun q => go (h.2 q) hP hS hl)
    · exact h.elim
    · exact lv_if_le hx hb hd ht (fun q => go (h.1 q) hP hS hl) (fun q => go (h.2 q) hP hS hl)
    · exact h.elim
  | if_icmp cnd off =>
    have ht := of_decide_eq_true hX
    cases cnd <;> simp only [wpI] at h <;> split at h
    · exact lv_icmp_eq hx hb hd ht (fun q => go (h.1 q) hP hS hl) (fun q => go (h.2 q) hP hS hl)
    · exact h.elim
    · exact lv_icmp_ne hx hb hd ht (fun q => go (h.1 q) hP hS hl) (fun q => go (h.2 q) hP hS hl)
    · exact h.elim
    · exact lv_icmp_lt hx hb hd ht (fun q => go (h.1 q) hP hS hl) (fun q => go (h.2 q) hP hS hl)
    · exact h.elim
    · exact lv_icmp_ge hx hb hd ht (fun q => go (h.1 q) hP hS hl) (fun q => go (h.2 q) hP hS hl)
    · exact h.elim
    · exact lv_icmp_gt hx hb hd ht (fun q => go (h.1 q) hP hS hl) (fun q => go (h.2 q) hP hS hl)
    · exact h.elim
    · exact lv_icmp_le hx hb hd ht (fun q => go (h.1 q) hP hS hl) (fun q => go (h.2 q) hP hS hl)
    · exact h.elim
  | tableswitch d lo hi offs =>
    simp only [wpI] at h
    simp only [chkX, Bool.and_eq_true, decide_eq_true_eq] at hX
    obtain ⟨⟨hd1, ho1⟩, hsz⟩ := hX
    split at h
    · next a r =>
      by_cases hr : a.toInt < lo ∨ hi < a.toInt
      · exact lv_tableOut hx hb hd hr (Int.toNat_of_nonneg hd1).symm (go (h.1 hr) hP hS hl)
      · have h1 : ¬ a.toInt < lo := fun q => hr (Or.inl q)
        have h2 : ¬ hi < a.toInt := fun q => hr (Or.inr q)
        have hj : (a.toInt - lo).toNat < offs.size := by omega
        have ho : offs[(a.toInt - lo).toNat]? = some offs[(a.toInt - lo).toNat] := Array.getElem?_eq_getElem hj
        have ho2 : offs.toList[(a.toInt - lo).toNat]? = some offs[(a.toInt - lo).toNat] := by rw [Array.getElem?_toList]; exact ho
        have hk := swAll_get h.2 ho2 (by omega)
        have hnn := of_decide_eq_true (List.all_eq_true.mp ho1 _ (List.mem_of_getElem? ho2))
        exact lv_tableIn hx hb hd h1 h2 ho (Int.toNat_of_nonneg hnn).symm (go hk hP hS hl)
    · exact h.elim
  | lookupswitch d ps =>
    simp only [wpI] at h
    simp only [chkX, Bool.and_eq_true, decide_eq_true_eq] at hX
    obtain ⟨⟨hd1, ho1⟩, hsz⟩ := hX
    split at h
    · next a r =>
      have hk := lkAll_get h
      have hnn := lk_nonneg (v := a.toInt) hd1 (ps := ps.toList) (fun o ho => of_decide_eq_true (List.all_eq_true.mp ho1 o ho))
      exact lv_lookup hx hb hd hsz rfl (Int.toNat_of_nonneg hnn).symm (go hk hP hS hl)
    · exact h.elim
  | getfield idx =>
    simp only [wpI] at h
    simp only [chkX, Bool.and_eq_true] at hX
    obtain ⟨⟨hw, hy⟩, hlk⟩ := hX
    have hw : w < 9 := Nat.le_of_ble_eq_true hw
    have hy : y < NNx w := Nat.le_of_ble_eq_true hy
    split at h
    · next a r =>
      split at h
      · next v hv =>
        obtain ⟨ha, h0, h1, h2⟩ := gfV_spec hv
        have he := cells_at (ad := ad) (cy := cy) (σ := σ) ha
        rw [cellE_obj h0, h1] at he
        exact va_get hx hb C.2.2.2.2.2.1 (uG_at hw) C.2.2.2.2.1 C.2.2.2.2.2.2.2.1 hP a he (cl_at hw) y hy (cx_w C hlk rfl) (fun _ q => q) (h2 ad) hd (go h hP hS hl)
      · exact h.elim
    · exact h.elim
  | putfield idx =>
    simp only [wpI] at h
    simp only [chkX, Bool.and_eq_true] at hX
    obtain ⟨⟨⟨⟨hw, hy⟩, hlk⟩, hfin⟩, hty⟩ := hX
    have hw : w < 9 := Nat.le_of_ble_eq_true hw
    have hy : y < NNx w := Nat.le_of_ble_eq_true hy
    have hfin : (TTx w y).2.2.2 = false := by simpa using hfin
    have hty := of_decide_eq_true hty
    split at h
    · next v a r =>
      cases hpf : pfB a w y with
      | false => rw [hpf] at h; exact h.elim
      | true =>
        rw [hpf] at h
        simp only [cond_true] at h
        obtain ⟨ha, h0, h1, h2⟩ := pfB_spec hpf
        have he := cells_at (ad := ad) (cy := cy) (σ := σ) ha
        rw [cellE_obj h0, h1] at he
        have hlen : y < (eg_sl ad (σ a) 0 (shp a).2.2).length := by
          rw [eg_sl_len]; exact (List.getElem?_eq_some_iff.mp h2).1
        have fin : K (pc + 3) lv r (sgu σ a y v) ∧ (narrow (TYx w y) (.int v) = .int v ∧ fits (TYx w y) (.int v) = true) := by
          rw [hty]
          cases hq : (Nat.beq w 6 && Nat.beq y 5) with
          | true => rw [hq] at h; exact ⟨h.2, eg_nar h.1⟩
          | false => rw [hq] at h; exact ⟨h, rfl, rfl⟩
        refine va_put hx hb C.2.2.2.2.2.1 (uG_at hw) (TYx w) (ty_at hw) (nm_at hw) C.2.2.2.2.1 C.2.2.2.2.2.2.2.1 hP (cells_D C.2.2.2.2.2.2.2.2.2 cy σ) hS a he (cl_at hw) y hy (cx_w C hlk rfl) (fun _ q => q) hfin (ty_at hw y hy) fin.2.1 fin.2.2 hlen hd (fun H1 locs1 hP1 hD1 hS1 => ?_)
        refine go fin.1 (eg_kept ha ?_ (fun d hd9 => sgc_ne hd9) hP1) hS1 hl
        rw [cellE_obj h0, h1]
        show Sum.inr (w, (eg_sl ad (σ a) 0 (shp a).2.2).set y (.int v)) = Sum.inr (w, eg_sl ad (sgc σ a (upd (σ a) y v) a) 0 (shp a).2.2)
        rw [sgc_self, eg_sl_set ad (σ a) v _ 0 y h2, Nat.zero_add]
    · exact h.elim
  | iaload =>
    simp only [wpI] at h
    split at h
    · next i a r =>
      obtain ⟨⟨ha, ht, hi⟩, h⟩ := h
      have he := cells_at (ad := ad) (cy := cy) (σ := σ) ha
      rw [cellE_arr (by omega) (by omega), ht] at he
      exact va_iald hx hb C.2.2.2.2.2.2.2.1 hP a 0 he rfl hi hd (go (h _ rfl) hP hS hl)
    · exact h.elim
  | iastore =>
    simp only [wpI] at h
    split at h
    · next v i a r =>
      obtain ⟨⟨ha, ht, hi⟩, h⟩ := h
      have he := cells_at (ad := ad) (cy := cy) (σ := σ) ha
      rw [cellE_arr (by omega) (by omega), ht] at he
      refine va_iast hx hb C.2.2.2.2.2.2.2.1 hP (cells_D C.2.2.2.2.2.2.2.2.2 cy σ) hS a 0 he rfl hi hd (fun H1 locs1 hP1 hD1 hS1 => ?_)
      refine go (h _ rfl) (eg_kept ha ?_ (fun d hd9 => sgc_ne hd9) hP1) hS1 hl
      rw [cellE_arr (by omega) (by omega), ht]
      show _ = Sum.inl (cy 1, (shp a).2.1, Sum.inl (sgc σ a (upd (σ a) i.toNatClampNeg v) a))
      rw [sgc_self]
    · exact h.elim
  | baload =>
    simp only [wpI] at h
    split at h
    · next i a r =>
      obtain ⟨⟨ha, ht, hi⟩, h⟩ := h
      have he := cells_at (ad := ad) (cy := cy) (σ := σ) ha
      cases hq : Nat.beq (shp a).1 2 with
      | true =>
        rw [hq] at ht
        simp only [cond_true] at ht
        rw [cellE_arr (by omega) (by omega), ht] at he
        exact va_bald hx hb C.2.2.2.2.2.2.2.1 hP a 1 he rfl hi hd (go (h _ rfl) hP hS hl)
      | false =>
        rw [hq] at ht
        simp only [cond_false] at ht
        rw [cellE_arr (by omega) (by omega), ht] at he
        exact va_zald hx hb C.2.2.2.2.2.2.2.1 hP a 2 he rfl hi hd (go (h _ rfl) hP hS hl)
    · exact h.elim
  | bastore =>
    simp only [wpI] at h
    split at h
    · next v i a r =>
      obtain ⟨⟨ha, ht, hi⟩, h⟩ := h
      have he := cells_at (ad := ad) (cy := cy) (σ := σ) ha
      cases hq : Nat.beq (shp a).1 2 with
      | true =>
        rw [hq] at ht h
        simp only [cond_true] at ht h
        rw [cellE_arr (by omega) (by omega), ht] at he
        refine va_bast hx hb C.2.2.2.2.2.2.2.1 hP (cells_D C.2.2.2.2.2.2.2.2.2 cy σ) hS a 1 he rfl hi hd (fun H1 locs1 hP1 hD1 hS1 => ?_)
        refine go (h _ rfl) (eg_kept ha ?_ (fun d hd9 => sgc_ne hd9) hP1) hS1 hl
        rw [cellE_arr (by omega) (by omega), ht]
        show _ = Sum.inl (cy 2, (shp a).2.1, Sum.inl (sgc σ a (upd (σ a) i.toNatClampNeg (vp_nar .byte v)) a))
        rw [sgc_self]
      | false =>
        rw [hq] at ht h
        simp only [cond_false] at ht h
        rw [cellE_arr (by omega) (by omega), ht] at he
        refine va_zast hx hb C.2.2.2.2.2.2.2.1 hP (cells_D C.2.2.2.2.2.2.2.2.2 cy σ) hS a 2 he rfl hi hd (fun H1 locs1 hP1 hD1 hS1 => ?_)
        refine go (h _ rfl) (eg_kept ha ?_ (fun d hd9 => sgc_ne hd9) hP1) hS1 hl
        rw [cellE_arr (by omega) (by omega), ht]
        show _ = Sum.inl (cy 3, (shp a).2.1, Sum.inl (sgc σ a (upd (σ a) i.toNatClampNeg (vp_nar .boolean v)) a))
        rw [sgc_self]
    · exact h.elim
  | aaload =>
    simp only [wpI] at h
    split at h
    · next i a r =>
      obtain ⟨⟨ha, ht, hi⟩, h⟩ := h
      have he := cells_at (ad := ad) (cy := cy) (σ := σ) ha
      have hlt : i.toNatClampNeg < (shp a).2.1 := Nat.not_le.mp fun q => hi (Or.inr q)
      cases hq : Nat.beq (shp a).1 4 with
      | true =>
        rw [hq] at ht
        simp only [cond_true] at ht
        rw [cellE_ref (by omega) (by omega), ht] at he
        exact va_aldq (C := "DatedJars$Land") hx hb C.2.2.2.2.2.2.2.1 hP a 3 he rfl hi hd (go h hP hS hl)
      | false =>
        rw [hq] at ht
        simp only [cond_false] at ht
        rw [cellE_ref (by omega) (by omega), ht] at he
        exact W.aald (v := va_rf (some (ad (eg_rb (shp a).2.2 + eg_rs (shp a).2.2 * i.toNatClampNeg)))) (ty := .array .int) hx hb (hP a _ he) ((C.2.2.2.2.2.2.2.1.2 4 _ rfl).1 (shp a).2.1 (fun j => va_rf (some (ad (eg_rb (shp a).2.2 + eg_rs (shp a).2.2 * j))))) rfl (fun q => by cases q) (by show ¬ (i < 0 ∨ (arrV _ _ _).slots.size ≤ _); rw [arrV_size]; exact hi) (by show (arrV _ _ _).slots[_]? = _; rw [arrV_read _ _ hlt]) rfl rfl hd (go h hP hS hl)
    · exact h.elim
  | arraylength =>
    simp only [wpI] at h
    split at h
    · next a r =>
      cases hq : Nat.ble NC a with
      | true => rw [hq] at h; exact h.elim
      | false =>
        have ha : a < NC := Nat.lt_of_not_le (fun q => by rw [Nat.ble_eq_true_of_le q] at hq; cases hq)
        rw [hq] at h
        simp only [cond_false] at h
        cases ht : Nat.beq (shp a).1 1 with
        | false => rw [ht] at h; exact h.elim
        | true =>
          rw [ht] at h
          have ht := Nat.eq_of_beq_eq_true ht
          have he := cells_at (ad := ad) (cy := cy) (σ := σ) ha
          rw [cellE_arr (by omega) (by omega), ht] at he
          exact va_alen hx hb C.2.2.2.2.2.2.2.1 hP a 0 he (ty := .int) rfl rfl hd (go h hP hS hl)
    · exact h.elim
  | invokevirtual idx =>
    simp only [wpI] at h
    simp only [chkX, Bool.and_eq_true] at hX
    obtain ⟨⟨⟨⟨⟨hlk, hy1⟩, hpar⟩, hroom⟩, hst⟩, hcls⟩ := hX
    have hy1 : 1 ≤ y := Nat.le_of_ble_eq_true hy1
    split at h
    · next b as r hpop =>
      cases hc : (rcvB b w && Nat.ble (stkB r) 8) with
      | false => rw [hc] at h; exact h.elim
      | true =>
        rw [hc] at h
        simp only [Bool.and_eq_true] at hc
        simp only [cond_true] at h
        obtain ⟨ps, hp1, hp2, hp3⟩ := popA_spec hpop
        have e0 : ps.reverse = .ref b :: as := by simpa using hp3.symm
        have e1 : ps = as.reverse ++ [.ref b] := by
          rw [← List.reverse_reverse ps, e0]; simp
        have e2 : as.length = y - 1 := by rw [e1] at hp1; simp at hp1; omega
        obtain ⟨hok, hM⟩ := h
        have hin := stB_inst hok hst
        have hrec : ∃ cellB : Cell, H[ad b]? = some cellB ∧ cellB.vm.isStatics = false ∧ s.vm.findClass cm.1.cls = some cellB.cls := by
          cases hw : Nat.beq w 99 with
          | true =>
            rw [hw] at hcls
            have hcls := of_decide_eq_true hcls
            have hrb := hc.1
            unfold rcvB at hrb
            rw [hw] at hrb
            simp only [cond_true, Bool.and_eq_true] at hrb
            have g1 := Nat.le_of_ble_eq_true hrb.1
            have g2 := Nat.le_of_ble_eq_true hrb.2
            obtain ⟨adV, hstr⟩ := C.2.2.2.2.2.2.2.2.1.1
            have := vk_recv (i := b - 1000) hstr (by omega) hS
            rw [hcls]
            have e9 : 1000 + (b - 1000) = b := Nat.add_sub_cancel' g1
            rw [e9] at this
            exact this
          | false =>
            rw [hw] at hcls
            simp only [cond_false, Bool.and_eq_true] at hcls
            obtain ⟨g1, g2, g3⟩ := rcvB_spec hw hc.1
            have he := cells_at (ad := ad) (cy := cy) (σ := σ) g1
            rw [cellE_obj g2, g3] at he
            have := va_recv C.2.2.2.2.2.2.2.1 hP (cl_at (Nat.le_of_ble_eq_true hcls.1)) he
            rw [← of_decide_eq_true hcls.2]
            exact this
        refine eg_call (va_runV (As := as.map (eg_cv ad)) (rest := r.map (eg_cv ad)) (b := ad b) (C := cm.1.cls) (n := y - 1) (nL := ms.2.2.1) (Ts := Gd) (own := ms.1.cls) ⟨hx, hb, C.2.2.2.1, C.2.2.2.2.1, C.2.2.2.2.2.1⟩ (hM l D ad cy) ⟨eg_cb C.2.2.2.2.2.1 hok (cx_w C hlk rfl) hpar hroom rfl, C.2.2.2.2.2.1 _ hin.1, C.2.2.2.2.2.1 _ hin.2⟩ ⟨eg_blind, hrec, fun U hU hW => ⟨rfl, ⟨va_K.moved hW.alike C.2.2.2.2.2.2.2.1, C.2.2.2.2.2.2.2.2.1.at hS hU hW, C.2.2.2.2.2.2.2.2.2⟩, by rw [hU]; exact hP⟩⟩ rfl (by rw [List.length_map]; exact e2) hl.1 (by rw [hp2, e1]; simp [eg_cv]) (lv_room (stk_le ad hc.2)) hd ⟨Nat.zero_le _, Nat.zero_le _⟩) hS (fun v σ' H1 locs1 hR hP1 hS1 => ?_)
        rw [vpush_map]
        exact go hR hP1 hS1 hl
    · exact h.elim
  | invokestatic idx =>
    simp only [wpI] at h
    simp only [chkX] at hX
    cases hw : Nat.beq w 98 with
    | true =>
      rw [hw] at h hX
      simp only [cond_true, Bool.and_eq_true] at h hX
      obtain ⟨⟨hlk, hf1⟩, hl1⟩ := hX
      split at h
      · next n dp b sp a r =>
        cases hc : Nat.ble (stkB r) 8 with
        | false => rw [hc] at h; exact h.elim
        | true =>
          rw [hc] at h
          obtain ⟨⟨⟨ha, hta⟩, ⟨hbb, htb⟩, g1, g2, g3, g4, g5⟩, h⟩ := h
          have he := cells_at (ad := ad) (cy := cy) (σ := σ) ha
          rw [cellE_arr (by omega) (by omega), hta] at he
          have heb := cells_at (ad := ad) (cy := cy) (σ := σ) hbb
          rw [cellE_arr (by omega) (by omega), htb] at heb
          have h8 := stk_le ad hc
          refine va_copyi hx hb (by rw [C.2.2.2.1]; exact hl.1.symm) C.2.2.2.2.1 (cx_w C hlk rfl) (C.2.2.2.2.2.1 _ acG1) (C.2.2.2.2.2.1 _ acG2) (C.2.2.2.2.2.1 _ acG3) C.2.2.2.2.2.2.2.1 hP (cells_D C.2.2.2.2.2.2.2.2.2 cy σ) hS a b 0 0 (ty := .int) he heb rfl rfl rfl g1 g2 g3 g4 g5 (fun _ _ => rfl) (Nat.le_of_ble_eq_true hf1) ?_ hd (fun H1 locs1 hP1 hD1 hS1 => ?_)
          · have h9 := Nat.le_of_ble_eq_true hl1
            have e9 : nativeFrameWords "java/lang/System" "arraycopy" 5 = 7 := by decide +kernel
            omega
          · refine go h (eg_kept hbb ?_ (fun d hd9 => sgc_ne hd9) hP1) hS1 hl
            rw [cellE_arr (by omega) (by omega), htb, sgc_self]
      · exact h.elim
    | false =>
      rw [hw] at h hX
      simp only [cond_false] at h hX
      cases hw96 : Nat.beq w 96 with
      | true =>
        rw [hw96] at h hX
        simp only [cond_true, Bool.and_eq_true] at h hX
        obtain ⟨⟨hlk, hf1⟩, hl1⟩ := hX
        split at h
        · next b a r =>
          cases hc : Nat.ble (stkB r) 8 with
          | false => rw [hc] at h; exact h.elim
          | true =>
            rw [hc] at h
            have h8 := stk_le ad hc
            have h9 := Nat.le_of_ble_eq_true hl1
            exact va_mmin hx hb (by rw [C.2.2.2.1]; exact hl.1.symm) C.2.2.2.2.1 (cx_w C hlk rfl) (C.2.2.2.2.2.1 _ minG1) (C.2.2.2.2.2.1 _ maG0) (C.2.2.2.2.2.1 _ minG2) (Nat.le_of_ble_eq_true hf1) (by omega) (Nat.zero_le _) (Nat.zero_le _) hd (go h hP hS hl)
        · exact h.elim
      | false =>
      rw [hw96] at h hX
      simp only [cond_false] at h hX
      cases hw95 : Nat.beq w 95 with
      | true =>
        rw [hw95] at h hX
        simp only [cond_true, Bool.and_eq_true] at h hX
        obtain ⟨⟨hlk, hf1⟩, hl1⟩ := hX
        split at h
        · next b a r =>
          cases hc : Nat.ble (stkB r) 8 with
          | false => rw [hc] at h; exact h.elim
          | true =>
            rw [hc] at h
            have h8 := stk_le ad hc
            have h9 := Nat.le_of_ble_eq_true hl1
            exact va_mmax hx hb (by rw [C.2.2.2.1]; exact hl.1.symm) C.2.2.2.2.1 (cx_w C hlk rfl) (C.2.2.2.2.2.1 _ maxG1) (C.2.2.2.2.2.1 _ maG0) (C.2.2.2.2.2.1 _ maxG2) (Nat.le_of_ble_eq_true hf1) (by omega) (Nat.zero_le _) (Nat.zero_le _) hd (go h hP hS hl)
        · exact h.elim
      | false =>
      rw [hw95] at h hX
      simp only [cond_false] at h hX
      simp only [Bool.and_eq_true] at hX
      obtain ⟨⟨⟨hlk, hpar⟩, hroom⟩, hst⟩ := hX
      split at h
      · next as r hpop =>
        cases hc : Nat.ble (stkB r) 8 with
        | false => rw [hc] at h; exact h.elim
        | true =>
          rw [hc] at h
          simp only [cond_true] at h
          obtain ⟨ps, hp1, hp2, hp3⟩ := popA_spec hpop
          have e0 : ps.reverse = as := by simpa using hp3.symm
          have e1 : ps = as.reverse := by rw [← e0]; simp
          have e2 : as.length = y := by rw [e1] at hp1; simpa using hp1
          obtain ⟨hok, hM⟩ := h
          refine eg_call (va_runS (As := as.map (eg_cv ad)) (rest := r.map (eg_cv ad)) (n := y) (nL := ms.2.2.1) (Ts := Gd) (own := ms.1.cls) ⟨hx, hb, C.2.2.2.1, C.2.2.2.2.1, C.2.2.2.2.2.1⟩ (hM l D ad cy) ⟨eg_cb C.2.2.2.2.2.1 hok (cx_w C hlk rfl) hpar hroom rfl, C.2.2.2.2.2.1 _ (hok.2.2.1.2 hst)⟩ ⟨eg_blind, fun U hU hW => ⟨rfl, ⟨va_K.moved hW.alike C.2.2.2.2.2.2.2.1, C.2.2.2.2.2.2.2.2.1.at hS hU hW, C.2.2.2.2.2.2.2.2.2⟩, by rw [hU]; exact hP⟩⟩ rfl (by rw [List.length_map]; exact e2) hl.1 (by rw [hp2, e1]; simp) (lv_room (stk_le ad hc)) hd ⟨Nat.zero_le _, Nat.zero_le _⟩) hS (fun v σ' H1 locs1 hR hP1 hS1 => ?_)
          rw [vpush_map]
          exact go hR hP1 hS1 hl
      · exact h.elim
  | ireturn =>
    simp only [wpI] at h
    split at h
    · next a =>
      split at h
      · next hr => exact W.iret (v := a) hx hb (C.2.2.1.trans hr) (fun t ht hW => ⟨⟨some (.int a), σ, rfl, h, by rw [ht]; exact hP⟩, hS.F ht⟩) hS.2.2 hd (hlocks := C.2.2.2.2.2.2.1)
      · next hr => exact W.zret (v := a) (ty := .boolean) hx hb (C.2.2.1.trans hr) (eg_nar h.1).1 (fun t ht hW => ⟨⟨some (.int a), σ, rfl, h.2, by rw [ht]; exact hP⟩, hS.F ht⟩) hS.2.2 hd (hlocks := C.2.2.2.2.2.2.1)
      · exact h.elim
    · exact h.elim
  | return_ =>
    simp only [wpI] at h
    split at h
    · split at h
      · next hr => exact W.vret hx hb (C.2.2.1.trans hr) (fun t ht hW => ⟨⟨none, σ, rfl, h, by rw [ht]; exact hP⟩, hS.F ht⟩) hS.2.2 hd (hlocks := C.2.2.2.2.2.2.1)
      · exact h.elim
    · exact h.elim
  | _ => exact h.elim
theorem wpB_sd {ms : MS} {cd : Cd} {stops : List Nat} {R : Option Value → Sg → Prop} (hc : chkC ms cd = true) : ∀ (n pc : Nat) (lv : Lv) (st : List Value) (σ : Sg), wpB ms cd stops R n pc lv st σ → V ms pc lv st σ R
  | 0, _, _, _, _, h => h.elim
  | n + 1, pc, lv, st, σ, h => by
    unfold wpB at h
    split at h
    · exact h.elim
    · next ins npc x y w z zl cm he =>
      refine wpI_sd (fnd2_chk hc he) (fun a b c d k => ?_) h
      cases hs : stops.elem a with
      | true => rw [hs] at k; exact k
      | false => rw [hs] at k; exact wpB_sd hc n a b c d k
