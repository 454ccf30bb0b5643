/-! ENGINE 1: abstract worlds, the judgement V -/
abbrev NC : Nat := 104
def shp (k : Nat) : Nat × Nat × List (Option Nat) := (bif Nat.ble 52 k then (bif Nat.ble 78 k then (bif Nat.ble 91 k then (bif Nat.ble 98 k then (bif Nat.ble 101 k then (bif Nat.ble 103 k then (bif Nat.ble 104 k then (9, 0, []) else (1, 30, [])) else (bif Nat.ble 102 k then (1, 30, []) else (1, 12, []))) else (bif Nat.ble 99 k then (bif Nat.ble 100 k then (1, 12, []) else (1, 3400, [])) else (1, 8, []))) else (bif Nat.ble 94 k then (bif Nat.ble 96 k then (bif Nat.ble 97 k then (1, 4, []) else (1, 400, [])) else (bif Nat.ble 95 k then (1, 60, []) else (1, 8, []))) else (bif Nat.ble 92 k then (bif Nat.ble 93 k then (1, 8, []) else (1, 16, [])) else (3, 2, [])))) else (bif Nat.ble 84 k then (bif Nat.ble 87 k then (bif Nat.ble 89 k then (bif Nat.ble 90 k then (1, 800, []) else (0, 8, [some 90, some 91, some 92, none, some 93, some 94, some 95, none, none, none, none, some 96, none, none, none, none, none, none, some 97, some 98, none, some 99, some 100, some 101, none, some 102, some 103, none])) else (bif Nat.ble 88 k then (1, 4, []) else (1, 30, []))) else (bif Nat.ble 85 k then (bif Nat.ble 86 k then (1, 30, []) else (0, 0, [none, some 86, some 87])) else (1, 12, []))) else (bif Nat.ble 81 k then (bif Nat.ble 82 k then (bif Nat.ble 83 k then (1, 12, []) else (1, 12, [])) else (0, 3, [none, some 82, some 83, some 84])) else (bif Nat.ble 79 k then (bif Nat.ble 80 k then (1, 4, []) else (1, 8, [])) else (1, 8, []))))) else (bif Nat.ble 65 k then (bif Nat.ble 71 k then (bif Nat.ble 74 k then (bif Nat.ble 76 k then (bif Nat.ble 77 k then (1, 4, []) else (1, 8, [])) else (bif Nat.ble 75 k then (0, 2, [some 76, none, some 77, none, some 78, some 79, some 80, none]) else (1, 12, []))) else (bif Nat.ble 72 k then (bif Nat.ble 73 k then (1, 256, []) else (1, 256, [])) else (1, 256, []))) else (bif Nat.ble 68 k then (bif Nat.ble 69 k then (bif Nat.ble 70 k then (1, 256, []) else (1, 256, [])) else (1, 256, [])) else (bif Nat.ble 66 k then (bif Nat.ble 67 k then (1, 256, []) else (1, 256, [])) else (1, 256, [])))) else (bif Nat.ble 58 k then (bif Nat.ble 61 k then (bif Nat.ble 63 k then (bif Nat.ble 64 k then (1, 256, []) else (1, 256, [])) else (bif Nat.ble 62 k then (1, 256, []) else (1, 256, []))) else (bif Nat.ble 59 k then (bif Nat.ble 60 k then (1, 256, []) else (5, 13, [some 60, some 1])) else (1, 8, []))) else (bif Nat.ble 55 k then (bif Nat.ble 56 k then (bif Nat.ble 57 k then (0, 5, [some 58, none, some 59, some 73, none, none, some 74, none]) else (2, 400, [])) else (0, 6, [some 56, none, none, none, none, none])) else (bif Nat.ble 53 k then (bif Nat.ble 54 k then (3, 2, []) else (1, 24, [])) else (1, 24, [])))))) else (bif Nat.ble 26 k then (bif Nat.ble 39 k then (bif Nat.ble 45 k then (bif Nat.ble 48 k then (bif Nat.ble 50 k then (bif Nat.ble 51 k then (1, 24, []) else (1, 24, [])) else (bif Nat.ble 49 k then (1, 24, []) else (1, 24, []))) else (bif Nat.ble 46 k then (bif Nat.ble 47 k then (0, 1, [none, some 48, some 49, some 50, some 51, some 52, some 53, none]) else (1, 8, [])) else (1, 4, []))) else (bif Nat.ble 42 k then (bif Nat.ble 43 k then (bif Nat.ble 44 k then (1, 4, []) else (1, 4, [])) else (1, 4, [])) else (bif Nat.ble 40 k then (bif Nat.ble 41 k then (0, 4, [none, some 42, some 43, some 44, some 45, none, some 46, none, none, none, none, some 47]) else (1, 24, [])) else (1, 24, [])))) else (bif Nat.ble 32 k then (bif Nat.ble 35 k then (bif Nat.ble 37 k then (bif Nat.ble 38 k then (1, 24, []) else (1, 24, [])) else (bif Nat.ble 36 k then (1, 24, []) else (1, 24, []))) else (bif Nat.ble 33 k then (bif Nat.ble 34 k then (0, 1, [none, some 35, some 36, some 37, some 38, some 39, some 40, none]) else (1, 8, [])) else (1, 4, []))) else (bif Nat.ble 29 k then (bif Nat.ble 30 k then (bif Nat.ble 31 k then (1, 4, []) else (1, 4, [])) else (1, 4, [])) else (bif Nat.ble 27 k then (bif Nat.ble 28 k then (0, 4, [none, some 29, some 30, some 31, some 32, none, some 33, none, none, none, none, some 34]) else (4, 2, [some 28, some 13])) else (1, 24, []))))) else (bif Nat.ble 13 k then (bif Nat.ble 19 k then (bif Nat.ble 22 k then (bif Nat.ble 24 k then (bif Nat.ble 25 k then (1, 24, []) else (1, 24, [])) else (bif Nat.ble 23 k then (1, 24, []) else (1, 24, []))) else (bif Nat.ble 20 k then (bif Nat.ble 21 k then (1, 24, []) else (0, 1, [none, some 21, some 22, some 23, some 24, some 25, some 26, none])) else (1, 8, []))) else (bif Nat.ble 16 k then (bif Nat.ble 17 k then (bif Nat.ble 18 k then (1, 4, []) else (1, 4, [])) else (1, 4, [])) else (bif Nat.ble 14 k then (bif Nat.ble 15 k then (1, 4, []) else (0, 4, [none, some 15, some 16, some 17, some 18, none, some 19, none, none, none, none, some 20])) else (1, 24, [])))) else (bif Nat.ble 6 k then (bif Nat.ble 9 k then (bif Nat.ble 11 k then (bif Nat.ble 12 k then (1, 24, []) else (1, 24, [])) else (bif Nat.ble 10 k then (1, 24, []) else (1, 24, []))) else (bif Nat.ble 7 k then (bif Nat.ble 8 k then (1, 24, []) else (0, 1, [none, some 8, some 9, some 10, some 11, some 12, some 13, none])) else (1, 8, []))) else (bif Nat.ble 3 k then (bif Nat.ble 4 k then (bif Nat.ble 5 k then (1, 4, []) else (1, 4, [])) else (1, 4, [])) else (bif Nat.ble 1 k then (bif Nat.ble 2 k then (1, 4, []) else (0, 4, [none, some 2, some 3, some 4, some 5, none, some 6, none, none, none, none, some 7])) else (0, 7, [some 1, some 14, some 27, some 54, some 55, some 57, some 75, some 81, some 85, some 88])))))))
abbrev Sg : Type := Nat → Nat → Int32
def sgc (σ : Sg) (c : Nat) (f : Nat → Int32) : Sg := fun d => if d = c then f else σ d
def sgu (σ : Sg) (c k : Nat) (v : Int32) : Sg := sgc σ c (upd (σ c) k v)
abbrev Lv : Type := List (Nat × Value)
abbrev MS : Type := MethodName × ByteArray × Nat × Option FieldType × Room
abbrev En : Type := Instr × Nat × Nat × Nat × Nat × Int32 × Int64 × MS
abbrev Cd : Type := List (Nat × List (Nat × En))
def eg_nth {α : Type} : List α → Nat → Option α
  | [], _ => none
  | a :: _, 0 => some a
  | _ :: t, n + 1 => eg_nth t n
theorem eg_nth_eq {α : Type} : ∀ (l : List α) (n : Nat), eg_nth l n = l[n]?
  | [], n => by simp [eg_nth]
  | a :: t, 0 => by simp [eg_nth]
  | a :: t, n + 1 => by simp [eg_nth, eg_nth_eq t n]
def eg_cv (ad : Nat → Nat) : Value → Value
  | .ref k => .ref (ad k)
  | v => v
theorem eg_cv_cat (ad : Nat → Nat) (v : Value) : (eg_cv ad v).category = v.category := by cases v <;> rfl
def eg_sl (ad : Nat → Nat) (f : Nat → Int32) : Nat → List (Option Nat) → List Value
  | _, [] => []
  | i, none :: t => .int (f i) :: eg_sl ad f (i + 1) t
  | i, some r :: t => .ref (ad r) :: eg_sl ad f (i + 1) t
theorem eg_sl_len (ad : Nat → Nat) (f : Nat → Int32) : ∀ (l : List (Option Nat)) (i : Nat), (eg_sl ad f i l).length = l.length
  | [], _ => rfl
  | none :: t, i => by simp [eg_sl, eg_sl_len ad f t (i + 1)]
  | some r :: t, i => by simp [eg_sl, eg_sl_len ad f t (i + 1)]
theorem eg_sl_at (ad : Nat → Nat) (f : Nat → Int32) : ∀ (l : List (Option Nat)) (i k : Nat), (eg_sl ad f i l)[k]? = (l[k]?).map (fun o => match o with | none => .int (f (i + k)) | some r => .ref (ad r))
  | [], i, k => by simp [eg_sl]
  | none :: t, i, 0 => by simp [eg_sl]
  | some r :: t, i, 0 => by simp [eg_sl]
  | none :: t, i, k + 1 => by
    simp only [eg_sl, List.getElem?_cons_succ, eg_sl_at ad f t (i + 1) k]
    congr 1
    funext o
    cases o <;> simp [Nat.add_comm, Nat.add_left_comm]
  | some r :: t, i, k + 1 => by
    simp only [eg_sl, List.getElem?_cons_succ, eg_sl_at ad f t (i + 1) k]
    congr 1
    funext o
    cases o <;> simp [Nat.add_comm, Nat.add_left_comm]
theorem eg_sl_set (ad : Nat → Nat) (f : Nat → Int32) (v : Int32) : ∀ (l : List (Option Nat)) (i k : Nat), l[k]? = some none → (eg_sl ad f i l).set k (.int v) = eg_sl ad (upd f (i + k) v) i l
  | [], i, k, h => by simp at h
  | none :: t, i, 0, h => by
    have e : ∀ (l : List (Option Nat)) (j : Nat), i < j → eg_sl ad f j l = eg_sl ad (upd f i v) j l := by
      intro l
      induction l with
      | nil => intro j _; rfl
      | cons o l ih =>
        intro j hj
        cases o with
        | none => simp only [eg_sl, ih (j + 1) (by omega)]; simp [upd, show ¬ j = i by omega]
        | some r => simp only [eg_sl, ih (j + 1) (by omega)]
    simp only [eg_sl, List.set_cons_zero, Nat.add_zero, e t (i + 1) (by omega)]
    simp [upd]
  | some r :: t, i, 0, h => by simp at h
  | none :: t, i, k + 1, h => by
    simp only [eg_sl, List.set_cons_succ, eg_sl_set ad f v t (i + 1) k (by simpa using h), Nat.add_assoc, Nat.add_comm 1 k]
    simp [upd]
  | some r :: t, i, k + 1, h => by
    simp only [eg_sl, List.set_cons_succ, eg_sl_set ad f v t (i + 1) k (by simpa using h), Nat.add_assoc, Nat.add_comm 1 k]
def eg_rb (sl : List (Option Nat)) : Nat := match sl with
  | some b :: _ => b
  | _ => 0
def eg_rs (sl : List (Option Nat)) : Nat := match sl with
  | _ :: some b :: _ => b
  | _ => 0
def cellE (ad : Nat → Nat) (cy : Nat → ClassId) (σ : Sg) (k : Nat) : va_E :=
  if (shp k).1 = 0 then .inr ((shp k).2.1, eg_sl ad (σ k) 0 (shp k).2.2)
  else if (shp k).1 ≤ 3 then .inl (cy (shp k).1, (shp k).2.1, .inl (σ k))
  else .inl (cy (shp k).1, (shp k).2.1, .inr (.inr (.inr (.inr (fun i => some (ad (eg_rb (shp k).2.2 + eg_rs (shp k).2.2 * i)))))))
def cellsA (ad : Nat → Nat) (cy : Nat → ClassId) (σ : Sg) : va_W := (List.range NC).map fun k => (ad k, cellE ad cy σ k)
theorem cells_at {ad : Nat → Nat} {cy : Nat → ClassId} {σ : Sg} {k : Nat} (h : k < NC) : (cellsA ad cy σ)[k]? = some (ad k, cellE ad cy σ k) := by
  simp [cellsA, h]
theorem cells_inv {ad : Nat → Nat} {cy : Nat → ClassId} {σ : Sg} {k : Nat} {q : Nat × va_E} (h : (cellsA ad cy σ)[k]? = some q) : k < NC ∧ q = (ad k, cellE ad cy σ k) := by
  have hk : k < NC := by
    have := (List.getElem?_eq_some_iff.mp h).1
    simpa [cellsA] using this
  rw [cells_at hk] at h
  exact ⟨hk, (Option.some.inj h).symm⟩
theorem cellE_congr {ad : Nat → Nat} {cy : Nat → ClassId} {σ σ' : Sg} {k : Nat} (h : σ' k = σ k) : cellE ad cy σ' k = cellE ad cy σ k := by
  unfold cellE; rw [h]
theorem cells_set {ad : Nat → Nat} {cy : Nat → ClassId} {σ σ' : Sg} {c : Nat} {e : va_E} (hc : c < NC) (he : e = cellE ad cy σ' c) (h : ∀ d, d ≠ c → σ' d = σ d) : (cellsA ad cy σ).set c (ad c, e) = cellsA ad cy σ' := by
  subst he
  apply List.ext_getElem?
  intro i
  by_cases hi : i = c
  · subst hi
    rw [List.getElem?_set_self (by simpa [cellsA] using hc), cells_at hc]
  · rw [List.getElem?_set_ne (fun q => hi q.symm)]
    by_cases hn : i < NC
    · rw [cells_at hn, cells_at hn, cellE_congr (h i hi)]
    · rw [List.getElem?_eq_none (by simp [cellsA]; omega), List.getElem?_eq_none (by simp [cellsA]; omega)]
def AA (ad : Nat → Nat) : Nat → Prop := fun q => ∃ k, k < NC ∧ q = ad k
def InjA (ad : Nat → Nat) : Prop := ∀ i j, i < NC → j < NC → ad i = ad j → i = j
theorem cells_D {ad : Nat → Nat} (h : InjA ad) (cy : Nat → ClassId) (σ : Sg) : va_D (AA ad) (cellsA ad cy σ) := by
  refine ⟨fun i j p q hi hj e => ?_, fun k q hk => ?_⟩
  · obtain ⟨a, rfl⟩ := cells_inv hi
    obtain ⟨b, rfl⟩ := cells_inv hj
    exact h i j a b e
  · obtain ⟨a, rfl⟩ := cells_inv hk
    exact ⟨k, a, rfl⟩
abbrev tysA (cy : Nat → ClassId) : List (ClassId × FieldType) := [(cy 1, .int), (cy 2, .byte), (cy 3, .boolean), (cy 4, .object "DatedJars$Land"), (cy 5, .array .int)]
/-- the six String constants: their lengths and bytes -/
def eg_len : List Nat := [7, 5, 3, 5, 4, 5]
def eg_byt : List (List Int32) := [[104, 97, 114, 118, 101, 115, 116], [104, 111, 117, 115, 101], [106, 97, 114], [112, 108, 97, 105, 110], [112, 108, 117, 109], [103, 108, 97, 115, 115]]
def eg_idx : List Nat := [48, 58, 63, 110, 112, 114]
def eg_txt : List String := ["harvest", "house", "jar", "plain", "plum", "glass"]
def StrU (ad : Nat → Nat) (U : State) (H : Heap) : Prop := (∃ adV : Nat → Nat, vk_S 6 eg_len eg_byt (fun i => ad (1000 + i)) adV (AA ad) U H) ∧ va_Z "java/lang/String" "COMPACT_STRINGS" "Z" (.int 1) (AA ad) U H ∧ (∀ i : Nat, i < 6 → vk_R "DatedJars$Reader" (eg_idx.getD i 0) (eg_txt.getD i "") (ad (1000 + i)) U) ∧ va_Zq "jdk/internal/util/Preconditions" "SIOOBE_FORMATTER" "Ljava/util/function/BiFunction;" (AA ad) U H
def GdU (D : va_G) (ad : Nat → Nat) (cy : Nat → ClassId) (U : State) : Prop := va_K D vwCl (tysA cy) U ∧ StrU ad U U.heap ∧ InjA ad
def QQ (D : va_G) (ad : Nat → Nat) (cy : Nat → ClassId) (R : Option Value → Sg → Prop) : Array Value → State → Outcome → State → Prop := fun _ st oc t =>
  (∃ (v : Option Value) (σ' : Sg), oc = .returned (v.map (eg_cv ad)) ∧ R v σ' ∧ va_P D vwCl (cellsA ad cy σ') t.heap) ∧ va_F (AA ad) st t
def Gd : List Cond := lw_tbl.filter goodWord
theorem Gd_in {w : Cond} {i : Nat} (h : lw_tbl[i]? = some w) (hg : goodWord w = true) : w ∈ Gd := List.mem_filter.mpr ⟨List.mem_of_getElem? h, hg⟩
theorem Gd_good : GoodIn Gd Gd := fun w h => ⟨h, good_of_word (List.mem_filter.mp h).2⟩
def wsM (ms : MS) : List Cond := Cond.code ms.1 ms.2.1 ms.2.2.1 ms.2.2.2.1 :: Gd
def stB (y : MethodName) : Bool := decide (y.cls = "java/lang/Math") || decide (y.cls = "java/lang/Integer") || (decide (y.cls = "DatedJarsModel") && (decide (y.name = "in") || decide (y.desc = "(Z)I") || decide (y.name = "has") || decide (y.name = "ones")))
/-- what the tables say of a method -/
def OkM (ms : MS) : Prop := Cond.code ms.1 ms.2.1 ms.2.2.1 ms.2.2.2.1 ∈ Gd ∧ Cond.initialized ms.1.cls ∈ Gd ∧ ((stB ms.1 = false → Cond.instanceMethod ms.1 ∈ Gd ∧ Cond.selects ms.1.cls ms.1 ms.1 ∈ Gd) ∧ (stB ms.1 = true → Cond.static ms.1 ∈ Gd)) ∧ plainName ms.1.cls = true ∧ (ms.1.cls ≠ "java/lang/invoke/MethodHandle" ∧ ms.1.cls ≠ "java/lang/invoke/VarHandle") ∧ ms.2.2.2.2.cells = 0 ∧ ms.2.2.2.2.slots = 0
def MetA (ms : MS) (av : List Value) (σ : Sg) (R : Option Value → Sg → Prop) : Prop := OkM ms ∧ ∀ (l : Launch) (D : va_G) (ad : Nat → Nat) (cy : Nat → ClassId),
  Met l ms.1 (wsM ms) ms.2.2.2.2 (va_Pc (av.map (eg_cv ad)) (fun U => GdU D ad cy U ∧ va_P D vwCl (cellsA ad cy σ) U.heap)) (QQ D ad cy R) 0 0 (AA ad)
def Cx (ms : MS) (p : Program) (s : State) (m : MethodId) (args : Array Value) (meth : Method) (c : Code) (D : va_G) (ad : Nat → Nat) (cy : Nat → ClassId) : Prop :=
  p.tables.exec = Jvm.exec ∧ c.code = ms.2.1 ∧ meth.sig.returnType = ms.2.2.2.1 ∧ c.maxLocals = ms.2.2.1 ∧ s.vm.findClass ms.1.cls = some m.cls ∧ (∀ w ∈ Gd, w.before args s = true) ∧ meth.locks = false ∧ va_K D vwCl (tysA cy) s ∧ StrU ad s s.heap ∧ InjA ad
def eg_lc (ad : Nat → Nat) (lv : Lv) : Lv := lv.map fun q => (q.1, eg_cv ad q.2)
/-- from this abstract state the method comes to its end with R -/
def V (ms : MS) (pc : Nat) (lv : Lv) (st : List Value) (σ : Sg) (R : Option Value → Sg → Prop) : Prop :=
  ∀ (p : Program) (l : Launch) (e : Env) (s : State) (m : MethodId) (args : Array Value) (below : List Frame) (meth : Method) (c : Code) (D : va_G) (ad : Nat → Nat) (cy : Nat → ClassId), Cx ms p s m args meth c D ad cy →
  ∀ (H : Heap) (locs : List Loc) (ls : Array Slot), va_P D vwCl (cellsA ad cy σ) H → va_S (AA ad) s.heap H locs → lv_has ls ms.2.2.1 (eg_lc ad lv) →
  W p l e ms.2.2.2.2 s m args below meth c H locs 0 0 (MQ below (QQ D ad cy R) args s 0 0 (AA ad)) (F0 m pc ls (st.map (eg_cv ad)))
/-- locals -/
def lget : Lv → Nat → Option Value
  | [], _ => none
  | (j, v) :: t, i => bif Nat.beq j i then some v else lget t i
def lset : Lv → Nat → Value → Lv
  | [], i, v => [(i, v)]
  | (j, u) :: t, i, v => bif Nat.beq j i then (i, v) :: t.filter (fun q => !(q.1 == i) && !(q.1 + 1 == i && q.2.category == 2)) else bif Nat.beq (j + 1) i && Nat.beq u.category 2 then lset t i v else (j, u) :: lset t i v
def lset2 : Lv → Nat → Value → Lv
  | [], i, v => [(i, v)]
  | (j, u) :: t, i, v => bif Nat.beq j i then (i, v) :: t.filter (fun q => !(q.1 == i) && (!(q.1 == i + 1) && !(q.1 + 1 == i && q.2.category == 2))) else bif Nat.beq j (i + 1) || (Nat.beq (j + 1) i && Nat.beq u.category 2) then lset2 t i v else (j, u) :: lset2 t i v
theorem lget_mem : ∀ {lv : Lv} {i : Nat} {v : Value}, lget lv i = some v → (i, v) ∈ lv
  | [], i, v, h => by simp [lget] at h
  | (j, u) :: t, i, v, h => by
    unfold lget at h
    cases hb : Nat.beq j i with
    | true =>
      rw [hb] at h
      have e : j = i := Nat.eq_of_beq_eq_true hb
      have h2 : u = v := by simpa using h
      subst e; subst h2
      exact List.mem_cons_self
    | false =>
      rw [hb] at h
      exact List.mem_cons_of_mem _ (lget_mem (by simpa using h))
theorem lset_mem : ∀ {lv : Lv} {i : Nat} {v : Value} {q : Nat × Value}, q ∈ lset lv i v → q ∈ (i, v) :: lv.filter (fun q => !(q.1 == i) && !(q.1 + 1 == i && q.2.category == 2))
  | [], i, v, q, h => by simpa [lset] using h
  | (j, u) :: t, i, v, q, h => by
    unfold lset at h
    cases hb : Nat.beq j i with
    | true =>
      rw [hb] at h
      have e : j = i := Nat.eq_of_beq_eq_true hb
      subst e
      simpa using h
    | false =>
      have e : ¬ j = i := Nat.ne_of_beq_eq_false hb
      rw [hb] at h
      cases hc : (Nat.beq (j + 1) i && Nat.beq u.category 2) with
      | true =>
        rw [hc] at h
        have := lset_mem (by simpa using h : q ∈ lset t i v)
        rcases List.mem_cons.mp this with r | r
        · exact List.mem_cons.mpr (Or.inl r)
        · refine List.mem_cons.mpr (Or.inr ?_)
          obtain ⟨r1, r2⟩ := List.mem_filter.mp r
          exact List.mem_filter.mpr ⟨List.mem_cons_of_mem _ r1, r2⟩
      | false =>
        rw [hc] at h
        rcases List.mem_cons.mp (by simpa using h : q ∈ (j, u) :: lset t i v) with r | r
        · subst r
          refine List.mem_cons.mpr (Or.inr (List.mem_filter.mpr ⟨List.mem_cons_self, ?_⟩))
          simp only [Bool.and_eq_false_iff] at hc
          simp only [Bool.and_eq_true, Bool.not_eq_true', beq_eq_false_iff_ne, ne_eq, Bool.and_eq_false_iff]
          refine ⟨e, ?_⟩
          rcases hc with k | k
          · exact Or.inl (Nat.ne_of_beq_eq_false k)
          · exact Or.inr (Nat.ne_of_beq_eq_false k)
        · have := lset_mem r
          rcases List.mem_cons.mp this with r | r
          · exact List.mem_cons.mpr (Or.inl r)
          · refine List.mem_cons.mpr (Or.inr ?_)
            obtain ⟨r1, r2⟩ := List.mem_filter.mp r
            exact List.mem_filter.mpr ⟨List.mem_cons_of_mem _ r1, r2⟩
theorem lset2_mem : ∀ {lv : Lv} {i : Nat} {v : Value} {q : Nat × Value}, q ∈ lset2 lv i v → q ∈ (i, v) :: lv.filter (fun q => !(q.1 == i) && (!(q.1 == i + 1) && !(q.1 + 1 == i && q.2.category == 2)))
  | [], i, v, q, h => by simpa [lset2] using h
  | (j, u) :: t, i, v, q, h => by
    unfold lset2 at h
    cases hb : Nat.beq j i with
    | true =>
      rw [hb] at h
      have e : j = i := Nat.eq_of_beq_eq_true hb
      subst e
      simpa using h
    | false =>
      have e : ¬ j = i := Nat.ne_of_beq_eq_false hb
      rw [hb] at h
      cases hc : (Nat.beq j (i + 1) || (Nat.beq (j + 1) i && Nat.beq u.category 2)) with
      | true =>
        rw [hc] at h
        have := lset2_mem (by simpa using h : q ∈ lset2 t i v)
        rcases List.mem_cons.mp this with r | r
        · exact List.mem_cons.mpr (Or.inl r)
        · refine List.mem_cons.mpr (Or.inr ?_)
          obtain ⟨r1, r2⟩ := List.mem_filter.mp r
          exact List.mem_filter.mpr ⟨List.mem_cons_of_mem _ r1, r2⟩
      | false =>
        rw [hc] at h
        rcases List.mem_cons.mp (by simpa using h : q ∈ (j, u) :: lset2 t i v) with r | r
        · subst r
          refine List.mem_cons.mpr (Or.inr (List.mem_filter.mpr ⟨List.mem_cons_self, ?_⟩))
          simp only [Bool.or_eq_false_iff, Bool.and_eq_false_iff] at hc
          simp only [Bool.and_eq_true, Bool.not_eq_true', beq_eq_false_iff_ne, ne_eq, Bool.and_eq_false_iff]
          refine ⟨e, Nat.ne_of_beq_eq_false hc.1, ?_⟩
          rcases hc.2 with k | k
          · exact Or.inl (Nat.ne_of_beq_eq_false k)
          · exact Or.inr (Nat.ne_of_beq_eq_false k)
        · have := lset2_mem r
          rcases List.mem_cons.mp this with r | r
          · exact List.mem_cons.mpr (Or.inl r)
          · refine List.mem_cons.mpr (Or.inr ?_)
            obtain ⟨r1, r2⟩ := List.mem_filter.mp r
            exact List.mem_filter.mpr ⟨List.mem_cons_of_mem _ r1, r2⟩
theorem lc_filter (ad : Nat → Nat) (lv : Lv) (P : Nat → Nat → Bool) : eg_lc ad (lv.filter fun q => P q.1 q.2.category) = (eg_lc ad lv).filter fun q => P q.1 q.2.category := by
  unfold eg_lc
  rw [List.filter_map]
  congr 1
  apply List.filter_congr
  intro q _
  simp [eg_cv_cat]
theorem lv_has.of {ls : Array Slot} {n : Nat} {l l' : Lv} (h : lv_has ls n l) (hs : ∀ q ∈ l', q ∈ l) : lv_has ls n l' := ⟨h.1, h.2.1, fun q hq => h.2.2 q (hs q hq)⟩
theorem lset_has {ls : Array Slot} {n i : Nat} {lv : Lv} {v : Value} {ad : Nat → Nat} (h : lv_has ls n ((i, eg_cv ad v) :: (eg_lc ad lv).filter (fun q => !(q.1 == i) && !(q.1 + 1 == i && q.2.category == 2)))) : lv_has ls n (eg_lc ad (lset lv i v)) := by
  refine h.of fun q hq => ?_
  obtain ⟨q0, h0, rfl⟩ := List.mem_map.mp hq
  have := lset_mem h0
  rw [← lc_filter ad lv (fun a b => !(a == i) && !(a + 1 == i && b == 2))]
  rcases List.mem_cons.mp this with r | r
  · subst r; exact List.mem_cons_self
  · exact List.mem_cons_of_mem _ (List.mem_map.mpr ⟨q0, r, rfl⟩)
theorem lset2_has {ls : Array Slot} {n i : Nat} {lv : Lv} {v : Value} {ad : Nat → Nat} (h : lv_has ls n ((i, eg_cv ad v) :: (eg_lc ad lv).filter (fun q => !(q.1 == i) && (!(q.1 == i + 1) && !(q.1 + 1 == i && q.2.category == 2))))) : lv_has ls n (eg_lc ad (lset2 lv i v)) := by
  refine h.of fun q hq => ?_
  obtain ⟨q0, h0, rfl⟩ := List.mem_map.mp hq
  have := lset2_mem h0
  rw [← lc_filter ad lv (fun a b => !(a == i) && (!(a == i + 1) && !(a + 1 == i && b == 2)))]
  rcases List.mem_cons.mp this with r | r
  · subst r; exact List.mem_cons_self
  · exact List.mem_cons_of_mem _ (List.mem_map.mpr ⟨q0, r, rfl⟩)
theorem lget_has {ls : Array Slot} {n i : Nat} {lv : Lv} {v : Value} {ad : Nat → Nat} (h : lv_has ls n (eg_lc ad lv)) (hg : lget lv i = some v) : ls[i]? = some (.val (eg_cv ad v)) :=
  h.2.2 (i, eg_cv ad v) (List.mem_map.mpr ⟨(i, v), lget_mem hg, rfl⟩)
