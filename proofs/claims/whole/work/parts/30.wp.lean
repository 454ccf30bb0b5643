/-! ENGINE 2: the condition of one instruction, and of a stretch -/
def gfV (σ : Sg) (a w y : Nat) : Option Value := bif Nat.ble NC a then none else match shp a with
  | (0, ci, sl) => bif Nat.beq ci w then (match eg_nth sl y with
    | some none => some (.int (σ a y))
    | some (some r) => some (.ref r)
    | none => none) else none
  | _ => none
/-- an int field of a cell -/
def pfB (a w y : Nat) : Bool := bif Nat.ble NC a then false else match shp a with
  | (0, ci, sl) => bif Nat.beq ci w then (match eg_nth sl y with
    | some none => true
    | _ => false) else false
  | _ => false
def aOK (a t : Nat) (i : Int32) : Prop := a < NC ∧ (shp a).1 = t ∧ vp_in i (shp a).2.1
def popA : Nat → List Value → List Value → Option (List Value × List Value)
  | 0, st, acc => some (acc, st)
  | n + 1, v :: st, acc => popA n st (v :: acc)
  | _ + 1, [], _ => none
def stkB : List Value → Nat
  | [] => 0
  | v :: t => v.category + stkB t
def rcvB (b w : Nat) : Bool := bif Nat.beq w 99 then (Nat.ble 1000 b && Nat.ble b 1005) else bif Nat.ble NC b then false else match shp b with
  | (0, ci, _) => Nat.beq ci w
  | _ => false
def vpush (v : Option Value) (r : List Value) : List Value := match v with
  | some u => u :: r
  | none => r
def acOK (a b : Nat) (sp dp n : Int32) : Prop := (a < NC ∧ (shp a).1 = 1) ∧ (b < NC ∧ (shp b).1 = 1) ∧ ¬ sp < 0 ∧ ¬ dp < 0 ∧ ¬ n < 0 ∧ sp.toNatClampNeg + n.toNatClampNeg ≤ (shp a).2.1 ∧ dp.toNatClampNeg + n.toNatClampNeg ≤ (shp b).2.1
def swAll (x : Int32) (pc : Nat) (K : Nat → Prop) : List Int → Int → Prop
  | [], _ => True
  | o :: os, v => (x.toInt = v → K ((pc : Int) + o).toNat) ∧ swAll x pc K os (v + 1)
def lkAll (x : Int32) (pc : Nat) (K : Nat → Prop) (d : Int) : List (Int × Int) → Prop
  | [] => K ((pc : Int) + d).toNat
  | (k, o) :: t => (x.toInt = k → K ((pc : Int) + o).toNat) ∧ (¬ x.toInt = k → lkAll x pc K d t)
def wpI (ins : Instr) (npc x y w : Nat) (z : Int32) (zl : Int64) (cm : MS) (ret : Option FieldType) (pc : Nat) (lv : Lv) (st : List Value) (σ : Sg) (K : Nat → Lv → List Value → Sg → Prop) (R : Option Value → Sg → Prop) : Prop :=
  match ins with
  | .iload_n _ => match lget lv y with | some (.int a) => K npc lv (.int a :: st) σ | _ => False
  | .iload _ => match lget lv y with | some (.int a) => K npc lv (.int a :: st) σ | _ => False
  | .aload_n _ => match lget lv y with | some (.ref a) => K npc lv (.ref a :: st) σ | _ => False
  | .aload _ => match lget lv y with | some (.ref a) => K npc lv (.ref a :: st) σ | _ => False
  | .lload_n _ => match lget lv y with | some (.long a) => K npc lv (.long a :: st) σ | _ => False
  | .lload _ => match lget lv y with | some (.long a) => K npc lv (.long a :: st) σ | _ => False
  | .istore_n _ => match st with | .int a :: r => K npc (lset lv y (.int a)) r σ | _ => False
  | .istore _ => match st with | .int a :: r => K npc (lset lv y (.int a)) r σ | _ => False
  | .astore_n _ => match st with | .ref a :: r => K npc (lset lv y (.ref a)) r σ | _ => False
  | .astore _ => match st with | .ref a :: r => K npc (lset lv y (.ref a)) r σ | _ => False
  | .lstore_n _ => match st with | .long a :: r => K npc (lset2 lv y (.long a)) r σ | _ => False
  | .iinc _ _ => match lget lv y with | some (.int a) => K npc (lset lv y (.int (a + z))) st σ | _ => False
  | .iconst _ => K npc lv (.int z :: st) σ
  | .bipush _ => K npc lv (.int z :: st) σ
  | .sipush _ => K npc lv (.int z :: st) σ
  | .lconst _ => K npc lv (.long zl :: st) σ
  | .ldc _ => bif Nat.beq w 97 then K npc lv (.ref (1000 + y) :: st) σ else K npc lv (.int z :: st) σ
  | .ldc_w _ => K npc lv (.int z :: st) σ
  | .ldc2_w _ => K npc lv (.long zl :: st) σ
  | .iadd => match st with | .int b :: .int a :: r => K npc lv (.int (a + b) :: r) σ | _ => False
  | .isub => match st with | .int b :: .int a :: r => K npc lv (.int (a - b) :: r) σ | _ => False
  | .imul => match st with | .int b :: .int a :: r => K npc lv (.int (a * b) :: r) σ | _ => False
  | .idiv => match st with | .int b :: .int a :: r => ¬ b = 0 ∧ K npc lv (.int (a / b) :: r) σ | _ => False
  | .irem => match st with | .int b :: .int a :: r => ¬ b = 0 ∧ K npc lv (.int (a - a / b * b) :: r) σ | _ => False
  | .ineg => match st with | .int a :: r => K npc lv (.int (-a) :: r) σ | _ => False
  | .iand => match st with | .int b :: .int a :: r => K npc lv (.int (a &&& b) :: r) σ | _ => False
  | .ior => match st with | .int b :: .int a :: r => K npc lv (.int (a ||| b) :: r) σ | _ => False
  | .ixor => match st with | .int b :: .int a :: r => K npc lv (.int (a ^^^ b) :: r) σ | _ => False
  | .ishl => match st with | .int b :: .int a :: r => K npc lv (.int (a <<< (b &&& 31)) :: r) σ | _ => False
  | .ishr => match st with | .int b :: .int a :: r => K npc lv (.int (a >>> (b &&& 31)) :: r) σ | _ => False
  | .iushr => match st with | .int b :: .int a :: r => K npc lv (.int (a.toUInt32 >>> (b.toUInt32 &&& Int32.toUInt32 31)).toInt32 :: r) σ | _ => False
  | .i2l => match st with | .int a :: r => K npc lv (.long a.toInt64 :: r) σ | _ => False
  | .l2i => match st with | .long a :: r => K npc lv (.int a.toInt32 :: r) σ | _ => False
  | .i2b => match st with | .int a :: r => K npc lv (.int a.toInt8.toInt32 :: r) σ | _ => False
  | .ladd => match st with | .long b :: .long a :: r => K npc lv (.long (a + b) :: r) σ | _ => False
  | .lmul => match st with | .long b :: .long a :: r => K npc lv (.long (a * b) :: r) σ | _ => False
  | .land => match st with | .long b :: .long a :: r => K npc lv (.long (a &&& b) :: r) σ | _ => False
  | .lor => match st with | .long b :: .long a :: r => K npc lv (.long (a ||| b) :: r) σ | _ => False
  | .lrem => match st with | .long b :: .long a :: r => ¬ b = 0 ∧ K npc lv (.long (a - a / b * b) :: r) σ | _ => False
  | .lshl => match st with | .int b :: .long a :: r => K npc lv (.long (a <<< (b.toInt64 &&& 63)) :: r) σ | _ => False
  | .lshr => match st with | .int b :: .long a :: r => K npc lv (.long (a >>> (b.toInt64 &&& 63)) :: r) σ | _ => False
  | .lushr => match st with | .int b :: .long a :: r => K npc lv (.long (a.toUInt64 >>> (b.toInt64.toUInt64 &&& Int64.toUInt64 63)).toInt64 :: r) σ | _ => False
  | .lcmp => match st with | .long b :: .long a :: r => K npc lv (.int (lg_cmp a b) :: r) σ | _ => False
  | .dup => match st with | a :: r => bif Nat.beq a.category 1 then K npc lv (a :: a :: r) σ else False | _ => False
  | .pop => match st with | a :: r => bif Nat.beq a.category 1 then K npc lv r σ else False | _ => False
  | .dup2 => match st with | a :: b :: r => bif Nat.beq a.category 1 && Nat.beq b.category 1 then K npc lv (a :: b :: a :: b :: r) σ else False | _ => False
  | .goto _ => K x lv st σ
  | .ifCond .eq _ => match st with | .int a :: r => (a = 0 → K x lv r σ) ∧ (¬ a = 0 → K npc lv r σ) | _ => False
  | .ifCond .ne _ => match st with | .int a :: r => (¬ a = 0 → K x lv r σ) ∧ (a = 0 → K npc lv r σ) | _ => False
  | .ifCond .lt _ => match st with | .int a :: r => (a < 0 → K x lv r σ) ∧ (¬ a < 0 → K npc lv r σ) | _ => False
  | .ifCond .ge _ => match st with | .int a :: r => (0 ≤ a → K x lv r σ) ∧ (¬ 0 ≤ a → K npc lv r σ) | _ => False
  | .ifCond .gt _ => match st with | .int a :: r => (0 < a → K x lv r σ) ∧ (¬ 0 < a → K npc lv r σ) | _ => False
  | .ifCond .le _ => match st with | .int a :: r => (a ≤ 0 → K x lv r σ) ∧ (¬ a ≤ 0 → K npc lv r σ) | _ => False
  | .if_icmp .eq _ => match st with | .int b :: .int a :: r => (a = b → K x lv r σ) ∧ (¬ a = b → K npc lv r σ) | _ => False
  | .if_icmp .ne _ => match st with | .int b :: .int a :: r => (¬ a = b → K x lv r σ) ∧ (a = b → K npc lv r σ) | _ => False
  | .if_icmp .lt _ => match st with | .int b :: .int a :: r => (a < b → K x lv r σ) ∧ (¬ a < b → K npc lv r σ) | _ => False
  | .if_icmp .ge _ => match st with | .int b :: .int a :: r => (b ≤ a → K x lv r σ) ∧ (¬ b ≤ a → K npc lv r σ) | _ => False
  | .if_icmp .gt _ => match st with | .int b :: .int a :: r => (b < a → K x lv r σ) ∧ (¬ b < a → K npc lv r σ) | _ => False
  | .if_icmp .le _ => match st with | .int b :: .int a :: r => (a ≤ b → K x lv r σ) ∧ (¬ a ≤ b → K npc lv r σ) | _ => False
  | .tableswitch d lo hi offs => match st with | .int a :: r => (a.toInt < lo ∨ hi < a.toInt → K ((pc : Int) + d).toNat lv r σ) ∧ swAll a pc (fun t => K t lv r σ) offs.toList lo | _ => False
  | .lookupswitch d ps => match st with | .int a :: r => lkAll a pc (fun t => K t lv r σ) d ps.toList | _ => False
  | .getfield _ => match st with
    | .ref a :: r => match gfV σ a w y with | some v => K npc lv (v :: r) σ | none => False
    | _ => False
  | .putfield _ => match st with
    | .int v :: .ref a :: r => bif pfB a w y then (bif Nat.beq w 6 && Nat.beq y 5 then ((v = 0 ∨ v = 1) ∧ K npc lv r (sgu σ a y v)) else K npc lv r (sgu σ a y v)) else False
    | _ => False
  | .iaload => match st with | .int i :: .ref a :: r => aOK a 1 i ∧ ∀ v : Int32, v = σ a i.toNatClampNeg → K npc lv (.int v :: r) σ | _ => False
  | .iastore => match st with | .int v :: .int i :: .ref a :: r => aOK a 1 i ∧ ∀ σ' : Sg, σ' = sgu σ a i.toNatClampNeg v → K npc lv r σ' | _ => False
  | .baload => match st with | .int i :: .ref a :: r => aOK a (bif Nat.beq (shp a).1 2 then 2 else 3) i ∧ ∀ v : Int32, v = σ a i.toNatClampNeg → K npc lv (.int v :: r) σ | _ => False
  | .bastore => match st with | .int v :: .int i :: .ref a :: r => aOK a (bif Nat.beq (shp a).1 2 then 2 else 3) i ∧ ∀ σ' : Sg, σ' = sgu σ a i.toNatClampNeg (vp_nar (bif Nat.beq (shp a).1 2 then .byte else .boolean) v) → K npc lv r σ' | _ => False
  | .aaload => match st with | .int i :: .ref a :: r => aOK a (bif Nat.beq (shp a).1 4 then 4 else 5) i ∧ K npc lv (.ref (eg_rb (shp a).2.2 + eg_rs (shp a).2.2 * i.toNatClampNeg) :: r) σ | _ => False
  | .arraylength => match st with | .ref a :: r => bif Nat.ble NC a then False else bif Nat.beq (shp a).1 1 then K npc lv (.int (Int32.ofNat (shp a).2.1) :: r) σ else False | _ => False
  | .invokevirtual _ => match popA y st [] with
    | some (.ref b :: as, r) => bif rcvB b w && Nat.ble (stkB r) 8 then MetA cm (.ref b :: as) σ (fun v σ' => K npc lv (vpush v r) σ') else False
    | _ => False
  | .invokestatic _ => bif Nat.beq w 98 then (match st with
      | .int n :: .int dp :: .ref b :: .int sp :: .ref a :: r => bif Nat.ble (stkB r) 8 then acOK a b sp dp n ∧ K npc lv r (sgc σ b (va_cpy (σ a) (σ b) sp.toNatClampNeg dp.toNatClampNeg n.toNatClampNeg)) else False
      | _ => False) else bif Nat.beq w 96 then (match st with
      | .int b :: .int a :: r => bif Nat.ble (stkB r) 8 then K npc lv (.int (if b < a then b else a) :: r) σ else False
      | _ => False) else bif Nat.beq w 95 then (match st with
      | .int b :: .int a :: r => bif Nat.ble (stkB r) 8 then K npc lv (.int (if a < b then b else a) :: r) σ else False
      | _ => False) else (match popA y st [] with
      | some (as, r) => bif Nat.ble (stkB r) 8 then MetA cm as σ (fun v σ' => K npc lv (vpush v r) σ') else False
      | _ => False)
  | .ireturn => match st with
    | [.int a] => match ret with
      | some .int => R (some (.int a)) σ
      | some .boolean => (a = 0 ∨ a = 1) ∧ R (some (.int a)) σ
      | _ => False
    | _ => False
  | .return_ => match st with
    | [] => match ret with
      | none => R none σ
      | _ => False
    | _ => False
  | _ => False
def fnd1 (pc : Nat) : List (Nat × En) → Option En
  | [] => none
  | (k, e) :: t => bif Nat.beq k pc then some e else fnd1 pc t
def fnd2 (pc : Nat) : Cd → Option En
  | [] => none
  | (u, l) :: t => bif Nat.ble pc u then fnd1 pc l else fnd2 pc t
/-- the condition of a stretch from pc to the stops -/
def wpB (ms : MS) (cd : Cd) (stops : List Nat) (R : Option Value → Sg → Prop) : Nat → Nat → Lv → List Value → Sg → Prop
  | 0, _, _, _, _ => False
  | n + 1, pc, lv, st, σ => match fnd2 pc cd with
    | none => False
    | some (ins, npc, x, y, w, z, zl, cm) => wpI ins npc x y w z zl cm ms.2.2.2.1 pc lv st σ (fun pc' lv' st' σ' => bif stops.elem pc' then V ms pc' lv' st' σ' R else wpB ms cd stops R n pc' lv' st' σ') R
