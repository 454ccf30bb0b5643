/-! ENGINE 2: what a program checks of the code tables -/
def ilen (ins : Instr) (w : Nat) : Nat := match ins with
  | .iload _ => 2 | .aload _ => 2 | .lload _ => 2 | .istore _ => 2 | .astore _ => 2 | .bipush _ => 2 | .ldc _ => 2
  | .sipush _ => 3 | .iinc _ _ => 3 | .ldc_w _ => 3 | .ldc2_w _ => 3 | .goto _ => 3 | .ifCond _ _ => 3 | .if_icmp _ _ => 3 | .getfield _ => 3 | .putfield _ => 3 | .invokevirtual _ => 3 | .invokestatic _ => 3
  | .tableswitch _ _ _ _ => w
  | .lookupswitch _ _ => w
  | _ => 1
def TTx (w : Nat) : u_T := match w with
  | 0 => TX0 | 1 => TX1 | 2 => TX2 | 3 => TX3 | 4 => TX4 | 5 => TX5 | 6 => TX6 | 7 => TX7 | _ => TX8
def TYx (w : Nat) : Nat → FieldType := match w with
  | 0 => tyX0 | 1 => tyX1 | 2 => tyX2 | 3 => tyX3 | 4 => tyX4 | 5 => tyX5 | 6 => tyX6 | 7 => tyX7 | _ => tyX8
def NNx (w : Nat) : Nat := match w with
  | 0 => 3 | 1 => 8 | 2 => 8 | 3 => 4 | 4 => 12 | 5 => 8 | 6 => 6 | 7 => 10 | _ => 28
def RRx (w : Nat) : String := match w with
  | 0 => RX0 | 1 => RX1 | 2 => RX2 | 3 => RX3 | 4 => RX4 | 5 => RX5 | 6 => RX6 | 7 => RX7 | _ => RX8
theorem cl_at {w : Nat} (h : w < 9) : vwCl[w]? = some (RRx w, TTx w, NNx w) := by
  match w, h with
  | 0, _ => rfl | 1, _ => rfl | 2, _ => rfl | 3, _ => rfl | 4, _ => rfl | 5, _ => rfl | 6, _ => rfl | 7, _ => rfl | 8, _ => rfl
theorem ty_at {w : Nat} (h : w < 9) : ∀ k, k < NNx w → parseFieldDescriptor (TTx w k).2.2.1 = some (TYx w k) := by
  match w, h with
  | 0, _ => exact tyX0_ok | 1, _ => exact tyX1_ok | 2, _ => exact tyX2_ok | 3, _ => exact tyX3_ok | 4, _ => exact tyX4_ok | 5, _ => exact tyX5_ok | 6, _ => exact tyX6_ok | 7, _ => exact tyX7_ok | 8, _ => exact tyX8_ok
theorem nm_at {w : Nat} (h : w < 9) : ∀ a, a < NNx w → ∀ b, b < NNx w → a ≠ b → (TTx w a).2.1 ≠ (TTx w b).2.1 := by
  match w, h with
  | 0, _ => exact nmX0 | 1, _ => exact nmX1 | 2, _ => exact nmX2 | 3, _ => exact nmX3 | 4, _ => exact nmX4 | 5, _ => exact nmX5 | 6, _ => exact nmX6 | 7, _ => exact nmX7 | 8, _ => exact nmX8
def roomB (ms cm : MS) : Bool := Nat.ble (cm.2.2.2.2.frames + 1) ms.2.2.2.2.frames && Nat.ble (8 + (cm.2.2.1 + 11) + cm.2.2.2.2.locals) ms.2.2.2.2.locals
def parB (cm : MS) (n : Nat) : Bool := decide ((parseMethodDescriptor cm.1.desc).map (fun d => d.parameters.length) = some n)
def chkX (ms : MS) (ins : Instr) (x y w : Nat) (z : Int32) (zl : Int64) (cm : MS) (pc : Nat) : Bool := match ins with
  | .iload_n k => Nat.beq k.val y
  | .iload k => Nat.beq k y
  | .aload_n k => Nat.beq k.val y
  | .aload k => Nat.beq k y
  | .lload_n k => Nat.beq k.val y
  | .lload k => Nat.beq k y
  | .istore_n k => Nat.beq k.val y && Nat.ble (y + 1) ms.2.2.1
  | .istore k => Nat.beq k y && Nat.ble (y + 1) ms.2.2.1
  | .astore_n k => Nat.beq k.val y && Nat.ble (y + 1) ms.2.2.1
  | .astore k => Nat.beq k y && Nat.ble (y + 1) ms.2.2.1
  | .lstore_n k => Nat.beq k.val y && Nat.ble (y + 2) ms.2.2.1
  | .iinc k n => Nat.beq k y && Nat.ble (y + 1) ms.2.2.1 && decide (Int32.ofInt n = z)
  | .iconst n => decide (Int32.ofInt n = z)
  | .bipush n => decide ((Int8.ofInt n).toInt32 = z)
  | .sipush n => decide ((Int16.ofInt n).toInt32 = z)
  | .lconst n => decide (Int64.ofNat (n : Nat) = zl)
  | .ldc idx => bif Nat.beq w 97 then decide (ms.1.cls = "DatedJars$Reader") && Nat.ble (y + 1) 6 && Nat.beq (eg_idx.getD y 0) idx else decide (lw_tbl[x]? = some (.constant ms.1.cls idx z))
  | .ldc_w idx => decide (lw_tbl[x]? = some (.constant ms.1.cls idx z))
  | .ldc2_w idx => decide (lw_tbl[x]? = some (.constantLong ms.1.cls idx zl))
  | .goto off => decide ((pc : Int) + off = (x : Int))
  | .ifCond _ off => decide ((pc : Int) + off = (x : Int))
  | .if_icmp _ off => decide ((pc : Int) + off = (x : Int))
  | .tableswitch d lo hi offs => decide (0 ≤ (pc : Int) + d) && offs.toList.all (fun o => decide (0 ≤ (pc : Int) + o)) && decide (lo + offs.size = hi + 1)
  | .lookupswitch d ps => decide (0 ≤ (pc : Int) + d) && ps.toList.all (fun o => decide (0 ≤ (pc : Int) + o.2)) && (ps.toList.zip (ps.toList.drop 1)).all (fun (a, next) => a.1 < next.1)
  | .getfield idx => Nat.ble (w + 1) 9 && Nat.ble (y + 1) (NNx w) && decide (lw_tbl[x]? = some (.fieldLink ms.1.cls idx (TTx w y).1 (TTx w y).2.1 (TTx w y).2.2.1))
  | .putfield idx => Nat.ble (w + 1) 9 && Nat.ble (y + 1) (NNx w) && decide (lw_tbl[x]? = some (.fieldLink ms.1.cls idx (TTx w y).1 (TTx w y).2.1 (TTx w y).2.2.1)) && !(TTx w y).2.2.2 && decide (TYx w y = bif Nat.beq w 6 && Nat.beq y 5 then .boolean else .int)
  | .invokevirtual idx => decide (lw_tbl[x]? = some (.methodLink ms.1.cls idx cm.1)) && Nat.ble 1 y && parB cm (y - 1) && roomB ms cm && !stB cm.1 && (bif Nat.beq w 99 then decide (cm.1.cls = "java/lang/String") else Nat.ble (w + 1) 9 && decide (RRx w = cm.1.cls))
  | .invokestatic idx => bif Nat.beq w 98 then decide (lw_tbl[x]? = some (.methodLink ms.1.cls idx arraycopyName)) && Nat.ble 1 ms.2.2.2.2.frames && Nat.ble 26 ms.2.2.2.2.locals else bif Nat.beq w 96 then decide (lw_tbl[x]? = some (.methodLink ms.1.cls idx Lib.Math.min.name)) && Nat.ble 1 ms.2.2.2.2.frames && Nat.ble 21 ms.2.2.2.2.locals else bif Nat.beq w 95 then decide (lw_tbl[x]? = some (.methodLink ms.1.cls idx Lib.Math.max.name)) && Nat.ble 1 ms.2.2.2.2.frames && Nat.ble 21 ms.2.2.2.2.locals else decide (lw_tbl[x]? = some (.methodLink ms.1.cls idx cm.1)) && parB cm y && roomB ms cm && stB cm.1
  | _ => true
def chkE (ms : MS) (pc : Nat) (e : En) : Bool := match e with
  | (ins, npc, x, y, w, z, zl, cm) => decide (decode ms.2.1 pc = .ok (ins, ilen ins w)) && Nat.beq npc (pc + ilen ins w) && chkX ms ins x y w z zl cm pc
def chkC (ms : MS) (cd : Cd) : Bool := cd.all fun q => q.2.all fun r => chkE ms r.1 r.2
