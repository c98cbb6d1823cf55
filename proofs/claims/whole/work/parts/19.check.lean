/-! The check of a method's mini code against its bytes, and the induction. -/
def mm_is (cc : ByteArray) (pc : Nat) (i : Instr) (n : Nat) : Bool := match decode cc pc with
  | .ok q => decide (q.1 = i) && Nat.beq q.2 n
  | _ => false
theorem mm_is_eq {cc : ByteArray} {pc : Nat} {i : Instr} {n : Nat} (h : mm_is cc pc i n = true) : decode cc pc = .ok (i, n) := by
  unfold mm_is at h
  split at h
  · next q hq =>
    simp only [Bool.and_eq_true, decide_eq_true_eq] at h
    rw [hq]
    congr 1
    exact Prod.ext h.1 (Nat.eq_of_beq_eq_true h.2)
  · cases h
def mm_op (cc : ByteArray) (pc : Nat) : Instr × Nat := match decode cc pc with
  | .ok q => q
  | _ => (.nop, 0)
theorem mm_op_eq {cc : ByteArray} {pc : Nat} {i : Instr} {n : Nat} (h : mm_op cc pc = (i, n)) (hn : n ≠ 0) : decode cc pc = .ok (i, n) := by
  unfold mm_op at h
  split at h
  · next q hq => rw [hq, h]
  · cases h; exact absurd rfl hn
def mm_has (pool : List (Nat × Instr)) (i : Nat) (x : Instr) : Bool := pool.any (fun q => Nat.beq q.1 i && decide (q.2 = x))
theorem mm_has_mem {pool : List (Nat × Instr)} {i : Nat} {x : Instr} (h : mm_has pool i x = true) : (i, x) ∈ pool := by
  unfold mm_has at h
  obtain ⟨q, hq, h⟩ := List.any_eq_true.mp h
  simp only [Bool.and_eq_true, decide_eq_true_eq] at h
  have e : q = (i, x) := Prod.ext (Nat.eq_of_beq_eq_true h.1) h.2
  rw [← e]; exact hq
def mm_nx : List (Nat × Instr) → Nat
  | [] => 1000000
  | q :: _ => q.1
def mm_rt (rt : Option FieldType) (k : Nat) : Bool := match k, rt with
  | 0, some .int => true
  | 1, some .boolean => true
  | 2, some .char => true
  | 3, some .byte => true
  | 4, some .long => true
  | 5, some (.object _) => true
  | 5, some (.array _) => true
  | 6, none => true
  | _, _ => false
def mm_tsw (pc : Nat) (lo : Int) : List Int → List (Int × Int)
  | [] => []
  | o :: os => (lo, (pc : Int) + o) :: mm_tsw pc (lo + 1) os
def mm_ck (lt : List mm_T) (pool : List (Nat × Instr)) (isI : Bool) (rt : Option FieldType) (cc : ByteArray) (nL pc nx : Nat) : Instr → Bool
  | .iconst n => decide (-2147483648 ≤ n ∧ n < 2147483648) && ((mm_is cc pc (.iconst n) 1 && Nat.beq nx (pc + 1)) || ((mm_is cc pc (.bipush n) 2 && (Nat.beq nx (pc + 2) && decide (-128 ≤ n ∧ n < 128))) || ((mm_is cc pc (.sipush n) 3 && (Nat.beq nx (pc + 3) && decide (-32768 ≤ n ∧ n < 32768))) || (match mm_op cc pc with
    | (.ldc i, 2) => mm_has pool i (.iconst n) && Nat.beq nx (pc + 2)
    | (.ldc_w i, 3) => mm_has pool i (.iconst n) && Nat.beq nx (pc + 3)
    | (.getstatic i, 3) => decide (n = 1) && (mm_has pool i .nop && Nat.beq nx (pc + 3))
    | _ => false))))
  | .jsr n => decide (-9223372036854775808 ≤ n ∧ n < 9223372036854775808) && (match mm_op cc pc with
    | (.lconst q, 1) => decide (((q : Nat) : Int) = n) && Nat.beq nx (pc + 1)
    | (.ldc2_w i, 3) => mm_has pool i (.jsr n) && Nat.beq nx (pc + 3)
    | _ => false)
  | .sipush n => (decide (n = 0) && (mm_is cc pc .aconst_null 1 && Nat.beq nx (pc + 1))) || (match mm_op cc pc with
    | (.ldc i, 2) => mm_has pool i (.sipush n) && Nat.beq nx (pc + 2)
    | _ => false)
  | .getstatic _ => (match mm_op cc pc with
    | (.getstatic i, 3) => mm_has pool i .pop2 && Nat.beq nx (pc + 3)
    | _ => false)
  | .iload n => (mm_is cc pc (.iload n) 2 && Nat.beq nx (pc + 2)) || (match mm_op cc pc with
    | (.iload_n k, 1) => Nat.beq k n && Nat.beq nx (pc + 1)
    | _ => false)
  | .lload n => (mm_is cc pc (.lload n) 2 && Nat.beq nx (pc + 2)) || (match mm_op cc pc with
    | (.lload_n k, 1) => Nat.beq k n && Nat.beq nx (pc + 1)
    | _ => false)
  | .aload n => (mm_is cc pc (.aload n) 2 && Nat.beq nx (pc + 2)) || (match mm_op cc pc with
    | (.aload_n k, 1) => Nat.beq k n && Nat.beq nx (pc + 1)
    | _ => false)
  | .istore n => Nat.blt n nL && ((mm_is cc pc (.istore n) 2 && Nat.beq nx (pc + 2)) || (match mm_op cc pc with
    | (.istore_n k, 1) => Nat.beq k n && Nat.beq nx (pc + 1)
    | _ => false))
  | .astore n => Nat.blt n nL && ((mm_is cc pc (.astore n) 2 && Nat.beq nx (pc + 2)) || (match mm_op cc pc with
    | (.astore_n k, 1) => Nat.beq k n && Nat.beq nx (pc + 1)
    | _ => false))
  | .lstore n => Nat.blt (n + 1) nL && ((mm_is cc pc (.lstore n) 2 && Nat.beq nx (pc + 2)) || (match mm_op cc pc with
    | (.lstore_n k, 1) => Nat.beq k n && Nat.beq nx (pc + 1)
    | _ => false))
  | .iinc n k => Nat.blt n nL && (mm_is cc pc (.iinc n k) 3 && Nat.beq nx (pc + 3))
  | .goto t => (match mm_op cc pc with
    | (.goto off, 3) => decide ((pc : Int) + off = t ∧ 0 ≤ t)
    | _ => false)
  | .if_icmp c t => (match mm_op cc pc with
    | (.if_icmp c2 off, 3) => decide (c2 = c) && (decide ((pc : Int) + off = t ∧ 0 ≤ t) && Nat.beq nx (pc + 3))
    | _ => false)
  | .ifCond c t => (match mm_op cc pc with
    | (.ifCond c2 off, 3) => decide (c2 = c) && (decide ((pc : Int) + off = t ∧ 0 ≤ t) && Nat.beq nx (pc + 3))
    | _ => false)
  | .ifnull t => (match mm_op cc pc with
    | (.ifnull off, 3) => decide ((pc : Int) + off = t ∧ 0 ≤ t) && Nat.beq nx (pc + 3)
    | _ => false)
  | .ifnonnull t => (match mm_op cc pc with
    | (.ifnonnull off, 3) => decide ((pc : Int) + off = t ∧ 0 ≤ t) && Nat.beq nx (pc + 3)
    | _ => false)
  | .lookupswitch d ps => decide (0 ≤ d) && (ps.toList.all (fun q => decide (0 ≤ q.2)) && (match mm_op cc pc with
    | (.tableswitch d2 lo hi offs, len) => decide ((pc : Int) + d2 = d ∧ hi + 1 = lo + (offs.size : Int) ∧ len ≠ 0) && decide (ps.toList = mm_tsw pc lo offs.toList)
    | (.lookupswitch d2 ps2, len) => decide ((pc : Int) + d2 = d ∧ len ≠ 0) && (decide (ps.toList = ps2.toList.map (fun q => (q.1, (pc : Int) + q.2))) && (ps2.toList.zip (ps2.toList.drop 1)).all (fun (a, next) => decide (a.1 < next.1)))
    | _ => false))
  | .getfield x => (match mm_op cc pc with
    | (.getfield i, 3) => mm_has pool i (.getfield x) && Nat.beq nx (pc + 3)
    | _ => false)
  | .putfield x => (match mm_op cc pc with
    | (.putfield i, 3) => (mm_has pool i (.putfield x) || (isI && mm_has pool i (.ret x))) && Nat.beq nx (pc + 3)
    | _ => false)
  | .putstatic x => (match mm_op cc pc with
    | (.putfield i, 3) => mm_has pool i (.putstatic x) && Nat.beq nx (pc + 3)
    | _ => false)
  | .ireturn => mm_is cc pc .ireturn 1 && mm_rt rt 0
  | .freturn => mm_is cc pc .ireturn 1 && mm_rt rt 1
  | .dreturn => mm_is cc pc .ireturn 1 && mm_rt rt 2
  | .fneg => mm_is cc pc .ireturn 1 && mm_rt rt 3
  | .lreturn => mm_is cc pc .lreturn 1 && mm_rt rt 4
  | .areturn => mm_is cc pc .areturn 1 && mm_rt rt 5
  | .return_ => mm_is cc pc .return_ 1 && mm_rt rt 6
  | .new x => (match mm_op cc pc with
    | (.new i, 3) => mm_has pool i (.new x) && Nat.beq nx (pc + 3)
    | _ => false)
  | .anewarray k => (match mm_op cc pc with
    | (.newarray aty, 2) => ((Nat.beq k 50 && decide (newarray.typeOf aty = .int)) || ((Nat.beq k 51 && decide (newarray.typeOf aty = .short)) || ((Nat.beq k 52 && decide (newarray.typeOf aty = .boolean)) || (Nat.beq k 53 && decide (newarray.typeOf aty = .long))))) && Nat.beq nx (pc + 2)
    | (.anewarray i, 3) => mm_has pool i (.anewarray k) && Nat.beq nx (pc + 3)
    | _ => false)
  | .daload => (match mm_op cc pc with
    | (.invokestatic i, 3) => mm_has pool i .daload && Nat.beq nx (pc + 3)
    | _ => false)
  | .dadd => (match mm_op cc pc with
    | (.invokestatic i, 3) => mm_has pool i .dadd && Nat.beq nx (pc + 3)
    | _ => false)
  | .dsub => (match mm_op cc pc with
    | (.invokestatic i, 3) => mm_has pool i .dsub && Nat.beq nx (pc + 3)
    | _ => false)
  | .checkcast c => (match mm_op cc pc with
    | (.invokespecial i, 3) => (mm_has pool i .pop && (Nat.ble 1 c && Nat.ble c 13)) && Nat.beq nx (pc + 3)
    | _ => false)
  | .invokestatic x => (match mm_op cc pc with
    | (.invokestatic i, 3) => mm_has pool i (.invokestatic x) && Nat.beq nx (pc + 3)
    | _ => false) && (Nat.ble (Nat.mod (Nat.div x 256) 16) 2 || Nat.beq (Nat.mod (Nat.div x 256) 16) 9)
  | .invokevirtual x => (match mm_op cc pc with
    | (.invokevirtual i, 3) => mm_has pool i (.invokevirtual x) && Nat.beq nx (pc + 3)
    | (.invokespecial i, 3) => mm_has pool i (.invokespecial x) && Nat.beq nx (pc + 3)
    | _ => false) && (Nat.ble (Nat.mod (Nat.div x 256) 16) 2 || Nat.beq (Nat.mod (Nat.div x 256) 16) 9)
  | .jsr_w j => Nat.beq nx pc && Nat.beq pc (mm_row lt j.toNat).1
  | .iadd => mm_is cc pc .iadd 1 && Nat.beq nx (pc + 1)
  | .isub => mm_is cc pc .isub 1 && Nat.beq nx (pc + 1)
  | .imul => mm_is cc pc .imul 1 && Nat.beq nx (pc + 1)
  | .idiv => mm_is cc pc .idiv 1 && Nat.beq nx (pc + 1)
  | .irem => mm_is cc pc .irem 1 && Nat.beq nx (pc + 1)
  | .ineg => mm_is cc pc .ineg 1 && Nat.beq nx (pc + 1)
  | .iand => mm_is cc pc .iand 1 && Nat.beq nx (pc + 1)
  | .ior => mm_is cc pc .ior 1 && Nat.beq nx (pc + 1)
  | .ixor => mm_is cc pc .ixor 1 && Nat.beq nx (pc + 1)
  | .ishl => mm_is cc pc .ishl 1 && Nat.beq nx (pc + 1)
  | .ishr => mm_is cc pc .ishr 1 && Nat.beq nx (pc + 1)
  | .iushr => mm_is cc pc .iushr 1 && Nat.beq nx (pc + 1)
  | .i2l => mm_is cc pc .i2l 1 && Nat.beq nx (pc + 1)
  | .l2i => mm_is cc pc .l2i 1 && Nat.beq nx (pc + 1)
  | .i2s => mm_is cc pc .i2s 1 && Nat.beq nx (pc + 1)
  | .i2b => mm_is cc pc .i2b 1 && Nat.beq nx (pc + 1)
  | .i2c => mm_is cc pc .i2c 1 && Nat.beq nx (pc + 1)
  | .ladd => mm_is cc pc .ladd 1 && Nat.beq nx (pc + 1)
  | .lsub => mm_is cc pc .lsub 1 && Nat.beq nx (pc + 1)
  | .lmul => mm_is cc pc .lmul 1 && Nat.beq nx (pc + 1)
  | .lneg => mm_is cc pc .lneg 1 && Nat.beq nx (pc + 1)
  | .lcmp => mm_is cc pc .lcmp 1 && Nat.beq nx (pc + 1)
  | .dup => mm_is cc pc .dup 1 && Nat.beq nx (pc + 1)
  | .dup2 => mm_is cc pc .dup2 1 && Nat.beq nx (pc + 1)
  | .pop => mm_is cc pc .pop 1 && Nat.beq nx (pc + 1)
  | .iaload => mm_is cc pc .iaload 1 && Nat.beq nx (pc + 1)
  | .saload => mm_is cc pc .saload 1 && Nat.beq nx (pc + 1)
  | .baload => mm_is cc pc .baload 1 && Nat.beq nx (pc + 1)
  | .laload => mm_is cc pc .laload 1 && Nat.beq nx (pc + 1)
  | .aaload => mm_is cc pc .aaload 1 && Nat.beq nx (pc + 1)
  | .iastore => mm_is cc pc .iastore 1 && Nat.beq nx (pc + 1)
  | .sastore => mm_is cc pc .sastore 1 && Nat.beq nx (pc + 1)
  | .bastore => mm_is cc pc .bastore 1 && Nat.beq nx (pc + 1)
  | .lastore => mm_is cc pc .lastore 1 && Nat.beq nx (pc + 1)
  | .aastore => mm_is cc pc .aastore 1 && Nat.beq nx (pc + 1)
  | .arraylength => mm_is cc pc .arraylength 1 && Nat.beq nx (pc + 1)
  | _ => true
def mm_chk (lt : List mm_T) (pool : List (Nat × Instr)) (isI : Bool) (rt : Option FieldType) (cc : ByteArray) (nL : Nat) : List (Nat × Instr) → Bool
  | [] => true
  | q :: tl => mm_ck lt pool isI rt cc nL q.1 (mm_nx tl) q.2 && mm_chk lt pool isI rt cc nL tl

/-! The methods by their numbers: name, bytes, locals, answer. Printed. -/
def mm_itab_0 : List (MethodName × ByteArray × Nat × Option FieldType) := [(⟨"FewRectangles$ConditionReader", "<init>", "(LFewRectangles$Tape;)V"⟩, prog_2_method_1_code, 2, none), (⟨"FewRectangles$ConditionReader", "read", "()[I"⟩, prog_2_method_2_code, 2, (some (.array .int))), (⟨"FewRectangles$ConditionReader", "readLevel", "(II)V"⟩, prog_2_method_3_code, 3, none), (⟨"FewRectangles$ConditionReader", "readJoined", "(II)V"⟩, prog_2_method_4_code, 6, none), (⟨"FewRectangles$ConditionReader", "readNegated", "(I)V"⟩, prog_2_method_5_code, 2, none), (⟨"FewRectangles$ConditionReader", "readCompared", "(I)V"⟩, prog_2_method_6_code, 3, none), (⟨"FewRectangles$ConditionReader", "readReckoned", "(II)V"⟩, prog_2_method_7_code, 5, none), (⟨"FewRectangles$ConditionReader", "reckons", "(II)Z"⟩, prog_2_method_8_code, 2, (some .boolean)), (⟨"FewRectangles$ConditionReader", "readUnit", "(I)V"⟩, prog_2_method_9_code, 2, none), (⟨"FewRectangles$ConditionReader", "opens", "(I)Z"⟩, prog_2_method_10_code, 3, (some .boolean)), (⟨"FewRectangles$ConditionReader", "emitWord", "(I)V"⟩, prog_2_method_11_code, 2, none), (⟨"FewRectangles$ConditionReader", "emit", "(I)V"⟩, prog_2_method_12_code, 2, none), (⟨"FewRectangles$ConditionReader", "emitWith", "(II)I"⟩, prog_2_method_13_code, 3, (some .int)), (⟨"FewRectangles$Cover", "<init>", "()V"⟩, prog_3_method_1_code, 1, none), (⟨"FewRectangles$Cover", "take", "(LFewRectangles$Sheet;I)I"⟩, prog_3_method_2_code, 3, (some .int)), (⟨"FewRectangles$Cover", "copyLayer", "(LFewRectangles$Sheet;I)V"⟩, prog_3_method_3_code, 3, none), (⟨"FewRectangles$Cover", "stroke", "(IIIII)V"⟩, prog_3_method_4_code, 8, none), (⟨"FewRectangles$Cover", "draw", "(II)V"⟩, prog_3_method_5_code, 9, none), (⟨"FewRectangles$Cover", "nextDraw", "(I)I"⟩, prog_3_method_6_code, 1, (some .int)), (⟨"FewRectangles$Cover", "drawnOf", "(II)I"⟩, prog_3_method_7_code, 2, (some .int))]
def mm_itab_1 : List (MethodName × ByteArray × Nat × Option FieldType) := [(⟨"FewRectangles$Cover", "cellsSet", "()I"⟩, prog_3_method_8_code, 4, (some .int)), (⟨"FewRectangles$Cover", "build", "()I"⟩, prog_3_method_9_code, 5, (some .int)), (⟨"FewRectangles$Cover", "addRun", "(III)V"⟩, prog_3_method_10_code, 9, none), (⟨"FewRectangles$Cover", "formatAt", "(II)I"⟩, prog_3_method_11_code, 3, (some .int)), (⟨"FewRectangles$Cover", "rectNumber", "(I)I"⟩, prog_3_method_12_code, 2, (some .int)), (⟨"FewRectangles$Cover", "meets", "(II)Z"⟩, prog_3_method_13_code, 3, (some .boolean)), (⟨"FewRectangles$Cover", "fewestStrokes", "(I)I"⟩, prog_3_method_14_code, 6, (some .int)), (⟨"FewRectangles$Cover", "withEdge", "(II)I"⟩, prog_3_method_15_code, 3, (some .int)), (⟨"FewRectangles$Cover", "leastOf", "(II)I"⟩, prog_3_method_16_code, 3, (some .int)), (⟨"FewRectangles$Editor", "<init>", "()V"⟩, prog_4_method_1_code, 1, none), (⟨"FewRectangles$Editor", "paintRect", "(LFewRectangles$Sheet;III)I"⟩, prog_4_method_2_code, 7, (some .int)), (⟨"FewRectangles$Editor", "setLines", "(LFewRectangles$Sheet;IIII)I"⟩, prog_4_method_3_code, 7, (some .int)), (⟨"FewRectangles$Editor", "setGround", "(LFewRectangles$Sheet;II)I"⟩, prog_4_method_4_code, 4, (some .int)), (⟨"FewRectangles$Editor", "setValue", "(LFewRectangles$Sheet;II)I"⟩, prog_4_method_5_code, 4, (some .int)), (⟨"FewRectangles$Editor", "insertLines", "(LFewRectangles$Sheet;III)I"⟩, prog_4_method_6_code, 7, (some .int)), (⟨"FewRectangles$Editor", "removeLines", "(LFewRectangles$Sheet;II)I"⟩, prog_4_method_7_code, 9, (some .int)), (⟨"FewRectangles$Editor", "copyRect", "(LFewRectangles$Sheet;III)I"⟩, prog_4_method_8_code, 13, (some .int)), (⟨"FewRectangles$Editor", "clearNeedless", "(LFewRectangles$Sheet;I)I"⟩, prog_4_method_9_code, 6, (some .int)), (⟨"FewRectangles$Editor", "sortRows", "(LFewRectangles$Sheet;III)I"⟩, prog_4_method_10_code, 10, (some .int)), (⟨"FewRectangles$Editor", "moveLines", "(LFewRectangles$Sheet;III)I"⟩, prog_4_method_11_code, 11, (some .int))]
def mm_itab_2 : List (MethodName × ByteArray × Nat × Option FieldType) := [(⟨"FewRectangles$Editor", "mustSwap", "(LFewRectangles$Sheet;III)Z"⟩, prog_4_method_12_code, 7, (some .boolean)), (⟨"FewRectangles$Editor", "bringLines", "(LFewRectangles$Sheet;II)V"⟩, prog_4_method_13_code, 7, none), (⟨"FewRectangles$Editor", "bringCell", "(LFewRectangles$Sheet;IIII)V"⟩, prog_4_method_14_code, 9, none), (⟨"FewRectangles$Editor", "joinNewLine", "(LFewRectangles$Sheet;III)V"⟩, prog_4_method_15_code, 9, none), (⟨"FewRectangles$History", "<init>", "()V"⟩, prog_5_method_1_code, 2, none), (⟨"FewRectangles$History", "stateAt", "(I)LFewRectangles$Sheet;"⟩, prog_5_method_2_code, 4, (some (.object "FewRectangles$Sheet"))), (⟨"FewRectangles$History", "draftOfNow", "()LFewRectangles$Sheet;"⟩, prog_5_method_3_code, 1, (some (.object "FewRectangles$Sheet"))), (⟨"FewRectangles$History", "acceptDraft", "()V"⟩, prog_5_method_4_code, 1, none), (⟨"FewRectangles$History", "stepBack", "()I"⟩, prog_5_method_5_code, 1, (some .int)), (⟨"FewRectangles$History", "stepOn", "()I"⟩, prog_5_method_6_code, 1, (some .int)), (⟨"FewRectangles$History", "startFrom", "(LFewRectangles$Sheet;)V"⟩, prog_5_method_7_code, 2, none), (⟨"FewRectangles$Probe", "<init>", "()V"⟩, prog_6_method_1_code, 1, none), (⟨"FewRectangles$Probe", "maskAt", "(LFewRectangles$Sheet;II)I"⟩, prog_6_method_2_code, 7, (some .int)), (⟨"FewRectangles$Probe", "aim", "(LFewRectangles$Sheet;LFewRectangles$Rule;)V"⟩, prog_6_method_3_code, 6, none), (⟨"FewRectangles$Probe", "isSo", "(LFewRectangles$Sheet;LFewRectangles$Rule;II)Z"⟩, prog_6_method_4_code, 8, (some .boolean)), (⟨"FewRectangles$Probe", "step", "(LFewRectangles$Sheet;LFewRectangles$Rule;[II)I"⟩, prog_6_method_5_code, 12, (some .int)), (⟨"FewRectangles$Probe", "joined", "(IJJ)J"⟩, prog_6_method_6_code, 5, (some .long)), (⟨"FewRectangles$Probe", "wordFor", "(LFewRectangles$Sheet;I)I"⟩, prog_6_method_7_code, 3, (some .int)), (⟨"FewRectangles$Probe", "countPeers", "(LFewRectangles$Sheet;LFewRectangles$Rule;)V"⟩, prog_6_method_8_code, 7, none), (⟨"FewRectangles$Probe", "push", "(J)V"⟩, prog_6_method_9_code, 3, none)]
def mm_itab_3 : List (MethodName × ByteArray × Nat × Option FieldType) := [(⟨"FewRectangles$Probe", "pop", "()I"⟩, prog_6_method_10_code, 1, (some .int)), (⟨"FewRectangles$ProgramReader", "<init>", "(LFewRectangles$Tape;)V"⟩, prog_7_method_1_code, 2, none), (⟨"FewRectangles$ProgramReader", "read", "()[I"⟩, prog_7_method_2_code, 3, (some (.array .int))), (⟨"FewRectangles$ProgramReader", "readLines", "(I)V"⟩, prog_7_method_3_code, 5, none), (⟨"FewRectangles$ProgramReader", "opens", "(I)Z"⟩, prog_7_method_4_code, 2, (some .boolean)), (⟨"FewRectangles$ProgramReader", "readNumbers", "(I)V"⟩, prog_7_method_5_code, 2, none), (⟨"FewRectangles$ProgramReader", "addFormat", "()V"⟩, prog_7_method_6_code, 1, none), (⟨"FewRectangles$ProgramReader", "addTwo", "(Ljava/lang/String;)V"⟩, prog_7_method_7_code, 2, none), (⟨"FewRectangles$ProgramReader", "addArea", "()V"⟩, prog_7_method_8_code, 6, none), (⟨"FewRectangles$ProgramReader", "addMove", "()V"⟩, prog_7_method_9_code, 3, none), (⟨"FewRectangles$ProgramReader", "add", "(I)V"⟩, prog_7_method_10_code, 2, none), (⟨"FewRectangles$Rule", "<init>", "()V"⟩, prog_8_method_1_code, 1, none), (⟨"FewRectangles$Rule", "become", "(LFewRectangles$Rule;)V"⟩, prog_8_method_2_code, 2, none), (⟨"FewRectangles$Rule", "covers", "(II)Z"⟩, prog_8_method_3_code, 3, (some .boolean)), (⟨"FewRectangles$Rule", "makeRoom", "(III)V"⟩, prog_8_method_4_code, 4, none), (⟨"FewRectangles$Rule", "loseLines", "(III)Z"⟩, prog_8_method_5_code, 4, (some .boolean)), (⟨"FewRectangles$Rule", "firstLeft", "(III)I"⟩, prog_8_method_6_code, 3, (some .int)), (⟨"FewRectangles$Rule", "lastLeft", "(III)I"⟩, prog_8_method_7_code, 3, (some .int)), (⟨"FewRectangles$Runner", "<init>", "(LFewRectangles$Editor;)V"⟩, prog_9_method_1_code, 2, none), (⟨"FewRectangles$Runner", "runOn", "(LFewRectangles$Sheet;[I)I"⟩, prog_9_method_2_code, 3, (some .int))]
def mm_itab_4 : List (MethodName × ByteArray × Nat × Option FieldType) := [(⟨"FewRectangles$Runner", "runLines", "(LFewRectangles$Sheet;[IIII)V"⟩, prog_9_method_3_code, 12, none), (⟨"FewRectangles$Runner", "perform", "(LFewRectangles$Sheet;[II)I"⟩, prog_9_method_4_code, 7, (some .int)), (⟨"FewRectangles$Runner", "originOf", "(I)I"⟩, prog_9_method_5_code, 2, (some .int)), (⟨"FewRectangles$Runner", "areaAt", "([II)I"⟩, prog_9_method_6_code, 3, (some .int)), (⟨"FewRectangles$Runner", "linesAt", "([III)I"⟩, prog_9_method_7_code, 3, (some .int)), (⟨"FewRectangles$Sheet", "<init>", "()V"⟩, prog_10_method_1_code, 2, none), (⟨"FewRectangles$Sheet", "become", "(LFewRectangles$Sheet;)V"⟩, prog_10_method_2_code, 3, none), (⟨"FewRectangles$Sheet", "size", "(I)I"⟩, prog_10_method_3_code, 2, (some .int)), (⟨"FewRectangles$Sheet", "hasCell", "(I)Z"⟩, prog_10_method_4_code, 2, (some .boolean)), (⟨"FewRectangles$Sheet", "hasRect", "(I)Z"⟩, prog_10_method_5_code, 2, (some .boolean)), (⟨"FewRectangles$Sheet", "hasLines", "(II)Z"⟩, prog_10_method_6_code, 3, (some .boolean)), (⟨"FewRectangles$Sheet", "hasRule", "(I)Z"⟩, prog_10_method_7_code, 2, (some .boolean)), (⟨"FewRectangles$Sheet", "ruleAt", "(I)LFewRectangles$Rule;"⟩, prog_10_method_8_code, 3, (some (.object "FewRectangles$Rule"))), (⟨"FewRectangles$Sheet", "valueOf", "(II)I"⟩, prog_10_method_9_code, 4, (some .int)), (⟨"FewRectangles$Sheet", "setValueOf", "(III)V"⟩, prog_10_method_10_code, 5, none), (⟨"FewRectangles$Sheet", "cellFormat", "(III)I"⟩, prog_10_method_11_code, 5, (some .int)), (⟨"FewRectangles$Sheet", "setCellFormat", "(IIII)V"⟩, prog_10_method_12_code, 6, none), (⟨"FewRectangles$Sheet", "lineFormat", "(III)I"⟩, prog_10_method_13_code, 5, (some .int)), (⟨"FewRectangles$Sheet", "setLineFormat", "(IIII)V"⟩, prog_10_method_14_code, 6, none), (⟨"FewRectangles$Sheet", "beneath", "(III)I"⟩, prog_10_method_15_code, 6, (some .int))]
def mm_itab_5 : List (MethodName × ByteArray × Nat × Option FieldType) := [(⟨"FewRectangles$Sheet", "isNeedless", "(III)Z"⟩, prog_10_method_16_code, 5, (some .boolean)), (⟨"FewRectangles$Sheet", "needlessCells", "(I)I"⟩, prog_10_method_17_code, 5, (some .int)), (⟨"FewRectangles$Sheet", "sourceOf", "(IIII)I"⟩, prog_10_method_18_code, 7, (some .int)), (⟨"FewRectangles$Sheet", "numberFrom", "(IIII)I"⟩, prog_10_method_19_code, 5, (some .int)), (⟨"FewRectangles$Sheet", "putRule", "(IIII[I)I"⟩, prog_10_method_20_code, 7, (some .int)), (⟨"FewRectangles$Sheet", "dropRule", "(I)I"⟩, prog_10_method_21_code, 2, (some .int)), (⟨"FewRectangles$Sheet", "bringRule", "(II)I"⟩, prog_10_method_22_code, 3, (some .int)), (⟨"FewRectangles$Sheet", "carryRule", "(II)V"⟩, prog_10_method_23_code, 5, none), (⟨"FewRectangles$Tape", "<init>", "()V"⟩, prog_11_method_1_code, 1, none), (⟨"FewRectangles$Tape", "append", "(II)I"⟩, prog_11_method_2_code, 4, (some .int)), (⟨"FewRectangles$Tape", "clear", "()V"⟩, prog_11_method_3_code, 1, none), (⟨"FewRectangles$Tape", "rewind", "()V"⟩, prog_11_method_4_code, 1, none), (⟨"FewRectangles$Tape", "advance", "()V"⟩, prog_11_method_5_code, 3, none), (⟨"FewRectangles$Tape", "sortOf", "(I)I"⟩, prog_11_method_6_code, 1, (some .int)), (⟨"FewRectangles$Tape", "refuse", "()V"⟩, prog_11_method_7_code, 1, none), (⟨"FewRectangles$Tape", "isWord", "(Ljava/lang/String;)Z"⟩, prog_11_method_8_code, 2, (some .boolean)), (⟨"FewRectangles$Tape", "takesWord", "(Ljava/lang/String;)Z"⟩, prog_11_method_9_code, 3, (some .boolean)), (⟨"FewRectangles$Tape", "takesSign", "(I)Z"⟩, prog_11_method_10_code, 3, (some .boolean)), (⟨"FewRectangles$Tape", "needSign", "(I)V"⟩, prog_11_method_11_code, 2, none), (⟨"FewRectangles$Tape", "needNumber", "(I)I"⟩, prog_11_method_12_code, 4, (some .int))]
def mm_itab_6 : List (MethodName × ByteArray × Nat × Option FieldType) := [(⟨"FewRectangles$Tape", "needOneOf", "(Ljava/lang/String;)I"⟩, prog_11_method_13_code, 5, (some .int)), (⟨"FewRectangles$Tape", "spells", "(Ljava/lang/String;II)Z"⟩, prog_11_method_14_code, 6, (some .boolean)), (⟨"FewRectangles$View", "<init>", "()V"⟩, prog_12_method_1_code, 1, none), (⟨"FewRectangles$View", "take", "(LFewRectangles$Sheet;LFewRectangles$Probe;)V"⟩, prog_12_method_2_code, 5, none), (⟨"FewRectangles$View", "markCells", "(LFewRectangles$Sheet;LFewRectangles$Probe;I)V"⟩, prog_12_method_3_code, 8, none), (⟨"FewRectangles$View", "takeCell", "(LFewRectangles$Sheet;II)V"⟩, prog_12_method_4_code, 9, none), (⟨"FewRectangles$View", "maskAt", "(II)I"⟩, prog_12_method_5_code, 3, (some .int)), (⟨"FewRectangles$View", "sourceAt", "(III)I"⟩, prog_12_method_6_code, 4, (some .int)), (⟨"FewRectangles$View", "numberAt", "(III)I"⟩, prog_12_method_7_code, 4, (some .int)), (⟨"FewRectangles$View", "lookAt", "(II)I"⟩, prog_12_method_8_code, 3, (some .int)), (⟨"FewRectangles$View", "cellsHeldBy", "(I)I"⟩, prog_12_method_9_code, 5, (some .int)), (⟨"FewRectangles$View", "cellsShownBy", "(II)I"⟩, prog_12_method_10_code, 6, (some .int)), (⟨"FewRectangles$View", "cellsShowing", "(III)I"⟩, prog_12_method_11_code, 7, (some .int)), (⟨"FewRectangles$View", "cellsLooking", "(I)I"⟩, prog_12_method_12_code, 5, (some .int)), (⟨"FewRectangles$View", "cellsUnlike", "(LFewRectangles$View;)I"⟩, prog_12_method_13_code, 5, (some .int)), (⟨"FewRectangles$View", "unlikeLooks", "()I"⟩, prog_12_method_14_code, 7, (some .int)), (⟨"FewRectangles$View", "stripesOf", "(I)I"⟩, prog_12_method_15_code, 4, (some .int)), (⟨"FewRectangles$View", "findGreatest", "(II)V"⟩, prog_12_method_16_code, 6, none), (⟨"FewRectangles$View", "findGreatestFrom", "(II)V"⟩, prog_12_method_17_code, 6, none), (⟨"FewRectangles", "<init>", "()V"⟩, prog_1_method_1_code, 1, none)]
def mm_itab_7 : List (MethodName × ByteArray × Nat × Option FieldType) := [(⟨"FewRectangles", "paint", "(III)I"⟩, prog_1_method_2_code, 4, (some .int)), (⟨"FewRectangles", "lines", "(IIII)I"⟩, prog_1_method_3_code, 5, (some .int)), (⟨"FewRectangles", "ground", "(II)I"⟩, prog_1_method_4_code, 3, (some .int)), (⟨"FewRectangles", "value", "(II)I"⟩, prog_1_method_5_code, 3, (some .int)), (⟨"FewRectangles", "insert", "(III)I"⟩, prog_1_method_6_code, 4, (some .int)), (⟨"FewRectangles", "remove", "(II)I"⟩, prog_1_method_7_code, 3, (some .int)), (⟨"FewRectangles", "copy", "(III)I"⟩, prog_1_method_8_code, 4, (some .int)), (⟨"FewRectangles", "sort", "(III)I"⟩, prog_1_method_9_code, 4, (some .int)), (⟨"FewRectangles", "move", "(III)I"⟩, prog_1_method_10_code, 4, (some .int)), (⟨"FewRectangles", "tidy", "(I)I"⟩, prog_1_method_11_code, 2, (some .int)), (⟨"FewRectangles", "rule", "(IIII)I"⟩, prog_1_method_12_code, 8, (some .int)), (⟨"FewRectangles", "drop", "(I)I"⟩, prog_1_method_13_code, 2, (some .int)), (⟨"FewRectangles", "bring", "(II)I"⟩, prog_1_method_14_code, 3, (some .int)), (⟨"FewRectangles", "paste", "(IIIII)I"⟩, prog_1_method_15_code, 10, (some .int)), (⟨"FewRectangles", "run", "(I)I"⟩, prog_1_method_16_code, 3, (some .int)), (⟨"FewRectangles", "undo", "()I"⟩, prog_1_method_17_code, 1, (some .int)), (⟨"FewRectangles", "redo", "()I"⟩, prog_1_method_18_code, 1, (some .int)), (⟨"FewRectangles", "before", "(III)I"⟩, prog_1_method_19_code, 8, (some .int)), (⟨"FewRectangles", "shown", "(II)I"⟩, prog_1_method_20_code, 3, (some .int)), (⟨"FewRectangles", "under", "(III)I"⟩, prog_1_method_21_code, 7, (some .int))]
def mm_itab_8 : List (MethodName × ByteArray × Nat × Option FieldType) := [(⟨"FewRectangles", "by", "(II)I"⟩, prog_1_method_22_code, 3, (some .int)), (⟨"FewRectangles", "valueAt", "(I)I"⟩, prog_1_method_23_code, 3, (some .int)), (⟨"FewRectangles", "holds", "(II)I"⟩, prog_1_method_24_code, 4, (some .int)), (⟨"FewRectangles", "ruleOf", "(II)I"⟩, prog_1_method_25_code, 5, (some .int)), (⟨"FewRectangles", "idle", "()I"⟩, prog_1_method_26_code, 5, (some .int)), (⟨"FewRectangles", "rects", "(I)I"⟩, prog_1_method_27_code, 2, (some .int)), (⟨"FewRectangles", "rect", "(III)I"⟩, prog_1_method_28_code, 4, (some .int)), (⟨"FewRectangles", "lies", "(II)I"⟩, prog_1_method_29_code, 3, (some .int)), (⟨"FewRectangles", "would", "(III)I"⟩, prog_1_method_30_code, 5, (some .int)), (⟨"FewRectangles", "drawn", "(IIII)I"⟩, prog_1_method_31_code, 5, (some .int)), (⟨"FewRectangles", "all", "(II)I"⟩, prog_1_method_32_code, 6, (some .int)), (⟨"FewRectangles", "many", "(III)I"⟩, prog_1_method_33_code, 4, (some .int)), (⟨"FewRectangles", "greatest", "(III)I"⟩, prog_1_method_34_code, 5, (some .int)), (⟨"FewRectangles", "alike", "(I)I"⟩, prog_1_method_35_code, 3, (some .int)), (⟨"FewRectangles", "looks", "()I"⟩, prog_1_method_36_code, 1, (some .int)), (⟨"FewRectangles", "stripes", "(I)I"⟩, prog_1_method_37_code, 2, (some .int)), (⟨"FewRectangles", "strokes", "(II)I"⟩, prog_1_method_38_code, 3, (some .int)), (⟨"FewRectangles", "needless", "(I)I"⟩, prog_1_method_39_code, 2, (some .int)), (⟨"FewRectangles", "row", "(II)I"⟩, prog_1_method_40_code, 4, (some .int)), (⟨"FewRectangles", "put", "(III)I"⟩, prog_1_method_41_code, 4, (some .int))]
def mm_itab_9 : List (MethodName × ByteArray × Nat × Option FieldType) := [(⟨"FewRectangles", "element", "(II)I"⟩, prog_1_method_42_code, 3, (some .int)), (⟨"FewRectangles", "clip", "(IIII)I"⟩, prog_1_method_43_code, 9, (some .int)), (⟨"FewRectangles", "feed", "(II)I"⟩, prog_1_method_44_code, 3, (some .int)), (⟨"FewRectangles", "text", "()I"⟩, prog_1_method_45_code, 3, (some .int)), (⟨"FewRectangles", "tests", "(II)I"⟩, prog_1_method_46_code, 9, (some .int)), (⟨"FewRectangles", "image", "()I"⟩, prog_1_method_47_code, 1, (some .int)), (⟨"FewRectangles", "back", "()I"⟩, prog_1_method_48_code, 1, (some .int)), (⟨"FewRectangles", "differs", "()I"⟩, prog_1_method_49_code, 2, (some .int)), (⟨"FewRectangles", "count", "(I)I"⟩, prog_1_method_50_code, 2, (some .int)), (⟨"FewRectangles", "now", "()LFewRectangles$Sheet;"⟩, prog_1_method_51_code, 1, (some (.object "FewRectangles$Sheet"))), (⟨"FewRectangles", "settle", "(I)I"⟩, prog_1_method_52_code, 2, (some .int)), (⟨"FewRectangles", "freshView", "()LFewRectangles$View;"⟩, prog_1_method_53_code, 1, (some (.object "FewRectangles$View"))), (⟨"FewRectangles", "programOf", "(I)[I"⟩, prog_1_method_54_code, 2, (some (.array .int))), (⟨"FewRectangles", "isShelf", "(I)Z"⟩, prog_1_method_55_code, 1, (some .boolean)), (⟨"FewRectangles", "sizeOf", "(I)I"⟩, prog_1_method_56_code, 2, (some .int)), (⟨"FewRectangles", "shortOf", "(II)I"⟩, prog_1_method_57_code, 4, (some .int)), (⟨"FewRectangles", "setShort", "(III)V"⟩, prog_1_method_58_code, 5, none), (⟨"FewRectangles", "pastedRect", "(III)I"⟩, prog_1_method_59_code, 6, (some .int)), (⟨"FewRectangles", "writeFive", "(IIII)V"⟩, prog_1_method_60_code, 7, none), (⟨"FewRectangles", "peek", "([II)I"⟩, prog_1_method_61_code, 2, (some .int))]
def mm_itab_10 : List (MethodName × ByteArray × Nat × Option FieldType) := [(⟨"FewRectangles", "poke", "([III)V"⟩, prog_1_method_62_code, 3, none), (⟨"FewRectangles", "wrap", "(II)I"⟩, prog_1_method_63_code, 2, (some .int)), (⟨"FewRectangles", "placeOf", "(II)I"⟩, prog_1_method_64_code, 2, (some .int)), (⟨"FewRectangles", "isProperty", "(I)Z"⟩, prog_1_method_65_code, 1, (some .boolean)), (⟨"FewRectangles", "isNumber", "(I)Z"⟩, prog_1_method_66_code, 1, (some .boolean)), (⟨"FewRectangles", "isFormat", "(I)Z"⟩, prog_1_method_67_code, 1, (some .boolean)), (⟨"FewRectangles", "isFlag", "(I)Z"⟩, prog_1_method_68_code, 1, (some .boolean)), (⟨"FewRectangles", "topOf", "(I)I"⟩, prog_1_method_69_code, 1, (some .int)), (⟨"FewRectangles", "leftOf", "(I)I"⟩, prog_1_method_70_code, 1, (some .int)), (⟨"FewRectangles", "bottomOf", "(I)I"⟩, prog_1_method_71_code, 1, (some .int)), (⟨"FewRectangles", "rightOf", "(I)I"⟩, prog_1_method_72_code, 1, (some .int)), (⟨"FewRectangles", "rectCode", "(IIII)I"⟩, prog_1_method_73_code, 6, (some .int)), (⟨"FewRectangles", "pairCode", "(II)I"⟩, prog_1_method_74_code, 2, (some .int)), (⟨"FewRectanglesModel", "<init>", "()V"⟩, prog_14_method_1_code, 2, none), (⟨"FewRectanglesModel", "in", "(JJJ)Z"⟩, prog_14_method_2_code, 6, (some .boolean)), (⟨"FewRectanglesModel", "isProperty", "(I)Z"⟩, prog_14_method_3_code, 1, (some .boolean)), (⟨"FewRectanglesModel", "isTold", "(I)Z"⟩, prog_14_method_4_code, 1, (some .boolean)), (⟨"FewRectanglesModel", "told", "(I)I"⟩, prog_14_method_5_code, 2, (some .int)), (⟨"FewRectanglesModel", "becomes", "([II)V"⟩, prog_14_method_6_code, 3, none), (⟨"FewRectanglesModel", "undo", "()I"⟩, prog_14_method_7_code, 1, (some .int))]
def mm_itab_11 : List (MethodName × ByteArray × Nat × Option FieldType) := [(⟨"FewRectanglesModel", "redo", "()I"⟩, prog_14_method_8_code, 1, (some .int)), (⟨"FewRectanglesModel", "image", "()I"⟩, prog_14_method_9_code, 1, (some .int)), (⟨"FewRectanglesModel", "back", "()I"⟩, prog_14_method_10_code, 1, (some .int)), (⟨"FewRectanglesModel", "aside", "()V"⟩, prog_14_method_11_code, 1, none), (⟨"FewRectanglesModel", "again", "()V"⟩, prog_14_method_12_code, 1, none), (⟨"FewRectanglesModel", "isRect", "(JJJJ)Z"⟩, prog_14_method_13_code, 9, (some .boolean)), (⟨"FewRectanglesModel", "takesRect", "(I)Z"⟩, prog_14_method_14_code, 2, (some .boolean)), (⟨"FewRectanglesModel", "isCell", "(I)Z"⟩, prog_14_method_15_code, 2, (some .boolean)), (⟨"FewRectanglesModel", "isLines", "(III)Z"⟩, prog_14_method_16_code, 4, (some .boolean)), (⟨"FewRectanglesModel", "grid", "(II)I"⟩, prog_14_method_17_code, 2, (some .int)), (⟨"FewRectanglesModel", "crossed", "(III)I"⟩, prog_14_method_18_code, 3, (some .int)), (⟨"FewRectanglesModel", "lined", "(III)I"⟩, prog_14_method_19_code, 3, (some .int)), (⟨"FewRectanglesModel", "own", "(III)I"⟩, prog_14_method_20_code, 4, (some .int)), (⟨"FewRectanglesModel", "paints", "(IIIIII)V"⟩, prog_14_method_21_code, 9, none), (⟨"FewRectanglesModel", "doPaint", "(IIIIII)I"⟩, prog_14_method_22_code, 7, (some .int)), (⟨"FewRectanglesModel", "paint", "(III)I"⟩, prog_14_method_23_code, 4, (some .int)), (⟨"FewRectanglesModel", "doLines", "(IIIII)I"⟩, prog_14_method_24_code, 7, (some .int)), (⟨"FewRectanglesModel", "lines", "(IIII)I"⟩, prog_14_method_25_code, 5, (some .int)), (⟨"FewRectanglesModel", "ground", "(II)I"⟩, prog_14_method_26_code, 3, (some .int)), (⟨"FewRectanglesModel", "value", "(II)I"⟩, prog_14_method_27_code, 3, (some .int))]
def mm_itab_12 : List (MethodName × ByteArray × Nat × Option FieldType) := [(⟨"FewRectanglesModel", "movesLine", "(III)V"⟩, prog_14_method_28_code, 6, none), (⟨"FewRectanglesModel", "doInsert", "(III)I"⟩, prog_14_method_29_code, 10, (some .int)), (⟨"FewRectanglesModel", "insert", "(III)I"⟩, prog_14_method_30_code, 4, (some .int)), (⟨"FewRectanglesModel", "dropRule", "(I)V"⟩, prog_14_method_31_code, 3, none), (⟨"FewRectanglesModel", "doRemove", "(III)I"⟩, prog_14_method_32_code, 11, (some .int)), (⟨"FewRectanglesModel", "remove", "(II)I"⟩, prog_14_method_33_code, 3, (some .int)), (⟨"FewRectanglesModel", "orders", "(I)V"⟩, prog_14_method_34_code, 6, none), (⟨"FewRectanglesModel", "sort", "(III)I"⟩, prog_14_method_35_code, 12, (some .int)), (⟨"FewRectanglesModel", "move", "(III)I"⟩, prog_14_method_36_code, 8, (some .int)), (⟨"FewRectanglesModel", "doCopy", "(IIIIIIIII)I"⟩, prog_14_method_37_code, 17, (some .int)), (⟨"FewRectanglesModel", "copy", "(III)I"⟩, prog_14_method_38_code, 8, (some .int)), (⟨"FewRectanglesModel", "beneath", "(III)I"⟩, prog_14_method_39_code, 4, (some .int)), (⟨"FewRectanglesModel", "needless", "(I)I"⟩, prog_14_method_40_code, 5, (some .int)), (⟨"FewRectanglesModel", "doTidy", "(I)I"⟩, prog_14_method_41_code, 5, (some .int)), (⟨"FewRectanglesModel", "tidy", "(I)I"⟩, prog_14_method_42_code, 2, (some .int)), (⟨"FewRectanglesModel", "feed", "(II)I"⟩, prog_14_method_43_code, 4, (some .int)), (⟨"FewRectanglesModel", "isWordAt", "(I)Z"⟩, prog_14_method_44_code, 2, (some .boolean)), (⟨"FewRectanglesModel", "isFigureAt", "(I)Z"⟩, prog_14_method_45_code, 2, (some .boolean)), (⟨"FewRectanglesModel", "next", "()V"⟩, prog_14_method_46_code, 1, none), (⟨"FewRectanglesModel", "starts", "()V"⟩, prog_14_method_47_code, 1, none)]
def mm_itab_13 : List (MethodName × ByteArray × Nat × Option FieldType) := [(⟨"FewRectanglesModel", "wrong", "()V"⟩, prog_14_method_48_code, 1, none), (⟨"FewRectanglesModel", "isWord", "(J)Z"⟩, prog_14_method_49_code, 3, (some .boolean)), (⟨"FewRectanglesModel", "takesWord", "(J)Z"⟩, prog_14_method_50_code, 3, (some .boolean)), (⟨"FewRectanglesModel", "takesSign", "(I)Z"⟩, prog_14_method_51_code, 2, (some .boolean)), (⟨"FewRectanglesModel", "wants", "(Z)V"⟩, prog_14_method_52_code, 2, none), (⟨"FewRectanglesModel", "number", "(I)I"⟩, prog_14_method_53_code, 4, (some .int)), (⟨"FewRectanglesModel", "writes", "(I)V"⟩, prog_14_method_54_code, 2, none), (⟨"FewRectanglesModel", "opens", "()Z"⟩, prog_14_method_55_code, 1, (some .boolean)), (⟨"FewRectanglesModel", "readsCondition", "()V"⟩, prog_14_method_56_code, 2, none), (⟨"FewRectanglesModel", "readsAll", "()V"⟩, prog_14_method_57_code, 2, none), (⟨"FewRectanglesModel", "readsNot", "()V"⟩, prog_14_method_58_code, 2, none), (⟨"FewRectanglesModel", "readsSum", "()V"⟩, prog_14_method_59_code, 2, none), (⟨"FewRectanglesModel", "readsPart", "()V"⟩, prog_14_method_60_code, 1, none), (⟨"FewRectanglesModel", "nameNow", "()I"⟩, prog_14_method_61_code, 2, (some .int)), (⟨"FewRectanglesModel", "readsUnit", "()V"⟩, prog_14_method_62_code, 3, none), (⟨"FewRectanglesModel", "rule", "(IIII)I"⟩, prog_14_method_63_code, 6, (some .int)), (⟨"FewRectanglesModel", "isRule", "(I)Z"⟩, prog_14_method_64_code, 2, (some .boolean)), (⟨"FewRectanglesModel", "drop", "(I)I"⟩, prog_14_method_65_code, 2, (some .int)), (⟨"FewRectanglesModel", "bring", "(II)I"⟩, prog_14_method_66_code, 5, (some .int)), (⟨"FewRectanglesModel", "valueIn", "(II)I"⟩, prog_14_method_67_code, 3, (some .int))]
def mm_itab_14 : List (MethodName × ByteArray × Nat × Option FieldType) := [(⟨"FewRectanglesModel", "countIn", "(IIZ)I"⟩, prog_14_method_68_code, 8, (some .int)), (⟨"FewRectanglesModel", "named", "(IIII)I"⟩, prog_14_method_69_code, 5, (some .int)), (⟨"FewRectanglesModel", "both", "(IJJ)J"⟩, prog_14_method_70_code, 5, (some .long)), (⟨"FewRectanglesModel", "isSo", "(III)Z"⟩, prog_14_method_71_code, 9, (some .boolean)), (⟨"FewRectanglesModel", "freshen", "()V"⟩, prog_14_method_72_code, 6, none), (⟨"FewRectanglesModel", "showing", "(III)I"⟩, prog_14_method_73_code, 6, (some .int)), (⟨"FewRectanglesModel", "shows", "(III)I"⟩, prog_14_method_74_code, 5, (some .int)), (⟨"FewRectanglesModel", "shown", "(II)I"⟩, prog_14_method_75_code, 3, (some .int)), (⟨"FewRectanglesModel", "before", "(III)I"⟩, prog_14_method_76_code, 5, (some .int)), (⟨"FewRectanglesModel", "under", "(III)I"⟩, prog_14_method_77_code, 6, (some .int)), (⟨"FewRectanglesModel", "by", "(II)I"⟩, prog_14_method_78_code, 6, (some .int)), (⟨"FewRectanglesModel", "valueAt", "(I)I"⟩, prog_14_method_79_code, 2, (some .int)), (⟨"FewRectanglesModel", "holds", "(II)I"⟩, prog_14_method_80_code, 3, (some .int)), (⟨"FewRectanglesModel", "ruleOf", "(II)I"⟩, prog_14_method_81_code, 8, (some .int)), (⟨"FewRectanglesModel", "idle", "()I"⟩, prog_14_method_82_code, 3, (some .int)), (⟨"FewRectanglesModel", "isRun", "(IIIII)Z"⟩, prog_14_method_83_code, 7, (some .boolean)), (⟨"FewRectanglesModel", "coversOf", "(I)V"⟩, prog_14_method_84_code, 7, none), (⟨"FewRectanglesModel", "rects", "(I)I"⟩, prog_14_method_85_code, 2, (some .int)), (⟨"FewRectanglesModel", "rect", "(III)I"⟩, prog_14_method_86_code, 4, (some .int)), (⟨"FewRectanglesModel", "lies", "(II)I"⟩, prog_14_method_87_code, 4, (some .int))]
def mm_itab_15 : List (MethodName × ByteArray × Nat × Option FieldType) := [(⟨"FewRectanglesModel", "would", "(III)I"⟩, prog_14_method_88_code, 4, (some .int)), (⟨"FewRectanglesModel", "draws", "(I)I"⟩, prog_14_method_89_code, 2, (some .int)), (⟨"FewRectanglesModel", "drawn", "(IIII)I"⟩, prog_14_method_90_code, 11, (some .int)), (⟨"FewRectanglesModel", "all", "(II)I"⟩, prog_14_method_91_code, 4, (some .int)), (⟨"FewRectanglesModel", "countShown", "(II)I"⟩, prog_14_method_92_code, 6, (some .int)), (⟨"FewRectanglesModel", "many", "(III)I"⟩, prog_14_method_93_code, 4, (some .int)), (⟨"FewRectanglesModel", "within", "(IIII)I"⟩, prog_14_method_94_code, 6, (some .int)), (⟨"FewRectanglesModel", "greatest", "(III)I"⟩, prog_14_method_95_code, 12, (some .int)), (⟨"FewRectanglesModel", "look", "(II)I"⟩, prog_14_method_96_code, 3, (some .int)), (⟨"FewRectanglesModel", "alike", "(I)I"⟩, prog_14_method_97_code, 5, (some .int)), (⟨"FewRectanglesModel", "looks", "()I"⟩, prog_14_method_98_code, 5, (some .int)), (⟨"FewRectanglesModel", "stripes", "(I)I"⟩, prog_14_method_99_code, 4, (some .int)), (⟨"FewRectanglesModel", "strokes", "(II)I"⟩, prog_14_method_100_code, 10, (some .int)), (⟨"FewRectanglesModel", "differs", "()I"⟩, prog_14_method_101_code, 3, (some .int)), (⟨"FewRectanglesModel", "isShelf", "(I)Z"⟩, prog_14_method_102_code, 1, (some .boolean)), (⟨"FewRectanglesModel", "row", "(II)I"⟩, prog_14_method_103_code, 4, (some .int)), (⟨"FewRectanglesModel", "refusal", "(II)I"⟩, prog_14_method_104_code, 3, (some .int)), (⟨"FewRectanglesModel", "put", "(III)I"⟩, prog_14_method_105_code, 5, (some .int)), (⟨"FewRectanglesModel", "element", "(II)I"⟩, prog_14_method_106_code, 3, (some .int)), (⟨"FewRectanglesModel", "clip", "(IIII)I"⟩, prog_14_method_107_code, 8, (some .int))]
def mm_itab_16 : List (MethodName × ByteArray × Nat × Option FieldType) := [(⟨"FewRectanglesModel", "isMet", "(I)Z"⟩, prog_14_method_108_code, 2, (some .boolean)), (⟨"FewRectanglesModel", "paste", "(IIIII)I"⟩, prog_14_method_109_code, 15, (some .int)), (⟨"FewRectanglesModel", "readsProperty", "()V"⟩, prog_14_method_110_code, 2, none), (⟨"FewRectanglesModel", "readsWhat", "()V"⟩, prog_14_method_111_code, 1, none), (⟨"FewRectanglesModel", "readsPlace", "()V"⟩, prog_14_method_112_code, 1, none), (⟨"FewRectanglesModel", "readsArea", "()V"⟩, prog_14_method_113_code, 1, none), (⟨"FewRectanglesModel", "readsMove", "()V"⟩, prog_14_method_114_code, 2, none), (⟨"FewRectanglesModel", "readsLinesWay", "()V"⟩, prog_14_method_115_code, 1, none), (⟨"FewRectanglesModel", "readsTwo", "(J)V"⟩, prog_14_method_116_code, 3, none), (⟨"FewRectanglesModel", "readsRepeat", "()V"⟩, prog_14_method_117_code, 2, none), (⟨"FewRectanglesModel", "readsLine", "()V"⟩, prog_14_method_118_code, 2, none), (⟨"FewRectanglesModel", "text", "()I"⟩, prog_14_method_119_code, 1, (some .int)), (⟨"FewRectanglesModel", "cellOf", "(I)I"⟩, prog_14_method_120_code, 2, (some .int)), (⟨"FewRectanglesModel", "does", "(I)I"⟩, prog_14_method_121_code, 6, (some .int)), (⟨"FewRectanglesModel", "sizeOf", "(I)I"⟩, prog_14_method_122_code, 1, (some .int)), (⟨"FewRectanglesModel", "runs", "(II)V"⟩, prog_14_method_123_code, 6, none), (⟨"FewRectanglesModel", "ran", "(I)I"⟩, prog_14_method_124_code, 2, (some .int)), (⟨"FewRectanglesModel", "run", "(I)I"⟩, prog_14_method_125_code, 2, (some .int)), (⟨"FewRectanglesModel", "tests", "(II)I"⟩, prog_14_method_126_code, 5, (some .int)), (⟨"FewRectanglesModel", "count", "(I)I"⟩, prog_14_method_127_code, 2, (some .int))]
def mm_itab_17 : List (MethodName × ByteArray × Nat × Option FieldType) := [(⟨"java/lang/Math", "floorMod", "(II)I"⟩, prog_17_method_50_code, 3, (some .int)), (⟨"java/lang/String", "length", "()I"⟩, prog_18_method_54_code, 1, (some .int)), (⟨"java/lang/String", "charAt", "(I)C"⟩, prog_18_method_56_code, 2, (some .char)), (⟨"java/lang/String", "indexOf", "(I)I"⟩, prog_18_method_79_code, 2, (some .int)), (⟨"java/lang/String", "indexOf", "(II)I"⟩, prog_18_method_80_code, 3, (some .int)), (⟨"java/lang/String", "coder", "()B"⟩, prog_18_method_152_code, 1, (some .byte)), (⟨"java/lang/String", "isLatin1", "()Z"⟩, prog_18_method_154_code, 1, (some .boolean)), (⟨"java/lang/String", "checkIndex", "(II)V"⟩, prog_18_method_155_code, 2, none), (⟨"java/lang/StringLatin1", "charAt", "([BI)C"⟩, prog_19_method_2_code, 2, (some .char)), (⟨"java/lang/StringLatin1", "canEncode", "(I)Z"⟩, prog_19_method_4_code, 1, (some .boolean)), (⟨"java/lang/StringLatin1", "indexOf", "([BIII)I"⟩, prog_19_method_22_code, 4, (some .int)), (⟨"java/lang/StringLatin1", "indexOfChar", "([BIII)I"⟩, prog_19_method_23_code, 6, (some .int)), (⟨"java/util/Arrays", "fill", "([II)V"⟩, prog_22_method_103_code, 4, none), (⟨"java/util/Arrays", "copyOf", "([II)[I"⟩, prog_22_method_123_code, 3, (some (.array .int))), (⟨"jdk/internal/util/Preconditions", "checkIndex", "(IILjava/util/function/BiFunction;)I"⟩, prog_23_method_11_code, 3, (some .int))]
def mm_itab : List (List (MethodName × ByteArray × Nat × Option FieldType)) := [mm_itab_0, mm_itab_1, mm_itab_2, mm_itab_3, mm_itab_4, mm_itab_5, mm_itab_6, mm_itab_7, mm_itab_8, mm_itab_9, mm_itab_10, mm_itab_11, mm_itab_12, mm_itab_13, mm_itab_14, mm_itab_15, mm_itab_16, mm_itab_17]
def mm_inf (i : Nat) : MethodName × ByteArray × Nat × Option FieldType := mm_nth (⟨"", "", ""⟩, ⟨#[]⟩, 0, none) (Nat.mod i 20) (mm_nth [] (Nat.div i 20) mm_itab)

theorem mm_str_at {D : va_G} {tys : List (ClassId × FieldType)} {B : Nat} {old : Int → Nat} {L0 : Nat} {scr : Nat → Int32} {ρ : List Nat} {w : mm_W} {h : mm_H} {H : Heap} {a : Int} (hH : mm_HR D tys B old L0 scr ρ w h H) (hk : (w.1 a).1 = 14) : ∃ i : Nat, i < 12 ∧ a = -(10 + 2 * (i : Int)) := by
  have hneg : a ≤ 0 := by
    rcases Int.lt_or_le 0 a with q | q
    · rcases Int.lt_or_le ρ.length a with q2 | q2
      · rw [hH.2.2.1 a q2] at hk; omega
      · have := hH.2.1 a q q2
        rcases this with ⟨_, h2, _⟩ | ⟨h2, _⟩ | ⟨h2, _⟩ | ⟨h2, _⟩ <;> omega
    · exact q
  obtain ⟨n1, -, -, n2, n3⟩ := hH.2.2.2.1
  by_cases q1 : a = -1
  · subst q1; rw [n1] at hk; exact absurd hk (show ¬ (50 : Nat) = 14 by decide)
  · by_cases q2 : ∀ i : Nat, i < 12 → a ≠ -(10 + 2 * (i : Int)) ∧ a ≠ -(11 + 2 * (i : Int))
    · rw [n3 a hneg q1 q2] at hk; omega
    · simp only [Classical.not_forall] at q2
      obtain ⟨i, hi, q2⟩ := q2
      obtain ⟨-, -, -, g2, -⟩ := n2 i hi
      by_cases e2 : a = -(11 + 2 * (i : Int))
      · subst e2; rw [g2] at hk; exact absurd hk (show ¬ (54 : Nat) = 14 by decide)
      · exact ⟨i, hi, Classical.byContradiction fun z => q2 ⟨z, e2⟩⟩
section MM
variable {D : va_G} {tys : List (ClassId × FieldType)} {B : Nat} {old : Int → Nat} {L0 : Nat} {scr : Nat → Int32}
variable {p : Program} {l : Launch} {e : Env} {R : Room} {s : State} {m : MethodId} {args : Array Value} {below : List Frame} {meth : Method} {c : Code} {nL : Nat} {ρ0 : List Nat} {w0 : mm_W} {Q : State → Prop}
variable {own : String} {cc : ByteArray} {mn : String} {rt : Option FieldType} {pc : Nat} {L st : List mm_V} {w : mm_W} {h : mm_H} {nx : Nat} {tx : String}

theorem st_getS (F : mm_Fr D tys B old L0 scr p s m args meth c nL own cc mn rt) {a : Int} {i : Nat} (hw : Jvm.Cond.fieldLink own i "java/lang/String" "value" "[B" ∈ lw_g) (hd : decode cc pc = .ok (.getfield i, 3)) (hk : (w.1 a).1 = 14) (kk : mm_Wc D tys B old L0 scr p l e R s m args below meth c nL ρ0 w0 Q (pc + 3) L ((2, h a 0) :: st) w h) : mm_Wc D tys B old L0 scr p l e R s m args below meth c nL ρ0 w0 Q pc L ((2, a) :: st) w h := by
  intro ρ H locs ls sv hρ hH hS hL hst
  obtain ⟨v, sv, rfl, ⟨ha, rfl⟩, hs2⟩ := mm_SR_cons hst
  obtain ⟨i2, hi, rfl⟩ := mm_str_at hH hk
  obtain ⟨-, g2, -, -, -⟩ := hH.2.2.2.1.2.2.2.1 i2 hi
  rw [show mm_adr old ρ ((2, -(10 + 2 * (i2 : Int))) : mm_V).2 = some (old (-(10 + 2 * (i2 : Int)))) by show mm_adr old ρ (-(10 + 2 * (i2 : Int))) = _; unfold mm_adr; rw [if_pos (by omega)]]
  obtain ⟨-, -, hV, -⟩ := F.2.2.2.2.2.1.2.2.2.2.1.1 i2 hi
  rw [g2] at kk
  refine vk_getf F.1 F.2.1 hV hS F.2.2.2.1 (F.2.2.2.2.1 _ hw) (fun _ h => h) hd (kk ρ H locs ls (.ref (old (-(11 + 2 * (i2 : Int)))) :: sv) hρ hH hS hL ⟨⟨by show -(11 + 2 * (i2 : Int)) ≤ _; omega, ?_⟩, hs2⟩)
  show _ = va_rf (mm_adr old ρ (-(11 + 2 * (i2 : Int))))
  unfold mm_adr
  rw [if_pos (by omega)]
  rfl
theorem st_getC (F : mm_Fr D tys B old L0 scr p s m args meth c nL own cc mn rt) {a : Int} {i : Nat} (hw : Jvm.Cond.fieldLink own i "java/lang/String" "coder" "B" ∈ lw_g) (hd : decode cc pc = .ok (.getfield i, 3)) (hk : (w.1 a).1 = 14) (kk : mm_Wc D tys B old L0 scr p l e R s m args below meth c nL ρ0 w0 Q (pc + 3) L ((0, h a 1) :: st) w h) : mm_Wc D tys B old L0 scr p l e R s m args below meth c nL ρ0 w0 Q pc L ((2, a) :: st) w h := by
  intro ρ H locs ls sv hρ hH hS hL hst
  obtain ⟨v, sv, rfl, ⟨ha, rfl⟩, hs2⟩ := mm_SR_cons hst
  obtain ⟨i2, hi, rfl⟩ := mm_str_at hH hk
  obtain ⟨-, -, g3, -, -⟩ := hH.2.2.2.1.2.2.2.1 i2 hi
  rw [show mm_adr old ρ ((2, -(10 + 2 * (i2 : Int))) : mm_V).2 = some (old (-(10 + 2 * (i2 : Int)))) by show mm_adr old ρ (-(10 + 2 * (i2 : Int))) = _; unfold mm_adr; rw [if_pos (by omega)]]
  obtain ⟨-, hV, -, -⟩ := F.2.2.2.2.2.1.2.2.2.2.1.1 i2 hi
  rw [g3] at kk
  exact vk_getf F.1 F.2.1 hV hS F.2.2.2.1 (F.2.2.2.2.1 _ hw) (fun _ h => h) hd (kk ρ H locs ls (.int 0 :: sv) hρ hH hS hL ⟨⟨i32_z, rfl⟩, hs2⟩)
theorem mm_sw_tab (pc : Nat) {α : Type} (dflt : α) (k : Int → α) (x : Int) : ∀ (offs : List Int) (lo : Int), mm_sw x dflt k (mm_tsw pc lo offs) = if h : lo ≤ x ∧ x < lo + offs.length then k ((pc : Int) + offs[(x - lo).toNat]'(by omega)) else dflt
  | [], lo => by
    rw [mm_tsw, mm_sw, dif_neg (by simp; try omega)]
  | o :: os, lo => by
    rw [mm_tsw, mm_sw, mm_sw_tab pc dflt k x os (lo + 1)]
    unfold mEq
    by_cases e : x = lo
    · subst e
      rw [if_pos rfl, dif_pos (by simp; omega)]
      simp
    · rw [if_neg e]
      by_cases q : lo + 1 ≤ x ∧ x < lo + 1 + os.length
      · rw [dif_pos q, dif_pos (by simp; omega)]
        congr 2
        have : (x - lo).toNat = (x - (lo + 1)).toNat + 1 := by omega
        simp [this]
      · rw [dif_neg q, dif_neg (by simp; omega)]
theorem mm_sw_look (pc : Nat) {α : Type} (d : Int) (k : Int → α) (x : Int) : ∀ ps : List (Int × Int), mm_sw x (k ((pc : Int) + d)) k (ps.map (fun q => (q.1, (pc : Int) + q.2))) = k ((pc : Int) + Op.lookupswitch.offset ps d x)
  | [] => rfl
  | q :: ps => by
    rw [List.map_cons, mm_sw, mm_sw_look pc d k x ps]
    unfold mEq
    obtain ⟨a, o⟩ := q
    rw [Op.lookupswitch.offset]
    by_cases e : x = a
    · subst e; simp
    · have e2 : ¬ a = x := fun z => e z.symm
      simp [e, e2]
end MM
