def strL : List (Nat × String) := [(37, "the number is not -30 .. 30"), (47, "there are six numbers"), (181, "there is no such slot"), (183, "there are more or fewer numbers"), (236, "the set would be too large"), (239, "the set would be too rich"), (185, "g is below 0"), (187, "all numbers are 0"), (189, "a point is no line"), (97, "the set is empty and this is no point"), (117, "there is no such kind"), (137, "the latest maximum found no greatest value"), (141, "neither numerator nor denominator"), (150, "this is no point"), (171, "there is no such number in a row"), (173, "there is no row below 0"), (175, "there is no such row")]
def icL : List Nat := [143, 39, 49, 238, 99]
def cnm : List String := [RX0, RX1, RX2, RX3, RX4]
def exN : List String := ["java/lang/IndexOutOfBoundsException", "java/lang/IllegalArgumentException", "java/lang/IllegalStateException", "java/lang/ArithmeticException", "java/lang/UnsupportedOperationException"]
def exNm (E : Nat) : String := exN.getD E ""
def cTn (ci : Nat) : vw_C := vwCl.getD ci ("", TX0, 0)
def codeW (mi : MI) : Cond := match mHh mi with
  | [] => .code (mNm mi) (mCd mi) (mLo mi) (mRt mi)
  | hh => .codeWith (mNm mi) (mCd mi) (mLo mi) (mRt mi) hh
/-- the one call of a nest mate's private method -/
def isNest (mi : MI) (idx : Nat) : Bool := decide (mOwn mi = RX1) && Nat.beq idx 25
def ndL (mi : MI) (e : Nat × Nat) : List Cond := match Nat.beq e.2 999 with
  | true => [.methodLink (mOwn mi) e.1 objectInit, .instanceMethod objectInit, .code objectInit ⟨#[0xb1]⟩ 1 none]
  | false => match Nat.beq e.2 998 with
   | true => [.methodLink (mOwn mi) e.1 Lib.MathLoose.abs_long.x, .static Lib.MathLoose.abs_long.x, .initialized "java/lang/Math", .code Lib.MathLoose.abs_long.x Lib.MathLoose.abs_long.code 2 (some .long)]
   | false => match isNest mi e.1 with
    | true => []
    | false => match nth mtL e.2 with
      | some mj => [.methodLink (mOwn mi) e.1 (mNm mj)]
      | none => []
/-- the words that a method's table rests on: its body's, and its own -/
def needB (mi : MI) : List Cond := ((mMl mi).flatMap (ndL mi) ++ (mFl mi).map (fun e => .fieldLink (mOwn mi) e.1 (cTn e.2.1).1 ((cTn e.2.1).2.1 e.2.2).2.1 ((cTn e.2.1).2.1 e.2.2).2.2.1)
  ++ (mCl mi).flatMap (fun e => [.classLink (mOwn mi) e.1 (cTn e.2).1, .instantiable (cTn e.2).1 (cTn e.2).2.2, .initialized (cTn e.2).1]) ++ (mLc mi).map (fun e => .constantLong (mOwn mi) e.1 e.2)
  ++ (mTr mi).flatMap (fun e => [.classLink (mOwn mi) e.2.2.1 (exNm e.2.1), .initialized (exNm e.2.1)]) ++ (mHd mi).map (fun e => .classLink (mOwn mi) ((mHh mi).getD e.2.1 (0, 0, 0, 0)).2.2.2 (exNm e.1)))
def need (mi : MI) : List Cond := (codeW mi :: .initialized (mOwn mi) :: (match mSt mi with
    | true => [.static (mNm mi)]
    | false => match mAl mi with
      | true => [.instanceMethod (mNm mi)]
      | false => [.instanceMethod (mNm mi), .selects (mOwn mi) (mNm mi) (mNm mi)])) ++ needB mi
/-- the length of an instruction, as the rows have it -/
def lenOK : Instr → Nat → Bool
  | .iconst _, n => n == 1
  | .bipush _, n => n == 2
  | .sipush _, n => n == 3
  | .lconst _, n => n == 1
  | .ldc2_w _, n => n == 3
  | .iload_n _, n | .lload_n _, n | .aload_n _, n | .istore_n _, n | .lstore_n _, n | .astore_n _, n => n == 1
  | .iload _, n | .lload _, n | .aload _, n | .istore _, n | .lstore _, n | .astore _, n => n == 2
  | .iinc _ _, n | .ifCond _ _, n | .if_icmp _ _, n | .goto _, n | .getfield _, n | .putfield _, n | .new _, n | .anewarray _, n | .invokevirtual _, n | .invokestatic _, n | .invokespecial _, n => n == 3
  | .newarray _, n => n == 2
  | .tableswitch _ _ _ _, _ => true
  | _, n => n == 1
def tgOK (mi : MI) (pc tg : Nat) : Instr → Bool
  | .ifCond _ o => decide ((pc : Int) + o = (tg : Int))
  | .if_icmp _ o => decide ((pc : Int) + o = (tg : Int))
  | .goto o => decide ((pc : Int) + o = (tg : Int))
  | .bipush n => decide (lk (mIc mi) pc = some (Int8.ofInt n).toInt32)
  | .sipush n => decide (lk (mIc mi) pc = some (Int16.ofInt n).toInt32)
  | .tableswitch d lo hi offs => match lk (mSw mi) pc with
    | some (dt, ts) => decide ((pc : Int) + d = (dt : Int)) && decide (offs.toList.map (fun o => (pc : Int) + o) = ts.map (fun t : Nat => (t : Int))) && decide (hi = lo + (ts.length : Int) - 1)
    | none => false
  | .new ik => match lk (mTr mi) pc with
    | some (_, ik', is, ic, _) => Nat.beq ik ik' && decide (decode (mCd mi) (pc + 3) = .ok (.dup, 1)) && decide (decode (mCd mi) (pc + 4) = .ok (.ldc is, 2)) && decide (decode (mCd mi) (pc + 6) = .ok (.invokespecial ic, 3)) && decide (decode (mCd mi) (pc + 9) = .ok (.athrow, 1))
    | none => true
  | _ => true
def rowOK (mi : MI) (e : Nat × Instr × Nat × Nat × Nat) : Bool := decide (decode (mCd mi) e.1 = .ok (e.2.1, e.2.2.1)) && Nat.beq (e.1 + e.2.2.1) e.2.2.2.1 && lenOK e.2.1 e.2.2.1 && tgOK mi e.1 e.2.2.2.2 e.2.1
def flOK (mi : MI) : Bool := (mFl mi).all (fun e => decide (e.2.1 < 5) && decide (e.2.2 < (cTn e.2.1).2.2) && (!(mAl mi && !mSt mi) || decide ((cTn e.2.1).1 = mOwn mi))) && (mCl mi).all (fun e => decide (e.2 < 5)) && (mMl mi).all (fun e => (Nat.blt e.2 157 || Nat.beq e.2 998 || Nat.beq e.2 999) && (!isNest mi e.1 || (decide ((nth mtL e.2).map (fun x => mNm x) = some yX3_commonDivisor) && decide ((nth mtL e.2).map (fun x => mSt x) = some true) && decide ((nth mtL e.2).map (fun x => (mHh x).length) = some 0))))
def nmOK (mi : MI) : Bool := decide ((mNm mi).cls = mOwn mi) && plainName (mOwn mi) && decide (mOwn mi ≠ "java/lang/invoke/MethodHandle") && decide (mOwn mi ≠ "java/lang/invoke/VarHandle") && decide ((parseMethodDescriptor (mNm mi).desc).map (fun d => d.parameters.length) = some (mNp mi)) && Nat.ble (mLo mi) 19 && (!mAl mi || mSt mi || decide ((mNm mi).name = "<init>")) && (!mAl mi || mSt mi || decide (mRt mi = none)) && decide (mCn mi < 5 → (cTn (mCn mi)).1 = mOwn mi)
  && decide (mTh mi = true → mHh mi = []) && decide (mHh mi ≠ [] → mSt mi = true)
def thOK (mi : MI) : Bool := decide ((mHd mi).map (fun e => e.2.1) = List.range (mHh mi).length) && decide (((mHd mi).map (fun e => e.1)).Nodup) && (mTr mi).all (fun e => decide (mOwn mi = RX3) && decide (e.2.1 < 5) && decide ((e.2.2.2.1, e.2.2.2.2.2) ∈ strL) && decide (e.2.2.2.2.1 = icL.getD e.2.1 0))
  && (mHd mi).all (fun e => decide (e.1 < 5) && (match (mHh mi)[e.2.1]? with
    | some r => decide (r.2.2.1 = e.2.2.1) && decide (r.2.2.2 ≠ 0) && (decide (decode (mCd mi) e.2.2.1 = .ok (.astore e.2.2.2.2, 2)) && Nat.beq (e.2.2.1 + 2) e.2.2.2.1 || (match decode (mCd mi) e.2.2.1 with
      | .ok (.astore_n k, 1) => decide (k.val = e.2.2.2.2) && Nat.beq (e.2.2.1 + 1) e.2.2.2.1
      | _ => false)) && decide (e.2.2.2.2 < mLo mi)
    | none => false))
