/-! THE PURE MACHINE: the same bytecode over a heap of numbered things, as a predicate on what comes out; sound for the machine (part 06) -/
abbrev PH : Type := List va_E
abbrev LV : Type := List (Nat × Value)
/-- what a call comes to: it has returned, or it has thrown the exception of that number -/
abbrev Out : Type := Option Value ⊕ Nat
abbrev Kt : Type := Nat → LV → List Value → PH → Nat → Nat → Prop
abbrev Callee : Type := Nat → List Value → PH → (Out → PH → Prop) → Prop
abbrev Scr : Type := Nat × (Nat → Int32)
abbrev mOwn (x : MI) : String := x.1.1
abbrev mNm (x : MI) : MethodName := x.1.2.1
abbrev mCd (x : MI) : ByteArray := x.1.2.2.1
abbrev mLo (x : MI) : Nat := x.1.2.2.2.1
abbrev mRt (x : MI) : Option FieldType := x.1.2.2.2.2
abbrev mHh (x : MI) : List (Nat × Nat × Nat × Nat) := x.2.1.1
abbrev mSt (x : MI) : Bool := x.2.1.2.1
abbrev mTh (x : MI) : Bool := x.2.1.2.2.1
abbrev mMc (x : MI) : Nat := x.2.1.2.2.2.1
abbrev mMs (x : MI) : Nat := x.2.1.2.2.2.2.1
abbrev mNp (x : MI) : Nat := x.2.1.2.2.2.2.2.1
abbrev mCn (x : MI) : Nat := x.2.1.2.2.2.2.2.2
abbrev mTb (x : MI) : List (List (Nat × Instr × Nat × Nat × Nat)) := x.2.2.1
abbrev mMl (x : MI) : List (Nat × Nat) := x.2.2.2.1
abbrev mFl (x : MI) : List (Nat × Nat × Nat) := x.2.2.2.2.1
abbrev mCl (x : MI) : List (Nat × Nat) := x.2.2.2.2.2.1
abbrev mLc (x : MI) : List (Nat × Int64) := x.2.2.2.2.2.2.1
abbrev mTr (x : MI) : List (Nat × Nat × Nat × Nat × Nat × String) := x.2.2.2.2.2.2.2.1
abbrev mSw (x : MI) : List (Nat × Nat × List Nat) := x.2.2.2.2.2.2.2.2.1
abbrev mAl (x : MI) : Bool := x.2.2.2.2.2.2.2.2.2.1
abbrev mIc (x : MI) : List (Nat × Int32) := x.2.2.2.2.2.2.2.2.2.2.1
abbrev mHd (x : MI) : List (Nat × Nat × Nat × Nat × Nat) := x.2.2.2.2.2.2.2.2.2.2.2
/-- the script's own number -/
def SID : Nat := 1000000
def lk {α : Type} : List (Nat × α) → Nat → Option α
  | [], _ => none
  | q :: l, k => match Nat.beq q.1 k with
    | true => some q.2
    | false => lk l k
def nth {α : Type} : List α → Nat → Option α
  | [], _ => none
  | x :: _, 0 => some x
  | _ :: l, n + 1 => nth l n
def look (tb : List (List (Nat × Instr × Nat × Nat × Nat))) (pc : Nat) : Option (Instr × Nat × Nat × Nat) := match nth tb (Nat.div pc 16) with
  | some c => lk c pc
  | none => none
def bb : Bool → Prop → Prop
  | true, p => p
  | false, _ => False
def pI : List Value → (Int32 → List Value → Prop) → Prop
  | .int x :: st, k => k x st
  | _, _ => False
def pL : List Value → (Int64 → List Value → Prop) → Prop
  | .long x :: st, k => k x st
  | _, _ => False
def pR : List Value → (Nat → List Value → Prop) → Prop
  | .ref x :: st, k => k x st
  | _, _ => False
def p1 : List Value → (Value → List Value → Prop) → Prop
  | .int x :: st, k => k (.int x) st
  | .ref x :: st, k => k (.ref x) st
  | _, _ => False
def pA : List Value → (Value → List Value → Prop) → Prop
  | v :: st, k => k v st
  | _, _ => False
def pE : List Value → Prop → Prop
  | [], p => p
  | _, _ => False
def pN : Nat → List Value → List Value → (List Value → List Value → Prop) → Prop
  | 0, acc, st, k => k acc st
  | n + 1, acc, v :: st, k => pN n (v :: acc) st k
  | _ + 1, _, [], _ => False
def gI (lv : LV) (i : Nat) (k : Int32 → Prop) : Prop := match lk lv i with
  | some (.int x) => k x
  | _ => False
def gL (lv : LV) (i : Nat) (k : Int64 → Prop) : Prop := match lk lv i with
  | some (.long x) => k x
  | _ => False
def gR (lv : LV) (i : Nat) (k : Nat → Prop) : Prop := match lk lv i with
  | some (.ref x) => k x
  | _ => False
def isL : Value → Bool
  | .long _ => true
  | .double _ => true
  | _ => false
/-- locals stand in the order of their numbers; a value of one word -/
def in1 : LV → Nat → Value → (LV → Prop) → Prop
  | [], i, v, k => k [(i, v)]
  | q :: l, i, v, k => match Nat.beq q.1 i with
    | true => k ((i, v) :: l)
    | false => match Nat.blt i q.1 with
      | true => k ((i, v) :: q :: l)
      | false => match Nat.beq (q.1 + 1) i && isL q.2 with
        | true => in1 l i v k
        | false => in1 l i v (fun l' => k (q :: l'))
def dr : LV → Nat → (LV → Prop) → Prop
  | [], _, k => k []
  | q :: l, i, k => match Nat.beq q.1 i with
    | true => k l
    | false => k (q :: l)
/-- a value of two words -/
def in2 : LV → Nat → Value → (LV → Prop) → Prop
  | [], i, v, k => k [(i, v)]
  | q :: l, i, v, k => match Nat.beq q.1 i with
    | true => dr l (i + 1) (fun l' => k ((i, v) :: l'))
    | false => match Nat.blt i q.1 with
      | true => dr (q :: l) (i + 1) (fun l' => k ((i, v) :: l'))
      | false => match Nat.beq (q.1 + 1) i && isL q.2 with
        | true => in2 l i v k
        | false => in2 l i v (fun l' => k (q :: l'))
def rmv : LV → Nat → (LV → Prop) → Prop
  | [], _, k => k []
  | q :: l, i, k => match Nat.beq q.1 i with
    | true => k l
    | false => rmv l i (fun l' => k (q :: l'))
def la : Nat → List Value → (LV → Prop) → Prop
  | _, [], k => k []
  | i, v :: vs, k => match isL v with
    | true => la (i + 2) vs (fun l => k ((i, v) :: l))
    | false => la (i + 1) vs (fun l => k ((i, v) :: l))
def icK : Int → (Int32 → Prop) → Prop
  | .ofNat 0, k => k 0
  | .ofNat 1, k => k 1
  | .ofNat 2, k => k 2
  | .ofNat 3, k => k 3
  | .ofNat 4, k => k 4
  | .ofNat 5, k => k 5
  | .negSucc 0, k => k (-1)
  | .negSucc 1, k => k (-2)
  | _, _ => False
def lcK : Nat → (Int64 → Prop) → Prop
  | 0, k => k 0
  | 1, k => k 1
  | _, _ => False
def wt (st : List Value) : Nat := (st.map fun v => v.category).sum
def sb : Nat → Nat → (Nat → Prop) → Prop
  | rc, 0, k => k rc
  | rc, n + 1, k => bb (Nat.ble (n + 1) rc) (k (rc - (n + 1)))
/-- the fields' types: 0 int, 1 long, 2 boolean, 3 a reference -/
def ftL : List (List Nat) := [[2, 3, 3, 3], [3, 0], [3, 3], [3, 0, 3, 3, 0, 0, 0], [0, 0, 3, 3, 3, 0, 0, 0, 3, 3, 3, 3, 3, 3, 3, 3, 2, 1, 1]]
def finL : List (List Bool) := [[true, true, true, true], [true, false], [true, true], [true, false, true, false, false, false, false], [false, false, true, true, true, false, false, false, true, true, true, true, true, true, true, true, false, false, false]]
def dfL : List (List Value) := [[.int 0, .null, .null, .null], [.null, .int 0], [.null, .null], [.null, .int 0, .null, .null, .int 0, .int 0, .int 0], [.int 0, .int 0, .null, .null, .null, .int 0, .int 0, .int 0, .null, .null, .null, .null, .null, .null, .null, .null, .int 0, .long 0, .long 0]]
def okK : Option Nat → Value → Prop → Prop
  | some 0, .int _, p => p
  | some 1, .long _, p => p
  | some 2, .int x, p => (x = 0 ∨ x = 1) ∧ p
  | some 3, .ref _, p => p
  | _, _, _ => False
def tyOf (ci k : Nat) : Option Nat := match nth ftL ci with
  | some l => nth l k
  | none => none
def fin (ci k : Nat) : Bool := match nth finL ci with
  | some l => match nth l k with
    | some b => b
    | none => true
  | none => true
/-- every reference is the script or a thing that is there -/
def vv (n : Nat) : Value → Bool
  | .ref i => Nat.blt i n || Nat.beq i SID
  | _ => true
def ve (n : Nat) : va_E → Bool
  | .inr o => o.2.all (vv n)
  | .inl (_, m, .inr (.inr (.inr (.inr f)))) => (List.range m).all fun j => match f j with
    | some i => Nat.blt i n || Nat.beq i SID
    | none => true
  | .inl _ => true
def vld (h : PH) (lv : LV) (st : List Value) : Bool := Nat.blt h.length 1000 && lv.all (fun q => vv h.length q.2) && st.all (vv h.length) && h.all (ve h.length)
def sw0 : List Nat → Int → Int → (Nat → Prop) → Prop
  | [], _, _, _ => True
  | t :: ts, v, x, k => (x = v → k t) ∧ sw0 ts (v + 1) x k
def bI (c : ClassFile.Cond) (x y : Int32) (T F : Prop) : Prop := match c with
  | .eq => (x = y → T) ∧ (¬ x = y → F)
  | .ne => (x = y → F) ∧ (¬ x = y → T)
  | .lt => (x < y → T) ∧ (¬ x < y → F)
  | .ge => (y ≤ x → T) ∧ (¬ y ≤ x → F)
  | .gt => (y < x → T) ∧ (¬ y < x → F)
  | .le => (x ≤ y → T) ∧ (¬ x ≤ y → F)
def akK : ArrayType → (Nat → va_E → Prop) → Nat → Prop
  | .int, k, n => k 4 (.inl (0, n, .inl (fun _ => 0)))
  | .long, k, n => k 8 (.inl (1, n, .inr (.inl (fun _ => 0))))
  | .boolean, k, n => k 1 (.inl (2, n, .inl (fun _ => 0)))
  | _, _, _ => False
def oK {α : Type} : Option α → (α → Prop) → Prop
  | some x, k => k x
  | none, _ => False
def oE {α : Type} : Option α → (α → Prop) → Prop → Prop
  | some x, k, _ => k x
  | none, _, p => p
def bE : Bool → Prop → Prop → Prop
  | true, p, _ => p
  | false, _, q => q
def rtI : Option FieldType → Int32 → Prop → Prop
  | some .int, _, p => p
  | some .boolean, x, p => (x = 0 ∨ x = 1) ∧ p
  | _, _, _ => False
def rtL : Option FieldType → Prop → Prop
  | some .long, p => p
  | _, _ => False
def rtA : Option FieldType → Prop → Prop
  | some (.object _), p => p
  | _, _ => False
def rtV : Option FieldType → Prop → Prop
  | none, p => p
  | _, _ => False
def lE {α : Type} : List α → Prop → Prop → Prop
  | [], p, _ => p
  | _ :: _, _, q => q
/-- behind a call -/
def bk (mi : MI) (Q : Out → PH → Prop) (K : Kt) (pc nx : Nat) (lv : LV) (st : List Value) (rc rs : Nat) : Out → PH → Prop
  | .inl (some v), h' => K nx lv (v :: st) h' rc rs
  | .inl none, h' => K nx lv st h' rc rs
  | .inr E, h' => lE (mHh mi) (mTh mi = true ∧ Q (.inr E) h') (oK (lk (mHd mi) E) fun q => oK (nth (mHh mi) q.1) fun r => bb (Nat.ble r.1 pc && Nat.blt pc r.2.1 && lv.all (fun z => !(isL z.2))) (rmv lv q.2.2.2 fun lv' => K q.2.2.1 lv' [] h' rc rs))
def ins (D : Nat) (call : Callee) (sc : Scr) (mi : MI) (Q : Out → PH → Prop) (K : Kt) (pc : Nat) (i : Instr) (nx tg : Nat) (lv : LV) (st : List Value) (h : PH) (rc rs : Nat) : Prop :=
  match i with
  | .iconst n => icK n fun v => K nx lv (.int v :: st) h rc rs
  | .bipush _ => oK (lk (mIc mi) pc) fun v => K nx lv (.int v :: st) h rc rs
  | .sipush _ => oK (lk (mIc mi) pc) fun v => K nx lv (.int v :: st) h rc rs
  | .lconst n => lcK n.val fun v => K nx lv (.long v :: st) h rc rs
  | .ldc2_w idx => oK (lk (mLc mi) idx) fun v => K nx lv (.long v :: st) h rc rs
  | .iload_n k => gI lv k.val fun x => K nx lv (.int x :: st) h rc rs
  | .iload k => gI lv k fun x => K nx lv (.int x :: st) h rc rs
  | .lload_n k => gL lv k.val fun x => K nx lv (.long x :: st) h rc rs
  | .lload k => gL lv k fun x => K nx lv (.long x :: st) h rc rs
  | .aload_n k => gR lv k.val fun x => K nx lv (.ref x :: st) h rc rs
  | .aload k => gR lv k fun x => K nx lv (.ref x :: st) h rc rs
  | .istore_n k => pI st fun x st => bb (Nat.blt k.val (mLo mi)) (in1 lv k.val (.int x) fun lv => K nx lv st h rc rs)
  | .istore k => pI st fun x st => bb (Nat.blt k (mLo mi)) (in1 lv k (.int x) fun lv => K nx lv st h rc rs)
  | .astore_n k => pR st fun x st => bb (Nat.blt k.val (mLo mi)) (in1 lv k.val (.ref x) fun lv => K nx lv st h rc rs)
  | .astore k => pR st fun x st => bb (Nat.blt k (mLo mi)) (in1 lv k (.ref x) fun lv => K nx lv st h rc rs)
  | .lstore_n k => pL st fun x st => bb (Nat.blt (k.val + 1) (mLo mi)) (in2 lv k.val (.long x) fun lv => K nx lv st h rc rs)
  | .lstore k => pL st fun x st => bb (Nat.blt (k + 1) (mLo mi)) (in2 lv k (.long x) fun lv => K nx lv st h rc rs)
  | .iinc k n => gI lv k fun x => bb (Nat.blt k (mLo mi)) (icK n fun v => in1 lv k (.int (x + v)) fun lv => K nx lv st h rc rs)
  | .iadd => pI st fun y st => pI st fun x st => K nx lv (.int (x + y) :: st) h rc rs
  | .isub => pI st fun y st => pI st fun x st => K nx lv (.int (x - y) :: st) h rc rs
  | .imul => pI st fun y st => pI st fun x st => K nx lv (.int (x * y) :: st) h rc rs
  | .iand => pI st fun y st => pI st fun x st => K nx lv (.int (x &&& y) :: st) h rc rs
  | .ineg => pI st fun x st => K nx lv (.int (-x) :: st) h rc rs
  | .ladd => pL st fun y st => pL st fun x st => K nx lv (.long (x + y) :: st) h rc rs
  | .lsub => pL st fun y st => pL st fun x st => K nx lv (.long (x - y) :: st) h rc rs
  | .lmul => pL st fun y st => pL st fun x st => K nx lv (.long (x * y) :: st) h rc rs
  | .ldiv => pL st fun y st => pL st fun x st => ¬ y = 0 ∧ K nx lv (.long (x / y) :: st) h rc rs
  | .lrem => pL st fun y st => pL st fun x st => ¬ y = 0 ∧ K nx lv (.long (x - x / y * y) :: st) h rc rs
  | .lneg => pL st fun x st => K nx lv (.long (-x) :: st) h rc rs
  | .i2l => pI st fun x st => K nx lv (.long x.toInt64 :: st) h rc rs
  | .l2i => pL st fun x st => K nx lv (.int x.toInt32 :: st) h rc rs
  | .lcmp => pL st fun y st => pL st fun x st => K nx lv (.int (lg_cmp x y) :: st) h rc rs
  | .dup => p1 st fun v st => K nx lv (v :: v :: st) h rc rs
  | .dup2 => p1 st fun v st => p1 st fun w st => K nx lv (v :: w :: v :: w :: st) h rc rs
  | .pop => p1 st fun _ st => K nx lv st h rc rs
  | .ifCond c _ => pI st fun x st => bI c x 0 (K tg lv st h rc rs) (K nx lv st h rc rs)
  | .if_icmp c _ => pI st fun y st => pI st fun x st => bI c x y (K tg lv st h rc rs) (K nx lv st h rc rs)
  | .goto _ => K tg lv st h rc rs
  | .tableswitch _ lo hi _ => pI st fun x st => oK (lk (mSw mi) pc) fun q => (x.toInt < lo ∨ hi < x.toInt → K q.1 lv st h rc rs) ∧ sw0 q.2 lo x.toInt fun t => K t lv st h rc rs
  | .getfield idx => oK (lk (mFl mi) idx) fun q => pR st fun r st => ∃ fs v, h[r]? = some (.inr (q.1, fs)) ∧ fs[q.2]? = some v ∧ K nx lv (v :: st) h rc rs
  | .putfield idx => oK (lk (mFl mi) idx) fun q => pA st fun v st => pR st fun r st => bb (!(fin q.1 q.2) || (mAl mi && !mSt mi)) (okK (tyOf q.1 q.2) v (∃ fs, h[r]? = some (.inr (q.1, fs)) ∧ q.2 < fs.length ∧ K nx lv st (h.set r (.inr (q.1, fs.set q.2 v))) rc rs))
  | .iaload => pI st fun i st => pR st fun r st => (r = SID ∧ vp_in i sc.1 ∧ K nx lv (.int (sc.2 i.toNatClampNeg) :: st) h rc rs) ∨ ∃ n f, h[r]? = some (.inl (0, n, .inl f)) ∧ vp_in i n ∧ K nx lv (.int (f i.toNatClampNeg) :: st) h rc rs
  | .laload => pI st fun i st => pR st fun r st => ∃ n f, h[r]? = some (.inl (1, n, .inr (.inl f))) ∧ vp_in i n ∧ K nx lv (.long (f i.toNatClampNeg) :: st) h rc rs
  | .baload => pI st fun i st => pR st fun r st => ∃ n f, h[r]? = some (.inl (2, n, .inl f)) ∧ vp_in i n ∧ K nx lv (.int (f i.toNatClampNeg) :: st) h rc rs
  | .aaload => pI st fun i st => pR st fun r st => ∃ n f a, h[r]? = some (.inl (3, n, .inr (.inr (.inr (.inr f))))) ∧ vp_in i n ∧ f i.toNatClampNeg = some a ∧ K nx lv (.ref a :: st) h rc rs
  | .iastore => pI st fun x st => pI st fun i st => pR st fun r st => ∃ n f, h[r]? = some (.inl (0, n, .inl f)) ∧ vp_in i n ∧ K nx lv st (h.set r (.inl (0, n, .inl (upd f i.toNatClampNeg x)))) rc rs
  | .lastore => pL st fun x st => pI st fun i st => pR st fun r st => ∃ n f, h[r]? = some (.inl (1, n, .inr (.inl f))) ∧ vp_in i n ∧ K nx lv st (h.set r (.inl (1, n, .inr (.inl (vp_updL f i.toNatClampNeg x))))) rc rs
  | .bastore => pI st fun x st => pI st fun i st => pR st fun r st => ∃ n f, h[r]? = some (.inl (2, n, .inl f)) ∧ vp_in i n ∧ K nx lv st (h.set r (.inl (2, n, .inl (upd f i.toNatClampNeg (vp_nar .boolean x))))) rc rs
  | .aastore => pR st fun v st => pI st fun i st => pR st fun r st => ∃ n f vs, h[r]? = some (.inl (3, n, .inr (.inr (.inr (.inr f))))) ∧ h[v]? = some (.inr (2, vs)) ∧ vp_in i n ∧ K nx lv st (h.set r (.inl (3, n, .inr (.inr (.inr (.inr (va_up f i.toNatClampNeg (some v)))))))) rc rs
  | .arraylength => pR st fun r st => (r = SID ∧ K nx lv (.int (Int32.ofNat sc.1) :: st) h rc rs) ∨ ∃ kd n x, h[r]? = some (.inl (kd, n, x)) ∧ kd < 4 ∧ K nx lv (.int (Int32.ofNat n) :: st) h rc rs
  | .newarray ty => pI st fun n st => ∃ N : Nat, n = nI N ∧ N < 60000 ∧ (vld h lv st = true ∧ bb (mAl mi) (akK ty (fun _ a => sb rc 1 fun rc' => N ≤ rs ∧ K nx lv (.ref h.length :: st) (h ++ [a]) rc' (rs - N)) N))
  | .anewarray idx => pI st fun n st => ∃ N : Nat, n = nI N ∧ N < 60000 ∧ (vld h lv st = true ∧ lk (mCl mi) idx = some 2 ∧ bb (mAl mi) (sb rc 1 fun rc' => N ≤ rs ∧ K nx lv (.ref h.length :: st) (h ++ [.inl (3, N, .inr (.inr (.inr (.inr (fun _ => none)))))]) rc' (rs - N)))
  | .new idx => oE (lk (mTr mi) pc) (fun q => 5 ≤ D ∧ wt st ≤ 8 ∧ sb rc 1 (fun _ => sb rs 6 (fun _ => mTh mi = true ∧ Q (.inr q.1) h)))
    (oK (lk (mCl mi) idx) fun ci => oK (nth dfL ci) fun fs => vld h lv st = true ∧ bb (mAl mi) (sb rc 1 fun rc' => sb rs fs.length fun rs' => K nx lv (.ref h.length :: st) (h ++ [.inr (ci, fs)]) rc' rs'))
  | .invokevirtual idx => oK (lk (mMl mi) idx) fun k => oK (nth mtL k) fun mj => pN (mNp mj) [] st fun As st => pR st fun r st => ∃ fs, h[r]? = some (.inr (mCn mj, fs)) ∧ wt st ≤ 8 ∧ bb (!mSt mj && !mAl mj) (sb rc (mMc mj) fun rc' => sb rs (mMs mj) fun rs' => call k (.ref r :: As) h (bk mi Q K pc nx lv st rc' rs'))
  | .invokestatic idx => oK (lk (mMl mi) idx) fun k => bE (Nat.beq k 998) (pL st fun x st => wt st ≤ 8 ∧ K nx lv (.long (if 0 < x then x else -x) :: st) h rc rs)
    (oK (nth mtL k) fun mj => pN (mNp mj) [] st fun As st => wt st ≤ 8 ∧ bb (mSt mj && !mAl mj && !mTh mj) (sb rc (mMc mj) fun rc' => sb rs (mMs mj) fun rs' => call k As h (bk mi Q K pc nx lv st rc' rs')))
  | .invokespecial idx => oK (lk (mMl mi) idx) fun k => bE (Nat.beq k 999) (pR st fun _ st => wt st ≤ 8 ∧ K nx lv st h rc rs)
    (oK (nth mtL k) fun mj => pN (mNp mj) [] st fun As st => pR st fun r st => wt st ≤ 8 ∧ vld h lv st = true ∧ bb (mAl mi && mAl mj && !mTh mj && !mSt mj) (sb rc (mMc mj) fun rc' => sb rs (mMs mj) fun rs' => call k (.ref r :: As) h (bk mi Q K pc nx lv st rc' rs')))
  | .ireturn => pI st fun x st => pE st (rtI (mRt mi) x (Q (.inl (some (.int x))) h))
  | .lreturn => pL st fun x st => pE st (rtL (mRt mi) (Q (.inl (some (.long x))) h))
  | .areturn => pR st fun x st => pE st (rtA (mRt mi) (Q (.inl (some (.ref x))) h))
  | .return_ => pE st (rtV (mRt mi) (Q (.inl none) h))
  | _ => False
def stp (D : Nat) (call : Callee) (sc : Scr) (mi : MI) (Q : Out → PH → Prop) (K : Kt) (pc : Nat) (lv : LV) (st : List Value) (h : PH) (rc rs : Nat) : Prop :=
  oK (look (mTb mi) pc) fun q => ins D call sc mi Q K pc q.1 q.2.2.1 q.2.2.2 lv st h rc rs
/-- from here the frame comes to its end, with Q -/
def Runs (D : Nat) (call : Callee) (sc : Scr) (mi : MI) (Q : Out → PH → Prop) : Kt := fun pc lv st h rc rs =>
  ∀ P : Kt, (∀ pc lv st h rc rs, stp D call sc mi Q P pc lv st h rc rs → P pc lv st h rc rs) → P pc lv st h rc rs
/-- only a method that may throw throws -/
def qth (b : Bool) (Q : Out → PH → Prop) : Out → PH → Prop
  | .inl v, h => Q (.inl v) h
  | .inr E, h => b = true ∧ Q (.inr E) h
/-- the call of the method of that number, at most D frames deep below it -/
def wpC (sc : Scr) : Nat → Callee
  | 0 => fun _ _ _ _ => False
  | D + 1 => fun k args h Q => oK (nth mtL k) fun mi => wt args ≤ mLo mi ∧ la 0 args fun lv => Runs D (wpC sc D) sc mi (qth (mTh mi) Q) 0 lv [] h (mMc mi) (mMs mi)
def stpN (D : Nat) (call : Callee) (sc : Scr) (mi : MI) (Q : Out → PH → Prop) (K : Kt) : Nat → Kt
  | 0 => K
  | n + 1 => stp D call sc mi Q (stpN D call sc mi Q K n)
