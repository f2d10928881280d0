section STEP
variable {p : Program} {l : Launch} {e : Env} {R : Room} {s : State} {m : MethodId} {args : Array Value} {below : List Frame} {meth : Method} {c : Code}
variable {dC : Nat → ClassId} {dI : Nat → Nat → Nat} {cy : Nat → ClassId} {sa : Nat → Nat} {B b : Nat} {sc : Scr}
def okB (mi : MI) : Prop := (∀ w ∈ needB mi, w ∈ lw_tbl ∧ goodWord w = true) ∧ ((mTb mi).all fun c => c.all (rowOK mi)) = true ∧ flOK mi = true ∧ nmOK mi = true ∧ thOK mi = true
def TblOK : Prop := (∀ mi ∈ mtL, okB mi) ∧ (∀ k mj, k < 157 → nth mtL k = some mj → ∀ w ∈ need mj, w ∈ lw_tbl ∧ goodWord w = true) ∧ (∀ ci, ci < 5 → ∀ w ∈ u_ws (cTn ci).1 (cTn ci).2.1 (cTn ci).2.2, w ∈ lw_tbl ∧ goodWord w = true) ∧ (∀ t ∈ [FieldType.int, .long, .boolean], Cond.arrayClass t ∈ lw_tbl)
/-- a frame of the method mi, over D frames more -/
def Ctx (p : Program) (R : Room) (s : State) (m : MethodId) (args : Array Value) (meth : Method) (c : Code) (dC : Nat → ClassId) (dI : Nat → Nat → Nat) (cy : Nat → ClassId) (sa : Nat → Nat) (B b : Nat) (sc : Scr) (D : Nat) (mi : MI) (Ts : List Cond) : Prop :=
  p.tables.exec = Jvm.exec ∧ c.code = mCd mi ∧ c.maxLocals = mLo mi ∧ s.vm.findClass (mOwn mi) = some m.cls ∧ (∀ w ∈ Ts, w.before args s = true) ∧ (∀ w, w ∈ lw_tbl → goodWord w = true → w ∈ Ts) ∧ meth.locks = false ∧ D + 1 ≤ R.frames ∧ 38 * (D + 1) ≤ R.locals ∧ VMf dC dI cy sa s ∧ HPf B b sc s s.heap ∧ (mAl mi = true → mSt mi = false → meth.name = "<init>") ∧ (mHh mi ≠ [] → c.exceptionTable.toList = tableOf (mHh mi))
theorem nth_mem {α : Type} : ∀ {l : List α} {k : Nat} {x : α}, nth l k = some x → x ∈ l
  | [], _, _, h => by cases h
  | y :: l, 0, x, h => by cases h; exact List.mem_cons_self
  | y :: l, k + 1, x, h => List.mem_cons_of_mem _ (nth_mem (l := l) (k := k) h)
theorem nth_get {α : Type} : ∀ {l : List α} {k : Nat} {x : α}, nth l k = some x → l[k]? = some x
  | [], _, _, h => by cases h
  | y :: l, 0, x, h => by cases h; rfl
  | y :: l, k + 1, x, h => by
    rw [List.getElem?_cons_succ]
    exact nth_get (l := l) (k := k) h
theorem row_of {mi : MI} (h : ((mTb mi).all fun c => c.all (rowOK mi)) = true) {pc : Nat} {i : Instr} {len nx tg : Nat} (hl : look (mTb mi) pc = some (i, len, nx, tg)) : decode (mCd mi) pc = .ok (i, len) ∧ pc + len = nx ∧ lenOK i len = true ∧ tgOK mi pc tg i = true := by
  unfold look at hl
  split at hl
  · rename_i c hc
    have h1 := List.all_eq_true.mp (List.all_eq_true.mp h c (nth_mem hc)) _ (lk_mem hl)
    unfold rowOK at h1
    simp only [Bool.and_eq_true, decide_eq_true_eq] at h1
    exact ⟨h1.1.1.1, Nat.eq_of_beq_eq_true h1.1.1.2, h1.1.2, h1.2⟩
  · cases hl
theorem sub1 {ad : Nat → Nat} {lv lv' : LV} {i : Nat} {v : Value} (h : ∀ q ∈ lv', q = (i, v) ∨ (q ∈ lv ∧ q.1 ≠ i ∧ ¬ (q.1 + 1 = i ∧ q.2.category = 2))) : ∀ q ∈ mvl ad lv', q ∈ (i, mv ad v) :: (mvl ad lv).filter (fun q => !(q.1 == i) && !(q.1 + 1 == i && q.2.category == 2)) := by
  intro q hq
  obtain ⟨q', hq', rfl⟩ := List.mem_map.mp hq
  rcases h q' hq' with rfl | ⟨h1, h2, h3⟩
  · exact List.mem_cons_self
  · refine List.mem_cons_of_mem _ (List.mem_filter.mpr ⟨mvl_mem (ad := ad) (i := q'.1) (v := q'.2) h1, ?_⟩)
    simp only [mv_cat, Bool.and_eq_true, Bool.not_eq_true', beq_eq_false_iff_ne, ne_eq, Bool.and_eq_false_iff]
    refine ⟨h2, ?_⟩
    by_cases h4 : q'.1 + 1 = i
    · exact Or.inr fun h5 => h3 ⟨h4, h5⟩
    · exact Or.inl h4
theorem sub2 {ad : Nat → Nat} {lv lv' : LV} {i : Nat} {v : Value} (h : ∀ q ∈ lv', q = (i, v) ∨ (q ∈ lv ∧ q.1 ≠ i ∧ q.1 ≠ i + 1 ∧ ¬ (q.1 + 1 = i ∧ q.2.category = 2))) : ∀ q ∈ mvl ad lv', q ∈ (i, mv ad v) :: (mvl ad lv).filter (fun q => !(q.1 == i) && (!(q.1 == i + 1) && !(q.1 + 1 == i && q.2.category == 2))) := by
  intro q hq
  obtain ⟨q', hq', rfl⟩ := List.mem_map.mp hq
  rcases h q' hq' with rfl | ⟨h1, h2, h2', h3⟩
  · exact List.mem_cons_self
  · refine List.mem_cons_of_mem _ (List.mem_filter.mpr ⟨mvl_mem (ad := ad) (i := q'.1) (v := q'.2) h1, ?_⟩)
    simp only [mv_cat, Bool.and_eq_true, Bool.not_eq_true', beq_eq_false_iff_ne, ne_eq, Bool.and_eq_false_iff]
    refine ⟨h2, h2', ?_⟩
    by_cases h4 : q'.1 + 1 = i
    · exact Or.inr fun h5 => h3 ⟨h4, h5⟩
    · exact Or.inl h4
theorem sw0_get {k : Nat → Prop} {x : Int} : ∀ {ts : List Nat} {v : Int}, sw0 ts v x k → ∀ j : Nat, j < ts.length → x = v + (j : Int) → ∃ t, ts[j]? = some t ∧ k t
  | [], _, _, j, hj, _ => absurd hj (Nat.not_lt_zero _)
  | t :: ts, v, h, 0, _, hx => ⟨t, rfl, h.1 (by rw [hx]; simp)⟩
  | t :: ts, v, h, j + 1, hj, hx => by
    obtain ⟨t', h1, h2⟩ := sw0_get h.2 j (by simpa using hj) (by rw [hx, Int.natCast_succ]; omega)
    exact ⟨t', by rw [List.getElem?_cons_succ]; exact h1, h2⟩
end STEP
