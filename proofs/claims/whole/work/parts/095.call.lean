section CALLC
variable {p : Program} {l : Launch} {e : Env} {R : Room} {s : State} {m : MethodId} {args : Array Value} {below : List Frame} {meth : Method} {c : Code}
variable {dC : Nat → ClassId} {dI : Nat → Nat → Nat} {cy : Nat → ClassId} {sa : Nat → Nat} {B b : Nat} {sc : Scr}
def rOK : Instr → Option FieldType → Option Value → Prop
  | .ireturn, some .int, some (.int _) => True
  | .ireturn, some .boolean, some (.int x) => x = 0 ∨ x = 1
  | .lreturn, some .long, some (.long _) => True
  | .areturn, some (.object _), some (.ref _) => True
  | .return_, none, none => True
  | _, _, _ => False
/-- how a frame ends: Z is what its end owes -/
def HRet (p : Program) (l : Launch) (e : Env) (R : Room) (s : State) (m : MethodId) (args : Array Value) (below : List Frame) (meth : Method) (c : Code) (dC : Nat → ClassId) (dI : Nat → Nat → Nat) (cy : Nat → ClassId) (B b : Nat) (mi : MI) (n0 : Nat) (ad0 : Nat → Nat) (Q : Out → PH → Prop) (Z : State → Prop) : Prop :=
  ∀ (pc : Nat) (i : Instr) (v : Option Value) (ad : Nat → Nat) (H : Heap) (locs : List Loc) (cells slots : Nat) (h : PH) (rc rs : Nat) (ls : Array Slot), decode (mCd mi) pc = .ok (i, 1) → rOK i (mRt mi) v → Q (.inl v) h → Inv dC dI cy B b R s (mAl mi) n0 ad0 ad H locs cells slots h rc rs →
    W p l e R s m args below meth c H locs cells slots Z (F0 m pc ls ((v.map (mv ad)).toList))
def HThr (p : Program) (l : Launch) (e : Env) (R : Room) (s : State) (m : MethodId) (args : Array Value) (below : List Frame) (meth : Method) (c : Code) (dC : Nat → ClassId) (dI : Nat → Nat → Nat) (cy : Nat → ClassId) (B b : Nat) (D : Nat) (mi : MI) (n0 : Nat) (ad0 : Nat → Nat) (Q : Out → PH → Prop) (Z : State → Prop) : Prop :=
  mTh mi = true →
  (∀ (pc E ik is ic : Nat) (tx : String) (ad : Nat → Nat) (H : Heap) (locs : List Loc) (cells slots : Nat) (h : PH) (rc rs : Nat) (ls : Array Slot) (st : List Value), lk (mTr mi) pc = some (E, ik, is, ic, tx) → decode (mCd mi) pc = .ok (.new ik, 3) → decode (mCd mi) (pc + 3) = .ok (.dup, 1) → decode (mCd mi) (pc + 4) = .ok (.ldc is, 2) → decode (mCd mi) (pc + 6) = .ok (.invokespecial ic, 3) → decode (mCd mi) (pc + 9) = .ok (.athrow, 1) →
    5 ≤ D → wt st ≤ 8 → 1 ≤ rc → 6 ≤ rs → Q (.inr E) h → Inv dC dI cy B b R s (mAl mi) n0 ad0 ad H locs cells slots h rc rs → ls.size = mLo mi → W p l e R s m args below meth c H locs cells slots Z (F0 m pc ls (st.map (mv ad)))) ∧
  (∀ (pc k : Nat) (E : String) (ad : Nat → Nat) (H : Heap) (locs : List Loc) (cells slots : Nat) (h : PH) (rc rs : Nat) (ls : Array Slot) (rest : List Value) (ce : Cell) (q : Addr), exN[k]? = some E → Q (.inr k) h → Inv dC dI cy B b R s (mAl mi) n0 ad0 ad H locs cells slots h rc rs → H[q]? = some ce → ce.vm = .none → s.vm.findClass E = some ce.cls → vx_W p l e R s m args below meth c H locs cells slots Z (F0 m pc ls rest) q)
theorem vld_spec {h : PH} {lv : LV} {st : List Value} (hv : vld h lv st = true) : h.length < 1000 ∧ lv.all (fun q => vv h.length q.2) = true ∧ st.all (vv h.length) = true ∧ h.all (ve h.length) = true := by
  unfold vld at hv
  simp only [Bool.and_eq_true] at hv
  exact ⟨Nat.le_of_ble_eq_true hv.1.1.1, hv.1.1.2, hv.1.2, hv.2⟩
theorem exN_ne0 : ((List.range 5).all fun k => (List.range 5).all fun a => decide (a = k) || (exN.contains (exNm a) && !(exNm k == exNm a))) = true := by decide +kernel
theorem exN_ne (k : Nat) (hk : k < 5) (a : Nat) (ha : a < 5) (hne : a ≠ k) : exNm a ∈ exN ∧ exNm k ≠ exNm a := by
  have h := List.all_eq_true.mp (List.all_eq_true.mp exN_ne0 k (List.mem_range.mpr hk)) a (List.mem_range.mpr ha)
  simp only [decide_eq_false hne, Bool.false_or, Bool.and_eq_true] at h
  refine ⟨List.contains_iff_mem.mp h.1, fun q => ?_⟩
  rw [q] at h
  simp at h
theorem lE_ne {α : Type} {l : List α} {p q : Prop} (h : l ≠ []) : lE l p q → q := by
  cases l with
  | nil => exact absurd rfl h
  | cons => exact id
theorem nodup_pos {α : Type} : ∀ {l : List α}, l.Nodup → ∀ {i j : Nat} {x : α}, l[i]? = some x → l[j]? = some x → i = j
  | [], _, i, _, _, h, _ => by simp at h
  | y :: l, hn, 0, 0, _, _, _ => rfl
  | y :: l, hn, 0, j + 1, x, h1, h2 => by
    rw [List.getElem?_cons_succ] at h2
    cases h1
    exact absurd (List.mem_of_getElem? h2) (List.nodup_cons.mp hn).1
  | y :: l, hn, i + 1, 0, x, h1, h2 => by
    rw [List.getElem?_cons_succ] at h1
    cases h2
    exact absurd (List.mem_of_getElem? h1) (List.nodup_cons.mp hn).1
  | y :: l, hn, i + 1, j + 1, x, h1, h2 => by
    rw [List.getElem?_cons_succ] at h1 h2
    rw [nodup_pos (List.nodup_cons.mp hn).2 h1 h2]
set_option maxHeartbeats 4000000 in
/-- an exception that a callee has thrown is caught here -/
theorem catch_here {D : Nat} {mi : MI} {Ts : List Cond} {n0 : Nat} {ad0 : Nat → Nat} {Z : State → Prop} (C0 : Ctx p R s m args meth c dC dI cy sa B b sc D mi Ts) (hbo : okB mi) {pc : Nat} {lv : LV} {h' : PH} {rc rs : Nat} {k : Nat} {E : String} {ad : Nat → Nat} {H : Heap} {locs : List Loc} {cells slots : Nat} {ls : Array Slot} {rest : List Value} {ce : Cell} {q9 : Addr}
    (hE : exN[k]? = some E) (hq : oK (lk (mHd mi) k) fun q => oK (nth (mHh mi) q.1) fun r => bb (Nat.ble r.1 pc && Nat.blt pc r.2.1 && lv.all (fun z => !(isL z.2))) (rmv lv q.2.2.2 fun lv' => Sim p l e R s m args below meth c dC dI cy B b mi n0 ad0 Z q.2.2.1 lv' [] h' rc rs))
    (I : Inv dC dI cy B b R s (mAl mi) n0 ad0 ad H locs cells slots h' rc rs) (hs : srt lv) (hl : lv_has ls (mLo mi) (mvl ad lv)) (hce : H[q9]? = some ce) (hcv : ce.vm = .none) (hcl : s.vm.findClass E = some ce.cls) : vx_W p l e R s m args below meth c H locs cells slots Z (F0 m pc ls rest) q9 := by
  obtain ⟨hx, hb, hml, hown, hts, hsub, hlocks, hfr, hlo, hVM, hHP, hini, hexc⟩ := id C0
  obtain ⟨hneed, hrows, hflo, hnmo, htho⟩ := hbo
  have hw : ∀ w, w ∈ needB mi → w.before args s = true := fun w hw => hts w (hsub w (hneed w hw).1 (hneed w hw).2)
  obtain ⟨⟨r, hp, nt, kk⟩, hlk, hq⟩ := oK_spec hq
  obtain ⟨row, hrow, hq⟩ := oK_spec hq
  obtain ⟨hcov, hq⟩ := bb_spec hq
  simp only [Bool.and_eq_true] at hcov
  obtain ⟨lv', hK, hs', hm⟩ := rmv_spec hs hq
  have hrow' : (mHh mi)[r]? = some row := nth_get hrow
  have hmem : (k, r, hp, nt, kk) ∈ mHd mi := lk_mem hlk
  unfold thOK at htho
  simp only [Bool.and_eq_true, decide_eq_true_eq] at htho
  obtain ⟨⟨⟨hrange, hnodup⟩, -⟩, hall⟩ := htho
  have hthis := List.all_eq_true.mp hall _ hmem
  simp only [hrow', Bool.and_eq_true, decide_eq_true_eq, Bool.or_eq_true] at hthis
  obtain ⟨hk5, ⟨⟨hhp, hct⟩, hdecs⟩, hkk⟩ := hthis
  have hlenHd : (mHd mi).length = (mHh mi).length := by
    have := congrArg List.length hrange
    simpa using this
  have hpos : ∀ (j : Nat) (e9 : Nat × Nat × Nat × Nat × Nat), (mHd mi)[j]? = some e9 → e9.2.1 = j := by
    intro j e9 he
    have h1 := congrArg (fun l => l[j]?) hrange
    have hj : j < (mHh mi).length := by rw [← hlenHd]; exact (List.getElem?_eq_some_iff.mp he).1
    simp only [List.getElem?_map, he, Option.map_some, List.getElem?_range hj] at h1
    exact Option.some.inj h1
  have hr9 : (mHd mi)[r]? = some (k, r, hp, nt, kk) := by
    obtain ⟨j, hj⟩ := List.getElem?_of_mem hmem
    have h9 : r = j := hpos j _ hj
    rw [h9]; rw [h9] at hj; exact hj
  have hlinkOf : ∀ e9 ∈ mHd mi, (Cond.classLink (mOwn mi) ((mHh mi).getD e9.2.1 (0, 0, 0, 0)).2.2.2 (exNm e9.1)).before args s = true := fun e9 he => hw _ (by
    unfold needB
    exact List.mem_append_right _ (List.mem_map.mpr ⟨e9, he, rfl⟩))
  have hEn : exNm k = E := by unfold exNm; rw [List.getD_eq_getElem?_getD, hE]; rfl
  have hEin : E ∈ exN := List.mem_of_getElem? hE
  have hget : (mHh mi).getD r (0, 0, 0, 0) = row := by rw [List.getD_eq_getElem?_getD, hrow']; rfl
  have hrl : r < (mHh mi).length := (List.getElem?_eq_some_iff.mp hrow').1
  replace hexc := hexc (fun h9 => by rw [h9] at hrl; exact absurd hrl (Nat.not_lt_zero _))
  have hsplit : c.exceptionTable.toList = tableOf ((mHh mi).take r) ++ (⟨row.1, row.2.1, row.2.2.1, row.2.2.2⟩ : ExceptionTableEntry) :: tableOf ((mHh mi).drop (r + 1)) := by
    rw [hexc]
    have h9 : mHh mi = (mHh mi).take r ++ row :: (mHh mi).drop (r + 1) := by
      have h8 : (mHh mi)[r] = row := (List.getElem?_eq_some_iff.mp hrow').2
      rw [← h8, List.getElem_cons_drop, List.take_append_drop]
    unfold tableOf
    conv => lhs; rw [h9]
    rw [List.map_append, List.map_cons]
  have hlink := hlinkOf _ hmem
  simp only [hget, hEn] at hlink
  refine vx_catch (own := mOwn mi) (name := E) (E := E) hown (tableOf ((mHh mi).take r)) ⟨row.1, row.2.1, row.2.2.1, row.2.2.2⟩ (tableOf ((mHh mi).drop (r + 1))) hsplit ?_ ?_ hct hlink (va_Nw.use rfl (hVM.2.2.2.2.2.1 E hEin)) hce hcv hcl ?_
  · intro z hz
    unfold tableOf at hz
    obtain ⟨row2, hrow2, rfl⟩ := List.mem_map.mp hz
    obtain ⟨j, hj⟩ := List.getElem?_of_mem hrow2
    have hjr : j < r := by
      have := (List.getElem?_eq_some_iff.mp hj).1
      rw [List.length_take] at this
      omega
    have hj2 : (mHh mi)[j]? = some row2 := by
      rw [List.getElem?_take_of_lt hjr] at hj; exact hj
    obtain ⟨e9, he9⟩ : ∃ e9, (mHd mi)[j]? = some e9 := ⟨_, List.getElem?_eq_getElem (by rw [hlenHd]; omega)⟩
    have hj9 := hpos j e9 he9
    have he9m : e9 ∈ mHd mi := List.mem_of_getElem? he9
    have h9 := List.all_eq_true.mp hall _ he9m
    rw [hj9] at h9
    simp only [hj2, Bool.and_eq_true, decide_eq_true_eq, Bool.or_eq_true] at h9
    have hl9 := hlinkOf e9 he9m
    rw [hj9, show (mHh mi).getD j (0, 0, 0, 0) = row2 by rw [List.getD_eq_getElem?_getD, hj2]; rfl] at hl9
    refine Or.inr ⟨h9.2.1.1.2, exNm e9.1, hl9, ?_⟩
    have hne : e9.1 ≠ k := fun heq => by
      have h1 : ((mHd mi).map (fun e => e.1))[j]? = some k := by rw [List.getElem?_map, he9]; show some e9.1 = _; rw [heq]
      have h2 : ((mHd mi).map (fun e => e.1))[r]? = some k := by rw [List.getElem?_map, hr9]; rfl
      have := nodup_pos hnodup h1 h2
      omega
    have h5 : e9.1 < 5 := h9.1
    have hmm : exNm e9.1 ∈ exN ∧ E ≠ exNm e9.1 := by
      rw [← hEn]
      exact exN_ne k hk5 e9.1 h5 hne
    exact hVM.2.2.2.1 E hEin _ hmm.1 hmm.2
  · unfold covers
    have h1 := Nat.le_of_ble_eq_true hcov.1.1
    have h2 : pc < row.2.1 := Nat.le_of_ble_eq_true hcov.1.2
    simp [h1, h2]
  · have hall2 : ∀ q ∈ lv, ¬ q.2.category = 2 := fun q hq9 h9 => by
      have := List.all_eq_true.mp hcov.2 q hq9
      rw [isL_cat, h9] at this
      cases this
    have hsubset : ∀ q ∈ mvl ad lv', q ∈ (kk, Value.ref q9) :: (mvl ad lv).filter (fun q => !(q.1 == kk) && !(q.1 + 1 == kk && q.2.category == 2)) := by
      intro q hq9
      obtain ⟨q', hq', rfl⟩ := List.mem_map.mp hq9
      obtain ⟨h1, h2⟩ := hm q' hq'
      refine List.mem_cons_of_mem _ (List.mem_filter.mpr ⟨mvl_mem (ad := ad) (i := q'.1) (v := q'.2) h1, ?_⟩)
      have h3 := hall2 q' h1
      simp only [mv_cat, Bool.and_eq_true, Bool.not_eq_true', beq_eq_false_iff_ne, ne_eq, Bool.and_eq_false_iff]
      exact ⟨h2, Or.inr h3⟩
    show W p l e R s m args below meth c H locs cells slots Z (F0 m row.2.2.1 ls [.ref q9])
    rw [hhp]
    rcases hdecs with ⟨hd1, hd2⟩ | hd1
    · have hnt : hp + 2 = nt := Nat.eq_of_beq_eq_true hd2
      refine lv_astore hx hb hd1 hl hkk rfl (fun ls' hl' => ?_)
      rw [hnt]
      exact hK _ _ _ _ _ _ I hs' (lv_less hl' hsubset)
    · split at hd1
      · rename_i k9 hd9
        simp only [Bool.and_eq_true, decide_eq_true_eq] at hd1
        have hnt : hp + 1 = nt := Nat.eq_of_beq_eq_true hd1.2
        refine lv_astore_n hx hb hd9 hd1.1 hl hkk rfl (fun ls' hl' => ?_)
        rw [hnt]
        exact hK _ _ _ _ _ _ I hs' (lv_less hl' hsubset)
      · cases hd1
set_option maxHeartbeats 4000000 in
/-- behind a call -/
theorem call_cont {D : Nat} {mi mj : MI} {Ts : List Cond} {n0 : Nat} {ad0 : Nat → Nat} {Q : Out → PH → Prop} {Z : State → Prop} (C0 : Ctx p R s m args meth c dC dI cy sa B b sc D mi Ts) (hbo : okB mi)
    (hthr : HThr p l e R s m args below meth c dC dI cy B b D mi n0 ad0 Q Z)
    {pc : Nat} {lv : LV} {st' st0 : List Value} {h : PH} {rc rs : Nat} {ad : Nat → Nat} {H : Heap} {locs : List Loc} {cells slots : Nat} {ls : Array Slot} {a : Array Value}
    (hr : vx_Run p l e R s m args below meth c H locs cells slots (mMc mj) (mMs mj) (F0 m pc ls st0) (st'.map (mv ad)) (QcM dC dI cy B (mAl mj) h.length ad (qth (mTh mj) (bk mi Q (Sim p l e R s m args below meth c dC dI cy B b mi n0 ad0 Z) pc (pc + 3) lv st' (rc - mMc mj) (rs - mMs mj))) a) (XcM dC dI cy B (mAl mj) h.length ad (qth (mTh mj) (bk mi Q (Sim p l e R s m args below meth c dC dI cy B b mi n0 ad0 Z) pc (pc + 3) lv st' (rc - mMc mj) (rs - mMs mj)))) (AB B))
    (hmc : mMc mj ≤ rc) (hms : mMs mj ≤ rs) (hal : mAl mj = true → mAl mi = true ∧ vld h lv st' = true) (I : Inv dC dI cy B b R s (mAl mi) n0 ad0 ad H locs cells slots h rc rs) (hs : srt lv) (hl : lv_has ls (mLo mi) (mvl ad lv)) : W p l e R s m args below meth c H locs cells slots Z (F0 m pc ls st0) := by
  obtain ⟨i1, i2, i3, i4, i5, i6, i7, i8, i9⟩ := id I
  have same : ∀ ad' : Nat → Nat, (mAl mj = false → ad' = ad) → agr h.length ad ad' → mvl ad' lv = mvl ad lv ∧ st'.map (mv ad') = st'.map (mv ad) := by
    intro ad' h1 h2
    cases hj : mAl mj with
    | false => rw [h1 hj]; exact ⟨rfl, rfl⟩
    | true =>
      obtain ⟨-, v2, v3, -⟩ := vld_spec (hal hj).2
      exact ⟨vv_mvl h2 v2, vv_mvs h2 v3⟩
  have inv : ∀ (h' : PH) (ad' : Nat → Nat) (H1 : Heap) (locs1 : List Loc), (mAl mj = false → ad' = ad) → agr h.length ad ad' → h.length ≤ h'.length → va_P (dC, dI) vwCl (toW ad' cy h') H1 → va_D (AB B) (toW ad' cy h') → va_S (AB B) s.heap H1 locs1 → Inv dC dI cy B b R s (mAl mi) n0 ad0 ad' H1 locs1 (cells + mMc mj) (slots + mMs mj) h' (rc - mMc mj) (rs - mMs mj) := by
    intro h' ad' H1 locs1 h1 h2 h3 hP hD hS
    refine ⟨fun hm => ?_, fun i hi => ?_, Nat.le_trans i3 h3, (h2 SID (Or.inr rfl)).trans i4, hP, hD, hS, by omega, by omega⟩
    · cases hj : mAl mj with
      | false => rw [h1 hj]; exact i1 hm
      | true => rw [(hal hj).1] at hm; cases hm
    · exact (h2 i (hi.imp (fun q => Nat.lt_of_lt_of_le q i3) id)).trans (i2 i hi)
  refine run_go hr i7 ?_ ?_
  · intro E k h' ad' ce q9 H1 locs1 hE hq h1 h2 h3 hP hD hS hce hcv hcl
    have I' := inv h' ad' H1 locs1 h1 h2 h3 hP hD hS
    obtain ⟨-, hq⟩ := hq
    have hq : lE (mHh mi) (mTh mi = true ∧ Q (.inr k) h') _ := hq
    cases hh : mHh mi with
    | nil =>
      rw [hh] at hq
      exact (hthr hq.1).2 pc k E ad' H1 locs1 _ _ h' _ _ ls _ ce q9 hE hq.2 I' hce hcv hcl
    | cons r0 rr =>
      have hq2 := lE_ne (by rw [hh]; exact List.cons_ne_nil _ _) hq
      exact catch_here C0 hbo hE hq2 I' hs (by rw [(same ad' h1 h2).1]; exact hl) hce hcv hcl
  · intro v h' ad' H1 locs1 hq h1 h2 h3 hP hD hS
    have I' := inv h' ad' H1 locs1 h1 h2 h3 hP hD hS
    obtain ⟨e1, e2⟩ := same ad' h1 h2
    cases v with
    | none =>
      have hq : Sim p l e R s m args below meth c dC dI cy B b mi n0 ad0 Z (pc + 3) lv st' h' (rc - mMc mj) (rs - mMs mj) := hq
      have := hq ad' H1 locs1 _ _ ls I' hs (by rw [e1]; exact hl)
      rw [e2] at this
      exact this
    | some x =>
      have hq : Sim p l e R s m args below meth c dC dI cy B b mi n0 ad0 Z (pc + 3) lv (x :: st') h' (rc - mMc mj) (rs - mMs mj) := hq
      have := hq ad' H1 locs1 _ _ ls I' hs (by rw [e1]; exact hl)
      rw [List.map_cons, e2] at this
      exact this
theorem goodTs {Ts ws : List Cond} (hsub : ∀ w, w ∈ lw_tbl → goodWord w = true → w ∈ Ts) (h : ∀ w ∈ ws, w ∈ lw_tbl ∧ goodWord w = true) : GoodIn Ts ws := fun w hw => ⟨hsub w (h w hw).1 (h w hw).2, good_of_word (h w hw).2⟩
theorem wsM_good {mj : MI} (h : ∀ w ∈ need mj, w ∈ lw_tbl ∧ goodWord w = true) : ∀ w ∈ wsM mj, w ∈ lw_tbl ∧ goodWord w = true := by
  intro w hw
  rcases List.mem_cons.mp hw with rfl | hw
  · exact h _ (List.mem_append_left _ List.mem_cons_self)
  · exact List.mem_filter.mp hw
end CALLC
