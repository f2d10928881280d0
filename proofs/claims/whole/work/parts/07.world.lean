/-! the pure machine's heap in the machine's: number i lies at the address ad i -/
def mv (ad : Nat → Nat) : Value → Value
  | .ref i => .ref (ad i)
  | v => v
def cvE (ad : Nat → Nat) (cy : Nat → ClassId) : va_E → va_E
  | .inr (ci, vs) => .inr (ci, vs.map (mv ad))
  | .inl (k, n, .inr (.inr (.inr (.inr f)))) => .inl (cy k, n, .inr (.inr (.inr (.inr (fun j => (f j).map ad)))))
  | .inl (k, n, .inl f) => .inl (cy k, n, .inl f)
  | .inl (k, n, .inr (.inl f)) => .inl (cy k, n, .inr (.inl f))
  | .inl (k, n, .inr (.inr (.inl f))) => .inl (cy k, n, .inr (.inr (.inl f)))
  | .inl (k, n, .inr (.inr (.inr (.inl f)))) => .inl (cy k, n, .inr (.inr (.inr (.inl f))))
def toW (ad : Nat → Nat) (cy : Nat → ClassId) (h : PH) : va_W := h.mapIdx (fun i e => (ad i, cvE ad cy e))
def mvl (ad : Nat → Nat) (lv : LV) : LV := lv.map (fun q => (q.1, mv ad q.2))
theorem mv_cat (ad : Nat → Nat) (v : Value) : (mv ad v).category = v.category := by cases v <;> rfl
theorem wt_mv (ad : Nat → Nat) (st : List Value) : ((st.map (mv ad)).map fun v => v.category).sum = wt st := by
  unfold wt
  rw [List.map_map]
  congr 1
  exact List.map_congr_left fun v _ => mv_cat ad v
theorem toW_get {ad : Nat → Nat} {cy : Nat → ClassId} {h : PH} {i : Nat} {e : va_E} (hi : h[i]? = some e) : (toW ad cy h)[i]? = some (ad i, cvE ad cy e) := by
  unfold toW
  rw [List.getElem?_mapIdx, hi]; rfl
theorem toW_get_obj {ad : Nat → Nat} {cy : Nat → ClassId} {h : PH} {i ci : Nat} {vs : List Value} (hi : h[i]? = some (.inr (ci, vs))) : (toW ad cy h)[i]? = some (ad i, .inr (ci, vs.map (mv ad))) := toW_get hi
theorem toW_set {ad : Nat → Nat} {cy : Nat → ClassId} {h : PH} {i : Nat} {e : va_E} : (toW ad cy h).set i (ad i, cvE ad cy e) = toW ad cy (h.set i e) := by
  unfold toW
  apply List.ext_getElem?
  intro j
  rw [List.getElem?_set, List.getElem?_mapIdx, List.getElem?_mapIdx, List.getElem?_set, List.length_mapIdx]
  by_cases hij : i = j
  · subst hij
    by_cases hl : i < h.length
    · simp [hl]
    · simp [hl]
  · simp [hij]
theorem toW_app {ad : Nat → Nat} {cy : Nat → ClassId} {h : PH} {e : va_E} : toW ad cy (h ++ [e]) = toW ad cy h ++ [(ad h.length, cvE ad cy e)] := by
  unfold toW
  rw [List.mapIdx_concat]
theorem toW_length {ad : Nat → Nat} {cy : Nat → ClassId} {h : PH} : (toW ad cy h).length = h.length := by
  unfold toW
  rw [List.length_mapIdx]
/-- two books agree below n, and on the script -/
def agr (n : Nat) (ad ad' : Nat → Nat) : Prop := ∀ i, i < n ∨ i = SID → ad' i = ad i
theorem vv_mv {n : Nat} {ad ad' : Nat → Nat} (ha : agr n ad ad') {v : Value} (h : vv n v = true) : mv ad' v = mv ad v := by
  cases v with
  | ref i =>
    have h' : (Nat.blt i n || Nat.beq i SID) = true := h
    rw [Bool.or_eq_true] at h'
    have : ad' i = ad i := ha i (h'.elim (fun q => Or.inl (Nat.le_of_ble_eq_true q)) (fun q => Or.inr (Nat.eq_of_beq_eq_true q)))
    show Value.ref (ad' i) = Value.ref (ad i)
    rw [this]
  | _ => rfl
theorem vv_mvs {n : Nat} {ad ad' : Nat → Nat} (ha : agr n ad ad') {st : List Value} (h : st.all (vv n) = true) : st.map (mv ad') = st.map (mv ad) :=
  List.map_congr_left fun v hv => vv_mv ha (List.all_eq_true.mp h v hv)
theorem vv_mvl {n : Nat} {ad ad' : Nat → Nat} (ha : agr n ad ad') {lv : LV} (h : lv.all (fun q => vv n q.2) = true) : mvl ad' lv = mvl ad lv :=
  List.map_congr_left fun q hq => by rw [vv_mv ha (List.all_eq_true.mp h q hq)]
theorem vp_arr_congr {cA : ClassId} {n : Nat} {f g : Nat → Option Nat} (h : ∀ j, j < n → f j = g j) : vp_cell cA (n, .inr (.inr (.inr (.inr f)))) = vp_cell cA (n, .inr (.inr (.inr (.inr g)))) := by
  show arrV cA n (fun j => va_rf (f j)) = arrV cA n (fun j => va_rf (g j))
  unfold arrV
  congr 1
  apply Array.ext
  · simp
  · intro i h1 h2
    simp at h1
    simp [h i h1]
/-- an entry under a book that agrees: the same in the heap -/
theorem ve_at {n : Nat} {ad ad' : Nat → Nat} {cy : Nat → ClassId} {D : va_G} {cl : List vw_C} {H : Heap} (ha : agr n ad ad') {a : Nat} {e : va_E} (h : ve n e = true) (hP : va_at D cl (a, cvE ad cy e) H) : va_at D cl (a, cvE ad' cy e) H := by
  match e, h, hP with
  | .inr (ci, vs), h, hP =>
    have h1 : cvE ad' cy (.inr (ci, vs)) = cvE ad cy (.inr (ci, vs)) := by
      show (Sum.inr (ci, vs.map (mv ad')) : va_E) = Sum.inr (ci, vs.map (mv ad))
      rw [vv_mvs ha h]
    rw [h1]; exact hP
  | .inl (k, m, .inl f), _, hP => exact hP
  | .inl (k, m, .inr (.inl f)), _, hP => exact hP
  | .inl (k, m, .inr (.inr (.inl f))), _, hP => exact hP
  | .inl (k, m, .inr (.inr (.inr (.inl f)))), _, hP => exact hP
  | .inl (k, m, .inr (.inr (.inr (.inr f)))), h, hP =>
    have hP' : H[a]? = some (vp_cell (cy k) (m, .inr (.inr (.inr (.inr (fun j => (f j).map ad)))))) := hP
    show H[a]? = some (vp_cell (cy k) (m, .inr (.inr (.inr (.inr (fun j => (f j).map ad'))))))
    rw [hP']
    congr 1
    refine vp_arr_congr fun j hj => ?_
    have h' := List.all_eq_true.mp h j (List.mem_range.mpr hj)
    cases hf : f j with
    | none => rfl
    | some i =>
      rw [hf] at h'
      have h'' : (Nat.blt i n || Nat.beq i SID) = true := h'
      rw [Bool.or_eq_true] at h''
      have : ad' i = ad i := ha i (h''.elim (fun q => Or.inl (Nat.le_of_ble_eq_true q)) (fun q => Or.inr (Nat.eq_of_beq_eq_true q)))
      show some (ad i) = some (ad' i)
      rw [this]
theorem toW_ext {n : Nat} {ad ad' : Nat → Nat} {cy : Nat → ClassId} {D : va_G} {cl : List vw_C} {H : Heap} {h : PH} (ha : agr n ad ad') (hn : h.length ≤ n) (hv : h.all (ve n) = true) (hP : va_P D cl (toW ad cy h) H) : va_P D cl (toW ad' cy h) H := by
  intro k q hk
  unfold toW at hk
  rw [List.getElem?_mapIdx] at hk
  cases he : h[k]? with
  | none => rw [he] at hk; cases hk
  | some e =>
    rw [he] at hk
    have hq : (ad' k, cvE ad' cy e) = q := Option.some.inj hk
    have hkl : k < h.length := (List.getElem?_eq_some_iff.mp he).1
    have h1 := hP k _ (toW_get he)
    rw [← hq, ha k (Or.inl (Nat.lt_of_lt_of_le hkl hn))]
    exact ve_at ha (List.all_eq_true.mp hv e (List.mem_of_getElem? he)) h1
theorem toW_extD {n : Nat} {ad ad' : Nat → Nat} {cy : Nat → ClassId} {A : Nat → Prop} {h : PH} (ha : agr n ad ad') (hn : h.length ≤ n) (hD : va_D A (toW ad cy h)) : va_D A (toW ad' cy h) := by
  have key : ∀ (k : Nat) (q : Nat × va_E), (toW ad' cy h)[k]? = some q → ∃ e, (toW ad cy h)[k]? = some (q.1, e) := by
    intro k q hk
    unfold toW at hk
    rw [List.getElem?_mapIdx] at hk
    cases he : h[k]? with
    | none => rw [he] at hk; cases hk
    | some e =>
      rw [he] at hk
      have hq : (ad' k, cvE ad' cy e) = q := Option.some.inj hk
      have hkl : k < h.length := (List.getElem?_eq_some_iff.mp he).1
      refine ⟨cvE ad cy e, ?_⟩
      rw [← hq, toW_get he, ha k (Or.inl (Nat.lt_of_lt_of_le hkl hn))]
  refine ⟨fun i j p q hi hj hpq => ?_, fun k q hk => ?_⟩
  · obtain ⟨e1, h1⟩ := key i p hi
    obtain ⟨e2, h2⟩ := key j q hj
    exact hD.1 i j _ _ h1 h2 hpq
  · obtain ⟨e1, h1⟩ := key k q hk
    exact hD.2 k (q.1, e1) h1
/-- locals in the order of their numbers -/
def srt (lv : LV) : Prop := lv.Pairwise (fun a b => a.1 < b.1)
theorem isL_cat (v : Value) : isL v = (v.category == 2) := by cases v <;> rfl
theorem in1_spec : ∀ {lv : LV} {i : Nat} {v : Value} {k : LV → Prop}, srt lv → in1 lv i v k →
    ∃ lv', k lv' ∧ srt lv' ∧ ∀ q ∈ lv', q = (i, v) ∨ (q ∈ lv ∧ q.1 ≠ i ∧ ¬ (q.1 + 1 = i ∧ q.2.category = 2))
  | [], i, v, k, _, h => ⟨_, h, List.pairwise_singleton _ _, fun q hq => Or.inl (List.mem_singleton.mp hq)⟩
  | q0 :: l, i, v, k, hs, h => by
    have hs1 : ∀ b ∈ l, q0.1 < b.1 := (List.pairwise_cons.mp hs).1
    have hs2 : srt l := (List.pairwise_cons.mp hs).2
    unfold in1 at h
    cases hb : Nat.beq q0.1 i with
    | true =>
      have e0 : q0.1 = i := Nat.eq_of_beq_eq_true hb
      rw [hb] at h
      refine ⟨_, h, List.pairwise_cons.mpr ⟨fun b hb => by show i < b.1; have := hs1 b hb; omega, hs2⟩, fun q hq => ?_⟩
      rcases List.mem_cons.mp hq with h1 | h1
      · exact Or.inl h1
      · have := hs1 q h1
        exact Or.inr ⟨List.mem_cons_of_mem _ h1, by omega, by omega⟩
    | false =>
      have e0 : q0.1 ≠ i := Nat.ne_of_beq_eq_false hb
      rw [hb] at h
      cases hlt : Nat.blt i q0.1 with
      | true =>
        have e1 : i < q0.1 := Nat.le_of_ble_eq_true hlt
        simp only [hlt] at h
        refine ⟨_, h, List.pairwise_cons.mpr ⟨fun b hb => ?_, hs⟩, fun q hq => ?_⟩
        · rcases List.mem_cons.mp hb with h1 | h1
          · subst h1; exact e1
          · have := hs1 b h1; show i < b.1; omega
        · rcases List.mem_cons.mp hq with h1 | h1
          · exact Or.inl h1
          · have : q0.1 ≤ q.1 := by
              rcases List.mem_cons.mp h1 with h2 | h2
              · subst h2; exact Nat.le_refl _
              · exact Nat.le_of_lt (hs1 q h2)
            exact Or.inr ⟨h1, by omega, by omega⟩
      | false =>
        have e1 : ¬ i < q0.1 := fun q => by
          have : Nat.blt i q0.1 = true := Nat.ble_eq_true_of_le q
          rw [this] at hlt; cases hlt
        simp only [hlt] at h
        cases hd : Nat.beq (q0.1 + 1) i && isL q0.2 with
        | true =>
          simp only [hd] at h
          obtain ⟨lv', h1, h2, h3⟩ := in1_spec hs2 h
          refine ⟨lv', h1, h2, fun q hq => (h3 q hq).imp id (fun w => ⟨List.mem_cons_of_mem _ w.1, w.2⟩)⟩
        | false =>
          simp only [hd] at h
          obtain ⟨lv', h1, h2, h3⟩ := in1_spec hs2 h
          refine ⟨_, h1, List.pairwise_cons.mpr ⟨fun b hb => ?_, h2⟩, fun q hq => ?_⟩
          · rcases h3 b hb with h4 | h4
            · subst h4; show q0.1 < i; omega
            · exact hs1 b h4.1
          · rcases List.mem_cons.mp hq with h4 | h4
            · subst h4
              refine Or.inr ⟨List.mem_cons_self, e0, fun w => ?_⟩
              have h5 : Nat.beq (q.1 + 1) i = true := by rw [w.1]; exact Nat.beq_refl i
              have h6 : isL q.2 = true := by rw [isL_cat, w.2]; rfl
              rw [h5, h6] at hd; cases hd
            · exact (h3 q h4).imp id (fun w => ⟨List.mem_cons_of_mem _ w.1, w.2⟩)
theorem dr_spec {lv : LV} {i : Nat} {k : LV → Prop} (hs : srt lv) (hi : ∀ q ∈ lv, i ≤ q.1) (h : dr lv i k) : ∃ lv', k lv' ∧ srt lv' ∧ ∀ q ∈ lv', q ∈ lv ∧ q.1 ≠ i := by
  cases lv with
  | nil => exact ⟨_, h, List.Pairwise.nil, fun q hq => absurd hq List.not_mem_nil⟩
  | cons q0 l =>
    have hs1 : ∀ b ∈ l, q0.1 < b.1 := (List.pairwise_cons.mp hs).1
    have hs2 : srt l := (List.pairwise_cons.mp hs).2
    have h0 := hi q0 List.mem_cons_self
    unfold dr at h
    cases hb : Nat.beq q0.1 i with
    | true =>
      simp only [hb] at h
      exact ⟨_, h, hs2, fun q hq => ⟨List.mem_cons_of_mem _ hq, by have := hs1 q hq; omega⟩⟩
    | false =>
      have e0 : q0.1 ≠ i := Nat.ne_of_beq_eq_false hb
      simp only [hb] at h
      refine ⟨_, h, hs, fun q hq => ⟨hq, ?_⟩⟩
      rcases List.mem_cons.mp hq with h1 | h1
      · subst h1; exact e0
      · have := hs1 q h1; omega
theorem in2_spec : ∀ {lv : LV} {i : Nat} {v : Value} {k : LV → Prop}, srt lv → in2 lv i v k →
    ∃ lv', k lv' ∧ srt lv' ∧ ∀ q ∈ lv', q = (i, v) ∨ (q ∈ lv ∧ q.1 ≠ i ∧ q.1 ≠ i + 1 ∧ ¬ (q.1 + 1 = i ∧ q.2.category = 2))
  | [], i, v, k, _, h => ⟨_, h, List.pairwise_singleton _ _, fun q hq => Or.inl (List.mem_singleton.mp hq)⟩
  | q0 :: l, i, v, k, hs, h => by
    have hs1 : ∀ b ∈ l, q0.1 < b.1 := (List.pairwise_cons.mp hs).1
    have hs2 : srt l := (List.pairwise_cons.mp hs).2
    unfold in2 at h
    cases hb : Nat.beq q0.1 i with
    | true =>
      have e0 : q0.1 = i := Nat.eq_of_beq_eq_true hb
      rw [hb] at h
      obtain ⟨lv', h1, h2, h3⟩ := dr_spec hs2 (fun q hq => by have := hs1 q hq; omega) h
      refine ⟨_, h1, List.pairwise_cons.mpr ⟨fun b hb => ?_, h2⟩, fun q hq => ?_⟩
      · have := hs1 b (h3 b hb).1; show i < b.1; omega
      · rcases List.mem_cons.mp hq with h4 | h4
        · exact Or.inl h4
        · have h5 := h3 q h4
          have := hs1 q h5.1
          exact Or.inr ⟨List.mem_cons_of_mem _ h5.1, by omega, h5.2, by omega⟩
    | false =>
      have e0 : q0.1 ≠ i := Nat.ne_of_beq_eq_false hb
      rw [hb] at h
      cases hlt : Nat.blt i q0.1 with
      | true =>
        have e1 : i < q0.1 := Nat.le_of_ble_eq_true hlt
        simp only [hlt] at h
        have hall : ∀ q ∈ q0 :: l, q0.1 ≤ q.1 := fun q h1 => by
          rcases List.mem_cons.mp h1 with h2 | h2
          · subst h2; exact Nat.le_refl _
          · exact Nat.le_of_lt (hs1 q h2)
        obtain ⟨lv', h1, h2, h3⟩ := dr_spec hs (fun q hq => by have := hall q hq; omega) h
        refine ⟨_, h1, List.pairwise_cons.mpr ⟨fun b hb => ?_, h2⟩, fun q hq => ?_⟩
        · have := hall b (h3 b hb).1; show i < b.1; omega
        · rcases List.mem_cons.mp hq with h4 | h4
          · exact Or.inl h4
          · have h5 := h3 q h4
            have := hall q h5.1
            exact Or.inr ⟨h5.1, by omega, h5.2, by omega⟩
      | false =>
        have e1 : ¬ i < q0.1 := fun q => by
          have : Nat.blt i q0.1 = true := Nat.ble_eq_true_of_le q
          rw [this] at hlt; cases hlt
        simp only [hlt] at h
        cases hd : Nat.beq (q0.1 + 1) i && isL q0.2 with
        | true =>
          simp only [hd] at h
          obtain ⟨lv', h1, h2, h3⟩ := in2_spec hs2 h
          refine ⟨lv', h1, h2, fun q hq => (h3 q hq).imp id (fun w => ⟨List.mem_cons_of_mem _ w.1, w.2⟩)⟩
        | false =>
          simp only [hd] at h
          obtain ⟨lv', h1, h2, h3⟩ := in2_spec hs2 h
          refine ⟨_, h1, List.pairwise_cons.mpr ⟨fun b hb => ?_, h2⟩, fun q hq => ?_⟩
          · rcases h3 b hb with h4 | h4
            · subst h4; show q0.1 < i; omega
            · exact hs1 b h4.1
          · rcases List.mem_cons.mp hq with h4 | h4
            · subst h4
              refine Or.inr ⟨List.mem_cons_self, e0, by omega, fun w => ?_⟩
              have h5 : Nat.beq (q.1 + 1) i = true := by rw [w.1]; exact Nat.beq_refl i
              have h6 : isL q.2 = true := by rw [isL_cat, w.2]; rfl
              rw [h5, h6] at hd; cases hd
            · exact (h3 q h4).imp id (fun w => ⟨List.mem_cons_of_mem _ w.1, w.2⟩)
theorem rmv_spec : ∀ {lv : LV} {i : Nat} {k : LV → Prop}, srt lv → rmv lv i k → ∃ lv', k lv' ∧ srt lv' ∧ ∀ q ∈ lv', q ∈ lv ∧ q.1 ≠ i
  | [], i, k, _, h => ⟨_, h, List.Pairwise.nil, fun q hq => absurd hq List.not_mem_nil⟩
  | q0 :: l, i, k, hs, h => by
    have hs1 : ∀ b ∈ l, q0.1 < b.1 := (List.pairwise_cons.mp hs).1
    have hs2 : srt l := (List.pairwise_cons.mp hs).2
    unfold rmv at h
    cases hb : Nat.beq q0.1 i with
    | true =>
      have e0 : q0.1 = i := Nat.eq_of_beq_eq_true hb
      simp only [hb] at h
      exact ⟨_, h, hs2, fun q hq => ⟨List.mem_cons_of_mem _ hq, by have := hs1 q hq; omega⟩⟩
    | false =>
      have e0 : q0.1 ≠ i := Nat.ne_of_beq_eq_false hb
      simp only [hb] at h
      obtain ⟨lv', h1, h2, h3⟩ := rmv_spec hs2 h
      refine ⟨_, h1, List.pairwise_cons.mpr ⟨fun b hb => hs1 b (h3 b hb).1, h2⟩, fun q hq => ?_⟩
      rcases List.mem_cons.mp hq with h4 | h4
      · subst h4; exact ⟨List.mem_cons_self, e0⟩
      · exact ⟨List.mem_cons_of_mem _ (h3 q h4).1, (h3 q h4).2⟩
theorem lv_less {ls : Array Slot} {nL : Nat} {l l' : LV} (h : lv_has ls nL l) (hl : ∀ q ∈ l', q ∈ l) : lv_has ls nL l' := ⟨h.1, h.2.1, fun q hq => h.2.2 q (hl q hq)⟩
theorem mvl_mem {ad : Nat → Nat} {lv : LV} {i : Nat} {v : Value} (h : (i, v) ∈ lv) : (i, mv ad v) ∈ mvl ad lv := List.mem_map.mpr ⟨(i, v), h, rfl⟩
/-- the locals at a method's start -/
theorem la_spec : ∀ {vs : List Value} {i : Nat} {k : LV → Prop}, la i vs k → ∃ lv, k lv ∧ srt lv ∧ (∀ q ∈ lv, i ≤ q.1) ∧ lv = lv_args i vs
  | [], i, k, h => ⟨_, h, List.Pairwise.nil, fun q hq => absurd hq List.not_mem_nil, rfl⟩
  | v :: vs, i, k, h => by
    unfold la at h
    cases hv : isL v with
    | true =>
      simp only [hv] at h
      have hc : v.category = 2 := by rw [isL_cat] at hv; exact eq_of_beq hv
      obtain ⟨lv, h1, h2, h3, h4⟩ := la_spec h
      refine ⟨_, h1, List.pairwise_cons.mpr ⟨fun b hb => by have := h3 b hb; show i < b.1; omega, h2⟩, fun q hq => ?_, ?_⟩
      · rcases List.mem_cons.mp hq with h5 | h5
        · subst h5; exact Nat.le_refl _
        · have := h3 q h5; omega
      · unfold lv_args; rw [if_pos hc, ← h4]
    | false =>
      simp only [hv] at h
      have hc : ¬ v.category = 2 := fun q => by rw [isL_cat, q] at hv; cases hv
      obtain ⟨lv, h1, h2, h3, h4⟩ := la_spec h
      refine ⟨_, h1, List.pairwise_cons.mpr ⟨fun b hb => by have := h3 b hb; show i < b.1; omega, h2⟩, fun q hq => ?_, ?_⟩
      · rcases List.mem_cons.mp hq with h5 | h5
        · subst h5; exact Nat.le_refl _
        · have := h3 q h5; omega
      · unfold lv_args; rw [if_neg hc, ← h4]
theorem mvl_args (ad : Nat → Nat) : ∀ (vs : List Value) (i : Nat), mvl ad (lv_args i vs) = lv_args i (vs.map (mv ad))
  | [], _ => rfl
  | v :: vs, i => by
    show (i, mv ad v) :: mvl ad (lv_args _ vs) = (i, mv ad v) :: lv_args _ (vs.map (mv ad))
    rw [mv_cat, mvl_args ad vs]
theorem sl_len : ∀ (vs : List Value), (lg_sl vs).length = wt vs
  | [] => rfl
  | v :: vs => by
    have h := sl_len vs
    unfold lg_sl wt at h ⊢
    rw [List.flatMap_cons, List.length_append, h, List.map_cons, List.sum_cons]
    congr 1
    rcases lv_cat v with h1 | h1
    · rw [h1]; rfl
    · rw [h1]; rfl
