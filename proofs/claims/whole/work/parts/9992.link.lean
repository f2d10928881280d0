/-! THE LINK BETWEEN CLASS AND REFERENCE -/
def LK (W : AW) (a : RSt) : Prop := Bas W a ∧ (∀ i j, i < 4 → j < 4 → i ≠ j → W.2.2.2.1 i ≠ W.2.2.2.1 j) ∧ (∀ i, i < 4 → gS W (W.2.2.2.1 i) = shO (a.1 i) ∧ Rok (a.1 i)) ∧ (a.2.2.2.1 = true → W.2.2.2.2.2.2.1 = Int32.ofInt a.2.2.2.2.1 ∧ W.2.2.2.2.2.2.2 = Int32.ofInt a.2.2.2.2.2)
theorem Rok.cg {t t' : Nat → List V3} (h : Rok t) (e : ∀ k, k < 5 → t' k = t k) : Rok t' := by
  obtain ⟨h1, h2, h3, h4, h5, h6, h7, h8, h9⟩ := h
  have e0 := e 0 (by omega)
  have e1 := e 1 (by omega)
  have e2 := e 2 (by omega)
  have e3 := e 3 (by omega)
  have e4 := e 4 (by omega)
  refine ⟨fun k hk => by rw [e k hk]; exact h1 k hk, by rw [e0]; exact h2, by rw [e1]; exact h3, by rw [e2]; exact h4, by rw [e3, e4]; exact h5, by rw [e2]; exact h6, by rw [e3]; exact h7, by rw [e4]; exact h8, fun q k hk => ?_⟩
  rw [e k hk]
  rw [e4] at q
  exact h9 q k hk
theorem shO_cg {t t' : Nat → List V3} (e : ∀ k, k < 5 → t' k = t k) : shO t' = shO t := by
  unfold shO
  rw [e 0 (by omega), e 1 (by omega), e 2 (by omega), e 3 (by omega), e 4 (by omega)]
theorem Rok_0 : Rok (fun _ => []) := by
  refine ⟨fun k _ v hv => absurd hv List.not_mem_nil, by simp, by simp, by simp, by simp, fun v hv => absurd hv List.not_mem_nil, fun v hv => absurd hv List.not_mem_nil, fun v hv => absurd hv List.not_mem_nil, fun _ _ _ => rfl⟩
theorem LK.start : LK W0a a0r := by
  refine ⟨⟨⟨fun s k _ _ v hv => absurd hv List.not_mem_nil, fun i _ => (⟨by decide, by decide⟩ : bdI 30 0), by decide⟩, rfl, fun i _ => rfl, by decide, fun i hi => ⟨by show i < 5; omega, by show 4 ≠ i; omega⟩, by decide⟩, fun i j _ _ h => h, fun i _ => ⟨rfl, Rok_0⟩, fun h => by cases h⟩
section LINK
variable {W : AW} {a : RSt}
theorem LK.keep (h : LK W a) {i n : Nat} (hi : i < 4) (hn : n ≤ 6) {t : Nat → List V3} (ht : Rok t) {T' : Tab} (hT : ∀ s k, s < 4 → k < 5 → T' s k = if s = i then t k else a.1 s k) : LK (keepW W i n (shO t)) (T', a.2.1, n, a.2.2.2) := by
  obtain ⟨⟨⟨o1, o2, o3⟩, b2, b3, b4, b5, b6⟩, hj, hs, hg⟩ := h
  have up : ∀ j, (keepW W i n (shO t)).2.2.2.1 j = if j = i then W.2.2.2.2.1 else W.2.2.2.1 j := fun j => rfl
  refine ⟨⟨⟨fun s k h1 h2 v hv => ?_, o2, hn⟩, rfl, b3, (b5 i hi).1, fun j hj' => ?_, b6⟩, fun j k h1 h2 hne => ?_, fun j hj' => ?_, hg⟩
  · have hv : v ∈ T' s k := hv
    rw [hT s k h1 h2] at hv
    split at hv
    · exact (ht.1 k h2 v hv).1
    · exact o1 s k h1 h2 v hv
  · rw [up]
    show _ ∧ W.2.2.2.1 i ≠ _
    split
    · exact ⟨b4, (b5 i hi).2.symm⟩
    · rename_i c
      exact ⟨(b5 j hj').1, hj i j hi hj' (fun q => c q.symm)⟩
  · rw [up, up]
    split
    · rename_i c
      rw [if_neg (fun q => hne (c.trans q.symm))]
      exact (b5 k h2).2
    · split
      · exact (b5 j h1).2.symm
      · exact hj j k h1 h2 hne
  · rw [up]
    show gS (sS W W.2.2.2.2.1 (shO t)) _ = shO (T' j) ∧ Rok (T' j)
    by_cases c : j = i
    · rw [if_pos c, gS_sS]
      have e : ∀ k, k < 5 → T' j k = t k := fun k hk => by rw [hT j k hj' hk, if_pos c]
      exact ⟨(shO_cg e).symm, ht.cg e⟩
    · rw [if_neg c, gS_ne W _ (b5 j hj').2.symm]
      have e : ∀ k, k < 5 → T' j k = a.1 j k := fun k hk => by rw [hT j k hj' hk, if_neg c]
      exact ⟨(hs j hj').1.trans (shO_cg e).symm, (hs j hj').2.cg e⟩
theorem deg_eq {t : Nat → List V3} (h : Rok t) : degS (shO t) = dimI (t 4) (t 0) := by
  unfold degS dimI shO
  by_cases c : t 4 = []
  · rw [if_pos c, if_pos]
    show t 3 ++ t 4 = []
    rw [h.2.2.2.2.2.2.2.2 c 3 (by omega), c]; rfl
  · rw [if_neg c, if_neg]
    intro q
    exact c (List.append_eq_nil_iff.mp q).2
theorem emp_iff {t : Nat → List V3} (h : Rok t) : (shO t).2.2 = [] ↔ t 4 = [] := by
  show t 3 ++ t 4 = [] ↔ _
  constructor
  · intro q; exact (List.append_eq_nil_iff.mp q).2
  · intro c; rw [h.2.2.2.2.2.2.2.2 c 3 (by omega), c]; rfl
theorem ag_fin (h : LK W a) {i : Nat} (hi : i < 4) {M : Nat → List V3} {c : Nat ⊕ SH} (hc : c = clsF M) (hM : fltF M = 0 → Rok (srM M)) (lg : Nat) :
    AgF LK c (rFin a i M lg true) W a i 0 lg ∧ AgF LK c (rFin a i M lg false) W a i W.2.1 lg := by
  have e : ∀ k, stT a.1 i M i k = srM M k := fun k => if_pos rfl
  have e' : ∀ s k, s < 4 → k < 5 → stT a.1 i M s k = if s = i then srM M k else a.1 s k := fun s k _ _ => rfl
  rw [hc]
  rcases flt_3 M with z | z | z
  · have hR := hM z
    have ec : clsF M = .inr (shO (srM M)) := by unfold clsF; rw [z]; rfl
    rw [ec]
    unfold rFin
    rw [if_pos z, if_pos z]
    refine ⟨⟨rfl, ?_, h.keep hi (by omega) hR e'⟩, ⟨rfl, ?_, ?_⟩⟩
    · rw [deg_eq hR]; show dimI (stT a.1 i M i 4) (stT a.1 i M i 0) = _; rw [e, e]
    · rw [deg_eq hR]; show dimI (stT a.1 i M i 4) (stT a.1 i M i 0) = _; rw [e, e]
    · have := h.keep (n := W.2.1) hi (by rw [h.1.2.1]; exact h.1.1.2.2) hR e'
      have hn : W.2.1 = a.2.2.1 := h.1.2.1
      show LK (keepW W i W.2.1 (shO (srM M))) (stT a.1 i M, a.2)
      rw [hn] at this ⊢
      exact this
  · have ec : clsF M = .inl 3 := by unfold clsF; rw [z]; rfl
    rw [ec]
    have er : ∀ sd, rFin a i M lg sd = (lg, 0, a) := fun sd => by unfold rFin; rw [z]; rfl
    rw [er, er]
    exact ⟨⟨rfl, Or.inl ⟨rfl, rfl⟩⟩, ⟨rfl, Or.inl ⟨rfl, rfl⟩⟩⟩
  · have ec : clsF M = .inl 2 := by unfold clsF; rw [z]; rfl
    rw [ec]
    have er : ∀ sd, rFin a i M lg sd = (lg + 1, 0, a) := fun sd => by unfold rFin; rw [z]; rfl
    rw [er, er]
    exact ⟨⟨rfl, Or.inr ⟨rfl, rfl⟩⟩, ⟨rfl, Or.inr ⟨rfl, rfl⟩⟩⟩
/-- what is empty -/
theorem ag_emp (h : LK W a) {i n : Nat} (hi : i < 4) (hn : n ≤ 6) {T' : Tab} (hT : ∀ s k, s < 4 → k < 5 → T' s k = if s = i then [] else a.1 s k) (lg : Nat) : AgF LK (.inr emp) (0, -1, (T', a.2.1, n, a.2.2.2)) W a i n lg :=
  ⟨rfl, rfl, h.keep (t := fun _ => []) hi hn Rok_0 hT⟩
theorem LK.nums (h : LK W a) {i : Nat} (hi : i < 6) : bdI 30 (nm W i) := by rw [h.1.2.2.1 i hi]; exact h.1.1.2.1 i hi
theorem LK.n3 (h : LK W a) : N3 W = num3 a := by
  unfold N3 num3
  rw [h.1.2.2.1 0 (by omega), h.1.2.2.1 1 (by omega), h.1.2.2.1 2 (by omega)]
theorem LK.n3b (h : LK W a) : bdV 30 (num3 a) := ⟨h.1.1.2.1 0 (by omega), h.1.1.2.1 1 (by omega), h.1.1.2.1 2 (by omega)⟩
theorem rc_app {m n : List V3} (hm : ∀ v ∈ m, v.1 = 0) (hn : ∀ v ∈ n, 0 < v.1) : rcV 1 (m ++ n) = m.length := by
  unfold rcV
  rw [List.filter_append, List.length_append]
  have e1 : m.filter (rayV 1) = m := List.filter_eq_self.mpr fun v hv => by unfold rayV; simp [hm v hv]
  have e2 : n.filter (rayV 1) = [] := List.filter_eq_nil_iff.mpr fun v hv => by
    have := hn v hv
    unfold rayV
    simp
    omega
  rw [e1, e2]; rfl
theorem Rok.sml {t : Nat → List V3} (h : Rok t) : Sml (shO t) := by
  obtain ⟨h1, h2, h3, h4, h5, h6, h7, h8, h9⟩ := h
  refine ⟨fun v hv => (h1 0 (by omega) v hv).1, fun v hv => (h1 1 (by omega) v hv).1, fun v hv => (h1 2 (by omega) v hv).1, fun v hv => ?_, fun k hk => ?_⟩
  · rcases List.mem_append.mp hv with q | q
    · exact (h1 3 (by omega) v q).1
    · exact (h1 4 (by omega) v q).1
  · have e : rcV 1 (t 3 ++ t 4) = (t 3).length := rc_app h7 h8
    match k, hk with
    | 0, _ => show (t 0).length < 100; omega
    | 1, _ => show (t 1).length < 100; omega
    | 2, _ => show (t 2).length < 100; omega
    | 3, _ => show rcV 1 (t 3 ++ t 4) < 100; omega
    | 4, _ => show (t 3 ++ t 4).length - rcV 1 (t 3 ++ t 4) < 100; rw [List.length_append]; omega
theorem g1_ok : ∀ W a, LK W a → Bas W a ∧ (∀ i, i < 4 → Sml (gS W (W.2.2.2.1 i))) ∧ ∀ S, LK (sS W W.2.2.2.2.1 S) a := fun W a h => by
  refine ⟨h.1, fun i hi => by rw [(h.2.2.1 i hi).1]; exact (h.2.2.1 i hi).2.sml, fun S => ?_⟩
  obtain ⟨⟨o, b2, b3, b4, b5, b6⟩, hj, hs, hg⟩ := h
  refine ⟨⟨o, b2, b3, b4, b5, b6⟩, hj, fun i hi => ⟨?_, (hs i hi).2⟩, hg⟩
  have := gS_ne W S (b5 i hi).2.symm
  exact this.trans (hs i hi).1
theorem g2_ok : ∀ W a (x : Int32), LK W a → ¬ x < -30 → x ≤ 30 → W.2.1 < 6 → LK (W.1, W.2.1 + 1, upd W.2.2.1 W.2.1 x, W.2.2.2) (a.1, va_up a.2.1 a.2.2.1 x.toInt, a.2.2.1 + 1, a.2.2.2) := fun W a x h h1 h2 h3 => by
  obtain ⟨⟨⟨o1, o2, o3⟩, b2, b3, b4, b5, b6⟩, hj, hs, hg⟩ := h
  have hx : bdI 30 x.toInt := by
    have q1 : (-30 : Int32) ≤ x := Int32.not_lt.mp h1
    have q1 := Int32.le_iff_toInt_le.mp q1
    have q2 := Int32.le_iff_toInt_le.mp h2
    have e1 : (-30 : Int32).toInt = -30 := by decide
    have e2 : (30 : Int32).toInt = 30 := by decide
    exact ⟨by omega, by omega⟩
  refine ⟨⟨⟨o1, fun i hi => ?_, by show a.2.2.1 + 1 ≤ 6; omega⟩, by show W.2.1 + 1 = a.2.2.1 + 1; omega, fun i hi => ?_, b4, b5, b6⟩, hj, hs, hg⟩
  · show bdI 30 (va_up a.2.1 a.2.2.1 x.toInt i)
    unfold va_up
    split
    · exact hx
    · exact o2 i hi
  · show (upd W.2.2.1 W.2.1 x i).toInt = va_up a.2.1 a.2.2.1 x.toInt i
    unfold upd va_up
    rw [b2]
    split
    · rfl
    · exact b3 i hi
theorem g3_ok : ∀ W a, LK W a → LK (W.1, 0, W.2.2) (s0 a) := fun W a h => by
  obtain ⟨⟨⟨o1, o2, o3⟩, b2, b3, b4, b5, b6⟩, hj, hs, hg⟩ := h
  exact ⟨⟨⟨o1, o2, by show 0 ≤ 6; omega⟩, rfl, b3, b4, b5, b6⟩, hj, hs, hg⟩
theorem LK.put (h : LK W a) {i : Nat} (hi : i < 4) {t : Nat → List V3} (ht : Rok t) {T' : Tab} (hT : ∀ s k, s < 4 → k < 5 → T' s k = if s = i then t k else a.1 s k) : LK (sS W (W.2.2.2.1 i) (shO t)) (T', a.2) := by
  obtain ⟨⟨⟨o1, o2, o3⟩, b2, b3, b4, b5, b6⟩, hj, hs, hg⟩ := h
  refine ⟨⟨⟨fun s k h1 h2 v hv => ?_, o2, o3⟩, b2, b3, b4, b5, b6⟩, hj, fun j hj' => ?_, hg⟩
  · have hv : v ∈ T' s k := hv
    rw [hT s k h1 h2] at hv
    split at hv
    · exact (ht.1 k h2 v hv).1
    · exact o1 s k h1 h2 v hv
  · show gS (sS W (W.2.2.2.1 i) (shO t)) (W.2.2.2.1 j) = shO (T' j) ∧ Rok (T' j)
    by_cases c : j = i
    · subst c
      rw [gS_sS]
      have e : ∀ k, k < 5 → T' j k = t k := fun k hk => by rw [hT j k hj' hk, if_pos rfl]
      exact ⟨(shO_cg e).symm, ht.cg e⟩
    · rw [gS_ne W _ (hj j i hj' hi c)]
      have e : ∀ k, k < 5 → T' j k = a.1 j k := fun k hk => by rw [hT j k hj' hk, if_neg c]
      exact ⟨(hs j hj').1.trans (shO_cg e).symm, (hs j hj').2.cg e⟩
def plT : Nat → List V3
  | 2 => [(0, 1, 0), (0, 0, 1)]
  | 4 => [(1, 0, 0)]
  | _ => []
theorem Rok_pl : Rok plT := by
  refine ⟨fun k hk v hv => ?_, by decide, by decide, by decide, by decide, by decide, by decide, by decide, fun q => by cases q⟩
  match k, hk, hv with
  | 0, _, hv => exact absurd hv List.not_mem_nil
  | 1, _, hv => exact absurd hv List.not_mem_nil
  | 2, _, hv =>
    have : v = (0, 1, 0) ∨ v = (0, 0, 1) := by simpa [plT] using hv
    rcases this with rfl | rfl
    · exact ⟨⟨⟨by decide, by decide⟩, ⟨by decide, by decide⟩, ⟨by decide, by decide⟩⟩, by simp⟩
    · exact ⟨⟨⟨by decide, by decide⟩, ⟨by decide, by decide⟩, ⟨by decide, by decide⟩⟩, by simp⟩
  | 3, _, hv => exact absurd hv List.not_mem_nil
  | 4, _, hv =>
    have : v = (1, 0, 0) := by simpa [plT] using hv
    rw [this]
    exact ⟨e0_bd (by omega), by simp⟩
theorem pl_M : ∀ k, k < 5 → ofC [] k = plT k
  | 0, _ => by decide
  | 1, _ => by decide
  | 2, _ => by decide
  | 3, _ => by decide
  | 4, _ => by decide
theorem g4_ok : okC2 [] ∧ ∀ W a i p, LK W a → i < 4 → LK (sS W (W.2.2.2.1 i) (setS (bI01 p))) (setT a.1 i p, a.2) := by
  refine ⟨okC2_of (fun _ q => absurd q List.not_mem_nil) (fun _ q => absurd q List.not_mem_nil) (by decide), fun W a i p h hi => ?_⟩
  cases p with
  | false => exact h.put hi (t := fun _ => []) Rok_0 fun s k _ _ => rfl
  | true =>
    have e : setS (bI01 true) = shO plT := by decide
    rw [e]
    refine h.put hi Rok_pl fun s k hs hk => ?_
    have f0 : fltF (ofC []) = 0 := by decide
    show upT (drT a.1 i) i (ofC []) s k = _
    unfold upT
    rw [if_pos f0]
    unfold stT drT
    by_cases c : s = i
    · rw [if_pos c, if_pos c, pl_M k hk]
      match k, hk with
      | 0, _ => decide
      | 1, _ => decide
      | 2, _ => decide
      | 3, _ => decide
      | 4, _ => decide
    · rw [if_neg c, if_neg c, if_neg c]
theorem g10_ok : ∀ W a, LK W a → a.2.2.2.1 = true → W.2.2.2.2.2.2.1 = Int32.ofInt a.2.2.2.2.1 ∧ W.2.2.2.2.2.2.2 = Int32.ofInt a.2.2.2.2.2 := fun _ _ h => h.2.2.2
theorem g11_ok : ∀ W a i, LK W a → i < 4 → (decide (¬ (gS W (W.2.2.2.1 i)).2.2 = []) && alB (gS W (W.2.2.2.1 i)).1.1 (gS W (W.2.2.2.1 i)).1.2 (N3 W)) = hoB a.1 i (num3 a) := fun W a i h hi => by
  obtain ⟨e, hR⟩ := h.2.2.1 i hi
  rw [e, h.n3]
  unfold hoB alB alL alE
  congr 1
  exact decide_eq_decide.mpr (not_congr (emp_iff hR))
theorem mem_agL {v : V3} : ∀ {vs G : List V3}, v ∈ agL G vs ↔ v ∈ G ∨ (v ∈ vs ∧ v ≠ O3)
  | [], G => ⟨Or.inl, fun q => q.elim id fun q => absurd q.1 List.not_mem_nil⟩
  | w :: vs, G => by
    show v ∈ agL (agF G w) vs ↔ _
    rw [mem_agL]
    have k : v ∈ agF G w ↔ v ∈ G ∨ (v = w ∧ v ≠ O3) := by
      unfold agF
      split
      · rename_i c
        exact ⟨Or.inl, fun q => q.elim id fun q => absurd (q.1.trans c) q.2⟩
      · rename_i c
        rw [List.mem_append, List.mem_singleton]
        exact or_congr Iff.rfl ⟨fun q => ⟨q, by rw [q]; exact c⟩, fun q => q.1⟩
    rw [k, List.mem_cons]
    constructor
    · rintro ((q | q) | q)
      · exact Or.inl q
      · exact Or.inr ⟨Or.inl q.1, q.2⟩
      · exact Or.inr ⟨Or.inr q.1, q.2⟩
    · rintro (q | ⟨q | q, q'⟩)
      · exact Or.inl (Or.inl q)
      · exact Or.inl (Or.inr ⟨q, q'⟩)
      · exact Or.inr ⟨q, q'⟩
theorem neg_l {v : V3} (h : v.1 = 0) : ((0, -v.2.1, -v.2.2) : V3) = neg3 v := by
  unfold neg3
  rw [h]; rfl
theorem mem_gnL {T : Tab} {s : Nat} (h : Rok (T s)) {v : V3} : v ∈ gnL T s ↔ v ∈ rowsC (T s 2) (T s 3 ++ T s 4) := by
  unfold gnL lnG
  rw [mem_rowsC, List.mem_append, List.mem_flatMap]
  refine or_congr ?_ Iff.rfl
  constructor
  · rintro ⟨l, hl, q⟩
    refine ⟨l, hl, ?_⟩
    rw [neg_l (h.2.2.2.2.2.1 l hl)] at q
    simpa using q
  · rintro ⟨l, hl, q⟩
    refine ⟨l, hl, ?_⟩
    rw [neg_l (h.2.2.2.2.2.1 l hl)]
    simpa using q
theorem neg_O {v : V3} (h : v ≠ O3) : neg3 v ≠ O3 := fun q => h (by rw [← neg_neg3 v, q]; rfl)
theorem rows_ne {L E : List V3} (h1 : ∀ v ∈ L, v ≠ O3) (h2 : ∀ v ∈ E, v ≠ O3) : ∀ v ∈ rowsC L E, v ≠ O3 := fun v hv => by
  rcases mem_rowsC.mp hv with ⟨l, hl, rfl | rfl⟩ | q
  · exact h1 _ hl
  · exact neg_O (h1 _ hl)
  · exact h2 v q
theorem gn_ne {t : Nat → List V3} (h : Rok t) : ∀ v ∈ rowsC (t 2) (t 3 ++ t 4), v ≠ O3 := rows_ne (fun v hv => (h.1 2 (by omega) v hv).2) fun v hv => (List.mem_append.mp hv).elim (fun q => (h.1 3 (by omega) v q).2) (fun q => (h.1 4 (by omega) v q).2)
theorem mem_agn {T : Tab} {s : Nat} (h : Rok (T s)) {v : V3} : v ∈ agL [] (gnL T s) ↔ v ∈ rowsC (T s 2) (T s 3 ++ T s 4) := by
  rw [mem_agL, mem_gnL h]
  exact ⟨fun q => q.elim (fun q => absurd q List.not_mem_nil) fun q => q.1, fun q => Or.inr ⟨q, gn_ne h v q⟩⟩
theorem g12_ok : ∀ W a i k, LK W a → i < 4 → k < 4 → (decide ((gS W (W.2.2.2.1 k)).2.2 = []) || (decide (¬ (gS W (W.2.2.2.1 i)).2.2 = []) && aaB (gS W (W.2.2.2.1 i)).1.1 (gS W (W.2.2.2.1 i)).1.2 (gS W (W.2.2.2.1 k)).2.1 (gS W (W.2.2.2.1 k)).2.2)) = (agL [] (gnL a.1 k)).all (hoB a.1 i) := fun W a i k h hi hk => by
  obtain ⟨e, hR⟩ := h.2.2.1 i hi
  obtain ⟨e', hR'⟩ := h.2.2.1 k hk
  rw [e, e']
  by_cases c : a.1 k 4 = []
  · rw [decide_eq_true ((emp_iff hR').mpr c), Bool.true_or]
    symm
    refine List.all_eq_true.mpr fun v hv => ?_
    have := (mem_agn hR').mp hv
    rw [hR'.2.2.2.2.2.2.2.2 c 2 (by omega), hR'.2.2.2.2.2.2.2.2 c 3 (by omega), c] at this
    exact absurd this List.not_mem_nil
  · rw [decide_eq_false (fun q => c ((emp_iff hR').mp q)), Bool.false_or]
    by_cases d : a.1 i 4 = []
    · rw [decide_eq_false (fun q => q ((emp_iff hR).mpr d)), Bool.false_and]
      symm
      refine List.all_eq_false.mpr ?_
      obtain ⟨p, hp⟩ := List.exists_mem_of_ne_nil _ c
      refine ⟨p, (mem_agn hR').mpr (mem_rowsC.mpr (Or.inr (List.mem_append_right _ hp))), ?_⟩
      unfold hoB
      rw [decide_eq_false (fun q => q d)]
      simp
    · rw [decide_eq_true (show ¬ (shO (a.1 i)).2.2 = [] from fun q => d ((emp_iff hR).mp q)), Bool.true_and]
      have ho : ∀ v, hoB a.1 i v = alB (a.1 i 0) (a.1 i 1) v := fun v => by
        unfold hoB alB alL alE
        rw [decide_eq_true d, Bool.true_and]
      rw [Bool.eq_iff_iff, List.all_eq_true]
      unfold aaB
      rw [Bool.and_eq_true, List.all_eq_true, List.all_eq_true]
      constructor
      · rintro ⟨q1, q2⟩ v hv
        rw [ho]
        rcases mem_rowsC.mp ((mem_agn hR').mp hv) with ⟨l, hl, rfl | rfl⟩ | q
        · exact (Bool.and_eq_true _ _ ▸ q1 _ hl).1
        · exact (Bool.and_eq_true _ _ ▸ q1 _ hl).2
        · exact q2 v q
      · intro q
        refine ⟨fun v hv => ?_, fun v hv => ?_⟩
        · rw [Bool.and_eq_true]
          refine ⟨?_, ?_⟩
          · have := q v ((mem_agn hR').mpr (mem_rowsC.mpr (Or.inl ⟨v, hv, Or.inl rfl⟩)))
            rw [ho] at this; exact this
          · have := q (neg3 v) ((mem_agn hR').mpr (mem_rowsC.mpr (Or.inl ⟨v, hv, Or.inr rfl⟩)))
            rw [ho] at this; exact this
        · have := q v ((mem_agn hR').mpr (mem_rowsC.mpr (Or.inr hv)))
          rw [ho] at this; exact this
theorem gt_r {m n : List V3} (i : Nat) : gt (m ++ n) (m.length + i) = gt n i := by
  unfold gt
  rw [List.getD_eq_getElem?_getD, List.getD_eq_getElem?_getD, List.getElem?_append_right (by omega)]
  congr 2
  omega
theorem gt_l {m n : List V3} {i : Nat} (h : i < m.length) : gt (m ++ n) i = gt m i := by
  unfold gt
  rw [List.getD_eq_getElem?_getD, List.getD_eq_getElem?_getD, List.getElem?_append_left h]
theorem g13_ok : ∀ W a i, LK W a → i < 4 → degS (gS W (W.2.2.2.1 i)) = dimI (a.1 i 4) (a.1 i 0) ∧ ∀ k, k < 5 → cntS (gS W (W.2.2.2.1 i)) k = (a.1 i k).length ∧ ∀ q, q < (a.1 i k).length → celS (gS W (W.2.2.2.1 i)) k q = gt (a.1 i k) q := fun W a i h hi => by
  obtain ⟨e, hR⟩ := h.2.2.1 i hi
  rw [e]
  have er : rcV 1 (a.1 i 3 ++ a.1 i 4) = (a.1 i 3).length := rc_app hR.2.2.2.2.2.2.1 hR.2.2.2.2.2.2.2.1
  refine ⟨deg_eq hR, fun k hk => ?_⟩
  match k, hk with
  | 0, _ => exact ⟨rfl, fun q _ => rfl⟩
  | 1, _ => exact ⟨rfl, fun q _ => rfl⟩
  | 2, _ => exact ⟨rfl, fun q _ => rfl⟩
  | 3, _ => exact ⟨er, fun q hq => gt_l hq⟩
  | 4, _ =>
    refine ⟨?_, fun q _ => ?_⟩
    · show (a.1 i 3 ++ a.1 i 4).length - rcV 1 (a.1 i 3 ++ a.1 i 4) = _
      rw [er, List.length_append]; omega
    · show gt (a.1 i 3 ++ a.1 i 4) (rcV 1 (a.1 i 3 ++ a.1 i 4) + q) = _
      rw [er]; exact gt_r q
end LINK
