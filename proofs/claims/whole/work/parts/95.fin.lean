/-! WHAT THE CLASS COMES TO -/
def Rws (S T : V3 → Prop) (k1 k2 g1 g2 : List V3) : Prop :=
  Canon (Ln T) k1 ∧ k2.Nodup ∧ (∀ v, v ∈ k2 ↔ Sem T S k1 v ∧ nid v = true) ∧ Canon (Ln S) g1 ∧ g2.Nodup ∧ ∀ v, v ∈ g2 ↔ Sem S T g1 v
def fin4 (k1 k2 g1 g2 : List V3) : Nat ⊕ SH :=
  if smB (k1, k2) = true then (if smB (g1, g2) = true then (if 12 < k2.length ∨ 12 < g2.length then .inl 2 else .inr ((k1, sortE 0 k2), (g1, sortE 1 g2))) else .inl 3) else .inl 3
theorem rc_lt {l : List V3} : rcV 1 l < l.length ↔ ∃ v, v ∈ l ∧ v.1 ≠ 0 := by
  unfold rcV
  rw [List.length_filter_lt_length_iff_exists]
  unfold rayV
  simp
theorem smB_sort {c : Nat} {k1 k2 : List V3} : smB (k1, sortE c k2) = smB (k1, k2) := by
  unfold smB
  rw [(sortE_perm c k2).all_eq]
theorem dot_e0 (x : V3) : dot (1, 0, 0) x = x.1 := by unfold dot; simp
theorem big_iff {k g : LE} : big (k, g) = true ↔ (12 < k.2.length ∨ 12 < g.2.length) := by unfold big; simp
theorem cutA_all (as : List V3) : Inv_z (fun v => v ∈ as) (cutA (e3, []) as).1 (cutA (e3, []) as).2 ∧ (cutA (e3, []) as).2.length ≤ as.length := Inv_z.all as
theorem rowsC_len (L E : List V3) : (rowsC L E).length = 2 * L.length + E.length := by
  unfold rowsC rowsL
  rw [List.length_append]
  congr 1
  induction L with
  | nil => rfl
  | cons l L ih => rw [List.flatMap_cons, List.length_append, ih, List.length_cons]; simp; omega
theorem rowsC_mem {c : Nat} {L E : List V3} {v : V3} : v ∈ rowsC L (sortE c E) ↔ v ∈ rowsC L E := by
  rw [mem_rowsC, mem_rowsC, (sortE_perm c E).mem_iff]
theorem Ce_eq {A B : V3 → Prop} (h : ∀ v, A v ↔ B v) : Ce A = Ce B := funext fun _ => propext ⟨fun q a ha => q a ((h a).mpr ha), fun q a ha => q a ((h a).mp ha)⟩
theorem np_S {A : V3 → Prop} (he : A (1, 0, 0)) : ∀ x, Ln (Ce A) x → x.2.1 = 0 → x.2.2 = 0 → x = O3 := by
  intro x hx h1 h2
  have a := hx.1 _ he
  have b := hx.2 _ he
  rw [dot_neg'] at b
  rw [dot_e0] at a b
  exact v_ext (by show x.1 = 0; omega) h1 h2
theorem np_T {S T : V3 → Prop} (hD : Du S T) {p : V3} (hp : S p) (h0 : 0 < p.1) : ∀ x, Ln T x → x.2.1 = 0 → x.2.2 = 0 → x = O3 := by
  intro x hx h1 h2
  have a := hD.symm.ln hx hp
  unfold dot at a
  rw [h1, h2] at a
  refine v_ext ?_ h1 h2
  exact (Int.mul_eq_zero.mp (show p.1 * x.1 = 0 by omega)).resolve_left (by omega)
theorem finG_no {as : List V3} (he : ((1, 0, 0) : V3) ∈ as) (hl : as.length < 900) (h : ∀ x, Ce (fun v => v ∈ as) x → x.1 ≤ 0) : finG (cutA (e3, []) as) = .inr emp := by
  obtain ⟨hI, hlen⟩ := cutA_all as
  obtain ⟨_, _, m3, _⟩ := hI.settled (hI.le2 he (by simp)) (np_S he) (by omega) (Du.of _)
  unfold finG finG1
  rw [if_neg]
  intro q
  obtain ⟨v, hv, h0⟩ := rc_lt.mp q
  have hv := ((m3 v).mp ((sortE_perm 1 _).mem_iff.mp hv)).2.1
  have h1 := h v hv
  have h2 := hv _ he
  rw [dot_e0] at h2
  omega
/-- some settled edge is a point -/
theorem has_point {A T : V3 → Prop} {L' E' : List V3} (hD : Du (Ce A) T) (_hC : Canon (Ln (Ce A)) L') (hR : ∀ y, Ce (fun v => v ∈ rowsC L' E') y ↔ T y) (he : A (1, 0, 0)) {p : V3} (hp : Ce A p) (h0 : 0 < p.1) : ∃ v, v ∈ E' ∧ v.1 ≠ 0 := by
  refine Classical.byContradiction fun hn => ?_
  have hT : T (1, 0, 0) := (hD.2 _).mpr fun x hx => hx _ he
  have z : ∀ v ∈ rowsC L' E', v.1 = 0 := by
    intro v hv
    rcases mem_rowsC.mp hv with ⟨l, hl, q⟩ | q
    · have k := fun w (hw : w ∈ rowsC L' E') => (hR _).mpr hT w hw
      have k1 := k l (mem_rowsC.mpr (Or.inl ⟨l, hl, Or.inl rfl⟩))
      have k2 := k (neg3 l) (mem_rowsC.mpr (Or.inl ⟨l, hl, Or.inr rfl⟩))
      rw [dot_comm, dot_e0] at k1 k2
      have k2 : 0 ≤ -l.1 := k2
      rcases q with rfl | rfl
      · omega
      · show -l.1 = 0; omega
    · exact Classical.byContradiction fun q' => hn ⟨v, q, q'⟩
  have t := (hR (-1, 0, 0)).mp fun v hv => by unfold dot; simp [z v hv]
  have := hD.nn hp t
  unfold dot at this
  simp at this
  omega
theorem rc_stG {Z : LE} {q : V3} (hq : q ∈ (stt Z.1 Z.2).2.1) (q0 : q.1 ≠ 0) : rcV 1 (stG Z).2 < (stG Z).2.length := rc_lt.mpr ⟨q, (sortE_perm 1 _).mem_iff.mpr hq, q0⟩
theorem cutA_cons (s : LE) (a : V3) (as : List V3) : cutA s (a :: as) = cutA (cutF a s) as := rfl
theorem cutA_pl0 (as : List V3) : cutA pl0 as = cutA (e3, []) ((1, 0, 0) :: as) := (cutA_cons _ _ _).symm
theorem fin_eqG (Y Z : LE) (hp : rcV 1 (stG Y).2 < (stG Y).2.length) : (if rcV 1 (stG Y).2 < (stG Y).2.length then (if smB (stG Y) = true then finG2 (stK Z) (stG Y) else .inl 3) else .inr emp) = fin4 (stt Z.1 Z.2).1 ((stt Z.1 Z.2).2.1.filter nid) (stt Y.1 Y.2).1 (stt Y.1 Y.2).2.1 := by
  rw [if_pos hp]
  unfold finG2 fin4 stG stK
  rw [smB_sort, smB_sort]
  simp only [big_iff, (sortE_perm 0 _).length_eq, (sortE_perm 1 _).length_eq]
  generalize smB ((stt Y.1 Y.2).1, (stt Y.1 Y.2).2.1) = b1
  generalize smB ((stt Z.1 Z.2).1, (stt Z.1 Z.2).2.1.filter nid) = b2
  cases b1 <;> cases b2 <;> rfl
theorem fin_eqK (Y Z : LE) (hp : rcV 1 (stG Y).2 < (stG Y).2.length) : (if smB (stK Z) = true then finK2 (stK Z) (stG Y) else .inl 3) = fin4 (stt Z.1 Z.2).1 ((stt Z.1 Z.2).2.1.filter nid) (stt Y.1 Y.2).1 (stt Y.1 Y.2).2.1 := by
  unfold finK2
  rw [if_pos hp]
  unfold fin4 stG stK
  rw [smB_sort, smB_sort]
  simp only [big_iff, (sortE_perm 0 _).length_eq, (sortE_perm 1 _).length_eq]
theorem finG_yes {as : List V3} {T : V3 → Prop} (he : ((1, 0, 0) : V3) ∈ as) (hl : as.length < 900) (hD : Du (Ce (fun v => v ∈ as)) T) {p : V3} (hp : Ce (fun v => v ∈ as) p) (h0 : 0 < p.1) :
    ∃ k1 k2 g1 g2, Rws (Ce (fun v => v ∈ as)) T k1 k2 g1 g2 ∧ finG (cutA (e3, []) as) = fin4 k1 k2 g1 g2 := by
  obtain ⟨hI, hlen⟩ := cutA_all as
  have hl2 := hI.le2 he (by simp)
  obtain ⟨m1, m2, m3, m4, m5, m6⟩ := hI.settled hl2 (np_S he) (by omega) hD
  obtain ⟨q, hq, q0⟩ := has_point hD m1 m6 he hp h0
  have hB : Ce (fun v => v ∈ rowsC (stG (cutA (e3, []) as)).1 (stG (cutA (e3, []) as)).2) = T := funext fun y => propext (by
    rw [← m6 y]
    rw [Ce_eq (B := fun v => v ∈ rowsC (stt (cutA (e3, []) as).1 (cutA (e3, []) as).2).1 (stt (cutA (e3, []) as).1 (cutA (e3, []) as).2).2.1)]
    exact fun v => rowsC_mem)
  obtain ⟨hJ, hJl⟩ := cutA_all (rowsC (stG (cutA (e3, []) as)).1 (stG (cutA (e3, []) as)).2)
  have hBl : (rowsC (stG (cutA (e3, []) as)).1 (stG (cutA (e3, []) as)).2).length < 1000 := by
    rw [rowsC_len]
    have : (stG (cutA (e3, []) as)).2.length = (stt (cutA (e3, []) as).1 (cutA (e3, []) as).2).2.1.length := (sortE_perm 1 _).length_eq
    have h3 : (stG (cutA (e3, []) as)).1.length = (cutA (e3, []) as).1.length := m2
    omega
  have hmem : q ∈ rowsC (stG (cutA (e3, []) as)).1 (stG (cutA (e3, []) as)).2 := rowsC_mem.mpr (mem_rowsC.mpr (Or.inr hq))
  have hD2 : Du (Ce (fun v => v ∈ rowsC (stG (cutA (e3, []) as)).1 (stG (cutA (e3, []) as)).2)) (Ce (fun v => v ∈ as)) := by rw [hB]; exact hD.symm
  obtain ⟨n1, n2, n3, n4, n5, n6⟩ := hJ.settled (hJ.le2 hmem (prim_ne ((m3 q).mp hq).1)) (by rw [hB]; exact np_T hD hp h0) (by omega) hD2
  rw [hB] at n1 n3
  refine ⟨_, _, _, _, ⟨n1, n4.sublist (List.filter_sublist (p := nid)), fun v => ?_, m1, m4, m3⟩, ?_⟩
  · rw [List.mem_filter, n3 v]
  · unfold finG finG1
    exact fin_eqG _ _ (rc_stG hq q0)
theorem finK_yes {as : List V3} {S : V3 → Prop} (hl : as.length < 900) (hD : Du S (Ce (fun v => v ∈ as))) (hw : ∀ v ∈ as, 0 ≤ v.1) {p : V3} (hp : p ∈ as) (h0 : 0 < p.1) :
    ∃ k1 k2 g1 g2, Rws S (Ce (fun v => v ∈ as)) k1 k2 g1 g2 ∧ finK (cutA (e3, []) as) = fin4 k1 k2 g1 g2 := by
  obtain ⟨hI, hlen⟩ := cutA_all as
  have hpS : S p := (hD.1 p).mpr fun y hy => by rw [dot_comm]; rw [dot_comm]; have := hy p hp; rw [dot_comm]; rw [dot_comm] at this; exact this
  have hl2 := hI.le2 hp (fun q => by rw [q] at h0; exact absurd h0 (by simp))
  obtain ⟨m1, m2, m3, m4, m5, m6⟩ := hI.settled hl2 (np_T hD hpS h0) (by omega) hD.symm
  have he : Ce (fun v => v ∈ as) (1, 0, 0) := fun v hv => by rw [dot_comm, dot_e0]; exact hw v hv
  have hB : Ce (fun v => v ∈ (1, 0, 0) :: rowsC (stK (cutA (e3, []) as)).1 (stK (cutA (e3, []) as)).2) = S := funext fun y => propext (by
    rw [← m6 y]
    constructor
    · intro hy v hv
      rcases mem_rowsC.mp hv with q | q
      · exact hy v (List.mem_cons_of_mem _ (rowsC_mem.mpr (mem_rowsC.mpr (Or.inl q))))
      · by_cases c : nid v = true
        · exact hy v (List.mem_cons_of_mem _ (rowsC_mem.mpr (mem_rowsC.mpr (Or.inr (List.mem_filter.mpr ⟨q, c⟩)))))
        · have hv := (m3 v).mp q
          have c : v.2.1 = 0 ∧ v.2.2 = 0 := by unfold nid at c; simpa using c
          have g := hv.1
          unfold gcd3 at g
          rw [c.1, c.2] at g
          simp at g
          have s := hv.2.1 p hp
          unfold dot at s
          rw [c.1, c.2] at s
          simp at s
          have : v = (1, 0, 0) := by
            refine v_ext ?_ c.1 c.2
            show v.1 = 1
            have : ¬ v.1 < 0 := fun q => by
              have := Int.mul_neg_of_pos_of_neg h0 q
              omega
            omega
          rw [this]
          exact hy _ List.mem_cons_self
    · intro hy v hv
      rcases List.mem_cons.mp hv with rfl | q
      · exact (hD.nn ((m6 y).mp hy) he)
      · rcases mem_rowsC.mp (rowsC_mem.mp q) with q | q
        · exact hy v (mem_rowsC.mpr (Or.inl q))
        · exact hy v (mem_rowsC.mpr (Or.inr (List.mem_filter.mp q).1)))
  obtain ⟨hJ, hJl⟩ := cutA_all ((1, 0, 0) :: rowsC (stK (cutA (e3, []) as)).1 (stK (cutA (e3, []) as)).2)
  have hBl : ((1, 0, 0) :: rowsC (stK (cutA (e3, []) as)).1 (stK (cutA (e3, []) as)).2).length < 1000 := by
    rw [List.length_cons, rowsC_len]
    have : (stK (cutA (e3, []) as)).2.length = ((stt (cutA (e3, []) as).1 (cutA (e3, []) as).2).2.1.filter nid).length := (sortE_perm 0 _).length_eq
    have h2 := List.length_filter_le nid (stt (cutA (e3, []) as).1 (cutA (e3, []) as).2).2.1
    have h3 : (stK (cutA (e3, []) as)).1.length = (cutA (e3, []) as).1.length := m2
    omega
  have hD2 : Du (Ce (fun v => v ∈ (1, 0, 0) :: rowsC (stK (cutA (e3, []) as)).1 (stK (cutA (e3, []) as)).2)) (Ce (fun v => v ∈ as)) := by rw [hB]; exact hD
  have hmem : ((1, 0, 0) : V3) ∈ (1, 0, 0) :: rowsC (stK (cutA (e3, []) as)).1 (stK (cutA (e3, []) as)).2 := List.mem_cons_self
  obtain ⟨n1, n2, n3, n4, n5, n6⟩ := hJ.settled (hJ.le2 hmem (by simp)) (np_S hmem) (by omega) hD2
  obtain ⟨q, hq, q0⟩ := has_point hD2 n1 n6 hmem (by rw [hB]; exact hpS) h0
  rw [hB] at n1 n3
  refine ⟨_, _, _, _, ⟨m1, m4.sublist (List.filter_sublist (p := nid)), fun v => ?_, n1, n4, n3⟩, ?_⟩
  · rw [List.mem_filter, m3 v]
  · unfold finK finK1
    rw [cutA_pl0]
    exact fin_eqK _ _ (rc_stG hq q0)
theorem finK_no : finK (e3, []) = .inr emp := by rfl
theorem cutA_nil (as : List V3) : cutA ([], []) as = ([], []) := by
  induction as with
  | nil => rfl
  | cons a as ih => show cutA (cutF a ([], [])) as = _; exact ih
theorem finG_nil : finG ([], []) = .inr emp := by rfl
