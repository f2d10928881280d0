/-! edges that stand round: they make all that their sides leave -/
theorem xp_0l (v : V3) : xp O3 v = O3 := by unfold xp; refine v_ext ?_ ?_ ?_ <;> simp
theorem lin_00 (u v : V3) : lin 0 (-0) u v = O3 := by unfold lin; refine v_ext ?_ ?_ ?_ <;> simp
/-- f is 0 on u and v: it is along their cross product -/
theorem along {u v f : V3} (hu : dot f u = 0) (hv : dot f v = 0) (y : V3) : dot (xp u v) (xp u v) * dot f y = dot (xp u v) f * dot (xp u v) y := by
  have e1 : xp (xp u v) f = O3 := by rw [xp_xp, dot_comm u f, dot_comm v f, hu, hv]; exact lin_00 _ _
  generalize xp u v = w at *
  have e : dot (xp w f) (xp w y) = dot w w * dot f y - dot w y * dot f w := by unfold dot xp; grind
  rw [e1, dot_comm O3, dot_0] at e
  rw [dot_comm w f, Int.mul_comm (dot f w)]
  omega
theorem side_pos {A : V3 → Prop} {s : Int} (hs : s = 1 ∨ s = -1) {u v w x : V3} (hsd : Sd A u v) (hw : Ce A w) (hd : 0 < s * d3 u v w) (hx : Ce A x) : 0 ≤ s * d3 u v x := by
  obtain ⟨f, hf, hf0, hu, hv⟩ := hsd
  have k1 := along hu hv w
  have k2 := along hu hv x
  have k3 := along hu hv f
  rw [d3_xp] at hd ⊢
  have hc : xp u v ≠ O3 := fun q => by
    rw [q, dot_comm, dot_0] at hd
    omega
  have hcc := dd_ne hc
  have hff := dd_ne hf0
  generalize xp u v = c at *
  have fw := hw f hf
  have fx := hx f hf
  have cf : dot c f ≠ 0 := fun q => by
    rw [q, Int.zero_mul] at k3
    rcases Int.mul_eq_zero.mp k3 with h | h <;> omega
  have hpw : 0 ≤ dot c f * dot c w := by rw [← k1]; exact Int.mul_nonneg (by omega) fw
  have hpx : 0 ≤ dot c f * dot c x := by rw [← k2]; exact Int.mul_nonneg (by omega) fx
  rcases hs with rfl | rfl
  · have cfp : 0 < dot c f := by
      refine Classical.byContradiction fun hn => ?_
      have := Int.mul_neg_of_neg_of_pos (show dot c f < 0 by omega) (show 0 < dot c w by omega)
      omega
    have : 0 ≤ dot c x := by
      refine Classical.byContradiction fun hn => ?_
      have := Int.mul_neg_of_pos_of_neg cfp (show dot c x < 0 by omega)
      omega
    omega
  · have cfn : dot c f < 0 := by
      refine Classical.byContradiction fun hn => ?_
      have := Int.mul_neg_of_pos_of_neg (show 0 < dot c f by omega) (show dot c w < 0 by omega)
      omega
    have : dot c x ≤ 0 := by
      refine Classical.byContradiction fun hn => ?_
      have := Int.mul_neg_of_neg_of_pos cfn (show 0 < dot c x by omega)
      omega
    omega
theorem Ch.get {F : V3 → V3 → Prop} : ∀ {l : List V3}, Ch F l → ∀ i, i + 1 < l.length → F (gt l i) (gt l (i + 1))
  | [], _, i, h => absurd h (Nat.not_lt_zero _)
  | [_], _, i, h => absurd h (by simp)
  | x :: y :: l, hl, 0, _ => hl.1
  | x :: y :: l, hl, i + 1, h => Ch.get hl.2 i (by simpa using h)
theorem Cy.get {F : V3 → V3 → Prop} {l : List V3} (h : Cy F l) (i : Nat) (hi : i + 1 < l.length) : F (gt l i) (gt l (i + 1)) := by
  cases l with
  | nil => exact absurd hi (Nat.not_lt_zero _)
  | cons x l =>
    have := Ch.get h i (by rw [List.length_cons] at hi ⊢; rw [List.length_append]; omega)
    rw [show x :: (l ++ [x]) = (x :: l) ++ [x] from rfl, gt_app_l (by omega), gt_app_l (by omega)] at this
    exact this
theorem Cy.last {F : V3 → V3 → Prop} {l : List V3} (h : Cy F l) (hn : 0 < l.length) : F (gt l (l.length - 1)) (gt l 0) := by
  cases l with
  | nil => exact absurd hn (Nat.not_lt_zero _)
  | cons x l =>
    have := Ch.get h l.length (by rw [List.length_cons, List.length_append]; simp)
    rw [show x :: (l ++ [x]) = (x :: l) ++ [x] from rfl, gt_app_l (by simp), gt_app_r (by simp)] at this
    have e : l.length + 1 - (x :: l).length = 0 := by simp
    rw [e] at this
    exact this
/-- Cramer -/
theorem cramer (u v w x : V3) : sm (d3 u v w) x = ad (sm (d3 v w x) u) (ad (sm (d3 w u x) v) (sm (d3 u v x) w)) := by
  unfold sm ad d3 dot xp
  refine v_ext ?_ ?_ ?_ <;> grind
theorem fan {A : V3 → Prop} {E : List V3} {s : Int} (hs : s = 1 ∨ s = -1) (hn : 3 ≤ E.length) (hT : T3 s E) (hC : Cy (Sd A) E) (hE : ∀ e ∈ E, Ce A e) : ∀ x, Ce A x → Hl [] E x := by
  intro x hx
  have hm : ∀ i, i < E.length → Ce A (gt E i) := fun i hi => hE _ (gt_mem hi)
  -- consecutive edges
  have adj : ∀ i, 0 < i → i + 1 < E.length → 0 ≤ s * d3 (gt E i) (gt E (i + 1)) x := fun i h0 hi =>
    side_pos hs (hC.get i hi) (hm 0 (by omega)) (by rw [d3_cyc]; exact hT 0 i (i + 1) h0 (by omega) hi) hx
  have a0 : 0 ≤ s * d3 (gt E 0) (gt E 1) x := side_pos hs (hC.get 0 (by omega)) (hm 2 (by omega)) (hT 0 1 2 (by omega) (by omega) (by omega)) hx
  have al : 0 ≤ s * d3 (gt E (E.length - 1)) (gt E 0) x := side_pos hs (hC.last (by omega)) (hm 1 (by omega)) (by rw [d3_cyc']; exact hT 0 1 (E.length - 1) (by omega) (by omega) (by omega)) hx
  have sw : ∀ u v : V3, d3 u v x = -(d3 v u x) := fun u v => by unfold d3 dot xp; grind
  have find : ∀ m i, i + m + 1 = E.length → 0 < i → 0 ≤ s * d3 (gt E 0) (gt E i) x → 0 < m → ∃ k, 0 < k ∧ k + 1 < E.length ∧ 0 ≤ s * d3 (gt E 0) (gt E k) x ∧ s * d3 (gt E 0) (gt E (k + 1)) x ≤ 0 := by
    intro m
    induction m with
    | zero => intro i _ _ _ h; omega
    | succ m ih =>
      intro i hi h0 hd _
      by_cases c : s * d3 (gt E 0) (gt E (i + 1)) x ≤ 0
      · exact ⟨i, h0, by omega, hd, c⟩
      · by_cases hm0 : 0 < m
        · exact ih (i + 1) (by omega) (by omega) (by omega) hm0
        · have e : E.length - 1 = i + 1 := by omega
          rw [e, sw] at al
          rw [Int.mul_neg] at al
          omega
  obtain ⟨k, h0, hk, h1, h2⟩ := find (E.length - 2) 1 (by omega) (by omega) a0 (by omega)
  have hd := hT 0 k (k + 1) h0 (by omega) hk
  have h3 := adj k h0 hk
  have hss : s * s = 1 := by rcases hs with rfl | rfl <;> rfl
  refine Hl.sat hd ?_
  rw [show sm (s * d3 (gt E 0) (gt E k) (gt E (k + 1))) x = sm s (sm (d3 (gt E 0) (gt E k) (gt E (k + 1))) x) by rw [sm_sm], cramer, sm_ad, sm_ad, sm_sm, sm_sm, sm_sm]
  refine Hl.add (Hl.edge (gt_mem (by omega)) h3) (Hl.add (Hl.edge (gt_mem (by omega)) ?_) (Hl.edge (gt_mem (by omega)) h1))
  rw [sw, Int.mul_neg]
  omega
/-- two of the edges are apart -/
theorem T3.pw {s : Int} {E : List V3} (h : T3 s E) (hn : 3 ≤ E.length) : E.Pairwise (fun e f => xp e f ≠ O3) := by
  rw [List.pairwise_iff_getElem]
  intro i j hi hj hij
  have gi : gt E i = E[i] := gt_of (List.getElem?_eq_getElem hi)
  have gj : gt E j = E[j] := gt_of (List.getElem?_eq_getElem hj)
  rw [← gi, ← gj]
  intro q
  have z : ∀ w, d3 (gt E i) (gt E j) w = 0 := fun w => by rw [d3_xp, q, dot_comm, dot_0]
  by_cases c : j + 1 < E.length
  · have := h i j (j + 1) hij (by omega) c
    rw [z, Int.mul_zero] at this
    omega
  · by_cases c2 : 0 < i
    · have := h 0 i j c2 hij (by omega)
      rw [← d3_cyc, z, Int.mul_zero] at this
      omega
    · have := h i 1 j (by omega) (by omega) (by omega)
      rw [← d3_cyc', show ∀ w, d3 (gt E j) (gt E i) w = -(d3 (gt E i) (gt E j) w) from fun w => by unfold d3 dot xp; grind, z, Int.neg_zero, Int.mul_zero] at this
      omega
/-- four edges round: no row is + - + - on them -/
theorem four {s : Int} {E : List V3} (h : T3 s E) {i j k l : Nat} (hij : i < j) (hjk : j < k) (hkl : k < l) (hl : l < E.length) (a : V3) :
    (0 ≤ dot (gt E i) a → dot (gt E j) a < 0 → 0 ≤ dot (gt E k) a → ¬ dot (gt E l) a < 0) ∧ (dot (gt E i) a < 0 → 0 ≤ dot (gt E j) a → dot (gt E k) a < 0 → ¬ 0 ≤ dot (gt E l) a) := by
  have h1 := h j k l hjk hkl hl
  have h2 := h i k l (by omega) hkl hl
  have h3 := h i j l hij (by omega) hl
  have h4 := h i j k hij hjk (by omega)
  generalize gt E i = p at *
  generalize gt E j = q at *
  generalize gt E k = r at *
  generalize gt E l = t at *
  have e : d3 q r t * dot p a + d3 p q t * dot r a = d3 p r t * dot q a + d3 p q r * dot t a := by unfold d3 dot xp; grind
  have e' : s * d3 q r t * dot p a + s * d3 p q t * dot r a = s * d3 p r t * dot q a + s * d3 p q r * dot t a := by
    rw [Int.mul_assoc, Int.mul_assoc, Int.mul_assoc, Int.mul_assoc, ← Int.mul_add, ← Int.mul_add, e]
  constructor
  · intro g1 g2 g3 g4
    have := Int.mul_nonneg (show 0 ≤ s * d3 q r t by omega) g1
    have := Int.mul_nonneg (show 0 ≤ s * d3 p q t by omega) g3
    have := Int.mul_neg_of_pos_of_neg h2 g2
    have := Int.mul_neg_of_pos_of_neg h4 g4
    omega
  · intro g1 g2 g3 g4
    have := Int.mul_neg_of_pos_of_neg h1 g1
    have := Int.mul_neg_of_pos_of_neg h3 g3
    have := Int.mul_nonneg (show 0 ≤ s * d3 p r t by omega) g2
    have := Int.mul_nonneg (show 0 ≤ s * d3 p q r by omega) g4
    omega
