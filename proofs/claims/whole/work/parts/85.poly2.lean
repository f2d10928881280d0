/-! the same, and what is true of the new edges -/
theorem T3.nn {s : Int} {E : List V3} (h : T3 s E) {i j k : Nat} (hij : i ≤ j) (hjk : j ≤ k) (hk : k < E.length) : 0 ≤ s * d3 (gt E i) (gt E j) (gt E k) := by
  by_cases c1 : i = j
  · rw [c1, show d3 (gt E j) (gt E j) (gt E k) = 0 by unfold d3 dot xp; grind]; simp
  · by_cases c2 : j = k
    · rw [c2, show d3 (gt E i) (gt E k) (gt E k) = 0 by unfold d3 dot xp; grind]; simp
    · have := h i j k (by omega) (by omega) hk
      omega
theorem d3_lin3 (s α β : Int) (u v x y : V3) : s * d3 u v (lin α β x y) = α * (s * d3 u v x) + β * (s * d3 u v y) := by unfold d3 dot xp lin; grind
theorem d3_lin2 (s α β : Int) (u v x y : V3) : s * d3 u (lin α β x y) v = α * (s * d3 u x v) + β * (s * d3 u y v) := by unfold d3 dot xp lin; grind
theorem d3_sm3 (s g : Int) (u v x : V3) : s * d3 u v (sm g x) = g * (s * d3 u v x) := by unfold d3 dot xp sm; grind
theorem d3_sm2 (s g : Int) (u v x : V3) : s * d3 u (sm g x) v = g * (s * d3 u x v) := by unfold d3 dot xp sm; grind
theorem pos_of {g x : Int} (hg : 0 < g) (h : 0 < g * x) : 0 < x := by
  refine Classical.byContradiction fun hn => ?_
  have := Int.mul_nonneg (show 0 ≤ g by omega) (show 0 ≤ -x by omega)
  rw [Int.mul_neg] at this
  omega
section MK
variable {s : Int} {P N : List V3} {m1 m2 : V3} {g1 g2 α β γ δ : Int}
theorem la_pn (hP : P ≠ []) : la_z P = gt (P ++ N) (P.length - 1) := by
  have := List.length_pos_iff.mpr hP
  exact (gt_app_l (by omega)).symm
theorem hd_pn (hN : N ≠ []) : hd N = gt (P ++ N) P.length := by
  unfold hd
  rw [gt_app_r (Nat.le_refl _), Nat.sub_self]
theorem la_pn' (hN : N ≠ []) : la_z N = gt (P ++ N) (P.length + N.length - 1) := by
  have := List.length_pos_iff.mpr hN
  unfold la_z
  rw [gt_app_r (by omega)]
  congr 1
  omega
theorem hd_pn' (hP : P ≠ []) : hd P = gt (P ++ N) 0 := by
  have := List.length_pos_iff.mpr hP
  exact (gt_app_l (by omega)).symm
theorem w1 (hP : P ≠ []) (hN : N ≠ []) (hT : T3 s (P ++ N)) (hg : 0 < g1) (ha : 0 < α) (hb : 0 < β) (hm : sm g1 m1 = lin α β (la_z P) (hd N)) {i j : Nat} (hij : i < j) (hj : j < P.length) : 0 < s * d3 (gt P i) (gt P j) m1 := by
  have hp := List.length_pos_iff.mpr hP
  have hn := List.length_pos_iff.mpr hN
  refine pos_of hg ?_
  rw [← d3_sm3, hm, d3_lin3, la_pn (N := N) hP, hd_pn (P := P) hN, ← gt_app_l (Y := N) (show i < P.length by omega), ← gt_app_l (Y := N) hj]
  have l : (P ++ N).length = P.length + N.length := List.length_append
  have k1 := hT.nn (i := i) (j := j) (k := P.length - 1) (by omega) (by omega) (by omega)
  have k2 := hT i j P.length hij hj (by omega)
  have := Int.mul_nonneg (show 0 ≤ α by omega) k1
  have := Int.mul_pos hb k2
  omega
theorem w2 (hP : P ≠ []) (hN : N ≠ []) (hT : T3 s (P ++ N)) (hg : 0 < g2) (ha : 0 < γ) (hb : 0 < δ) (hm : sm g2 m2 = lin γ δ (la_z N) (hd P)) {i j : Nat} (hij : i < j) (hj : j < P.length) : 0 < s * d3 (gt P i) (gt P j) m2 := by
  have hp := List.length_pos_iff.mpr hP
  have hn := List.length_pos_iff.mpr hN
  refine pos_of hg ?_
  rw [← d3_sm3, hm, d3_lin3, la_pn' (P := P) hN, hd_pn' (N := N) hP, ← gt_app_l (Y := N) (show i < P.length by omega), ← gt_app_l (Y := N) hj]
  have l : (P ++ N).length = P.length + N.length := List.length_append
  have k1 := hT i j (P.length + N.length - 1) hij (by omega) (by omega)
  have k2 := hT.nn (i := 0) (j := i) (k := j) (by omega) (by omega) (by omega)
  rw [d3_cyc (gt (P ++ N) 0)]
  have := Int.mul_pos ha k1
  have := Int.mul_nonneg (show 0 ≤ δ by omega) k2
  omega
theorem w12 (hP : P ≠ []) (hN : N ≠ []) (h3 : 3 ≤ P.length + N.length) (hT : T3 s (P ++ N)) (hg : 0 < g1) (ha : 0 < α) (hb : 0 < β) (hm : sm g1 m1 = lin α β (la_z P) (hd N)) (hg2 : 0 < g2) (ha2 : 0 < γ) (hb2 : 0 < δ) (hm2 : sm g2 m2 = lin γ δ (la_z N) (hd P))
    {i : Nat} (hi : i < P.length) : 0 < s * d3 (gt P i) m1 m2 := by
  have hp := List.length_pos_iff.mpr hP
  have hn := List.length_pos_iff.mpr hN
  refine pos_of hg2 (pos_of hg ?_)
  rw [← d3_sm3, ← d3_sm2, hm, hm2, d3_lin2, d3_lin3, d3_lin3, la_pn (N := N) hP, hd_pn (P := P) hN, la_pn' (P := P) hN, hd_pn' (N := N) hP, ← gt_app_l (Y := N) hi]
  have l : (P ++ N).length = P.length + N.length := List.length_append
  rw [d3_cyc (gt (P ++ N) 0), d3_cyc (gt (P ++ N) 0)]
  have k1 := hT.nn (i := i) (j := P.length - 1) (k := P.length + N.length - 1) (by omega) (by omega) (by omega)
  have k2 := hT.nn (i := 0) (j := i) (k := P.length - 1) (by omega) (by omega) (by omega)
  have k3 := hT.nn (i := i) (j := P.length) (k := P.length + N.length - 1) (by omega) (by omega) (by omega)
  have k4 := hT.nn (i := 0) (j := i) (k := P.length) (by omega) (by omega) (by omega)
  have j1 := Int.mul_nonneg (show 0 ≤ γ by omega) k1
  have j2 := Int.mul_nonneg (show 0 ≤ δ by omega) k2
  have j3 := Int.mul_nonneg (show 0 ≤ γ by omega) k3
  have j4 := Int.mul_nonneg (show 0 ≤ δ by omega) k4
  have e1 : ∀ {x y : Int}, 0 ≤ x → 0 < y → 0 < x + y := fun h1 h2 => by omega
  have e2 : ∀ {x y : Int}, 0 < x → 0 ≤ y → 0 < x + y := fun h1 h2 => by omega
  by_cases c : i < P.length - 1
  · have k1' := hT i (P.length - 1) (P.length + N.length - 1) c (by omega) (by omega)
    exact e2 (Int.mul_pos ha (e2 (Int.mul_pos ha2 k1') j2)) (Int.mul_nonneg (by omega) (Int.add_nonneg j3 j4))
  · by_cases c2 : 2 ≤ N.length
    · have k3' := hT i P.length (P.length + N.length - 1) hi (by omega) (by omega)
      exact e1 (Int.mul_nonneg (by omega) (Int.add_nonneg j1 j2)) (Int.mul_pos hb (e2 (Int.mul_pos ha2 k3') j4))
    · have k4' := hT 0 i P.length (by omega) hi (by omega)
      exact e1 (Int.mul_nonneg (by omega) (Int.add_nonneg j1 j2)) (Int.mul_pos hb (e1 j3 (Int.mul_pos hb2 k4')))
theorem t_1 {m : V3} (hT : T3 s P) (h : ∀ i j, i < j → j < P.length → 0 < s * d3 (gt P i) (gt P j) m) : T3 s (P ++ [m]) := by
  intro i j k hij hjk hk
  rw [List.length_append, List.length_singleton] at hk
  by_cases c : k < P.length
  · rw [gt_app_l (by omega), gt_app_l (by omega), gt_app_l c]; exact hT i j k hij hjk c
  · rw [gt_app_l (by omega), gt_app_l (by omega), gt_app_r (by omega), show k - P.length = 0 by omega]
    exact h i j hij (by omega)
theorem t_2 (h1 : T3 s (P ++ [m1])) (h2 : T3 s (P ++ [m2])) (h : ∀ i, i < P.length → 0 < s * d3 (gt P i) m1 m2) : T3 s ((P ++ [m1]) ++ [m2]) := by
  refine t_1 h1 fun i j hij hj => ?_
  rw [List.length_append, List.length_singleton] at hj
  by_cases c : j < P.length
  · rw [gt_app_l (by omega), gt_app_l c]
    have := h2 i j P.length hij c (by simp)
    rw [gt_app_l (by omega), gt_app_l c, gt_at] at this
    exact this
  · rw [gt_app_l (by omega), show j = P.length by omega, gt_at]
    exact h i (by omega)
end MK
theorem abI_pos {x : Int} (h : x ≠ 0) : 0 < abI x := by unfold abI; omega
/-- the new edge between two -/
theorem cr_spec {v u a : V3} (hx : xp v u ≠ O3) (hc : (dot v a < 0 ∧ 0 < dot u a) ∨ (0 < dot v a ∧ dot u a < 0)) : ∃ g α β : Int, 0 < g ∧ 0 < α ∧ 0 < β ∧ sm g (crV v u a) = lin α β v u ∧ gcd3 (crV v u a) = 1 ∧ dot a (crV v u a) = 0 := by
  have h1 : 0 < abI (dot u a) := abI_pos (by omega)
  have h2 : 0 < abI (dot v a) := abI_pos (by omega)
  have hl : lin (abI (dot u a)) (abI (dot v a)) v u ≠ O3 := fun q => by
    have := xp_lin (abI (dot u a)) (abI (dot v a)) v u u
    rw [q, xp_0l, xp_self] at this
    have e : lin (abI (dot u a)) (abI (dot v a)) (xp v u) O3 = sm (abI (dot u a)) (xp v u) := by unfold lin sm; refine v_ext ?_ ?_ ?_ <;> simp
    rw [e] at this
    exact sm_ne (by omega) hx this.symm
  obtain ⟨g, hg, e, hp⟩ := mix_spec hl
  refine ⟨g, _, _, hg, h1, h2, e, hp, ?_⟩
  have e2 := congrArg (dot a) e
  rw [dot_sm, dot_lin] at e2
  have e3 : abI (dot u a) * dot a v + abI (dot v a) * dot a u = 0 := by
    rw [dot_comm a v, dot_comm a u]
    unfold abI
    rcases hc with ⟨c1, c2⟩ | ⟨c1, c2⟩
    · rw [show ((dot u a).natAbs : Int) = dot u a by omega, show ((dot v a).natAbs : Int) = -(dot v a) by omega, Int.mul_comm, Int.neg_mul]; omega
    · rw [show ((dot u a).natAbs : Int) = -(dot u a) by omega, show ((dot v a).natAbs : Int) = dot v a by omega, Int.neg_mul, Int.mul_comm]; omega
  rw [e3] at e2
  exact (Int.mul_eq_zero.mp e2).resolve_left (by omega)
theorem cr_edge {A : V3 → Prop} {m v u a : V3} {g α β : Int} (hg : 0 < g) (ha : 0 < α) (hb : 0 < β) (e : sm g m = lin α β v u) (h0 : dot a m = 0) (hv : Ce A v) (hu : Ce A u) : Ce (An A a) m := by
  rw [Ce.an]
  refine ⟨fun b hB => ?_, by omega⟩
  have e2 := congrArg (dot b) e
  rw [dot_sm, dot_lin] at e2
  have := Int.mul_nonneg (show 0 ≤ α by omega) (hv b hB)
  have := Int.mul_nonneg (show 0 ≤ β by omega) (hu b hB)
  refine Classical.byContradiction fun hn => ?_
  have := Int.mul_neg_of_pos_of_neg hg (show dot b m < 0 by omega)
  omega
theorem cr_z {f m v u : V3} {g α β : Int} (hg : 0 < g) (e : sm g m = lin α β v u) (hv : dot f v = 0) (hu : dot f u = 0) : dot f m = 0 := by
  have e2 := congrArg (dot f) e
  rw [dot_sm, dot_lin, hv, hu, Int.mul_zero, Int.mul_zero, Int.add_zero] at e2
  exact (Int.mul_eq_zero.mp e2).resolve_left (by omega)
theorem cr_rk {A : V3 → Prop} {m v u a : V3} {g α β : Int} (hg : 0 < g) (e : sm g m = lin α β v u) (h0 : dot a m = 0) (hs : Sd A v u) (hva : dot a v ≠ 0) : Rk (Ti (An A a) m) 2 := by
  obtain ⟨f, hf, hf0, h1, h2⟩ := hs
  refine ⟨f, a, ⟨Or.inl hf, cr_z hg e h1 h2⟩, ⟨Or.inr rfl, h0⟩, fun q => hva (par_dot hf0 q h1)⟩
theorem Ch_last {F : V3 → V3 → Prop} {x y : V3} : ∀ {X : List V3}, X ≠ [] → Ch F (X ++ [y]) → F (la_z X) x → Ch F (X ++ [x])
  | [], h, _, _ => absurd rfl h
  | [_], _, _, h => ⟨h, trivial⟩
  | _ :: b :: X, _, h1, h2 => ⟨h1.1, Ch_last (X := b :: X) (by simp) h1.2 h2⟩
theorem Ch_la {F : V3 → V3 → Prop} {y : V3} : ∀ {X : List V3}, X ≠ [] → Ch F (X ++ [y]) → F (la_z X) y
  | [], h, _ => absurd rfl h
  | [_], _, h => h.1
  | _ :: b :: X, _, h1 => Ch_la (X := b :: X) (by simp) h1.2
theorem Cy_of {F : V3 → V3 → Prop} {X : List V3} (hX : X ≠ []) : Cy F X ↔ Ch F (X ++ [hd X]) := by
  cases X with
  | nil => exact absurd rfl hX
  | cons x X => exact Iff.rfl
/-- THE CUT through edges that stand round, one of them inside -/
theorem poly_cut {A : V3 → Prop} {E : List V3} {s : Int} (h4 : ∀ e ∈ E, Ce A e ∧ gcd3 e = 1 ∧ Rk (Ti A e) 2) (hn : 3 ≤ E.length) (hT : T3 s E) (hC : Cy (Sd A) E) {a : V3} (h1 : ∃ e ∈ E, dot e a < 0) (h2 : ∃ e ∈ E, 0 < dot e a) :
    3 ≤ (ceA E a E.length).length ∧ (ceA E a E.length).length ≤ E.length + 1 ∧ T3 s (ceA E a E.length) ∧ Cy (Sd (An A a)) (ceA E a E.length) ∧ ∀ e ∈ ceA E a E.length, Ce (An A a) e ∧ gcd3 e = 1 ∧ Rk (Ti (An A a) e) 2 := by
  obtain ⟨P, N, hP, hN, pP, pN, r1, r2⟩ := block hT hn h1 (by obtain ⟨e, he, h⟩ := h2; exact ⟨e, he, by omega⟩)
  have hT' : T3 s (P ++ N) := r1.t3.mp hT
  have hC' : Cy (Sd A) (P ++ N) := r1.cy.mp hC
  have hl := r1.len
  rw [List.length_append] at hl
  have lP := List.length_pos_iff.mpr hP
  have lN := List.length_pos_iff.mpr hN
  have ha0 : a ≠ O3 := fun q => by
    obtain ⟨e, _, h⟩ := h1
    rw [q, dot_0] at h
    omega
  have mE : ∀ x, x ∈ P ∨ x ∈ N → x ∈ E := fun x hx => r1.mem.mpr (List.mem_append.mpr hx)
  have mla : la_z P ∈ P := gt_mem (by omega)
  have mhd : hd P ∈ P := gt_mem (by omega)
  have nla : la_z N ∈ N := gt_mem (by omega)
  have nhd : hd N ∈ N := gt_mem (by omega)
  -- the sides
  have hCh : Ch (Sd A) (P ++ [hd N]) ∧ Ch (Sd A) (N ++ [hd P]) := by
    obtain ⟨p, P', rfl⟩ := List.exists_cons_of_ne_nil hP
    obtain ⟨n, N', rfl⟩ := List.exists_cons_of_ne_nil hN
    rw [Cy_of (by simp)] at hC'
    have : Ch (Sd A) ((p :: P') ++ n :: (N' ++ [p])) := by rw [List.append_assoc] at hC'; exact hC'
    exact Ch_split.mp this
  have s1 := Ch_la hP hCh.1
  have s2 := Ch_la hN hCh.2
  have up : ∀ x y, Sd A x y → Sd (An A a) x y := fun _ _ => Sd.an
  have hz : ∀ {x}, dot x a = 0 → dot a x = 0 := fun h => by rw [dot_comm]; exact h
  have sa : ∀ {x y}, dot a x = 0 → dot a y = 0 → Sd (An A a) x y := fun h1 h2 => ⟨a, Or.inr rfl, ha0, h1, h2⟩
  have keep : ∀ e ∈ P, Ce (An A a) e ∧ gcd3 e = 1 ∧ Rk (Ti (An A a) e) 2 := fun e he => by
    obtain ⟨k1, k2, k3⟩ := h4 e (mE e (Or.inl he))
    exact ⟨Ce.an.mpr ⟨k1, by rw [dot_comm]; exact pP e he⟩, k2, k3.mono fun b hb => ⟨Or.inl hb.1, hb.2⟩⟩
  have pw : ∀ i j, i < j → j < (P ++ N).length → xp (gt (P ++ N) i) (gt (P ++ N) j) ≠ O3 := fun i j hij hj => by
    have := List.pairwise_iff_getElem.mp (hT'.pw (by rw [List.length_append]; omega)) i j (by omega) hj hij
    rw [gt_of (List.getElem?_eq_getElem (show i < (P ++ N).length by omega)), gt_of (List.getElem?_eq_getElem hj)]
    exact this
  have x1 : xp (la_z P) (hd N) ≠ O3 := by
    rw [la_pn (N := N) hP, hd_pn (P := P) hN]
    exact pw _ _ (by omega) (by rw [List.length_append]; omega)
  have x2 : xp (la_z N) (hd P) ≠ O3 := by
    rw [la_pn' (P := P) hN, hd_pn' (N := N) hP]
    exact xp_ne_symm (pw _ _ (by omega) (by rw [List.length_append]; omega))
  have negN := pN _ nhd
  have negL := pN _ nla
  -- the shape of the answer, from another place on
  have main : ∀ M1 M2 : List V3, ce2 true (la_z P) (hd N) a = M1 → ce2 true (la_z N) (hd P) a = M2 → M1.length ≤ 1 → M2.length ≤ 1 → 3 ≤ P.length + M1.length + M2.length →
      T3 s ((P ++ M1) ++ M2) → Cy (Sd (An A a)) ((P ++ M1) ++ M2) → (∀ e, e ∈ M1 ∨ e ∈ M2 → Ce (An A a) e ∧ gcd3 e = 1 ∧ Rk (Ti (An A a) e) 2) →
      3 ≤ (ceA E a E.length).length ∧ (ceA E a E.length).length ≤ E.length + 1 ∧ T3 s (ceA E a E.length) ∧ Cy (Sd (An A a)) (ceA E a E.length) ∧ ∀ e ∈ ceA E a E.length, Ce (An A a) e ∧ gcd3 e = 1 ∧ Rk (Ti (An A a) e) 2 := by
    intro M1 M2 e1 e2 l1 l2 l3 k1 k2 k3
    rw [e1, e2] at r2
    have hl2 := r2.len
    rw [List.length_append, List.length_append] at hl2
    refine ⟨by omega, by omega, r2.t3.mpr k1, r2.cy.mpr k2, fun e he => ?_⟩
    rcases List.mem_append.mp (r2.mem.mp he) with h | h
    · rcases List.mem_append.mp h with h | h
      · exact keep e h
      · exact k3 e (Or.inl h)
    · exact k3 e (Or.inr h)
  by_cases c1 : 0 < dot (la_z P) a
  · obtain ⟨g1, α, β, hg1, hα, hβ, em1, pm1, zm1⟩ := cr_spec x1 (Or.inr ⟨c1, negN⟩)
    have f1 : ce2 true (la_z P) (hd N) a = [crV (la_z P) (hd N) a] := by
      unfold ce2 crs
      rw [decide_eq_true (Or.inr ⟨c1, negN⟩)]; rfl
    generalize crV (la_z P) (hd N) a = m1 at *
    have sd1 : Sd (An A a) (la_z P) m1 := by
      obtain ⟨f, hf, hf0, q1, q2⟩ := s1
      exact ⟨f, Or.inl hf, hf0, q1, cr_z hg1 em1 q1 q2⟩
    have good1 : Ce (An A a) m1 ∧ gcd3 m1 = 1 ∧ Rk (Ti (An A a) m1) 2 := ⟨cr_edge hg1 hα hβ em1 zm1 (h4 _ (mE _ (Or.inl mla))).1 (h4 _ (mE _ (Or.inr nhd))).1, pm1, cr_rk hg1 em1 zm1 s1 (by rw [dot_comm]; omega)⟩
    have T1 : T3 s (P ++ [m1]) := t_1 hT'.left fun i j hij hj => w1 hP hN hT' hg1 hα hβ em1 hij hj
    by_cases c2 : 0 < dot (hd P) a
    · obtain ⟨g2, γ, δ, hg2, hγ, hδ, em2, pm2, zm2⟩ := cr_spec x2 (Or.inl ⟨negL, c2⟩)
      have f2 : ce2 true (la_z N) (hd P) a = [crV (la_z N) (hd P) a] := by
        unfold ce2 crs
        rw [decide_eq_true (Or.inl ⟨negL, c2⟩)]; rfl
      generalize crV (la_z N) (hd P) a = m2 at *
      have sd2 : Sd (An A a) m2 (hd P) := by
        obtain ⟨f, hf, hf0, q1, q2⟩ := s2
        exact ⟨f, Or.inl hf, hf0, cr_z hg2 em2 q1 q2, q2⟩
      have good2 : Ce (An A a) m2 ∧ gcd3 m2 = 1 ∧ Rk (Ti (An A a) m2) 2 := ⟨cr_edge hg2 hγ hδ em2 zm2 (h4 _ (mE _ (Or.inr nla))).1 (h4 _ (mE _ (Or.inl mhd))).1, pm2, cr_rk hg2 em2 zm2 s2 (by rw [dot_comm]; omega)⟩
      have T2 : T3 s (P ++ [m2]) := t_1 hT'.left fun i j hij hj => w2 hP hN hT' hg2 hγ hδ em2 hij hj
      refine main [m1] [m2] f1 f2 (by simp) (by simp) (by simp; omega) (t_2 T1 T2 fun i hi => w12 hP hN (by omega) hT' hg1 hα hβ em1 hg2 hγ hδ em2 hi) ?_ ?_
      · rw [Cy_of (by simp)]
        have e : hd ((P ++ [m1]) ++ [m2]) = hd P := by unfold hd; rw [List.append_assoc, gt_app_l lP]
        rw [e, show ((P ++ [m1]) ++ [m2]) ++ [hd P] = P ++ m1 :: [m2, hd P] by simp]
        exact Ch_split.mpr ⟨Ch_last hP (Ch.imp up hCh.1) sd1, sa zm1 zm2, sd2, trivial⟩
      · intro e he
        rcases he with h | h
        · rw [List.mem_singleton.mp h]; exact good1
        · rw [List.mem_singleton.mp h]; exact good2
    · have z2 : dot (hd P) a = 0 := by have := pP _ mhd; omega
      have f2 : ce2 true (la_z N) (hd P) a = [] := by
        unfold ce2 crs
        rw [decide_eq_false (by omega)]; rfl
      have hp2 : 2 ≤ P.length := by
        refine Classical.byContradiction fun q => ?_
        have e : la_z P = hd P := by unfold la_z hd; rw [show P.length - 1 = 0 by omega]
        rw [e] at c1
        omega
      refine main [m1] [] f1 f2 (by simp) (by simp) (by simp; omega) (by rw [List.append_nil]; exact T1) ?_ ?_
      · rw [Cy_of (by simp), List.append_nil]
        have e : hd (P ++ [m1]) = hd P := by unfold hd; rw [gt_app_l lP]
        rw [e, show (P ++ [m1]) ++ [hd P] = P ++ m1 :: [hd P] by simp]
        exact Ch_split.mpr ⟨Ch_last hP (Ch.imp up hCh.1) sd1, sa zm1 (hz z2), trivial⟩
      · intro e he
        rcases he with h | h
        · rw [List.mem_singleton.mp h]; exact good1
        · exact absurd h List.not_mem_nil
  · have z1 : dot (la_z P) a = 0 := by have := pP _ mla; omega
    have f1 : ce2 true (la_z P) (hd N) a = [] := by
      unfold ce2 crs
      rw [decide_eq_false (by omega)]; rfl
    by_cases c2 : 0 < dot (hd P) a
    · obtain ⟨g2, γ, δ, hg2, hγ, hδ, em2, pm2, zm2⟩ := cr_spec x2 (Or.inl ⟨negL, c2⟩)
      have f2 : ce2 true (la_z N) (hd P) a = [crV (la_z N) (hd P) a] := by
        unfold ce2 crs
        rw [decide_eq_true (Or.inl ⟨negL, c2⟩)]; rfl
      generalize crV (la_z N) (hd P) a = m2 at *
      have sd2 : Sd (An A a) m2 (hd P) := by
        obtain ⟨f, hf, hf0, q1, q2⟩ := s2
        exact ⟨f, Or.inl hf, hf0, cr_z hg2 em2 q1 q2, q2⟩
      have good2 : Ce (An A a) m2 ∧ gcd3 m2 = 1 ∧ Rk (Ti (An A a) m2) 2 := ⟨cr_edge hg2 hγ hδ em2 zm2 (h4 _ (mE _ (Or.inr nla))).1 (h4 _ (mE _ (Or.inl mhd))).1, pm2, cr_rk hg2 em2 zm2 s2 (by rw [dot_comm]; omega)⟩
      have T2 : T3 s (P ++ [m2]) := t_1 hT'.left fun i j hij hj => w2 hP hN hT' hg2 hγ hδ em2 hij hj
      have hp2 : 2 ≤ P.length := by
        refine Classical.byContradiction fun q => ?_
        have e : la_z P = hd P := by unfold la_z hd; rw [show P.length - 1 = 0 by omega]
        rw [e] at z1
        omega
      refine main [] [m2] f1 f2 (by simp) (by simp) (by simp; omega) (by rw [List.append_nil]; exact T2) ?_ ?_
      · rw [Cy_of (by simp), List.append_nil]
        have e : hd (P ++ [m2]) = hd P := by unfold hd; rw [gt_app_l lP]
        rw [e, show (P ++ [m2]) ++ [hd P] = P ++ m2 :: [hd P] by simp]
        exact Ch_split.mpr ⟨Ch_last hP (Ch.imp up hCh.1) (sa (hz z1) zm2), sd2, trivial⟩
      · intro e he
        rcases he with h | h
        · exact absurd h List.not_mem_nil
        · rw [List.mem_singleton.mp h]; exact good2
    · have z2 : dot (hd P) a = 0 := by have := pP _ mhd; omega
      have f2 : ce2 true (la_z N) (hd P) a = [] := by
        unfold ce2 crs
        rw [decide_eq_false (by omega)]; rfl
      have hp3 : 3 ≤ P.length := by
        refine Classical.byContradiction fun q => ?_
        obtain ⟨e, he, h⟩ := h2
        rcases List.mem_append.mp (r1.mem.mp he) with hm | hm
        · obtain ⟨i, hi, hie⟩ := List.getElem_of_mem hm
          have hg : gt P i = e := gt_of (List.getElem?_eq_some_iff.mpr ⟨hi, hie⟩)
          by_cases c : i = 0
          · rw [c] at hg
            rw [← hg] at h
            have : dot (hd P) a = dot (gt P 0) a := rfl
            omega
          · have e1 : i = P.length - 1 := by omega
            rw [e1] at hg
            rw [← hg] at h
            have : dot (la_z P) a = dot (gt P (P.length - 1)) a := rfl
            omega
        · have := pN e hm
          omega
      refine main [] [] f1 f2 (by simp) (by simp) (by simp; omega) (by rw [List.append_nil, List.append_nil]; exact hT'.left) ?_ ?_
      · rw [List.append_nil, List.append_nil, Cy_of hP]
        exact Ch_last hP (Ch.imp up hCh.1) (sa (hz z1) (hz z2))
      · intro e he
        rcases he with h | h <;> exact absurd h List.not_mem_nil
