/-! SETTLING: the lines' own form, and edges cleared by them -/
def clr (col : Nat) (u v : V3) : V3 := if cmp3 v col = 0 then v else mixV (cmp3 u col) (-(cmp3 v col)) v u
theorem nI_m1_z {i : Nat} (h : i < 1000) : nI i ≠ -1 := by
  intro q
  have h1 := congrArg Int32.toInt q
  have h2 : (nI i).toInt = (i : Int) := by unfold nI; exact Int32.toInt_ofNat_of_lt (by omega)
  have h3 : (-1 : Int32).toInt = -1 := by decide
  rw [h2, h3] at h1
  omega
theorem cc_all {col : Nat} {u : V3} {E : List V3} (h : E.length < 1000) : E.mapIdx (ccF col (-1) u) = E.map (clr col u) := by
  refine List.ext_getElem? fun i => ?_
  rw [List.getElem?_mapIdx, List.getElem?_map]
  by_cases hi : i < E.length
  · rw [gt_some hi]
    show some (ccF col (-1) u i (gt E i)) = some (clr col u (gt E i))
    unfold ccF clr
    by_cases c : cmp3 (gt E i) col = 0
    · rw [if_pos c, if_pos (Or.inr c)]
    · rw [if_neg c, if_neg (fun q => q.elim (nI_m1_z (by omega)) c)]
  · rw [List.getElem?_eq_none (by omega)]; rfl
/-- v is brought to 0 in u's column -/
theorem clr_spec {col : Nat} {u v : V3} (hu : 0 < cmp3 u col) (hv : gcd3 v = 1) (hx : xp u v ≠ O3) : gcd3 (clr col u v) = 1 ∧ cmp3 (clr col u v) col = 0 ∧ ∃ g p c : Int, 0 < g ∧ 0 < p ∧ sm g (clr col u v) = lin p c v u := by
  unfold clr
  by_cases h : cmp3 v col = 0
  · rw [if_pos h]
    exact ⟨hv, h, 1, 1, 0, by omega, by omega, by unfold lin sm; refine v_ext ?_ ?_ ?_ <;> simp⟩
  · rw [if_neg h]
    have hl : lin (cmp3 u col) (-(cmp3 v col)) v u ≠ O3 := fun q => by
      have := xp_lin (cmp3 u col) (-(cmp3 v col)) v u u
      rw [q, xp_0l, xp_self] at this
      have e : lin (cmp3 u col) (-(cmp3 v col)) (xp v u) O3 = sm (cmp3 u col) (xp v u) := by unfold lin sm; refine v_ext ?_ ?_ ?_ <;> simp
      rw [e] at this
      exact sm_ne (by omega) (xp_ne_symm hx) this.symm
    obtain ⟨g, hg, e, hp⟩ := mix_spec hl
    refine ⟨hp, ?_, g, _, _, hg, hu, e⟩
    have := congrArg (fun v => cmp3 v col) e
    rw [cmp_sm, cmp_lin] at this
    exact (Int.mul_eq_zero.mp (show g * _ = 0 by rw [this]; grind)).resolve_left (by omega)
section SPAN
variable {L : List V3} {x y l m : V3}
theorem span_sm (h : Hl L [] x) (k : Int) : Hl L [] (sm k x) := by
  have hn : Hl L [] (sm (-1) x) := Hl.map h (fun x => sm (-1) x) (fun u v => sm_ad _ _ _) (fun k u => by rw [sm_sm, sm_sm, Int.mul_comm]) (fun l hl k => by rw [sm_sm]; exact Hl.line hl _) (fun e he => absurd he List.not_mem_nil)
  rcases Int.le_total 0 k with hk | hk
  · exact h.smul hk
  · have := hn.smul (k := -k) (by omega)
    rw [sm_sm] at this
    rw [show -k * -1 = k by omega] at this
    exact this
theorem Hl.l1 (h : Hl [l] [] x) : ∃ k c : Int, 0 < k ∧ sm k x = sm c l := by
  refine h (fun x => ∃ k c : Int, 0 < k ∧ sm k x = sm c l) ⟨1, 0, by omega, by rw [sm_O, sm_0]⟩ ?_ ?_ ?_ ?_
  · rintro u v ⟨k, c, h1, h2⟩ ⟨k', c', h1', h2'⟩
    refine ⟨k * k', c * k' + c' * k, Int.mul_pos h1 h1', ?_⟩
    rw [sm_ad, Int.mul_comm k k', ← sm_sm, h2, Int.mul_comm k' k, ← sm_sm, h2']
    unfold sm ad
    refine v_ext ?_ ?_ ?_ <;> grind
  · rintro k u hk ⟨k', c, h1, h2⟩
    exact ⟨k' * k, c, Int.mul_pos h1 hk, by rw [← sm_sm, h2]⟩
  · intro f hf k
    rw [List.mem_singleton.mp hf]
    exact ⟨1, k, by omega, by rw [sm_1]⟩
  · intro f hf; exact absurd hf List.not_mem_nil
theorem Hl.l2 (h : Hl [l, m] [] x) : ∃ k c d : Int, 0 < k ∧ sm k x = lin c d l m := by
  refine h (fun x => ∃ k c d : Int, 0 < k ∧ sm k x = lin c d l m) ⟨1, 0, 0, by omega, by rw [sm_O]; unfold lin; refine v_ext ?_ ?_ ?_ <;> simp⟩ ?_ ?_ ?_ ?_
  · rintro u v ⟨k, c, d, h1, h2⟩ ⟨k', c', d', h1', h2'⟩
    refine ⟨k * k', c * k' + c' * k, d * k' + d' * k, Int.mul_pos h1 h1', ?_⟩
    rw [sm_ad, Int.mul_comm k k', ← sm_sm, h2, Int.mul_comm k' k, ← sm_sm, h2']
    unfold sm ad lin
    refine v_ext ?_ ?_ ?_ <;> grind
  · rintro k u hk ⟨k', c, d, h1, h2⟩
    exact ⟨k' * k, c, d, Int.mul_pos h1 hk, by rw [← sm_sm, h2]⟩
  · intro f hf k
    rcases List.mem_cons.mp hf with h | h
    · rw [h]
      exact ⟨1, k, 0, by omega, by rw [sm_1]; unfold sm lin; refine v_ext ?_ ?_ ?_ <;> simp⟩
    · rw [List.mem_singleton.mp h]
      exact ⟨1, 0, k, by omega, by rw [sm_1]; unfold sm lin; refine v_ext ?_ ?_ ?_ <;> simp⟩
  · intro f hf; exact absurd hf List.not_mem_nil
/-- edges apart, a line: the edge's share -/
theorem Hl.le {e : V3} (h : Hl L [e] x) : ∃ k m : Int, 0 < k ∧ 0 ≤ m ∧ Hl L [] (ad (sm k x) (sm (-m) e)) := by
  refine h (fun x => ∃ k m : Int, 0 < k ∧ 0 ≤ m ∧ Hl L [] (ad (sm k x) (sm (-m) e))) ⟨1, 0, by omega, by omega, by rw [sm_O, O_ad, Int.neg_zero, sm_0]; exact Hl.zero⟩ ?_ ?_ ?_ ?_
  · rintro u v ⟨k, c, h1, h2, h3⟩ ⟨k', c', h1', h2', h3'⟩
    refine ⟨k * k', c * k' + c' * k, Int.mul_pos h1 h1', Int.add_nonneg (Int.mul_nonneg h2 (by omega)) (Int.mul_nonneg h2' (by omega)), ?_⟩
    have := Hl.add (span_sm h3 k') (span_sm h3' k)
    refine Eq.mp (congrArg (Hl L []) ?_) this
    unfold sm ad
    refine v_ext ?_ ?_ ?_ <;> grind
  · rintro k u hk ⟨k', c, h1, h2, h3⟩
    exact ⟨k' * k, c, Int.mul_pos h1 hk, h2, by rw [← sm_sm]; exact h3⟩
  · intro f hf k
    exact ⟨1, 0, by omega, by omega, by rw [sm_1, Int.neg_zero, sm_0, ad_O]; exact Hl.line hf k⟩
  · intro f hf k hk
    rw [List.mem_singleton.mp hf]
    refine ⟨1, k, by omega, hk, ?_⟩
    rw [sm_1, show ad (sm k e) (sm (-k) e) = O3 by unfold ad sm; refine v_ext ?_ ?_ ?_ <;> grind]
    exact Hl.zero
/-- what is made of lines and is 0 in their columns is 0 -/
theorem IJ.zero {E : List V3} {J : Nat → Nat} (hJ : IJ L E J) (hl : L.length ≤ 2) (h : Hl L [] x) (h0 : ∀ k, k < L.length → cmp3 x (J k) = 0) : x = O3 := by
  obtain ⟨c1, c2, c3⟩ := hJ
  match L, hl, h, h0, c1, c2 with
  | [], _, h, _, _, _ => exact h.nil
  | [l], _, h, h0, c1, _ =>
    obtain ⟨k, c, hk, e⟩ := h.l1
    have e2 := congrArg (fun v => cmp3 v (J 0)) e
    rw [cmp_sm, cmp_sm, h0 0 (by simp), Int.mul_zero] at e2
    have hc : c = 0 := (Int.mul_eq_zero.mp e2.symm).resolve_right (c1 0 (by simp)).2
    rw [hc, sm_0] at e
    exact Classical.byContradiction fun q => sm_ne (by omega) q e
  | [l, m], _, h, h0, c1, c2 =>
    obtain ⟨k, c, d, hk, e⟩ := h.l2
    have e2 := congrArg (fun v => cmp3 v (J 0)) e
    rw [cmp_sm, cmp_lin, h0 0 (by simp), Int.mul_zero, show cmp3 m (J 0) = 0 from c2 1 0 (by simp) (by simp) (by omega), Int.mul_zero, Int.add_zero] at e2
    have hc : c = 0 := (Int.mul_eq_zero.mp e2.symm).resolve_right (c1 0 (by simp)).2
    have e3 := congrArg (fun v => cmp3 v (J 1)) e
    rw [cmp_sm, cmp_lin, h0 1 (by simp), Int.mul_zero, show cmp3 l (J 1) = 0 from c2 0 1 (by simp) (by simp) (by omega), Int.mul_zero, Int.zero_add] at e3
    have hd : d = 0 := (Int.mul_eq_zero.mp e3.symm).resolve_right (c1 1 (by simp)).2
    rw [hc, hd, show lin 0 0 l m = O3 by unfold lin; refine v_ext ?_ ?_ ?_ <;> simp] at e
    exact Classical.byContradiction fun q => sm_ne (by omega) q e
  | _ :: _ :: _ :: _, hl, _, _, _, _ => exact absurd hl (by simp)
end SPAN
/-- the first number that counts is above 0 -/
def rect (l : V3) : Prop := 0 < l.2.1 ∨ (l.2.1 = 0 ∧ 0 < l.2.2)
/-- the one form of lines: those of a span -/
def Canon (P : V3 → Prop) : List V3 → Prop
  | [] => ∀ x, P x → x = O3
  | [l] => gcd3 l = 1 ∧ rect l ∧ ∀ x, P x ↔ xp l x = O3
  | [l, m] => gcd3 l = 1 ∧ gcd3 m = 1 ∧ 0 < l.2.1 ∧ l.2.2 = 0 ∧ m.2.1 = 0 ∧ 0 < m.2.2 ∧ ∀ x, P x ↔ d3 l m x = 0
  | _ => False
/-- 0 at the pivots -/
def pz : List V3 → V3 → Prop
  | [], _ => True
  | [l], v => if l.2.1 = 0 then v.2.2 = 0 else v.2.1 = 0
  | _, v => v.2.1 = 0 ∧ v.2.2 = 0
theorem xp_O (v : V3) : xp v O3 = O3 := by unfold xp; refine v_ext ?_ ?_ ?_ <;> simp
theorem rect_uni {l m : V3} (hl : gcd3 l = 1) (hm : gcd3 m = 1) (rl : rect l) (rm : rect m) (h : xp l m = O3) : l = m := by
  rcases par_prim hl hm h with q | q
  · exact q
  · rw [q] at rl
    unfold rect neg3 at rl
    unfold rect at rm
    simp only at rl
    omega
theorem d3_12 {l m x : V3} (h2 : l.2.2 = 0) (h3 : m.2.1 = 0) : d3 l m x = l.2.1 * m.2.2 * x.1 - l.1 * m.2.2 * x.2.1 - l.2.1 * m.1 * x.2.2 := by
  unfold d3 dot xp
  rw [h2, h3]
  grind
theorem par_sm {l m : V3} (h : xp l m = O3) : sm (dot l l) m = sm (dot l m) l := by
  have k1 : xp l (xp l m) = O3 := by rw [h]; exact xp_O _
  have : xp l (xp l m) = lin (dot l m) (-(dot l l)) l m := by unfold xp lin dot; refine v_ext ?_ ?_ ?_ <;> grind
  rw [k1] at this
  unfold lin at this
  have h1 := congrArg Prod.fst this; have h2 := congrArg (fun v : V3 => v.2.1) this; have h3 := congrArg (fun v : V3 => v.2.2) this
  simp only at h1 h2 h3
  unfold sm
  refine v_ext ?_ ?_ ?_ <;> grind
theorem par_trans {l m n : V3} (hl : l ≠ O3) (h1 : xp l m = O3) (h2 : xp l n = O3) : xp m n = O3 := by
  refine Classical.byContradiction fun q => sm_ne (k := dot l l) (by have := dd_ne hl; omega) q ?_
  rw [← xp_sm, par_sm h1, xp_sm, h2, sm_O]
theorem Canon.uni12 {P : V3 → Prop} {l m n : V3} (h1 : Canon P [l]) (h2 : Canon P [m, n]) : False := by
  have e1 := (h1.2.2 m).mp ((h2.2.2.2.2.2.2 m).mpr (by unfold d3 dot xp; grind))
  have e2 := (h1.2.2 n).mp ((h2.2.2.2.2.2.2 n).mpr (by unfold d3 dot xp; grind))
  have e3 := par_dot (h := un 2) (prim_ne h2.1) (par_trans (prim_ne h1.1) e1 e2) (by rw [dot_comm, dot_un]; exact h2.2.2.2.1)
  rw [dot_comm, dot_un] at e3
  have : n.2.2 = 0 := e3
  have := h2.2.2.2.2.2.1
  omega
theorem Canon.uni {P : V3 → Prop} : ∀ {L M : List V3}, Canon P L → Canon P M → L = M
  | [], [], _, _ => rfl
  | [], [m], h1, h2 => absurd (h1 m ((h2.2.2 m).mpr (xp_self m))) (prim_ne h2.1)
  | [m], [], h2, h1 => absurd (h1 m ((h2.2.2 m).mpr (xp_self m))) (prim_ne h2.1)
  | [], [m, n], h1, h2 => absurd (h1 m ((h2.2.2.2.2.2.2 m).mpr (by unfold d3 dot xp; grind))) (prim_ne h2.1)
  | [m, n], [], h2, h1 => absurd (h1 m ((h2.2.2.2.2.2.2 m).mpr (by unfold d3 dot xp; grind))) (prim_ne h2.1)
  | [l], [m], h1, h2 => by rw [rect_uni h1.1 h2.1 h1.2.1 h2.2.1 ((h1.2.2 m).mp ((h2.2.2 m).mpr (xp_self m)))]
  | [l], [m, n], h1, h2 => (Canon.uni12 h1 h2).elim
  | [m, n], [l], h2, h1 => (Canon.uni12 h1 h2).elim
  | [l, m], [l', m'], ⟨a1, a2, a3, a4, a5, a6, a7⟩, ⟨b1, b2, b3, b4, b5, b6, b7⟩ => by
    have e1 := (a7 l').mp ((b7 l').mpr (by unfold d3 dot xp; grind))
    have e2 := (a7 m').mp ((b7 m').mpr (by unfold d3 dot xp; grind))
    rw [d3_12 a4 a5, b4, Int.mul_zero, Int.sub_zero] at e1
    rw [d3_12 a4 a5, b5, Int.mul_zero, Int.sub_zero] at e2
    have k1 : l.1 * l'.2.1 - l.2.1 * l'.1 = 0 := by
      have : m.2.2 * (l.1 * l'.2.1 - l.2.1 * l'.1) = 0 := by grind
      exact (Int.mul_eq_zero.mp this).resolve_left (by omega)
    have k2 : m.2.2 * m'.1 - m.1 * m'.2.2 = 0 := by
      have : l.2.1 * (m.2.2 * m'.1 - m.1 * m'.2.2) = 0 := by grind
      exact (Int.mul_eq_zero.mp this).resolve_left (by omega)
    have x1 : xp l l' = O3 := by
      unfold xp
      rw [a4, b4]
      exact v_ext (by simp) (by simp) k1
    have x2 : xp m m' = O3 := by
      unfold xp
      rw [a5, b5]
      exact v_ext (by simp) k2 (by simp)
    rw [rect_uni a1 b1 (Or.inl a3) (Or.inl b3) x1, rect_uni a2 b2 (Or.inr ⟨a5, a6⟩) (Or.inr ⟨b5, b6⟩) x2]
  | _ :: _ :: _ :: _, _, h, _ => absurd h id
  | [], _ :: _ :: _ :: _, _, h => absurd h id
  | [_], _ :: _ :: _ :: _, _, h => absurd h id
  | [_, _], _ :: _ :: _ :: _, _, h => absurd h id
