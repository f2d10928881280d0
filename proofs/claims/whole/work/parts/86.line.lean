/-! cutting through a line; leaving out edges; two edges -/
/-- nothing is cut off -/
theorem Inv_z.same {A : V3 → Prop} {L E : List V3} {a : V3} (h : Inv_z A L E) (hL : ∀ l ∈ L, dot a l = 0) (hE : ∀ e ∈ E, 0 ≤ dot a e) : Inv_z (An A a) L E := by
  obtain ⟨⟨a1, a2, a3, a4⟩, ⟨b1, b2, b3⟩, c, d, e⟩ := h
  refine ⟨⟨fun b hb l hl => hb.elim (fun q => a1 b q l hl) (fun q => by rw [q]; exact hL l hl), a2, a3.mono fun b hb => Or.inl hb, fun x hx => a4 x (Ce.an.mp hx).1⟩,
    ⟨fun f hf => ⟨Ce.an.mpr ⟨(b1 f hf).1, hE f hf⟩, (b1 f hf).2.1, (b1 f hf).2.2.mono fun b hb => ⟨Or.inl hb.1, hb.2⟩⟩, b2, b3⟩, c, d, fun hl => ?_⟩
  obtain ⟨e1, e2⟩ := e hl
  exact ⟨fun q => Ch.imp (fun _ _ => Sd.an) (e1 q), fun q => ⟨Cy.imp (fun _ _ => Sd.an) (e2 q).1, (e2 q).2⟩⟩
/-- only edges on the border stay -/
theorem Inv_z.flat {A : V3 → Prop} {L E : List V3} {a : V3} (h : Inv_z A L E) (hL : ∀ l ∈ L, dot a l = 0) (hE : ∀ e ∈ E, dot a e ≤ 0) (ha : a ≠ O3) : Inv_z (An A a) L (E.filter fun e => decide (dot a e = 0)) := by
  obtain ⟨⟨a1, a2, a3, a4⟩, ⟨b1, b2, b3⟩, ⟨J, c1, c2, c3⟩, d, e⟩ := h
  have mf : ∀ {f}, f ∈ (E.filter fun e => decide (dot a e = 0)) → f ∈ E ∧ dot a f = 0 := fun hf => ⟨(List.mem_filter.mp hf).1, of_decide_eq_true (List.mem_filter.mp hf).2⟩
  refine ⟨⟨fun b hb l hl => hb.elim (fun q => a1 b q l hl) (fun q => by rw [q]; exact hL l hl), a2, a3.mono fun b hb => Or.inl hb, fun x hx => ?_⟩,
    ⟨fun f hf => ?_, b2, b3.sublist List.filter_sublist⟩, ⟨J, c1, c2, fun f hf => c3 f (mf hf).1⟩, fun q => ?_, fun hl => ⟨fun _ => Ch.all fun x hx y hy => ⟨a, Or.inr rfl, ha, (mf hx).2, (mf hy).2⟩, fun q => ⟨Cy.all fun x hx y hy => ⟨a, Or.inr rfl, ha, (mf hx).2, (mf hy).2⟩, ?_⟩⟩⟩
  · obtain ⟨h1, h2⟩ := Ce.an.mp hx
    have hh := a4 x h1
    have h3 := hh.nn (a := neg3 a) (fun l hl => by rw [neg_dot, hL l hl]; rfl) (fun e he => by rw [neg_dot]; have := hE e he; omega)
    rw [neg_dot] at h3
    have := hh.tight (a := neg3 a) (fun l hl => by rw [neg_dot, hL l hl]; rfl) (fun e he => by rw [neg_dot]; have := hE e he; omega) (by rw [neg_dot]; omega)
    refine this.mono (fun _ h => h) (fun e he => ?_)
    have h4 := List.mem_filter.mp he
    have h5 := of_decide_eq_true h4.2
    rw [neg_dot] at h5
    exact List.mem_filter.mpr ⟨h4.1, decide_eq_true (by omega)⟩
  · obtain ⟨h1, h2⟩ := mf hf
    exact ⟨Ce.an.mpr ⟨(b1 f h1).1, by omega⟩, (b1 f h1).2.1, (b1 f h1).2.2.mono fun b hb => ⟨Or.inl hb.1, hb.2⟩⟩
  · have := d q
    have := List.length_filter_le (fun e => decide (dot a e = 0)) E
    omega
  · have hlen := List.length_filter_le (fun e => decide (dot a e = 0)) E
    obtain ⟨s, hs, hT⟩ := ((e hl).2 (by omega)).2
    exact ⟨s, hs, hT.sub List.filter_sublist⟩
theorem ceA_flat {E : List V3} {a : V3} (hE : ∀ e ∈ E, dot a e ≤ 0) : ceA E a E.length = E.filter fun e => decide (dot a e = 0) := by
  have h1 : ∀ i, i < E.length → ceF E a i = if dot a (gt E i) = 0 then [gt E i] else [] := by
    intro i hi
    have h0 := hE _ (gt_mem hi)
    rw [dot_comm] at h0
    unfold ceF ce1 ce2 crs
    have hn : dot (gt E (nxE E.length i)) a ≤ 0 := by
      have : nxE E.length i < E.length := by unfold nxE; split <;> omega
      have := hE _ (gt_mem this)
      rw [dot_comm] at this
      exact this
    rw [decide_eq_false (by omega), Bool.and_false, if_neg Bool.false_ne_true, List.append_nil]
    by_cases c : dot a (gt E i) = 0
    · rw [if_pos c, if_pos (by rw [dot_comm]; omega)]
    · rw [if_neg c, if_neg (by rw [dot_comm] at c; omega)]
  unfold ceA
  rw [flatMap_eq fun i hi => h1 i (List.mem_range.mp hi)]
  clear h1 hE
  have key : ∀ (l : List V3), (List.range l.length).flatMap (fun i => if dot a (gt l i) = 0 then [gt l i] else []) = l.filter fun e => decide (dot a e = 0) := by
    intro l
    induction l with
    | nil => rfl
    | cons x l ih =>
      rw [List.length_cons, List.range_succ_eq_map, List.flatMap_cons, List.flatMap_map, List.filter_cons]
      have : (List.range l.length).flatMap (fun i => if dot a (gt (x :: l) (i + 1)) = 0 then [gt (x :: l) (i + 1)] else []) = l.filter fun e => decide (dot a e = 0) := ih
      rw [show (fun i => if dot a (gt (x :: l) i.succ) = 0 then [gt (x :: l) i.succ] else []) = (fun i => if dot a (gt (x :: l) (i + 1)) = 0 then [gt (x :: l) (i + 1)] else []) from rfl, this]
      show (if dot a x = 0 then [x] else []) ++ _ = _
      by_cases c : dot a x = 0
      · rw [if_pos c, decide_eq_true c]; rfl
      · rw [if_neg c, decide_eq_false c]; rfl
  exact key E
/-- two edges, one inside, one outside: the one outside moves -/
theorem two_cut {A : V3 → Prop} {L : List V3} {p q m a : V3} {g α β : Int} (h4 : ∀ e, e = p ∨ e = q → Ce A e ∧ gcd3 e = 1 ∧ Rk (Ti A e) (2 - L.length)) (hL : ∀ l ∈ L, dot a l = 0)
    (hp : 0 < dot a p) (hq : dot a q < 0) (hH : ∀ x, Ce A x → Hl L [p, q] x) (hg : 0 < g) (ha : 0 < α) (hb : 0 < β) (e : sm g m = lin α β p q) (h0 : dot a m = 0) (hm : gcd3 m = 1)
    (hs : L = [] → Sd A p q) (hl1 : L.length ≤ 1) :
    (∀ x, Ce (An A a) x → Hl L [p, m] x) ∧ (Ce (An A a) m ∧ gcd3 m = 1 ∧ Rk (Ti (An A a) m) (2 - L.length)) ∧ xp p m ≠ O3 := by
  have hne : a ≠ O3 := fun q => by rw [q, dot_comm, dot_0] at hp; omega
  have hpm : xp p m ≠ O3 := fun z => by
    have h1 := par_dot (h := a) (prim_ne (h4 p (Or.inl rfl)).2.1) z
    have h2 := par_dot (a := m) (b := p) (h := a) (prim_ne hm) (by rw [xp_anti, z]; rfl) (by rw [dot_comm]; exact h0)
    rw [dot_comm] at h2
    omega
  refine ⟨fun x hx => ?_, ⟨cr_edge hg ha hb e h0 (h4 p (Or.inl rfl)).1 (h4 q (Or.inr rfl)).1, hm, ?_⟩, hpm⟩
  · obtain ⟨h1, h2⟩ := Ce.an.mp hx
    have hlin : ∀ (u : V3), lin (dot a p) (-(dot a u)) u p = lin (dot a p) (-(dot a u)) u p := fun _ => rfl
    have hmap : Hl L [p, m] (lin (dot a p) (-(dot a x)) x p) := by
      refine Hl.map (hH x h1) (fun x => lin (dot a p) (-(dot a x)) x p) ?_ ?_ ?_ ?_
      · intro u v
        simp only [dot_ad]
        unfold lin ad
        refine v_ext ?_ ?_ ?_ <;> grind
      · intro k u
        simp only [dot_sm]
        unfold lin sm
        refine v_ext ?_ ?_ ?_ <;> grind
      · intro l hl k
        rw [hL l hl, show lin (dot a p) (-0) l p = sm (dot a p) l by unfold lin sm; refine v_ext ?_ ?_ ?_ <;> simp, sm_sm]
        exact Hl.line hl _
      · intro f hf
        rcases List.mem_cons.mp hf with hf | hf
        · rw [hf, show lin (dot a p) (-(dot a p)) p p = O3 by unfold lin; refine v_ext ?_ ?_ ?_ <;> grind]
          exact Hl.zero
        · rw [List.mem_singleton.mp hf]
          -- a positive multiple of m
          have e2 := congrArg (dot a) e
          rw [dot_sm, dot_lin, h0, Int.mul_zero] at e2
          refine Hl.sat hb ?_
          have : sm β (lin (dot a p) (-(dot a q)) q p) = sm (dot a p * g) m := by
            rw [← sm_sm, e]
            have k : β * dot a q = -(α * dot a p) := by omega
            unfold sm lin
            refine v_ext ?_ ?_ ?_ <;> grind
          rw [this]
          exact Hl.edge (by simp) (Int.mul_nonneg (by omega) (by omega))
    refine Hl.sat hp ?_
    have : sm (dot a p) x = ad (lin (dot a p) (-(dot a x)) x p) (sm (dot a x) p) := by
      unfold sm ad lin
      refine v_ext ?_ ?_ ?_ <;> grind
    rw [this]
    exact Hl.add hmap (Hl.edge (by simp) h2)
  · cases L with
    | nil =>
      exact cr_rk hg e h0 (hs rfl) (by omega)
    | cons l L =>
      have : L = [] := List.length_eq_zero_iff.mp (by rw [List.length_cons] at hl1; omega)
      subst this
      exact ⟨a, ⟨Or.inr rfl, h0⟩, hne⟩
