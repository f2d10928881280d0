/-! cutting through a line -/
theorem cmp_sm (k : Int) (v : V3) : ∀ c, cmp3 (sm k v) c = k * cmp3 v c
  | 0 => rfl
  | 1 => rfl
  | _ + 2 => rfl
theorem cmp_lin (a b : Int) (v u : V3) : ∀ c, cmp3 (lin a b v u) c = a * cmp3 v c + b * cmp3 u c
  | 0 => rfl
  | 1 => rfl
  | _ + 2 => rfl
theorem cmp_neg (v : V3) : ∀ c, cmp3 (neg3 v) c = -(cmp3 v c)
  | 0 => rfl
  | 1 => rfl
  | _ + 2 => rfl
theorem cmp_O : ∀ c, cmp3 O3 c = 0
  | 0 => rfl
  | 1 => rfl
  | _ + 2 => rfl
theorem cmp_ext {u v : V3} (h : ∀ c, c < 3 → cmp3 u c = cmp3 v c) : u = v := v_ext (h 0 (by omega)) (h 1 (by omega)) (h 2 (by omega))
theorem hv_spec {p a : V3} (h : dot p a ≠ 0) : 0 < dot (hvV p a) a ∧ (hvV p a = p ∨ hvV p a = neg3 p) := by
  unfold hvV
  split
  · exact ⟨by rw [neg_dot]; omega, Or.inr rfl⟩
  · exact ⟨by omega, Or.inl rfl⟩
def ski (h i : Nat) : Nat := if i < h then i else i + 1
section SLIDE
variable {A : V3 → Prop} {a q : V3}
/-- what a row becomes that slides along q -/
theorem sl_spec {s : Int} (hs : s = dot q a) (hsp : 0 < s) {v : V3} (hv : lin s (-(dot v a)) v q ≠ O3) : ∃ g : Int, 0 < g ∧ sm g (slF s a q v) = lin s (-(dot v a)) v q ∧ gcd3 (slF s a q v) = 1 ∧ dot a (slF s a q v) = 0 ∧
    (∀ b, dot b q = 0 → (dot b (slF s a q v) = 0 ↔ dot b v = 0) ∧ (0 ≤ dot b (slF s a q v) ↔ 0 ≤ dot b v)) ∧ ∀ c, cmp3 q c = 0 → (cmp3 (slF s a q v) c = 0 ↔ cmp3 v c = 0) := by
  obtain ⟨g, hg, e, hp⟩ := mix_spec hv
  refine ⟨g, hg, e, hp, ?_, fun b hb => ?_, fun c hc => ?_⟩
  · have e2 := congrArg (dot a) e
    rw [dot_sm, dot_lin, dot_comm a q, dot_comm a v, ← hs, Int.neg_mul, Int.mul_comm (dot v a)] at e2
    exact (Int.mul_eq_zero.mp (by unfold slF; omega)).resolve_left (by omega : g ≠ 0)
  · have e2 := congrArg (dot b) e
    rw [dot_sm, dot_lin, hb, Int.mul_zero, Int.add_zero] at e2
    have e2 : g * dot b (slF s a q v) = s * dot b v := e2
    constructor
    · constructor
      · intro h
        rw [h, Int.mul_zero] at e2
        exact (Int.mul_eq_zero.mp e2.symm).resolve_left (by omega)
      · intro h
        rw [h, Int.mul_zero] at e2
        exact (Int.mul_eq_zero.mp e2).resolve_left (by omega)
    · constructor
      · intro h
        refine Classical.byContradiction fun hn => ?_
        have := Int.mul_nonneg (show 0 ≤ g by omega) h
        have := Int.mul_neg_of_pos_of_neg hsp (show dot b v < 0 by omega)
        omega
      · intro h
        refine Classical.byContradiction fun hn => ?_
        have := Int.mul_nonneg (show 0 ≤ s by omega) h
        have := Int.mul_neg_of_pos_of_neg hg (show dot b (slF s a q v) < 0 by omega)
        omega
  · have e2 := congrArg (fun v => cmp3 v c) e
    rw [cmp_sm, cmp_lin, hc, Int.mul_zero, Int.add_zero] at e2
    have e2 : g * cmp3 (slF s a q v) c = s * cmp3 v c := e2
    constructor
    · intro h
      rw [h, Int.mul_zero] at e2
      exact (Int.mul_eq_zero.mp e2.symm).resolve_left (by omega)
    · intro h
      rw [h, Int.mul_zero] at e2
      exact (Int.mul_eq_zero.mp e2).resolve_left (by omega)
end SLIDE
theorem clL_len {L : List V3} {hh : Nat} (a : V3) (h : hh < L.length) : (clL L hh a).length = L.length - 1 := by
  unfold clL
  rw [List.length_eraseIdx_of_lt (by rw [List.length_mapIdx, List.length_set]; exact h), List.length_mapIdx, List.length_set]
theorem clL_get {L : List V3} {hh i : Nat} (a : V3) (h : hh < L.length) (hi : i < L.length - 1) : gt (clL L hh a) i = slF (dot (hvV (gt L hh) a) a) a (hvV (gt L hh) a) (gt L (ski hh i)) := by
  refine gt_of ?_
  unfold clL
  rw [List.getElem?_eraseIdx]
  have hs : ski hh i < L.length := by unfold ski; split <;> omega
  have hne : ski hh i ≠ hh := by unfold ski; split <;> omega
  have e : ((L.set hh (hvV (gt L hh) a)).mapIdx (slL (dot (hvV (gt L hh) a) a) a (hvV (gt L hh) a) hh))[ski hh i]? = some (slF (dot (hvV (gt L hh) a) a) a (hvV (gt L hh) a) (gt L (ski hh i))) := by
    rw [List.getElem?_mapIdx, List.getElem?_set_ne (by omega), gt_some hs]
    show some (slL _ _ _ _ _ _) = _
    unfold slL
    rw [if_neg hne]
  by_cases c : i < hh
  · have hk : ski hh i = i := if_pos c
    rw [hk] at e ⊢
    rw [if_pos c]; exact e
  · have hk : ski hh i = i + 1 := if_neg c
    rw [hk] at e ⊢
    rw [if_neg c]; exact e
theorem Inv_z.line {A : V3 → Prop} {L E : List V3} {a : V3} {hh : Nat} (h : Inv_z A L E) (hL : hh < L.length) (ha : dot (gt L hh) a ≠ 0) : Inv_z (An A a) (clL L hh a) (clE L E hh a) := by
  obtain ⟨⟨a1, a2, a3, a4⟩, ⟨b1, b2, b3⟩, ⟨J, c1, c2, c3⟩, d, e⟩ := h
  have hd' := d (List.ne_nil_of_length_pos (by omega))
  have hlen := clL_len (a := a) hL
  obtain ⟨hs, hq⟩ := hv_spec ha
  have hget := fun i hi => clL_get (i := i) a hL hi
  unfold clE
  generalize hqq : hvV (gt L hh) a = q at *
  generalize hss : dot q a = s at *
  have hAq : ∀ b, A b → dot b q = 0 := fun b hb => by
    have := a1 b hb _ (gt_mem hL)
    rcases hq with h | h
    · rw [h]; exact this
    · rw [h, dot_neg', this]; rfl
  have hgq : gcd3 q = 1 := by
    rcases hq with h | h
    · rw [h]; exact b2 _ (gt_mem hL)
    · rw [h, gcd3_neg]; exact b2 _ (gt_mem hL)
  have hqJ : cmp3 q (J hh) ≠ 0 := by
    have := (c1 hh hL).2
    rcases hq with h | h
    · rw [h]; exact this
    · rw [h, cmp_neg]; omega
  have hqK : ∀ k, k < L.length → k ≠ hh → cmp3 q (J k) = 0 := fun k hk hne => by
    have := c2 hh k hL hk (fun q => hne q.symm)
    rcases hq with h | h
    · rw [h]; exact this
    · rw [h, cmp_neg, this]; rfl
  have haq : dot a q = s := by rw [dot_comm]; exact hss
  -- the slid rows are not 0
  have nzL : ∀ i, i < L.length → i ≠ hh → lin s (-(dot (gt L i) a)) (gt L i) q ≠ O3 := fun i hi hne z => by
    have := congrArg (fun v => cmp3 v (J i)) z
    rw [cmp_lin, hqK i hi hne, Int.mul_zero, Int.add_zero, cmp_O] at this
    rcases Int.mul_eq_zero.mp this with h | h
    · omega
    · exact (c1 i hi).2 h
  have nzE : ∀ f ∈ E, lin s (-(dot f a)) f q ≠ O3 := fun f hf z => by
    have h1 := congrArg (fun v => cmp3 v (J hh)) z
    rw [cmp_lin, c3 f hf hh hL, cmp_O, Int.mul_zero, Int.zero_add] at h1
    have h2 : dot f a = 0 := by
      rcases Int.mul_eq_zero.mp h1 with h | h
      · omega
      · exact absurd h hqJ
    rw [h2] at z
    have : lin s (-0) f q = sm s f := by unfold lin sm; refine v_ext ?_ ?_ ?_ <;> simp
    rw [this] at z
    exact sm_ne (by omega) (prim_ne (b1 f hf).2.1) z
  have spL := fun i hi hne => sl_spec (a := a) (q := q) hss.symm hs (nzL i hi hne)
  have spE := fun f hf => sl_spec (a := a) (q := q) hss.symm hs (nzE f hf)
  have hsk : ∀ i, i < L.length - 1 → ski hh i < L.length ∧ ski hh i ≠ hh := fun i hi => by unfold ski; split <;> omega
  have hsj : ∀ i j, i ≠ j → ski hh i ≠ ski hh j := fun i j hij => by unfold ski; split <;> split <;> omega
  have memL : ∀ {l}, l ∈ clL L hh a → ∃ i, i < L.length ∧ i ≠ hh ∧ l = slF s a q (gt L i) := fun {l} hl => by
    obtain ⟨i, hi, he⟩ := List.getElem_of_mem hl
    have hi' : i < L.length - 1 := by rw [← hlen]; exact hi
    have : gt (clL L hh a) i = l := gt_of (List.getElem?_eq_some_iff.mpr ⟨hi, he⟩)
    rw [hget i hi'] at this
    exact ⟨ski hh i, (hsk i hi').1, (hsk i hi').2, this.symm⟩
  have inL' : ∀ i, i < L.length → i ≠ hh → slF s a q (gt L i) ∈ clL L hh a := fun i hi hne => by
    have e : slF s a q (gt L i) = gt (clL L hh a) (if i < hh then i else i - 1) := by
      rw [hget _ (by split <;> omega)]
      congr 2
      unfold ski
      by_cases c : i < hh
      · rw [if_pos c, if_pos c]
      · rw [if_neg c, if_neg (by omega)]; omega
    rw [e]
    exact gt_mem (by rw [hlen]; split <;> omega)
  have memE : ∀ {f}, f ∈ E.map (slF s a q) ++ [q] ↔ (∃ e ∈ E, slF s a q e = f) ∨ f = q := by
    intro f
    rw [List.mem_append, List.mem_map, List.mem_singleton]
  refine ⟨⟨fun b hb l hl => ?_, by omega, ?_, fun x hx => ?_⟩, ⟨fun f hf => ?_, fun l hl => ?_, ?_⟩, ⟨fun i => J (ski hh i), fun i hi => ?_, fun i k hi hk hne => ?_, fun f hf k hk => ?_⟩, fun _ => ?_, fun hn => ?_⟩
  · obtain ⟨i, hi, hne, rfl⟩ := memL hl
    obtain ⟨g, hg, e1, e2, e3, e4, e5⟩ := spL i hi hne
    rcases hb with hb | hb
    · exact ((e4 b (hAq b hb)).1).mpr (a1 b hb _ (gt_mem hi))
    · rw [hb]; exact e3
  · rw [hlen, show 3 - (L.length - 1) = (3 - L.length) + 1 by omega]
    exact Rk.more (h := q) hAq (by rw [haq]; omega) (by omega) a3
  · obtain ⟨h1, h2⟩ := Ce.an.mp hx
    have hmap : Hl (clL L hh a) (E.map (slF s a q) ++ [q]) (lin s (-(dot x a)) x q) := by
      refine Hl.map (a4 x h1) (fun x => lin s (-(dot x a)) x q) ?_ ?_ ?_ ?_
      · intro u v
        simp only [dot_comm _ a, dot_ad]
        unfold lin ad
        refine v_ext ?_ ?_ ?_ <;> grind
      · intro k u
        simp only [dot_comm _ a, dot_sm]
        unfold lin sm
        refine v_ext ?_ ?_ ?_ <;> grind
      · intro l hl k
        obtain ⟨i, hi, he⟩ := List.getElem_of_mem hl
        have hgl : gt L i = l := gt_of (List.getElem?_eq_some_iff.mpr ⟨hi, he⟩)
        rw [← hgl]
        by_cases c : i = hh
        · have : lin s (-(dot (gt L i) a)) (gt L i) q = O3 := by
            rw [c]
            rcases hq with h | h
            · rw [← h, hss]; unfold lin; refine v_ext ?_ ?_ ?_ <;> grind
            · have h' : gt L hh = neg3 q := by rw [h, neg_neg3_z]
              rw [h', neg_dot, hss]; unfold lin neg3; refine v_ext ?_ ?_ ?_ <;> grind
          rw [this, sm_O]; exact Hl.zero
        · obtain ⟨g, hg, e1, _⟩ := spL i hi c
          rw [← e1, sm_sm]
          exact Hl.line (inL' i hi c) _
      · intro f hf
        obtain ⟨g, hg, e1, _⟩ := spE f hf
        rw [← e1]
        exact Hl.edge (memE.mpr (Or.inl ⟨f, hf, rfl⟩)) (by omega)
    refine Hl.sat hs ?_
    have : sm s x = ad (lin s (-(dot x a)) x q) (sm (dot x a) q) := by
      unfold sm ad lin
      refine v_ext ?_ ?_ ?_ <;> grind
    rw [this]
    exact Hl.add hmap (Hl.edge (memE.mpr (Or.inr rfl)) (by rw [dot_comm]; exact h2))
  · rcases memE.mp hf with ⟨f0, hf0, rfl⟩ | rfl
    · obtain ⟨g, hg, e1, e2, e3, e4, e5⟩ := spE f0 hf0
      obtain ⟨k1, k2, k3⟩ := b1 f0 hf0
      refine ⟨Ce.an.mpr ⟨fun b hb => (e4 b (hAq b hb)).2.mpr (k1 b hb), by omega⟩, e2, ?_⟩
      have h2 : 0 < E.length := List.length_pos_of_mem hf0
      rw [hlen, show 2 - (L.length - 1) = (2 - L.length) + 1 by omega]
      refine Rk.mono ?_ (Rk.more (A := Ti A f0) (b := a) (h := q) (fun b hb => hAq b hb.1) (by rw [haq]; omega) (by omega) k3)
      intro b hb
      rcases hb with hb | hb
      · exact ⟨Or.inl hb.1, (e4 b (hAq b hb.1)).1.mpr hb.2⟩
      · rw [hb]; exact ⟨Or.inr rfl, e3⟩
    · refine ⟨Ce.an.mpr ⟨fun b hb => by rw [hAq b hb]; omega, by rw [haq]; omega⟩, hgq, ?_⟩
      rw [hlen, show 2 - (L.length - 1) = 3 - L.length by omega]
      exact a3.mono fun b hb => ⟨Or.inl hb, hAq b hb⟩
  · obtain ⟨i, hi, hne, rfl⟩ := memL hl
    obtain ⟨g, hg, e1, e2, _⟩ := spL i hi hne
    exact e2
  · rw [List.pairwise_append]
    refine ⟨?_, List.pairwise_singleton _ _, ?_⟩
    · rw [List.pairwise_map]
      refine b3.imp_of_mem ?_
      intro u v hu hv huv z
      obtain ⟨g, hg, e1, e2, e3, e4, e5⟩ := spE u hu
      obtain ⟨g', hg', e1', e2', e3', e4', e5'⟩ := spE v hv
      -- in the column of the line cut through
      have col : ∀ {f : V3} {g : Int} {w : V3}, f ∈ E → sm g w = lin s (-(dot f a)) f q → g * cmp3 w (J hh) = -(dot f a) * cmp3 q (J hh) := fun hf he => by
        have := congrArg (fun v => cmp3 v (J hh)) he
        rw [cmp_sm, cmp_lin, c3 _ hf hh hL, Int.mul_zero, Int.zero_add] at this
        exact this
      have k1 := col hu e1
      have k2 := col hv e1'
      apply huv
      generalize slF s a q u = u' at *
      generalize slF s a q v = v' at *
      -- s u = g u' + (u.a) q
      have f1 : sm s u = lin g (dot u a) u' q := by
        have := e1
        unfold sm lin at this ⊢
        have h1 := congrArg Prod.fst this; have h2 := congrArg (fun v : V3 => v.2.1) this; have h3 := congrArg (fun v : V3 => v.2.2) this
        simp only at h1 h2 h3
        refine v_ext ?_ ?_ ?_ <;> grind
      have f2 : sm s v = lin g' (dot v a) v' q := by
        have := e1'
        unfold sm lin at this ⊢
        have h1 := congrArg Prod.fst this; have h2 := congrArg (fun v : V3 => v.2.1) this; have h3 := congrArg (fun v : V3 => v.2.2) this
        simp only at h1 h2 h3
        refine v_ext ?_ ?_ ?_ <;> grind
      have f3 : sm (s * s) (xp u v) = O3 := by
        rw [← sm_sm, ← xp_sm', ← xp_sm, f1, f2]
        rcases par_prim e2 e2' z with h | h
        · rw [h, xp_lin, xp_lin', xp_lin', xp_self, xp_self]
          rw [h] at k1
          have : g * dot v a = g' * dot u a := by
            have h3 : g * (g' * cmp3 v' (J hh)) = g' * (g * cmp3 v' (J hh)) := by grind
            rw [k1, k2] at h3
            have : (g * dot v a - g' * dot u a) * cmp3 q (J hh) = 0 := by grind
            have := (Int.mul_eq_zero.mp this).resolve_right hqJ
            omega
          rw [xp_anti q v']
          unfold lin neg3
          refine v_ext ?_ ?_ ?_ <;> grind
        · rw [h, xp_lin, xp_lin', xp_lin', xp_self]
          rw [h, cmp_neg] at k1
          have : g * dot v a = -(g' * dot u a) := by
            have h3 : g * (g' * cmp3 v' (J hh)) = g' * (g * cmp3 v' (J hh)) := by grind
            rw [k2] at h3
            have : (g * dot v a + g' * dot u a) * cmp3 q (J hh) = 0 := by grind
            have := (Int.mul_eq_zero.mp this).resolve_right hqJ
            omega
          unfold lin neg3 xp
          refine v_ext ?_ ?_ ?_ <;> grind
      refine Classical.byContradiction fun hn => sm_ne (k := s * s) ?_ hn f3
      have := Int.mul_pos hs hs
      omega
    · intro u' hu' v hv z
      rw [List.mem_singleton.mp hv] at z
      obtain ⟨u, hu, rfl⟩ := List.mem_map.mp hu'
      obtain ⟨g, hg, e1, e2, e3, e4, e5⟩ := spE u hu
      -- u' along q, but a is 0 on u' and not on q
      have := par_dot (h := a) (prim_ne e2) z (by rw [dot_comm]; exact e3)
      rw [hss] at this
      omega
  · rw [hlen] at hi
    rw [hget i hi]
    obtain ⟨h1, h2⟩ := hsk i hi
    obtain ⟨g, hg, e1, e2, e3, e4, e5⟩ := spL _ h1 h2
    exact ⟨(c1 _ h1).1, fun z => (c1 _ h1).2 ((e5 _ (hqK _ h1 h2)).mp z)⟩
  · rw [hlen] at hi hk
    rw [hget i hi]
    obtain ⟨h1, h2⟩ := hsk i hi
    obtain ⟨h3, h4⟩ := hsk k hk
    obtain ⟨g, hg, e1, e2, e3, e4, e5⟩ := spL _ h1 h2
    exact (e5 _ (hqK _ h3 h4)).mpr (c2 _ _ h1 h3 (hsj i k hne))
  · rw [hlen] at hk
    obtain ⟨h3, h4⟩ := hsk k hk
    rcases memE.mp hf with ⟨f0, hf0, rfl⟩ | rfl
    · obtain ⟨g, hg, e1, e2, e3, e4, e5⟩ := spE f0 hf0
      exact (e5 _ (hqK _ h3 h4)).mpr (c3 f0 hf0 _ h3)
    · exact hqK _ h3 h4
  · rw [hlen, List.length_append, List.length_map, List.length_singleton]
    omega
  · -- no line is left
    have hL1 : L.length = 1 := by
      have : (clL L hh a).length = 0 := by rw [hn]; rfl
      omega
    have hh0 : hh = 0 := by omega
    have ha0 : a ≠ O3 := fun z => by rw [z, dot_comm, dot_0] at haq; omega
    have side : ∀ f ∈ E, Sd (An A a) (slF s a q f) q ∧ Sd (An A a) q (slF s a q f) := fun f hf => by
      obtain ⟨g, hg, e1, e2, e3, e4, e5⟩ := spE f hf
      have := (b1 f hf).2.2
      rw [hL1] at this
      obtain ⟨b, hb, hb0⟩ := this
      have z1 := (e4 b (hAq b hb.1)).1.mpr hb.2
      exact ⟨⟨b, Or.inl hb.1, hb0, z1, hAq b hb.1⟩, ⟨b, Or.inl hb.1, hb0, hAq b hb.1, z1⟩⟩
    match E, hd' with
    | [], _ => exact ⟨fun q => absurd q (by simp), fun q => absurd q (by simp)⟩
    | [u], _ => exact ⟨fun _ => ⟨(side u (by simp)).1, trivial⟩, fun q => absurd q (by simp)⟩
    | [u, v], _ =>
      obtain ⟨g, hg, e1, e2, e3, e4, e5⟩ := spE u (by simp)
      obtain ⟨g', hg', e1', e2', e3', e4', e5'⟩ := spE v (by simp)
      refine ⟨fun q => absurd q (by simp), fun _ => ⟨⟨⟨a, Or.inr rfl, ha0, e3, e3'⟩, (side v (by simp)).1, (side u (by simp)).2, trivial⟩, ?_⟩⟩
      have hne : d3 (slF s a q u) (slF s a q v) q ≠ 0 := by
        intro z
        have cu := c3 u (by simp) 0 (by omega)
        have cv := c3 v (by simp) 0 (by omega)
        have huv : xp u v ≠ O3 := by
          have := b3
          rw [List.pairwise_cons] at this
          exact this.1 v (by simp)
        have k1 : (g * g') * d3 (slF s a q u) (slF s a q v) q = (s * s) * d3 u v q := by
          have t1 : d3 (sm g (slF s a q u)) (sm g' (slF s a q v)) q = (g * g') * d3 (slF s a q u) (slF s a q v) q := by unfold d3 dot xp sm; grind
          rw [← t1, e1, e1']
          unfold d3 dot xp lin; grind
        rw [z, Int.mul_zero] at k1
        have k2 : d3 u v q = 0 := (Int.mul_eq_zero.mp k1.symm).resolve_left (by have := Int.mul_pos hs hs; omega)
        rw [hh0] at hqJ
        rw [d3_xp] at k2
        apply huv
        have hJ := (c1 0 (by omega)).1
        generalize J 0 = j at *
        match j, hJ with
        | 0, _ =>
          have cu : u.1 = 0 := cu
          have cv : v.1 = 0 := cv
          have hq0 : q.1 ≠ 0 := hqJ
          unfold dot xp at k2
          rw [cu, cv] at k2
          simp only [Int.mul_zero, Int.zero_mul, Int.sub_zero, Int.add_zero] at k2
          have := (Int.mul_eq_zero.mp k2).resolve_right hq0
          unfold xp
          rw [cu, cv]
          exact v_ext this (by simp) (by simp)
        | 1, _ =>
          have cu : u.2.1 = 0 := cu
          have cv : v.2.1 = 0 := cv
          have hq0 : q.2.1 ≠ 0 := hqJ
          unfold dot xp at k2
          rw [cu, cv] at k2
          simp only [Int.mul_zero, Int.zero_mul, Int.sub_zero, Int.add_zero, Int.zero_add] at k2
          have := (Int.mul_eq_zero.mp k2).resolve_right hq0
          unfold xp
          rw [cu, cv]
          exact v_ext (by simp) this (by simp)
        | 2, _ =>
          have cu : u.2.2 = 0 := cu
          have cv : v.2.2 = 0 := cv
          have hq0 : q.2.2 ≠ 0 := hqJ
          unfold dot xp at k2
          rw [cu, cv] at k2
          simp only [Int.mul_zero, Int.zero_mul, Int.sub_zero, Int.add_zero, Int.zero_add] at k2
          have := (Int.mul_eq_zero.mp k2).resolve_right hq0
          unfold xp
          rw [cu, cv]
          exact v_ext (by simp) (by simp) this
      have t3 : ∀ s' : Int, 0 < s' * d3 (slF s a q u) (slF s a q v) q → T3 s' ([u, v].map (slF s a q) ++ [q]) := by
        intro s' hp i j k hij hjk hk
        have hk : k < 3 := hk
        have h0 : i = 0 := by omega
        have h1 : j = 1 := by omega
        have h2 : k = 2 := by omega
        subst h0; subst h1; subst h2
        exact hp
      by_cases c : 0 < d3 (slF s a q u) (slF s a q v) q
      · exact ⟨1, Or.inl rfl, t3 1 (by omega)⟩
      · exact ⟨-1, Or.inr rfl, t3 (-1) (by omega)⟩
    | _ :: _ :: _ :: _, h => exact absurd h (by simp; omega)
