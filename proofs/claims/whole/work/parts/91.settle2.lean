/-! what settling makes -/
def NP (L : List V3) : Prop := ∀ x, Hl L [] x → x.2.1 = 0 → x.2.2 = 0 → x = O3
def tn (col : Nat) (l : V3) : V3 := if cmp3 l col < 0 then neg3 l else l
theorem tn_spec {col : Nat} {l : V3} (h : cmp3 l col ≠ 0) : 0 < cmp3 (tn col l) col ∧ (tn col l = l ∨ tn col l = neg3 l) := by
  unfold tn
  split
  · exact ⟨by rw [cmp_neg]; omega, Or.inr rfl⟩
  · exact ⟨by omega, Or.inl rfl⟩
theorem st1_none {col k : Nat} {L E : List V3} (h : fw L col (L.length - k) k = none) : st1 col (L, E, k) = (L, E, k) := by
  show stA col (L, E, k) (fw L col (L.length - k) k) = _
  rw [h]; rfl
theorem st1_some {col k f : Nat} {L E : List V3} (h : fw L col (L.length - k) k = some f) : st1 col (L, E, k) = stB col k L E f := by
  show stA col (L, E, k) (fw L col (L.length - k) k) = _
  rw [h]; rfl
theorem fw1 {l : V3} {col : Nat} : fw [l] col 1 0 = if cmp3 l col = 0 then none else some 0 := rfl
theorem stB1 {col : Nat} {l : V3} {E : List V3} (hE : E.length < 1000) : stB col 0 [l] E 0 = ([tn col l], E.map (clr col (tn col l)), 1) := by
  have e1 : turnAt col 0 (swp [l] 0 0) = [tn col l] := by
    show (if cmp3 l col < 0 then [neg3 l] else [l]) = _
    unfold tn
    split <;> rfl
  unfold stB
  rw [e1]
  show ([ccF col (nI 0) (tn col l) 0 (tn col l)], E.mapIdx (ccF col (-1) (tn col l)), 1) = _
  rw [cc_all hE]
  unfold ccF
  rw [if_pos (Or.inl rfl)]
theorem stB20 {col : Nat} {l m : V3} {E : List V3} (hE : E.length < 1000) : stB col 0 [l, m] E 0 = ([tn col l, clr col (tn col l) m], E.map (clr col (tn col l)), 1) := by
  have e1 : turnAt col 0 (swp [l, m] 0 0) = [tn col l, m] := by
    show (if cmp3 l col < 0 then [neg3 l, m] else [l, m]) = _
    unfold tn
    split <;> rfl
  unfold stB
  rw [e1]
  show ([ccF col (nI 0) (tn col l) 0 (tn col l), ccF col (nI 0) (tn col l) 1 m], E.mapIdx (ccF col (-1) (tn col l)), 1) = _
  rw [cc_all hE]
  unfold ccF clr
  rw [if_pos (Or.inl rfl)]
  by_cases c : cmp3 m col = 0
  · rw [if_pos (Or.inr c), if_pos c]
  · rw [if_neg (fun q => q.elim (by decide) c), if_neg c]
theorem stB01 {col : Nat} {l m : V3} {E : List V3} : stB col 0 [l, m] E 1 = stB col 0 [m, l] E 0 := rfl
theorem stB21 {col : Nat} {l m : V3} {E : List V3} (hE : E.length < 1000) : stB col 1 [l, m] E 1 = ([clr col (tn col m) l, tn col m], E.map (clr col (tn col m)), 2) := by
  have e1 : turnAt col 1 (swp [l, m] 1 1) = [l, tn col m] := by
    show (if cmp3 m col < 0 then [l, neg3 m] else [l, m]) = _
    unfold tn
    split <;> rfl
  unfold stB
  rw [e1]
  show ([ccF col (nI 1) (tn col m) 0 l, ccF col (nI 1) (tn col m) 1 (tn col m)], E.mapIdx (ccF col (-1) (tn col m)), 2) = _
  rw [cc_all hE]
  unfold ccF clr
  rw [if_pos (Or.inl rfl)]
  by_cases c : cmp3 l col = 0
  · rw [if_pos (Or.inr c), if_pos c]
  · rw [if_neg (fun q => q.elim (by decide) c), if_neg c]
/-- e' is e, but for lines -/
def Eqv (L : List V3) (e e' : V3) : Prop := ∃ g p : Int, 0 < g ∧ 0 < p ∧ Hl L [] (ad (sm g e') (sm (-p) e))
theorem Eqv.refl {L : List V3} {e : V3} : Eqv L e e := ⟨1, 1, by omega, by omega, by rw [show ad (sm 1 e) (sm (-1) e) = O3 by unfold ad sm; refine v_ext ?_ ?_ ?_ <;> simp <;> omega]; exact Hl.zero⟩
theorem Eqv.trans {L : List V3} {e f h : V3} (h1 : Eqv L e f) (h2 : Eqv L f h) : Eqv L e h := by
  obtain ⟨g, p, hg, hp, k⟩ := h1
  obtain ⟨g', p', hg', hp', k'⟩ := h2
  refine ⟨g * g', p * p', Int.mul_pos hg hg', Int.mul_pos hp hp', ?_⟩
  have := Hl.add (span_sm k p') (span_sm k' g)
  refine Eq.mp (congrArg (Hl L []) ?_) this
  unfold ad sm
  refine v_ext ?_ ?_ ?_ <;> grind
theorem Eqv.of {L : List V3} {e e' u : V3} {g p c : Int} (hg : 0 < g) (hp : 0 < p) (h : sm g e' = lin p c e u) (hu : Hl L [] u) : Eqv L e e' := by
  refine ⟨g, p, hg, hp, ?_⟩
  rw [h, show ad (lin p c e u) (sm (-p) e) = sm c u by unfold ad sm lin; refine v_ext ?_ ?_ ?_ <;> grind]
  exact span_sm hu c
theorem Eqv.span {L : List V3} {e e' : V3} (h : Eqv L e e') (hs : Hl L [] e') : Hl L [] e := by
  obtain ⟨g, p, hg, hp, k⟩ := h
  refine Hl.sat hp ?_
  have := Hl.add (span_sm k (-1)) (span_sm hs g)
  refine Eq.mp (congrArg (Hl L []) ?_) this
  unfold ad sm
  refine v_ext ?_ ?_ ?_ <;> grind
/-- u of the lines, e not: they are apart -/
theorem apart {L : List V3} {u e : V3} (hu : Hl L [] u) (hu0 : u ≠ O3) (he : ¬ Hl L [] e) : xp u e ≠ O3 := fun q => by
  apply he
  refine Hl.sat (k := dot u u) (dd_ne hu0) ?_
  rw [par_sm q]
  exact span_sm hu _
theorem span_neg {L : List V3} {x : V3} (h : Hl L [] x) : Hl L [] (neg3 x) := by rw [neg_sm]; exact span_sm h _
theorem span_tn {L : List V3} {col : Nat} {x : V3} (h : Hl L [] x) : Hl L [] (tn col x) := by
  unfold tn
  split
  · exact span_neg h
  · exact h
theorem gcd3_tn {col : Nat} {x : V3} (h : gcd3 x = 1) : gcd3 (tn col x) = 1 := by
  unfold tn
  split
  · rw [gcd3_neg]; exact h
  · exact h
/-- a cleared row: e' is e but for lines, primitive, 0 in the column -/
theorem clr_eqv {L : List V3} {col : Nat} {u e : V3} (hu : Hl L [] u) (hp : 0 < cmp3 u col) (hg : gcd3 e = 1) (he : ¬ Hl L [] e) : gcd3 (clr col u e) = 1 ∧ cmp3 (clr col u e) col = 0 ∧ Eqv L e (clr col u e) := by
  have hu0 : u ≠ O3 := fun q => by rw [q, cmp_O] at hp; omega
  obtain ⟨h1, h2, g, p, c, hg', hp', h3⟩ := clr_spec hp hg (apart hu hu0 he)
  exact ⟨h1, h2, Eqv.of hg' hp' h3 hu⟩
theorem clr_other {col c : Nat} {u e : V3} (hp : 0 < cmp3 u col) (hg : gcd3 e = 1) (hx : xp u e ≠ O3) (hc : cmp3 u c = 0) (he : cmp3 e c = 0) : cmp3 (clr col u e) c = 0 := by
  obtain ⟨_, _, g, p, k, hg', hp', h3⟩ := clr_spec hp hg hx
  have := congrArg (fun v => cmp3 v c) h3
  rw [cmp_sm, cmp_lin, hc, he, Int.mul_zero, Int.mul_zero, Int.add_zero] at this
  exact (Int.mul_eq_zero.mp this).resolve_left (by omega)
/-- SETTLED -/
def Settled (L E L' E' : List V3) : Prop := Canon (Hl L []) L' ∧ L'.length = L.length ∧ ∃ f : V3 → V3, E' = E.map f ∧ ∀ e ∈ E, gcd3 (f e) = 1 ∧ pz L' (f e) ∧ Eqv L e (f e)
theorem settle_spec {L E : List V3} (hl : L.length ≤ 2) (hL : ∀ l ∈ L, gcd3 l = 1) (hLL : ∀ l m, L = [l, m] → xp l m ≠ O3) (hE : ∀ e ∈ E, gcd3 e = 1 ∧ ¬ Hl L [] e) (hEl : E.length < 1000) (hN : NP L) :
    Settled L E (stt L E).1 (stt L E).2.1 := by
  match L, hl, hL, hLL, hE, hN with
  | [], _, _, _, hE, _ =>
    have e1 : st1 1 ([], E, 0) = ([], E, 0) := rfl
    have e2 : stt [] E = ([], E, 0) := rfl
    rw [e2]
    exact ⟨fun x hx => hx.nil, rfl, fun x => x, by simp, fun e he => ⟨(hE e he).1, trivial, Eqv.refl⟩⟩
  | [l], _, hL, _, hE, hN =>
    have hl1 := hL l (by simp)
    have hsp : Hl [l] [] l := by have := Hl.line (L := [l]) (E := []) (l := l) (by simp) 1; rw [sm_1] at this; exact this
    have main : ∀ col, (col = 1 ∨ (col = 2 ∧ l.2.1 = 0)) → cmp3 l col ≠ 0 → Settled [l] E [tn col l] (E.map (clr col (tn col l))) := by
      intro col hcol hne
      obtain ⟨t1, t2⟩ := tn_spec hne
      have tz : l.2.1 = 0 → (tn col l).2.1 = 0 := fun h => by rcases t2 with q | q <;> rw [q] <;> simp [neg3, h]
      refine ⟨⟨gcd3_tn hl1, ?_, fun x => ⟨fun hx => ?_, fun hx => ?_⟩⟩, rfl, clr col (tn col l), rfl, fun e he => ?_⟩
      · rcases hcol with h | ⟨h, h'⟩
        · subst h; exact Or.inl t1
        · subst h; exact Or.inr ⟨tz h', t1⟩
      · obtain ⟨k, c, hk, hx⟩ := hx.l1
        refine Classical.byContradiction fun q => sm_ne (k := k) (by omega) q ?_
        rw [← xp_sm', hx, xp_sm']
        rcases t2 with h | h
        · rw [h, xp_self, sm_O]
        · rw [h, show xp (neg3 l) l = O3 by unfold xp neg3; refine v_ext ?_ ?_ ?_ <;> grind, sm_O]
      · have := par_sm hx
        refine Hl.sat (dd_ne (prim_ne (gcd3_tn (col := col) hl1))) ?_
        rw [this]
        exact span_sm (span_tn hsp) _
      · obtain ⟨h1, h2, h3⟩ := clr_eqv (span_tn hsp) t1 (hE e he).1 (hE e he).2
        refine ⟨h1, ?_, h3⟩
        show if (tn col l).2.1 = 0 then (clr col (tn col l) e).2.2 = 0 else (clr col (tn col l) e).2.1 = 0
        rcases hcol with h | ⟨h, h'⟩
        · subst h
          rw [if_neg (by have : 0 < (tn 1 l).2.1 := t1; omega)]
          exact h2
        · subst h
          rw [if_pos (tz h')]
          exact h2
    by_cases c1 : l.2.1 = 0
    · have c2 : l.2.2 ≠ 0 := fun q => prim_ne hl1 (hN l hsp c1 q)
      have e1 : st1 1 ([l], E, 0) = ([l], E, 0) := st1_none (by show fw [l] 1 1 0 = none; rw [fw1]; exact if_pos c1)
      have e2 : st1 2 ([l], E, 0) = _ := st1_some (by show fw [l] 2 1 0 = some 0; rw [fw1]; exact if_neg c2)
      have e3 : stt [l] E = ([tn 2 l], E.map (clr 2 (tn 2 l)), 1) := by
        show st1 2 (st1 1 ([l], E, 0)) = _
        rw [e1, e2, stB1 hEl]
      rw [e3]
      exact main 2 (Or.inr ⟨rfl, c1⟩) c2
    · have e1 : st1 1 ([l], E, 0) = _ := st1_some (by show fw [l] 1 1 0 = some 0; rw [fw1]; exact if_neg c1)
      have e3 : stt [l] E = ([tn 1 l], E.map (clr 1 (tn 1 l)), 1) := by
        show st1 2 (st1 1 ([l], E, 0)) = _
        rw [e1, stB1 hEl]
        exact st1_none rfl
      rw [e3]
      exact main 1 (Or.inl rfl) c1
  | [l, m], _, hL, hLL, hE, hN =>
    have main : ∀ l m : V3, gcd3 l = 1 → gcd3 m = 1 → xp l m ≠ O3 → (∀ e ∈ E, gcd3 e = 1 ∧ ¬ Hl [l, m] [] e) → NP [l, m] → l.2.1 ≠ 0 →
        ∃ L' E', st1 2 (stB 1 0 [l, m] E 0) = (L', E', 2) ∧ Settled [l, m] E L' E' := by
      intro l m hl1 hm1 hlm hE hN c1
      have hsl : Hl [l, m] [] l := by have := Hl.line (L := [l, m]) (E := []) (l := l) (by simp) 1; rw [sm_1] at this; exact this
      have hsm : Hl [l, m] [] m := by have := Hl.line (L := [l, m]) (E := []) (l := m) (by simp) 1; rw [sm_1] at this; exact this
      obtain ⟨t1, t2⟩ := tn_spec (col := 1) (l := l) c1
      have hu := span_tn (col := 1) hsl
      have gu := gcd3_tn (col := 1) hl1
      have hum : xp (tn 1 l) m ≠ O3 := by
        rcases t2 with h | h
        · rw [h]; exact hlm
        · rw [h, show xp (neg3 l) m = sm (-1) (xp l m) by unfold xp neg3 sm; refine v_ext ?_ ?_ ?_ <;> grind]
          exact sm_ne (by omega) hlm
      rw [stB20 hEl]
      generalize hU : tn 1 l = u at *
      have hu0 : u ≠ O3 := prim_ne gu
      obtain ⟨m1, m2, g, p, c, hg, hp, m3⟩ := clr_spec t1 hm1 hum
      have hsm1 : Hl [l, m] [] (clr 1 u m) := by
        refine Hl.sat hg ?_
        rw [m3, lin_ad]
        exact Hl.add (span_sm hsm _) (span_sm hu _)
      have hum1 : xp u (clr 1 u m) ≠ O3 := fun q => by
        have : sm g (xp u (clr 1 u m)) = sm p (xp u m) := by
          rw [← xp_sm', m3, xp_lin', xp_self]
          unfold lin sm; refine v_ext ?_ ?_ ?_ <;> simp
        rw [q, sm_O] at this
        exact sm_ne (by omega) hum this.symm
      generalize hM : clr 1 u m = n at *
      have c2 : n.2.2 ≠ 0 := fun q => prim_ne m1 (hN n hsm1 m2 q)
      obtain ⟨w1, w2⟩ := tn_spec (col := 2) (l := n) c2
      have hw := span_tn (col := 2) hsm1
      have gw := gcd3_tn (col := 2) m1
      have huw : xp u (tn 2 n) ≠ O3 := by
        rcases w2 with h | h
        · rw [h]; exact hum1
        · rw [h, show xp u (neg3 n) = sm (-1) (xp u n) by unfold xp neg3 sm; refine v_ext ?_ ?_ ?_ <;> grind]
          exact sm_ne (by omega) hum1
      have wz : (tn 2 n).2.1 = 0 := by
        have : n.2.1 = 0 := m2
        rcases w2 with h | h <;> rw [h] <;> simp [neg3, this]
      refine ⟨[clr 2 (tn 2 n) u, tn 2 n], (E.map (clr 1 u)).map (clr 2 (tn 2 n)), ?_, ?_⟩
      · rw [st1_some (f := 1) (by show fw [u, n] 2 1 1 = some 1; unfold fw; exact if_neg c2), stB21 (by rw [List.length_map]; exact hEl)]
      generalize hW : tn 2 n = w at *
      have hw0 : w ≠ O3 := prim_ne gw
      obtain ⟨u1, u2, g2, p2, c2', hg2, hp2, u3⟩ := clr_spec w1 gu (xp_ne_symm huw)
      have wz' : cmp3 w 1 = 0 := wz
      have u4 : 0 < (clr 2 w u).2.1 := by
        have := congrArg (fun v => cmp3 v 1) u3
        rw [cmp_sm, cmp_lin, wz', Int.mul_zero, Int.add_zero] at this
        have hpos := Int.mul_pos hp2 t1
        rw [← this] at hpos
        exact pos_of hg2 hpos
      have hus : Hl [l, m] [] (clr 2 w u) := by
        refine Hl.sat hg2 ?_
        rw [u3, lin_ad]
        exact Hl.add (span_sm hu _) (span_sm hw _)
      generalize hU2 : clr 2 w u = v at *
      have hd : ∀ x, d3 v w x = 0 → Hl [l, m] [] x := by
        intro x hx
        -- v.w-part: x (v1 w2) = x1 w2 v + x2 v1 w
        rw [d3_12 u2 wz] at hx
        refine Hl.sat (k := v.2.1 * w.2.2) (Int.mul_pos u4 w1) ?_
        have : sm (v.2.1 * w.2.2) x = ad (sm (w.2.2 * x.2.1) v) (sm (v.2.1 * x.2.2) w) := by
          unfold sm ad
          refine v_ext ?_ ?_ ?_
          · show v.2.1 * w.2.2 * x.1 = w.2.2 * x.2.1 * v.1 + v.2.1 * x.2.2 * w.1
            grind
          · show v.2.1 * w.2.2 * x.2.1 = w.2.2 * x.2.1 * v.2.1 + v.2.1 * x.2.2 * w.2.1
            rw [wz]; grind
          · show v.2.1 * w.2.2 * x.2.2 = w.2.2 * x.2.1 * v.2.2 + v.2.1 * x.2.2 * w.2.2
            rw [show v.2.2 = 0 from u2]; grind
        rw [this]
        exact Hl.add (span_sm hus _) (span_sm hw _)
      refine ⟨⟨u1, gw, u4, u2, wz, w1, fun x => ⟨fun hx => ?_, hd x⟩⟩, rfl, fun e => clr 2 w (clr 1 u e), by rw [List.map_map]; rfl, fun e he => ?_⟩
      · -- lines l, m: u, n, w, v are made of them and apart; so x is
        have hv0 : xp v w ≠ O3 := fun q => by
          have := congrArg Prod.fst q
          have h' : v.2.1 * w.2.2 - v.2.2 * w.2.1 = 0 := this
          rw [wz, Int.mul_zero, Int.sub_zero] at h'
          have := Int.mul_pos u4 w1
          have h3 : cmp3 w 2 = w.2.2 := rfl
          rw [h3] at this
          omega
        obtain ⟨k, c, d, hk, e⟩ := hx.l2
        obtain ⟨kv, cv, dv, hkv, ev⟩ := hus.l2
        obtain ⟨kw, cw, dw, hkw, ew⟩ := hw.l2
        have : (kv * kw * k) * d3 v w x = 0 := by
          have t : d3 (sm kv v) (sm kw w) (sm k x) = (kv * kw * k) * d3 v w x := by unfold d3 dot xp sm; grind
          rw [← t, ev, ew, e]
          unfold d3 dot xp lin; grind
        exact (Int.mul_eq_zero.mp this).resolve_left (by have := Int.mul_pos (Int.mul_pos hkv hkw) hk; omega)
      · obtain ⟨g1, g2', g3⟩ := clr_eqv hu t1 (hE e he).1 (hE e he).2
        have he2 : ¬ Hl [l, m] [] (clr 1 u e) := fun q => (hE e he).2 (g3.span q)
        obtain ⟨k1, k2, k3⟩ := clr_eqv hw w1 g1 he2
        exact ⟨k1, ⟨clr_other w1 g1 (apart hw hw0 he2) wz' g2', k2⟩, g3.trans k3⟩
    have hsl : Hl [l, m] [] l := by have := Hl.line (L := [l, m]) (E := []) (l := l) (by simp) 1; rw [sm_1] at this; exact this
    have hsm : Hl [l, m] [] m := by have := Hl.line (L := [l, m]) (E := []) (l := m) (by simp) 1; rw [sm_1] at this; exact this
    have hsw : ∀ {x}, Hl [m, l] [] x ↔ Hl [l, m] [] x := fun {x} => ⟨fun h => h.mono (fun y hy => by simp at hy ⊢; exact hy.symm) (fun _ h => h), fun h => h.mono (fun y hy => by simp at hy ⊢; exact hy.symm) (fun _ h => h)⟩
    by_cases c1 : l.2.1 = 0
    · have c2 : m.2.1 ≠ 0 := fun q => by
        -- both in the third column alone: a mix is 0 there too
        have z : Hl [l, m] [] (lin m.2.2 (-l.2.2) l m) := by rw [lin_ad]; exact Hl.add (span_sm hsl _) (span_sm hsm _)
        have z0 := hN _ z (by unfold lin; simp only; rw [c1, q]; simp) (by unfold lin; simp only; grind)
        have := congrArg Prod.fst z0
        have z1 : m.2.2 * l.1 + -l.2.2 * m.1 = 0 := this
        apply hLL l m rfl
        unfold xp
        rw [c1, q]
        refine v_ext (by simp) ?_ (by simp)
        show l.2.2 * m.1 - l.1 * m.2.2 = 0
        grind
      obtain ⟨L', E', h1, h2⟩ := main m l (hL m (by simp)) (hL l (by simp)) (xp_ne_symm (hLL l m rfl)) (fun e he => ⟨(hE e he).1, fun q => (hE e he).2 (hsw.mp q)⟩) (fun x hx => hN x (hsw.mp hx)) c2
      have e1 : st1 1 ([l, m], E, 0) = stB 1 0 [l, m] E 1 := st1_some (by
        show fw [l, m] 1 2 0 = some 1
        unfold fw
        rw [if_pos (show cmp3 (gt [l, m] 0) 1 = 0 from c1)]
        unfold fw
        exact if_neg c2)
      have e3 : stt [l, m] E = (L', E', 2) := by
        show st1 2 (st1 1 ([l, m], E, 0)) = _
        rw [e1, stB01, h1]
      rw [e3]
      have hfe : Hl [m, l] [] = Hl [l, m] [] := funext fun x => propext hsw
      obtain ⟨k1, k2, f, k3, k4⟩ := h2
      rw [hfe] at k1
      refine ⟨k1, k2, f, k3, fun e he => ⟨(k4 e he).1, (k4 e he).2.1, ?_⟩⟩
      obtain ⟨g, p, q1, q2, q3⟩ := (k4 e he).2.2
      exact ⟨g, p, q1, q2, hsw.mp q3⟩
    · obtain ⟨L', E', h1, h2⟩ := main l m (hL l (by simp)) (hL m (by simp)) (hLL l m rfl) hE hN c1
      have e1 : st1 1 ([l, m], E, 0) = stB 1 0 [l, m] E 0 := st1_some (by
        show fw [l, m] 1 2 0 = some 0
        unfold fw
        exact if_neg c1)
      have e3 : stt [l, m] E = (L', E', 2) := by
        show st1 2 (st1 1 ([l, m], E, 0)) = _
        rw [e1, h1]
      rw [e3]
      exact h2
  | _ :: _ :: _ :: _, hl, _, _, _, _ => exact absurd hl (by simp)
