/-! HOW LARGE THE CLASS'S ROWS GET -/
theorem bdV_cmp {B : Int} {v : V3} (h : bdV B v) : ∀ j, bdI B (cmp3 v j)
  | 0 => h.1
  | 1 => h.2.1
  | _ + 2 => h.2.2
theorem bdV_of {B : Int} {v : V3} (h : ∀ j, bdI B (cmp3 v j)) : bdV B v := ⟨h 0, h 1, h 2⟩
theorem bdI_add {B C a b : Int} (ha : bdI B a) (hb : bdI C b) : bdI (B + C) (a + b) := by
  obtain ⟨h1, h2⟩ := ha
  obtain ⟨h3, h4⟩ := hb
  exact ⟨by omega, by omega⟩
theorem bdI_neg {B a : Int} (ha : bdI B a) : bdI B (-a) := by
  obtain ⟨h1, h2⟩ := ha
  exact ⟨by omega, by omega⟩
theorem bdl_lin {B C D : Int} {v u : V3} {a b : Int} (ha : bdI B a) (hb : bdI C b) (hv : bdV D v) (hu : bdV D u) : bdV (B * D + C * D) (lin a b v u) := bdV_of fun j => by
  rw [cmp_lin]
  exact bdI_add (bd_mul_z ha (bdV_cmp hv j)) (bd_mul_z hb (bdV_cmp hu j))
theorem bd_smd {B g : Int} {u v : V3} (hg : 0 < g) (e : sm g u = v) (h : bdV B v) : bdV B u := bdV_of fun j => by
  refine bd_comp hg (y := cmp3 v j) ?_ (bdV_cmp h j)
  rw [← e, cmp_sm]
theorem tn_bd {B : Int} {col : Nat} {l : V3} (h : bdV B l) : bdV B (tn col l) := by
  unfold tn
  split
  · exact bdV_neg h
  · exact h
theorem prim_e0 {v : V3} (h : gcd3 v = 1) (h1 : v.2.1 = 0) (h2 : v.2.2 = 0) : bdV 1 v := by
  unfold gcd3 at h
  rw [h1, h2] at h
  simp at h
  exact ⟨⟨by omega, by omega⟩, by rw [h1]; exact ⟨by omega, by omega⟩, by rw [h2]; exact ⟨by omega, by omega⟩⟩
theorem clr_bd1 {col : Nat} {u v a : V3} {R : Int} (hR : 0 ≤ R) (hu : 0 < cmp3 u col) (hv : gcd3 v = 1) (hx : xp u v ≠ O3) (ha : bdV R a) (hau : dot a u = 0) (hav : dot a v = 0) (a0 : a ≠ O3) : bdV R (clr col u v) := by
  obtain ⟨g1, g2, g, p, c, hg, hp, e⟩ := clr_spec hu hv hx
  have h1 : dot a (clr col u v) = 0 := by
    have := congrArg (dot a) e
    rw [dot_sm, dot_lin, hau, hav, Int.mul_zero, Int.mul_zero, Int.add_zero] at this
    exact z_of hg this
  refine prim_bd g1 h1 (b := un col) (by rw [dot_un]; exact g2) (fun q => ?_) (bd_un ha hR col)
  have := par_dot a0 q hau
  rw [dot_un] at this
  omega
theorem clr_bd2 {col : Nat} {u v : V3} {R : Int} (hR : 1 ≤ R) (hx : xp u v ≠ O3) (hu0 : cmp3 u col ≠ 0) (hu : bdV R u) (hv : bdV R v) : bdV (2 * (R * R)) (clr col u v) := by
  have hRR : R ≤ 2 * (R * R) := by
    have : R * 1 ≤ R * R := Int.mul_le_mul_of_nonneg_left hR (by omega)
    omega
  unfold clr
  split
  · exact bdV_mono hRR hv
  · have hn : lin (cmp3 u col) (-(cmp3 v col)) v u ≠ O3 := fun q => by
      have e := xp_lin' (cmp3 u col) (-(cmp3 v col)) v u u
      rw [q, xp_O, xp_self] at e
      have : lin (cmp3 u col) (-(cmp3 v col)) (xp u v) O3 = sm (cmp3 u col) (xp u v) := by unfold lin sm; refine v_ext ?_ ?_ ?_ <;> simp
      rw [this] at e
      exact sm_ne hu0 hx e.symm
    obtain ⟨g, hg, e, _⟩ := mix_spec hn
    have := bdl_lin (bdV_cmp hu col) (bdI_neg (bdV_cmp hv col)) hv hu
    rw [show R * R + R * R = 2 * (R * R) by omega] at this
    exact bd_smd hg e this
section BND
variable {A : V3 → Prop} {L E : List V3}
theorem bd_BD {v : V3} (h : bdV (2 * (2700 * 2700)) v) : bdV BD v := bdV_mono (by decide) h
theorem bd_R {v : V3} (h : bdV 2700 v) : bdV BD v := bdV_mono (by decide) h
theorem Inv_z.okC (h : Inv_z A L E) (hA : ∀ a, A a → bdV 2700 a) (hl : E.length ≤ 48) : okC (L, E) := by
  obtain ⟨h1, h2⟩ := h.bound (R := 2700) (by omega) hA
  exact ⟨fun v hv => bd_BD (h2 v hv).1, fun v hv => bd_BD (h1 v hv).1, hl⟩
theorem okR_of : ∀ {as : List V3} {s : LE} {A : V3 → Prop}, Inv_z A s.1 s.2 → (∀ a, A a → bdV 2700 a) → (∀ a ∈ as, bdV 2700 a) → s.2.length + as.length ≤ 48 → okR s as
  | [], s, A, h, hA, _, hl => h.okC hA (by simpa using hl)
  | a :: as, s, A, h, hA, has, hl => by
    rw [List.length_cons] at hl
    obtain ⟨c1, c2⟩ := h.cut a
    have c2 : (cutF a s).2.length ≤ s.2.length + 1 := c2
    exact ⟨h.okC hA (by omega), has a List.mem_cons_self, okR_of (s := cutF a s) c1 (fun b hb => hb.elim (hA b) (fun q => by rw [q]; exact has a List.mem_cons_self)) (fun b hb => has b (List.mem_cons_of_mem _ hb)) (by omega)⟩
theorem okC_nil : okC ([], []) := ⟨fun _ h => absurd h List.not_mem_nil, fun _ h => absurd h List.not_mem_nil, by simp⟩
theorem okR_nil : ∀ {as : List V3}, (∀ a ∈ as, bdV 2700 a) → okR ([], []) as
  | [], _ => okC_nil
  | a :: as, h => ⟨okC_nil, h a List.mem_cons_self, okR_nil (as := as) fun b hb => h b (List.mem_cons_of_mem _ hb)⟩
theorem bdL_map {f : V3 → V3} (h : ∀ e ∈ E, bdV BD (f e)) : bdL (E.map f) := fun v hv => by
  obtain ⟨e, he, rfl⟩ := List.mem_map.mp hv
  exact h e he
theorem two_bd {l m a : V3} (a0 : a ≠ O3) (ha : bdV 2700 a) (al : dot a l = 0) (am : dot a m = 0) (gl : gcd3 l = 1) (gm : gcd3 m = 1) (hx : xp l m ≠ O3) (bl : bdV 2700 l) (_bm : bdV 2700 m)
    (ls : Hl L [] l) (ms : Hl L [] m) (hE : ∀ e ∈ E, gcd3 e = 1 ∧ bdV 2700 e ∧ ¬ Hl L [] e) (hN : NP L) (hEl : E.length < 1000) (c : cmp3 l 1 ≠ 0) :
    bdL (stB 1 0 [l, m] E 0).1 ∧ bdL (stB 1 0 [l, m] E 0).2.1 ∧ bdL (st1 2 (stB 1 0 [l, m] E 0)).1 ∧ bdL (st1 2 (stB 1 0 [l, m] E 0)).2.1 := by
  rw [stB20 hEl]
  obtain ⟨t1, t2⟩ := tn_spec c
  have gu := gcd3_tn (col := 1) gl
  have bu := tn_bd (col := 1) bl
  have us : Hl L [] (tn 1 l) := span_tn ls
  have au : dot a (tn 1 l) = 0 := by
    rcases t2 with q | q
    · rw [q]; exact al
    · rw [q, dot_neg', al]; rfl
  have hxu : xp (tn 1 l) m ≠ O3 := by
    rcases t2 with q | q
    · rw [q]; exact hx
    · rw [q]; exact fun z => hx (neg_par.mp z)
  generalize tn 1 l = u at *
  obtain ⟨m1, m2, g, p, k, hg, hp, e⟩ := clr_spec t1 gm hxu
  have mb := clr_bd1 (R := 2700) (by omega) t1 gm hxu ha au am a0
  have amm : dot a (clr 1 u m) = 0 := by
    have := congrArg (dot a) e
    rw [dot_sm, dot_lin, au, am, Int.mul_zero, Int.mul_zero, Int.add_zero] at this
    exact z_of hg this
  have mms : Hl L [] (clr 1 u m) := by
    refine Hl.sat hg ?_
    rw [e, lin_ad]
    exact Hl.add (span_sm ms _) (span_sm us _)
  generalize clr 1 u m = m' at *
  have m'2 : cmp3 m' 2 ≠ 0 := fun q => prim_ne m1 (hN m' mms m2 q)
  have hE' : ∀ e ∈ E, gcd3 (clr 1 u e) = 1 ∧ cmp3 (clr 1 u e) 1 = 0 ∧ ¬ Hl L [] (clr 1 u e) ∧ bdV BD (clr 1 u e) := fun e he => by
    obtain ⟨e1, e2, e3⟩ := hE e he
    obtain ⟨f1, f2, f3⟩ := clr_eqv us t1 e1 e3
    exact ⟨f1, f2, fun q => e3 (f3.span q), bd_BD (clr_bd2 (by omega) (apart us (prim_ne gu) e3) (by omega) bu e2)⟩
  refine ⟨fun v hv => ?_, bdL_map fun e he => (hE' e he).2.2.2, ?_⟩
  · rcases List.mem_cons.mp hv with rfl | q
    · exact bd_R bu
    · rw [List.mem_singleton.mp q]; exact bd_R mb
  have hfw : fw [u, m'] 2 ([u, m'].length - 1) 1 = some 1 := by
    show (if cmp3 m' 2 = 0 then _ else some 1) = some 1
    rw [if_neg m'2]
  rw [st1_some hfw, stB21 (by rw [List.length_map]; exact hEl)]
  obtain ⟨v1, v2⟩ := tn_spec m'2
  have gw := gcd3_tn (col := 2) m1
  have bw := tn_bd (col := 2) mb
  have ws : Hl L [] (tn 2 m') := span_tn mms
  have aw : dot a (tn 2 m') = 0 := by
    rcases v2 with q | q
    · rw [q]; exact amm
    · rw [q, dot_neg', amm]; rfl
  have w1 : cmp3 (tn 2 m') 1 = 0 := by
    rcases v2 with q | q
    · rw [q]; exact m2
    · rw [q, cmp_neg, m2]; rfl
  generalize tn 2 m' = w at *
  have hxw : xp w u ≠ O3 := fun q => by
    have := par_dot (h := un 1) (prim_ne gw) q (by rw [dot_comm, dot_un]; exact w1)
    rw [dot_comm, dot_un] at this
    omega
  refine ⟨fun v hv => ?_, fun v hv => ?_⟩
  · rcases List.mem_cons.mp hv with rfl | q
    · exact bd_R (clr_bd1 (by omega) v1 gu hxw ha aw au a0)
    · rw [List.mem_singleton.mp q]; exact bd_R bw
  · obtain ⟨e', he', rfl⟩ := List.mem_map.mp hv
    obtain ⟨e, he, rfl⟩ := List.mem_map.mp he'
    obtain ⟨f1, f2, f3, _⟩ := hE' e he
    obtain ⟨h1, h2, _⟩ := clr_eqv ws v1 f1 f3
    have h3 := clr_other v1 f1 (apart ws (prim_ne gw) f3) w1 f2
    exact bdV_mono (by decide) (prim_e0 h1 h3 h2)
theorem Inv_z.okS (h : Inv_z A L E) (hl : L.length ≤ 2) (hN : NP L) (hA : ∀ a, A a → bdV 2700 a) (hEl : E.length < 1000) : okS (L, E) := by
  obtain ⟨s1, s2, s3⟩ := h.span hl
  obtain ⟨bE, bL⟩ := h.bound (R := 2700) (by omega) hA
  have b1 : bdL L := fun v hv => bd_BD (bL v hv).1
  have b2 : bdL E := fun v hv => bd_BD (bE v hv).1
  refine ⟨b1, b2, ?_⟩
  obtain ⟨⟨a1, a2, a3, a4⟩, ⟨i1, i2, i3⟩, _⟩ := h
  unfold stt
  match L, hl, s1, s2, s3, b1, bL, bE, a1, a3, i1, hN with
  | [], _, _, _, _, b1, _, _, _, _, _, _ =>
    rw [st1_none (L := []) (k := 0) (col := 1) rfl, st1_none (L := []) (k := 0) (col := 2) rfl]
    exact ⟨b1, b2, b1, b2⟩
  | [l], _, s1, s2, s3, b1, bL, bE, a1, a3, i1, hN =>
    have gl := s1 l (by simp)
    have ls : Hl [l] [] l := by have := Hl.line (L := [l]) (E := []) (l := l) (by simp) 1; rw [sm_1] at this; exact this
    have key : ∀ col, cmp3 l col ≠ 0 → bdL [tn col l] ∧ bdL (E.map (clr col (tn col l))) := fun col c => by
      obtain ⟨t1, t2⟩ := tn_spec c
      refine ⟨fun v hv => ?_, bdL_map fun e he => ?_⟩
      · rw [List.mem_singleton.mp hv]; exact tn_bd (b1 l (by simp))
      · obtain ⟨e1, e2⟩ := s3 e he
        obtain ⟨_, _, q3⟩ := i1 e he
        obtain ⟨a, ⟨ha, hae⟩, a0⟩ := q3
        have hal := a1 a ha l (by simp)
        refine bd_R (clr_bd1 (by omega) t1 e1 (apart (span_tn ls) (prim_ne (gcd3_tn gl)) e2) (hA a ha) ?_ hae a0)
        rcases t2 with q | q
        · rw [q]; exact hal
        · rw [q, dot_neg', hal]; rfl
    by_cases c1 : cmp3 l 1 = 0
    · have c2 : cmp3 l 2 ≠ 0 := fun q => prim_ne gl (hN l ls c1 q)
      have f1 : fw [l] 1 ([l].length - 0) 0 = none := by show (if cmp3 l 1 = 0 then _ else some 0) = none; rw [if_pos c1]; rfl
      have f2 : fw [l] 2 ([l].length - 0) 0 = some 0 := by show (if cmp3 l 2 = 0 then _ else some 0) = some 0; rw [if_neg c2]
      rw [st1_none f1, st1_some f2, stB1 hEl]
      exact ⟨b1, b2, key 2 c2⟩
    · have f1 : fw [l] 1 ([l].length - 0) 0 = some 0 := by show (if cmp3 l 1 = 0 then _ else some 0) = some 0; rw [if_neg c1]
      rw [st1_some f1, stB1 hEl, st1_none (L := [tn 1 l]) (k := 1) (col := 2) rfl]
      exact ⟨(key 1 c1).1, (key 1 c1).2, key 1 c1⟩
  | [l, m], _, s1, s2, s3, b1, bL, bE, a1, a3, i1, hN =>
    obtain ⟨a, ha, a0⟩ := a3
    have gl := s1 l (by simp)
    have gm := s1 m (by simp)
    have hx := s2 l m rfl
    have ls : Hl [l, m] [] l := by have := Hl.line (L := [l, m]) (E := []) (l := l) (by simp) 1; rw [sm_1] at this; exact this
    have ms : Hl [l, m] [] m := by have := Hl.line (L := [l, m]) (E := []) (l := m) (by simp) 1; rw [sm_1] at this; exact this
    have hE : ∀ e ∈ E, gcd3 e = 1 ∧ bdV 2700 e ∧ ¬ Hl [l, m] [] e := fun e he => ⟨(s3 e he).1, (bE e he).2 (by simp), (s3 e he).2⟩
    have bl := (bL l (by simp)).2 (by simp)
    have bm := (bL m (by simp)).2 (by simp)
    by_cases c1 : cmp3 l 1 = 0
    · have c2 : cmp3 m 1 ≠ 0 := fun q => by
        -- both 0 there: their row's own is along the first column
        have e1 : l.2.1 = 0 := c1
        have e2 : m.2.1 = 0 := q
        have hc : Hl [l, m] [] (lin m.2.2 (-l.2.2) l m) := by rw [lin_ad]; exact Hl.add (span_sm ls _) (span_sm ms _)
        have z := hN _ hc (by show m.2.2 * l.2.1 + -l.2.2 * m.2.1 = 0; rw [e1, e2]; simp) (by show m.2.2 * l.2.2 + -l.2.2 * m.2.2 = 0; rw [Int.neg_mul, Int.mul_comm]; omega)
        have z1 := congrArg (fun v : V3 => v.1) z
        have z1 : m.2.2 * l.1 + -l.2.2 * m.1 = 0 := z1
        refine hx (v_ext ?_ ?_ ?_)
        · show l.2.1 * m.2.2 - l.2.2 * m.2.1 = 0; rw [e1, e2]; simp
        · show l.2.2 * m.1 - l.1 * m.2.2 = 0; rw [Int.neg_mul] at z1; rw [Int.mul_comm l.1]; omega
        · show l.1 * m.2.1 - l.2.1 * m.1 = 0; rw [e1, e2]; simp
      have f1 : fw [l, m] 1 ([l, m].length - 0) 0 = some 1 := by
        show (if cmp3 l 1 = 0 then (if cmp3 m 1 = 0 then _ else some 1) else some 0) = some 1
        rw [if_pos c1, if_neg c2]
      rw [st1_some f1, stB01]
      exact two_bd a0 (hA a ha) (a1 a ha m (by simp)) (a1 a ha l (by simp)) gm gl (xp_ne_symm hx) bm bl ms ls hE hN hEl c2
    · have f1 : fw [l, m] 1 ([l, m].length - 0) 0 = some 0 := by
        show (if cmp3 l 1 = 0 then _ else some 0) = some 0
        rw [if_neg c1]
      rw [st1_some f1]
      exact two_bd a0 (hA a ha) (a1 a ha l (by simp)) (a1 a ha m (by simp)) gl gm hx bl bm ls ms hE hN hEl c1
end BND
