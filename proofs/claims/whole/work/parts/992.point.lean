/-! THE REFERENCE: a single point, ends, two lines -/
theorem sm_c {g : Int} {u v : V3} (h : sm g u = v) : g * u.1 = v.1 ∧ g * u.2.1 = v.2.1 ∧ g * u.2.2 = v.2.2 := by rw [← h]; exact ⟨rfl, rfl, rfl⟩
theorem kp_nil (c : V3) : kp [] c = [c] := by unfold kp; simp
theorem fpt_spec : ∀ {G : List V3}, (∃ g, g ∈ G ∧ 0 < g.1) → (∀ g ∈ G, 0 ≤ g.1) → fpt G ∈ G ∧ 0 < (fpt G).1
  | [], h, _ => by obtain ⟨_, h, _⟩ := h; exact absurd h List.not_mem_nil
  | g :: t, h, hw => by
    unfold fpt
    by_cases c : g.1 = 0
    · rw [if_pos c]
      obtain ⟨p, hp, p0⟩ := h
      have hp' : p ∈ t := by
        rcases List.mem_cons.mp hp with rfl | q
        · omega
        · exact q
      obtain ⟨h1, h2⟩ := fpt_spec (G := t) ⟨p, hp', p0⟩ (fun g hg => hw g (List.mem_cons_of_mem _ hg))
      exact ⟨List.mem_cons_of_mem _ h1, h2⟩
    · rw [if_neg c]
      have := hw g List.mem_cons_self
      exact ⟨List.mem_cons_self, by omega⟩
theorem z_of {g x : Int} (hg : 0 < g) (h : g * x = 0) : x = 0 := (Int.mul_eq_zero.mp h).resolve_left (by omega)
section PT
variable {C G k1 : List V3}
theorem Pr.tight (_h : Pr C G) {k g : V3} (hg : g ≠ O3) : dot k (prm g) = 0 ↔ dot k g = 0 := by
  obtain ⟨c, hc, e, _⟩ := prm_spec hg
  have e2 := congrArg (dot k) e
  rw [dot_sm] at e2
  rw [← e2]
  exact ⟨fun q => by rw [q, Int.mul_zero], fun q => z_of hc q⟩
theorem Pr.prmS (_h : Pr C G) {g : V3} (hg : g ≠ O3) (hS : SC C g) : SC C (prm g) := by
  obtain ⟨c, hc, e, _⟩ := prm_spec hg
  exact Ce_sm hc (by rw [e]; exact hS)
theorem Pr.point (h : Pr C G) {j k : V3} (_hj : j ∈ C) (_hk : k ∈ C) (fj : flatB G j = true) (fk : flatB G k = true) (hx : xp j k ≠ O3) {M : Nat → List V3} (hM : M = mptF nil5 (fpt G)) :
    Rws (SC C) (TG G) (M 0) (M 1) (M 2) (M 3 ++ M 4) ∧ (∀ v ∈ M 3, v.1 = 0) ∧ (∀ v ∈ M 4, 0 < v.1) := by
  obtain ⟨hp, p0⟩ := fpt_spec h.2.2.2.2 (fun g hg => h.w (h.2.2.1 g hg))
  generalize fpt G = p at hp p0 hM
  have pS := h.2.2.1 p hp
  have p00 : p ≠ O3 := h.2.1 p hp
  have zz : ∀ x c, SC C x → flatB G c = true → dot x c = 0 := fun x c hxS fc => h.du.symm.ln (flat_ln.mp fc) hxS
  have par : ∀ x, SC C x → xp p x = O3 := fun x hxS => perp2 (zz p j pS fj) (zz p k pS fk) (zz x j hxS fj) (zz x k hxS fk) hx
  have l0 : ((-p.2.1, p.1, 0) : V3) ≠ O3 := fun q => by
    have := congrArg (fun v : V3 => v.2.1) q
    have : p.1 = 0 := this
    omega
  have m0 : ((-p.2.2, 0, p.1) : V3) ≠ O3 := fun q => by
    have := congrArg (fun v : V3 => v.2.2) q
    have : p.1 = 0 := this
    omega
  obtain ⟨g1, hg1, el, hl1⟩ := prm_spec l0
  obtain ⟨g2, hg2, em, hm1⟩ := prm_spec m0
  obtain ⟨g3, hg3, ep, hp1⟩ := prm_spec p00
  have M0 : M 0 = [prm (-p.2.1, p.1, 0), prm (-p.2.2, 0, p.1)] := by
    obtain ⟨a1, a2, a3⟩ := sm_c el
    obtain ⟨b1, b2, b3⟩ := sm_c em
    rw [hM]
    unfold mptF
    rw [mkM_k, mkM_k, mkM_o (by omega), prm_id hl1, prm_id hm1]
    rw [show nil5 0 = [] from rfl, kp_nil]
    unfold kp
    rw [if_neg]
    · rfl
    · intro q
      have q := List.mem_singleton.mp q
      rw [q] at b2
      have b2 : g2 * (prm (-p.2.1, p.1, 0)).2.1 = 0 := b2
      have a2 : g1 * (prm (-p.2.1, p.1, 0)).2.1 = p.1 := a2
      rw [z_of hg2 b2, Int.mul_zero] at a2
      omega
  have M4 : M 4 = [prm p] := by
    rw [hM]
    unfold mptF
    rw [mkM_o (by omega), mkM_o (by omega), mkM_k, prm_id hp1]
    exact kp_nil _
  have Mo : ∀ i, i ≠ 0 → i ≠ 4 → M i = [] := fun i h0 h4 => by
    rw [hM]
    unfold mptF
    rw [mkM_o h0, mkM_o h0, mkM_o h4]; rfl
  rw [M0, M4, Mo 1 (by omega) (by omega), Mo 2 (by omega) (by omega), Mo 3 (by omega) (by omega)]
  have lnT : ∀ x, Ln (TG G) x ↔ dot p x = 0 := fun x => by
    constructor
    · intro hx
      exact h.du.symm.ln hx pS
    · intro hx
      refine flat_ln.mp (flat_iff.mpr fun g hg => ?_)
      rw [dot_comm]
      exact par_dot p00 (par g (h.2.2.1 g hg)) hx
  have w3 : 0 < (prm p).1 := by
    obtain ⟨c1, _, _⟩ := sm_c ep
    exact pos_of hg3 (by rw [c1]; exact p0)
  refine ⟨⟨?_, List.nodup_nil, fun v => ?_, ?_, ?_, fun v => ?_⟩, fun _ q => absurd q List.not_mem_nil, fun v q => ?_⟩
  · obtain ⟨a1, a2, a3⟩ := sm_c el
    obtain ⟨b1, b2, b3⟩ := sm_c em
    generalize prm (-p.2.1, p.1, 0) = l at *
    generalize prm (-p.2.2, 0, p.1) = m at *
    have a1 : g1 * l.1 = -p.2.1 := a1
    have a2 : g1 * l.2.1 = p.1 := a2
    have a3 : g1 * l.2.2 = 0 := a3
    have b1 : g2 * m.1 = -p.2.2 := b1
    have b2 : g2 * m.2.1 = 0 := b2
    have b3 : g2 * m.2.2 = p.1 := b3
    have l2 := z_of hg1 a3
    have m1 := z_of hg2 b2
    refine ⟨hl1, hm1, pos_of hg1 (by rw [a2]; exact p0), l2, m1, pos_of hg2 (by rw [b3]; exact p0), fun x => ?_⟩
    rw [lnT x, d3_12 l2 m1]
    have e : (g1 * g2) * (l.2.1 * m.2.2 * x.1 - l.1 * m.2.2 * x.2.1 - l.2.1 * m.1 * x.2.2) = p.1 * dot p x := by
      have : (g1 * g2) * (l.2.1 * m.2.2 * x.1 - l.1 * m.2.2 * x.2.1 - l.2.1 * m.1 * x.2.2) = (g1 * l.2.1) * (g2 * m.2.2) * x.1 - (g1 * l.1) * (g2 * m.2.2) * x.2.1 - (g1 * l.2.1) * (g2 * m.1) * x.2.2 := by grind
      rw [this, a1, a2, b1, b3]
      unfold dot
      grind
    constructor
    · intro q
      rw [q, Int.mul_zero] at e
      exact z_of (Int.mul_pos hg1 hg2) e
    · intro q
      rw [q, Int.mul_zero] at e
      exact z_of p0 e.symm
  · refine ⟨fun q => absurd q List.not_mem_nil, fun ⟨q1, q2⟩ => ?_⟩
    have := q1.2.2.1
    exact absurd this (nid_iff.mp q2)
  · intro x hx
    have h1 := h.du.ln hx h.e0
    rw [dot_e0] at h1
    have e := par_sm (par x hx.1)
    obtain ⟨c1, c2, c3⟩ := sm_c e
    have c1 : dot p p * x.1 = dot p x * p.1 := c1
    rw [h1, Int.mul_zero] at c1
    have hz : dot p x = 0 := (Int.mul_eq_zero.mp c1.symm).resolve_right (by omega)
    rw [hz, sm_0] at e
    exact Classical.byContradiction fun q => sm_ne (by have := dd_ne p00; omega) q e
  · simp
  · rw [List.nil_append, List.mem_singleton]
    constructor
    · rintro rfl
      refine ⟨hp1, h.prmS p00 pS, trivial, j, k, ⟨(flat_ln.mp fj).1, ?_⟩, ⟨(flat_ln.mp fk).1, ?_⟩, hx⟩
      · exact (h.tight p00).mpr (by rw [dot_comm]; exact zz p j pS fj)
      · exact (h.tight p00).mpr (by rw [dot_comm]; exact zz p k pS fk)
    · rintro ⟨v1, v2, _, _⟩
      refine (par_prim' (a := (1, 0, 0)) hp1 v1 ((prm_par' p00).mpr (par v v2)) ?_ ?_).symm
      · rw [dot_e0]; exact w3
      · rw [dot_e0]; exact h.w v2
  · rw [List.mem_singleton.mp q]; exact w3
/-- an extreme row is one of the generators -/
theorem Pr.gen (h : Pr C G) (hS : Canon (Ln (SC C)) []) {v : V3} (hv : Sem (SC C) (TG G) [] v) : ∃ g, g ∈ G ∧ prm g = v := by
  obtain ⟨v1, v2, _, y, y', ⟨hy, hyv⟩, ⟨hy', hyv'⟩, hn⟩ := hv
  have : ∃ g, g ∈ G ∧ dot g y = 0 ∧ dot g y' = 0 := by
    refine Classical.byContradiction fun hne => prim_ne v1 (dd_0 ?_)
    refine face (A := G) h.du.symm (fun _ => Iff.rfl) (x := ad y y') (fun g hg => ?_) (fun g hg h0 => ?_) v2 ?_
    · have a := hy g hg
      have b := hy' g hg
      rw [dot_ad]; omega
    · have a := hy g hg
      have b := hy' g hg
      rw [dot_ad] at h0
      exact absurd ⟨g, hg, by omega, by omega⟩ hne
    · rw [dot_ad, dot_comm v y, dot_comm v y', hyv, hyv']; rfl
  obtain ⟨g, hg, z1, z2⟩ := this
  have g0 := h.2.1 g hg
  have hpar : xp g v = O3 := perp2 z1 z2 (by rw [dot_comm]; exact hyv) (by rw [dot_comm]; exact hyv') hn
  obtain ⟨c, hc, e, hp1⟩ := prm_spec g0
  refine ⟨g, hg, ?_⟩
  rcases par_prim hp1 v1 ((prm_par' g0).mpr hpar) with q | q
  · exact q
  · have hs := h.prmS g0 (h.2.2.1 g hg)
    rw [q] at hs
    exact absurd (hS v ⟨v2, hs⟩) (prim_ne v1)
theorem Pr.ends (h : Pr C G) (hS : Canon (Ln (SC C)) []) (hc : Canon (Ln (TG G)) k1) (hl : k1.length ≤ 1) {dm : Nat} (hd : dm = 2 - k1.length) (v : V3) :
    (∃ g, g ∈ G ∧ endB C G g dm = true ∧ v = prm g) ↔ Sem (SC C) (TG G) [] v := by
  constructor
  · rintro ⟨g, hg, he, rfl⟩
    have g0 := h.2.1 g hg
    obtain ⟨c, hc', e, hp1⟩ := prm_spec g0
    refine ⟨hp1, h.prmS g0 (h.2.2.1 g hg), trivial, ?_⟩
    match k1, hl, hc, hd with
    | [], _, _, hd =>
      have hd : dm = 2 := hd
      subst hd
      obtain ⟨k, k', m1, m2, _, _, z1, z2, hn⟩ := (endB2_iff h).mp he
      exact ⟨k, k', ⟨h.cT m1, (h.tight g0).mpr z1⟩, ⟨h.cT m2, (h.tight g0).mpr z2⟩, hn⟩
    | [l], _, hc, hd =>
      have hd : dm = 1 := hd
      subst hd
      obtain ⟨k, m1, hf, z1⟩ := (endB1_iff h).mp he
      have hlT := canon_mem hc l (by simp)
      refine ⟨l, k, ⟨hlT.1, (h.tight g0).mpr ?_⟩, ⟨h.cT m1, (h.tight g0).mpr z1⟩, fun q => ?_⟩
      · rw [dot_comm]; exact h.du.symm.ln hlT (h.2.2.1 g hg)
      · have := flat_ln.mpr ((hc.2.2 k).mpr q)
        rw [this] at hf; cases hf
  · intro hv
    obtain ⟨g, hg, e⟩ := h.gen hS hv
    refine ⟨g, hg, ?_, e.symm⟩
    have g0 := h.2.1 g hg
    obtain ⟨v1, v2, _, y, y', ⟨hy, hyv⟩, ⟨hy', hyv'⟩, hn⟩ := hv
    have hF : ∀ q, (∀ k, (k ∈ C ++ [((1, 0, 0) : V3)] ∧ dot k v = 0) → dot k q = 0) → dot y q = 0 ∧ dot y' q = 0 := fun q hq =>
      ⟨face (A := C ++ [(1, 0, 0)]) h.du (fun _ => Iff.rfl) v2 (fun k hk z => hq k ⟨hk, z⟩) hy hyv, face (A := C ++ [(1, 0, 0)]) h.du (fun _ => Iff.rfl) v2 (fun k hk z => hq k ⟨hk, z⟩) hy' hyv'⟩
    obtain ⟨k, k', ⟨m1, z1⟩, ⟨m2, z2⟩, hkk⟩ := rk2_of hF hn
    rw [← e] at z1 z2
    have z1 := (h.tight g0).mp z1
    have z2 := (h.tight g0).mp z2
    match k1, hl, hc, hd with
    | [], _, hc, hd =>
      have hd : dm = 2 := hd
      subst hd
      have nf : ∀ k, k ≠ O3 → flatB G k = false := fun k k0 => by
        cases q : flatB G k
        · rfl
        · exact absurd (hc k (flat_ln.mp q)) k0
      refine (endB2_iff h).mpr ⟨k, k', m1, m2, nf k fun q => hkk (by rw [q, xp_0l]), nf k' fun q => hkk (by rw [q, xp_O]), z1, z2, hkk⟩
    | [l], _, hc, hd =>
      have hd : dm = 1 := hd
      subst hd
      refine (endB1_iff h).mpr ?_
      cases q : flatB G k
      · exact ⟨k, m1, q, z1⟩
      · cases q' : flatB G k'
        · exact ⟨k', m2, q', z2⟩
        · exact absurd (par_trans (prim_ne hc.1) ((hc.2.2 k).mp (flat_ln.mp q)) ((hc.2.2 k').mp (flat_ln.mp q'))) hkk
theorem Pr.two (h : Pr C G) {l m : V3} (hS : Canon (Ln (SC C)) [l, m]) (v : V3) : v = (1, 0, 0) ↔ Sem (SC C) (TG G) [l, m] v := by
  constructor
  · rintro rfl
    have hS' := hS
    obtain ⟨c1, c2, c3, c4, c5, c6, c7⟩ := hS'
    obtain ⟨p, hp, p0⟩ := h.2.2.2.2
    have l1 := h.du.ln (canon_mem hS l (by simp)) h.e0
    have m1 := h.du.ln (canon_mem hS m (by simp)) h.e0
    rw [dot_e0] at l1 m1
    have hL : Ln (SC C) (0, p.2.1, p.2.2) := (c7 _).mpr (by rw [d3_12 c4 c5, l1, m1]; simp)
    refine ⟨by decide, fun a ha => ?_, ⟨rfl, rfl⟩, trivial⟩
    have z := h.du.ln hL (h.cT ha)
    have s := h.2.2.1 p hp a ha
    unfold dot at z s ⊢
    simp only [Int.mul_zero, Int.zero_add, Int.mul_one, Int.add_zero] at z ⊢
    refine nn_of_pos p0 ?_
    rw [Int.mul_comm]
    omega
  · rintro ⟨v1, v2, v3, _⟩
    have v3 : v.2.1 = 0 ∧ v.2.2 = 0 := v3
    have w := h.w v2
    unfold gcd3 at v1
    rw [v3.1, v3.2] at v1
    simp at v1
    exact v_ext (by show v.1 = 1; omega) v3.1 v3.2
theorem enF_o {dm j : Nat} (h3 : j ≠ 3) (h4 : j ≠ 4) : ∀ {t : List V3} {M : Nat → List V3}, enF C G dm t M j = M j
  | [], _ => rfl
  | g :: t, M => by
    unfold enF
    rw [enF_o h3 h4]
    split
    · split
      · exact mkM_o h4
      · exact mkM_o h3
    · rfl
theorem enF_3 {dm : Nat} {v : V3} : ∀ {t : List V3} {M : Nat → List V3}, v ∈ enF C G dm t M 3 ↔ v ∈ M 3 ∨ ∃ g, g ∈ t ∧ endB C G g dm = true ∧ ¬ 0 < (prm g).1 ∧ v = prm (prm g)
  | [], _ => ⟨Or.inl, fun h => h.elim id fun ⟨_, q, _⟩ => absurd q List.not_mem_nil⟩
  | g :: t, M => by
    unfold enF
    rw [enF_3]
    have k : v ∈ (if endB C G g dm = true then mkM M (if 0 < (prm g).1 then 4 else 3) (prm g) else M) 3 ↔ v ∈ M 3 ∨ (endB C G g dm = true ∧ ¬ 0 < (prm g).1 ∧ v = prm (prm g)) := by
      by_cases c : endB C G g dm = true
      · rw [if_pos c]
        by_cases d : 0 < (prm g).1
        · rw [if_pos d, mkM_o (by omega)]
          exact ⟨Or.inl, fun q => q.elim id fun q => absurd d q.2.1⟩
        · rw [if_neg d, mkM_k, kp_mem_z]
          exact ⟨fun q => q.imp id fun q => ⟨c, d, q⟩, fun q => q.imp id fun q => q.2.2⟩
      · rw [if_neg c]
        exact ⟨Or.inl, fun q => q.elim id fun q => absurd q.1 c⟩
    rw [k]
    constructor
    · rintro ((q | q) | ⟨g', h1, h2⟩)
      · exact Or.inl q
      · exact Or.inr ⟨g, List.mem_cons_self, q⟩
      · exact Or.inr ⟨g', List.mem_cons_of_mem _ h1, h2⟩
    · rintro (q | ⟨g', h1, h2⟩)
      · exact Or.inl (Or.inl q)
      · rcases List.mem_cons.mp h1 with rfl | h1
        · exact Or.inl (Or.inr h2)
        · exact Or.inr ⟨g', h1, h2⟩
theorem enF_4 {dm : Nat} {v : V3} : ∀ {t : List V3} {M : Nat → List V3}, v ∈ enF C G dm t M 4 ↔ v ∈ M 4 ∨ ∃ g, g ∈ t ∧ endB C G g dm = true ∧ 0 < (prm g).1 ∧ v = prm (prm g)
  | [], _ => ⟨Or.inl, fun h => h.elim id fun ⟨_, q, _⟩ => absurd q List.not_mem_nil⟩
  | g :: t, M => by
    unfold enF
    rw [enF_4]
    have k : v ∈ (if endB C G g dm = true then mkM M (if 0 < (prm g).1 then 4 else 3) (prm g) else M) 4 ↔ v ∈ M 4 ∨ (endB C G g dm = true ∧ 0 < (prm g).1 ∧ v = prm (prm g)) := by
      by_cases c : endB C G g dm = true
      · rw [if_pos c]
        by_cases d : 0 < (prm g).1
        · rw [if_pos d, mkM_k, kp_mem_z]
          exact ⟨fun q => q.imp id fun q => ⟨c, d, q⟩, fun q => q.imp id fun q => q.2.2⟩
        · rw [if_neg d, mkM_o (by omega)]
          exact ⟨Or.inl, fun q => q.elim id fun q => absurd q.2.1 d⟩
      · rw [if_neg c]
        exact ⟨Or.inl, fun q => q.elim id fun q => absurd q.1 c⟩
    rw [k]
    constructor
    · rintro ((q | q) | ⟨g', h1, h2⟩)
      · exact Or.inl q
      · exact Or.inr ⟨g, List.mem_cons_self, q⟩
      · exact Or.inr ⟨g', List.mem_cons_of_mem _ h1, h2⟩
    · rintro (q | ⟨g', h1, h2⟩)
      · exact Or.inl (Or.inl q)
      · rcases List.mem_cons.mp h1 with rfl | h1
        · exact Or.inl (Or.inr h2)
        · exact Or.inr ⟨g', h1, h2⟩
theorem mkM_nd {M : Nat → List V3} {k j : Nat} {c : V3} (h : (M j).Nodup) : (mkM M k c j).Nodup := by
  by_cases q : j = k
  · subst q; rw [mkM_k]; exact kp_nd h
  · rw [mkM_o q]; exact h
theorem enF_nd {dm j : Nat} : ∀ {t : List V3} {M : Nat → List V3}, (M j).Nodup → (enF C G dm t M j).Nodup
  | [], _, h => h
  | g :: t, M, h => by
    unfold enF
    refine enF_nd ?_
    split
    · exact mkM_nd h
    · exact h
end PT
