/-! THE REFERENCE'S INEQUALITIES are the rows of the other cone -/
theorem Ce_sm {A : V3 → Prop} {u : V3} {g : Int} (hg : 0 < g) (h : Ce A (sm g u)) : Ce A u := fun a ha => by
  have := h a ha
  rw [dot_sm] at this
  exact nn_of_pos hg this
theorem pz_cmp {l v : V3} : pz [l] v ↔ cmp3 v (pvt l) = 0 := by
  show (if l.2.1 = 0 then v.2.2 = 0 else v.2.1 = 0) ↔ _
  unfold pvt
  split <;> exact Iff.rfl
theorem pvt_pos {l : V3} (h : rect l) : 0 < cmp3 l (pvt l) := by
  unfold pvt
  split
  · rename_i c
    show 0 < l.2.2
    rcases h with q | q
    · omega
    · exact q.2
  · rename_i c
    show 0 < l.2.1
    rcases h with q | q
    · exact q
    · omega
theorem pvt_lt_z (l : V3) : pvt l = 1 ∨ pvt l = 2 := by unfold pvt; split <;> omega
theorem cle_spec {l c : V3} (hl : rect l) (hn : xp l c ≠ O3) : ∃ g α β : Int, 0 < g ∧ 0 < α ∧ sm g (cleV l c) = lin α β c l ∧ gcd3 (cleV l c) = 1 ∧ cmp3 (cleV l c) (pvt l) = 0 := by
  have hp := pvt_pos hl
  have h0 : lin (cmp3 l (pvt l)) (-(cmp3 c (pvt l))) c l ≠ O3 := fun q => by
    have e := congrArg (fun z => xp l z) q
    have e : xp l (lin (cmp3 l (pvt l)) (-(cmp3 c (pvt l))) c l) = xp l O3 := e
    rw [xp_lin', xp_self, xp_O] at e
    have : lin (cmp3 l (pvt l)) (-(cmp3 c (pvt l))) (xp l c) O3 = sm (cmp3 l (pvt l)) (xp l c) := by
      rw [lin_ad, sm_O, ad_O]
    rw [this] at e
    exact sm_ne (by omega) hn e
  obtain ⟨g, hg, e, h1⟩ := prm_spec h0
  refine ⟨g, _, _, hg, hp, e, h1, ?_⟩
  have e2 := congrArg (fun z => cmp3 z (pvt l)) e
  have e2 : cmp3 (sm g (cleV l c)) (pvt l) = cmp3 (lin (cmp3 l (pvt l)) (-(cmp3 c (pvt l))) c l) (pvt l) := e2
  rw [cmp_sm, cmp_lin] at e2
  have : g * cmp3 (cleV l c) (pvt l) = 0 := by rw [e2, Int.neg_mul, Int.mul_comm (cmp3 c (pvt l))]; omega
  exact (Int.mul_eq_zero.mp this).resolve_left (by omega)
theorem cle_O {l c : V3} (hl : l ≠ O3) (h : xp l c = O3) : cleV l c = O3 := by
  unfold cleV
  have : lin (cmp3 l (pvt l)) (-(cmp3 c (pvt l))) c l = O3 := by
    refine cmp_ext fun j _ => ?_
    rw [cmp_lin, cmp_O]
    have e := par_sm h
    have d := dd_ne hl
    have e1 := congrArg (fun z => cmp3 z (pvt l)) e
    have e1 : cmp3 (sm (dot l l) c) (pvt l) = cmp3 (sm (dot l c) l) (pvt l) := e1
    have e2 := congrArg (fun z => cmp3 z j) e
    have e2 : cmp3 (sm (dot l l) c) j = cmp3 (sm (dot l c) l) j := e2
    rw [cmp_sm, cmp_sm] at e1 e2
    have : dot l l * (cmp3 l (pvt l) * cmp3 c j + -cmp3 c (pvt l) * cmp3 l j) = 0 := by grind
    exact (Int.mul_eq_zero.mp this).resolve_left (by omega)
  rw [this]
  rfl
section INEQ
variable {C G k1 : List V3}
theorem nid_iff {v : V3} : nid v = true ↔ ¬ (v.2.1 = 0 ∧ v.2.2 = 0) := by
  unfold nid
  rw [decide_eq_true_iff]
theorem par_e0 {v : V3} (h : xp (1, 0, 0) v = O3) : ¬ nid v = true := by
  rw [nid_iff]
  intro q
  unfold xp at h
  simp at h
  omega
theorem canon_mem {P : V3 → Prop} : ∀ {L : List V3}, Canon P L → ∀ l ∈ L, P l
  | [], _, _, h => absurd h List.not_mem_nil
  | [l], ⟨_, _, c3⟩, l', h => by rw [List.mem_singleton.mp h]; exact (c3 l).mpr (xp_self l)
  | [l, m], ⟨_, _, _, _, _, _, c7⟩, l', h => by
    rcases List.mem_cons.mp h with rfl | q
    · exact (c7 _).mpr (by unfold d3 dot xp; grind)
    · rw [List.mem_singleton.mp q]; exact (c7 _).mpr (by unfold d3 dot xp; grind)
  | _ :: _ :: _ :: _, h, _, _ => absurd h id
/-- a row that is 0 where v is 0, but not everywhere -/
theorem Pr.row (h : Pr C G) {v : V3} (hv : TG G v) (hn : ∃ g, g ∈ G ∧ dot v g ≠ 0) : ∃ k, k ∈ C ++ [((1, 0, 0) : V3)] ∧ flatB G k = false ∧ (∀ g ∈ G, dot v g = 0 → dot k g = 0) ∧ ∀ y, SC C y → dot v y = 0 → dot k y = 0 := by
  have : ∃ k, k ∈ C ++ [((1, 0, 0) : V3)] ∧ flatB G k = false ∧ ∀ g ∈ G, dot v g = 0 → dot k g = 0 := by
    refine Classical.byContradiction fun hne => ?_
    obtain ⟨g1, hg1, hg0⟩ := hn
    refine hg0 (face (A := C ++ [(1, 0, 0)]) (x := sumL (G.filter fun g => decide (dot v g = 0))) h.du (fun _ => Iff.rfl) (sum_in h.du fun g hg => h.2.2.1 g (List.mem_filter.mp hg).1) (fun a ha h0 => ?_) hv (sum_z fun g hg => of_decide_eq_true (List.mem_filter.mp hg).2))
    have z := (sum_nn fun g hg => h.2.2.1 g (List.mem_filter.mp hg).1 a ha).2 h0
    have : flatB G a = true := by
      cases q : flatB G a
      · exact absurd ⟨a, ha, q, fun g hg hz => z g (List.mem_filter.mpr ⟨hg, decide_eq_true hz⟩)⟩ hne
      · rfl
    exact flat_iff.mp this g1 hg1
  obtain ⟨k, hk, hf, hz⟩ := this
  refine ⟨k, hk, hf, hz, fun y hy hvy => ?_⟩
  have := face (A := G) h.du.symm (fun _ => Iff.rfl) hv (q := k) (fun g hg q => by rw [dot_comm]; exact hz g hg (by rw [dot_comm]; exact q)) hy (by rw [dot_comm]; exact hvy)
  rw [dot_comm]; exact this
/-- rows on the same face, 0 at the pivots, are along one line -/
theorem face_uni {S T : V3 → Prop} (hD : Du S T) (hc : Canon (Ln T) k1) (hl : k1.length ≤ 1) {v a b : V3} (hv : Sem T S k1 v) (ha : ∀ y, S y → dot v y = 0 → dot a y = 0) (hb : ∀ y, S y → dot v y = 0 → dot b y = 0) (pa : pz k1 a) (pb : pz k1 b) : xp a b = O3 := by
  obtain ⟨_, _, _, hr⟩ := hv
  match k1, hl, hc, hr, pa, pb with
  | [], _, _, ⟨y, y', ⟨h1, h2⟩, ⟨h3, h4⟩, h5⟩, _, _ =>
    exact perp2 (ha y h1 (by rw [dot_comm]; exact h2)) (ha y' h3 (by rw [dot_comm]; exact h4)) (hb y h1 (by rw [dot_comm]; exact h2)) (hb y' h3 (by rw [dot_comm]; exact h4)) h5
  | [l], _, ⟨c1, c2, c3⟩, ⟨y, ⟨h1, h2⟩, h5⟩, pa, pb =>
    refine perp2 (u := y) (v := un (pvt l)) (ha y h1 (by rw [dot_comm]; exact h2)) (by rw [dot_comm, dot_un]; exact pz_cmp.mp pa) (hb y h1 (by rw [dot_comm]; exact h2)) (by rw [dot_comm, dot_un]; exact pz_cmp.mp pb) fun q => ?_
    have hly : dot y l = 0 := hD.symm.ln ((c3 l).mpr (xp_self l)) h1
    have := par_dot h5 q hly
    rw [dot_un] at this
    have := pvt_pos c2
    omega
theorem Pr.ai (_h : Pr C G) {M : Nat → List V3} (hM : M 0 = k1) (hc : Canon (Ln (TG G)) k1) (hl : k1.length ≤ 1) {k : V3} (hk0 : k ≠ O3) (hf : flatB G k = false) :
    gcd3 (aiV M k) = 1 ∧ pz k1 (aiV M k) ∧ ∃ g α : Int, 0 < g ∧ 0 < α ∧ ∀ x, (∀ l ∈ k1, dot l x = 0) → g * dot (aiV M k) x = α * dot k x := by
  obtain ⟨g, hg, e, h1⟩ := prm_spec hk0
  have ek : ∀ x, g * dot (prm k) x = dot k x := fun x => by
    have := congrArg (dot x) e
    rw [dot_sm] at this
    rw [dot_comm _ x, this, dot_comm]
  unfold aiV
  match k1, hl, hc, hM with
  | [], _, _, hM =>
    rw [if_pos hM]
    exact ⟨h1, trivial, g, 1, hg, by omega, fun x _ => by rw [ek x]; omega⟩
  | [l], _, ⟨c1, c2, c3⟩, hM =>
    rw [if_neg (by rw [hM]; simp), hM]
    show gcd3 (cleV l (prm k)) = 1 ∧ pz [l] (cleV l (prm k)) ∧ _
    have hx : xp l (prm k) ≠ O3 := fun q => by
      have : Ln (TG G) k := (c3 k).mpr (by rw [← e, xp_sm', q, sm_O])
      rw [flat_ln.mpr this] at hf
      cases hf
    obtain ⟨g', α, β, hg', hα, e2, h2, h3⟩ := cle_spec c2 hx
    refine ⟨h2, pz_cmp.mpr h3, g * g', α, Int.mul_pos hg hg', hα, fun x hz => ?_⟩
    have q := congrArg (dot x) e2
    rw [dot_sm, dot_lin, dot_comm x l, hz l (by simp), Int.mul_zero, Int.add_zero] at q
    show g * g' * dot (cleV l (prm k)) x = _
    rw [dot_comm _ x, Int.mul_assoc, q, ← ek x, dot_comm _ x]
    rw [← Int.mul_assoc, ← Int.mul_assoc, Int.mul_comm g α]
theorem Pr.ineq (h : Pr C G) {M : Nat → List V3} (hM : M 0 = k1) (hM1 : M 1 = []) (hc : Canon (Ln (TG G)) k1) (hl : k1.length ≤ 1) {dm : Nat} (hd : dm = 2 - k1.length) (v : V3) :
    v ∈ iqF G dm C M 1 ↔ Sem (TG G) (SC C) k1 v ∧ nid v = true := by
  have hkl : ∀ x, SC C x → ∀ l ∈ k1, dot l x = 0 := fun x hx l hl' => by rw [dot_comm]; exact h.du.symm.ln (canon_mem hc l hl') hx
  rw [iqF_mem, hM1]
  constructor
  · rintro (q | ⟨k, hk, hf, hcut, hnd, rfl⟩)
    · exact absurd q List.not_mem_nil
    obtain ⟨a1, a2, g, α, hg, hα, a3⟩ := h.ai hM hc hl (h.1 k hk) hf
    rw [prm_id a1]
    have a3' : ∀ x, SC C x → g * dot (aiV M k) x = α * dot k x := fun x hx => a3 x (hkl x hx)
    obtain ⟨⟨p, hp, p0, p1⟩, hr⟩ := (cutB_iff h.2.1).mp hcut
    have tz : ∀ x, SC C x → dot k x = 0 → dot (aiV M k) x = 0 := fun x hx hz => by
      have := a3' x hx
      rw [hz, Int.mul_zero] at this
      exact (Int.mul_eq_zero.mp this).resolve_left (by omega)
    refine ⟨⟨a1, fun x hx => ?_, a2, ?_⟩, nid_iff.mpr hnd⟩
    · have t := a3' x (h.2.2.1 x hx)
      have := Int.mul_nonneg (show 0 ≤ α by omega) (show 0 ≤ dot k x by rw [dot_comm]; exact h.cT (List.mem_append_left _ hk) x hx)
      rw [← t] at this
      rw [dot_comm]
      exact nn_of_pos hg this
    · match k1, hl, hd, tz with
      | [], _, hd, tz =>
        rcases hr with hr | ⟨g, g', m1, m2, z1, z2, z3⟩
        · rw [hd] at hr; simp at hr
        · exact ⟨g, g', ⟨h.2.2.1 g m1, by rw [dot_comm]; exact tz g (h.2.2.1 g m1) z1⟩, ⟨h.2.2.1 g' m2, by rw [dot_comm]; exact tz g' (h.2.2.1 g' m2) z2⟩, z3⟩
      | [_], _, hd, tz => exact ⟨p, ⟨h.2.2.1 p hp, by rw [dot_comm]; exact tz p (h.2.2.1 p hp) p0⟩, h.2.1 p hp⟩
  · rintro ⟨hv, hnid⟩
    refine Or.inr ?_
    have hv' := hv
    obtain ⟨v1, v2, v3, v4⟩ := hv'
    have hnf : ∃ g, g ∈ G ∧ dot v g ≠ 0 := by
      refine Classical.byContradiction fun hn => ?_
      have : Ln (TG G) v := flat_ln.mp (flat_iff.mpr fun g hg => Classical.byContradiction fun q => hn ⟨g, hg, q⟩)
      exact prim_ne v1 (hc.zero this v3)
    obtain ⟨k, hk, hf, hz, hy⟩ := h.row v2 hnf
    have pe0 : pz k1 ((1, 0, 0) : V3) := by
      match k1, hl with
      | [], _ => trivial
      | [l], _ => exact pz_cmp.mpr (by rcases pvt_lt_z l with q | q <;> rw [q] <;> rfl)
    have hkC : k ∈ C := by
      rcases List.mem_append.mp hk with q | q
      · exact q
      · rw [List.mem_singleton.mp q] at hy
        exact absurd hnid (par_e0 (face_uni h.du hc hl hv hy (fun y hy hz => hz) pe0 v3))
    obtain ⟨a1, a2, g, α, hg, hα, a3⟩ := h.ai hM hc hl (h.1 k hkC) hf
    have a3' : ∀ x, SC C x → g * dot (aiV M k) x = α * dot k x := fun x hx => a3 x (hkl x hx)
    have tz : ∀ x, SC C x → dot k x = 0 → dot (aiV M k) x = 0 := fun x hx hz => by
      have := a3' x hx
      rw [hz, Int.mul_zero] at this
      exact (Int.mul_eq_zero.mp this).resolve_left (by omega)
    have hpar := face_uni h.du hc hl hv (fun y hy' hvy => tz y hy' (hy y hy' hvy)) (fun y _ hz => hz) a2 v3
    have : ∃ p, p ∈ G ∧ 0 < dot k p := by
      refine Classical.byContradiction fun hn => ?_
      have : flatB G k = true := flat_iff.mpr fun p hp => by
        have t := h.cT hk p hp
        rw [dot_comm] at t
        have : ¬ 0 < dot k p := fun q => hn ⟨p, hp, q⟩
        omega
      rw [this] at hf; cases hf
    obtain ⟨p, hp, p0⟩ := this
    have e : aiV M k = v := by
      refine par_prim' (a := p) a1 v1 hpar ?_ (v2 p hp)
      have t := a3' p (h.2.2.1 p hp)
      have := Int.mul_pos hα p0
      rw [← t] at this
      rw [dot_comm]
      exact pos_of hg this
    refine ⟨k, hkC, hf, (cutB_iff h.2.1).mpr ⟨?_, ?_⟩, ?_, ?_⟩
    · -- a point on the face
      refine Classical.byContradiction fun hn => ?_
      have ze : ∀ y, SC C y → dot v y = 0 → dot (1, 0, 0) y = 0 := fun y hy' hvy => by
        have hq : ∀ g' ∈ G, dot g' v = 0 → dot g' (1, 0, 0) = 0 := fun g' hg' q => by
          rw [dot_comm] at q
          rw [dot_comm, dot_e0]
          have w := h.w (h.2.2.1 g' hg')
          have : ¬ 0 < g'.1 := fun q' => hn ⟨g', hg', hz g' hg' q, q'⟩
          omega
        have := face (A := G) h.du.symm (fun _ => Iff.rfl) v2 hq hy' (by rw [dot_comm]; exact hvy)
        rw [dot_comm]; exact this
      exact absurd hnid (par_e0 (face_uni h.du hc hl hv ze (fun y _ hz => hz) pe0 v3))
    · match k1, hl, hd, v4 with
      | [], _, _, ⟨y, y', ⟨h1, h2⟩, ⟨h3, h4⟩, h5⟩ =>
        refine Or.inr ?_
        have hF : ∀ q, (∀ g, (g ∈ G ∧ dot v g = 0) → dot g q = 0) → dot y q = 0 ∧ dot y' q = 0 := fun q hq =>
          ⟨face (A := G) h.du.symm (fun _ => Iff.rfl) v2 (fun g' hg' z => hq g' ⟨hg', by rw [dot_comm]; exact z⟩) h1 h2, face (A := G) h.du.symm (fun _ => Iff.rfl) v2 (fun g' hg' z => hq g' ⟨hg', by rw [dot_comm]; exact z⟩) h3 h4⟩
        obtain ⟨g1, g2, ⟨m1, z1⟩, ⟨m2, z2⟩, z3⟩ := rk2_of hF h5
        exact ⟨g1, g2, m1, m2, hz g1 m1 z1, hz g2 m2 z2, z3⟩
      | [_], _, hd, _ => exact Or.inl hd
    · rw [e]; exact nid_iff.mp hnid
    · rw [e, prm_id v1]
end INEQ
