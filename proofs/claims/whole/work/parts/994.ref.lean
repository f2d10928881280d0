/-! WHAT THE REFERENCE COMES TO -/
section REF
variable {C G k1 : List V3}
theorem Canon.len {P : V3 → Prop} : ∀ {L : List V3}, Canon P L → L.length ≤ 2
  | [], _ => by simp
  | [_], _ => by simp
  | [_, _], _ => by simp
  | _ :: _ :: _ :: _, h => absurd h id
theorem Pr.thr (h : Pr C G) (hG : G.length < 900) (hc : Canon (Ln (TG G)) k1) (hl : k1.length ≤ 1) {dm : Nat} (hd : dm = 2 - k1.length) (he : eqF G C nil5 0 = k1) :
    st3 C G nil5 dm 0 = k1 ∧ (st3 C G nil5 dm 1).Nodup ∧ (∀ v, v ∈ st3 C G nil5 dm 1 ↔ Sem (TG G) (SC C) k1 v ∧ nid v = true) ∧ Canon (Ln (SC C)) (st3 C G nil5 dm 2) ∧ st3 C G nil5 dm 3 = [] ∧ st3 C G nil5 dm 4 = [] ∧ (∀ j, j ≠ 2 → st3 C G nil5 dm j = st2 C G nil5 dm j) := by
  have e1 : ∀ j, j ≠ 0 → eqF G C nil5 j = [] := fun j hj => by rw [eqF_o hj]; rfl
  have o : ∀ j, j ≠ 2 → st3 C G nil5 dm j = st2 C G nil5 dm j := fun j hj => mlF_o hj
  have o2 : ∀ j, j ≠ 1 → st2 C G nil5 dm j = eqF G C nil5 j := fun j hj => iqF_o hj
  have m1 : ∀ v, v ∈ st2 C G nil5 dm 1 ↔ Sem (TG G) (SC C) k1 v ∧ nid v = true := fun v => h.ineq he (e1 1 (by omega)) hc hl hd v
  refine ⟨by rw [o 0 (by omega), o2 0 (by omega), he], ?_, fun v => by rw [o 1 (by omega)]; exact m1 v, ?_, by rw [o 3 (by omega), o2 3 (by omega), e1 3 (by omega)], by rw [o 4 (by omega), o2 4 (by omega), e1 4 (by omega)], o⟩
  · rw [o 1 (by omega)]
    exact iqF_nd (by rw [e1 1 (by omega)]; exact List.nodup_nil)
  · exact h.lines hG hc hl (M := st2 C G nil5 dm) (by rw [o2 0 (by omega), he]) (by rw [o2 2 (by omega), e1 2 (by omega)]) hd m1
theorem Pr.body (h : Pr C G) (hG : G.length < 900) (hc : Canon (Ln (TG G)) k1) (hl : k1.length ≤ 1) {dm : Nat} (hd : dm = 2 - k1.length) (he : eqF G C nil5 0 = k1) {M : Nat → List V3} (hM : M = stE C G (st3 C G nil5 dm) dm) :
    Rws (SC C) (TG G) (M 0) (M 1) (M 2) (M 3 ++ M 4) ∧ (∀ v ∈ M 3, v.1 = 0) ∧ (∀ v ∈ M 4, 0 < v.1) := by
  obtain ⟨a0, a1n, a1, a2, a3, a4, _⟩ := h.thr hG hc hl hd he
  generalize st3 C G nil5 dm = N at *
  have fin : (∀ j, j < 3 → M j = N j) → (M 3 ++ M 4).Nodup → (∀ v, v ∈ M 3 ++ M 4 ↔ Sem (SC C) (TG G) (N 2) v) → Rws (SC C) (TG G) (M 0) (M 1) (M 2) (M 3 ++ M 4) := fun q1 q2 q3 => by
    rw [q1 0 (by omega), q1 1 (by omega), q1 2 (by omega), a0]
    exact ⟨hc, a1n, a1, a2, q2, q3⟩
  unfold stE at hM
  match hN : N 2, a2 with
  | [], a2 =>
    rw [hN] at hM
    rw [if_neg (by simp), if_neg (by simp)] at hM
    have e3 : ∀ v, v ∈ M 3 ↔ ∃ g, g ∈ G ∧ endB C G g dm = true ∧ ¬ 0 < (prm g).1 ∧ v = prm g := fun v => by
      rw [hM, enF_3, a3]
      constructor
      · rintro (q | ⟨g, q1, q2, q3, q4⟩)
        · exact absurd q List.not_mem_nil
        · obtain ⟨_, _, _, p1⟩ := prm_spec (h.2.1 g q1)
          exact ⟨g, q1, q2, q3, by rw [q4, prm_id p1]⟩
      · rintro ⟨g, q1, q2, q3, q4⟩
        obtain ⟨_, _, _, p1⟩ := prm_spec (h.2.1 g q1)
        exact Or.inr ⟨g, q1, q2, q3, by rw [q4, prm_id p1]⟩
    have e4 : ∀ v, v ∈ M 4 ↔ ∃ g, g ∈ G ∧ endB C G g dm = true ∧ 0 < (prm g).1 ∧ v = prm g := fun v => by
      rw [hM, enF_4, a4]
      constructor
      · rintro (q | ⟨g, q1, q2, q3, q4⟩)
        · exact absurd q List.not_mem_nil
        · obtain ⟨_, _, _, p1⟩ := prm_spec (h.2.1 g q1)
          exact ⟨g, q1, q2, q3, by rw [q4, prm_id p1]⟩
      · rintro ⟨g, q1, q2, q3, q4⟩
        obtain ⟨_, _, _, p1⟩ := prm_spec (h.2.1 g q1)
        exact Or.inr ⟨g, q1, q2, q3, by rw [q4, prm_id p1]⟩
    have w3 : ∀ v ∈ M 3, v.1 = 0 := fun v hv => by
      obtain ⟨g, q1, q2, q3, rfl⟩ := (e3 v).mp hv
      have := h.w (h.prmS (h.2.1 g q1) (h.2.2.1 g q1))
      omega
    have w4 : ∀ v ∈ M 4, 0 < v.1 := fun v hv => by
      obtain ⟨g, q1, q2, q3, rfl⟩ := (e4 v).mp hv
      exact q3
    refine ⟨fin (fun j hj => by rw [hM]; exact enF_o (by omega) (by omega)) ?_ fun v => ?_, w3, w4⟩
    · rw [List.nodup_append]
      refine ⟨by rw [hM]; exact enF_nd (by rw [a3]; exact List.nodup_nil), by rw [hM]; exact enF_nd (by rw [a4]; exact List.nodup_nil), fun a ha b hb q => ?_⟩
      have := w3 a ha
      have := w4 b hb
      rw [q] at *
      omega
    · rw [hN, ← h.ends a2 hc hl hd v, List.mem_append, e3, e4]
      constructor
      · rintro (⟨g, q1, q2, q3, q4⟩ | ⟨g, q1, q2, q3, q4⟩)
        · exact ⟨g, q1, q2, q4⟩
        · exact ⟨g, q1, q2, q4⟩
      · rintro ⟨g, q1, q2, q4⟩
        by_cases c : 0 < (prm g).1
        · exact Or.inr ⟨g, q1, q2, c, q4⟩
        · exact Or.inl ⟨g, q1, q2, c, q4⟩
  | [u], a2 =>
    rw [hN] at hM
    rw [if_neg (by simp), if_pos (by simp)] at hM
    obtain ⟨b1, b2, b3, b4, b5, _⟩ := h.acr a2 a3 a4
    have hM : M = acrF N u G := hM
    rw [← hM] at b1 b2 b3 b4 b5
    exact ⟨fin b1 b2 (by rw [hN]; exact b5), b3, b4⟩
  | [l, m], a2 =>
    rw [hN] at hM
    rw [if_pos (by simp)] at hM
    have e4 : M 4 = [(1, 0, 0)] := by rw [hM, mkM_k, a4]; rfl
    have e3 : M 3 = [] := by rw [hM, mkM_o (by omega), a3]
    refine ⟨fin (fun j hj => by rw [hM, mkM_o (by omega)]) (by rw [e3, e4]; simp) fun v => ?_, fun v hv => ?_, fun v hv => ?_⟩
    · rw [e3, e4, hN, ← h.two a2 v]; simp
    · rw [e3] at hv; exact absurd hv List.not_mem_nil
    · rw [e4] at hv; rw [List.mem_singleton.mp hv]; decide
theorem Pr.dims (h : Pr C G) : (flaD C G = 0 ∧ ∃ j k, j ∈ C ∧ k ∈ C ∧ flatB G j = true ∧ flatB G k = true ∧ xp j k ≠ O3) ∨ ((flaD C G = 1 ∨ flaD C G = 2) ∧ ∃ k1 : List V3, Canon (Ln (TG G)) k1 ∧ k1.length ≤ 1 ∧ flaD C G = 2 - k1.length ∧ eqF G C nil5 0 = k1) := by
  rcases flaD_cases (C := C) (G := G) with ⟨e, hf⟩ | ⟨e, j, hj, fj, hp⟩ | ⟨e, q⟩
  · exact Or.inr ⟨Or.inr e, [], h.flat2 hf, by simp, e, by rw [eqF_no hf]; rfl⟩
  · obtain ⟨f1, f2⟩ := h.flat1 hj fj hp
    exact Or.inr ⟨Or.inl e, _, f1, by simp, e, eqF_one f1.1 f2 (Or.inr ⟨rfl, j, hj, fj⟩)⟩
  · exact Or.inl ⟨e, q⟩
theorem Pr.settle (h : Pr C G) (hG : G.length < 900) {M : Nat → List V3} (hM : M = stF C G nil5) :
    Rws (SC C) (TG G) (M 0) (M 1) (M 2) (M 3 ++ M 4) ∧ (∀ v ∈ M 3, v.1 = 0) ∧ (∀ v ∈ M 4, 0 < v.1) := by
  unfold stF at hM
  rcases h.dims with ⟨e, j, k, hj, hk, fj, fk, hx⟩ | ⟨e, k1, hc, hl, hd, he⟩
  · rw [if_pos e] at hM
    exact h.point hj hk fj fk hx hM
  · rw [if_neg (by omega)] at hM
    exact h.body hG hc hl hd he hM
/-- it has a point -/
theorem Pr.pt4 (h : Pr C G) (hC : C.length < 800) {k1 k2 g1 g2 : List V3} (hR : Rws (SC C) (TG G) k1 k2 g1 g2) : ∃ v, v ∈ g2 ∧ v.1 ≠ 0 := by
  obtain ⟨_, _, _, r4, _, r6⟩ := hR
  obtain ⟨hI, hlen⟩ := cutA_all (C ++ [(1, 0, 0)])
  have he : ((1, 0, 0) : V3) ∈ C ++ [(1, 0, 0)] := by simp
  have hll : (C ++ [((1, 0, 0) : V3)]).length = C.length + 1 := by simp
  obtain ⟨m1, m2, m3, m4, m5, m6⟩ := hI.settled (hI.le2 he (by simp)) (np_S he) (by omega) h.du
  obtain ⟨p, hp, p0⟩ := h.2.2.2.2
  obtain ⟨q, hq, q0⟩ := has_point h.du m1 m6 he (h.2.2.1 p hp) p0
  refine ⟨q, (r6 q).mpr ?_, q0⟩
  rw [← Canon.uni m1 r4]
  exact (m3 q).mp hq
/-- the pair that constraints give -/
theorem Pr.ofC (h0 : ∀ k ∈ C, k ≠ O3) (hp : hpB (dualF (C ++ [(1, 0, 0)])) = true) : Pr C (dualF (C ++ [(1, 0, 0)])) := by
  have hne : C ++ [((1, 0, 0) : V3)] ≠ [] := by simp
  have hn : ∀ v ∈ C ++ [((1, 0, 0) : V3)], v ≠ O3 := fun v hv => by
    rcases List.mem_append.mp hv with q | q
    · exact h0 v q
    · rw [List.mem_singleton.mp q]; simp
  refine ⟨h0, fun g hg => prim_ne (dual_in hne hn hg).2, fun g hg => (dual_in hne hn hg).1, fun x y hx hy => dual_all hne hn (fun d hd => by rw [dot_comm]; exact hy d hd) hx, ?_⟩
  unfold hpB at hp
  obtain ⟨g, hg, q⟩ := List.any_eq_true.mp hp
  exact ⟨g, hg, of_decide_eq_true q⟩
theorem noC (h0 : ∀ k ∈ C, k ≠ O3) (hp : ¬ hpB (dualF (C ++ [(1, 0, 0)])) = true) : ∀ x, SC C x → x.1 ≤ 0 := fun x hx => by
  have hne : C ++ [((1, 0, 0) : V3)] ≠ [] := by simp
  have hn : ∀ v ∈ C ++ [((1, 0, 0) : V3)], v ≠ O3 := fun v hv => by
    rcases List.mem_append.mp hv with q | q
    · exact h0 v q
    · rw [List.mem_singleton.mp q]; simp
  have := dual_all (x := (-1, 0, 0)) hne hn (fun d hd => ?_) hx
  · unfold dot at this
    simp at this
    omega
  · have : ¬ 0 < d.1 := fun q => hp (List.any_eq_true.mpr ⟨d, hd, decide_eq_true q⟩)
    unfold dot
    simp
    omega
theorem Pr.ofG (h0 : ∀ g ∈ G, g ≠ O3) (hw : ∀ g ∈ G, 0 ≤ g.1) (hp : hpB G = true) : Pr (dualF G) G := by
  unfold hpB at hp
  obtain ⟨p, hpG, q⟩ := List.any_eq_true.mp hp
  have hne : G ≠ [] := fun e => by rw [e] at hpG; exact absurd hpG List.not_mem_nil
  refine ⟨fun k hk => prim_ne (dual_in hne h0 hk).2, h0, fun g hg a ha => ?_, fun x y hx hy => by rw [dot_comm]; exact dual_all hne h0 (fun d hd => by rw [dot_comm]; exact hx d (List.mem_append_left _ hd)) hy, p, hpG, of_decide_eq_true q⟩
  rcases List.mem_append.mp ha with q | q
  · rw [dot_comm]; exact (dual_in hne h0 q).1 g hg
  · rw [List.mem_singleton.mp q, dot_e0]; exact hw g hg
end REF
