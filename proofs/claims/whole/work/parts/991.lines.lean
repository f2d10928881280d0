/-! THE REFERENCE'S LINES -/
theorem perp_iff {q x : V3} (hq : nid q = true) : xp (perpV q) x = O3 ↔ x.1 = 0 ∧ dot q x = 0 := by
  have hq := nid_iff.mp hq
  unfold perpV xp dot
  simp only [Int.zero_mul, Int.neg_mul]
  constructor
  · intro h
    have h1 := congrArg (fun v : V3 => v.1) h
    have h2 := congrArg (fun v : V3 => v.2.1) h
    have h3 := congrArg (fun v : V3 => v.2.2) h
    have h1 : -(q.2.2 * x.2.2) - q.2.1 * x.2.1 = 0 := h1
    have h2 : q.2.1 * x.1 - 0 = 0 := h2
    have h3 : 0 - -(q.2.2 * x.1) = 0 := h3
    have hx : x.1 = 0 := by
      by_cases c : q.2.1 = 0
      · exact (Int.mul_eq_zero.mp (show q.2.2 * x.1 = 0 by omega)).resolve_left (fun z => hq ⟨c, z⟩)
      · exact (Int.mul_eq_zero.mp (show q.2.1 * x.1 = 0 by omega)).resolve_left c
    refine ⟨hx, ?_⟩
    rw [hx, Int.mul_zero]
    omega
  · rintro ⟨h1, h2⟩
    rw [h1, Int.mul_zero] at h2
    refine v_ext ?_ ?_ ?_
    · show -(q.2.2 * x.2.2) - q.2.1 * x.2.1 = 0; omega
    · show q.2.1 * x.1 - 0 = 0; rw [h1]; simp
    · show 0 - -(q.2.2 * x.1) = 0; rw [h1]; simp
theorem perp_ne {q : V3} (hq : nid q = true) : perpV q ≠ O3 := fun h => by
  have h2 := congrArg (fun v : V3 => v.2.1) h
  have h3 := congrArg (fun v : V3 => v.2.2) h
  have h2 : -q.2.2 = 0 := h2
  have h3 : q.2.1 = 0 := h3
  exact nid_iff.mp hq ⟨h3, by omega⟩
theorem perp_canon {q : V3} (hq : nid q = true) : gcd3 (rctV (prm (perpV q))) = 1 ∧ rect (rctV (prm (perpV q))) ∧ ∀ x, xp (rctV (prm (perpV q))) x = O3 ↔ x.1 = 0 ∧ dot q x = 0 := by
  have h0 := perp_ne hq
  obtain ⟨g, hg, e, h1⟩ := prm_spec h0
  have hz : (prm (perpV q)).1 = 0 := by
    have := congrArg (fun v : V3 => v.1) e
    have : g * (prm (perpV q)).1 = 0 := this
    exact (Int.mul_eq_zero.mp this).resolve_left (by omega)
  obtain ⟨r1, r2, r3⟩ := rct_spec h1 (fun z => prim_ne h1 (v_ext hz z.1 z.2))
  refine ⟨r1, r2, fun x => ?_⟩
  rw [← perp_iff hq]
  rcases r3 with r | r
  · rw [r, prm_par' h0]
  · rw [r, neg_par, prm_par' h0]
theorem rect_nid {l : V3} (h : rect l) : nid l = true := nid_iff.mpr fun z => by
  rcases h with h | h <;> omega
section LINES
variable {C G k1 : List V3}
theorem Pr.lnS (h : Pr C G) (hG : G.length < 900) (hc : Canon (Ln (TG G)) k1) (x : V3) : Ln (SC C) x ↔ x.1 = 0 ∧ (∀ l ∈ k1, dot l x = 0) ∧ ∀ v, Sem (TG G) (SC C) k1 v → nid v = true → dot v x = 0 := by
  constructor
  · intro hx
    refine ⟨?_, fun l hl => h.du.ln hx (canon_mem hc l hl).1, fun v hv _ => h.du.ln hx hv.2.1⟩
    have := h.du.ln hx h.e0
    rw [dot_e0] at this
    exact this
  · rintro ⟨h1, h2, h3⟩
    obtain ⟨hI, hlen⟩ := cutA_all G
    obtain ⟨p, hp, p0⟩ := h.2.2.2.2
    obtain ⟨m1, m2, m3, m4, m5, m6⟩ := hI.settled (hI.le2 hp (h.2.1 p hp)) (np_T h.du (h.2.2.1 p hp) p0) (by omega) h.du.symm
    have e := Canon.uni m1 hc
    rw [e] at m3 m6
    have z : ∀ v ∈ rowsC k1 (stt (cutA (e3, []) G).1 (cutA (e3, []) G).2).2.1, dot v x = 0 := by
      intro v hv
      rcases mem_rowsC.mp hv with ⟨l, hl, rfl | rfl⟩ | q
      · exact h2 _ hl
      · rw [neg_dot, h2 _ hl]; rfl
      · by_cases c : nid v = true
        · exact h3 v ((m3 v).mp q) c
        · have c : v.2.1 = 0 ∧ v.2.2 = 0 := Classical.byContradiction fun q => c (nid_iff.mpr q)
          unfold dot
          rw [c.1, c.2, h1]
          simp
    refine ⟨(m6 x).mp fun v hv => by rw [z v hv]; omega, (m6 _).mp fun v hv => by rw [dot_neg', z v hv]; omega⟩
theorem mlF_o {M : Nat → List V3} {dm j : Nat} (hj : j ≠ 2) : mlF M dm j = M j := by
  unfold mlF
  split
  · rw [mkM_o hj, mkM_o hj]
  · split
    · rfl
    · generalize (if dm = 1 then 0 else 1) = z
      split
      · exact mkM_o hj
      · rfl
theorem Pr.lines (h : Pr C G) (hG : G.length < 900) (hc : Canon (Ln (TG G)) k1) (hl : k1.length ≤ 1) {M : Nat → List V3} (hM : M 0 = k1) (hM2 : M 2 = []) {dm : Nat} (hd : dm = 2 - k1.length)
    (hM1 : ∀ v, v ∈ M 1 ↔ Sem (TG G) (SC C) k1 v ∧ nid v = true) : Canon (Ln (SC C)) (mlF M dm 2) := by
  have key : ∀ x, (x.1 = 0 ∧ (∀ l ∈ k1, dot l x = 0) ∧ ∀ v ∈ M 1, dot v x = 0) ↔ Ln (SC C) x := fun x => by
    rw [h.lnS hG hc x]
    exact ⟨fun ⟨a, b, c⟩ => ⟨a, b, fun v h1 h2 => c v ((hM1 v).mpr ⟨h1, h2⟩)⟩, fun ⟨a, b, c⟩ => ⟨a, b, fun v hv => c v ((hM1 v).mp hv).1 ((hM1 v).mp hv).2⟩⟩
  refine Canon.congr key ?_
  unfold mlF
  match k1, hl, hc, hM, hd, hM1 with
  | [], _, hc, hM, hd, hM1 =>
    have hd : dm = 2 := hd
    subst hd
    by_cases c : M 1 = []
    · rw [if_pos ⟨rfl, c⟩, mkM_k, mkM_k, hM2, c]
      show Canon _ [((0, 1, 0) : V3), (0, 0, 1)]
      refine ⟨by decide, by decide, by decide, rfl, rfl, by decide, fun x => ?_⟩
      rw [d3_12 rfl rfl]
      simp
    · rw [if_neg (fun q => c q.2), if_neg (fun q => absurd q.1 (by omega)), if_neg (show ¬ (2 = 1) by omega)]
      have hq0 : gt (M 1) 0 ∈ M 1 := gt_mem (List.length_pos_iff.mpr c)
      have hn := ((hM1 _).mp hq0).2
      obtain ⟨r1, r2, r3⟩ := perp_canon hn
      split
      · rename_i hall
        rw [mkM_k, hM2, prm_id r1]
        show Canon _ [_]
        refine ⟨r1, r2, fun x => ?_⟩
        rw [r3 x]
        constructor
        · rintro ⟨a, _, b⟩
          exact ⟨a, b _ hq0⟩
        · rintro ⟨a, b⟩
          refine ⟨a, fun _ q => absurd q List.not_mem_nil, fun v hv => ?_⟩
          have := of_decide_eq_true (List.all_eq_true.mp hall v hv)
          have e := par_dot (h := v) (perp_ne hn) ((perp_iff hn).mpr ⟨a, b⟩) (by rw [dot_comm]; exact this)
          rw [dot_comm]; exact e
      · rename_i hall
        rw [hM2]
        rintro x ⟨a, _, b⟩
        refine Classical.byContradiction fun hx => hall (List.all_eq_true.mpr fun v hv => decide_eq_true ?_)
        have e := (perp_iff hn).mpr ⟨a, b _ hq0⟩
        have := par_dot (h := v) hx (by rw [xp_anti, e]; rfl) (by rw [dot_comm]; exact b v hv)
        rw [dot_comm]; exact this
  | [l], _, ⟨c1, c2, c3⟩, hM, hd, hM1 =>
    have hd : dm = 1 := hd
    subst hd
    rw [if_neg (fun q => absurd q.1 (by omega))]
    by_cases c : M 1 = []
    · rw [if_neg (fun q => q.2 c), if_pos rfl, hM, c]
      obtain ⟨r1, r2, r3⟩ := perp_canon (rect_nid c2)
      rw [if_pos (show (([] : List V3).all fun q => decide (dot q (perpV (gt [l] 0)) = 0)) = true from rfl), mkM_k, hM2]
      show Canon _ [prm (rctV (prm (perpV l)))]
      rw [prm_id r1]
      refine ⟨r1, r2, fun x => ?_⟩
      rw [r3 x]
      exact ⟨fun ⟨a, b, _⟩ => ⟨a, b l (by simp)⟩, fun ⟨a, b⟩ => ⟨a, fun l' hl' => by rw [List.mem_singleton.mp hl']; exact b, fun _ q => absurd q List.not_mem_nil⟩⟩
    · rw [if_pos ⟨rfl, c⟩, hM2]
      rintro x ⟨a, b, d⟩
      have hq0 : gt (M 1) 0 ∈ M 1 := gt_mem (List.length_pos_iff.mpr c)
      have hs := (hM1 _).mp hq0
      have hn := nid_iff.mp hs.2
      have hp := pz_cmp.mp hs.1.2.2.1
      have h1 := b l (by simp)
      have h2 := d _ hq0
      unfold dot at h1 h2
      rw [a, Int.mul_zero] at h1 h2
      have hpos := pvt_pos c2
      unfold pvt at hp hpos
      by_cases e : l.2.1 = 0
      · rw [if_pos e] at hp hpos
        have hp : (gt (M 1) 0).2.2 = 0 := hp
        have hpos : 0 < l.2.2 := hpos
        rw [hp] at h2
        rw [e] at h1
        exact v_ext a ((Int.mul_eq_zero.mp (show (gt (M 1) 0).2.1 * x.2.1 = 0 by omega)).resolve_left fun q => hn ⟨q, hp⟩) ((Int.mul_eq_zero.mp (show l.2.2 * x.2.2 = 0 by omega)).resolve_left (by omega))
      · rw [if_neg e] at hp hpos
        have hp : (gt (M 1) 0).2.1 = 0 := hp
        rw [hp] at h2
        have z : x.2.2 = 0 := (Int.mul_eq_zero.mp (show (gt (M 1) 0).2.2 * x.2.2 = 0 by omega)).resolve_left fun q => hn ⟨hp, q⟩
        rw [z] at h1
        exact v_ext a ((Int.mul_eq_zero.mp (show l.2.1 * x.2.1 = 0 by omega)).resolve_left e) z
end LINES
