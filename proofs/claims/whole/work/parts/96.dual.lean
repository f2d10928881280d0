/-! THE REFERENCE'S DUAL makes the whole cone -/
theorem prm_spec {v : V3} (h : v ≠ O3) : ∃ g : Int, 0 < g ∧ sm g (prm v) = v ∧ gcd3 (prm v) = 1 := by
  have h0 : gcd3 v ≠ 0 := fun q => h (gcd3_0.mp q)
  unfold prm
  split
  · exact ⟨(gcd3 v : Int), by omega, sm_div3 v, gcd3_div3 h⟩
  · exact ⟨1, by omega, sm_1 v, by omega⟩
theorem prm_O : prm O3 = O3 := by rfl
theorem prm_id {v : V3} (h : gcd3 v = 1) : prm v = v := by unfold prm; rw [if_neg (by omega)]
theorem prm_par {d w : V3} (hw : w ≠ O3) (hd : gcd3 d = 1) : xp d w = O3 ↔ d = prm w ∨ d = neg3 (prm w) := by
  obtain ⟨g, hg, e, h1⟩ := prm_spec hw
  constructor
  · intro h
    refine par_prim hd h1 ?_
    rw [← e, xp_sm'] at h
    exact Classical.byContradiction fun q => sm_ne (by omega) q h
  · intro h
    have : xp d (prm w) = O3 := by
      rcases h with rfl | rfl
      · exact xp_self _
      · rw [neg_sm, xp_sm, xp_self, sm_O]
    rw [← e, xp_sm', this, sm_O]
theorem good_iff {c : V3} {l : List V3} : goodB c l = true ↔ ∀ v ∈ l, 0 ≤ dot c v := by
  unfold goodB
  rw [List.all_eq_true]
  exact ⟨fun h v hv => of_decide_eq_true (h v hv), fun h v hv => decide_eq_true (h v hv)⟩
theorem good_Ce {c : V3} {l : List V3} : goodB c l = true ↔ Ce (fun v => v ∈ l) c := by
  rw [good_iff]
  exact ⟨fun h v hv => by rw [dot_comm]; exact h v hv, fun h v hv => by rw [dot_comm]; exact h v hv⟩
theorem kp_mem_z {F : List V3} {c d : V3} : d ∈ kp F c ↔ d ∈ F ∨ d = c := by
  unfold kp
  split
  · rename_i h
    exact ⟨Or.inl, fun q => q.elim id (fun e => by rw [e]; exact h)⟩
  · rw [List.mem_append, List.mem_singleton]
theorem kp_nd {F : List V3} {c : V3} (h : F.Nodup) : (kp F c).Nodup := by
  unfold kp
  split
  · exact h
  · rename_i q
    rw [List.nodup_append]
    exact ⟨h, by simp, fun a ha b hb e => q (by rw [List.mem_singleton.mp hb] at e; rw [← e]; exact ha)⟩
theorem kp_len_z {F : List V3} {c : V3} : (kp F c).length ≤ F.length + 1 := by
  unfold kp
  split
  · omega
  · rw [List.length_append]; simp
theorem of1_mem_z {F l : List V3} {c d : V3} : d ∈ of1 F c l ↔ d ∈ F ∨ (goodB d l = true ∧ d = c) := by
  unfold of1
  split
  · rename_i h
    rw [kp_mem_z]
    exact ⟨fun q => q.elim Or.inl (fun e => Or.inr ⟨by rw [e]; exact h, e⟩), fun q => q.elim Or.inl (fun e => Or.inr e.2)⟩
  · rename_i h
    exact ⟨Or.inl, fun q => q.elim id (fun e => absurd (by rw [← e.2]; exact e.1) h)⟩
theorem of1_nd {F l : List V3} {c : V3} (h : F.Nodup) : (of1 F c l).Nodup := by
  unfold of1
  split
  · exact kp_nd h
  · exact h
theorem of1_len_z {F l : List V3} {c : V3} : (of1 F c l).length ≤ F.length + 1 := by
  unfold of1
  split
  · exact kp_len_z
  · omega
theorem ofr_nd {F l : List V3} {c : V3} (h : F.Nodup) : (ofr l F c).Nodup := of1_nd (of1_nd h)
theorem ofr_len_z {F l : List V3} {c : V3} : (ofr l F c).length ≤ F.length + 2 := by
  have h1 := of1_len_z (F := of1 F c l) (c := neg3 c) (l := l)
  have h2 := of1_len_z (F := F) (c := c) (l := l)
  unfold ofr
  omega
theorem ofr_mem_z {F l : List V3} {w d : V3} (hw : w ≠ O3) : d ∈ ofr l F (prm w) ↔ d ∈ F ∨ (goodB d l = true ∧ gcd3 d = 1 ∧ xp d w = O3) := by
  unfold ofr
  rw [of1_mem_z, of1_mem_z]
  obtain ⟨g, hg, e, h1⟩ := prm_spec hw
  constructor
  · rintro ((q | ⟨q1, q2⟩) | ⟨q1, q2⟩)
    · exact Or.inl q
    · have : gcd3 d = 1 := by rw [q2]; exact h1
      exact Or.inr ⟨q1, this, (prm_par hw this).mpr (Or.inl q2)⟩
    · have : gcd3 d = 1 := by rw [q2, gcd3_neg]; exact h1
      exact Or.inr ⟨q1, this, (prm_par hw this).mpr (Or.inr q2)⟩
  · rintro (q | ⟨q1, q2, q3⟩)
    · exact Or.inl (Or.inl q)
    · rcases (prm_par hw q2).mp q3 with q | q
      · exact Or.inl (Or.inr ⟨q1, q⟩)
      · exact Or.inr ⟨q1, q⟩
theorem pls_mem {l : List V3} {u d : V3} : ∀ {t F : List V3}, d ∈ pls l u t F ↔ d ∈ F ∨ ∃ v, v ∈ t ∧ xp u v ≠ O3 ∧ goodB d l = true ∧ gcd3 d = 1 ∧ xp d (xp u v) = O3
  | [], F => ⟨Or.inl, fun q => q.elim id (fun ⟨_, h, _⟩ => absurd h List.not_mem_nil)⟩
  | v :: t, F => by
    unfold pls
    rw [pls_mem]
    by_cases c : xp u v = O3
    · rw [if_pos c]
      constructor
      · rintro (q | ⟨w, h1, h2⟩)
        · exact Or.inl q
        · exact Or.inr ⟨w, List.mem_cons_of_mem _ h1, h2⟩
      · rintro (q | ⟨w, h1, h2⟩)
        · exact Or.inl q
        · rcases List.mem_cons.mp h1 with rfl | h1
          · exact absurd c h2.1
          · exact Or.inr ⟨w, h1, h2⟩
    · rw [if_neg c, ofr_mem_z c]
      constructor
      · rintro ((q | q) | ⟨w, h1, h2⟩)
        · exact Or.inl q
        · exact Or.inr ⟨v, List.mem_cons_self, c, q⟩
        · exact Or.inr ⟨w, List.mem_cons_of_mem _ h1, h2⟩
      · rintro (q | ⟨w, h1, h2⟩)
        · exact Or.inl (Or.inl q)
        · rcases List.mem_cons.mp h1 with rfl | h1
          · exact Or.inl (Or.inr h2.2)
          · exact Or.inr ⟨w, h1, h2⟩
theorem pls_nd {l : List V3} {u : V3} : ∀ {t F : List V3}, F.Nodup → (pls l u t F).Nodup
  | [], _, h => h
  | v :: t, F, h => by
    unfold pls
    refine pls_nd ?_
    split
    · exact h
    · exact ofr_nd h
theorem pls_len {l : List V3} {u : V3} : ∀ {t F : List V3}, (pls l u t F).length ≤ F.length + 2 * t.length
  | [], _ => by unfold pls; simp
  | v :: t, F => by
    unfold pls
    refine Nat.le_trans pls_len ?_
    have := ofr_len_z (F := F) (l := l) (c := prm (xp u v))
    rw [List.length_cons]
    split <;> omega
theorem prs_nd {l : List V3} : ∀ {t F : List V3}, F.Nodup → (prs l t F).Nodup
  | [], _, h => h
  | v :: t, F, h => by unfold prs; exact prs_nd (pls_nd h)
theorem prs_F {l : List V3} {d : V3} : ∀ {t F : List V3}, d ∈ F → d ∈ prs l t F
  | [], _, h => h
  | v :: t, F, h => by unfold prs; exact prs_F (pls_mem.mpr (Or.inl h))
theorem prs_to {l : List V3} {d : V3} : ∀ {t F : List V3}, d ∈ prs l t F → d ∈ F ∨ ∃ u v, u ∈ t ∧ v ∈ t ∧ xp u v ≠ O3 ∧ goodB d l = true ∧ gcd3 d = 1 ∧ xp d (xp u v) = O3
  | [], _, h => Or.inl h
  | w :: t, F, h => by
    unfold prs at h
    rcases prs_to h with q | ⟨u, v, h1, h2, h3⟩
    · rcases pls_mem.mp q with q | ⟨v, h1, h2⟩
      · exact Or.inl q
      · exact Or.inr ⟨w, v, List.mem_cons_self, List.mem_cons_of_mem _ h1, h2⟩
    · exact Or.inr ⟨u, v, List.mem_cons_of_mem _ h1, List.mem_cons_of_mem _ h2, h3⟩
theorem prs_of {l : List V3} {d u v : V3} (h : xp u v ≠ O3) (hd : goodB d l = true) (h1 : gcd3 d = 1) (h0 : xp d (xp u v) = O3) : ∀ {t F : List V3}, u ∈ t → v ∈ t → d ∈ prs l t F
  | [], _, hu, _ => absurd hu List.not_mem_nil
  | w :: t, F, hu, hv => by
    unfold prs
    rcases List.mem_cons.mp hu with rfl | hu2
    · rcases List.mem_cons.mp hv with rfl | hv2
      · exact absurd (xp_self _) h
      · exact prs_F (pls_mem.mpr (Or.inr ⟨v, hv2, h, hd, h1, h0⟩))
    · rcases List.mem_cons.mp hv with rfl | hv2
      · refine prs_F (pls_mem.mpr (Or.inr ⟨u, hu2, xp_ne_symm h, hd, h1, ?_⟩))
        rw [xp_anti u v, neg_sm, xp_sm'] at h0
        exact Classical.byContradiction fun q => sm_ne (by omega) q h0
      · exact prs_of h hd h1 h0 hu2 hv2
theorem secF_some {l : List V3} : ∀ {n i k : Nat}, secF l n i = some k → k < i + n ∧ xp (gt l 0) (gt l k) ≠ O3
  | 0, _, _, h => by cases h
  | n + 1, i, k, h => by
    unfold secF at h
    split at h
    · have := secF_some h
      exact ⟨by omega, this.2⟩
    · rename_i c
      injection h with e
      subst e
      exact ⟨by omega, c⟩
theorem secF_none {l : List V3} : ∀ {n i : Nat}, secF l n i = none → ∀ k, i ≤ k → k < i + n → xp (gt l 0) (gt l k) = O3
  | 0, _, _, k, h1, h2 => by omega
  | n + 1, i, h, k, h1, h2 => by
    unfold secF at h
    split at h
    · rename_i c
      by_cases hk : k = i
      · rw [hk]; exact c
      · exact secF_none h k (by omega) (by omega)
    · cases h
theorem mem_gt {l : List V3} {v : V3} (h : v ∈ l) : ∃ i, i < l.length ∧ gt l i = v := by
  obtain ⟨i, hi, e⟩ := List.mem_iff_getElem.mp h
  exact ⟨i, hi, by rw [gt_get hi]; exact e⟩
theorem d3_perp {a b c x : V3} (hd : d3 a b c ≠ 0) (e1 : dot a x = 0) (e2 : dot b x = 0) (e3 : dot c x = 0) : x = O3 := by
  have k : ∀ i, dot (un i) x * d3 a b c = 0 := fun i => by
    have : dot (un i) x * d3 a b c = dot (xp b c) (un i) * dot a x + dot (xp c a) (un i) * dot b x + dot (xp a b) (un i) * dot c x := by
      unfold d3 dot xp; grind
    rw [this, e1, e2, e3]; simp
  refine cmp_ext fun c _ => ?_
  have := (Int.mul_eq_zero.mp (k c)).resolve_right hd
  rw [dot_un] at this
  rw [this, cmp_O]
theorem gram (c a x e : V3) : dot (xp c a) (xp c a) * dot x e = dot a a * (dot c x * dot c e) + dot c c * (dot a x * dot a e) - dot c a * (dot c x * dot a e + dot a x * dot c e) + dot (xp c a) x * dot (xp c a) e := by
  unfold dot xp; grind
theorem xp_par {d u v : V3} (h1 : dot d u = 0) (h2 : dot d v = 0) : xp d (xp u v) = O3 := by
  rw [xp_anti, xp_xp, dot_comm u d, dot_comm v d, h1, h2, lin_00]; rfl
theorem xp_nz {c a : V3} (hc : c ≠ O3) (ha : a ≠ O3) (h : dot c a = 0) : xp c a ≠ O3 := by
  intro q
  have := gram c a c c
  rw [q, h] at this
  have e : dot (O3 : V3) O3 = 0 := dot_0 _
  have h1 := dd_ne hc
  have h2 := dd_ne ha
  have h3 := Int.mul_pos h2 (Int.mul_pos h1 h1)
  rw [e, dot_comm a c, h, dot_comm O3 c, dot_0] at this
  simp only [Int.zero_mul, Int.mul_zero, Int.add_zero, Int.sub_zero] at this
  omega
/-- the three ways -/
theorem dual_cases {l : List V3} (hl : l ≠ []) (h0 : ∀ v ∈ l, v ≠ O3) :
    (dualF l = prs l l [] ∧ ∃ a b c, a ∈ l ∧ b ∈ l ∧ c ∈ l ∧ d3 a b c ≠ 0) ∨
    (∃ c u v, u ∈ l ∧ v ∈ l ∧ xp u v ≠ O3 ∧ c = prm (xp u v) ∧ (∀ w ∈ l, dot c w = 0) ∧ dualF l = pls l c l (ofr l [] (prm c))) ∨
    (dualF l = oneW l ∧ ∀ v ∈ l, xp (gt l 0) v = O3) := by
  have hu : gt l 0 ∈ l := gt_mem (List.length_pos_iff.mpr hl)
  unfold dualF
  cases hs : secF l (l.length - 1) 1 with
  | none =>
    refine Or.inr (Or.inr ⟨rfl, fun v hv => ?_⟩)
    obtain ⟨i, hi, rfl⟩ := mem_gt hv
    by_cases c : i = 0
    · rw [c]; exact xp_self _
    · exact secF_none hs i (by omega) (by omega)
  | some i =>
    obtain ⟨h1, h2⟩ := secF_some hs
    have hpos := List.length_pos_iff.mpr hl
    have hv : gt l i ∈ l := gt_mem (by omega)
    have hc0 : prm (xp (gt l 0) (gt l i)) ≠ O3 := by
      obtain ⟨_, _, _, q⟩ := prm_spec h2
      exact prim_ne q
    show _ ∨ (∃ c u v, _ ∧ _ ∧ _ ∧ _ ∧ _ ∧ dualN l (prm (xp (gt l 0) (gt l i))) = _) ∨ _
    by_cases hp : plaB (prm (xp (gt l 0) (gt l i))) l = true
    · refine Or.inr (Or.inl ⟨_, gt l 0, gt l i, hu, hv, h2, rfl, fun w hw => ?_, ?_⟩)
      · unfold plaB at hp
        exact of_decide_eq_true (List.all_eq_true.mp hp w hw)
      · unfold dualN; rw [if_pos hp]
    · refine Or.inl ⟨?_, ?_⟩
      · show dualN l (prm (xp (gt l 0) (gt l i))) = _
        unfold dualN; rw [if_neg hp]
      · have : ∃ w ∈ l, dot (prm (xp (gt l 0) (gt l i))) w ≠ 0 := by
          refine Classical.byContradiction fun hn => hp ?_
          unfold plaB
          refine List.all_eq_true.mpr fun w hw => decide_eq_true (Classical.byContradiction fun q => hn ⟨w, hw, q⟩)
        obtain ⟨w, hw, q⟩ := this
        refine ⟨gt l 0, gt l i, w, hu, hv, hw, fun z => q ?_⟩
        obtain ⟨g, hg, e, _⟩ := prm_spec h2
        rw [d3_xp, ← e, dot_comm, dot_sm] at z
        rw [dot_comm]
        exact (Int.mul_eq_zero.mp z).resolve_left (by omega)
theorem one1 {u : V3} (h : u ≠ O3) : ∃ p q, (if u.1 = 0 then ((1, 0, 0) : V3) else (-u.2.1, u.1, 0)) = p ∧ (if u.1 = 0 then ((0, -u.2.2, u.2.1) : V3) else (-u.2.2, 0, u.1)) = q ∧ p ≠ O3 ∧ q ≠ O3 ∧ dot u p = 0 ∧ dot u q = 0 ∧ xp p q ≠ O3 := by
  refine ⟨_, _, rfl, rfl, ?_⟩
  by_cases c : u.1 = 0
  · rw [if_pos c, if_pos c]
    have h' : ¬ (u.2.1 = 0 ∧ u.2.2 = 0) := fun q => h (v_ext c q.1 q.2)
    refine ⟨by simp, fun q => ?_, ?_, ?_, fun q => ?_⟩
    · simp at q; omega
    · unfold dot; simp [c]
    · unfold dot; simp; grind
    · unfold xp at q; simp at q; omega
  · rw [if_neg c, if_neg c]
    refine ⟨fun q => ?_, fun q => ?_, ?_, ?_, fun q => ?_⟩
    · simp at q; omega
    · simp at q; omega
    · unfold dot; simp; grind
    · unfold dot; simp; grind
    · have q := congrArg (fun v : V3 => v.1) q
      have q : u.1 * u.1 - 0 * 0 = 0 := q
      exact c (sq0 (by omega))
/-- every member: in the cone, primitive -/
theorem oneW_mem {l : List V3} {u d : V3} (hu : u ≠ O3) (e : gt l 0 = u) : d ∈ oneW l ↔ goodB d l = true ∧ gcd3 d = 1 ∧ (xp d (if u.1 = 0 then ((1, 0, 0) : V3) else (-u.2.1, u.1, 0)) = O3 ∨ xp d (if u.1 = 0 then ((0, -u.2.2, u.2.1) : V3) else (-u.2.2, 0, u.1)) = O3 ∨ xp d u = O3) := by
  obtain ⟨p, q, e1, e2, hp, hq, _⟩ := one1 hu
  unfold oneW
  rw [e, e1, e2, ofr_mem_z hu, ofr_mem_z hq, ofr_mem_z hp]
  simp only [List.not_mem_nil, false_or]
  constructor
  · rintro ((⟨a, b, c⟩ | ⟨a, b, c⟩) | ⟨a, b, c⟩)
    · exact ⟨a, b, Or.inl c⟩
    · exact ⟨a, b, Or.inr (Or.inl c)⟩
    · exact ⟨a, b, Or.inr (Or.inr c)⟩
  · rintro ⟨a, b, c | c | c⟩
    · exact Or.inl (Or.inl ⟨a, b, c⟩)
    · exact Or.inl (Or.inr ⟨a, b, c⟩)
    · exact Or.inr ⟨a, b, c⟩
theorem dual_in {l : List V3} (hl : l ≠ []) (h0 : ∀ v ∈ l, v ≠ O3) {d : V3} (hd : d ∈ dualF l) : Ce (fun v => v ∈ l) d ∧ gcd3 d = 1 := by
  rcases dual_cases hl h0 with ⟨e, _⟩ | ⟨c, u, v, _, _, h3, hc, _, e⟩ | ⟨e, _⟩
  · rw [e] at hd
    rcases prs_to hd with q | ⟨_, _, _, _, _, q1, q2, _⟩
    · exact absurd q List.not_mem_nil
    · exact ⟨good_Ce.mp q1, q2⟩
  · have hc0 : c ≠ O3 := by
      obtain ⟨_, _, _, q⟩ := prm_spec h3
      rw [hc]; exact prim_ne q
    rw [e] at hd
    rcases pls_mem.mp hd with q | ⟨_, _, _, q1, q2, _⟩
    · rcases (ofr_mem_z hc0).mp q with q | ⟨q1, q2, _⟩
      · exact absurd q List.not_mem_nil
      · exact ⟨good_Ce.mp q1, q2⟩
    · exact ⟨good_Ce.mp q1, q2⟩
  · have hu := h0 _ (gt_mem (List.length_pos_iff.mpr hl))
    rw [e] at hd
    obtain ⟨q1, q2, _⟩ := (oneW_mem hu rfl).mp hd
    exact ⟨good_Ce.mp q1, q2⟩
theorem nn_of_pos {g x : Int} (hg : 0 < g) (h : 0 ≤ g * x) : 0 ≤ x := Classical.byContradiction fun q => by
  have := Int.mul_neg_of_pos_of_neg hg (show x < 0 by omega)
  omega
theorem dual_nd {l : List V3} : (dualF l).Nodup := by
  unfold dualF dualS
  split
  · unfold oneW
    exact ofr_nd (ofr_nd (ofr_nd List.nodup_nil))
  · unfold dualN
    split
    · exact pls_nd (ofr_nd List.nodup_nil)
    · exact prs_nd List.nodup_nil
/-- what is not below 0 on the dual is not below 0 on the cone -/
theorem dual_all {l : List V3} (hl : l ≠ []) (h0 : ∀ v ∈ l, v ≠ O3) {x y : V3} (hx : ∀ d ∈ dualF l, 0 ≤ dot x d) (hy : Ce (fun v => v ∈ l) y) : 0 ≤ dot x y := by
  have hI := (Inv_z.all l).1
  generalize (l.foldl (fun s a => cutF a s) ((e3, []) : Cp)).1 = L at hI
  generalize (l.foldl (fun s a => cutF a s) ((e3, []) : Cp)).2 = E at hI
  have hu := gt_mem (l := l) (i := 0) (List.length_pos_iff.mpr hl)
  have hu0 := h0 _ hu
  have hl2 := hI.le2 hu hu0
  obtain ⟨s1, s2, s3⟩ := hI.span hl2
  obtain ⟨⟨a1, _, a3, a4⟩, ⟨b1, _, _⟩, _⟩ := hI
  have hp1 : ∀ d, gcd3 d = 1 → (∀ v ∈ l, dot d v = 0) → goodB d l = true := fun d _ h => good_iff.mpr fun v hv => by rw [h v hv]; omega
  rcases dual_cases hl h0 with ⟨e, a, b, c, ha, hb, hc, hd⟩ | ⟨c, u, v, hu', hv', h3, hc, hc2, e⟩ | ⟨e, hpar⟩
  · -- rank 3: no line
    have hL : L = [] := by
      match L, s1, a1 with
      | [], _, _ => rfl
      | k :: L', s1, a1 => exact absurd (d3_perp hd (a1 a ha k (by simp)) (a1 b hb k (by simp)) (a1 c hc k (by simp))) (prim_ne (s1 k (by simp)))
    subst hL
    refine (a4 y hy).nn (fun _ q => absurd q List.not_mem_nil) fun f hf => ?_
    obtain ⟨k1, k2, k3⟩ := b1 f hf
    obtain ⟨a', b', ⟨m1, z1⟩, ⟨m2, z2⟩, hx'⟩ := k3
    refine hx f ?_
    rw [e]
    exact prs_of hx' (good_Ce.mpr k1) k2 (xp_par (by rw [dot_comm]; exact z1) (by rw [dot_comm]; exact z2)) m1 m2
  · -- a plane
    have hc1 : gcd3 c = 1 := by
      obtain ⟨_, _, _, q⟩ := prm_spec h3
      rw [hc]; exact q
    have hc0 := prim_ne hc1
    have inD : ∀ d, gcd3 d = 1 → xp d c = O3 → d ∈ dualF l := fun d h1 h2 => by
      rw [e]
      refine pls_mem.mpr (Or.inl ((ofr_mem_z hc0).mpr (Or.inr ⟨hp1 d h1 fun v hv => ?_, h1, h2⟩)))
      exact par_dot hc0 (by rw [xp_anti, h2]; rfl) (hc2 v hv)
    have xc : dot x c = 0 := by
      have q1 := hx c (inD c hc1 (xp_self c))
      have q2 := hx (neg3 c) (inD _ (by rw [gcd3_neg]; exact hc1) (by rw [neg_sm, xp_sm, xp_self, sm_O]))
      rw [dot_neg'] at q2
      omega
    have hperp : ∀ k, (∀ a ∈ l, dot a k = 0) → xp c k = O3 := fun k hk =>
      perp2 (hc2 u hu') (hc2 v hv') (by rw [dot_comm]; exact hk u hu') (by rw [dot_comm]; exact hk v hv') h3
    have hk1 : ∀ k ∈ L, dot x k = 0 := fun k hk => by
      have := par_dot (h := x) hc0 (hperp k fun a ha => a1 a ha k hk) (by rw [dot_comm]; exact xc)
      rw [dot_comm]; exact this
    have hL1 : L.length ≤ 1 := by
      match L, s2, a1, hl2 with
      | [], _, _, _ => simp
      | [_], _, _, _ => simp
      | [k, m], s2, a1, _ => exact absurd (par_trans hc0 (hperp k fun a ha => a1 a ha k (by simp)) (hperp m fun a ha => a1 a ha m (by simp))) (s2 k m rfl)
    refine (a4 y hy).nn hk1 fun f hf => ?_
    obtain ⟨k1, k2, k3⟩ := b1 f hf
    have : ∃ a, a ∈ l ∧ dot a f = 0 := by
      have k3' : Rk (Ti (fun v => v ∈ l) f) 1 := by
        match L, hL1, k3 with
        | [], _, ⟨a, b, h1, h2, h3⟩ => exact ⟨a, h1, fun q => h3 (by rw [q]; exact xp_0l b)⟩
        | [_], _, k3 => exact k3
      obtain ⟨a, ⟨h1, h2⟩, _⟩ := k3'
      exact ⟨a, h1, h2⟩
    obtain ⟨a, ha, hz⟩ := this
    have hw := xp_nz hc0 (h0 a ha) (hc2 a ha)
    have hww := dd_ne hw
    have G : ∀ b, dot c b = 0 → dot (xp c a) (xp c a) * dot b f = dot (xp c a) b * dot (xp c a) f := fun b hb => by
      rw [gram, hb, hc2 a ha, hz]; simp
    have hG := G x (by rw [dot_comm]; exact xc)
    refine nn_of_pos hww ?_
    rw [hG]
    have inD2 : ∀ d, gcd3 d = 1 → xp d (xp c a) = O3 → (∀ b ∈ l, 0 ≤ dot d b) → 0 ≤ dot x d := fun d h1 h2 h3 => by
      refine hx d ?_
      rw [e]
      exact pls_mem.mpr (Or.inr ⟨a, ha, hw, good_iff.mpr h3, h1, h2⟩)
    obtain ⟨g, hg, eg, h1⟩ := prm_spec hw
    have dw : ∀ z, dot (xp c a) z = g * dot (prm (xp c a)) z := fun z => by
      have := congrArg (dot z) eg
      rw [dot_sm] at this
      rw [dot_comm, ← this, dot_comm z]
    rcases Int.lt_trichotomy (dot (xp c a) f) 0 with s | s | s
    · have := inD2 (neg3 (prm (xp c a))) (by rw [gcd3_neg]; exact h1) ((prm_par hw (by rw [gcd3_neg]; exact h1)).mpr (Or.inr rfl)) fun b hb => by
        rw [neg_dot]
        have q := G b (hc2 b hb)
        have q2 := Int.mul_nonneg (show 0 ≤ dot (xp c a) (xp c a) by omega) (k1 b hb)
        rw [q, dw b] at q2
        refine Classical.byContradiction fun hn => ?_
        have := Int.mul_neg_of_pos_of_neg (Int.mul_pos hg (show 0 < dot (prm (xp c a)) b by omega)) s
        omega
      rw [dot_neg', dot_comm] at this
      have t : dot (xp c a) x ≤ 0 := by
        rw [dw x]
        have := Int.mul_nonneg (show 0 ≤ g by omega) (show 0 ≤ -(dot (prm (xp c a)) x) by omega)
        rw [Int.mul_neg] at this
        omega
      exact Int.mul_nonneg_of_nonpos_of_nonpos t (by omega)
    · rw [s]; simp
    · have := inD2 (prm (xp c a)) h1 ((prm_par hw h1).mpr (Or.inl rfl)) fun b hb => by
        have q := G b (hc2 b hb)
        have q2 := Int.mul_nonneg (show 0 ≤ dot (xp c a) (xp c a) by omega) (k1 b hb)
        rw [q, dw b] at q2
        refine Classical.byContradiction fun hn => ?_
        have := Int.mul_neg_of_neg_of_pos (Int.mul_neg_of_pos_of_neg hg (show dot (prm (xp c a)) b < 0 by omega)) s
        omega
      rw [dot_comm] at this
      have t : 0 ≤ dot (xp c a) x := by
        rw [dw x]
        exact Int.mul_nonneg (by omega) this
      exact Int.mul_nonneg t (by omega)
  · -- a line
    obtain ⟨p, q, e1, e2, hp, hq, up, uq, hpq⟩ := one1 hu0
    have inD : ∀ d w, gcd3 d = 1 → w ≠ O3 → dot (gt l 0) w = 0 → (w = p ∨ w = q) → xp d w = O3 → d ∈ dualF l := fun d w h1 hw h2 h3 h4 => by
      rw [e]
      refine (oneW_mem hu0 rfl).mpr ⟨hp1 d h1 fun v hv => ?_, h1, ?_⟩
      · have t : dot w v = 0 := by rw [dot_comm]; exact par_dot hu0 (hpar v hv) h2
        exact par_dot hw (by rw [xp_anti, h4]; rfl) t
      · rw [e1, e2]
        rcases h3 with rfl | rfl
        · exact Or.inl h4
        · exact Or.inr (Or.inl h4)
    have xw : ∀ w, w ≠ O3 → dot (gt l 0) w = 0 → (w = p ∨ w = q) → dot x w = 0 := fun w hw h2 h3 => by
      obtain ⟨g, hg, eg, h1⟩ := prm_spec hw
      have q1 := hx (prm w) (inD _ w h1 hw h2 h3 ((prm_par hw h1).mpr (Or.inl rfl)))
      have q2 := hx (neg3 (prm w)) (inD _ w (by rw [gcd3_neg]; exact h1) hw h2 h3 ((prm_par hw (by rw [gcd3_neg]; exact h1)).mpr (Or.inr rfl)))
      rw [dot_neg'] at q2
      rw [← eg, dot_sm, show dot x (prm w) = 0 by omega, Int.mul_zero]
    have hxu : xp (gt l 0) x = O3 := perp2 up uq (xw p hp up (Or.inl rfl)) (xw q hq uq (Or.inr rfl)) hpq
    have es := congrArg (fun v => dot v y) (par_sm hxu)
    have es : dot (sm (dot (gt l 0) (gt l 0)) x) y = dot (sm (dot (gt l 0) x) (gt l 0)) y := es
    rw [dot_comm, dot_sm, dot_comm _ y, dot_sm, dot_comm y x, dot_comm y (gt l 0)] at es
    refine nn_of_pos (dd_ne hu0) ?_
    rw [es]
    have uy := hy _ hu
    obtain ⟨g, hg, eg, h1⟩ := prm_spec hu0
    by_cases hgd : goodB (prm (gt l 0)) l = true
    · have := hx (prm (gt l 0)) (by rw [e]; exact (oneW_mem hu0 rfl).mpr ⟨hgd, h1, Or.inr (Or.inr ((prm_par hu0 h1).mpr (Or.inl rfl)))⟩)
      have t : 0 ≤ dot (gt l 0) x := by
        rw [dot_comm, ← eg, dot_sm]
        exact Int.mul_nonneg (by omega) this
      exact Int.mul_nonneg t uy
    · have : ∃ v, v ∈ l ∧ dot (prm (gt l 0)) v < 0 := by
        refine Classical.byContradiction fun hn => hgd (good_iff.mpr fun v hv => ?_)
        exact Classical.byContradiction fun q => hn ⟨v, hv, by omega⟩
      obtain ⟨v, hv, hneg⟩ := this
      have hneg' : dot (gt l 0) v < 0 := by
        rw [dot_comm, ← eg, dot_sm, dot_comm]
        exact Int.mul_neg_of_pos_of_neg hg hneg
      have es := congrArg (fun z => dot z y) (par_sm (hpar v hv))
      have es : dot (sm (dot (gt l 0) (gt l 0)) v) y = dot (sm (dot (gt l 0) v) (gt l 0)) y := es
      rw [dot_comm, dot_sm, dot_comm _ y, dot_sm, dot_comm y v, dot_comm y (gt l 0)] at es
      have t := Int.mul_nonneg (show 0 ≤ dot (gt l 0) (gt l 0) by have := dd_ne hu0; omega) (hy v hv)
      rw [es] at t
      have : dot (gt l 0) y = 0 := Classical.byContradiction fun q => by
        have := Int.mul_neg_of_neg_of_pos hneg' (show 0 < dot (gt l 0) y by omega)
        omega
      rw [this]; simp
