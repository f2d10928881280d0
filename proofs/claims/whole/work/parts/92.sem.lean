/-! WHAT THE SETTLED ROWS ARE, said without saying how they are found -/
def Sem (S T : V3 → Prop) (L : List V3) (v : V3) : Prop := gcd3 v = 1 ∧ S v ∧ pz L v ∧ Rk (fun y => T y ∧ dot y v = 0) (2 - L.length)
theorem pz_lin {u v : V3} (a b : Int) : ∀ {L : List V3}, pz L u → pz L v → pz L (ad (sm a u) (sm b v))
  | [], _, _ => trivial
  | [l], hu, hv => by
    have hu : if l.2.1 = 0 then u.2.2 = 0 else u.2.1 = 0 := hu
    have hv : if l.2.1 = 0 then v.2.2 = 0 else v.2.1 = 0 := hv
    show if l.2.1 = 0 then (a * u.2.2 + b * v.2.2) = 0 else (a * u.2.1 + b * v.2.1) = 0
    split at hu
    · rename_i c
      rw [if_pos c] at hv ⊢
      rw [hu, hv]; simp
    · rename_i c
      rw [if_neg c] at hv ⊢
      rw [hu, hv]; simp
  | _ :: _ :: _, hu, hv => by
    have hu : u.2.1 = 0 ∧ u.2.2 = 0 := hu
    have hv : v.2.1 = 0 ∧ v.2.2 = 0 := hv
    show (a * u.2.1 + b * v.2.1) = 0 ∧ (a * u.2.2 + b * v.2.2) = 0
    rw [hu.1, hu.2, hv.1, hv.2]
    simp
/-- of the span and 0 at the pivots: 0 -/
theorem Canon.zero {Q : V3 → Prop} {x : V3} : ∀ {L : List V3}, Canon Q L → Q x → pz L x → x = O3
  | [], h, hx, _ => h x hx
  | [l], ⟨h1, h2, h3⟩, hx, hp => by
    have e := par_sm ((h3 x).mp hx)
    have hd := dd_ne (prim_ne h1)
    have e1 := congrArg (fun v : V3 => v.2.1) e
    have e2 := congrArg (fun v : V3 => v.2.2) e
    have e1 : dot l l * x.2.1 = dot l x * l.2.1 := e1
    have e2 : dot l l * x.2.2 = dot l x * l.2.2 := e2
    have hz : dot l x = 0 := by
      have hp : if l.2.1 = 0 then x.2.2 = 0 else x.2.1 = 0 := hp
      split at hp
      · rename_i c
        rw [hp, Int.mul_zero] at e2
        rcases h2 with q | q
        · omega
        · exact (Int.mul_eq_zero.mp e2.symm).resolve_right (by omega)
      · rename_i c
        rw [hp, Int.mul_zero] at e1
        exact (Int.mul_eq_zero.mp e1.symm).resolve_right c
    rw [hz, sm_0] at e
    exact Classical.byContradiction fun q => sm_ne (by omega) q e
  | [l, m], ⟨_, _, h3, h4, h5, h6, h7⟩, hx, hp => by
    have hp : x.2.1 = 0 ∧ x.2.2 = 0 := hp
    have e := (h7 x).mp hx
    rw [d3_12 h4 h5, hp.1, hp.2, Int.mul_zero, Int.mul_zero, Int.sub_zero, Int.sub_zero] at e
    have := Int.mul_pos h3 h6
    exact v_ext ((Int.mul_eq_zero.mp e).resolve_left (by omega)) hp.1 hp.2
  | _ :: _ :: _ :: _, h, _, _ => absurd h id
theorem le1 {F : List V3} {R : V3 → V3 → Prop} (hp : F.Pairwise R) (h : ∀ e ∈ F, ∀ f ∈ F, ¬ R e f) : F = [] ∨ ∃ e, F = [e] := by
  match F, hp, h with
  | [], _, _ => exact Or.inl rfl
  | [e], _, _ => exact Or.inr ⟨e, rfl⟩
  | e :: f :: _, hp, h => exact absurd ((List.pairwise_cons.mp hp).1 f (by simp)) (h e (by simp) f (by simp))
section SEM
variable {A T : V3 → Prop} {L E : List V3}
theorem Inv_z.span (h : Inv_z A L E) (hl : L.length ≤ 2) : (∀ l ∈ L, gcd3 l = 1) ∧ (∀ l m, L = [l, m] → xp l m ≠ O3) ∧ ∀ e ∈ E, gcd3 e = 1 ∧ ¬ Hl L [] e := by
  obtain ⟨_, ⟨b1, b2, _⟩, ⟨J, c1, c2, c3⟩, _, _⟩ := h
  refine ⟨b2, fun l m e q => ?_, fun e he => ⟨(b1 e he).2.1, fun q => ?_⟩⟩
  · subst e
    have h0 := c1 0 (by simp)
    have h1 := c2 1 0 (by simp) (by simp) (by omega)
    have := par_dot (a := m) (b := l) (h := un (J 0)) (prim_ne (b2 m (by simp))) (by rw [xp_anti, q]; rfl) (by rw [dot_comm, dot_un]; exact h1)
    rw [dot_comm, dot_un] at this
    exact h0.2 this
  · exact prim_ne (b1 e he).2.1 (IJ.zero ⟨c1, c2, c3⟩ hl q (c3 e he))
/-- what is dual to the cone is 0 on its lines -/
theorem Inv_z.tl (h : Inv_z A L E) {y : V3} (hy : ∀ x, Ce A x → 0 ≤ dot y x) : (∀ l ∈ L, dot y l = 0) ∧ ∀ e ∈ E, 0 ≤ dot y e := by
  obtain ⟨⟨a1, _, _, _⟩, ⟨b1, _, _⟩, _⟩ := h
  refine ⟨fun l hl => ?_, fun e he => hy e (b1 e he).1⟩
  have h1 := hy l (fun a ha => by rw [a1 a ha l hl]; omega)
  have h2 := hy (neg3 l) (fun a ha => by rw [dot_neg', a1 a ha l hl]; omega)
  rw [dot_neg'] at h2
  omega
theorem settle_mem (h : Inv_z A L E) (hl : L.length ≤ 2) (hN : NP L) (hEl : E.length < 1000) (hAT : ∀ a, A a → T a) (hTA : ∀ y, T y → ∀ x, Ce A x → 0 ≤ dot y x) :
    Canon (Hl L []) (stt L E).1 ∧ (stt L E).1.length = L.length ∧ (∀ v, v ∈ (stt L E).2.1 ↔ Sem (Ce A) T (stt L E).1 v) ∧ (stt L E).2.1.Nodup := by
  obtain ⟨s1, s2, s3⟩ := h.span hl
  obtain ⟨hC, hlen, f, hE', hf⟩ := settle_spec hl s1 s2 s3 hEl hN
  have hinv := h
  obtain ⟨⟨a1, a2, a3, a4⟩, ⟨b1, b2, b3⟩, ⟨J, hJ⟩, d, _⟩ := h
  have hJ' := hJ
  obtain ⟨c1, c2, c3⟩ := hJ'
  refine ⟨hC, hlen, fun v => ?_, ?_⟩
  · rw [hE', List.mem_map]
    constructor
    · rintro ⟨e, he, rfl⟩
      obtain ⟨g1, g2, g, p, hg, hp, hx⟩ := hf e he
      obtain ⟨k1, k2, k3⟩ := b1 e he
      have eq : ∀ a, A a → g * dot a (f e) = p * dot a e := fun a ha => by
        have := hx.z (a := a) (fun l hl => a1 a ha l hl) (fun _ q => absurd q List.not_mem_nil)
        rw [dot_ad, dot_sm, dot_sm, Int.neg_mul] at this
        omega
      refine ⟨g1, fun a ha => ?_, g2, ?_⟩
      · have := eq a ha
        have h0 := Int.mul_nonneg (show 0 ≤ p by omega) (k1 a ha)
        refine Classical.byContradiction fun hn => ?_
        have := Int.mul_neg_of_pos_of_neg hg (show dot a (f e) < 0 by omega)
        omega
      · rw [hlen]
        refine k3.mono fun a ha => ⟨hAT a ha.1, ?_⟩
        have := eq a ha.1
        rw [ha.2, Int.mul_zero] at this
        exact (Int.mul_eq_zero.mp this).resolve_left (by omega)
    · rintro ⟨v1, v2, v3, v4⟩
      rw [hlen] at v4
      -- at most one edge is needed
      have one : ∃ F : List V3, (∀ e ∈ F, e ∈ E) ∧ Hl L F v ∧ (F = [] ∨ ∃ e, F = [e]) := by
        have hH := a4 v v2
        by_cases h2 : L.length = 2
        · refine ⟨E, fun _ q => q, hH, ?_⟩
          have := d (fun q => by rw [q] at h2; cases h2)
          match E, this with
          | [], _ => exact Or.inl rfl
          | [e], _ => exact Or.inr ⟨e, rfl⟩
          | _ :: _ :: _, q => exact absurd q (by simp; omega)
        · by_cases h1 : L.length = 1
          · rw [h1] at v4
            obtain ⟨y, ⟨hy, hyv⟩, hy0⟩ := v4
            obtain ⟨t1, t2⟩ := hinv.tl (hTA y hy)
            refine ⟨_, fun e q => (List.mem_filter.mp q).1, hH.tight t1 t2 hyv, le1 (b3.sublist List.filter_sublist) ?_⟩
            intro e he e' he' hne
            obtain ⟨m1, z1⟩ := List.mem_filter.mp he
            obtain ⟨m2, z2⟩ := List.mem_filter.mp he'
            have z1 := of_decide_eq_true z1
            have z2 := of_decide_eq_true z2
            have q := perp2 (a := y) (b := un (J 0)) (u := e) (v := e') z1 z2 (by rw [dot_un]; exact c3 e m1 0 (by omega)) (by rw [dot_un]; exact c3 e' m2 0 (by omega)) hne
            have := par_dot (h := gt L 0) hy0 q (t1 _ (gt_mem (by omega)))
            rw [dot_un] at this
            exact (c1 0 (by omega)).2 this
          · have h0 : L.length = 0 := by omega
            rw [h0] at v4
            obtain ⟨y, y', ⟨hy, hyv⟩, ⟨hy', hyv'⟩, hyy⟩ := v4
            obtain ⟨t1, t2⟩ := hinv.tl (hTA y hy)
            obtain ⟨t1', t2'⟩ := hinv.tl (hTA y' hy')
            refine ⟨_, fun e q => (List.mem_filter.mp (List.mem_filter.mp q).1).1, (hH.tight t1 t2 hyv).tight t1' (fun e q => t2' e (List.mem_filter.mp q).1) hyv', le1 ((b3.sublist List.filter_sublist).sublist List.filter_sublist) ?_⟩
            intro e he e' he' hne
            obtain ⟨m1, z1⟩ := List.mem_filter.mp he
            obtain ⟨m2, z2⟩ := List.mem_filter.mp he'
            exact hyy (perp2 (u := e) (v := e') (of_decide_eq_true (List.mem_filter.mp m1).2) (of_decide_eq_true (List.mem_filter.mp m2).2) (of_decide_eq_true z1) (of_decide_eq_true z2) hne)
      obtain ⟨F, hF, hHF, hF1⟩ := one
      rcases hF1 with rfl | ⟨e, rfl⟩
      · exact absurd (hC.zero hHF v3) (prim_ne v1)
      · have he := hF e (by simp)
        obtain ⟨g1, g2, g, p, hg, hp, hx⟩ := hf e he
        obtain ⟨k, q, hk, hq, hy⟩ := hHF.le
        refine ⟨e, he, ?_⟩
        have hsp : Hl L [] (ad (sm (p * k) v) (sm (-(q * g)) (f e))) := by
          refine Eq.mp (congrArg (Hl L []) ?_) (Hl.add (span_sm hy p) (span_sm hx (-q)))
          unfold ad sm
          refine v_ext ?_ ?_ ?_ <;> grind
        have hz := hC.zero hsp (pz_lin _ _ v3 g2)
        have e2 : sm (p * k) v = sm (q * g) (f e) := by
          have h1 := congrArg Prod.fst hz; have h2 := congrArg (fun v : V3 => v.2.1) hz; have h3 := congrArg (fun v : V3 => v.2.2) hz
          unfold ad sm at h1 h2 h3
          simp only at h1 h2 h3
          unfold sm
          refine v_ext ?_ ?_ ?_ <;> grind
        exact (prim_eq v1 g1 (Int.mul_pos hp hk) (Int.mul_nonneg hq (by omega)) e2).symm
  · rw [hE']
    refine List.Pairwise.map f (fun _ _ h => h) ?_
    refine b3.imp_of_mem ?_
    intro e e' he he' hne q
    obtain ⟨_, _, g, p, hg, hp, hx⟩ := hf e he
    obtain ⟨_, _, g', p', hg', hp', hx'⟩ := hf e' he'
    rw [q] at hx
    have hsp : Hl L [] (ad (sm (-(g' * p)) e) (sm (g * p') e')) := by
      refine Eq.mp (congrArg (Hl L []) ?_) (Hl.add (span_sm hx g') (span_sm hx' (-g)))
      unfold ad sm
      refine v_ext ?_ ?_ ?_ <;> grind
    have hz := IJ.zero hJ hl hsp (fun k hk => by
      have r1 := c3 e he k hk
      have r2 := c3 e' he' k hk
      have : ad (sm (-(g' * p)) e) (sm (g * p') e') = lin (-(g' * p)) (g * p') e e' := rfl
      rw [this, cmp_lin, r1, r2]; simp)
    have hlin : lin (-(g' * p)) (g * p') e e' = O3 := hz
    have h3 := xp_lin (-(g' * p)) (g * p') e e' e'
    rw [hlin, xp_0l, xp_self] at h3
    have h4 : lin (-(g' * p)) (g * p') (xp e e') O3 = sm (-(g' * p)) (xp e e') := by unfold lin sm; refine v_ext ?_ ?_ ?_ <;> simp
    rw [h4] at h3
    exact sm_ne (by have := Int.mul_pos hg' hp; omega) hne h3.symm
end SEM
