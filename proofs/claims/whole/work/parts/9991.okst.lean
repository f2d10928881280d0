/-! THE REFERENCE SETTLES WITHIN 64 BITS -/
section OKST
variable {C G : List V3}
/-- a line of the set is along one of its generators -/
theorem Pr.line_g (h : Pr C G) {u : V3} (hS : Canon (Ln (SC C)) [u]) : ∃ g, g ∈ G ∧ xp u g = O3 := by
  obtain ⟨c1, c2, c3⟩ := hS
  refine Classical.byContradiction fun hn => prim_ne c1 (dd_0 ?_)
  have uL : Ln (SC C) u := (c3 u).mpr (xp_self u)
  refine face (A := G) h.du.symm (fun _ => Iff.rfl) (x := sumL (C ++ [(1, 0, 0)])) (sum_in h.du.symm fun k hk => h.cT hk) (fun g hg h0 => ?_) uL.1 (sum_z fun k hk => by rw [dot_comm]; exact h.du.ln uL (h.cT hk))
  have z := (sum_nn (y := g) (l := C ++ [(1, 0, 0)]) fun k hk => by rw [dot_comm]; exact h.2.2.1 g hg k hk).2 h0
  have gL : Ln (SC C) g := ⟨h.2.2.1 g hg, fun k hk => by rw [dot_neg', dot_comm, z k hk]; omega⟩
  exact absurd ⟨g, hg, (c3 g).mp gL⟩ hn
theorem eqF_mem0 {v : V3} : ∀ {C : List V3} {M : Nat → List V3}, v ∈ eqF G C M 0 → v ∈ M 0 ∨ ∃ k, k ∈ C ∧ flatB G k = true ∧ v = prm (rctV (prm k))
  | [], _, h => Or.inl h
  | k :: t, M, h => by
    unfold eqF at h
    rcases eqF_mem0 h with q | ⟨k', q1, q2⟩
    · by_cases c : flatB G k = true
      · rw [if_pos c, mkM_k] at q
        rcases kp_mem_z.mp q with q | q
        · exact Or.inl q
        · exact Or.inr ⟨k, List.mem_cons_self, c, q⟩
      · rw [if_neg c] at q
        exact Or.inl q
    · exact Or.inr ⟨k', List.mem_cons_of_mem _ q1, q2⟩
theorem gt_bd {B : Int} {l : List V3} (hB : 0 ≤ B) (h : ∀ v ∈ l, bdV B v) (i : Nat) : bdV B (gt l i) := by
  by_cases c : i < l.length
  · exact h _ (gt_mem c)
  · rw [gt_O c]
    exact ⟨⟨by show -B ≤ 0; omega, hB⟩, ⟨by show -B ≤ 0; omega, hB⟩, ⟨by show -B ≤ 0; omega, hB⟩⟩
theorem mlF2_bd {M : Nat → List V3} {dm : Nat} (h2 : M 2 = []) (hv : bdV B1 (mlV M dm)) : ∀ v ∈ mlF M dm 2, bdV B1 v := fun v h => by
  unfold mlF at h
  split at h
  · rw [mkM_k, mkM_k, h2, kp_nil, kp_mem_z, List.mem_singleton] at h
    have z : bdI B1 0 := ⟨by decide, by decide⟩
    have o : bdI B1 1 := ⟨by decide, by decide⟩
    rcases h with rfl | rfl
    · exact prm_bd (prm_bd ⟨z, o, z⟩)
    · exact prm_bd (prm_bd ⟨z, z, o⟩)
  · split at h
    · rw [h2] at h; exact absurd h List.not_mem_nil
    · have hv : bdV B1 (gt (M (if dm = 1 then 0 else 1)) 0) := hv
      generalize gt (M (if dm = 1 then 0 else 1)) 0 = w at h hv
      split at h
      · rw [mkM_k, h2, kp_nil, List.mem_singleton] at h
        rw [h]
        exact prm_bd (rct_bd (prm_bd (perp_bd hv)))
      · rw [h2] at h; exact absurd h List.not_mem_nil
theorem okSt_gen (h : Pr C G) (hG : G.length < 900) (hk : ∀ k ∈ C, bdV B3 k) (hf : ∀ k ∈ C, flatB G k = true → bdV B1 k) (h2 : flaD C G = 2 → ∀ k ∈ C, bdV B1 k) (hg : ∀ g ∈ G, bdV B1 g)
    (hc : ∀ u, Canon (Ln (SC C)) [u] → ∀ g ∈ G, bdV B1 (cleV u (prm g))) : okSt C G nil5 := by
  have heq : ∀ v ∈ eqF G C nil5 0, bdV B1 v := fun v hv => by
    rcases eqF_mem0 hv with q | ⟨k, k1, k2, rfl⟩
    · exact absurd q List.not_mem_nil
    · exact prm_bd (rct_bd (prm_bd (hf k k1 k2)))
  have hu0 := gt_bd (by decide) heq 0
  have hq : flaD C G ≠ 0 → ∀ q ∈ st2 C G nil5 (flaD C G) 1, bdV B1 q := fun hne q hq => by
    rcases h.dims with ⟨e, _⟩ | ⟨_, k1, c1, c2, c3, c4⟩
    · exact absurd e hne
    · rcases iqF_mem.mp hq with z | ⟨k, m1, m2, m3, _, rfl⟩
      · rw [eqF_o (by omega)] at z; exact absurd z List.not_mem_nil
      · obtain ⟨a1, a2, g, α, hg', hα, a3⟩ := h.ai c4 c1 c2 (h.1 k m1) m2
        rw [prm_id a1]
        match k1, c1, c2, c3, c4, a2, a3 with
        | [], c1, c2, c3, c4, a2, a3 =>
          unfold aiV
          rw [if_pos c4]
          exact prm_bd (h2 c3 k m1)
        | [l], c1, c2, c3, c4, a2, a3 =>
          obtain ⟨⟨p, hp, z, _⟩, _⟩ := (cutB_iff h.2.1).mp m3
          have lp : dot l p = 0 := by rw [dot_comm]; exact h.du.symm.ln (canon_mem c1 l (by simp)) (h.2.2.1 p hp)
          have t := a3 p (fun l' hl' => by rw [List.mem_singleton.mp hl']; exact lp)
          rw [z, Int.mul_zero] at t
          have t := z_of hg' t
          refine prim_bd a1 (a := p) (by rw [dot_comm]; exact t) (b := un (pvt l)) (by rw [dot_un]; exact pz_cmp.mp a2) (fun q => ?_) (bd_un (hg p hp) (by decide) _)
          have := par_dot (h.2.1 p hp) q (by rw [dot_comm]; exact lp)
          rw [dot_un] at this
          have := pvt_pos c1.2.1
          omega
  have hml : flaD C G ≠ 0 → bdV B1 (mlV (st2 C G nil5 (flaD C G)) (flaD C G)) := fun hne => by
    unfold mlV
    split
    · refine gt_bd (by decide) (fun v hv => heq v ?_) 0
      have e : st2 C G nil5 (flaD C G) 0 = eqF G C nil5 0 := iqF_o (by omega)
      rw [e] at hv
      exact hv
    · exact gt_bd (by decide) (hq hne) 0
  have hk' : flaD C G = 2 → ∀ k ∈ C ++ [((1, 0, 0) : V3)], bdV B1 k := fun e k hk => by
    rcases List.mem_append.mp hk with q | q
    · exact h2 e k q
    · rw [List.mem_singleton.mp q]; exact e0_bd (by decide)
  obtain ⟨p, hp, p0⟩ := h.2.2.2.2
  refine ⟨fun k m g n => bdI_inL (bdd3 (hk k m) (hg g n)) (by decide), fun k m k' n f f' => bdV_inV (bd_xp_z (hf k m f) (hf k' n f')) (by decide), fun g m g' n => bdV_inV (bd_xp_z (hg g m) (hg g' n)) (by decide), fun k m => bdV_inV (hk k m) (by decide), fun g m => bdV_inV (hg g m) (by decide),
    fun e k m k' n => bdV_inV (bd_xp_z (hk' e k m) (hk' e k' n)) (by decide), ⟨p, hp, by omega⟩, fun e => ?_, fun _ _ k m => bdV_inV (bdl2 (bdV_cmp hu0 _) (bdI_neg (bdV_cmp (prm_bd (hk k m)) _)) (prm_bd (hk k m)) hu0) (by decide), fun e q m => bdI_inL (bdd3 (hq e q m) (perp_bd (hml e))) (by decide), fun e hl1 => ?_⟩
  · rcases h.dims with ⟨q, _⟩ | ⟨_, k1, c1, c2, c3, c4⟩
    · omega
    · rw [c4]
      intro z
      rw [z, e] at c3
      simp at c3
  · rcases h.dims with ⟨q, _⟩ | ⟨_, k1, c1, c2, c3, c4⟩
    · exact absurd q e
    · obtain ⟨_, _, _, a2, a3, a4, _⟩ := h.thr hG c1 c2 c3 c4
      have e2 : st2 C G nil5 (flaD C G) 2 = [] := by
        show iqF G (flaD C G) C (eqF G C nil5) 2 = []
        rw [iqF_o (by omega), eqF_o (by omega)]; rfl
      have hub := mlF2_bd e2 (hml e)
      have hub : ∀ v ∈ st3 C G nil5 (flaD C G) 2, bdV B1 v := hub
      generalize st3 C G nil5 (flaD C G) = N at *
      match hN : N 2, a2, hl1 with
      | [u], a2, _ =>
        have ub := hub u (by rw [hN]; simp)
        show okA G N u
        obtain ⟨_, _, _, _, _, b6, b7⟩ := h.acr a2 a3 a4
        refine ⟨fun g m => bdV_inV (bdl2 (bdV_cmp ub _) (bdI_neg (bdV_cmp (prm_bd (hg g m)) _)) (prm_bd (hg g m)) ub) (by decide), fun c m c' n => ?_, b6, b7⟩
        obtain ⟨g, m1, rfl⟩ := List.mem_map.mp m
        obtain ⟨g', n1, rfl⟩ := List.mem_map.mp n
        exact bdI_inL (bd_mul_z (bdV_cmp (hc u a2 g m1) _) (hc u a2 g' n1).1) (by decide)
/-! what is made is within 64 bits -/
theorem eqF_ok : ∀ {C : List V3} {M : Nat → List V3}, Mok M → (∀ k ∈ C, inV k) → Mok (eqF G C M)
  | [], _, h, _ => h
  | k :: t, M, h, hk => by
    unfold eqF
    refine eqF_ok ?_ fun k' q => hk k' (List.mem_cons_of_mem _ q)
    split
    · exact h.mk (inV_rct (prm_inV (hk k List.mem_cons_self)))
    · exact h
theorem iqF_ok {dm : Nat} : ∀ {C : List V3} {M : Nat → List V3}, Mok M → (∀ k ∈ C, inV k) → (M 0 ≠ [] → ∀ k ∈ C, inV (lin (cmp3 (gt (M 0) 0) (pvt (gt (M 0) 0))) (-(cmp3 (prm k) (pvt (gt (M 0) 0)))) (prm k) (gt (M 0) 0))) → Mok (iqF G dm C M)
  | [], _, h, _, _ => h
  | k :: t, M, h, hk, hl => by
    unfold iqF
    have hv : inV (aiV M k) := by
      unfold aiV
      split
      · exact prm_inV (hk k List.mem_cons_self)
      · rename_i c
        exact prm_inV (hl c k List.mem_cons_self)
    have h1 : Mok (if flatB G k = false ∧ cutB G k dm = true then aiF M k else M) := by
      split
      · unfold aiF
        split
        · exact h
        · exact h.mk hv
      · exact h
    have h2 : (if flatB G k = false ∧ cutB G k dm = true then aiF M k else M) 0 = M 0 := by
      split
      · exact aiF_o (by omega)
      · rfl
    refine iqF_ok h1 (fun k' q => hk k' (List.mem_cons_of_mem _ q)) ?_
    rw [h2]
    exact fun c k' q => hl c k' (List.mem_cons_of_mem _ q)
theorem enF_ok {dm : Nat} : ∀ {t : List V3} {M : Nat → List V3}, Mok M → (∀ g ∈ t, inV g) → Mok (enF C G dm t M)
  | [], _, h, _ => h
  | g :: t, M, h, hg => by
    unfold enF
    refine enF_ok ?_ fun k' q => hg k' (List.mem_cons_of_mem _ q)
    split
    · exact h.mk (prm_inV (hg g List.mem_cons_self))
    · exact h
theorem ac2_ok {Gc : List V3} {z : Nat} (hG : ∀ j, inV (gt Gc j)) : ∀ {n i : Nat} {s : AcS}, Mok s.2.2.2.2 → Mok (ac2 Gc z n i s).2.2.2.2
  | 0, _, _, h => h
  | n + 1, i, s, h => by
    unfold ac2
    refine ac2_ok hG ?_
    unfold acS
    split
    · show Mok (if cmp3 (gt Gc i) z = 0 then s.2.2.2.2 else mkM s.2.2.2.2 3 (gt Gc i))
      split
      · exact h
      · exact h.mk (hG i)
    · exact h
theorem acrF_ok {M : Nat → List V3} {u : V3} (h : Mok M) (hG : ∀ g ∈ G, inV (lin (cmp3 u (pvt u)) (-(cmp3 (prm g) (pvt u))) (prm g) u)) : Mok (acrF M u G) := by
  have hGc : ∀ j, inV (gt (G.map fun g => cleV u (prm g)) j) := fun j => by
    by_cases c : j < (G.map fun g => cleV u (prm g)).length
    · obtain ⟨g, m, e⟩ := List.mem_map.mp (gt_mem c)
      rw [← e]
      exact prm_inV (hG g m)
    · rw [gt_O c]; exact ⟨inL_0, inL_0, inL_0⟩
  have h1 : Mok (acR M u G).2.2.2.2 := ac2_ok hGc h
  unfold acrF acE acM
  split
  · split
    · exact h1
    · exact h1.mk (prm_inV (hGc _))
  · split
    · exact h1.mk (prm_inV (hGc _))
    · exact (h1.mk (prm_inV (hGc _))).mk (prm_inV (hGc _))
theorem stF_ok (h : Pr C G) (hok : okSt C G nil5) : Mok (stF C G nil5) := by
  obtain ⟨hd, hx, hgx, hki, hgi, hce, hpt, h01, hcl, hml, hac⟩ := hok
  have h0 : Mok nil5 := fun k _ f hf => absurd hf List.not_mem_nil
  unfold stF
  by_cases z : flaD C G = 0
  · rw [if_pos z]
    obtain ⟨m, _⟩ := fpt_spec h.2.2.2.2 (fun g hg => h.w (h.2.2.1 g hg))
    have i := hgi _ m
    unfold mptF
    exact ((h0.mk (prm_inV i)).mk (prm_inV ⟨i.2.1.neg, i.1, inL_0⟩)).mk (prm_inV ⟨i.2.2.neg, inL_0, i.1⟩)
  · rw [if_neg z]
    have h1 := eqF_ok (G := G) h0 hki
    have h2 : Mok (st2 C G nil5 (flaD C G)) := iqF_ok h1 hki (hcl z)
    have h3 : Mok (st3 C G nil5 (flaD C G)) := by
      rcases h.dims with ⟨q, _⟩ | ⟨q, _⟩
      · exact absurd q z
      · refine mlF_ok h2 q fun e => ?_
        have : st2 C G nil5 (flaD C G) 0 = eqF G C nil5 0 := iqF_o (by omega)
        rw [this]
        exact h01 e
    have hac := hac z
    generalize st3 C G nil5 (flaD C G) = N at *
    unfold stE
    split
    · exact h3.mk (prm_inV ⟨inL_1, inL_0, inL_0⟩)
    · split
      · rename_i q
        exact acrF_ok h3 (hac q).1
      · exact enF_ok h3 hgi
theorem okM_nil : okM nil5 := ⟨fun k _ f hf => absurd hf List.not_mem_nil, by decide, by decide⟩
theorem okM_of (h : Pr C G) (hG : G.length < 900) (hok : okSt C G nil5) : okM (stF C G nil5) := by
  obtain ⟨r, _⟩ := h.settle hG rfl
  have a := r.1.len
  have b := r.2.2.2.1.len
  exact ⟨stF_ok h hok, by omega, by omega⟩
/-- constraints -/
theorem okC2_of (h0 : ∀ k ∈ C, k ≠ O3) (hb : ∀ k ∈ C, bdV 2700 k) (hl : C.length ≤ 200) : okC2 C := by
  have hne : C ++ [((1, 0, 0) : V3)] ≠ [] := by simp
  have hn : ∀ v ∈ C ++ [((1, 0, 0) : V3)], v ≠ O3 := fun v hv => by
    rcases List.mem_append.mp hv with q | q
    · exact h0 v q
    · rw [List.mem_singleton.mp q]; simp
  have hbb : ∀ v ∈ C ++ [((1, 0, 0) : V3)], bdV 2700 v := fun v hv => by
    rcases List.mem_append.mp hv with q | q
    · exact hb v q
    · rw [List.mem_singleton.mp q]; exact e0_bd (by omega)
  have hll : (C ++ [((1, 0, 0) : V3)]).length = C.length + 1 := by simp
  have dl := dual_len hne hn (by omega)
  have key : hpB (dualF (C ++ [(1, 0, 0)])) = true → okSt C (dualF (C ++ [(1, 0, 0)])) nil5 := fun hp => by
    have h := Pr.ofC h0 hp
    have hgd : ∀ d ∈ dualF (C ++ [(1, 0, 0)]), gcd3 d = 1 := fun d hd => (dual_in hne hn hd).2
    have hg : ∀ d ∈ dualF (C ++ [(1, 0, 0)]), bdV B1 d := fun d hd => by
      rcases dual_bd hne hn hbb with ⟨q, _⟩ | ⟨c, u, v, _, _, _, c1, _, _, _, c5, q⟩
      · exact bdV_mono (by decide) (q d hd)
      · have c5 := c5 (by simp)
        rcases q d hd with q | ⟨w, hw, z1, z2, hx⟩
        · exact bdV_mono (by decide) (par_bd (hgd d hd) (prim_ne c1) q c5)
        · exact prim_bd (hgd d hd) z2 z1 hx (bdV_mono (by decide) (bd_xp_z c5 (hbb w hw)))
    have b13 : ∀ k ∈ C, bdV B1 k := fun k m => bdV_mono (by decide) (hb k m)
    refine okSt_gen h (by omega) (fun k m => bdV_mono (by decide) (hb k m)) (fun k m _ => b13 k m) (fun _ => b13) hg fun u hu g m => ?_
    have hu' := hu
    obtain ⟨u1, u2, u3⟩ := hu'
    have u0 := prim_ne u1
    have ul : ∀ a ∈ C ++ [((1, 0, 0) : V3)], dot a u = 0 := fun a ha => h.du.ln (canon_mem hu u (by simp)) (h.cT ha)
    have zO : bdV B1 (O3 : V3) := ⟨⟨by decide, by decide⟩, ⟨by decide, by decide⟩, ⟨by decide, by decide⟩⟩
    have gg := prm_id (hgd g m)
    rw [gg]
    rcases dual_bd hne hn hbb with ⟨_, ⟨a, b, c, ha, hb', hc, hd⟩ | q⟩ | ⟨c, x, y, hx, hy, hxy, c1, cz, _, _, c5, q⟩
    · exact absurd (d3_perp hd (ul a ha) (ul b hb') (ul c hc)) u0
    · obtain ⟨g', m', p'⟩ := h.line_g hu
      have ub := par_bd u1 (h.2.1 g' m') p' (q g' m')
      exact prm_bd (bdV_mono (by decide) (bdl2 (bdV_cmp ub _) (bdI_neg (bdV_cmp (q g m) _)) (q g m) ub))
    · by_cases hp0 : xp u g = O3
      · rw [cle_O u0 hp0]; exact zO
      · rcases q g m with q | ⟨w, hw, z1, z2, hxw⟩
        · exfalso
          refine hp0 ?_
          have e1 : xp u c = O3 := perp2 (by rw [dot_comm]; exact ul x hx) (by rw [dot_comm]; exact ul y hy) (cz x hx) (cz y hy) hxy
          exact par_trans (prim_ne c1) (by rw [xp_anti, e1]; rfl) (by rw [xp_anti, q]; rfl)
        · obtain ⟨g', α, β, hg', hα, e2, h2, h3⟩ := cle_spec u2 hp0
          have zw : dot w (cleV u g) = 0 := by
            have t := congrArg (dot w) e2
            rw [dot_sm, dot_lin, z1, ul w hw, Int.mul_zero, Int.mul_zero, Int.add_zero] at t
            exact z_of hg' t
          refine prim_bd h2 zw (b := un (pvt u)) (by rw [dot_un]; exact h3) (fun q => ?_) (bdV_mono (by decide) (bd_un (hbb w hw) (by omega) _))
          have := par_dot (hn w hw) q (ul w hw)
          rw [dot_un] at this
          have := pvt_pos u2
          omega
  refine ⟨hb, by omega, by omega, key, ?_⟩
  unfold ofC
  split
  · rename_i hp
    exact okM_of (Pr.ofC h0 hp) (by omega) (key hp)
  · exact okM_nil
/-- generators -/
theorem okG2_of (h0 : ∀ g ∈ G, g ≠ O3) (hw : ∀ g ∈ G, 0 ≤ g.1) (hb : ∀ g ∈ G, bdV 2700 g) (hl : G.length ≤ 200) : okG2 G := by
  have key : hpB G = true → (dualF G).length ≤ 598 ∧ okSt (dualF G) G nil5 := fun hp => by
    have h := Pr.ofG h0 hw hp
    have hne : G ≠ [] := fun q => by rw [q] at hp; cases hp
    have dl := dual_len hne h0 (by omega)
    have hgd : ∀ d ∈ dualF G, gcd3 d = 1 := fun d hd => (dual_in hne h0 hd).2
    refine ⟨by omega, ?_⟩
    have hg : ∀ g ∈ G, bdV B1 g := fun g m => bdV_mono (by decide) (hb g m)
    have hc : ∀ u, Canon (Ln (SC (dualF G))) [u] → ∀ g ∈ G, bdV B1 (cleV u (prm g)) := fun u hu g m => by
      obtain ⟨g', m', p'⟩ := h.line_g hu
      have ub := par_bd hu.1 (h.2.1 g' m') p' (hb g' m')
      have gb := prm_bd (hb g m)
      exact prm_bd (bdV_mono (by decide) (bdl2 (bdV_cmp ub _) (bdI_neg (bdV_cmp gb _)) gb ub))
    rcases dual_bd hne h0 hb with ⟨q, _⟩ | ⟨c, x, y, hx, hy, hxy, c1, cz, cm, c4, _, q⟩
    · have b1 : ∀ k ∈ dualF G, bdV B1 k := fun k m => bdV_mono (by decide) (q k m)
      exact okSt_gen h (by omega) (fun k m => bdV_mono (by decide) (q k m)) (fun k m _ => b1 k m) (fun _ => b1) hg hc
    · refine okSt_gen h (by omega) (fun k m => ?_) (fun k m f => ?_) (fun e => ?_) hg hc
      · rcases q k m with q | ⟨w, hw', z1, z2, hx'⟩
        · exact bdV_mono (by decide) (par_bd (hgd k m) (prim_ne c1) q c4)
        · exact prim_bd (hgd k m) z2 z1 hx' (bdV_mono (by decide) (bd_xp_z c4 (hb w hw')))
      · have f := flat_iff.mp f
        exact bdV_mono (by decide) (par_bd (hgd k m) (prim_ne c1) (perp2 (f x hx) (f y hy) (cz x hx) (cz y hy) hxy) c4)
      · exfalso
        rcases flaD_cases (C := dualF G) (G := G) with ⟨_, q⟩ | ⟨q, _⟩ | ⟨q, _⟩
        · have := q c cm
          rw [flat_iff.mpr cz] at this
          cases this
        · omega
        · omega
  refine ⟨hb, by omega, key, ?_⟩
  unfold ofG
  split
  · rename_i hp
    exact okM_of (Pr.ofG h0 hw hp) (by omega) (key hp).2
  · exact okM_nil
end OKST
