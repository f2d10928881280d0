/-! FACES: what the rows that are 0 at a place say of all -/
theorem bigN (x q : V3) : ∀ l : List V3, ∃ N : Int, 0 ≤ N ∧ ∀ a ∈ l, 0 < dot a x → 0 ≤ N * dot a x + dot a q ∧ 0 ≤ N * dot a x - dot a q
  | [] => ⟨0, by omega, fun _ h => absurd h List.not_mem_nil⟩
  | a :: l => by
    obtain ⟨N, h0, h⟩ := bigN x q l
    have hab : 0 ≤ abI (dot a q) := by unfold abI; omega
    have hle : -(abI (dot a q)) ≤ dot a q ∧ dot a q ≤ abI (dot a q) := by unfold abI; omega
    refine ⟨N + abI (dot a q), by omega, fun b hb hp => ?_⟩
    rw [Int.add_mul]
    rcases List.mem_cons.mp hb with rfl | hb
    · have h1 := Int.mul_nonneg h0 (show 0 ≤ dot b x by omega)
      have h2 := Int.mul_le_mul_of_nonneg_left (show 1 ≤ dot b x by omega) hab
      omega
    · have h1 := h b hb hp
      have h2 := Int.mul_nonneg hab (show 0 ≤ dot b x by omega)
      omega
theorem face {A : List V3} {S T : V3 → Prop} (hD : Du S T) (hS : ∀ x, S x ↔ Ce (fun v => v ∈ A) x) {x q y : V3} (hx : S x) (hq : ∀ a ∈ A, dot a x = 0 → dot a q = 0) (hy : T y) (h0 : dot y x = 0) : dot y q = 0 := by
  obtain ⟨N, hN, h⟩ := bigN x q A
  have hx' := (hS x).mp hx
  have k1 : S (ad (sm N x) q) := (hS _).mpr fun a ha => by
    rw [dot_ad, dot_sm]
    by_cases c : dot a x = 0
    · rw [c, hq a ha c]; simp
    · exact (h a ha (by have := hx' a ha; omega)).1
  have k2 : S (ad (sm N x) (neg3 q)) := (hS _).mpr fun a ha => by
    rw [dot_ad, dot_sm, dot_neg']
    by_cases c : dot a x = 0
    · rw [c, hq a ha c]; simp
    · have := (h a ha (by have := hx' a ha; omega)).2
      omega
  have r1 := hD.nn k1 hy
  have r2 := hD.nn k2 hy
  rw [dot_ad, dot_sm, h0] at r1 r2
  rw [dot_neg'] at r2
  simp at r1 r2
  omega
def sumL : List V3 → V3
  | [] => O3
  | g :: t => ad g (sumL t)
theorem sum_nn {y : V3} : ∀ {l : List V3}, (∀ g ∈ l, 0 ≤ dot y g) → 0 ≤ dot y (sumL l) ∧ (dot y (sumL l) = 0 → ∀ g ∈ l, dot y g = 0)
  | [], _ => ⟨by show 0 ≤ dot y O3; rw [dot_0]; omega, fun _ _ h => absurd h List.not_mem_nil⟩
  | g :: t, h => by
    obtain ⟨h1, h2⟩ := sum_nn (l := t) fun g' hg' => h g' (List.mem_cons_of_mem _ hg')
    have h3 := h g List.mem_cons_self
    show 0 ≤ dot y (ad g (sumL t)) ∧ (dot y (ad g (sumL t)) = 0 → _)
    rw [dot_ad]
    refine ⟨by omega, fun q g' hg' => ?_⟩
    rcases List.mem_cons.mp hg' with rfl | hg'
    · omega
    · exact h2 (by omega) g' hg'
theorem sum_z {y : V3} : ∀ {l : List V3}, (∀ g ∈ l, dot y g = 0) → dot y (sumL l) = 0
  | [], _ => dot_0 y
  | g :: t, h => by
    show dot y (ad g (sumL t)) = 0
    rw [dot_ad, h g List.mem_cons_self, sum_z fun g' hg' => h g' (List.mem_cons_of_mem _ hg')]
    rfl
theorem sum_in {S T : V3 → Prop} (hD : Du S T) {l : List V3} (h : ∀ g ∈ l, S g) : S (sumL l) := (hD.1 _).mpr fun y hy => by
  rw [dot_comm]
  exact (sum_nn fun g hg => hD.nn (h g hg) hy).1
theorem perp_all {y g : V3} (h : ∀ w, dot (xp g w) y = 0) : xp y g = O3 := by
  have := h (xp y g)
  refine dd_0 ?_
  rw [← this]
  unfold dot xp; grind
theorem rk2_of {P : V3 → Prop} {y y' : V3} (h : ∀ q, (∀ g, P g → dot g q = 0) → dot y q = 0 ∧ dot y' q = 0) (hx : xp y y' ≠ O3) : ∃ g g', P g ∧ P g' ∧ xp g g' ≠ O3 := by
  refine Classical.byContradiction fun hn => ?_
  have hpar : ∀ g g', P g → P g' → xp g g' = O3 := fun g g' h1 h2 => Classical.byContradiction fun q => hn ⟨g, g', h1, h2, q⟩
  by_cases c : ∃ g, P g ∧ g ≠ O3
  · obtain ⟨g, hg, g0⟩ := c
    have k := fun w => h (xp g w) fun g' hg' => par_dot g0 (hpar g g' hg hg') (dot_xp_l g w)
    have k1 := perp_all fun w => by rw [dot_comm]; exact (k w).1
    have k2 := perp_all fun w => by rw [dot_comm]; exact (k w).2
    exact hx (par_trans g0 (by rw [xp_anti, k1]; rfl) (by rw [xp_anti, k2]; rfl))
  · have z : ∀ g, P g → g = O3 := fun g hg => Classical.byContradiction fun q => c ⟨g, hg, q⟩
    have := (h y fun g hg => by rw [z g hg, dot_comm, dot_0]).1
    exact hx (by rw [dd_0 this]; exact xp_0l y')
theorem rk1_of {P : V3 → Prop} {y : V3} (h : ∀ q, (∀ g, P g → dot g q = 0) → dot y q = 0) (hx : y ≠ O3) : ∃ g, P g ∧ g ≠ O3 := by
  refine Classical.byContradiction fun hn => hx (dd_0 (h y fun g hg => ?_))
  have : g = O3 := Classical.byContradiction fun q => hn ⟨g, hg, q⟩
  rw [this, dot_comm, dot_0]
/-- the two lists that the reference keeps of one set -/
abbrev SC (C : List V3) : V3 → Prop := Ce (fun v => v ∈ C ++ [(1, 0, 0)])
abbrev TG (G : List V3) : V3 → Prop := Ce (fun v => v ∈ G)
def Pr (C G : List V3) : Prop := (∀ k ∈ C, k ≠ O3) ∧ (∀ g ∈ G, g ≠ O3) ∧ (∀ g ∈ G, SC C g) ∧ (∀ x y, SC C x → TG G y → 0 ≤ dot y x) ∧ ∃ g, g ∈ G ∧ 0 < g.1
section PR
variable {C G : List V3}
theorem Pr.cT (h : Pr C G) {k : V3} (hk : k ∈ C ++ [(1, 0, 0)]) : TG G k := fun g hg => by rw [dot_comm]; exact h.2.2.1 g hg k hk
theorem Pr.du (h : Pr C G) : Du (SC C) (TG G) := by
  refine ⟨fun x => ⟨fun hx y hy => by rw [dot_comm]; exact h.2.2.2.1 x y hx hy, fun hx a ha => by rw [dot_comm]; exact hx a (h.cT ha)⟩, fun y => ⟨fun hy x hx => h.2.2.2.1 x y hx hy, fun hy g hg => by rw [dot_comm]; exact hy g (h.2.2.1 g hg)⟩⟩
theorem flat_iff {k : V3} : flatB G k = true ↔ ∀ g ∈ G, dot k g = 0 := by
  unfold flatB
  rw [List.all_eq_true]
  exact ⟨fun h g hg => of_decide_eq_true (h g hg), fun h g hg => decide_eq_true (h g hg)⟩
theorem flat_ln {k : V3} : flatB G k = true ↔ Ln (TG G) k := by
  rw [flat_iff]
  constructor
  · intro h
    exact ⟨fun g hg => by rw [dot_comm, h g hg]; omega, fun g hg => by rw [dot_neg', dot_comm, h g hg]; omega⟩
  · intro h g hg
    have h1 := h.1 g hg
    have h2 := h.2 g hg
    rw [dot_neg'] at h2
    rw [dot_comm]; omega
theorem Pr.e0 (h : Pr C G) : TG G (1, 0, 0) := h.cT (by simp)
theorem Pr.w (_h : Pr C G) {x : V3} (hx : SC C x) : 0 ≤ x.1 := by
  have := hx (1, 0, 0) (by simp)
  rw [dot_e0] at this
  exact this
/-- what is 0 on the flat rows is 0 on all that the set's flat rows could be -/
theorem Pr.flats (h : Pr C G) {z y : V3} (hz : ∀ k ∈ C, flatB G k = true → dot k z = 0) (hy : Ln (TG G) y) : dot y z = 0 := by
  have hs := sum_in h.du h.2.2.1
  refine face (A := C ++ [(1, 0, 0)]) h.du (fun _ => Iff.rfl) hs (fun a ha h0 => ?_) hy.1 ?_
  · have fl : ∀ g ∈ G, dot a g = 0 := (sum_nn fun g hg => h.2.2.1 g hg a ha).2 h0
    rcases List.mem_append.mp ha with q | q
    · exact hz a q (flat_iff.mpr fl)
    · obtain ⟨g, hg, g0⟩ := h.2.2.2.2
      have := fl g hg
      rw [List.mem_singleton.mp q, dot_e0] at this
      omega
  · have := (flat_ln.mpr hy)
    exact sum_z (flat_iff.mp this)
theorem fl2_some {j : Nat} : ∀ {n i dm : Nat}, ((∃ k, i ≤ k ∧ k < i + n ∧ flatB G (gt C k) = true ∧ xp (gt C j) (gt C k) ≠ O3) ∧ fl2 C G n i (some j) dm = 0) ∨ ((∀ k, i ≤ k → k < i + n → flatB G (gt C k) = true → xp (gt C j) (gt C k) = O3) ∧ fl2 C G n i (some j) dm = dm)
  | 0, i, dm => Or.inr ⟨fun k h1 h2 => by omega, rfl⟩
  | n + 1, i, dm => by
    unfold fl2
    by_cases c : flatB G (gt C i) = true
    · rw [if_pos c]
      show (_ ∧ fl2 C G n (i + 1) (some j) (if xp (gt C j) (gt C i) = O3 then dm else 0) = _) ∨ (_ ∧ fl2 C G n (i + 1) (some j) (if xp (gt C j) (gt C i) = O3 then dm else 0) = _)
      by_cases e : xp (gt C j) (gt C i) = O3
      · rw [if_pos e]
        rcases fl2_some (j := j) (n := n) (i := i + 1) (dm := dm) with ⟨⟨k, h1, h2, h3⟩, h4⟩ | ⟨h1, h2⟩
        · exact Or.inl ⟨⟨k, by omega, by omega, h3⟩, h4⟩
        · refine Or.inr ⟨fun k k1 k2 k3 => ?_, h2⟩
          by_cases q : k = i
          · rw [q]; exact e
          · exact h1 k (by omega) (by omega) k3
      · rw [if_neg e]
        refine Or.inl ⟨⟨i, by omega, by omega, c, e⟩, ?_⟩
        rcases fl2_some (j := j) (n := n) (i := i + 1) (dm := 0) with ⟨_, h4⟩ | ⟨_, h4⟩
        · exact h4
        · exact h4
    · rw [if_neg c]
      rcases fl2_some (j := j) (n := n) (i := i + 1) (dm := dm) with ⟨⟨k, h1, h2, h3⟩, h4⟩ | ⟨h1, h2⟩
      · exact Or.inl ⟨⟨k, by omega, by omega, h3⟩, h4⟩
      · refine Or.inr ⟨fun k k1 k2 k3 => ?_, h2⟩
        by_cases q : k = i
        · rw [q] at k3; exact absurd k3 c
        · exact h1 k (by omega) (by omega) k3
theorem fl2_none : ∀ {n i dm : Nat}, ((∀ k, i ≤ k → k < i + n → flatB G (gt C k) = false) ∧ fl2 C G n i none dm = dm) ∨ ∃ j, i ≤ j ∧ j < i + n ∧ flatB G (gt C j) = true ∧ (((∃ k, i ≤ k ∧ k < i + n ∧ flatB G (gt C k) = true ∧ xp (gt C j) (gt C k) ≠ O3) ∧ fl2 C G n i none dm = 0) ∨ ((∀ k, i ≤ k → k < i + n → flatB G (gt C k) = true → xp (gt C j) (gt C k) = O3) ∧ fl2 C G n i none dm = 1))
  | 0, i, dm => Or.inl ⟨fun k h1 h2 => by omega, rfl⟩
  | n + 1, i, dm => by
    unfold fl2
    by_cases c : flatB G (gt C i) = true
    · rw [if_pos c]
      refine Or.inr ⟨i, by omega, by omega, c, ?_⟩
      show (_ ∧ fl2 C G n (i + 1) (some i) 1 = _) ∨ (_ ∧ fl2 C G n (i + 1) (some i) 1 = _)
      rcases fl2_some (C := C) (G := G) (j := i) (n := n) (i := i + 1) (dm := 1) with ⟨⟨k, h1, h2, h3⟩, h4⟩ | ⟨h1, h2⟩
      · exact Or.inl ⟨⟨k, by omega, by omega, h3⟩, h4⟩
      · refine Or.inr ⟨fun k k1 k2 k3 => ?_, h2⟩
        by_cases q : k = i
        · rw [q]; exact xp_self _
        · exact h1 k (by omega) (by omega) k3
    · rw [if_neg c]
      rcases fl2_none (n := n) (i := i + 1) (dm := dm) with ⟨h1, h2⟩ | ⟨j, h1, h2, h3, h4⟩
      · refine Or.inl ⟨fun k hk hk' => ?_, h2⟩
        by_cases e : k = i
        · rw [e]; simpa using c
        · exact h1 k (by omega) (by omega)
      · refine Or.inr ⟨j, by omega, by omega, h3, ?_⟩
        rcases h4 with ⟨⟨k, h1, h2, h3⟩, h4⟩ | ⟨h1, h2⟩
        · exact Or.inl ⟨⟨k, by omega, by omega, h3⟩, h4⟩
        · refine Or.inr ⟨fun k k1 k2 k3 => ?_, h2⟩
          by_cases q : k = i
          · rw [q] at k3; exact absurd k3 c
          · exact h1 k (by omega) (by omega) k3
/-- how flat: 2, 1, 0 -/
theorem flaD_cases :
    (flaD C G = 2 ∧ ∀ k ∈ C, flatB G k = false) ∨ (flaD C G = 1 ∧ ∃ j, j ∈ C ∧ flatB G j = true ∧ ∀ k ∈ C, flatB G k = true → xp j k = O3) ∨ (flaD C G = 0 ∧ ∃ j k, j ∈ C ∧ k ∈ C ∧ flatB G j = true ∧ flatB G k = true ∧ xp j k ≠ O3) := by
  unfold flaD
  rcases fl2_none (C := C) (G := G) (n := C.length) (i := 0) (dm := 2) with ⟨h1, h2⟩ | ⟨j, h1, h2, h3, h4⟩
  · refine Or.inl ⟨h2, fun k hk => ?_⟩
    obtain ⟨i, hi, rfl⟩ := mem_gt hk
    exact h1 i (by omega) (by omega)
  · have hj := gt_mem (l := C) (i := j) (by omega)
    rcases h4 with ⟨⟨k, k1, k2, k3, k4⟩, h4⟩ | ⟨h1, h4⟩
    · exact Or.inr (Or.inr ⟨h4, _, _, hj, gt_mem (by omega), h3, k3, k4⟩)
    · refine Or.inr (Or.inl ⟨h4, _, hj, h3, fun k hk hf => ?_⟩)
      obtain ⟨i, hi, rfl⟩ := mem_gt hk
      exact h1 i (by omega) (by omega) hf
/-- the canonical rows of the flats, by how flat it is -/
theorem Pr.flat2 (h : Pr C G) (hf : ∀ k ∈ C, flatB G k = false) : Canon (Ln (TG G)) [] := fun x hx => by
  refine dd_0 (h.flats (z := x) (fun k hk q => ?_) hx)
  rw [hf k hk] at q; cases q
theorem rct_spec {c : V3} (h : gcd3 c = 1) (hn : ¬ (c.2.1 = 0 ∧ c.2.2 = 0)) : gcd3 (rctV c) = 1 ∧ rect (rctV c) ∧ (rctV c = c ∨ rctV c = neg3 c) := by
  unfold rctV
  split
  · rename_i q
    refine ⟨by rw [gcd3_neg]; exact h, ?_, Or.inr rfl⟩
    show 0 < -c.2.1 ∨ (-c.2.1 = 0 ∧ 0 < -c.2.2)
    omega
  · refine ⟨h, ?_, Or.inl rfl⟩
    show 0 < c.2.1 ∨ (c.2.1 = 0 ∧ 0 < c.2.2)
    omega
theorem neg_par {u v : V3} : xp (neg3 u) v = O3 ↔ xp u v = O3 := by
  rw [neg_sm, xp_sm]
  exact ⟨fun h => Classical.byContradiction fun q => sm_ne (by omega) q h, fun h => by rw [h, sm_O]⟩
theorem prm_par' {u x : V3} (hu : u ≠ O3) : xp (prm u) x = O3 ↔ xp u x = O3 := by
  obtain ⟨g, hg, e, _⟩ := prm_spec hu
  constructor
  · intro h; rw [← e, xp_sm, h, sm_O]
  · intro h
    rw [← e, xp_sm] at h
    exact Classical.byContradiction fun q => sm_ne (by omega) q h
theorem Pr.flat1 (h : Pr C G) {j : V3} (hj : j ∈ C) (hf : flatB G j = true) (hp : ∀ k ∈ C, flatB G k = true → xp j k = O3) : Canon (Ln (TG G)) [rctV (prm j)] ∧ ∀ k ∈ C, flatB G k = true → rctV (prm k) = rctV (prm j) := by
  have j0 := h.1 j hj
  have np : ∀ k, k ∈ C → flatB G k = true → ¬ ((prm k).2.1 = 0 ∧ (prm k).2.2 = 0) := fun k hk hf q => by
    obtain ⟨g, hg, e, h1⟩ := prm_spec (h.1 k hk)
    obtain ⟨p, hp, p0⟩ := h.2.2.2.2
    have := flat_iff.mp hf p hp
    rw [← e, dot_comm, dot_sm] at this
    unfold dot at this
    rw [q.1, q.2, Int.mul_zero, Int.mul_zero, Int.add_zero, Int.add_zero] at this
    have t := (Int.mul_eq_zero.mp ((Int.mul_eq_zero.mp this).resolve_left (by omega))).resolve_left (by omega)
    exact prim_ne h1 (v_ext t q.1 q.2)
  have sp := fun k (hk : k ∈ C) hf => rct_spec (prm_spec (h.1 k hk)).choose_spec.2.2 (np k hk hf)
  have par : ∀ k, k ∈ C → flatB G k = true → ∀ x, xp (rctV (prm k)) x = O3 ↔ xp k x = O3 := fun k hk hf x => by
    rcases (sp k hk hf).2.2 with e | e
    · rw [e, prm_par' (h.1 k hk)]
    · rw [e, neg_par, prm_par' (h.1 k hk)]
  refine ⟨⟨(sp j hj hf).1, (sp j hj hf).2.1, fun x => ?_⟩, fun k hk hf' => ?_⟩
  · rw [par j hj hf]
    constructor
    · intro hx
      have : xp x j = O3 := perp_all fun w => by
        rw [dot_comm]
        exact h.flats (fun k hk hf' => par_dot j0 (hp k hk hf') (dot_xp_l j w)) hx
      rw [xp_anti, this]; rfl
    · intro hx
      refine flat_ln.mp (flat_iff.mpr fun g hg => ?_)
      exact par_dot j0 hx (flat_iff.mp hf g hg)
  · refine rect_uni (sp k hk hf').1 (sp j hj hf).1 (sp k hk hf').2.1 (sp j hj hf).2.1 ?_
    rw [par k hk hf', xp_anti]
    rw [(par j hj hf k).mpr (hp k hk hf')]; rfl
end PR
