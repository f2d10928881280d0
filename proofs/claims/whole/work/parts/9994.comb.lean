/-! COMBINE: the class beside the reference -/
theorem cbc_nil {t : Nat → List V3} (h : Rok t) : cbc ([], []) (shO t) = ([], []) := by
  unfold cbc
  split <;> exact cutA_nil _
theorem ag_empF {W : AW} {a : RSt} (h : LK W a) {t : Nat} (ht : t < 4) : AgF LK (.inr emp) (0, -1, (drT a.1 t, a.2)) W a t W.2.1 3 := by
  have hn : W.2.1 = a.2.2.1 := h.1.2.1
  have := ag_emp h (n := a.2.2.1) (T' := drT a.1 t) ht h.1.1.2.2 (fun s k _ _ => rfl) 3
  rw [hn]
  exact this
theorem rCmb_s {i j t : Nat} (hi : i < 4) (hj : j < 4) (ht : t < 4) : ¬ (slotB (nI i) = false ∨ slotB (nI j) = false ∨ slotB (nI t) = false) := by
  rw [slot_i hi, slot_i hj, slot_i ht]; simp
theorem rCmb_0 (a : RSt) {i j t : Nat} (hi : i < 4) (hj : j < 4) (ht : t < 4) : rCmb a (nI 0) (nI i) (nI j) (nI t) = if a.1 i 4 = [] ∨ a.1 j 4 = [] then (0, -1, (drT a.1 t, a.2)) else rFin a t (ofC (cnL (cnL [] a.1 i) a.1 j)) 3 false := by
  unfold rCmb
  rw [if_neg (rCmb_s hi hj ht), if_neg (by decide), nI_clamp (by omega), nI_clamp (by omega), nI_clamp (by omega)]
  by_cases c : a.1 i 4 = [] ∨ a.1 j 4 = []
  · rw [if_pos ⟨by decide, c⟩, if_pos c]
  · rw [if_neg (fun q => c q.2), if_neg c, if_pos (by decide)]
theorem rCmb_1 (a : RSt) {i j t : Nat} (hi : i < 4) (hj : j < 4) (ht : t < 4) : rCmb a (nI 1) (nI i) (nI j) (nI t) = rFin a t (ofG (agL (agL [] (gnL a.1 i)) (gnL a.1 j))) 3 false := by
  unfold rCmb
  rw [if_neg (rCmb_s hi hj ht), if_neg (by decide), nI_clamp (by omega), nI_clamp (by omega), nI_clamp (by omega), if_neg (fun q => q.1 (by decide)), if_neg (by decide), if_neg (by decide)]
theorem rCmb_2 (a : RSt) {i j t : Nat} (hi : i < 4) (hj : j < 4) (ht : t < 4) : rCmb a (nI 2) (nI i) (nI j) (nI t) = if a.1 i 4 = [] ∨ a.1 j 4 = [] then (0, -1, (drT a.1 t, a.2)) else rFin a t (ofG (agL [] (tsL a.1 i j))) 3 false := by
  unfold rCmb
  rw [if_neg (rCmb_s hi hj ht), if_neg (by decide), nI_clamp (by omega), nI_clamp (by omega), nI_clamp (by omega)]
  by_cases c : a.1 i 4 = [] ∨ a.1 j 4 = []
  · rw [if_pos ⟨by decide, c⟩, if_pos c]
  · rw [if_neg (fun q => c q.2), if_neg c, if_neg (by decide), if_pos (by decide)]
section CMB
variable {W : AW} {a : RSt} {i j : Nat}
/-- what is in both -/
theorem cmb0 (h : LK W a) (hi : i < 4) (hj : j < 4) : okCmb (shO (a.1 i)) (shO (a.1 j)) 0 ∧ (a.1 i 4 ≠ [] → a.1 j 4 ≠ [] → okC2 (cnL (cnL [] a.1 i) a.1 j)) ∧ ∀ t, t < 4 → AgF LK (cmF (shO (a.1 i)) (shO (a.1 j)) 0) (rCmb a (nI 0) (nI i) (nI j) (nI t)) W a t W.2.1 3 := by
  have hR := (h.2.2.1 i hi).2
  have hR' := (h.2.2.1 j hj).2
  show (okR (if (shO (a.1 i)).2.2 = [] then ([], []) else pl0) (rowsC (a.1 i 0) (a.1 i 1)) ∧ okR (if (shO (a.1 j)).2.2 = [] then ([], []) else cbc pl0 (shO (a.1 i))) (rowsC (a.1 j 0) (a.1 j 1)) ∧ okFG (cbc (cbc pl0 (shO (a.1 i))) (shO (a.1 j)))) ∧ _ ∧ ∀ t, t < 4 → AgF LK (finG (cbc (cbc pl0 (shO (a.1 i))) (shO (a.1 j)))) _ W a t W.2.1 3
  have cb := cn_bd hR
  have cb' := cn_bd hR'
  have cl := cn_len hR
  have cl' := cn_len hR'
  have o1 : okR (if (shO (a.1 i)).2.2 = [] then ([], []) else pl0) (rowsC (a.1 i 0) (a.1 i 1)) := by
    split
    · exact okR_nil cb
    · exact okR_pl0 cb (by omega)
  by_cases h4 : a.1 i 4 = []
  · have e1 : cbc pl0 (shO (a.1 i)) = ([], []) := by rw [shO_emp hR h4]; rfl
    rw [e1, cbc_nil hR']
    refine ⟨⟨o1, ?_, okFG_nil⟩, fun q => absurd h4 q, fun t ht => ?_⟩
    · split <;> exact okR_nil cb'
    · rw [rCmb_0 a hi hj ht, if_pos (Or.inl h4), finG_nil]
      exact ag_empF h ht
  · by_cases h4' : a.1 j 4 = []
    · have e2 : cbc (cbc pl0 (shO (a.1 i))) (shO (a.1 j)) = ([], []) := by rw [shO_emp hR' h4']; rfl
      rw [e2]
      refine ⟨⟨o1, ?_, okFG_nil⟩, fun _ q => absurd h4' q, fun t ht => ?_⟩
      · rw [if_pos ((emp_iff hR').mpr h4')]; exact okR_nil cb'
      · rw [rCmb_0 a hi hj ht, if_pos (Or.inr h4'), finG_nil]
        exact ag_empF h ht
    · rw [if_neg (fun q => h4' ((emp_iff hR').mp q)), cbc_ne hR h4, cbc_ne hR' h4', cutA_pl0, ← cutA_app]
      have asb : ∀ v ∈ (1, 0, 0) :: rowsC (a.1 i 0) (a.1 i 1) ++ rowsC (a.1 j 0) (a.1 j 1), bdV 2700 v := fun v hv => by
        rcases List.mem_append.mp hv with q | q
        · rcases List.mem_cons.mp q with rfl | q
          · exact e0_27
          · exact cb v q
        · exact cb' v q
      have asl : ((1, 0, 0) :: rowsC (a.1 i 0) (a.1 i 1) ++ rowsC (a.1 j 0) (a.1 j 1)).length ≤ 33 := by
        rw [List.length_append, List.length_cons]; omega
      have he : ((1, 0, 0) : V3) ∈ (1, 0, 0) :: rowsC (a.1 i 0) (a.1 i 1) ++ rowsC (a.1 j 0) (a.1 j 1) := by simp
      have l1 := (cutA_all ((1, 0, 0) :: rowsC (a.1 i 0) (a.1 i 1) ++ rowsC (a.1 j 0) (a.1 j 1))).2
      have l2 := (cutA_all ((1, 0, 0) :: rowsC (a.1 i 0) (a.1 i 1))).2
      rw [List.length_cons] at l2
      have hmem : ∀ v, v ∈ cnL (cnL [] a.1 i) a.1 j ↔ v ∈ rowsC (a.1 i 0) (a.1 i 1) ∨ v ∈ rowsC (a.1 j 0) (a.1 j 1) := fun v => by
        rw [mem_cnL hR', mem_cnL hR]; simp
      have C0 : ∀ k ∈ cnL (cnL [] a.1 i) a.1 j, k ≠ O3 ∧ bdV 2700 k := fun k hk => by
        rcases (hmem k).mp hk with q | q
        · exact ⟨cn_ne hR k q, cb k q⟩
        · exact ⟨cn_ne hR' k q, cb' k q⟩
      have Cl : (cnL (cnL [] a.1 i) a.1 j).length ≤ 56 := by
        have k1 := len_cnL (C := []) hR
        have k2 := len_cnL (C := cnL [] a.1 i) hR'
        rw [List.length_nil] at k1
        omega
      have hC2 := okC2_of (fun k hk => (C0 k hk).1) (fun k hk => (C0 k hk).2) (by omega)
      refine ⟨⟨o1, okR_as (fun v hv => asb v (List.mem_append_left _ hv)) cb' (by omega), okFG_as he asb (by omega) (by omega)⟩, fun _ _ => hC2, fun t ht => ?_⟩
      rw [rCmb_0 a hi hj ht, if_neg (fun q => q.elim h4 h4')]
      obtain ⟨r1, r2⟩ := agC (C := cnL (cnL [] a.1 i) a.1 j) (as := (1, 0, 0) :: rowsC (a.1 i 0) (a.1 i 1) ++ rowsC (a.1 j 0) (a.1 j 1)) (fun k hk => (C0 k hk).1) (by omega) (by have := hC2.2.2.1; omega) he (by omega) (Ce_iff fun v v0 => by
        rw [List.mem_append, List.mem_cons, List.mem_append, hmem, List.mem_singleton]
        constructor
        · rintro ((q | q) | q)
          · exact Or.inr q
          · exact Or.inl (Or.inl q)
          · exact Or.inl (Or.inr q)
        · rintro ((q | q) | q)
          · exact Or.inl (Or.inr q)
          · exact Or.inr q
          · exact Or.inl (Or.inl q))
      exact (ag_fin h ht r1 r2 3).2
/-- the least set with both -/
theorem cmb1 (h : LK W a) (hi : i < 4) (hj : j < 4) : okCmb (shO (a.1 i)) (shO (a.1 j)) 1 ∧ okG2 (agL (agL [] (gnL a.1 i)) (gnL a.1 j)) ∧ ∀ t, t < 4 → AgF LK (cmF (shO (a.1 i)) (shO (a.1 j)) 1) (rCmb a (nI 1) (nI i) (nI j) (nI t)) W a t W.2.1 3 := by
  have hR := (h.2.2.1 i hi).2
  have hR' := (h.2.2.1 j hj).2
  show (okR (e3, []) (rowsC (a.1 i 2) (a.1 i 3 ++ a.1 i 4)) ∧ okR (cutA (e3, []) (rowsC (a.1 i 2) (a.1 i 3 ++ a.1 i 4))) (rowsC (a.1 j 2) (a.1 j 3 ++ a.1 j 4)) ∧ okFK (cutA (cutA (e3, []) (rowsC (a.1 i 2) (a.1 i 3 ++ a.1 i 4))) (rowsC (a.1 j 2) (a.1 j 3 ++ a.1 j 4)))) ∧ _ ∧ ∀ t, t < 4 → AgF LK (finK (cutA (cutA (e3, []) (rowsC (a.1 i 2) (a.1 i 3 ++ a.1 i 4))) (rowsC (a.1 j 2) (a.1 j 3 ++ a.1 j 4)))) _ W a t W.2.1 3
  rw [← cutA_app]
  have gb := gn_bd hR
  have gb' := gn_bd hR'
  have gl := gn_len hR
  have gl' := gn_len hR'
  have l1 := (cutA_all (rowsC (a.1 i 2) (a.1 i 3 ++ a.1 i 4) ++ rowsC (a.1 j 2) (a.1 j 3 ++ a.1 j 4))).2
  rw [List.length_append] at l1
  have l2 := (cutA_all (rowsC (a.1 i 2) (a.1 i 3 ++ a.1 i 4))).2
  have asl : (rowsC (a.1 i 2) (a.1 i 3 ++ a.1 i 4) ++ rowsC (a.1 j 2) (a.1 j 3 ++ a.1 j 4)).length ≤ 32 := by rw [List.length_append]; omega
  have asb : ∀ v ∈ rowsC (a.1 i 2) (a.1 i 3 ++ a.1 i 4) ++ rowsC (a.1 j 2) (a.1 j 3 ++ a.1 j 4), bdV 2700 v := fun v hv => (List.mem_append.mp hv).elim (gb v) (gb' v)
  have hmem : ∀ v, v ∈ agL (agL [] (gnL a.1 i)) (gnL a.1 j) ↔ v ∈ rowsC (a.1 i 2) (a.1 i 3 ++ a.1 i 4) ++ rowsC (a.1 j 2) (a.1 j 3 ++ a.1 j 4) := fun v => by
    rw [mem_agL, mem_agn hR, mem_gnL hR', List.mem_append]
    exact or_congr Iff.rfl ⟨fun q => q.1, fun q => ⟨q, gn_ne hR' v q⟩⟩
  have G0 : ∀ g ∈ agL (agL [] (gnL a.1 i)) (gnL a.1 j), g ≠ O3 ∧ 0 ≤ g.1 ∧ bdV 2700 g := fun g hg => by
    rcases List.mem_append.mp ((hmem g).mp hg) with q | q
    · exact ⟨gn_ne hR g q, gn_w hR g q, gb g q⟩
    · exact ⟨gn_ne hR' g q, gn_w hR' g q, gb' g q⟩
  have Gl : (agL (agL [] (gnL a.1 i)) (gnL a.1 j)).length ≤ 32 := by
    have k1 := len_agL (gnL a.1 i) []
    have k2 := len_agL (gnL a.1 j) (agL [] (gnL a.1 i))
    have k3 := len_gnL hR
    have k4 := len_gnL hR'
    rw [List.length_nil] at k1
    omega
  have hG2 := okG2_of (fun g hg => (G0 g hg).1) (fun g hg => (G0 g hg).2.1) (fun g hg => (G0 g hg).2.2) (by omega)
  have o2 : okR (cutA (e3, []) (rowsC (a.1 i 2) (a.1 i 3 ++ a.1 i 4))) (rowsC (a.1 j 2) (a.1 j 3 ++ a.1 j 4)) := okR_as gb gb' (by omega)
  by_cases hp : ∃ p, p ∈ rowsC (a.1 i 2) (a.1 i 3 ++ a.1 i 4) ++ rowsC (a.1 j 2) (a.1 j 3 ++ a.1 j 4) ∧ 0 < p.1
  · obtain ⟨p, hpm, p0⟩ := hp
    refine ⟨⟨okR_e3 gb (by omega), o2, okFK_as hpm (by omega) asb (by omega) (by omega)⟩, hG2, fun t ht => ?_⟩
    rw [rCmb_1 a hi hj ht]
    have hpG := (hmem p).mpr hpm
    have hpB' : hpB (agL (agL [] (gnL a.1 i)) (gnL a.1 j)) = true := List.any_eq_true.mpr ⟨p, hpG, decide_eq_true p0⟩
    obtain ⟨r1, r2⟩ := agG (as := rowsC (a.1 i 2) (a.1 i 3 ++ a.1 i 4) ++ rowsC (a.1 j 2) (a.1 j 3 ++ a.1 j 4)) (fun g hg => (G0 g hg).1) (fun g hg => (G0 g hg).2.1) (by omega) (by have := (hG2.2.2.1 hpB').1; omega) ⟨p, hpG, p0⟩ (by omega) (fun v _ => (hmem v).symm)
    exact (ag_fin h ht r1 r2 3).2
  · have n1 : a.1 i 4 = [] := Classical.byContradiction fun q => by
      obtain ⟨p, p1, p2⟩ := gn_pt hR q
      exact hp ⟨p, List.mem_append_left _ p1, p2⟩
    have n2 : a.1 j 4 = [] := Classical.byContradiction fun q => by
      obtain ⟨p, p1, p2⟩ := gn_pt hR' q
      exact hp ⟨p, List.mem_append_right _ p1, p2⟩
    have e1 : rowsC (a.1 i 2) (a.1 i 3 ++ a.1 i 4) = [] := by rw [hR.2.2.2.2.2.2.2.2 n1 2 (by omega), hR.2.2.2.2.2.2.2.2 n1 3 (by omega), n1]; rfl
    have e2 : rowsC (a.1 j 2) (a.1 j 3 ++ a.1 j 4) = [] := by rw [hR'.2.2.2.2.2.2.2.2 n2 2 (by omega), hR'.2.2.2.2.2.2.2.2 n2 3 (by omega), n2]; rfl
    have eG : agL (agL [] (gnL a.1 i)) (gnL a.1 j) = [] := List.eq_nil_iff_forall_not_mem.mpr fun v hv => by
      have := (hmem v).mp hv
      rw [e1, e2] at this
      exact absurd this List.not_mem_nil
    rw [eG] at hG2 ⊢
    rw [e1, e2] at o2 ⊢
    refine ⟨⟨okR_e3 (fun _ q => absurd q List.not_mem_nil) (by simp), o2, okFK_e3⟩, hG2, fun t ht => ?_⟩
    rw [rCmb_1 a hi hj ht, eG]
    exact (ag_fin h (c := .inr emp) ht (M := ofG []) rfl (fun _ => Rok.nil) 3).2
theorem dLn_eq (l : List V3) : dLn l = dirL l := rfl
theorem dirE_eq {t : Nat → List V3} (h : Rok t) : dirE (t 3 ++ t 4) = dRn (t 3) := by
  unfold dirE
  rw [rc_app h.2.2.2.2.2.2.1 h.2.2.2.2.2.2.2.1, List.take_left]
  rfl
theorem mem_sumP {t t' : Nat → List V3} (h : Rok t) (h' : Rok t') {v : V3} : v ∈ sums (t 3 ++ t 4) (t' 3 ++ t' 4) ↔ v ∈ sumP (t 4) (t' 4) := by
  rw [mem_sums]
  unfold sumP
  simp only [List.mem_flatMap, List.mem_map]
  constructor
  · rintro ⟨x, y, hx, hy, x0, y0, rfl⟩
    have hx : x ∈ t 4 := (List.mem_append.mp hx).resolve_left fun q => by have := h.2.2.2.2.2.2.1 x q; omega
    have hy : y ∈ t' 4 := (List.mem_append.mp hy).resolve_left fun q => by have := h'.2.2.2.2.2.2.1 y q; omega
    exact ⟨x, hx, y, hy, rfl⟩
  · rintro ⟨x, hx, y, hy, rfl⟩
    exact ⟨x, y, List.mem_append_right _ hx, List.mem_append_right _ hy, h.2.2.2.2.2.2.2.1 x hx, h'.2.2.2.2.2.2.2.1 y hy, rfl⟩
theorem bdI_mono {B C x : Int} (h : bdI B x) (hBC : B ≤ C) : bdI C x := by
  obtain ⟨h1, h2⟩ := h
  exact ⟨by omega, by omega⟩
theorem sumV_bd {p q : V3} (hp : bdV 30 p) (hq : bdV 30 q) : bdV 2700 (sumV p q) := by
  have a := bd_mul_z hp.1 hq.1
  have b := bdI_add (bd_mul_z hp.2.1 hq.1) (bd_mul_z hq.2.1 hp.1)
  have c := bdI_add (bd_mul_z hp.2.2 hq.1) (bd_mul_z hq.2.2 hp.1)
  exact ⟨bdI_mono a (by decide), bdI_mono b (by decide), bdI_mono c (by decide)⟩
theorem dirV_bd {B : Int} {v : V3} (h : bdV B v) : bdV B (dirV v) := by
  obtain ⟨⟨h1, h2⟩, h3, h4⟩ := h
  exact ⟨⟨by show -B ≤ 0; omega, by show (0 : Int) ≤ B; omega⟩, h3, h4⟩
theorem mem_dirL {l : List V3} {v : V3} : v ∈ dirL l ↔ ∃ w, w ∈ l ∧ (v = dirV w ∨ v = neg3 (dirV w)) := by
  unfold dirL
  simp only [List.mem_flatMap, List.mem_cons, List.not_mem_nil, or_false]
theorem len_dirL : ∀ l : List V3, (dirL l).length = 2 * l.length
  | [] => rfl
  | v :: l => by
    have := len_dirL l
    unfold dirL at *
    rw [List.flatMap_cons, List.length_append, this, List.length_cons]; simp; omega
theorem len_sums (E2 : List V3) : ∀ E1 : List V3, (sums E1 E2).length ≤ E1.length * E2.length
  | [] => by show 0 ≤ _; omega
  | p :: E1 => by
    have := len_sums E2 E1
    have r := sumR_len p E2
    have e : sums (p :: E1) E2 = sumR p E2 ++ sums E1 E2 := List.flatMap_cons
    rw [e, List.length_append, List.length_cons, Nat.add_mul]
    omega
theorem len_sumP (E2 : List V3) : ∀ E1 : List V3, (sumP E1 E2).length = E1.length * E2.length
  | [] => by show 0 = _; simp
  | p :: E1 => by
    have := len_sumP E2 E1
    have e : sumP (p :: E1) E2 = (E2.map fun q => sumV p q) ++ sumP E1 E2 := List.flatMap_cons
    rw [e, List.length_append, List.length_map, List.length_cons, Nat.add_mul, this]
    omega
theorem pos_pts {t : Nat → List V3} (h : Rok t) : ((t 3 ++ t 4).filter fun v => decide (0 < v.1)).length ≤ (t 4).length := by
  rw [List.filter_append, List.length_append]
  have e : (t 3).filter (fun v => decide (0 < v.1)) = [] := List.filter_eq_nil_iff.mpr fun v hv => by
    have := h.2.2.2.2.2.2.1 v hv
    simp; omega
  rw [e]
  have := List.length_filter_le (fun v : V3 => decide (0 < v.1)) (t 4)
  rw [List.length_nil]; omega
/-- sums -/
theorem cmb2 (h : LK W a) (hi : i < 4) (hj : j < 4) : okCmb (shO (a.1 i)) (shO (a.1 j)) 2 ∧ (a.1 i 4 ≠ [] → a.1 j 4 ≠ [] → okG2 (agL [] (tsL a.1 i j))) ∧ ∀ t, t < 4 → AgF LK (cmF (shO (a.1 i)) (shO (a.1 j)) 2) (rCmb a (nI 2) (nI i) (nI j) (nI t)) W a t W.2.1 3 := by
  have hR := (h.2.2.1 i hi).2
  have hR' := (h.2.2.1 j hj).2
  show (okR (e3, []) (smR (shO (a.1 i)) (shO (a.1 j))) ∧ okFK (cutA (e3, []) (smR (shO (a.1 i)) (shO (a.1 j))))) ∧ _ ∧ ∀ t, t < 4 → AgF LK (finK (cutA (e3, []) (smR (shO (a.1 i)) (shO (a.1 j))))) _ W a t W.2.1 3
  unfold smR
  by_cases c : a.1 i 4 = [] ∨ a.1 j 4 = []
  · rw [if_pos (c.imp (emp_iff hR).mpr (emp_iff hR').mpr)]
    refine ⟨⟨okR_e3 (fun _ q => absurd q List.not_mem_nil) (by simp), okFK_e3⟩, fun q1 q2 => absurd c (fun q => q.elim q1 q2), fun t ht => ?_⟩
    rw [rCmb_2 a hi hj ht, if_pos c]
    exact ag_empF h ht
  · rw [if_neg (fun q => c (q.imp (emp_iff hR).mp (emp_iff hR').mp))]
    show (okR (e3, []) (sums (a.1 i 3 ++ a.1 i 4) (a.1 j 3 ++ a.1 j 4) ++ ((dirL (a.1 i 2) ++ dirE (a.1 i 3 ++ a.1 i 4)) ++ (dirL (a.1 j 2) ++ dirE (a.1 j 3 ++ a.1 j 4)))) ∧ okFK (cutA (e3, []) (sums (a.1 i 3 ++ a.1 i 4) (a.1 j 3 ++ a.1 j 4) ++ ((dirL (a.1 i 2) ++ dirE (a.1 i 3 ++ a.1 i 4)) ++ (dirL (a.1 j 2) ++ dirE (a.1 j 3 ++ a.1 j 4)))))) ∧ _ ∧ ∀ t, t < 4 → AgF LK (finK (cutA (e3, []) (sums (a.1 i 3 ++ a.1 i 4) (a.1 j 3 ++ a.1 j 4) ++ ((dirL (a.1 i 2) ++ dirE (a.1 i 3 ++ a.1 i 4)) ++ (dirL (a.1 j 2) ++ dirE (a.1 j 3 ++ a.1 j 4)))))) _ W a t W.2.1 3
    rw [dirE_eq hR, dirE_eq hR']
    have c1 : a.1 i 4 ≠ [] := fun q => c (Or.inl q)
    have c2 : a.1 j 4 ≠ [] := fun q => c (Or.inr q)
    generalize hD : (dirL (a.1 i 2) ++ dRn (a.1 i 3)) ++ (dirL (a.1 j 2) ++ dRn (a.1 j 3)) = D
    have dbd : ∀ {t : Nat → List V3}, Rok t → ∀ v ∈ dirL (t 2) ++ dRn (t 3), bdV 2700 v ∧ v.1 = 0 := fun {t} ht v hv => by
      rcases List.mem_append.mp hv with q | q
      · obtain ⟨w, hw, q⟩ := mem_dirL.mp q
        have b := dirV_bd (bd_30 (ht.1 2 (by omega) w hw).1)
        rcases q with rfl | rfl
        · exact ⟨b, rfl⟩
        · exact ⟨bdV_neg b, rfl⟩
      · unfold dRn at q
        obtain ⟨w, hw, rfl⟩ := List.mem_map.mp q
        exact ⟨dirV_bd (bd_30 (ht.1 3 (by omega) w hw).1), rfl⟩
    have Db : ∀ v ∈ D, bdV 2700 v ∧ v.1 = 0 := fun v hv => by
      rw [← hD] at hv
      exact (List.mem_append.mp hv).elim (dbd hR v) (dbd hR' v)
    have Dl : D.length = 2 * (a.1 i 2).length + (a.1 i 3).length + (2 * (a.1 j 2).length + (a.1 j 3).length) := by
      rw [← hD]
      simp only [List.length_append, len_dirL]
      unfold dRn
      simp only [List.length_map]
    have p30 : ∀ {t : Nat → List V3}, Rok t → ∀ v ∈ t 3 ++ t 4, bdV 30 v := fun {t} ht v hv => (List.mem_append.mp hv).elim (fun q => (ht.1 3 (by omega) v q).1) (fun q => (ht.1 4 (by omega) v q).1)
    have sb : ∀ v ∈ sums (a.1 i 3 ++ a.1 i 4) (a.1 j 3 ++ a.1 j 4), bdV 2700 v ∧ 0 < v.1 := fun v hv => by
      obtain ⟨x, y, hx, hy, x0, y0, rfl⟩ := mem_sums.mp hv
      exact ⟨sumV_bd (p30 hR x hx) (p30 hR' y hy), Int.mul_pos x0 y0⟩
    have asb : ∀ v ∈ sums (a.1 i 3 ++ a.1 i 4) (a.1 j 3 ++ a.1 j 4) ++ D, bdV 2700 v := fun v hv => (List.mem_append.mp hv).elim (fun q => (sb v q).1) (fun q => (Db v q).1)
    have n1 := hR.2.2.2.2.1
    have n2 := hR'.2.2.2.2.1
    have n3 := hR.2.2.2.1
    have n4 := hR'.2.2.2.1
    have m1 := pos_pts hR
    have m2 := pos_pts hR'
    have e1 : (a.1 i 3 ++ a.1 i 4).length ≤ 12 := by rw [List.length_append]; omega
    have e2 : (a.1 j 3 ++ a.1 j 4).length ≤ 12 := by rw [List.length_append]; omega
    obtain ⟨o1, o2⟩ := okR_smR (D := D) e1 e2 (by omega) asb
    have sl := len_sums (a.1 j 3 ++ a.1 j 4) (a.1 i 3 ++ a.1 i 4)
    have sl2 := Nat.mul_le_mul e1 e2
    have asl : (sums (a.1 i 3 ++ a.1 i 4) (a.1 j 3 ++ a.1 j 4) ++ D).length ≤ 176 := by rw [List.length_append]; omega
    obtain ⟨x, hx⟩ := List.exists_mem_of_ne_nil _ c1
    obtain ⟨y, hy⟩ := List.exists_mem_of_ne_nil _ c2
    have hp : sumV x y ∈ sums (a.1 i 3 ++ a.1 i 4) (a.1 j 3 ++ a.1 j 4) := mem_sums.mpr ⟨x, y, List.mem_append_right _ hx, List.mem_append_right _ hy, hR.2.2.2.2.2.2.2.1 x hx, hR'.2.2.2.2.2.2.2.1 y hy, rfl⟩
    have p0 := (sb _ hp).2
    have hmem : ∀ v, v ∈ agL [] (tsL a.1 i j) ↔ v ∈ sums (a.1 i 3 ++ a.1 i 4) (a.1 j 3 ++ a.1 j 4) ++ D ∧ v ≠ O3 := fun v => by
      rw [mem_agL]
      unfold tsL
      rw [dLn_eq, dLn_eq, ← hD]
      simp only [List.mem_append, mem_sumP hR hR', List.not_mem_nil, false_or]
      refine and_congr ?_ Iff.rfl
      constructor
      · rintro (q | q | q | q | q)
        · exact Or.inr (Or.inl (Or.inl q))
        · exact Or.inr (Or.inr (Or.inl q))
        · exact Or.inr (Or.inl (Or.inr q))
        · exact Or.inr (Or.inr (Or.inr q))
        · exact Or.inl q
      · rintro (q | (q | q) | (q | q))
        · exact Or.inr (Or.inr (Or.inr (Or.inr q)))
        · exact Or.inl q
        · exact Or.inr (Or.inr (Or.inl q))
        · exact Or.inr (Or.inl q)
        · exact Or.inr (Or.inr (Or.inr (Or.inl q)))
    have G0 : ∀ g ∈ agL [] (tsL a.1 i j), g ≠ O3 ∧ 0 ≤ g.1 ∧ bdV 2700 g := fun g hg => by
      obtain ⟨q1, q2⟩ := (hmem g).mp hg
      refine ⟨q2, ?_, asb g q1⟩
      rcases List.mem_append.mp q1 with q | q
      · have := (sb g q).2; omega
      · have := (Db g q).2; omega
    have Gl : (agL [] (tsL a.1 i j)).length ≤ 176 := by
      have k1 := len_agL (tsL a.1 i j) []
      rw [List.length_nil] at k1
      have k2 : (tsL a.1 i j).length = D.length + (a.1 i 4).length * (a.1 j 4).length := by
        unfold tsL
        rw [dLn_eq, dLn_eq, Dl]
        simp only [List.length_append, len_dirL, len_sumP]
        unfold dRn
        simp only [List.length_map]
        omega
      have k3 : (a.1 i 4).length * (a.1 j 4).length ≤ 12 * 12 := Nat.mul_le_mul (by omega) (by omega)
      omega
    have hG2 := okG2_of (fun g hg => (G0 g hg).1) (fun g hg => (G0 g hg).2.1) (fun g hg => (G0 g hg).2.2) (by omega)
    refine ⟨⟨o1, okFK_as (List.mem_append_left _ hp) (by omega) asb (by omega) o2⟩, fun _ _ => hG2, fun t ht => ?_⟩
    rw [rCmb_2 a hi hj ht, if_neg c]
    have hpG : sumV x y ∈ agL [] (tsL a.1 i j) := (hmem _).mpr ⟨List.mem_append_left _ hp, fun z => by rw [z] at p0; exact absurd p0 (by simp)⟩
    have hpB' : hpB (agL [] (tsL a.1 i j)) = true := List.any_eq_true.mpr ⟨_, hpG, decide_eq_true p0⟩
    obtain ⟨r1, r2⟩ := agG (as := sums (a.1 i 3 ++ a.1 i 4) (a.1 j 3 ++ a.1 j 4) ++ D) (fun g hg => (G0 g hg).1) (fun g hg => (G0 g hg).2.1) (by omega) (by have := (hG2.2.2.1 hpB').1; omega) ⟨_, hpG, p0⟩ (by omega) (fun v v0 => ⟨fun q => (hmem v).mpr ⟨q, v0⟩, fun q => ((hmem v).mp q).1⟩)
    exact (ag_fin h ht r1 r2 3).2
end CMB
theorem g7_ok : ∀ W a i j, LK W a → i < 4 → j < 4 → (∀ q, q < 3 → okCmb (gS W (W.2.2.2.1 i)) (gS W (W.2.2.2.1 j)) q) ∧ (a.1 i 4 ≠ [] → a.1 j 4 ≠ [] → okC2 (cnL (cnL [] a.1 i) a.1 j)) ∧ (a.1 i 4 ≠ [] → a.1 j 4 ≠ [] → okG2 (agL [] (tsL a.1 i j))) ∧ okG2 (agL (agL [] (gnL a.1 i)) (gnL a.1 j)) ∧
    ∀ t q, t < 4 → q < 3 → AgF LK (cmF (gS W (W.2.2.2.1 i)) (gS W (W.2.2.2.1 j)) q) (rCmb a (nI q) (nI i) (nI j) (nI t)) W a t W.2.1 3 := fun W a i j h hi hj => by
  rw [(h.2.2.1 i hi).1, (h.2.2.1 j hj).1]
  obtain ⟨a0, b0, c0⟩ := cmb0 h hi hj
  obtain ⟨a1, b1, c1⟩ := cmb1 h hi hj
  obtain ⟨a2, b2, c2⟩ := cmb2 h hi hj
  refine ⟨fun q hq => ?_, b0, b2, b1, fun t q ht hq => ?_⟩
  · match q, hq with
    | 0, _ => exact a0
    | 1, _ => exact a1
    | 2, _ => exact a2
  · match q, hq with
    | 0, _ => exact c0 t ht
    | 1, _ => exact c1 t ht
    | 2, _ => exact c2 t ht
