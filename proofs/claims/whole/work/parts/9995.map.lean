/-! MAP: the class beside the reference -/
theorem mem_both1 {f : V3 → V3} {l : List V3} {v : V3} : v ∈ bothR f 1 l ↔ ∃ w, w ∈ l ∧ (v = f w ∨ v = neg3 (f w)) := by
  have e : ∀ w, (if (1 : Int32) = 0 then [f w] else [f w, neg3 (f w)]) = [f w, neg3 (f w)] := fun w => if_neg (by decide)
  unfold bothR
  simp only [List.mem_flatMap, e]
  simp
theorem mem_both0 {f : V3 → V3} {l : List V3} {v : V3} : v ∈ bothR f 0 l ↔ ∃ w, w ∈ l ∧ v = f w := by
  unfold bothR
  simp only [List.mem_flatMap, if_true]
  simp
theorem len_both1 (f : V3 → V3) : ∀ l : List V3, (bothR f 1 l).length = 2 * l.length
  | [] => rfl
  | v :: l => by
    have := len_both1 f l
    unfold bothR at *
    rw [List.flatMap_cons, List.length_append, this, List.length_cons, if_neg (show ¬ (1 : Int32) = 0 by decide)]
    simp; omega
theorem len_both0 (f : V3 → V3) : ∀ l : List V3, (bothR f 0 l).length = l.length
  | [] => rfl
  | v :: l => by
    have := len_both0 f l
    unfold bothR at *
    rw [List.flatMap_cons, List.length_append, this, List.length_cons, if_pos rfl]
    simp; omega
theorem mpV_neg (N : Nat → Int) (v : V3) : mpV N (neg3 v) = neg3 (mpV N v) := by
  unfold mpV neg3
  refine v_ext ?_ ?_ ?_ <;> grind
theorem mpV_bd {N : Nat → Int} {v : V3} (hN : ∀ i, i < 6 → bdI 30 (N i)) (h : bdV 30 v) : bdV 2700 (mpV N v) :=
  ⟨bdI_mono h.1 (by decide), bdI_mono (bdI_add (bdI_add (bd_mul_z (hN 0 (by omega)) h.2.1) (bd_mul_z (hN 1 (by omega)) h.2.2)) (bd_mul_z (hN 4 (by omega)) h.1)) (by decide), bdI_mono (bdI_add (bdI_add (bd_mul_z (hN 2 (by omega)) h.2.1) (bd_mul_z (hN 3 (by omega)) h.2.2)) (bd_mul_z (hN 5 (by omega)) h.1)) (by decide)⟩
theorem bmV_bd {N : Nat → Int} {v : V3} (hN : ∀ i, i < 6 → bdI 30 (N i)) (h : bdV 30 v) : bdV 2700 (bmV N v) :=
  ⟨bdI_mono (bdI_add (bdI_add h.1 (bd_mul_z h.2.1 (hN 4 (by omega)))) (bd_mul_z h.2.2 (hN 5 (by omega)))) (by decide), bdI_mono (bdI_add (bd_mul_z h.2.1 (hN 0 (by omega))) (bd_mul_z h.2.2 (hN 2 (by omega)))) (by decide), bdI_mono (bdI_add (bd_mul_z h.2.1 (hN 1 (by omega))) (bd_mul_z h.2.2 (hN 3 (by omega)))) (by decide)⟩
section MAP
variable {W : AW} {a : RSt} {i : Nat}
theorem img_eq (h : LK W a) : imgV W = mpV a.2.1 := funext fun v => by
  unfold imgV mpV
  rw [h.1.2.2.1 0 (by omega), h.1.2.2.1 1 (by omega), h.1.2.2.1 2 (by omega), h.1.2.2.1 3 (by omega), h.1.2.2.1 4 (by omega), h.1.2.2.1 5 (by omega)]
theorem org_eq (h : LK W a) : orgV W = bmV a.2.1 := funext fun v => by
  unfold orgV bmV
  rw [h.1.2.2.1 0 (by omega), h.1.2.2.1 1 (by omega), h.1.2.2.1 2 (by omega), h.1.2.2.1 3 (by omega), h.1.2.2.1 4 (by omega), h.1.2.2.1 5 (by omega)]
theorem rMap_e (a : RSt) {t : Nat} (hi : i < 4) (ht : t < 4) (h6 : a.2.2.1 = 6) (b : Bool) : rMap a (nI i) b (nI t) = if a.1 i 4 = [] then (0, -1, (drT a.1 t, a.2.1, 0, a.2.2.2)) else if b = true then rFin a t (ofC (mbL a i)) 3 true else rFin a t (ofG (mpL a i)) 3 true := by
  unfold rMap
  rw [if_neg (by rw [slot_i hi, slot_i ht]; simp), if_neg (fun q => q h6), nI_clamp (by omega), nI_clamp (by omega)]
/-- images -/
theorem mapF (h : LK W a) (hi : i < 4) : (okR (e3, []) (imR W (shO (a.1 i))) ∧ okFK (cutA (e3, []) (imR W (shO (a.1 i))))) ∧ (a.1 i 4 ≠ [] → okG2 (mpL a i)) ∧ (a.2.2.1 = 6 → ∀ t, t < 4 → AgF LK (finK (cutA (e3, []) (imR W (shO (a.1 i))))) (rMap a (nI i) false (nI t)) W a t 0 3) := by
  have hR := (h.2.2.1 i hi).2
  have hN := h.1.1.2.1
  have eim : imR W (shO (a.1 i)) = bothR (mpV a.2.1) 1 (a.1 i 2) ++ bothR (mpV a.2.1) 0 (a.1 i 3 ++ a.1 i 4) := by
    unfold imR
    rw [img_eq h]; rfl
  rw [eim]
  have l12 := hR.2.2.2.1
  have l13 := hR.2.2.2.2.1
  have asl : (bothR (mpV a.2.1) 1 (a.1 i 2) ++ bothR (mpV a.2.1) 0 (a.1 i 3 ++ a.1 i 4)).length ≤ 16 := by
    rw [List.length_append, len_both1, len_both0, List.length_append]; omega
  have amem : ∀ v, v ∈ bothR (mpV a.2.1) 1 (a.1 i 2) ++ bothR (mpV a.2.1) 0 (a.1 i 3 ++ a.1 i 4) ↔ ∃ w, w ∈ rowsC (a.1 i 2) (a.1 i 3 ++ a.1 i 4) ∧ v = mpV a.2.1 w := fun v => by
    rw [List.mem_append, mem_both1, mem_both0]
    constructor
    · rintro (⟨w, hw, q | q⟩ | ⟨w, hw, q⟩)
      · exact ⟨w, mem_rowsC.mpr (Or.inl ⟨w, hw, Or.inl rfl⟩), q⟩
      · exact ⟨neg3 w, mem_rowsC.mpr (Or.inl ⟨w, hw, Or.inr rfl⟩), by rw [mpV_neg]; exact q⟩
      · exact ⟨w, mem_rowsC.mpr (Or.inr hw), q⟩
    · rintro ⟨w, hw, rfl⟩
      rcases mem_rowsC.mp hw with ⟨l, hl, rfl | rfl⟩ | q
      · exact Or.inl ⟨_, hl, Or.inl rfl⟩
      · exact Or.inl ⟨l, hl, Or.inr (mpV_neg _ _)⟩
      · exact Or.inr ⟨w, q, rfl⟩
  have g30 : ∀ v ∈ rowsC (a.1 i 2) (a.1 i 3 ++ a.1 i 4), bdV 30 v := rows_bd (fun v hv => (hR.1 2 (by omega) v hv).1) fun v hv => (List.mem_append.mp hv).elim (fun q => (hR.1 3 (by omega) v q).1) (fun q => (hR.1 4 (by omega) v q).1)
  have asb : ∀ v ∈ bothR (mpV a.2.1) 1 (a.1 i 2) ++ bothR (mpV a.2.1) 0 (a.1 i 3 ++ a.1 i 4), bdV 2700 v := fun v hv => by
    obtain ⟨w, hw, rfl⟩ := (amem v).mp hv
    exact mpV_bd hN (g30 w hw)
  have l1 := (cutA_all (bothR (mpV a.2.1) 1 (a.1 i 2) ++ bothR (mpV a.2.1) 0 (a.1 i 3 ++ a.1 i 4))).2
  have o1 := okR_e3 asb (by omega)
  by_cases h4 : a.1 i 4 = []
  · have e : bothR (mpV a.2.1) 1 (a.1 i 2) ++ bothR (mpV a.2.1) 0 (a.1 i 3 ++ a.1 i 4) = [] := by
      rw [hR.2.2.2.2.2.2.2.2 h4 2 (by omega), hR.2.2.2.2.2.2.2.2 h4 3 (by omega), h4]; rfl
    rw [e] at o1 ⊢
    refine ⟨⟨o1, okFK_e3⟩, fun q => absurd h4 q, fun h6 t ht => ?_⟩
    rw [rMap_e a hi ht h6, if_pos h4]
    exact ag_emp h ht (by omega) (fun s k _ _ => rfl) 3
  · obtain ⟨p, hp, p0⟩ := gn_pt hR h4
    have hpm := (amem _).mpr ⟨p, hp, rfl⟩
    have p0' : 0 < (mpV a.2.1 p).1 := p0
    have hmem : ∀ v, v ∈ mpL a i ↔ (∃ w, w ∈ rowsC (a.1 i 2) (a.1 i 3 ++ a.1 i 4) ∧ v = mpV a.2.1 w) ∧ v ≠ O3 := fun v => by
      unfold mpL
      rw [mem_agL, List.mem_map]
      simp only [List.not_mem_nil, false_or]
      refine and_congr ?_ Iff.rfl
      exact ⟨fun ⟨w, q1, q2⟩ => ⟨w, (mem_agn hR).mp q1, q2.symm⟩, fun ⟨w, q1, q2⟩ => ⟨w, (mem_agn hR).mpr q1, q2.symm⟩⟩
    have G0 : ∀ g ∈ mpL a i, g ≠ O3 ∧ 0 ≤ g.1 ∧ bdV 2700 g := fun g hg => by
      obtain ⟨⟨w, hw, rfl⟩, q2⟩ := (hmem g).mp hg
      exact ⟨q2, gn_w hR w hw, mpV_bd hN (g30 w hw)⟩
    have Gl : (mpL a i).length ≤ 16 := by
      unfold mpL
      have k1 := len_agL ((agL [] (gnL a.1 i)).map (mpV a.2.1)) []
      have k2 := len_agL (gnL a.1 i) []
      have k3 := len_gnL hR
      rw [List.length_map, List.length_nil] at k1
      rw [List.length_nil] at k2
      omega
    have hG2 := okG2_of (fun g hg => (G0 g hg).1) (fun g hg => (G0 g hg).2.1) (fun g hg => (G0 g hg).2.2) (by omega)
    refine ⟨⟨o1, okFK_as hpm (by omega) asb (by omega) (by omega)⟩, fun _ => hG2, fun h6 t ht => ?_⟩
    rw [rMap_e a hi ht h6, if_neg h4, if_neg (by decide)]
    have hpG := (hmem _).mpr ⟨⟨p, hp, rfl⟩, fun z => by rw [z] at p0'; exact absurd p0' (by simp)⟩
    have hpB' : hpB (mpL a i) = true := List.any_eq_true.mpr ⟨_, hpG, decide_eq_true p0'⟩
    obtain ⟨r1, r2⟩ := agG (as := bothR (mpV a.2.1) 1 (a.1 i 2) ++ bothR (mpV a.2.1) 0 (a.1 i 3 ++ a.1 i 4)) (fun g hg => (G0 g hg).1) (fun g hg => (G0 g hg).2.1) (by omega) (by have := (hG2.2.2.1 hpB').1; omega) ⟨_, hpG, p0'⟩ (by omega) (fun v v0 => by
      rw [amem v, hmem v]
      exact ⟨fun q => ⟨q, v0⟩, fun q => q.1⟩)
    exact (ag_fin h ht r1 r2 3).1
/-- origins -/
theorem mapB (h : LK W a) (hi : i < 4) : (okR (og0 (shO (a.1 i))) (ogR W (shO (a.1 i))) ∧ okFG (cutA (og0 (shO (a.1 i))) (ogR W (shO (a.1 i))))) ∧ (a.1 i 4 ≠ [] → okC2 (mbL a i)) ∧ (a.2.2.1 = 6 → ∀ t, t < 4 → AgF LK (finG (cutA (og0 (shO (a.1 i))) (ogR W (shO (a.1 i))))) (rMap a (nI i) true (nI t)) W a t 0 3) := by
  have hR := (h.2.2.1 i hi).2
  have hN := h.1.1.2.1
  have eog : ogR W (shO (a.1 i)) = bothR (bmV a.2.1) 1 (a.1 i 0) ++ bothR (bmV a.2.1) 0 (a.1 i 1) := by
    unfold ogR
    rw [org_eq h]; rfl
  rw [eog]
  have l12 := hR.2.1
  have l13 := hR.2.2.1
  have xb : ∀ v ∈ bothR (bmV a.2.1) 1 (a.1 i 0) ++ bothR (bmV a.2.1) 0 (a.1 i 1), bdV 2700 v := fun v hv => by
    rcases List.mem_append.mp hv with q | q
    · obtain ⟨w, hw, q⟩ := mem_both1.mp q
      have b := bmV_bd hN (hR.1 0 (by omega) w hw).1
      rcases q with rfl | rfl
      · exact b
      · exact bdV_neg b
    · obtain ⟨w, hw, rfl⟩ := mem_both0.mp q
      exact bmV_bd hN (hR.1 1 (by omega) w hw).1
  have xl : (bothR (bmV a.2.1) 1 (a.1 i 0) ++ bothR (bmV a.2.1) 0 (a.1 i 1)).length ≤ 16 := by
    rw [List.length_append, len_both1, len_both0]; omega
  by_cases h4 : a.1 i 4 = []
  · have e0 : og0 (shO (a.1 i)) = ([], []) := by rw [shO_emp hR h4]; rfl
    rw [e0, cutA_nil]
    refine ⟨⟨okR_nil xb, okFG_nil⟩, fun q => absurd h4 q, fun h6 t ht => ?_⟩
    rw [rMap_e a hi ht h6, if_pos h4, finG_nil]
    exact ag_emp h ht (by omega) (fun s k _ _ => rfl) 3
  · have e0 : og0 (shO (a.1 i)) = pl0 := by unfold og0; rw [if_neg (fun q => h4 ((emp_iff hR).mp q))]
    rw [e0, cutA_pl0]
    generalize hX : bothR (bmV a.2.1) 1 (a.1 i 0) ++ bothR (bmV a.2.1) 0 (a.1 i 1) = X at *
    have asb : ∀ v ∈ (1, 0, 0) :: X, bdV 2700 v := fun v hv => by
      rcases List.mem_cons.mp hv with rfl | q
      · exact e0_27
      · exact xb v q
    have l1 := (cutA_all ((1, 0, 0) :: X)).2
    rw [List.length_cons] at l1
    have asl : ((1, 0, 0) :: X).length ≤ 17 := by rw [List.length_cons]; omega
    have he : ((1, 0, 0) : V3) ∈ (1, 0, 0) :: X := List.mem_cons_self
    have hmem : ∀ v, v ∈ mbL a i ↔ v ∈ X ∧ v ≠ O3 := fun v => by
      unfold mbL
      rw [mem_acL, mem_acL, ← hX, List.mem_append, mem_both1, mem_both0]
      constructor
      · rintro ((q | ⟨w, hw, w0, q⟩) | ⟨w, hw, w0, q⟩)
        · exact absurd q List.not_mem_nil
        · obtain ⟨w', hw', rfl⟩ := List.mem_map.mp hw
          rcases mem_xs.mp q with rfl | ⟨_, rfl⟩
          · exact ⟨Or.inl ⟨w', hw', Or.inl rfl⟩, w0⟩
          · exact ⟨Or.inl ⟨w', hw', Or.inr rfl⟩, neg_O w0⟩
        · obtain ⟨w', hw', rfl⟩ := List.mem_map.mp hw
          rcases mem_xs.mp q with rfl | ⟨z, _⟩
          · exact ⟨Or.inr ⟨w', hw', rfl⟩, w0⟩
          · cases z
      · rintro ⟨⟨w, hw, q⟩ | ⟨w, hw, rfl⟩, v0⟩
        · have w0 : bmV a.2.1 w ≠ O3 := fun z => v0 (by
            rcases q with q | q
            · rw [q, z]
            · rw [q, z]; rfl)
          exact Or.inl (Or.inr ⟨_, List.mem_map_of_mem hw, w0, mem_xs.mpr (q.imp id fun q => ⟨rfl, q⟩)⟩)
        · exact Or.inr ⟨_, List.mem_map_of_mem hw, v0, mem_xs.mpr (Or.inl rfl)⟩
    have C0 : ∀ k ∈ mbL a i, k ≠ O3 ∧ bdV 2700 k := fun k hk => ⟨((hmem k).mp hk).2, xb k ((hmem k).mp hk).1⟩
    have Cl : (mbL a i).length ≤ 28 := by
      unfold mbL
      have k1 := len_acL false ((a.1 i 1).map (bmV a.2.1)) (acL true [] ((a.1 i 0).map (bmV a.2.1)))
      have k2 := len_acL true ((a.1 i 0).map (bmV a.2.1)) []
      rw [List.length_map] at k1 k2
      rw [List.length_nil] at k2
      omega
    have hC2 := okC2_of (fun k hk => (C0 k hk).1) (fun k hk => (C0 k hk).2) (by omega)
    refine ⟨⟨okR_pl0 xb (by omega), okFG_as he asb (by omega) (by omega)⟩, fun _ => hC2, fun h6 t ht => ?_⟩
    rw [rMap_e a hi ht h6, if_neg h4, if_pos rfl]
    obtain ⟨r1, r2⟩ := agC (C := mbL a i) (as := (1, 0, 0) :: X) (fun k hk => (C0 k hk).1) (by omega) (by have := hC2.2.2.1; omega) he (by omega) (Ce_iff fun v v0 => by
      rw [List.mem_cons, List.mem_append, hmem, List.mem_singleton]
      constructor
      · rintro (q | q)
        · exact Or.inr q
        · exact Or.inl ⟨q, v0⟩
      · rintro (q | q)
        · exact Or.inr q.1
        · exact Or.inl q)
    exact (ag_fin h ht r1 r2 3).1
end MAP
theorem g8_ok : ∀ W a i b, LK W a → i < 4 → okMap W (gS W (W.2.2.2.1 i)) (bI01 b) ∧ (a.1 i 4 ≠ [] → a.2.2.1 = 6 → okC2 (mbL a i)) ∧ (a.1 i 4 ≠ [] → a.2.2.1 = 6 → okG2 (mpL a i)) ∧ (a.2.2.1 = 6 → ∀ t, t < 4 → AgF LK (mpF W (gS W (W.2.2.2.1 i)) (bI01 b)) (rMap a (nI i) b (nI t)) W a t 0 3) := fun W a i b h hi => by
  rw [(h.2.2.1 i hi).1]
  obtain ⟨a0, b0, c0⟩ := mapF h hi
  obtain ⟨a1, b1, c1⟩ := mapB h hi
  unfold okMap mpF
  cases b with
  | false => exact ⟨by rw [if_pos (show bI01 false = 0 from rfl)]; exact a0, fun q _ => b1 q, fun q _ => b0 q, by rw [if_pos (show bI01 false = 0 from rfl)]; exact c0⟩
  | true => exact ⟨by rw [if_neg (show ¬ bI01 true = 0 by decide)]; exact a1, fun q _ => b1 q, fun q _ => b0 q, by rw [if_neg (show ¬ bI01 true = 0 by decide)]; exact c1⟩
