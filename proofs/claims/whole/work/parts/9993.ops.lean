/-! CONSTRAIN, GENERATE: the class beside the reference -/
theorem mix_bd {B : Int} (hB : 1 ≤ B) {u v : V3} {a b : Int} (ha : bdI B a) (hb : bdI B b) (hv : bdV B v) (hu : bdV B u) : bdV (2 * (B * B)) (mixV a b v u) := by
  have hBB : B ≤ 2 * (B * B) := by
    have : B * 1 ≤ B * B := Int.mul_le_mul_of_nonneg_left hB (by omega)
    omega
  unfold mixV
  split
  · exact bdV_mono hBB hv
  · rename_i c
    have := bdl2 ha hb hv hu
    rw [show B * B + B * B = 2 * (B * B) by omega] at this
    exact bd_smd (by omega) (sm_div3 _) this
theorem set_bd {B : Int} {l : List V3} {x : V3} {i : Nat} (h : ∀ v ∈ l, bdV B v) (hx : bdV B x) : ∀ v ∈ l.set i x, bdV B v := fun v hv => by
  rcases List.mem_or_eq_of_mem_set hv with q | q
  · exact h v q
  · rw [q]; exact hx
theorem swp_bd {B : Int} (hB : 0 ≤ B) {l : List V3} {i k : Nat} (h : ∀ v ∈ l, bdV B v) : ∀ v ∈ swp l i k, bdV B v := set_bd (set_bd h (gt_bd hB h k)) (gt_bd hB h i)
theorem trn_bd {B : Int} (hB : 0 ≤ B) {l : List V3} {col s : Nat} (h : ∀ v ∈ l, bdV B v) : ∀ v ∈ turnAt col s l, bdV B v := by
  unfold turnAt
  split
  · exact set_bd h (bdV_neg (gt_bd hB h s))
  · exact h
theorem ccF_bd {B : Int} (hB : 1 ≤ B) {l : List V3} {col : Nat} {sp : Int32} {u : V3} (h : ∀ v ∈ l, bdV B v) (hu : bdV B u) : ∀ v ∈ l.mapIdx (ccF col sp u), bdV (2 * (B * B)) v := fun v hv => by
  obtain ⟨i, hi, rfl⟩ := List.mem_mapIdx.mp hv
  have hBB : B ≤ 2 * (B * B) := by
    have : B * 1 ≤ B * B := Int.mul_le_mul_of_nonneg_left hB (by omega)
    omega
  have hl := h _ (List.getElem_mem hi)
  unfold ccF
  split
  · exact bdV_mono hBB hl
  · exact mix_bd hB (bdV_cmp hu _) (bdI_neg (bdV_cmp hl _)) hl hu
theorem st1_bd {B : Int} (hB : 1 ≤ B) {col : Nat} {t : List V3 × List V3 × Nat} (h1 : ∀ v ∈ t.1, bdV B v) (h2 : ∀ v ∈ t.2.1, bdV B v) :
    (∀ v ∈ (st1 col t).1, bdV (2 * (B * B)) v) ∧ (∀ v ∈ (st1 col t).2.1, bdV (2 * (B * B)) v) ∧ (st1 col t).1.length = t.1.length ∧ (st1 col t).2.1.length = t.2.1.length := by
  have hBB : B ≤ 2 * (B * B) := by
    have : B * 1 ≤ B * B := Int.mul_le_mul_of_nonneg_left hB (by omega)
    omega
  unfold st1 stA
  split
  · exact ⟨fun v hv => bdV_mono hBB (h1 v hv), fun v hv => bdV_mono hBB (h2 v hv), rfl, rfl⟩
  · rename_i f _
    unfold stB
    have k := trn_bd (col := col) (s := t.2.2) (by omega) (swp_bd (by omega) (i := t.2.2) (k := f) h1)
    have ku := gt_bd (by omega) k t.2.2
    refine ⟨ccF_bd hB k ku, ccF_bd hB h2 ku, ?_, ?_⟩
    · show ((turnAt col t.2.2 (swp t.1 t.2.2 f)).mapIdx _).length = _
      rw [List.length_mapIdx]
      unfold turnAt swp
      split <;> simp
    · show (t.2.1.mapIdx _).length = _
      rw [List.length_mapIdx]
/-- one row and its opposite alone -/
theorem okFK_1 {as : List V3} {n : V3} (h : ∀ v ∈ as, v = n ∨ v = neg3 n) (hn : bdV 30 n) : okFK (cutA (e3, []) as) := by
  obtain ⟨hI, _⟩ := cutA_all as
  have par : ∀ a b, a ∈ as → b ∈ as → xp a b = O3 := fun a b ha hb => by
    rcases h a ha with rfl | rfl <;> rcases h b hb with rfl | rfl
    · exact xp_self _
    · rw [xp_anti, neg_par.mpr (xp_self _)]; rfl
    · exact neg_par.mpr (xp_self _)
    · exact xp_self _
  have hb : ∀ a, a ∈ as → bdV 30 a := fun a ha => by
    rcases h a ha with rfl | rfl
    · exact hn
    · exact bdV_neg hn
  obtain ⟨bE, bL⟩ := hI.bound (R := 30) (by omega) hb
  have hI' := hI
  obtain ⟨⟨_, a2, a3, _⟩, _, _, d, _⟩ := hI'
  generalize hs : cutA (e3, []) as = s at *
  have h2 : 2 ≤ s.1.length := by
    refine Classical.byContradiction fun q => ?_
    by_cases c : s.1.length = 0
    · rw [c] at a3
      obtain ⟨x, y, z, hx, hy, hz, hd⟩ := a3
      refine hd ?_
      unfold d3
      rw [par y z hy hz, dot_0]
    · have c : s.1.length = 1 := by omega
      rw [c] at a3
      obtain ⟨x, y, hx, hy, hd⟩ := a3
      exact hd (par x y hx hy)
  have hne : s.1 ≠ [] := fun q => by rw [q] at h2; simp at h2
  have c1 : ∀ v ∈ s.1, bdV 30 v := fun v hv => (bL v hv).2 h2
  have c2 : ∀ v ∈ s.2, bdV 30 v := fun v hv => (bE v hv).2 hne
  obtain ⟨e1, e2, e3', e4⟩ := st1_bd (B := 30) (by omega) (col := 1) (t := (s.1, s.2, 0)) c1 c2
  obtain ⟨f1, f2, f3, f4⟩ := st1_bd (B := 2 * (30 * 30)) (by omega) (col := 2) (t := st1 1 (s.1, s.2, 0)) e1 e2
  have dl := d hne
  refine ⟨⟨fun v hv => bdV_mono (by decide) (c1 v hv), fun v hv => bdV_mono (by decide) (c2 v hv), fun v hv => bdV_mono (by decide) (e1 v hv), fun v hv => bdV_mono (by decide) (e2 v hv), fun v hv => bdV_mono (by decide) (f1 v hv), fun v hv => bdV_mono (by decide) (f2 v hv)⟩, fun hs => okFK_2 ?_ hs⟩
  have k1 : (stK s).1.length = s.1.length := f3.trans e3'
  have k2 : (stK s).2.length = ((stt s.1 s.2).2.1.filter nid).length := (sortE_perm 0 _).length_eq
  have k3 := List.length_filter_le nid (stt s.1 s.2).2.1
  have k4 : (stt s.1 s.2).2.1.length = s.2.length := f4.trans e4
  omega
theorem Ce_iff {as bs : List V3} (h : ∀ v, v ≠ O3 → (v ∈ as ↔ v ∈ bs)) : ∀ x, Ce (fun v => v ∈ as) x ↔ Ce (fun v => v ∈ bs) x := by
  have k : ∀ {l m : List V3}, (∀ v, v ≠ O3 → (v ∈ l ↔ v ∈ m)) → ∀ x, Ce (fun v => v ∈ l) x → Ce (fun v => v ∈ m) x := fun h x hx v hv => by
    by_cases c : v = O3
    · rw [c, dot_comm, dot_0]; omega
    · exact hx v ((h v c).mpr hv)
  exact fun x => ⟨k h x, k (fun v c => (h v c).symm) x⟩
def xsB (b : Bool) (n : V3) : List V3 := if b = true then [n, neg3 n] else [n]
theorem mem_xs {b : Bool} {n v : V3} : v ∈ xsB b n ↔ v = n ∨ (b = true ∧ v = neg3 n) := by
  unfold xsB
  cases b <;> simp
theorem xs_bd {B : Int} {b : Bool} {n : V3} (h : bdV B n) : ∀ v ∈ xsB b n, bdV B v := fun v hv => by
  rcases mem_xs.mp hv with rfl | ⟨_, rfl⟩
  · exact h
  · exact bdV_neg h
theorem xs_len (b : Bool) (n : V3) : (xsB b n).length ≤ 2 := by unfold xsB; cases b <;> simp
theorem mem_acF {K : List V3} {w v : V3} {b : Bool} : v ∈ acF K w b ↔ v ∈ K ∨ (w ≠ O3 ∧ v ∈ xsB b w) := by
  unfold acF
  rw [mem_xs]
  split
  · rename_i c
    exact ⟨Or.inl, fun q => q.elim id fun q => absurd c q.1⟩
  · rename_i c
    cases b <;> simp [c, or_assoc]
theorem len_acF (K : List V3) (w : V3) (b : Bool) : (acF K w b).length ≤ K.length + 2 := by
  unfold acF
  split
  · omega
  · split <;> simp
theorem mem_acL {b : Bool} {v : V3} : ∀ {vs C : List V3}, v ∈ acL b C vs ↔ v ∈ C ∨ ∃ w, w ∈ vs ∧ w ≠ O3 ∧ v ∈ xsB b w
  | [], C => ⟨Or.inl, fun q => q.elim id fun ⟨_, q, _⟩ => absurd q List.not_mem_nil⟩
  | w :: vs, C => by
    show v ∈ acL b (acF C w b) vs ↔ _
    rw [mem_acL, mem_acF]
    constructor
    · rintro ((q | q) | ⟨w', h1, h2⟩)
      · exact Or.inl q
      · exact Or.inr ⟨w, List.mem_cons_self, q⟩
      · exact Or.inr ⟨w', List.mem_cons_of_mem _ h1, h2⟩
    · rintro (q | ⟨w', h1, h2⟩)
      · exact Or.inl (Or.inl q)
      · rcases List.mem_cons.mp h1 with rfl | h1
        · exact Or.inl (Or.inr h2)
        · exact Or.inr ⟨w', h1, h2⟩
theorem len_acL (b : Bool) : ∀ (vs C : List V3), (acL b C vs).length ≤ C.length + 2 * vs.length
  | [], C => by show C.length ≤ _; omega
  | w :: vs, C => by
    show (acL b (acF C w b) vs).length ≤ _
    have := len_acL b vs (acF C w b)
    have := len_acF C w b
    rw [List.length_cons]
    omega
theorem mem_cnL {C : List V3} {T : Tab} {s : Nat} (h : Rok (T s)) {v : V3} : v ∈ cnL C T s ↔ v ∈ C ∨ v ∈ rowsC (T s 0) (T s 1) := by
  unfold cnL
  rw [mem_acL, mem_acL, mem_rowsC, or_assoc]
  refine or_congr Iff.rfl (or_congr ?_ ?_)
  · constructor
    · rintro ⟨w, h1, _, h3⟩
      exact ⟨w, h1, (mem_xs.mp h3).imp id fun q => q.2⟩
    · rintro ⟨w, h1, h3⟩
      exact ⟨w, h1, (h.1 0 (by omega) w h1).2, mem_xs.mpr (h3.imp id fun q => ⟨rfl, q⟩)⟩
  · constructor
    · rintro ⟨w, h1, _, h3⟩
      rcases mem_xs.mp h3 with rfl | q
      · exact h1
      · cases q.1
    · intro q
      exact ⟨v, q, (h.1 1 (by omega) v q).2, mem_xs.mpr (Or.inl rfl)⟩
theorem len_cnL {C : List V3} {T : Tab} {s : Nat} (h : Rok (T s)) : (cnL C T s).length ≤ C.length + 28 := by
  unfold cnL
  have a := len_acL false (T s 1) (acL true C (T s 0))
  have b := len_acL true (T s 0) C
  have := h.2.1
  have := h.2.2.1
  omega
theorem cn_ne {t : Nat → List V3} (h : Rok t) : ∀ v ∈ rowsC (t 0) (t 1), v ≠ O3 := rows_ne (fun v hv => (h.1 0 (by omega) v hv).2) fun v hv => (h.1 1 (by omega) v hv).2
theorem cn_bd {t : Nat → List V3} (h : Rok t) : ∀ v ∈ rowsC (t 0) (t 1), bdV 2700 v := rows_bd (fun v hv => bd_30 (h.1 0 (by omega) v hv).1) fun v hv => bd_30 (h.1 1 (by omega) v hv).1
theorem cn_len {t : Nat → List V3} (h : Rok t) : (rowsC (t 0) (t 1)).length ≤ 16 := by
  rw [rowsC_len]
  have := h.2.1
  have := h.2.2.1
  omega
theorem gn_bd {t : Nat → List V3} (h : Rok t) : ∀ v ∈ rowsC (t 2) (t 3 ++ t 4), bdV 2700 v := rows_bd (fun v hv => bd_30 (h.1 2 (by omega) v hv).1) fun v hv => (List.mem_append.mp hv).elim (fun q => bd_30 (h.1 3 (by omega) v q).1) (fun q => bd_30 (h.1 4 (by omega) v q).1)
theorem gn_len {t : Nat → List V3} (h : Rok t) : (rowsC (t 2) (t 3 ++ t 4)).length ≤ 16 := by
  rw [rowsC_len, List.length_append]
  have := h.2.2.2.1
  have := h.2.2.2.2.1
  omega
theorem gn_w {t : Nat → List V3} (h : Rok t) : ∀ v ∈ rowsC (t 2) (t 3 ++ t 4), 0 ≤ v.1 := fun v hv => by
  rcases mem_rowsC.mp hv with ⟨l, hl, q⟩ | q
  · have := h.2.2.2.2.2.1 l hl
    rcases q with rfl | rfl
    · omega
    · show 0 ≤ -l.1; omega
  · rcases List.mem_append.mp q with q | q
    · have := h.2.2.2.2.2.2.1 v q; omega
    · have := h.2.2.2.2.2.2.2.1 v q; omega
theorem gn_pt {t : Nat → List V3} (h : Rok t) (h4 : t 4 ≠ []) : ∃ p, p ∈ rowsC (t 2) (t 3 ++ t 4) ∧ 0 < p.1 := by
  obtain ⟨p, hp⟩ := List.exists_mem_of_ne_nil _ h4
  exact ⟨p, mem_rowsC.mpr (Or.inr (List.mem_append_right _ hp)), h.2.2.2.2.2.2.2.1 p hp⟩
theorem shO_emp {t : Nat → List V3} (h : Rok t) (h4 : t 4 = []) : shO t = emp := by
  have e := h.2.2.2.2.2.2.2.2 h4
  unfold shO
  rw [e 0 (by omega), e 1 (by omega), e 2 (by omega), e 3 (by omega), e 4 (by omega)]; rfl
theorem cbc_emp (s : LE) : cbc s emp = ([], []) := rfl
theorem cbc_ne {t : Nat → List V3} (h : Rok t) (h4 : t 4 ≠ []) (s : LE) : cbc s (shO t) = cutA s (rowsC (t 0) (t 1)) := by
  unfold cbc
  rw [if_neg (fun q => h4 ((emp_iff h).mp q))]
  rfl
theorem xs_if (b : Bool) (n : V3) : (if bI01 b = 0 then [n] else [n, neg3 n]) = xsB b n := by cases b <;> rfl
theorem cst_cut (W : AW) (t : Nat) (b : Bool) : cstS W t (bI01 b) = cutA (cbc pl0 (gS W t)) (xsB b (N3 W)) := by cases b <;> rfl
theorem gn_cut (W : AW) (t : Nat) (b : Bool) : gnS W t (bI01 b) = cutA (cutA (e3, []) (rowsC (gS W t).2.1 (gS W t).2.2)) (xsB b (N3 W)) := by cases b <;> rfl
theorem e0_27 : bdV 2700 ((1, 0, 0) : V3) := e0_bd (by omega)
theorem g5_ok : ∀ W a i b, LK W a → i < 4 → okCst W (W.2.2.2.1 i) (bI01 b) ∧ (cnL [] a.1 i).length ≤ 598 ∧ (a.2.2.1 = 3 → (a.1 i 4 ≠ [] → okC2 (cstL a i b)) ∧ AgF LK (finG (cstS W (W.2.2.2.1 i) (bI01 b))) (rCst a (nI i) b) W a i 0 3) := fun W a i b h hi => by
  obtain ⟨e, hR⟩ := h.2.2.1 i hi
  have hl := len_cnL (C := []) hR
  have nb := h.n3b
  have n27 : bdV 2700 (num3 a) := bd_30 nb
  unfold okCst
  rw [cst_cut, xs_if, e, h.n3]
  unfold rCst
  rw [if_neg (show ¬ slotB (nI i) = false by rw [slot_i hi]; simp), nI_clamp (by omega)]
  by_cases h4 : a.1 i 4 = []
  · rw [shO_emp hR h4, cbc_emp, cutA_nil]
    refine ⟨⟨okC_nil, okR_nil (xs_bd n27), okFG_nil.1, okFG_nil.2⟩, by simp at hl; omega, fun h3 => ⟨fun q => absurd h4 q, ?_⟩⟩
    rw [if_neg (fun q => q h3), if_pos h4, finG_nil]
    refine ag_emp h hi (by omega) (fun s k hs hk => ?_) 3
    split
    · rename_i c
      rw [c]; exact hR.2.2.2.2.2.2.2.2 h4 k hk
    · rfl
  · rw [cbc_ne hR h4, cutA_pl0, ← cutA_app, if_neg (fun q => h4 ((emp_iff hR).mp q))]
    have cb := cn_bd hR
    have cl := cn_len hR
    have xl := xs_len b (num3 a)
    have asb : ∀ v ∈ (1, 0, 0) :: rowsC (a.1 i 0) (a.1 i 1) ++ xsB b (num3 a), bdV 2700 v := fun v hv => by
      rcases List.mem_append.mp hv with q | q
      · rcases List.mem_cons.mp q with rfl | q
        · exact e0_27
        · exact cb v q
      · exact xs_bd n27 v q
    have asl : ((1, 0, 0) :: rowsC (a.1 i 0) (a.1 i 1) ++ xsB b (num3 a)).length ≤ 19 := by
      rw [List.length_append, List.length_cons]; omega
    have he : ((1, 0, 0) : V3) ∈ (1, 0, 0) :: rowsC (a.1 i 0) (a.1 i 1) ++ xsB b (num3 a) := by simp
    have l1 := (cutA_all ((1, 0, 0) :: rowsC (a.1 i 0) (a.1 i 1) ++ xsB b (num3 a))).2
    have l2 := (cutA_all ((1, 0, 0) :: rowsC (a.1 i 0) (a.1 i 1))).2
    rw [List.length_cons] at l2
    have fg := okFG_as he asb (by omega) (by omega)
    have C0 : ∀ k ∈ cstL a i b, k ≠ O3 ∧ bdV 2700 k := fun k hk => by
      rcases mem_acF.mp hk with q | ⟨q1, q2⟩
      · rcases (mem_cnL hR).mp q with q | q
        · exact absurd q List.not_mem_nil
        · exact ⟨cn_ne hR k q, cb k q⟩
      · refine ⟨?_, xs_bd n27 k q2⟩
        rcases mem_xs.mp q2 with rfl | ⟨_, rfl⟩
        · exact q1
        · exact neg_O q1
    have Cl : (cstL a i b).length ≤ 30 := by
      have := len_acF (cnL [] a.1 i) (num3 a) b
      have : (cstL a i b).length ≤ (cnL [] a.1 i).length + 2 := this
      simp at hl; omega
    have hC2 := okC2_of (fun k hk => (C0 k hk).1) (fun k hk => (C0 k hk).2) (by omega)
    refine ⟨⟨okR_pl0 cb (by show (rowsC (a.1 i 0) (a.1 i 1)).length ≤ 47; omega), okR_as (fun v hv => asb v (List.mem_append_left _ hv)) (xs_bd n27) (by omega), fg.1, fg.2⟩, by simp at hl; omega, fun h3 => ⟨fun _ => hC2, ?_⟩⟩
    rw [if_neg (fun q => q h3), if_neg h4]
    obtain ⟨r1, r2⟩ := agC (C := cstL a i b) (as := (1, 0, 0) :: rowsC (a.1 i 0) (a.1 i 1) ++ xsB b (num3 a)) (fun k hk => (C0 k hk).1) (by omega) (by have := hC2.2.2.1; omega) he (by omega) (Ce_iff fun v v0 => by
      unfold cstL
      rw [List.mem_append, List.mem_cons, List.mem_append, mem_acF, mem_cnL hR, List.mem_singleton]
      constructor
      · rintro ((q | q) | q)
        · exact Or.inr q
        · exact Or.inl (Or.inl (Or.inr q))
        · refine Or.inl (Or.inr ⟨fun z => v0 ?_, q⟩)
          rcases mem_xs.mp q with q | ⟨_, q⟩
          · rw [q, z]
          · rw [q, z]; rfl
      · rintro (((q | q) | q) | q)
        · exact absurd q List.not_mem_nil
        · exact Or.inl (Or.inr q)
        · exact Or.inr q.2
        · exact Or.inl (Or.inl q))
    exact (ag_fin h hi r1 r2 3).1
theorem len_agL : ∀ (vs G : List V3), (agL G vs).length ≤ G.length + vs.length
  | [], G => by show G.length ≤ _; omega
  | w :: vs, G => by
    show (agL (agF G w) vs).length ≤ _
    have := len_agL vs (agF G w)
    have : (agF G w).length ≤ G.length + 1 := by
      unfold agF
      split <;> simp
    rw [List.length_cons]
    omega
theorem len_gnL {T : Tab} {s : Nat} (h : Rok (T s)) : (gnL T s).length ≤ 16 := by
  unfold gnL lnG
  rw [List.length_append, List.length_append]
  have a := h.2.2.2.1
  have b := h.2.2.2.2.1
  have : ∀ l : List V3, (l.flatMap fun v => [v, (0, -v.2.1, -v.2.2)]).length = 2 * l.length := fun l => by
    induction l with
    | nil => rfl
    | cons x l ih => rw [List.flatMap_cons, List.length_append, ih, List.length_cons]; simp; omega
  rw [this]
  omega
theorem mem_agF {G : List V3} {w v : V3} : v ∈ agF G w ↔ v ∈ G ∨ (v = w ∧ v ≠ O3) := by
  have := mem_agL (v := v) (vs := [w]) (G := G)
  rw [List.mem_singleton] at this
  exact this
theorem len_agF (G : List V3) (w : V3) : (agF G w).length ≤ G.length + 1 := len_agL [w] G
theorem mem_genL {a : RSt} {i : Nat} {b : Bool} (h : Rok (a.1 i)) (hb : b = true → a.2.1 0 = 0) {v : V3} : v ∈ genL a i b ↔ v ∈ rowsC (a.1 i 2) (a.1 i 3 ++ a.1 i 4) ∨ (v ∈ xsB b (num3 a) ∧ v ≠ O3) := by
  unfold genL
  rw [mem_xs]
  cases b with
  | false => simp [mem_agF, mem_agn h]
  | true =>
    have e : ((0, -(a.2.1 1), -(a.2.1 2)) : V3) = neg3 (num3 a) := by
      unfold neg3 num3
      rw [hb rfl]; rfl
    rw [if_pos rfl, mem_agF, mem_agF, mem_agn h, e, or_assoc]
    simp [or_and_right]
theorem g6_ok : ∀ W a i b, LK W a → i < 4 → okGen W (W.2.2.2.1 i) (bI01 b) ∧ (agL [] (gnL a.1 i)).length ≤ 598 ∧ (¬ gnBad a b → ((gS W (W.2.2.2.1 i)).2.2 = [] ↔ a.1 i 4 = []) ∧ (¬ (a.1 i 4 = [] ∧ a.2.1 0 = 0) → okG2 (genL a i b) ∧ AgF LK (finK (gnS W (W.2.2.2.1 i) (bI01 b))) (rGen a (nI i) b) W a i 0 4)) := fun W a i b h hi => by
  obtain ⟨e, hR⟩ := h.2.2.1 i hi
  have nb := h.n3b
  have n27 : bdV 2700 (num3 a) := bd_30 nb
  have gb := gn_bd hR
  have gl := gn_len hR
  have xl := xs_len b (num3 a)
  have gl2 := len_gnL hR
  have gl3 := len_agL (gnL a.1 i) []
  rw [List.length_nil] at gl3
  have asb : ∀ v ∈ rowsC (a.1 i 2) (a.1 i 3 ++ a.1 i 4) ++ xsB b (num3 a), bdV 2700 v := fun v hv => by
    rcases List.mem_append.mp hv with q | q
    · exact gb v q
    · exact xs_bd n27 v q
  have asl : (rowsC (a.1 i 2) (a.1 i 3 ++ a.1 i 4) ++ xsB b (num3 a)).length ≤ 18 := by rw [List.length_append]; omega
  have l1 := (cutA_all (rowsC (a.1 i 2) (a.1 i 3 ++ a.1 i 4) ++ xsB b (num3 a))).2
  have l2 := (cutA_all (rowsC (a.1 i 2) (a.1 i 3 ++ a.1 i 4))).2
  unfold okGen
  rw [gn_cut, xs_if, e, h.n3]
  show (okR (e3, []) (rowsC (a.1 i 2) (a.1 i 3 ++ a.1 i 4)) ∧ okR (cutA (e3, []) (rowsC (a.1 i 2) (a.1 i 3 ++ a.1 i 4))) (xsB b (num3 a)) ∧ okFK (cutA (cutA (e3, []) (rowsC (a.1 i 2) (a.1 i 3 ++ a.1 i 4))) (xsB b (num3 a)))) ∧ _
  rw [← cutA_app]
  refine ⟨⟨okR_e3 gb (by omega), okR_as gb (xs_bd n27) (by omega), ?_⟩, by omega, fun hbad => ⟨emp_iff hR, fun hne => ?_⟩⟩
  · by_cases h4 : a.1 i 4 = []
    · refine okFK_1 (n := num3 a) (fun v hv => ?_) nb
      rcases List.mem_append.mp hv with q | q
      · rw [hR.2.2.2.2.2.2.2.2 h4 2 (by omega), hR.2.2.2.2.2.2.2.2 h4 3 (by omega), h4] at q
        exact absurd q List.not_mem_nil
      · exact (mem_xs.mp q).imp id fun q => q.2
    · obtain ⟨p, hp, p0⟩ := gn_pt hR h4
      exact okFK_as (List.mem_append_left _ hp) (by omega) asb (by omega) (by omega)
  · have hbad : ¬ (a.2.2.1 ≠ 3 ∨ a.2.1 0 < 0 ∨ (a.2.1 0 = 0 ∧ a.2.1 1 = 0 ∧ a.2.1 2 = 0) ∨ (0 < a.2.1 0 ∧ b = true)) := hbad
    have n0 : 0 ≤ a.2.1 0 := by omega
    have hb0 : b = true → a.2.1 0 = 0 := fun q => Classical.byContradiction fun z => hbad (Or.inr (Or.inr (Or.inr ⟨by omega, q⟩)))
    have mem := fun v => mem_genL (v := v) hR hb0
    have G0 : ∀ g ∈ genL a i b, g ≠ O3 ∧ 0 ≤ g.1 ∧ bdV 2700 g := fun g hg => by
      rcases (mem g).mp hg with q | ⟨q, q'⟩
      · exact ⟨gn_ne hR g q, gn_w hR g q, gb g q⟩
      · refine ⟨q', ?_, xs_bd n27 g q⟩
        rcases mem_xs.mp q with rfl | ⟨z, rfl⟩
        · exact n0
        · show 0 ≤ -(a.2.1 0)
          rw [hb0 z]; decide
    have Gl : (genL a i b).length ≤ 18 := by
      unfold genL
      have k1 := len_agF (agL [] (gnL a.1 i)) (num3 a)
      split
      · have k2 := len_agF (agF (agL [] (gnL a.1 i)) (num3 a)) (0, -(a.2.1 1), -(a.2.1 2))
        omega
      · omega
    have hpt : ∃ g, g ∈ genL a i b ∧ 0 < g.1 := by
      by_cases h4 : a.1 i 4 = []
      · have : 0 < (num3 a).1 := by
          show 0 < a.2.1 0
          have : a.2.1 0 ≠ 0 := fun z => hne ⟨h4, z⟩
          omega
        exact ⟨num3 a, (mem _).mpr (Or.inr ⟨mem_xs.mpr (Or.inl rfl), fun z => by rw [z] at this; exact absurd this (by simp)⟩), this⟩
      · obtain ⟨p, hp, p0⟩ := gn_pt hR h4
        exact ⟨p, (mem p).mpr (Or.inl hp), p0⟩
    have hG2 := okG2_of (fun g hg => (G0 g hg).1) (fun g hg => (G0 g hg).2.1) (fun g hg => (G0 g hg).2.2) (by omega)
    refine ⟨hG2, ?_⟩
    have hpB' : hpB (genL a i b) = true := by
      obtain ⟨p, hpG, p0⟩ := hpt
      exact List.any_eq_true.mpr ⟨p, hpG, decide_eq_true p0⟩
    obtain ⟨r1, r2⟩ := agG (G := genL a i b) (as := rowsC (a.1 i 2) (a.1 i 3 ++ a.1 i 4) ++ xsB b (num3 a)) (fun g hg => (G0 g hg).1) (fun g hg => (G0 g hg).2.1) (by omega) (by have := (hG2.2.2.1 hpB').1; omega) hpt (by omega) (fun v v0 => by
      rw [List.mem_append, mem v]
      exact or_congr Iff.rfl ⟨fun q => ⟨q, v0⟩, fun q => q.1⟩)
    unfold rGen
    rw [if_neg (show ¬ slotB (nI i) = false by rw [slot_i hi]; simp), nI_clamp (by omega), if_neg hbad, if_neg hne]
    rw [cutA_app] at r1
    exact (ag_fin h hi r1 r2 4).1
