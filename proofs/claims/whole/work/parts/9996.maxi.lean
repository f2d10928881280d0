/-! MAXIMUM: the class beside the reference -/
theorem LK.lat {W : AW} {a : RSt} (h : LK W a) {x p q : Int32} {bd : Bool} {t b : Int} (hx : x = 2 ↔ bd = true) (hg : bd = true → p = Int32.ofInt t ∧ q = Int32.ofInt b) : LK (W.1, 0, W.2.2.1, W.2.2.2.1, W.2.2.2.2.1, x, p, q) (a.1, a.2.1, 0, bd, t, b) := by
  obtain ⟨⟨⟨o1, o2, o3⟩, b2, b3, b4, b5, b6⟩, hj, hs, _⟩ := h
  exact ⟨⟨⟨o1, o2, by show 0 ≤ 6; omega⟩, rfl, b3, b4, b5, hx⟩, hj, hs, hg⟩
theorem dot_ab (v : V3) (A B : Int) : dot v (0, A, B) = A * v.2.1 + B * v.2.2 := by unfold dot; grind
section MXS
variable {A B : Int}
theorem mxS_skip : ∀ {l r : List V3} {f : Bool} {t b : Int}, (∀ g ∈ l, g.1 = 0 ∧ ¬ 0 < A * g.2.1 + B * g.2.2) → mxS A B (l ++ r) f t b = mxS A B r f t b
  | [], _, _, _, _, _ => rfl
  | g :: l, r, f, t, b, h => by
    have hg := h g List.mem_cons_self
    have ih := mxS_skip (r := r) (f := f) (t := t) (b := b) fun g' q => h g' (List.mem_cons_of_mem g q)
    rw [← ih]
    show mxS A B (g :: (l ++ r)) f t b = mxS A B (l ++ r) f t b
    rw [mxS, if_neg (fun q => hg.2 q.2), if_pos (Or.inl hg.1)]
theorem mxS_hit : ∀ {l r : List V3} {f : Bool} {t b : Int}, (∀ g ∈ l, g.1 = 0) → (∃ g, g ∈ l ∧ 0 < A * g.2.1 + B * g.2.2) → (mxS A B (l ++ r) f t b).1 = 1
  | [], _, _, _, _, _, h => by obtain ⟨_, h, _⟩ := h; exact absurd h List.not_mem_nil
  | g :: l, r, f, t, b, h0, h => by
    have hg := h0 g List.mem_cons_self
    show (mxS A B (g :: (l ++ r)) f t b).1 = 1
    unfold mxS
    by_cases c : 0 < A * g.2.1 + B * g.2.2
    · rw [if_pos ⟨hg, c⟩]
    · rw [if_neg (fun q => c q.2), if_pos (Or.inl hg)]
      refine mxS_hit (fun g' q => h0 g' (List.mem_cons_of_mem _ q)) ?_
      obtain ⟨g', q1, q2⟩ := h
      rcases List.mem_cons.mp q1 with rfl | q1
      · exact absurd q2 c
      · exact ⟨g', q1, q2⟩
/-- the same greatest value, the reference's in lowest terms -/
def MxR (f : Bool) (t b : Int) (s : Int × Int) : Prop := (f = true ∧ s.2 = 0) ∨ (f = false ∧ 0 < s.2 ∧ t = s.1.tdiv (kgD s : Int) ∧ b = s.2.tdiv (kgD s : Int))
theorem kgD_pos {s : Int × Int} (h : 0 < s.2) : kgD s ≠ 0 := fun q => by
  unfold kgD at q
  have := (Nat.gcd_eq_zero_iff.mp q).2
  omega
theorem kgD_mul {s : Int × Int} : (kgD s : Int) * s.1.tdiv (kgD s : Int) = s.1 ∧ (kgD s : Int) * s.2.tdiv (kgD s : Int) = s.2 := by
  unfold kgD
  exact ⟨Int.mul_tdiv_cancel' (Int.ofNat_dvd_left.mpr (Nat.gcd_dvd_left _ _)), Int.mul_tdiv_cancel' (Int.ofNat_dvd_left.mpr (Nat.gcd_dvd_right _ _))⟩
theorem mxS_pts : ∀ {l : List V3} {f : Bool} {t b : Int} {s : Int × Int}, (∀ g ∈ l, 0 < g.1) → MxR f t b s → ∃ t' b', mxS A B l f t b = (2, t', b') ∧ MxR (f && l.isEmpty) t' b' (l.foldl (kgF A B) s)
  | [], f, t, b, s, _, h => ⟨t, b, rfl, by simpa using h⟩
  | g :: l, f, t, b, s, hp, h => by
    have hg := hp g List.mem_cons_self
    have hl := fun g' q => hp g' (List.mem_cons_of_mem g q)
    have upd : MxR false ((A * g.2.1 + B * g.2.2).tdiv (Nat.gcd (A * g.2.1 + B * g.2.2).natAbs g.1.natAbs : Nat)) (g.1.tdiv (Nat.gcd (A * g.2.1 + B * g.2.2).natAbs g.1.natAbs : Nat)) (A * g.2.1 + B * g.2.2, g.1) := Or.inr ⟨rfl, hg, rfl, rfl⟩
    rw [List.foldl_cons]
    unfold mxS
    rw [if_neg (fun q => by have := q.1; omega)]
    rcases h with ⟨rfl, h2⟩ | ⟨rfl, h1, h2, h3⟩
    · rw [if_neg (fun q => q.elim (fun q => by omega) (fun q => by cases q.1))]
      have e : kgF A B s g = (A * g.2.1 + B * g.2.2, g.1) := by
        unfold kgF
        rw [if_pos ⟨hg, Or.inl h2⟩, dot_ab]
      rw [e]
      obtain ⟨t', b', k1, k2⟩ := mxS_pts hl upd
      exact ⟨t', b', k1, by simpa using k2⟩
    · obtain ⟨m1, m2⟩ := kgD_mul (s := s)
      rw [← h2] at m1
      rw [← h3] at m2
      have dp : 0 < (kgD s : Int) := by have := kgD_pos h1; omega
      have key : s.1 * g.1 < (A * g.2.1 + B * g.2.2) * s.2 ↔ ¬ (A * g.2.1 + B * g.2.2) * b ≤ t * g.1 := by
        rw [← m1, ← m2]
        have e1 : (kgD s : Int) * t * g.1 = (kgD s : Int) * (t * g.1) := by rw [Int.mul_assoc]
        have e2 : (A * g.2.1 + B * g.2.2) * ((kgD s : Int) * b) = (kgD s : Int) * ((A * g.2.1 + B * g.2.2) * b) := by rw [← Int.mul_assoc, Int.mul_comm _ (kgD s : Int), Int.mul_assoc]
        rw [e1, e2]
        constructor
        · intro q
          have := Int.lt_of_mul_lt_mul_left q (show 0 ≤ (kgD s : Int) by omega)
          omega
        · intro q
          exact Int.mul_lt_mul_of_pos_left (by omega) dp
      by_cases c : (A * g.2.1 + B * g.2.2) * b ≤ t * g.1
      · rw [if_pos (Or.inr ⟨rfl, c⟩)]
        have e : kgF A B s g = s := by
          unfold kgF
          rw [dot_ab, if_neg]
          rintro ⟨_, q | q⟩
          · omega
          · exact key.mp q c
        rw [e]
        obtain ⟨t', b', k1, k2⟩ := mxS_pts (f := false) (t := t) (b := b) hl (Or.inr ⟨rfl, h1, h2, h3⟩)
        exact ⟨t', b', k1, by simpa using k2⟩
      · rw [if_neg (fun q => q.elim (fun q => by omega) (fun q => c q.2))]
        have e : kgF A B s g = (A * g.2.1 + B * g.2.2, g.1) := by
          unfold kgF
          rw [dot_ab, if_pos ⟨hg, Or.inr (key.mpr c)⟩]
        rw [e]
        obtain ⟨t', b', k1, k2⟩ := mxS_pts hl upd
        exact ⟨t', b', k1, by simpa using k2⟩
theorem kg_rays : ∀ {l : List V3} {s : Int × Int}, (∀ g ∈ l, g.1 = 0) → l.foldl (kgF A B) s = s
  | [], _, _ => rfl
  | g :: l, s, h => by
    rw [List.foldl_cons]
    have e : kgF A B s g = s := by
      unfold kgF
      rw [if_neg]
      rintro ⟨q, _⟩
      have := h g List.mem_cons_self
      omega
    rw [e]
    exact kg_rays fun g' q => h g' (List.mem_cons_of_mem _ q)
end MXS
theorem agL_id : ∀ {vs G : List V3}, (∀ v ∈ vs, v ≠ O3) → agL G vs = G ++ vs
  | [], G, _ => by show G = _; simp
  | v :: vs, G, h => by
    show agL (agF G v) vs = _
    have e : agF G v = G ++ [v] := if_neg (h v List.mem_cons_self)
    rw [e, agL_id fun w q => h w (List.mem_cons_of_mem _ q)]
    simp
theorem g9_ok : ∀ W a i, LK W a → i < 4 → a.2.2.1 = 2 → mxV W (W.2.2.2.1 i) = (rMax a (nI i)).2.1 ∧ LK (set0 (mxW W (W.2.2.2.1 i))) (rMax a (nI i)).2.2 := fun W a i h hi h2 => by
  obtain ⟨e, hR⟩ := h.2.2.1 i hi
  have n0 : nm W 0 = a.2.1 0 := h.1.2.2.1 0 (by omega)
  have n1 : nm W 1 = a.2.1 1 := h.1.2.2.1 1 (by omega)
  unfold rMax
  rw [if_neg (show ¬ slotB (nI i) = false by rw [slot_i hi]; simp), if_neg (fun q => q h2), nI_clamp (by omega)]
  unfold mxV mxW
  rw [e, n0, n1]
  by_cases h4 : a.1 i 4 = []
  · rw [if_pos ((emp_iff hR).mpr h4), if_pos ((emp_iff hR).mpr h4), if_pos h4]
    exact ⟨rfl, h.lat (by decide) (fun q => by cases q)⟩
  · rw [if_neg (fun q => h4 ((emp_iff hR).mp q)), if_neg (fun q => h4 ((emp_iff hR).mp q)), if_neg h4]
    have eG : agL [] (gnL a.1 i) = (lnG (a.1 i 2) ++ a.1 i 3) ++ a.1 i 4 := by
      rw [agL_id (fun v hv => gn_ne hR v ((mem_gnL hR).mp hv))]
      unfold gnL
      simp
    rw [eG]
    unfold mxR
    generalize hA : a.2.1 0 = A
    generalize hB : a.2.1 1 = B
    have er : rcV 1 (a.1 i 3 ++ a.1 i 4) = (a.1 i 3).length := rc_app hR.2.2.2.2.2.2.1 hR.2.2.2.2.2.2.2.1
    have z0 : ∀ g ∈ lnG (a.1 i 2) ++ a.1 i 3, g.1 = 0 := fun g hg => by
      rcases List.mem_append.mp hg with q | q
      · unfold lnG at q
        obtain ⟨v, hv, q⟩ := List.mem_flatMap.mp q
        have := hR.2.2.2.2.2.1 v hv
        rcases List.mem_cons.mp q with rfl | q
        · exact this
        · rw [List.mem_singleton.mp q]
      · exact hR.2.2.2.2.2.2.1 g q
    have clim : climB (shO (a.1 i)) A B = true ↔ ∃ g, g ∈ lnG (a.1 i 2) ++ a.1 i 3 ∧ 0 < A * g.2.1 + B * g.2.2 := by
      unfold climB
      show ((a.1 i 2).any _ || ((a.1 i 3 ++ a.1 i 4).take (rcV 1 (a.1 i 3 ++ a.1 i 4))).any _) = true ↔ _
      rw [er, List.take_left, Bool.or_eq_true, List.any_eq_true, List.any_eq_true]
      constructor
      · rintro (⟨v, hv, q⟩ | ⟨v, hv, q⟩)
        · have q := of_decide_eq_true q
          rw [dot_ab] at q
          by_cases c : 0 < A * v.2.1 + B * v.2.2
          · exact ⟨v, List.mem_append_left _ (List.mem_flatMap.mpr ⟨v, hv, by simp⟩), c⟩
          · refine ⟨(0, -v.2.1, -v.2.2), List.mem_append_left _ (List.mem_flatMap.mpr ⟨v, hv, by simp⟩), ?_⟩
            show 0 < A * -v.2.1 + B * -v.2.2
            rw [Int.mul_neg, Int.mul_neg]
            omega
        · have q := of_decide_eq_true q
          rw [dot_ab] at q
          exact ⟨v, List.mem_append_right _ hv, q⟩
      · rintro ⟨g, hg, q⟩
        rcases List.mem_append.mp hg with m | m
        · obtain ⟨v, hv, m⟩ := List.mem_flatMap.mp m
          refine Or.inl ⟨v, hv, decide_eq_true ?_⟩
          rw [dot_ab]
          rcases List.mem_cons.mp m with rfl | m
          · omega
          · rw [List.mem_singleton.mp m] at q
            have q : 0 < A * -v.2.1 + B * -v.2.2 := q
            rw [Int.mul_neg, Int.mul_neg] at q
            omega
        · exact Or.inr ⟨g, m, decide_eq_true (by rw [dot_ab]; exact q)⟩
    by_cases c : climB (shO (a.1 i)) A B = true
    · rw [if_pos c, if_pos c]
      have m1 := mxS_hit (A := A) (B := B) (r := a.1 i 4) (f := true) (t := a.2.2.2.2.1) (b := a.2.2.2.2.2) z0 (clim.mp c)
      generalize mxS A B ((lnG (a.1 i 2) ++ a.1 i 3) ++ a.1 i 4) true a.2.2.2.2.1 a.2.2.2.2.2 = R at m1
      obtain ⟨R1, R2, R3⟩ := R
      have m1 : R1 = 1 := m1
      subst m1
      exact ⟨rfl, h.lat (bd := false) (by decide) (fun q => by cases q)⟩
    · rw [if_neg c, if_neg c]
      rw [mxS_skip fun g hg => ⟨z0 g hg, fun q => c (clim.mpr ⟨g, hg, q⟩)⟩]
      obtain ⟨t', b', k1, k2⟩ := mxS_pts (A := A) (B := B) (l := a.1 i 4) (f := true) (t := a.2.2.2.2.1) (b := a.2.2.2.2.2) (s := (0, 0)) hR.2.2.2.2.2.2.2.1 (Or.inl ⟨rfl, rfl⟩)
      rw [k1]
      have ek : kgA A B (shO (a.1 i)).2.2 = (a.1 i 4).foldl (kgF A B) (0, 0) := by
        show (a.1 i 3 ++ a.1 i 4).foldl (kgF A B) (0, 0) = _
        rw [List.foldl_append, kg_rays hR.2.2.2.2.2.2.1]
      rw [ek]
      have hf : (true && (a.1 i 4).isEmpty) = false := by
        cases q : a.1 i 4 with
        | nil => exact absurd q h4
        | cons => rfl
      rw [hf] at k2
      generalize (a.1 i 4).foldl (kgF A B) (0, 0) = s at k2
      rcases k2 with ⟨q, _⟩ | ⟨_, k3, k4, k5⟩
      · cases q
      · refine ⟨rfl, ?_⟩
        unfold setTB
        rw [if_neg (kgD_pos k3), ← k4, ← k5]
        exact h.lat (bd := true) (x := 2) (by decide) (fun _ => ⟨Int64.toInt32_ofInt, Int64.toInt32_ofInt⟩)
