section DESK3
variable {sc : Scr} {d : Nat} {W : AW} {X h : PH} {t : Nat} {Q : Out → PH → Prop}
/-- no such number in a row -/
def jB (x : Int32) : Prop := x < 0 ∨ ¬ x ≤ 2
theorem j_cases (x : Int32) : jB x ∨ ∃ j : Nat, j < 3 ∧ x = nI j := by
  rcases pk_ix x (n := 3) (by decide) with h | h | h
  · exact Or.inl (Or.inl h)
  · refine Or.inl (Or.inr fun q => ?_)
    have h' : (3 : Int32) ≤ x := h
    rw [Int32.le_iff_toInt_le] at h' q
    have e5 : (3 : Int32).toInt = 3 := rfl
    have e4 : (2 : Int32).toInt = 2 := rfl
    omega
  · exact Or.inr h
theorem s_row (hr : RepS W X h) {x y i j : Int32} (ht : ∀ i, i < 4 → W.2.2.2.1 i < 5) (hb : ∀ i, i < 4 → ∀ v ∈ (gS W (W.2.2.2.1 i)).2.2, inV v)
    (hc5 : ∀ s k, s < 4 → k < 5 → cntS (gS W (W.2.2.2.1 s)) k < 100)
    (h0 : slB x ∨ jB j ∨ i < 0 → Q (.inr 0) h) (h1 : ¬ slB x → ¬ jB j → ¬ i < 0 → kdB y = false → Q (.inr 1) h)
    (h2 : ∀ s k, s < 4 → k < 5 → x = nI s → y = nI k → ¬ jB j → ¬ i < 0 → ¬ i < nI (cntS (gS W (W.2.2.2.1 s)) k) → Q (.inr 0) h)
    (h3 : ∀ s k i' j', s < 4 → k < 5 → i' < cntS (gS W (W.2.2.2.1 s)) k → j' < 3 → x = nI s → y = nI k → i = nI i' → j = nI j' → Q (.inl (some (.int (Int64.ofInt (cmp3 (celS (gS W (W.2.2.2.1 s)) k i') j')).toInt32))) h) : wpC sc (d + 7) 55 [.ref 0, .int x, .int y, .int i, .int j] h Q := by
  by_cases hx : slB x
  · refine enter rfl rfl (fun call hc => go hc 6 (fun K hK => ?_))
    conv => whnf
    refine ⟨_, hr.D, Nat.le_of_ble_eq_true rfl, ?_⟩
    conv => whnf
    refine callee hc (s_shapeBad hr hx ?_)
    conv => whnf
    exact ⟨rfl, rfl, h0 (Or.inl hx)⟩
  · obtain ⟨s, hs, rfl⟩ := (slot_cases x).resolve_left hx
    have hts := ht s hs
    refine enter rfl rfl (fun call hc => go hc 6 (fun K hK => ?_))
    conv => whnf
    refine ⟨_, hr.D, Nat.le_of_ble_eq_true rfl, ?_⟩
    conv => whnf
    refine callee hc (s_shapeAt hr hs ?_)
    conv => whnf
    have hbad : jB j → Runs (d + 6) call sc m_X3_row (qth (mTh m_X3_row) Q) 18 [(0, .ref 0), (1, .int (nI s)), (2, .int y), (3, .int i), (4, .int j), (5, .ref (sid (W.2.2.2.1 s)))] [] h 1 6 := fun q => by
      refine go hc 1 (fun K hK => ?_)
      conv => whnf
      exact ⟨by omega, Nat.le_of_ble_eq_true rfl, rfl, rfl, h0 (Or.inr (Or.inl q))⟩
    have hgo : ¬ jB j → Runs (d + 6) call sc m_X3_row (qth (mTh m_X3_row) Q) 28 [(0, .ref 0), (1, .int (nI s)), (2, .int y), (3, .int i), (4, .int j), (5, .ref (sid (W.2.2.2.1 s)))] [] h 1 6 := fun hj => by
      obtain ⟨j', hj', rfl⟩ := (j_cases j).resolve_left hj
      refine go hc 2 (fun K hK => ?_)
      conv => whnf
      by_cases hi : i < 0
      · refine ⟨fun c_ => absurd c_ (fun q => by rw [Int32.le_iff_toInt_le] at q; rw [Int32.lt_iff_toInt_lt] at hi; omega), fun c_ => ?_⟩
        conv => whnf
        refine hK _ _ _ _ _ _ (go hc 1 (fun K hK => ?_))
        conv => whnf
        exact ⟨by omega, Nat.le_of_ble_eq_true rfl, rfl, rfl, h0 (Or.inr (Or.inr hi))⟩
      · refine ⟨fun c_ => ?_, fun c_ => absurd (by rw [Int32.le_iff_toInt_le]; rw [Int32.lt_iff_toInt_lt] at hi; omega) c_⟩
        conv => whnf
        refine hK _ _ _ _ _ _ (go hc 3 (fun K hK => ?_))
        conv => whnf
        refine ⟨Nat.le_of_ble_eq_true rfl, ?_⟩
        conv => whnf
        refine callee hc (s_isKind ?_)
        conv => whnf
        rcases kd_cases y with hy | ⟨k, hk, rfl, hy⟩
        · rw [hy]
          refine ⟨fun c_ => ?_, fun c_ => absurd (rfl) c_⟩
          conv => whnf
          refine hK _ _ _ _ _ _ (go hc 1 (fun K hK => ?_))
          conv => whnf
          exact ⟨by omega, Nat.le_of_ble_eq_true rfl, rfl, rfl, h1 hx hj hi hy⟩
        · have hcn := hc5 s k hs hk
          rw [hy]
          refine ⟨fun c_ => absurd c_ (by decide), fun c_ => ?_⟩
          conv => whnf
          refine hK _ _ _ _ _ _ (go hc 5 (fun K hK => ?_))
          conv => whnf
          refine ⟨_, hr.S _ (by omega), Nat.le_of_ble_eq_true rfl, ?_⟩
          conv => whnf
          refine callee hc (s_countOf hr hts hk (hb s hs) ?_)
          conv => whnf
          by_cases hcc : i < nI (cntS (gS W (W.2.2.2.1 s)) k)
          · obtain ⟨i', hi', rfl⟩ : ∃ i' : Nat, i' < cntS (gS W (W.2.2.2.1 s)) k ∧ i = nI i' := by
              rcases pk_ix i (n := cntS (gS W (W.2.2.2.1 s)) k) (by omega) with q | q | q
              · exact absurd q hi
              · exact absurd hcc (by rw [Int32.lt_iff_toInt_lt]; rw [Int32.le_iff_toInt_le] at q; omega)
              · exact q
            refine ⟨fun c_ => ?_, fun c_ => absurd (hcc) c_⟩
            conv => whnf
            refine hK _ _ _ _ _ _ (go hc 7 (fun K hK => ?_))
            conv => whnf
            refine ⟨_, hr.S _ (by omega), Nat.le_of_ble_eq_true rfl, ?_⟩
            conv => whnf
            refine callee hc (s_cellOf hr hts hk hi' hj' (hb s hs) ?_)
            conv => whnf
            exact h3 s k i' j' hs hk hi' hj' rfl rfl rfl rfl
          · refine ⟨fun c_ => absurd c_ (hcc), fun c_ => ?_⟩
            conv => whnf
            refine hK _ _ _ _ _ _ (go hc 1 (fun K hK => ?_))
            conv => whnf
            exact ⟨by omega, Nat.le_of_ble_eq_true rfl, rfl, rfl, h2 s k hs hk rfl rfl hj hi hcc⟩
    by_cases c1 : j < 0
    · refine ⟨fun c_ => ?_, fun c_ => absurd (c1) c_⟩
      conv => whnf
      exact hK _ _ _ _ _ _ (hbad (Or.inl c1))
    · refine ⟨fun c_ => absurd c_ (c1), fun c_ => ?_⟩
      conv => whnf
      refine hK _ _ _ _ _ _ (go hc 3 (fun K hK => ?_))
      conv => whnf
      by_cases c2 : j ≤ 2
      · refine ⟨fun c_ => ?_, fun c_ => absurd (c2) c_⟩
        conv => whnf
        exact hK _ _ _ _ _ _ (hgo (fun q => q.elim c1 (fun q => q c2)))
      · refine ⟨fun c_ => absurd c_ (c2), fun c_ => ?_⟩
        conv => whnf
        exact hK _ _ _ _ _ _ (hbad (Or.inr c2))
/-- the first three numbers -/
def N3 (W : AW) : V3 := (nm W 0, nm W 1, nm W 2)
theorem s_has (hr : RepS W X h) {x : Int32} (hs : W.2.1 ≤ 6) (ht : ∀ i, i < 4 → W.2.2.2.1 i < 5) (hb : ∀ i, i < 4 → ∀ v, v ∈ (gS W (W.2.2.2.1 i)).1.2 ∨ v ∈ (gS W (W.2.2.2.1 i)).1.1 → inL (dot v (N3 W)))
    (h0 : slB x → Q (.inr 0) h) (h1 : ¬ slB x → (¬ W.2.1 = 3 ∨ ¬ 0 < W.2.2.1 0) → Q (.inr 1) h)
    (h2 : ∀ i, i < 4 → x = nI i → W.2.1 = 3 → 0 < W.2.2.1 0 → ∀ h, RepS (W.1, 0, W.2.2) X h → Q (.inl (some (.int (bI01 (decide (¬ (gS W (W.2.2.2.1 i)).2.2 = []) && alB (gS W (W.2.2.2.1 i)).1.1 (gS W (W.2.2.2.1 i)).1.2 (N3 W)))))) h) : wpC sc (d + 8) 51 [.ref 0, .int x] h Q := by
  by_cases hx : slB x
  · refine enter rfl rfl (fun call hc => go hc 12 (fun K hK => ?_))
    conv => whnf
    refine ⟨_, hr.D, Nat.le_of_ble_eq_true rfl, ?_⟩
    conv => whnf
    refine callee hc (s_shapeBad hr hx ?_)
    conv => whnf
    exact ⟨rfl, rfl, h0 hx⟩
  · obtain ⟨i, hi, rfl⟩ := (slot_cases x).resolve_left hx
    have hts := ht i hi
    by_cases h3 : W.2.1 = 3
    · refine enter rfl rfl (fun call hc => go hc 12 (fun K hK => ?_))
      conv => whnf
      refine ⟨_, hr.D, Nat.le_of_ble_eq_true rfl, ?_⟩
      conv => whnf
      refine callee hc (s_shapeAt hr hi ?_)
      conv => whnf
      refine ⟨_, hr.D, Nat.le_of_ble_eq_true rfl, ?_⟩
      conv => whnf
      refine callee hc (s_need hr (n := 3) h3 ?_)
      conv => whnf
      refine ⟨_, _, hr.D, rfl, ?_⟩
      conv => whnf
      refine Or.inr ⟨_, _, hr.N, vn0, ?_⟩
      rw [n0]
      conv => whnf
      by_cases hg : 0 < W.2.2.1 0
      · have hfin := h2 i hi rfl h3 hg
        have hb1 : ∀ v ∈ W.1 (2 * (2 * W.2.2.2.1 i) + 1), inL (dot v (N3 W)) := fun v hv => hb i hi v (Or.inl hv)
        have hb2 : ∀ v ∈ W.1 (2 * (2 * W.2.2.2.1 i)), inL (dot v (N3 W)) := fun v hv => hb i hi v (Or.inr hv)
        refine ⟨fun c_ => ?_, fun c_ => absurd (hg) c_⟩
        conv => whnf
        refine hK _ _ _ _ _ _ (go hc 6 (fun K hK => ?_))
        conv => whnf
        refine ⟨_, hr.D, Nat.le_of_ble_eq_true rfl, ?_⟩
        replace hr := hr.said 0
        conv => whnf
        refine ⟨_, hr.S _ (by omega), Nat.le_of_ble_eq_true rfl, ?_⟩
        conv => whnf
        refine callee hc (s_isEmpty hr hts ?_)
        conv => whnf
        by_cases he : W.1 (2 * (2 * W.2.2.2.1 i + 1) + 1) = []
        · rw [decide_eq_true he]
          refine ⟨fun c_ => absurd c_ (by decide), fun c_ => ?_⟩
          conv => whnf
          refine hK _ _ _ _ _ _ (go hc 2 (fun K hK => ?_))
          conv => whnf
          refine ⟨Or.inl rfl, ?_⟩
          have := hfin _ hr
          rw [show decide (¬ (gS W (W.2.2.2.1 i)).2.2 = []) = false from decide_eq_false (fun q => q he), Bool.false_and] at this
          exact this
        · rw [decide_eq_false he]
          refine ⟨fun c_ => ?_, fun c_ => absurd (rfl) c_⟩
          conv => whnf
          refine hK _ _ _ _ _ _ (go hc 19 (fun K hK => ?_))
          conv => whnf
          refine ⟨_, _, hr.S _ (by omega), rfl, ?_⟩
          conv => whnf
          refine ⟨_, _, hr.D, rfl, ?_⟩
          conv => whnf
          refine Or.inr ⟨_, _, hr.N, vn0, ?_⟩
          rw [n0]
          conv => whnf
          refine ⟨_, _, hr.D, rfl, ?_⟩
          conv => whnf
          refine Or.inr ⟨_, _, hr.N, vn1, ?_⟩
          rw [n1]
          conv => whnf
          refine ⟨_, _, hr.D, rfl, ?_⟩
          conv => whnf
          refine Or.inr ⟨_, _, hr.N, vn2, ?_⟩
          rw [n2]
          conv => whnf
          refine ⟨_, hr.C _ (by omega), Nat.le_of_ble_eq_true rfl, ?_⟩
          conv => whnf
          refine callee hc (s_allow hr (by omega) (N3 W) (i32l _) (i32l _) (i32l _) hb1 hb2 ?_)
          conv => whnf
          have hf := hfin _ hr
          rw [show decide (¬ (gS W (W.2.2.2.1 i)).2.2 = []) = true from decide_eq_true he, Bool.true_and] at hf
          by_cases hal : alB (gS W (W.2.2.2.1 i)).1.1 (gS W (W.2.2.2.1 i)).1.2 (N3 W) = true
          · rw [hal] at hf
            rw [show alB (((W.1, 0, W.2.2) : AW).1 (2 * (2 * W.2.2.2.1 i))) (((W.1, 0, W.2.2) : AW).1 (2 * (2 * W.2.2.2.1 i) + 1)) (N3 W) = true from hal]
            refine ⟨fun c_ => absurd c_ (by decide), fun c_ => ?_⟩
            conv => whnf
            refine hK _ _ _ _ _ _ (go hc 3 (fun K hK => ?_))
            conv => whnf
            exact ⟨Or.inr rfl, hf⟩
          · have hal := (Bool.not_eq_true _).mp hal
            rw [hal] at hf
            rw [show alB (((W.1, 0, W.2.2) : AW).1 (2 * (2 * W.2.2.2.1 i))) (((W.1, 0, W.2.2) : AW).1 (2 * (2 * W.2.2.2.1 i) + 1)) (N3 W) = false from hal]
            refine ⟨fun c_ => ?_, fun c_ => absurd (rfl) c_⟩
            conv => whnf
            refine hK _ _ _ _ _ _ (go hc 2 (fun K hK => ?_))
            conv => whnf
            exact ⟨Or.inl rfl, hf⟩
      · refine ⟨fun c_ => absurd c_ (hg), fun c_ => ?_⟩
        conv => whnf
        refine hK _ _ _ _ _ _ (go hc 1 (fun K hK => ?_))
        conv => whnf
        exact ⟨by omega, Nat.le_of_ble_eq_true rfl, rfl, rfl, h1 hx (Or.inr hg)⟩
    · refine enter rfl rfl (fun call hc => go hc 12 (fun K hK => ?_))
      conv => whnf
      refine ⟨_, hr.D, Nat.le_of_ble_eq_true rfl, ?_⟩
      conv => whnf
      refine callee hc (s_shapeAt hr hi ?_)
      conv => whnf
      refine ⟨_, hr.D, Nat.le_of_ble_eq_true rfl, ?_⟩
      conv => whnf
      refine callee hc (s_needBad hr hs (n := 3) (by omega) h3 ?_)
      conv => whnf
      exact ⟨rfl, rfl, h1 hx (Or.inl h3)⟩
theorem s_includes (hr : RepS W X h) {x y : Int32} (ht : ∀ i, i < 4 → W.2.2.2.1 i < 5)
    (hb : ∀ i k, i < 4 → k < 4 → ∀ a, a ∈ (gS W (W.2.2.2.1 k)).2.2 ∨ a ∈ (gS W (W.2.2.2.1 k)).2.1 → (∀ v ∈ (gS W (W.2.2.2.1 i)).1.2, inL (dot v a)) ∧ ∀ v ∈ (gS W (W.2.2.2.1 i)).1.1, inL (dot v a))
    (h0 : slB x ∨ slB y → Q (.inr 0) h)
    (h1 : ∀ i k, i < 4 → k < 4 → x = nI i → y = nI k → Q (.inl (some (.int (bI01 (decide ((gS W (W.2.2.2.1 k)).2.2 = []) || (decide (¬ (gS W (W.2.2.2.1 i)).2.2 = []) && aaB (gS W (W.2.2.2.1 i)).1.1 (gS W (W.2.2.2.1 i)).1.2 (gS W (W.2.2.2.1 k)).2.1 (gS W (W.2.2.2.1 k)).2.2)))))) h) : wpC sc (d + 8) 52 [.ref 0, .int x, .int y] h Q := by
  by_cases hx : slB x
  · refine enter rfl rfl (fun call hc => go hc 11 (fun K hK => ?_))
    conv => whnf
    refine ⟨_, hr.D, Nat.le_of_ble_eq_true rfl, ?_⟩
    conv => whnf
    refine callee hc (s_shapeBad hr hx ?_)
    conv => whnf
    exact ⟨rfl, rfl, h0 (Or.inl hx)⟩
  · obtain ⟨i, hi, rfl⟩ := (slot_cases x).resolve_left hx
    have hti := ht i hi
    by_cases hy : slB y
    · refine enter rfl rfl (fun call hc => go hc 11 (fun K hK => ?_))
      conv => whnf
      refine ⟨_, hr.D, Nat.le_of_ble_eq_true rfl, ?_⟩
      conv => whnf
      refine callee hc (s_shapeAt hr hi ?_)
      conv => whnf
      refine ⟨_, hr.D, Nat.le_of_ble_eq_true rfl, ?_⟩
      conv => whnf
      refine callee hc (s_shapeBad hr hy ?_)
      conv => whnf
      exact ⟨rfl, rfl, h0 (Or.inr hy)⟩
    · obtain ⟨k, hk, rfl⟩ := (slot_cases y).resolve_left hy
      have htk := ht k hk
      have hf := h1 i k hi hk rfl rfl
      have hbb := hb i k hi hk
      refine enter rfl rfl (fun call hc => go hc 11 (fun K hK => ?_))
      conv => whnf
      refine ⟨_, hr.D, Nat.le_of_ble_eq_true rfl, ?_⟩
      conv => whnf
      refine callee hc (s_shapeAt hr hi ?_)
      conv => whnf
      refine ⟨_, hr.D, Nat.le_of_ble_eq_true rfl, ?_⟩
      conv => whnf
      refine callee hc (s_shapeAt hr hk ?_)
      conv => whnf
      refine ⟨_, hr.S _ (by omega), Nat.le_of_ble_eq_true rfl, ?_⟩
      conv => whnf
      refine callee hc (s_isEmpty hr htk ?_)
      conv => whnf
      by_cases he : W.1 (2 * (2 * W.2.2.2.1 k + 1) + 1) = []
      · rw [show decide ((gS W (W.2.2.2.1 k)).2.2 = []) = true from decide_eq_true he, Bool.true_or] at hf
        rw [decide_eq_true he]
        refine ⟨fun c_ => absurd c_ (by decide), fun c_ => ?_⟩
        conv => whnf
        refine hK _ _ _ _ _ _ (go hc 2 (fun K hK => ?_))
        conv => whnf
        exact ⟨Or.inr rfl, hf⟩
      · rw [show decide ((gS W (W.2.2.2.1 k)).2.2 = []) = false from decide_eq_false he, Bool.false_or] at hf
        rw [decide_eq_false he]
        refine ⟨fun c_ => ?_, fun c_ => absurd (rfl) c_⟩
        conv => whnf
        refine hK _ _ _ _ _ _ (go hc 3 (fun K hK => ?_))
        conv => whnf
        refine ⟨_, hr.S _ (by omega), Nat.le_of_ble_eq_true rfl, ?_⟩
        conv => whnf
        refine callee hc (s_isEmpty hr hti ?_)
        conv => whnf
        by_cases he2 : W.1 (2 * (2 * W.2.2.2.1 i + 1) + 1) = []
        · rw [show decide (¬ (gS W (W.2.2.2.1 i)).2.2 = []) = false from decide_eq_false (fun q => q he2), Bool.false_and] at hf
          rw [decide_eq_true he2]
          refine ⟨fun c_ => absurd c_ (by decide), fun c_ => ?_⟩
          conv => whnf
          refine hK _ _ _ _ _ _ (go hc 2 (fun K hK => ?_))
          conv => whnf
          exact ⟨Or.inl rfl, hf⟩
        · rw [show decide (¬ (gS W (W.2.2.2.1 i)).2.2 = []) = true from decide_eq_true he2, Bool.true_and] at hf
          rw [decide_eq_false he2]
          refine ⟨fun c_ => ?_, fun c_ => absurd (rfl) c_⟩
          conv => whnf
          refine hK _ _ _ _ _ _ (go hc 6 (fun K hK => ?_))
          conv => whnf
          refine ⟨_, _, hr.S _ (by omega), rfl, ?_⟩
          conv => whnf
          refine ⟨_, _, hr.S _ (by omega), rfl, ?_⟩
          conv => whnf
          refine ⟨_, hr.C _ (by omega), Nat.le_of_ble_eq_true rfl, ?_⟩
          conv => whnf
          refine callee hc (s_allowAll hr (by omega) (by omega) (fun a ha => hbb a (Or.inl ha)) (fun a ha => hbb a (Or.inr ha)) ?_)
          conv => whnf
          by_cases hal : aaB (gS W (W.2.2.2.1 i)).1.1 (gS W (W.2.2.2.1 i)).1.2 (gS W (W.2.2.2.1 k)).2.1 (gS W (W.2.2.2.1 k)).2.2 = true
          · rw [hal] at hf
            rw [show aaB (W.1 (2 * (2 * W.2.2.2.1 i))) (W.1 (2 * (2 * W.2.2.2.1 i) + 1)) (W.1 (2 * (2 * W.2.2.2.1 k + 1))) (W.1 (2 * (2 * W.2.2.2.1 k + 1) + 1)) = true from hal]
            refine ⟨fun c_ => absurd c_ (by decide), fun c_ => ?_⟩
            conv => whnf
            refine hK _ _ _ _ _ _ (go hc 3 (fun K hK => ?_))
            conv => whnf
            exact ⟨Or.inr rfl, hf⟩
          · have hal := (Bool.not_eq_true _).mp hal
            rw [hal] at hf
            rw [show aaB (W.1 (2 * (2 * W.2.2.2.1 i))) (W.1 (2 * (2 * W.2.2.2.1 i) + 1)) (W.1 (2 * (2 * W.2.2.2.1 k + 1))) (W.1 (2 * (2 * W.2.2.2.1 k + 1) + 1)) = false from hal]
            refine ⟨fun c_ => ?_, fun c_ => absurd (rfl) c_⟩
            conv => whnf
            refine hK _ _ _ _ _ _ (go hc 2 (fun K hK => ?_))
            conv => whnf
            exact ⟨Or.inl rfl, hf⟩
theorem s_greatest (hr : RepS W X h) {x : Int32} (h1 : ¬ W.2.2.2.2.2.1 = 2 → Q (.inr 2) h) (h0 : W.2.2.2.2.2.1 = 2 → ¬ x = 0 → ¬ x = 1 → Q (.inr 0) h)
    (h2 : W.2.2.2.2.2.1 = 2 → x = 0 → Q (.inl (some (.int W.2.2.2.2.2.2.1))) h) (h3 : W.2.2.2.2.2.1 = 2 → x = 1 → Q (.inl (some (.int W.2.2.2.2.2.2.2))) h) : wpC sc (d + 6) 50 [.ref 0, .int x] h Q := by
  refine enter rfl rfl (fun call hc => go hc 4 (fun K hK => ?_))
  conv => whnf
  refine ⟨_, _, hr.D, rfl, ?_⟩
  conv => whnf
  by_cases c1 : W.2.2.2.2.2.1 = 2
  · refine ⟨fun c_ => ?_, fun c_ => absurd (c1) c_⟩
    conv => whnf
    refine hK _ _ _ _ _ _ (go hc 2 (fun K hK => ?_))
    conv => whnf
    by_cases c2 : x = 0
    · refine ⟨fun c_ => ?_, fun c_ => absurd (c2) c_⟩
      conv => whnf
      refine hK _ _ _ _ _ _ (go hc 2 (fun K hK => ?_))
      conv => whnf
      refine ⟨fun c_ => ?_, fun c_ => absurd (c2) c_⟩
      conv => whnf
      refine hK _ _ _ _ _ _ (go hc 4 (fun K hK => ?_))
      conv => whnf
      refine ⟨_, _, hr.D, rfl, ?_⟩
      conv => whnf
      exact h2 c1 c2
    · refine ⟨fun c_ => absurd c_ (c2), fun c_ => ?_⟩
      conv => whnf
      refine hK _ _ _ _ _ _ (go hc 3 (fun K hK => ?_))
      conv => whnf
      by_cases c3 : x = 1
      · refine ⟨fun c_ => ?_, fun c_ => absurd (c3) c_⟩
        conv => whnf
        refine hK _ _ _ _ _ _ (go hc 2 (fun K hK => ?_))
        conv => whnf
        refine ⟨fun c_ => absurd c_ (c2), fun c_ => ?_⟩
        conv => whnf
        refine hK _ _ _ _ _ _ (go hc 3 (fun K hK => ?_))
        conv => whnf
        refine ⟨_, _, hr.D, rfl, ?_⟩
        conv => whnf
        exact h3 c1 c3
      · refine ⟨fun c_ => absurd c_ (c3), fun c_ => ?_⟩
        conv => whnf
        refine hK _ _ _ _ _ _ (go hc 1 (fun K hK => ?_))
        conv => whnf
        exact ⟨by omega, Nat.le_of_ble_eq_true rfl, rfl, rfl, h0 c1 c2 c3⟩
  · refine ⟨fun c_ => absurd c_ (c1), fun c_ => ?_⟩
    conv => whnf
    refine hK _ _ _ _ _ _ (go hc 1 (fun K hK => ?_))
    conv => whnf
    exact ⟨by omega, Nat.le_of_ble_eq_true rfl, rfl, rfl, h1 c1⟩
end DESK3
