theorem n0 : (0 : Int32).toNatClampNeg = 0 := rfl
theorem n1 : (1 : Int32).toNatClampNeg = 1 := rfl
theorem n2 : (2 : Int32).toNatClampNeg = 2 := rfl
theorem n3 : (3 : Int32).toNatClampNeg = 3 := rfl
theorem n4 : (4 : Int32).toNatClampNeg = 4 := rfl
theorem n5 : (5 : Int32).toNatClampNeg = 5 := rfl
theorem vn0 : vp_in 0 6 := vp_in_nI (show 0 < 6 by decide) (by decide)
theorem vn1 : vp_in 1 6 := vp_in_nI (show 1 < 6 by decide) (by decide)
theorem vn2 : vp_in 2 6 := vp_in_nI (show 2 < 6 by decide) (by decide)
theorem vn3 : vp_in 3 6 := vp_in_nI (show 3 < 6 by decide) (by decide)
theorem vn4 : vp_in 4 6 := vp_in_nI (show 4 < 6 by decide) (by decide)
theorem vn5 : vp_in 5 6 := vp_in_nI (show 5 < 6 by decide) (by decide)
/-- no slot -/
def slB (x : Int32) : Prop := x < 0 ∨ ¬ x < 4
theorem slot_cases (x : Int32) : slB x ∨ ∃ i : Nat, i < 4 ∧ x = nI i := by
  rcases pk_ix x (n := 4) (by decide) with h | h | h
  · exact Or.inl (Or.inl h)
  · refine Or.inl (Or.inr fun q => ?_)
    have h' : (4 : Int32) ≤ x := h
    rw [Int32.le_iff_toInt_le] at h'
    rw [Int32.lt_iff_toInt_lt] at q
    omega
  · exact Or.inr h
section DESK2
variable {sc : Scr} {d : Nat} {W : AW} {X h : PH} {t : Nat} {Q : Out → PH → Prop}
theorem s_shapeBad (hr : RepS W X h) {x : Int32} (hx : slB x) (hQ : Q (.inr 0) h) : wpC sc (d + 6) 56 [.ref 0, .int x] h Q := by
  refine enter rfl rfl (fun call hc => go hc 2 (fun K hK => ?_))
  conv => whnf
  have hbad : Runs (d + 5) call sc m_X3_shapeAt (qth (mTh m_X3_shapeAt) Q) 9 [(0, .ref 0), (1, .int x)] [] h 1 6 := by
    refine go hc 1 (fun K hK => ?_)
    conv => whnf
    exact ⟨by omega, Nat.le_of_ble_eq_true rfl, rfl, rfl, hQ⟩
  by_cases c1 : x < 0
  · refine ⟨fun c_ => ?_, fun c_ => absurd (c1) c_⟩
    conv => whnf
    exact hK _ _ _ _ _ _ hbad
  · refine ⟨fun c_ => absurd c_ (c1), fun c_ => ?_⟩
    conv => whnf
    refine hK _ _ _ _ _ _ (go hc 3 (fun K hK => ?_))
    conv => whnf
    refine ⟨fun c_ => absurd c_ (hx.elim (fun q => absurd q c1) id), fun c_ => ?_⟩
    conv => whnf
    exact hK _ _ _ _ _ _ hbad
theorem s_shapeAt (hr : RepS W X h) {i : Nat} (hi : i < 4) (hQ : Q (.inl (some (.ref (sid (W.2.2.2.1 i))))) h) : wpC sc (d + 6) 56 [.ref 0, .int (nI i)] h Q := by
  refine enter rfl rfl (fun call hc => go hc 2 (fun K hK => ?_))
  conv => whnf
  refine ⟨fun c_ => absurd c_ (nI_pos (by omega)), fun c_ => ?_⟩
  conv => whnf
  refine hK _ _ _ _ _ _ (go hc 3 (fun K hK => ?_))
  conv => whnf
  refine ⟨fun c_ => ?_, fun c_ => absurd (nI_lt (b := 4) hi (by omega)) c_⟩
  conv => whnf
  refine hK _ _ _ _ _ _ (go hc 5 (fun K hK => ?_))
  conv => whnf
  refine ⟨_, _, hr.D, rfl, ?_⟩
  conv => whnf
  refine ⟨_, _, _, hr.T, vp_in_nI (by omega) (by omega), slf_get (by omega) (nI_clamp (by omega)), ?_⟩
  conv => whnf
  exact hQ
theorem s_needBad (hr : RepS W X h) (hs : W.2.1 ≤ 6) {n : Nat} (hn : n ≤ 6) (hne : ¬ W.2.1 = n) (hQ : Q (.inr 1) h) : wpC sc (d + 6) 57 [.ref 0, .int (nI n)] h Q := by
  refine enter rfl rfl (fun call hc => go hc 4 (fun K hK => ?_))
  conv => whnf
  refine ⟨_, _, hr.D, rfl, ?_⟩
  conv => whnf
  refine ⟨fun c_ => absurd c_ (fun q => hne ((nI_eq (by omega) (by omega)).mp q)), fun c_ => ?_⟩
  conv => whnf
  refine hK _ _ _ _ _ _ (go hc 1 (fun K hK => ?_))
  conv => whnf
  exact ⟨by omega, Nat.le_of_ble_eq_true rfl, rfl, rfl, hQ⟩
theorem s_need (hr : RepS W X h) {n : Nat} (he : W.2.1 = n) (hQ : Q (.inl none) h) : wpC sc (d + 6) 57 [.ref 0, .int (nI n)] h Q := by
  refine enter rfl rfl (fun call hc => go hc 4 (fun K hK => ?_))
  conv => whnf
  refine ⟨_, _, hr.D, rfl, ?_⟩
  conv => whnf
  refine ⟨fun c_ => ?_, fun c_ => absurd (by rw [he]) c_⟩
  conv => whnf
  refine hK _ _ _ _ _ _ (go hc 1 (fun K hK => ?_))
  conv => whnf
  exact hQ
def kdB (x : Int32) : Bool := decide (¬ x < 0 ∧ ¬ 4 < x)
theorem s_isKind {x : Int32} (hQ : Q (.inl (some (.int (bI01 (kdB x))))) h) : wpC sc (d + 1) 59 [.int x] h Q := by
  unfold kdB at hQ
  refine enter rfl rfl (fun call hc => go hc 2 (fun K hK => ?_))
  conv => whnf
  by_cases c1 : x < 0
  · rw [decide_eq_false (fun q => q.1 c1)] at hQ
    refine ⟨fun c_ => ?_, fun c_ => absurd (c1) c_⟩
    conv => whnf
    refine hK _ _ _ _ _ _ (go hc 2 (fun K hK => ?_))
    conv => whnf
    exact ⟨Or.inl rfl, hQ⟩
  · refine ⟨fun c_ => absurd c_ (c1), fun c_ => ?_⟩
    conv => whnf
    refine hK _ _ _ _ _ _ (go hc 3 (fun K hK => ?_))
    conv => whnf
    by_cases c2 : 4 < x
    · rw [decide_eq_false (fun q => q.2 c2)] at hQ
      refine ⟨fun c_ => ?_, fun c_ => absurd (c2) c_⟩
      conv => whnf
      refine hK _ _ _ _ _ _ (go hc 2 (fun K hK => ?_))
      conv => whnf
      exact ⟨Or.inl rfl, hQ⟩
    · rw [decide_eq_true ⟨c1, c2⟩] at hQ
      refine ⟨fun c_ => absurd c_ (c2), fun c_ => ?_⟩
      conv => whnf
      refine hK _ _ _ _ _ _ (go hc 3 (fun K hK => ?_))
      conv => whnf
      exact ⟨Or.inr rfl, hQ⟩
theorem s_hush (hr : RepS W X h) (hQ : ∀ h, RepS (W.1, 0, W.2.2) X h → Q (.inl none) h) : wpC sc (d + 1) 43 [.ref 0] h Q := by
  refine enter rfl rfl (fun call hc => go hc 4 (fun K hK => ?_))
  conv => whnf
  refine ⟨_, hr.D, Nat.le_of_ble_eq_true rfl, ?_⟩
  conv => whnf
  exact hQ _ (hr.said 0)
theorem s_keepDraft (hr : RepS W X h) {i : Nat} (hi : i < 4) (hd : W.2.2.2.2.1 < 5)
    (hQ : ∀ h, RepS (W.1, W.2.1, W.2.2.1, va_up W.2.2.2.1 i W.2.2.2.2.1, W.2.2.2.1 i, W.2.2.2.2.2) X h → Q (.inl (some (.int (degS (gS W W.2.2.2.2.1))))) h) : wpC sc (d + 7) 60 [.ref 0, .int (nI i)] h Q := by
  refine enter rfl rfl (fun call hc => go hc 16 (fun K hK => ?_))
  conv => whnf
  refine ⟨_, _, hr.D, rfl, ?_⟩
  conv => whnf
  refine ⟨_, hr.D, Nat.le_of_ble_eq_true rfl, ?_⟩
  conv => whnf
  refine callee hc (s_shapeAt hr hi ?_)
  conv => whnf
  refine ⟨_, hr.D, Nat.le_of_ble_eq_true rfl, ?_⟩
  replace hr := hr.draft (W.2.2.2.1 i)
  conv => whnf
  refine ⟨_, _, hr.D, rfl, ?_⟩
  conv => whnf
  refine ⟨_, _, _, hr.T, hr.S _ hd, vp_in_nI hi (by omega), ?_⟩
  rw [nI_clamp (by omega)]
  replace hr := hr.slot i W.2.2.2.2.1 hi
  conv => whnf
  refine ⟨_, hr.S _ (by omega), Nat.le_of_ble_eq_true rfl, ?_⟩
  conv => whnf
  refine callee hc (s_degree hr hd ?_)
  conv => whnf
  exact hQ _ hr
theorem s_dimension (hr : RepS W X h) {x : Int32} (ht : ∀ i, i < 4 → W.2.2.2.1 i < 5) (h0 : slB x → Q (.inr 0) h) (h1 : ∀ i, i < 4 → x = nI i → Q (.inl (some (.int (degS (gS W (W.2.2.2.1 i)))))) h) : wpC sc (d + 7) 53 [.ref 0, .int x] h Q := by
  rcases slot_cases x with hx | ⟨i, hi, rfl⟩
  · refine enter rfl rfl (fun call hc => go hc 5 (fun K hK => ?_))
    conv => whnf
    refine ⟨_, hr.D, Nat.le_of_ble_eq_true rfl, ?_⟩
    conv => whnf
    refine callee hc (s_shapeBad hr hx ?_)
    conv => whnf
    exact ⟨rfl, rfl, h0 hx⟩
  · have := ht i hi
    refine enter rfl rfl (fun call hc => go hc 5 (fun K hK => ?_))
    conv => whnf
    refine ⟨_, hr.D, Nat.le_of_ble_eq_true rfl, ?_⟩
    conv => whnf
    refine callee hc (s_shapeAt hr hi ?_)
    conv => whnf
    refine ⟨_, hr.S _ (by omega), Nat.le_of_ble_eq_true rfl, ?_⟩
    conv => whnf
    refine callee hc (s_degree hr (ht i hi) ?_)
    conv => whnf
    exact h1 i hi rfl
theorem kd_cases (x : Int32) : kdB x = false ∨ ∃ k : Nat, k < 5 ∧ x = nI k ∧ kdB x = true := by
  rcases pk_ix x (n := 5) (by decide) with h | h | ⟨k, h1, h2⟩
  · exact Or.inl (decide_eq_false fun q => q.1 h)
  · refine Or.inl (decide_eq_false fun q => ?_)
    have h' : (5 : Int32) ≤ x := h
    have q2 := q.2
    rw [Int32.le_iff_toInt_le] at h'
    rw [Int32.lt_iff_toInt_lt] at q2
    have e5 : (5 : Int32).toInt = 5 := rfl
    have e4 : (4 : Int32).toInt = 4 := rfl
    omega
  · refine Or.inr ⟨k, h1, h2, ?_⟩
    subst h2
    exact decide_eq_true ⟨nI_pos (by omega), nI_nlt (a := 4) (by omega) (by omega)⟩
theorem s_rows (hr : RepS W X h) {x y : Int32} (ht : ∀ i, i < 4 → W.2.2.2.1 i < 5) (hb : ∀ i, i < 4 → ∀ v ∈ (gS W (W.2.2.2.1 i)).2.2, inV v) (h0 : slB x → Q (.inr 0) h) (h1 : ¬ slB x → kdB y = false → Q (.inr 1) h) (h2 : ∀ i k, i < 4 → k < 5 → x = nI i → y = nI k → Q (.inl (some (.int (nI (cntS (gS W (W.2.2.2.1 i)) k))))) h) : wpC sc (d + 7) 54 [.ref 0, .int x, .int y] h Q := by
  by_cases hx : slB x
  · refine enter rfl rfl (fun call hc => go hc 7 (fun K hK => ?_))
    conv => whnf
    refine ⟨_, hr.D, Nat.le_of_ble_eq_true rfl, ?_⟩
    conv => whnf
    refine callee hc (s_shapeBad hr hx ?_)
    conv => whnf
    exact ⟨rfl, rfl, h0 hx⟩
  · obtain ⟨i, hi, rfl⟩ := (slot_cases x).resolve_left hx
    have := ht i hi
    refine enter rfl rfl (fun call hc => go hc 7 (fun K hK => ?_))
    conv => whnf
    refine ⟨_, hr.D, Nat.le_of_ble_eq_true rfl, ?_⟩
    conv => whnf
    refine callee hc (s_shapeAt hr hi ?_)
    conv => whnf
    refine ⟨Nat.le_of_ble_eq_true rfl, ?_⟩
    conv => whnf
    refine callee hc (s_isKind ?_)
    conv => whnf
    rcases kd_cases y with hy | ⟨k, hk, rfl, hy⟩
    · rw [hy]
      refine ⟨fun c_ => ?_, fun c_ => absurd (rfl) c_⟩
      conv => whnf
      refine hK _ _ _ _ _ _ (go hc 1 (fun K hK => ?_))
      conv => whnf
      exact ⟨by omega, Nat.le_of_ble_eq_true rfl, rfl, rfl, h1 hx hy⟩
    · rw [hy]
      refine ⟨fun c_ => absurd c_ (by decide), fun c_ => ?_⟩
      conv => whnf
      refine hK _ _ _ _ _ _ (go hc 4 (fun K hK => ?_))
      conv => whnf
      refine ⟨_, hr.S _ (by omega), Nat.le_of_ble_eq_true rfl, ?_⟩
      conv => whnf
      refine callee hc (s_countOf hr (ht i hi) hk (hb i hi) ?_)
      conv => whnf
      exact h2 i k hi hk rfl rfl
end DESK2
