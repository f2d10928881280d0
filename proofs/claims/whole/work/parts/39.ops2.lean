theorem zA {x y : Int32} (h : x < y) : ¬ y ≤ x := by
  rw [Int32.le_iff_toInt_le]; rw [Int32.lt_iff_toInt_lt] at h; omega
theorem zB {x y : Int32} (h : ¬ x < y) : y ≤ x := by
  rw [Int32.le_iff_toInt_le]; rw [Int32.lt_iff_toInt_lt] at h; omega
section OPS2
variable {sc : Scr} {d : Nat} {W : AW} {X h : PH} {u : Nat} {S0 : SH} {Q : Out → PH → Prop}
/-- generate's numbers are none -/
def genB (W : AW) (b : Int32) : Prop := W.2.2.1 0 < 0 ∨ (W.2.2.1 0 = 0 ∧ W.2.2.1 1 = 0 ∧ W.2.2.1 2 = 0) ∨ (0 < W.2.2.1 0 ∧ ¬ b = 0)
theorem s_reqBad (hr : RepS (sS W u S0) X h) (hu : W.2.2.2.2.1 = u) {b : Int32} (hg : genB W b) (hQ : Q (.inr 1) h) : wpC sc (d + 6) 58 [.ref 0, .int b] h Q := by
  refine enter rfl rfl (fun call hc => go hc 5 (fun K hK => ?_))
  conv => whnf
  refine ⟨_, _, hr.Du hu, rfl, ?_⟩
  conv => whnf
  refine Or.inr ⟨_, _, hr.N, vn0, ?_⟩
  rw [n0]
  conv => whnf
  by_cases c1 : W.2.2.1 0 < 0
  · refine ⟨fun c_ => absurd c_ (zA c1), fun c_ => ?_⟩
    conv => whnf
    refine hK _ _ _ _ _ _ (go hc 1 (fun K hK => ?_))
    conv => whnf
    exact ⟨by omega, Nat.le_of_ble_eq_true rfl, rfl, rfl, hQ⟩
  · have hend : 0 < W.2.2.1 0 ∧ ¬ b = 0 → Runs (d + 5) call sc m_X3_requireGenerator (qth (mTh m_X3_requireGenerator) Q) 56 [(0, .ref 0), (1, .int b)] [] h 1 6 := fun q => by
      refine go hc 5 (fun K hK => ?_)
      conv => whnf
      refine ⟨_, _, hr.Du hu, rfl, ?_⟩
      conv => whnf
      refine Or.inr ⟨_, _, hr.N, vn0, ?_⟩
      rw [n0]
      conv => whnf
      refine ⟨fun c_ => absurd c_ (zA q.1), fun c_ => ?_⟩
      conv => whnf
      refine hK _ _ _ _ _ _ (go hc 2 (fun K hK => ?_))
      conv => whnf
      refine ⟨fun c_ => absurd c_ (q.2), fun c_ => ?_⟩
      conv => whnf
      refine hK _ _ _ _ _ _ (go hc 1 (fun K hK => ?_))
      conv => whnf
      exact ⟨by omega, Nat.le_of_ble_eq_true rfl, rfl, rfl, hQ⟩
    refine ⟨fun c_ => ?_, fun c_ => absurd (zB c1) c_⟩
    conv => whnf
    refine hK _ _ _ _ _ _ (go hc 5 (fun K hK => ?_))
    conv => whnf
    refine ⟨_, _, hr.Du hu, rfl, ?_⟩
    conv => whnf
    refine Or.inr ⟨_, _, hr.N, vn0, ?_⟩
    rw [n0]
    conv => whnf
    by_cases c2 : W.2.2.1 0 = 0
    · refine ⟨fun c_ => ?_, fun c_ => absurd (c2) c_⟩
      conv => whnf
      refine hK _ _ _ _ _ _ (go hc 5 (fun K hK => ?_))
      conv => whnf
      refine ⟨_, _, hr.Du hu, rfl, ?_⟩
      conv => whnf
      refine Or.inr ⟨_, _, hr.N, vn1, ?_⟩
      rw [n1]
      conv => whnf
      have c3 : W.2.2.1 1 = 0 ∧ W.2.2.1 2 = 0 := by
        rcases hg with q | q | q
        · exact absurd q c1
        · exact q.2
        · rw [c2] at q; exact absurd q.1 (by decide)
      refine ⟨fun c_ => ?_, fun c_ => absurd (c3.1) c_⟩
      conv => whnf
      refine hK _ _ _ _ _ _ (go hc 5 (fun K hK => ?_))
      conv => whnf
      refine ⟨_, _, hr.Du hu, rfl, ?_⟩
      conv => whnf
      refine Or.inr ⟨_, _, hr.N, vn2, ?_⟩
      rw [n2]
      conv => whnf
      refine ⟨fun c_ => ?_, fun c_ => absurd (c3.2) c_⟩
      conv => whnf
      refine hK _ _ _ _ _ _ (go hc 1 (fun K hK => ?_))
      conv => whnf
      exact ⟨by omega, Nat.le_of_ble_eq_true rfl, rfl, rfl, hQ⟩
    · refine ⟨fun c_ => absurd c_ (c2), fun c_ => ?_⟩
      conv => whnf
      refine hK _ _ _ _ _ _ (hend ?_)
      rcases hg with q | q | q
      · exact absurd q c1
      · exact absurd q.1 c2
      · exact q
theorem s_reqOk (hr : RepS (sS W u S0) X h) (hu : W.2.2.2.2.1 = u) {b : Int32} (hg : ¬ genB W b) (hQ : Q (.inl none) h) : wpC sc (d + 6) 58 [.ref 0, .int b] h Q := by
  have c1 : ¬ W.2.2.1 0 < 0 := fun q => hg (Or.inl q)
  refine enter rfl rfl (fun call hc => go hc 5 (fun K hK => ?_))
  conv => whnf
  refine ⟨_, _, hr.Du hu, rfl, ?_⟩
  conv => whnf
  refine Or.inr ⟨_, _, hr.N, vn0, ?_⟩
  rw [n0]
  conv => whnf
  have hend : Runs (d + 5) call sc m_X3_requireGenerator (qth (mTh m_X3_requireGenerator) Q) 56 [(0, .ref 0), (1, .int b)] [] h 1 6 := by
    refine go hc 5 (fun K hK => ?_)
    conv => whnf
    refine ⟨_, _, hr.Du hu, rfl, ?_⟩
    conv => whnf
    refine Or.inr ⟨_, _, hr.N, vn0, ?_⟩
    rw [n0]
    conv => whnf
    by_cases c4 : 0 < W.2.2.1 0
    · refine ⟨fun c_ => absurd c_ (zA c4), fun c_ => ?_⟩
      conv => whnf
      refine hK _ _ _ _ _ _ (go hc 2 (fun K hK => ?_))
      conv => whnf
      by_cases c5 : b = 0
      · refine ⟨fun c_ => ?_, fun c_ => absurd (c5) c_⟩
        conv => whnf
        refine hK _ _ _ _ _ _ (go hc 1 (fun K hK => ?_))
        conv => whnf
        exact hQ
      · exact absurd (Or.inr (Or.inr ⟨c4, c5⟩)) hg
    · refine ⟨fun c_ => ?_, fun c_ => absurd (zB c4) c_⟩
      conv => whnf
      refine hK _ _ _ _ _ _ (go hc 1 (fun K hK => ?_))
      conv => whnf
      exact hQ
  refine ⟨fun c_ => ?_, fun c_ => absurd (zB c1) c_⟩
  conv => whnf
  refine hK _ _ _ _ _ _ (go hc 5 (fun K hK => ?_))
  conv => whnf
  refine ⟨_, _, hr.Du hu, rfl, ?_⟩
  conv => whnf
  refine Or.inr ⟨_, _, hr.N, vn0, ?_⟩
  rw [n0]
  conv => whnf
  by_cases c2 : W.2.2.1 0 = 0
  · refine ⟨fun c_ => ?_, fun c_ => absurd (c2) c_⟩
    conv => whnf
    refine hK _ _ _ _ _ _ (go hc 5 (fun K hK => ?_))
    conv => whnf
    refine ⟨_, _, hr.Du hu, rfl, ?_⟩
    conv => whnf
    refine Or.inr ⟨_, _, hr.N, vn1, ?_⟩
    rw [n1]
    conv => whnf
    by_cases c3 : W.2.2.1 1 = 0
    · refine ⟨fun c_ => ?_, fun c_ => absurd (c3) c_⟩
      conv => whnf
      refine hK _ _ _ _ _ _ (go hc 5 (fun K hK => ?_))
      conv => whnf
      refine ⟨_, _, hr.Du hu, rfl, ?_⟩
      conv => whnf
      refine Or.inr ⟨_, _, hr.N, vn2, ?_⟩
      rw [n2]
      conv => whnf
      by_cases c6 : W.2.2.1 2 = 0
      · exact absurd (Or.inr (Or.inl ⟨c2, c3, c6⟩)) hg
      · refine ⟨fun c_ => absurd c_ (c6), fun c_ => ?_⟩
        conv => whnf
        exact hK _ _ _ _ _ _ hend
    · refine ⟨fun c_ => absurd c_ (c3), fun c_ => ?_⟩
      conv => whnf
      exact hK _ _ _ _ _ _ hend
  · refine ⟨fun c_ => absurd c_ (c2), fun c_ => ?_⟩
    conv => whnf
    exact hK _ _ _ _ _ _ hend
/-- what generate cuts -/
def gnS (W : AW) (t : Nat) (b : Int32) : LE := if b = 0 then cutF (N3 W) (cutA (e3, []) (rowsC (gS W t).2.1 (gS W t).2.2)) else cutF (neg3 (N3 W)) (cutF (N3 W) (cutA (e3, []) (rowsC (gS W t).2.1 (gS W t).2.2)))
/-- constraints that were cut can be finished -/
def okFK (s : LE) : Prop := okS s ∧ (smB (stK s) = true → okR pl0 (rowsC (stK s).1 (stK s).2) ∧ okS (cutA pl0 (rowsC (stK s).1 (stK s).2)))
def okGen (W : AW) (t : Nat) (b : Int32) : Prop := okR (e3, []) (rowsC (gS W t).2.1 (gS W t).2.2) ∧ okR (cutA (e3, []) (rowsC (gS W t).2.1 (gS W t).2.2)) (if b = 0 then [N3 W] else [N3 W, neg3 (N3 W)]) ∧ okFK (gnS W t b)
theorem s_generate (hr : RepS W X h) {x b : Int32} (hs : W.2.1 ≤ 6) (hu : W.2.2.2.2.1 = u) (hu5 : u < 5) (ht : ∀ i, i < 4 → W.2.2.2.1 i < 5 ∧ u ≠ W.2.2.2.1 i) (hnm : ∀ i, i < 6 → -30 ≤ nm W i ∧ nm W i ≤ 30)
    (hok : ∀ i, i < 4 → okGen W (W.2.2.2.1 i) b)
    (h0 : slB x → Q (.inr 0) h) (h1 : ¬ slB x → (¬ W.2.1 = 3 ∨ genB W b) → Q (.inr 1) h)
    (h4 : ∀ i, i < 4 → x = nI i → W.2.1 = 3 → ¬ genB W b → (gS W (W.2.2.2.1 i)).2.2 = [] ∧ W.2.2.1 0 = 0 → Q (.inr 4) h)
    (h2 : ∀ i, i < 4 → x = nI i → W.2.1 = 3 → ¬ genB W b → ¬ ((gS W (W.2.2.2.1 i)).2.2 = [] ∧ W.2.2.1 0 = 0) → ∀ e S h, finK (gnS W (W.2.2.2.1 i) b) = .inl e → RepS (sS W u S) X h → Q (.inr e) h)
    (h3 : ∀ i, i < 4 → x = nI i → W.2.1 = 3 → ¬ genB W b → ¬ ((gS W (W.2.2.2.1 i)).2.2 = [] ∧ W.2.2.1 0 = 0) → ∀ S h, finK (gnS W (W.2.2.2.1 i) b) = .inr S → RepS (keepW W i 0 S) X h → Q (.inl (some (.int (degS S)))) h) : wpC sc (d + 8) 46 [.ref 0, .int x, .int b] h Q := by
  rw [← sS_id W u] at hr
  by_cases hx : slB x
  · refine enter rfl rfl (fun call hc => go hc 13 (fun K hK => ?_))
    conv => whnf
    refine ⟨_, hr.Du hu, Nat.le_of_ble_eq_true rfl, ?_⟩
    conv => whnf
    refine callee hc (s_shapeBad hr hx ?_)
    conv => whnf
    exact ⟨rfl, rfl, h0 hx⟩
  · obtain ⟨i, hi, rfl⟩ := (slot_cases x).resolve_left hx
    obtain ⟨hti, hni⟩ := ht i hi
    obtain ⟨o1, o2, o3, o4⟩ := hok i hi
    have g2 := h2 i hi rfl
    have g3 := h3 i hi rfl
    have g4 := h4 i hi rfl
    have o2a : okR (cutA (e3, []) (rowsC (gS W (W.2.2.2.1 i)).2.1 (gS W (W.2.2.2.1 i)).2.2)) [N3 W] := by
      by_cases hb : b = 0
      · rw [if_pos hb] at o2; exact o2
      · rw [if_neg hb] at o2; exact ⟨o2.1, o2.2.1, o2.2.2.1⟩
    generalize hT : W.2.2.2.1 i = t at *
    by_cases h3 : W.2.1 = 3
    · by_cases hg : genB W b
      · refine enter rfl rfl (fun call hc => go hc 13 (fun K hK => ?_))
        conv => whnf
        refine ⟨_, hr.Du hu, Nat.le_of_ble_eq_true rfl, ?_⟩
        conv => whnf
        refine callee hc (s_shapeAt hr hi ?_)
        conv => whnf
        refine ⟨_, hr.Du hu, Nat.le_of_ble_eq_true rfl, ?_⟩
        conv => whnf
        refine callee hc (s_need hr (n := 3) h3 ?_)
        conv => whnf
        refine ⟨_, hr.Du hu, Nat.le_of_ble_eq_true rfl, ?_⟩
        conv => whnf
        refine callee hc (s_reqBad hr hu hg ?_)
        conv => whnf
        exact ⟨rfl, rfl, h1 hx (Or.inr hg)⟩
      · have hend : ¬ ((gS W t).2.2 = [] ∧ W.2.2.1 0 = 0) → ∀ h, RepS (sS W u (gnS W t b, (gS W u).2)) X h → ∀ call, call = wpC sc (d + 7) → Runs (d + 7) call sc m_X3_generate (qth (mTh m_X3_generate) Q) 124 [(0, .ref 0), (1, .int (nI i)), (2, .int b), (3, .ref (sid t)), (4, .ref (cid (2 * u)))] [] h 5 30 := fun hz h hr call hc => by
          cases hf : finK (gnS W t b) with
          | inl e =>
            refine go hc 9 (fun K hK => ?_)
            conv => whnf
            refine ⟨_, hr.Du hu, Nat.le_of_ble_eq_true rfl, ?_⟩
            conv => whnf
            refine callee hc (s_finK hr hu hu5 o3 o4 (fun S h q => by rw [hf] at q; cases q) ?_)
            intro e' S h q hr
            conv => whnf
            refine ⟨rfl, rfl, g2 h3 hg hz e' S h ?_ hr⟩
            exact q
          | inr S =>
            refine go hc 9 (fun K hK => ?_)
            conv => whnf
            refine ⟨_, hr.Du hu, Nat.le_of_ble_eq_true rfl, ?_⟩
            conv => whnf
            refine callee hc (s_finK hr hu hu5 o3 o4 (h0 := fun e S h q => by rw [hf] at q; cases q) ?_)
            intro S h q hr
            conv => whnf
            refine ⟨_, hr.Du hu, Nat.le_of_ble_eq_true rfl, ?_⟩
            replace hr := RepS.saidU hr hu 0
            conv => whnf
            refine ⟨_, hr.Du hu, Nat.le_of_ble_eq_true rfl, ?_⟩
            conv => whnf
            refine callee hc (s_keepS hr hu hu5 hi ?_)
            intro h hr
            conv => whnf
            exact g3 h3 hg hz S h q hr
        have hgo : ¬ ((gS W t).2.2 = [] ∧ W.2.2.1 0 = 0) → ∀ h, RepS (sS W u (gS W u)) X h → ∀ call, call = wpC sc (d + 7) → Runs (d + 7) call sc m_X3_generate (qth (mTh m_X3_generate) Q) 42 [(0, .ref 0), (1, .int (nI i)), (2, .int b), (3, .ref (sid t))] [] h 5 30 := fun hz h hr call hc => by
          have hend := hend hz
          refine go hc 29 (fun K hK => ?_)
          conv => whnf
          refine ⟨_, _, hr.Du hu, rfl, ?_⟩
          conv => whnf
          refine ⟨_, _, hr.S _ (by omega), rfl, ?_⟩
          conv => whnf
          refine ⟨_, hr.C _ (by omega), Nat.le_of_ble_eq_true rfl, ?_⟩
          conv => whnf
          refine callee hc (s_allK hr hu5 ?_)
          intro h hr
          conv => whnf
          refine ⟨_, _, hr.S _ (by omega), rfl, ?_⟩
          conv => whnf
          refine ⟨_, hr.C _ (by omega), Nat.le_of_ble_eq_true rfl, ?_⟩
          conv => whnf
          refine callee hc (s_cbgK hr hu5 hti hni o1 ?_)
          intro h hr
          conv => whnf
          refine ⟨_, _, hr.Du hu, rfl, ?_⟩
          conv => whnf
          refine Or.inr ⟨_, _, hr.N, vn0, ?_⟩
          rw [n0]
          conv => whnf
          refine ⟨_, _, hr.Du hu, rfl, ?_⟩
          conv => whnf
          refine Or.inr ⟨_, _, hr.N, vn1, ?_⟩
          rw [n1]
          conv => whnf
          refine ⟨_, _, hr.Du hu, rfl, ?_⟩
          conv => whnf
          refine Or.inr ⟨_, _, hr.N, vn2, ?_⟩
          rw [n2]
          conv => whnf
          refine ⟨_, hr.C _ (by omega), Nat.le_of_ble_eq_true rfl, ?_⟩
          conv => whnf
          refine callee hc (s_cutK hr hu5 (N3 W) (i32l _) (i32l _) (i32l _) o2a ?_)
          intro h hr
          conv => whnf
          unfold gnS at hend
          by_cases hb : b = 0
          · rw [if_pos hb] at hend
            refine ⟨fun c_ => ?_, fun c_ => absurd (hb) c_⟩
            conv => whnf
            exact hK _ _ _ _ _ _ (hend h hr call hc)
          · rw [if_neg hb] at hend o2
            refine ⟨fun c_ => absurd c_ (hb), fun c_ => ?_⟩
            conv => whnf
            refine hK _ _ _ _ _ _ (go hc 20 (fun K hK => ?_))
            conv => whnf
            refine ⟨_, _, hr.Du hu, rfl, ?_⟩
            conv => whnf
            refine Or.inr ⟨_, _, hr.N, vn0, ?_⟩
            rw [n0]
            conv => whnf
            refine ⟨_, _, hr.Du hu, rfl, ?_⟩
            conv => whnf
            refine Or.inr ⟨_, _, hr.N, vn1, ?_⟩
            rw [n1]
            conv => whnf
            refine ⟨_, _, hr.Du hu, rfl, ?_⟩
            conv => whnf
            refine Or.inr ⟨_, _, hr.N, vn2, ?_⟩
            rw [n2]
            conv => whnf
            refine ⟨_, hr.C _ (by omega), Nat.le_of_ble_eq_true rfl, ?_⟩
            conv => whnf
            refine callee hc (s_cutK hr hu5 (neg3 (N3 W)) (i32n (hnm 0 (by omega))) (i32n (hnm 1 (by omega))) (i32n (hnm 2 (by omega))) o2.2.2 ?_)
            intro h hr
            conv => whnf
            exact hK _ _ _ _ _ _ (hend h hr call hc)
        have e3' : ∀ S, (sS W u S).1 (2 * (2 * t + 1) + 1) = W.1 (2 * (2 * t + 1) + 1) := fun S => sS_ne _ _ (by omega)
        refine enter rfl rfl (fun call hc => go hc 13 (fun K hK => ?_))
        conv => whnf
        refine ⟨_, hr.Du hu, Nat.le_of_ble_eq_true rfl, ?_⟩
        conv => whnf
        refine callee hc (s_shapeAt hr hi ?_)
        rw [show (sS W u (gS W u)).2.2.2.1 i = t from hT]
        conv => whnf
        refine ⟨_, hr.Du hu, Nat.le_of_ble_eq_true rfl, ?_⟩
        conv => whnf
        refine callee hc (s_need hr (n := 3) h3 ?_)
        conv => whnf
        refine ⟨_, hr.Du hu, Nat.le_of_ble_eq_true rfl, ?_⟩
        conv => whnf
        refine callee hc (s_reqOk hr hu hg ?_)
        conv => whnf
        refine ⟨_, hr.S _ (by omega), Nat.le_of_ble_eq_true rfl, ?_⟩
        conv => whnf
        refine callee hc (s_isEmpty hr hti ?_)
        rw [e3']
        conv => whnf
        by_cases he : W.1 (2 * (2 * t + 1) + 1) = []
        · rw [decide_eq_true he]
          refine ⟨fun c_ => absurd c_ (by decide), fun c_ => ?_⟩
          conv => whnf
          refine hK _ _ _ _ _ _ (go hc 5 (fun K hK => ?_))
          conv => whnf
          refine ⟨_, _, hr.Du hu, rfl, ?_⟩
          conv => whnf
          refine Or.inr ⟨_, _, hr.N, vn0, ?_⟩
          rw [n0]
          conv => whnf
          by_cases hz : W.2.2.1 0 = 0
          · refine ⟨fun c_ => ?_, fun c_ => absurd (hz) c_⟩
            conv => whnf
            refine hK _ _ _ _ _ _ (go hc 1 (fun K hK => ?_))
            conv => whnf
            exact ⟨by omega, Nat.le_of_ble_eq_true rfl, rfl, rfl, g4 h3 hg ⟨he, hz⟩⟩
          · refine ⟨fun c_ => absurd c_ (hz), fun c_ => ?_⟩
            conv => whnf
            exact hK _ _ _ _ _ _ (hgo (fun q => hz q.2) h hr call hc)
        · rw [decide_eq_false he]
          refine ⟨fun c_ => ?_, fun c_ => absurd (rfl) c_⟩
          conv => whnf
          exact hK _ _ _ _ _ _ (hgo (fun q => he q.1) h hr call hc)
    · refine enter rfl rfl (fun call hc => go hc 13 (fun K hK => ?_))
      conv => whnf
      refine ⟨_, hr.Du hu, Nat.le_of_ble_eq_true rfl, ?_⟩
      conv => whnf
      refine callee hc (s_shapeAt hr hi ?_)
      conv => whnf
      refine ⟨_, hr.Du hu, Nat.le_of_ble_eq_true rfl, ?_⟩
      conv => whnf
      refine callee hc (s_needBad hr hs (n := 3) (by omega) h3 ?_)
      conv => whnf
      exact ⟨rfl, rfl, h1 hx (Or.inl h3)⟩
/-- set -/
def setS (b : Int32) : SH := if b = 0 then emp else (([], []), stG pl0)
theorem okS_pl : okS pl0 := by
  have hb : ∀ l : List V3, (∀ v ∈ l, v = (1, 0, 0) ∨ v = (0, 1, 0) ∨ v = (0, 0, 1)) → bdL l := fun l hl v hv => by
    rcases hl v hv with rfl | rfl | rfl <;> exact ⟨⟨by decide, by decide⟩, ⟨by decide, by decide⟩, ⟨by decide, by decide⟩⟩
  refine ⟨hb _ ?_, hb _ ?_, hb _ ?_, hb _ ?_, hb _ ?_, hb _ ?_⟩ <;> decide
theorem s_set (hr : RepS W X h) {x b : Int32} (ht : ∀ i, i < 4 → W.2.2.2.1 i < 5) (h0 : slB x → Q (.inr 0) h) (h1 : ∀ i, i < 4 → x = nI i → ∀ h, RepS (sS W (W.2.2.2.1 i) (setS b)) X h → Q (.inl none) h) : wpC sc (d + 8) 44 [.ref 0, .int x, .int b] h Q := by
  by_cases hx : slB x
  · refine enter rfl rfl (fun call hc => go hc 8 (fun K hK => ?_))
    conv => whnf
    refine ⟨_, hr.D, Nat.le_of_ble_eq_true rfl, ?_⟩
    conv => whnf
    refine callee hc (s_shapeBad hr hx ?_)
    conv => whnf
    exact ⟨rfl, rfl, h0 hx⟩
  · obtain ⟨i, hi, rfl⟩ := (slot_cases x).resolve_left hx
    have hti := ht i hi
    have g1 := h1 i hi rfl
    generalize hT : W.2.2.2.1 i = t at *
    unfold setS at g1
    refine enter rfl rfl (fun call hc => go hc 8 (fun K hK => ?_))
    conv => whnf
    refine ⟨_, hr.D, Nat.le_of_ble_eq_true rfl, ?_⟩
    conv => whnf
    refine callee hc (s_shapeAt hr hi ?_)
    rw [hT]
    conv => whnf
    refine ⟨_, hr.S _ (by omega), Nat.le_of_ble_eq_true rfl, ?_⟩
    conv => whnf
    refine callee hc (s_sclear hr hti ?_)
    intro h hr
    conv => whnf
    by_cases hb : b = 0
    · rw [if_pos hb] at g1
      refine ⟨fun c_ => ?_, fun c_ => absurd (hb) c_⟩
      conv => whnf
      refine hK _ _ _ _ _ _ (go hc 1 (fun K hK => ?_))
      conv => whnf
      exact g1 h hr
    · rw [if_neg hb] at g1
      refine ⟨fun c_ => absurd c_ (hb), fun c_ => ?_⟩
      conv => whnf
      refine hK _ _ _ _ _ _ (go hc 7 (fun K hK => ?_))
      conv => whnf
      refine ⟨_, _, hr.S _ (by omega), rfl, ?_⟩
      conv => whnf
      refine ⟨_, hr.C _ (by omega), Nat.le_of_ble_eq_true rfl, ?_⟩
      conv => whnf
      refine callee hc (s_plG hr hti ?_)
      intro h hr
      conv => whnf
      refine ⟨_, _, hr.S _ (by omega), rfl, ?_⟩
      conv => whnf
      refine ⟨_, hr.C _ (by omega), Nat.le_of_ble_eq_true rfl, ?_⟩
      conv => whnf
      refine callee hc (s_stG hr hti okS_pl ?_)
      intro h hr
      conv => whnf
      exact g1 h hr
end OPS2
