/-! constrain, generate, set -/
theorem i32n {x : Int32} (h : -30 ≤ x.toInt ∧ x.toInt ≤ 30) : (-x).toInt64 = Int64.ofInt (-(x.toInt)) := by
  have h1 : inL (-(x.toInt)) := ⟨by omega, by omega⟩
  refine Int64.toInt_inj.mp ?_
  rw [Int32.toInt_toInt64, oI_toInt h1, Int32.toInt_neg]
  exact Int.bmod_eq_of_le (by omega) (by omega)
/-- the draft takes the slot's place -/
def keepW (W : AW) (i n : Nat) (S : SH) : AW := ((sS W W.2.2.2.2.1 S).1, n, W.2.2.1, va_up W.2.2.2.1 i W.2.2.2.2.1, W.2.2.2.1 i, W.2.2.2.2.2)
section OPS
variable {sc : Scr} {d : Nat} {W : AW} {X h : PH} {u : Nat} {S0 : SH} {Q : Out → PH → Prop}
theorem s_keepS (hr : RepS (sS W u S0) X h) (hu : W.2.2.2.2.1 = u) (hu5 : u < 5) {i : Nat} (hi : i < 4) (hQ : ∀ h, RepS (keepW W i W.2.1 S0) X h → Q (.inl (some (.int (degS S0)))) h) : wpC sc (d + 7) 60 [.ref 0, .int (nI i)] h Q := by
  subst hu
  refine s_keepDraft hr hi hu5 ?_
  intro h hr
  have e : gS (sS W W.2.2.2.2.1 S0) (sS W W.2.2.2.2.1 S0).2.2.2.2.1 = S0 := gS_sS _ _ _
  rw [e]
  exact hQ h hr
theorem RepS.saidU (hr : RepS (sS W u S0) X h) (hu : W.2.2.2.2.1 = u) (n : Nat) : RepS (sS (W.1, n, W.2.2) u S0) X (h.set 0 (.inr (3, [.ref 3, .int (nI n), .ref 4, .ref (sid u), .int W.2.2.2.2.2.1, .int W.2.2.2.2.2.2.1, .int W.2.2.2.2.2.2.2]))) := by
  subst hu
  exact RepS.said hr n
theorem s_cutG (hr : RepS (sS W u S0) X h) (hu5 : u < 5) (a : V3) {x y z : Int64} (hx : x = Int64.ofInt a.1) (hy : y = Int64.ofInt a.2.1) (hz : z = Int64.ofInt a.2.2) (hok : okR S0.2 [a]) (hQ : ∀ h, RepS (sS W u (S0.1, cutF a S0.2)) X h → Q (.inl none) h) : wpC sc (d + 4) 6 [.ref (cid (2 * u + 1)), .long x, .long y, .long z] h Q :=
  s_cut1 hr (by omega) a (s := S0.2) ⟨sS_gl _ _ _, sS_ge _ _ _⟩ hx hy hz hok (fun h hr => by rw [sC_sS_g] at hr; exact hQ h hr)
theorem s_cutK (hr : RepS (sS W u S0) X h) (hu5 : u < 5) (a : V3) {x y z : Int64} (hx : x = Int64.ofInt a.1) (hy : y = Int64.ofInt a.2.1) (hz : z = Int64.ofInt a.2.2) (hok : okR S0.1 [a]) (hQ : ∀ h, RepS (sS W u (cutF a S0.1, S0.2)) X h → Q (.inl none) h) : wpC sc (d + 4) 6 [.ref (cid (2 * u)), .long x, .long y, .long z] h Q :=
  s_cut1 hr (by omega) a (s := S0.1) ⟨sS_kl _ _ _, sS_ke _ _ _⟩ hx hy hz hok (fun h hr => by rw [sC_sS_k] at hr; exact hQ h hr)
theorem s_plG (hr : RepS (sS W u S0) X h) (hu5 : u < 5) (hQ : ∀ h, RepS (sS W u (S0.1, pl0)) X h → Q (.inl none) h) : wpC sc (d + 5) 3 [.ref (cid (2 * u + 1))] h Q :=
  s_startPlane hr (by omega) okR_pl (fun h hr => by rw [sC_sS_g] at hr; exact hQ h hr)
theorem s_allK (hr : RepS (sS W u S0) X h) (hu5 : u < 5) (hQ : ∀ h, RepS (sS W u ((e3, []), S0.2)) X h → Q (.inl none) h) : wpC sc (d + 3) 2 [.ref (cid (2 * u))] h Q :=
  s_startAll hr (by omega) (fun h hr => by rw [sC_sS_k] at hr; exact hQ h hr)
/-- the draft's constraints cut by another shape's generators -/
theorem s_cbgK (hr : RepS (sS W u S0) X h) {t : Nat} (hu5 : u < 5) (ht5 : t < 5) (hne : u ≠ t) (hok : okR S0.1 (rowsC (gS W t).2.1 (gS W t).2.2)) (hQ : ∀ h, RepS (sS W u (cutA S0.1 (rowsC (gS W t).2.1 (gS W t).2.2), S0.2)) X h → Q (.inl none) h) : wpC sc (d + 5) 5 [.ref (cid (2 * u)), .ref (cid (2 * t + 1))] h Q := by
  have e1 : ∀ S, (sS W u S).1 (2 * (2 * t + 1)) = W.1 (2 * (2 * t + 1)) := fun S => sS_ne _ _ (by omega)
  have e2 : ∀ S, (sS W u S).1 (2 * (2 * t + 1) + 1) = W.1 (2 * (2 * t + 1) + 1) := fun S => sS_ne _ _ (by omega)
  refine s_cutByAll hr (by omega) (by omega) (by omega) (s := S0.1) ⟨sS_kl _ _ _, sS_ke _ _ _⟩ (by rw [e1, e2]; exact hok) ?_
  rw [e1, e2]
  intro h hr
  rw [sC_sS_k] at hr
  exact hQ h hr
/-- what constrain cuts -/
def cstS (W : AW) (t : Nat) (b : Int32) : LE := if b = 0 then cutF (N3 W) (cbc pl0 (gS W t)) else cutF (neg3 (N3 W)) (cutF (N3 W) (cbc pl0 (gS W t)))
/-- all that is asked of the rows -/
def okCst (W : AW) (t : Nat) (b : Int32) : Prop := okR (if (gS W t).2.2 = [] then ([], []) else pl0) (rowsC (gS W t).1.1 (gS W t).1.2) ∧ okR (cbc pl0 (gS W t)) (if b = 0 then [N3 W] else [N3 W, neg3 (N3 W)]) ∧ okS (cstS W t b) ∧
  (rcV 1 (stG (cstS W t b)).2 < (stG (cstS W t b)).2.length → smB (stG (cstS W t b)) = true → okR (e3, []) (rowsC (stG (cstS W t b)).1 (stG (cstS W t b)).2) ∧ okS (cutA (e3, []) (rowsC (stG (cstS W t b)).1 (stG (cstS W t b)).2)))
theorem s_constrain (hr : RepS W X h) {x b : Int32} (hs : W.2.1 ≤ 6) (hu : W.2.2.2.2.1 = u) (hu5 : u < 5) (ht : ∀ i, i < 4 → W.2.2.2.1 i < 5 ∧ u ≠ W.2.2.2.1 i) (hnm : ∀ i, i < 6 → -30 ≤ nm W i ∧ nm W i ≤ 30)
    (hok : ∀ i, i < 4 → okCst W (W.2.2.2.1 i) b)
    (h0 : slB x → Q (.inr 0) h) (h1 : ¬ slB x → ¬ W.2.1 = 3 → Q (.inr 1) h)
    (h2 : ∀ i, i < 4 → x = nI i → W.2.1 = 3 → ∀ e S h, finG (cstS W (W.2.2.2.1 i) b) = .inl e → RepS (sS W u S) X h → Q (.inr e) h)
    (h3 : ∀ i, i < 4 → x = nI i → W.2.1 = 3 → ∀ S h, finG (cstS W (W.2.2.2.1 i) b) = .inr S → RepS (keepW W i 0 S) X h → Q (.inl (some (.int (degS S)))) h) : wpC sc (d + 8) 45 [.ref 0, .int x, .int b] h Q := by
  rw [← sS_id W u] at hr
  by_cases hx : slB x
  · refine enter rfl rfl (fun call hc => go hc 35 (fun K hK => ?_))
    conv => whnf
    refine ⟨_, hr.Du hu, Nat.le_of_ble_eq_true rfl, ?_⟩
    conv => whnf
    refine callee hc (s_shapeBad hr hx ?_)
    conv => whnf
    exact ⟨rfl, rfl, h0 hx⟩
  · obtain ⟨i, hi, rfl⟩ := (slot_cases x).resolve_left hx
    obtain ⟨hti, hni⟩ := ht i hi
    obtain ⟨o1, o2, o3, o4⟩ := hok i hi
    have g2 := h2 i hi rfl
    have g3 := h3 i hi rfl
    have o2a : okR (cbc pl0 (gS W (W.2.2.2.1 i))) [N3 W] := by
      by_cases hb : b = 0
      · rw [if_pos hb] at o2; exact o2
      · rw [if_neg hb] at o2; exact ⟨o2.1, o2.2.1, o2.2.2.1⟩
    generalize hT : W.2.2.2.1 i = t at *
    by_cases h3 : W.2.1 = 3
    · have hend : ∀ h, RepS (sS W u ((gS W u).1, cstS W t b)) X h → ∀ call, call = wpC sc (d + 7) → Runs (d + 7) call sc m_X3_constrain (qth (mTh m_X3_constrain) Q) 90 [(0, .ref 0), (1, .int (nI i)), (2, .int b), (3, .ref (sid t)), (4, .ref (cid (2 * u + 1)))] [] h 4 24 := fun h hr call hc => by
        cases hf : finG (cstS W t b) with
        | inl e =>
          refine go hc 9 (fun K hK => ?_)
          conv => whnf
          refine ⟨_, hr.Du hu, Nat.le_of_ble_eq_true rfl, ?_⟩
          conv => whnf
          refine callee hc (s_finG hr hu hu5 o3 o4 (fun S h q => by rw [hf] at q; cases q) ?_)
          intro e' S h q hr
          conv => whnf
          refine ⟨rfl, rfl, g2 h3 e' S h ?_ hr⟩
          exact q
        | inr S =>
          refine go hc 9 (fun K hK => ?_)
          conv => whnf
          refine ⟨_, hr.Du hu, Nat.le_of_ble_eq_true rfl, ?_⟩
          conv => whnf
          refine callee hc (s_finG hr hu hu5 o3 o4 (h0 := fun e S h q => by rw [hf] at q; cases q) ?_)
          intro S h q hr
          conv => whnf
          refine ⟨_, hr.Du hu, Nat.le_of_ble_eq_true rfl, ?_⟩
          replace hr := RepS.saidU hr hu 0
          conv => whnf
          refine ⟨_, hr.Du hu, Nat.le_of_ble_eq_true rfl, ?_⟩
          conv => whnf
          refine callee hc (s_keepS hr hu hu5 hi ?_)
          intro h hr
          conv => whnf
          exact g3 h3 S h q hr
      refine enter rfl rfl (fun call hc => go hc 35 (fun K hK => ?_))
      conv => whnf
      refine ⟨_, hr.Du hu, Nat.le_of_ble_eq_true rfl, ?_⟩
      conv => whnf
      refine callee hc (s_shapeAt hr hi ?_)
      rw [show (sS W u (gS W u)).2.2.2.1 i = t from hT]
      conv => whnf
      refine ⟨_, hr.Du hu, Nat.le_of_ble_eq_true rfl, ?_⟩
      conv => whnf
      refine callee hc (s_need hr (n := 3) h3 ?_)
      conv => whnf
      refine ⟨_, _, hr.Du hu, rfl, ?_⟩
      conv => whnf
      refine ⟨_, _, hr.S _ (by omega), rfl, ?_⟩
      conv => whnf
      refine ⟨_, hr.C _ (by omega), Nat.le_of_ble_eq_true rfl, ?_⟩
      conv => whnf
      refine callee hc (s_plG hr hu5 ?_)
      intro h hr
      conv => whnf
      refine ⟨_, hr.C _ (by omega), Nat.le_of_ble_eq_true rfl, ?_⟩
      conv => whnf
      refine callee hc (s_cbc hr hu5 hti hni o1 ?_)
      intro h hr
      conv => whnf
      refine ⟨_, _, hr.Du hu, rfl, ?_⟩
      conv => whnf
      refine Or.inr ⟨_, _, hr.N, vn0, ?_⟩
      rw [n0]
      conv => whnf
      refine ⟨_, _, hr.Du hu, rfl, ?_⟩
      conv => whnf
      refine Or.inr ⟨_, _, hr.N, vn1, ?_⟩
      rw [n1]
      conv => whnf
      refine ⟨_, _, hr.Du hu, rfl, ?_⟩
      conv => whnf
      refine Or.inr ⟨_, _, hr.N, vn2, ?_⟩
      rw [n2]
      conv => whnf
      refine ⟨_, hr.C _ (by omega), Nat.le_of_ble_eq_true rfl, ?_⟩
      conv => whnf
      refine callee hc (s_cutG hr hu5 (N3 W) (i32l _) (i32l _) (i32l _) o2a ?_)
      intro h hr
      conv => whnf
      unfold cstS at hend
      by_cases hb : b = 0
      · rw [if_pos hb] at hend
        refine ⟨fun c_ => ?_, fun c_ => absurd (hb) c_⟩
        conv => whnf
        exact hK _ _ _ _ _ _ (hend h hr call hc)
      · rw [if_neg hb] at hend o2
        refine ⟨fun c_ => absurd c_ (hb), fun c_ => ?_⟩
        conv => whnf
        refine hK _ _ _ _ _ _ (go hc 20 (fun K hK => ?_))
        conv => whnf
        refine ⟨_, _, hr.Du hu, rfl, ?_⟩
        conv => whnf
        refine Or.inr ⟨_, _, hr.N, vn0, ?_⟩
        rw [n0]
        conv => whnf
        refine ⟨_, _, hr.Du hu, rfl, ?_⟩
        conv => whnf
        refine Or.inr ⟨_, _, hr.N, vn1, ?_⟩
        rw [n1]
        conv => whnf
        refine ⟨_, _, hr.Du hu, rfl, ?_⟩
        conv => whnf
        refine Or.inr ⟨_, _, hr.N, vn2, ?_⟩
        rw [n2]
        conv => whnf
        refine ⟨_, hr.C _ (by omega), Nat.le_of_ble_eq_true rfl, ?_⟩
        conv => whnf
        refine callee hc (s_cutG hr hu5 (neg3 (N3 W)) (i32n (hnm 0 (by omega))) (i32n (hnm 1 (by omega))) (i32n (hnm 2 (by omega))) o2.2.2 ?_)
        intro h hr
        conv => whnf
        exact hK _ _ _ _ _ _ (hend h hr call hc)
    · refine enter rfl rfl (fun call hc => go hc 35 (fun K hK => ?_))
      conv => whnf
      refine ⟨_, hr.Du hu, Nat.le_of_ble_eq_true rfl, ?_⟩
      conv => whnf
      refine callee hc (s_shapeAt hr hi ?_)
      conv => whnf
      refine ⟨_, hr.Du hu, Nat.le_of_ble_eq_true rfl, ?_⟩
      conv => whnf
      refine callee hc (s_needBad hr hs (n := 3) (by omega) h3 ?_)
      conv => whnf
      exact ⟨rfl, rfl, h1 hx h3⟩
end OPS
