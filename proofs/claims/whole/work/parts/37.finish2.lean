section FINISH2
variable {sc : Scr} {d : Nat} {W : AW} {X h : PH} {u c : Nat} {S0 : SH} {Q : Out → PH → Prop}
theorem okR_pl : okR (e3, []) [(1, 0, 0)] := by
  refine ⟨⟨?_, ?_, ?_⟩, ?_, ?_, ?_, ?_⟩
  · intro v hv
    have : v = (1, 0, 0) ∨ v = (0, 1, 0) ∨ v = (0, 0, 1) := by simpa using hv
    rcases this with rfl | rfl | rfl <;> exact ⟨⟨by decide, by decide⟩, ⟨by decide, by decide⟩, ⟨by decide, by decide⟩⟩
  · intro v hv; cases hv
  · decide
  · exact ⟨⟨by decide, by decide⟩, ⟨by decide, by decide⟩, ⟨by decide, by decide⟩⟩
  · intro v hv
    have : v = (0, 1, 0) ∨ v = (0, 0, 1) := by
      have e : pl0.1 = [(0, 1, 0), (0, 0, 1)] := by decide
      rw [e] at hv
      simpa using hv
    rcases this with rfl | rfl <;> exact ⟨⟨by decide, by decide⟩, ⟨by decide, by decide⟩, ⟨by decide, by decide⟩⟩
  · intro v hv
    have : v = (1, 0, 0) := by
      have e : pl0.2 = [(1, 0, 0)] := by decide
      rw [e] at hv
      simpa using hv
    rcases this with rfl
    exact ⟨⟨by decide, by decide⟩, ⟨by decide, by decide⟩, ⟨by decide, by decide⟩⟩
  · decide
theorem s_finK (hr : RepS (sS W u S0) X h) (hu : W.2.2.2.2.1 = u) (hu5 : u < 5) (hok : okS S0.1)
    (hK2 : smB (stK S0.1) = true → okR pl0 (rowsC (stK S0.1).1 (stK S0.1).2) ∧ okS (cutA pl0 (rowsC (stK S0.1).1 (stK S0.1).2)))
    (h1 : ∀ S h, finK S0.1 = .inr S → RepS (sS W u S) X h → Q (.inl none) h) (h0 : ∀ e S h, finK S0.1 = .inl e → RepS (sS W u S) X h → Q (.inr e) h) : wpC sc (d + 7) 69 [.ref 0] h Q := by
  unfold finK at h1 h0
  generalize hk : stK S0.1 = k at *
  have hbk := hok.K
  rw [hk] at hbk
  have e1 : ∀ S : SH, (sS W u S).1 (2 * (2 * u + 1) + 1) = S.2.2 := sS_ge _ _
  have e2 : ∀ S : SH, (sS W u S).1 (2 * (2 * u)) = S.1.1 := sS_kl _ _
  have e3' : ∀ S : SH, (sS W u S).1 (2 * (2 * u) + 1) = S.1.2 := sS_ke _ _
  unfold finK1 at h1 h0
  by_cases c1 : smB k = true
  · rw [if_pos c1] at h1 h0
    obtain ⟨hR, hS⟩ := hK2 c1
    have hbg := hS.G
    have hca : ∀ h, RepS (sS W u (k, pl0)) X h → ∀ R : Out → PH → Prop, (∀ h, RepS (sS W u (k, cutA pl0 (rowsC k.1 k.2))) X h → R (.inl none) h) → wpC sc (d + 6) 5 [.ref (cid (2 * u + 1)), .ref (cid (2 * u))] h R := fun h hr R hR' => by
      refine s_cutByAll (d := d + 1) hr (by omega) (by omega) (by omega) (s := pl0) ⟨sS_gl _ _ _, sS_ge _ _ _⟩ (by rw [e2, e3']; exact hR) ?_
      rw [e2, e3']
      intro h hr
      rw [sC_sS_g] at hr
      exact hR' h hr
    have hpl : ∀ h S, RepS (sS W u (k, S)) X h → ∀ R : Out → PH → Prop, (∀ h, RepS (sS W u (k, pl0)) X h → R (.inl none) h) → wpC sc (d + 6) 3 [.ref (cid (2 * u + 1))] h R := fun h S hr R hR' =>
      s_startPlane (d := d + 1) hr (by omega) okR_pl (fun h hr => by rw [sC_sS_g] at hr; exact hR' h hr)
    generalize hg : stG (cutA pl0 (rowsC k.1 k.2)) = g at *
    have hinV : ∀ v ∈ g.2, inV v := fun v hv => (hbg.2 v hv).inV (by decide)
    unfold finK2 at h1 h0
    refine enter rfl rfl (fun call hc => go hc 28 (fun K hK => ?_))
    conv => whnf
    refine ⟨_, _, hr.Du hu, rfl, ?_⟩
    conv => whnf
    refine ⟨_, _, hr.S _ (by omega), rfl, ?_⟩
    conv => whnf
    refine ⟨_, hr.C _ (by omega), Nat.le_of_ble_eq_true rfl, ?_⟩
    conv => whnf
    refine callee hc (s_stK hr hu5 hok ?_)
    intro h hr
    rw [hk] at hr
    conv => whnf
    refine ⟨_, _, hr.Du hu, rfl, ?_⟩
    conv => whnf
    refine ⟨_, _, hr.S _ (by omega), rfl, ?_⟩
    conv => whnf
    refine ⟨_, hr.Du hu, Nat.le_of_ble_eq_true rfl, ?_⟩
    conv => whnf
    refine callee hc (s_smallOk hr (by omega) (s := k) ⟨sS_kl _ _ _, sS_ke _ _ _⟩ hbk.1 hbk.2 c1 ?_)
    conv => whnf
    refine ⟨_, _, hr.Du hu, rfl, ?_⟩
    conv => whnf
    refine ⟨_, _, hr.S _ (by omega), rfl, ?_⟩
    conv => whnf
    refine ⟨_, hr.C _ (by omega), Nat.le_of_ble_eq_true rfl, ?_⟩
    conv => whnf
    refine callee hc (hpl h _ hr _ ?_)
    intro h hr
    conv => whnf
    refine ⟨_, _, hr.Du hu, rfl, ?_⟩
    conv => whnf
    refine ⟨_, _, hr.S _ (by omega), rfl, ?_⟩
    conv => whnf
    refine ⟨_, _, hr.Du hu, rfl, ?_⟩
    conv => whnf
    refine ⟨_, _, hr.S _ (by omega), rfl, ?_⟩
    conv => whnf
    refine ⟨_, hr.C _ (by omega), Nat.le_of_ble_eq_true rfl, ?_⟩
    conv => whnf
    refine callee hc (hca h hr _ ?_)
    intro h hr
    conv => whnf
    refine ⟨_, _, hr.Du hu, rfl, ?_⟩
    conv => whnf
    refine ⟨_, _, hr.S _ (by omega), rfl, ?_⟩
    conv => whnf
    refine ⟨_, hr.C _ (by omega), Nat.le_of_ble_eq_true rfl, ?_⟩
    conv => whnf
    refine callee hc (s_stG hr hu5 hS ?_)
    intro h hr
    rw [hg] at hr
    conv => whnf
    refine ⟨_, _, hr.Du hu, rfl, ?_⟩
    conv => whnf
    refine ⟨_, hr.S _ (by omega), Nat.le_of_ble_eq_true rfl, ?_⟩
    conv => whnf
    refine callee hc (s_hasPoint hr hu5 (by rw [e1]; exact hinV) ?_)
    rw [e1, rc_odd]
    conv => whnf
    by_cases c2 : rcV 1 g.2 < g.2.length
    · rw [decide_eq_true c2]
      rw [if_pos c2] at h1 h0
      by_cases c3 : smB g = true
      · rw [if_pos c3] at h1 h0
        by_cases c4 : big (k, g) = true
        · rw [if_pos c4] at h0
          refine ⟨fun c_ => absurd c_ (by decide), fun c_ => ?_⟩
          conv => whnf
          refine hK _ _ _ _ _ _ (go hc 8 (fun K hK => ?_))
          conv => whnf
          refine ⟨_, _, hr.Du hu, rfl, ?_⟩
          conv => whnf
          refine ⟨_, _, hr.S _ (by omega), rfl, ?_⟩
          conv => whnf
          refine ⟨_, hr.Du hu, Nat.le_of_ble_eq_true rfl, ?_⟩
          conv => whnf
          refine callee hc (s_smallOk hr (by omega) (s := g) ⟨sS_gl _ _ _, sS_ge _ _ _⟩ hbg.1 hbg.2 c3 ?_)
          conv => whnf
          refine ⟨_, hr.Du hu, Nat.le_of_ble_eq_true rfl, ?_⟩
          conv => whnf
          refine callee hc (s_plainNo hr hu hu5 c4 ?_)
          conv => whnf
          exact ⟨rfl, rfl, h0 2 _ h rfl hr⟩
        · rw [if_neg c4] at h1
          have c4 := (Bool.not_eq_true _).mp c4
          refine ⟨fun c_ => absurd c_ (by decide), fun c_ => ?_⟩
          conv => whnf
          refine hK _ _ _ _ _ _ (go hc 8 (fun K hK => ?_))
          conv => whnf
          refine ⟨_, _, hr.Du hu, rfl, ?_⟩
          conv => whnf
          refine ⟨_, _, hr.S _ (by omega), rfl, ?_⟩
          conv => whnf
          refine ⟨_, hr.Du hu, Nat.le_of_ble_eq_true rfl, ?_⟩
          conv => whnf
          refine callee hc (s_smallOk hr (by omega) (s := g) ⟨sS_gl _ _ _, sS_ge _ _ _⟩ hbg.1 hbg.2 c3 ?_)
          conv => whnf
          refine ⟨_, hr.Du hu, Nat.le_of_ble_eq_true rfl, ?_⟩
          conv => whnf
          refine callee hc (s_plainOk hr hu hu5 c4 ?_)
          conv => whnf
          exact h1 _ h rfl hr
      · rw [if_neg c3] at h0
        have c3 := (Bool.not_eq_true _).mp c3
        refine ⟨fun c_ => absurd c_ (by decide), fun c_ => ?_⟩
        conv => whnf
        refine hK _ _ _ _ _ _ (go hc 8 (fun K hK => ?_))
        conv => whnf
        refine ⟨_, _, hr.Du hu, rfl, ?_⟩
        conv => whnf
        refine ⟨_, _, hr.S _ (by omega), rfl, ?_⟩
        conv => whnf
        refine ⟨_, hr.Du hu, Nat.le_of_ble_eq_true rfl, ?_⟩
        conv => whnf
        refine callee hc (s_smallNo hr (by omega) (s := g) ⟨sS_gl _ _ _, sS_ge _ _ _⟩ hbg.1 hbg.2 c3 ?_)
        conv => whnf
        exact ⟨rfl, rfl, h0 3 _ h rfl hr⟩
    · rw [decide_eq_false c2]
      refine ⟨fun c_ => ?_, fun c_ => absurd (rfl) c_⟩
      conv => whnf
      refine hK _ _ _ _ _ _ (go hc 4 (fun K hK => ?_))
      conv => whnf
      refine ⟨_, _, hr.Du hu, rfl, ?_⟩
      conv => whnf
      refine ⟨_, hr.S _ (by omega), Nat.le_of_ble_eq_true rfl, ?_⟩
      conv => whnf
      refine callee hc (s_sclear hr hu5 ?_)
      intro h hr
      rw [sS_sS] at hr
      conv => whnf
      exact h1 emp h (if_neg c2) hr
  · rw [if_neg c1] at h0
    have c1 := (Bool.not_eq_true _).mp c1
    refine enter rfl rfl (fun call hc => go hc 28 (fun K hK => ?_))
    conv => whnf
    refine ⟨_, _, hr.Du hu, rfl, ?_⟩
    conv => whnf
    refine ⟨_, _, hr.S _ (by omega), rfl, ?_⟩
    conv => whnf
    refine ⟨_, hr.C _ (by omega), Nat.le_of_ble_eq_true rfl, ?_⟩
    conv => whnf
    refine callee hc (s_stK hr hu5 hok ?_)
    intro h hr
    rw [hk] at hr
    conv => whnf
    refine ⟨_, _, hr.Du hu, rfl, ?_⟩
    conv => whnf
    refine ⟨_, _, hr.S _ (by omega), rfl, ?_⟩
    conv => whnf
    refine ⟨_, hr.Du hu, Nat.le_of_ble_eq_true rfl, ?_⟩
    conv => whnf
    refine callee hc (s_smallNo hr (by omega) (s := k) ⟨sS_kl _ _ _, sS_ke _ _ _⟩ hbk.1 hbk.2 c1 ?_)
    conv => whnf
    exact ⟨rfl, rfl, h0 3 _ h rfl hr⟩
/-- cutting the draft's generators by another shape's constraints -/
def cbc (s : LE) (S : SH) : LE := cutA (if S.2.2 = [] then ([], []) else s) (rowsC S.1.1 S.1.2)
theorem s_cbc (hr : RepS (sS W u S0) X h) {t : Nat} (hu5 : u < 5) (ht5 : t < 5) (hne : u ≠ t) (hok : okR (if (gS W t).2.2 = [] then ([], []) else S0.2) (rowsC (gS W t).1.1 (gS W t).1.2))
    (hQ : ∀ h, RepS (sS W u (S0.1, cbc S0.2 (gS W t))) X h → Q (.inl none) h) : wpC sc (d + 6) 4 [.ref (cid (2 * u + 1)), .ref (sid t)] h Q := by
  unfold cbc at hQ
  have e1 : ∀ S, (sS W u S).1 (2 * (2 * t)) = W.1 (2 * (2 * t)) := fun S => sS_ne _ _ (by omega)
  have e2 : ∀ S, (sS W u S).1 (2 * (2 * t) + 1) = W.1 (2 * (2 * t) + 1) := fun S => sS_ne _ _ (by omega)
  have e3' : ∀ S, (sS W u S).1 (2 * (2 * t + 1) + 1) = W.1 (2 * (2 * t + 1) + 1) := fun S => sS_ne _ _ (by omega)
  have hca : ∀ (s : LE) h, RepS (sS W u (S0.1, s)) X h → okR s (rowsC (gS W t).1.1 (gS W t).1.2) → ∀ R : Out → PH → Prop, (∀ h, RepS (sS W u (S0.1, cutA s (rowsC (gS W t).1.1 (gS W t).1.2))) X h → R (.inl none) h) → wpC sc (d + 5) 5 [.ref (cid (2 * u + 1)), .ref (cid (2 * t))] h R := fun s h hr hR R hR' => by
    refine s_cutByAll (d := d) hr (by omega) (by omega) (by omega) (s := s) ⟨sS_gl _ _ _, sS_ge _ _ _⟩ (by rw [e1, e2]; exact hR) ?_
    rw [e1, e2]
    intro h hr
    rw [sC_sS_g] at hr
    exact hR' h hr
  refine enter rfl rfl (fun call hc => go hc 3 (fun K hK => ?_))
  conv => whnf
  refine ⟨_, hr.S _ (by omega), Nat.le_of_ble_eq_true rfl, ?_⟩
  conv => whnf
  refine callee hc (s_isEmpty hr ht5 ?_)
  rw [e3']
  conv => whnf
  by_cases c1 : W.1 (2 * (2 * t + 1) + 1) = []
  · have c1' : (gS W t).2.2 = [] := c1
    rw [if_pos c1'] at hQ hok
    rw [decide_eq_true c1]
    refine ⟨fun c_ => absurd c_ (by decide), fun c_ => ?_⟩
    conv => whnf
    refine hK _ _ _ _ _ _ (go hc 2 (fun K hK => ?_))
    conv => whnf
    refine ⟨_, hr.C _ (by omega), Nat.le_of_ble_eq_true rfl, ?_⟩
    conv => whnf
    refine callee hc (s_cclear hr (by omega) ?_)
    intro h hr
    rw [sC_sS_g] at hr
    conv => whnf
    refine hK _ _ _ _ _ _ ?_
    refine go hc 5 (fun K hK => ?_)
    conv => whnf
    refine ⟨_, _, hr.S _ (by omega), rfl, ?_⟩
    conv => whnf
    refine ⟨_, hr.C _ (by omega), Nat.le_of_ble_eq_true rfl, ?_⟩
    conv => whnf
    refine callee hc (hca _ h hr hok _ ?_)
    intro h hr
    conv => whnf
    exact hQ h hr
  · have c1' : ¬ (gS W t).2.2 = [] := c1
    rw [if_neg c1'] at hQ hok
    rw [decide_eq_false c1]
    refine ⟨fun c_ => ?_, fun c_ => absurd (rfl) c_⟩
    conv => whnf
    refine hK _ _ _ _ _ _ ?_
    refine go hc 5 (fun K hK => ?_)
    conv => whnf
    refine ⟨_, _, hr.S _ (by omega), rfl, ?_⟩
    conv => whnf
    refine ⟨_, hr.C _ (by omega), Nat.le_of_ble_eq_true rfl, ?_⟩
    conv => whnf
    refine callee hc (hca S0.2 h hr hok _ ?_)
    intro h hr
    conv => whnf
    exact hQ h hr
end FINISH2
