/-! cutting by another cone's rows -/
def rowsL (L : List V3) : List V3 := L.flatMap fun v => [v, neg3 v]
def rowsC (L E : List V3) : List V3 := rowsL L ++ E
section CUTALL
variable {sc : Scr} {d : Nat} {W : AW} {X h : PH} {c c2 : Nat} {Q : Out → PH → Prop}
theorem ca_e {call : Callee} (hc : call = wpC sc (d + 4)) (hc0 : c < 10) (hc2 : c2 < 10) (hne : c ≠ c2) {L2 : Value} (hl48 : (W.1 (2 * c2 + 1)).length ≤ 48) :
    ∀ (n i : Nat) (s : LE) (h : PH), i + n = (W.1 (2 * c2 + 1)).length → RepS (sC W c s.1 s.2) X h → okR s ((W.1 (2 * c2 + 1)).drop i) →
    (∀ h, RepS (sC W c (cutA s ((W.1 (2 * c2 + 1)).drop i)).1 (cutA s ((W.1 (2 * c2 + 1)).drop i)).2) X h → Q (.inl none) h) →
    Runs (d + 4) call sc m_X0_cutByAll Q 76 [(0, .ref (cid c)), (1, .ref (cid c2)), (2, L2), (3, .ref (rid (2 * c2 + 1))), (4, .int (nI i))] [] h 0 0 := by
  have e1 : ∀ s : LE, (sC W c s.1 s.2).1 (2 * c2 + 1) = W.1 (2 * c2 + 1) := fun s => sC_ne _ _ _ (by omega) (by omega)
  intro n
  induction n with
  | zero =>
    intro i s h hi hr hok hQ
    rw [List.drop_eq_nil_of_le (by omega)] at hQ
    refine go hc 4 (fun K hK => ?_)
    conv => whnf
    refine ⟨_, hr.R _ (by omega), Nat.le_of_ble_eq_true rfl, ?_⟩
    conv => whnf
    refine callee hc (s_count hr (by omega) ?_)
    conv => whnf
    rw [e1]
    refine ⟨fun c_ => ?_, fun c_ => absurd (nI_le (by omega) (by omega)) c_⟩
    conv => whnf
    refine hK _ _ _ _ _ _ (go hc 1 (fun K hK => ?_))
    conv => whnf
    exact hQ h hr
  | succ n ih =>
    intro i s h hi hr hok hQ
    have hil : i < (W.1 (2 * c2 + 1)).length := by omega
    have hil' : i < ((sC W c s.1 s.2).1 (2 * c2 + 1)).length := by rw [e1]; exact hil
    rw [drop_gt hil] at hok hQ
    refine go hc 4 (fun K hK => ?_)
    conv => whnf
    refine ⟨_, hr.R _ (by omega), Nat.le_of_ble_eq_true rfl, ?_⟩
    conv => whnf
    refine callee hc (s_count hr (by omega) ?_)
    conv => whnf
    rw [e1]
    refine ⟨fun c_ => absurd c_ (nI_ge hil (by omega)), fun c_ => ?_⟩
    conv => whnf
    refine hK _ _ _ _ _ _ (go hc 16 (fun K hK => ?_))
    conv => whnf
    refine ⟨_, hr.R _ (by omega), Nat.le_of_ble_eq_true rfl, ?_⟩
    conv => whnf
    refine callee hc (s_at0 hr (by omega) hil' ?_)
    rw [e1]
    conv => whnf
    refine ⟨_, hr.R _ (by omega), Nat.le_of_ble_eq_true rfl, ?_⟩
    conv => whnf
    refine callee hc (s_at1 hr (by omega) hil' ?_)
    rw [e1]
    conv => whnf
    refine ⟨_, hr.R _ (by omega), Nat.le_of_ble_eq_true rfl, ?_⟩
    conv => whnf
    refine callee hc (s_at2 hr (by omega) hil' ?_)
    rw [e1]
    conv => whnf
    refine ⟨_, hr.C _ (by omega), Nat.le_of_ble_eq_true rfl, ?_⟩
    conv => whnf
    refine callee hc (s_cut1 hr hc0 (gt (W.1 (2 * c2 + 1)) i) (s := s) ⟨sC_l _ _ _ _, sC_e _ _ _ _⟩ rfl rfl rfl ⟨hok.1, hok.2.1, hok.2.2.ok⟩ ?_)
    intro h hr
    rw [sC_sC] at hr
    conv => whnf
    try simp only [nI_1]
    refine hK _ _ _ _ _ _ (Runs.less hc [0, 1, 2, 3, 4] rfl rfl rfl rfl (ih _ _ _ (by omega) hr hok.2.2 hQ))
theorem ca_l {call : Callee} (hc : call = wpC sc (d + 4)) (hc0 : c < 10) (hc2 : c2 < 10) (hne : c ≠ c2) (hl48 : (W.1 (2 * c2)).length ≤ 48) (hl48' : (W.1 (2 * c2 + 1)).length ≤ 48) :
    ∀ (n i : Nat) (s : LE) (h : PH), i + n = (W.1 (2 * c2)).length → RepS (sC W c s.1 s.2) X h → okR s (rowsC ((W.1 (2 * c2)).drop i) (W.1 (2 * c2 + 1))) →
    (∀ h, RepS (sC W c (cutA s (rowsC ((W.1 (2 * c2)).drop i) (W.1 (2 * c2 + 1)))).1 (cutA s (rowsC ((W.1 (2 * c2)).drop i) (W.1 (2 * c2 + 1)))).2) X h → Q (.inl none) h) →
    Runs (d + 4) call sc m_X0_cutByAll Q 7 [(0, .ref (cid c)), (1, .ref (cid c2)), (2, .ref (rid (2 * c2))), (3, .int (nI i))] [] h 0 0 := by
  have e1 : ∀ s : LE, (sC W c s.1 s.2).1 (2 * c2) = W.1 (2 * c2) := fun s => sC_ne _ _ _ (by omega) (by omega)
  intro n
  induction n with
  | zero =>
    intro i s h hi hr hok hQ
    rw [List.drop_eq_nil_of_le (by omega)] at hok hQ
    refine go hc 4 (fun K hK => ?_)
    conv => whnf
    refine ⟨_, hr.R _ (by omega), Nat.le_of_ble_eq_true rfl, ?_⟩
    conv => whnf
    refine callee hc (s_count hr (by omega) ?_)
    conv => whnf
    rw [e1]
    refine ⟨fun c_ => ?_, fun c_ => absurd (nI_le (by omega) (by omega)) c_⟩
    conv => whnf
    refine hK _ _ _ _ _ _ (go hc 5 (fun K hK => ?_))
    conv => whnf
    refine ⟨_, _, hr.C _ (by omega), rfl, ?_⟩
    conv => whnf
    try simp only [nI_1]
    refine hK _ _ _ _ _ _ (Runs.less hc [0, 1, 2, 3, 4] rfl rfl rfl rfl (ca_e hc hc0 hc2 hne hl48' (W.1 (2 * c2 + 1)).length 0 s h (by omega) hr hok hQ))
  | succ n ih =>
    intro i s h hi hr hok hQ
    have hil : i < (W.1 (2 * c2)).length := by omega
    have hil' : ∀ s : LE, i < ((sC W c s.1 s.2).1 (2 * c2)).length := fun s => by rw [e1]; exact hil
    rw [drop_gt hil] at hok hQ
    have hok2 : okR s (gt (W.1 (2 * c2)) i :: neg3 (gt (W.1 (2 * c2)) i) :: rowsC ((W.1 (2 * c2)).drop (i + 1)) (W.1 (2 * c2 + 1))) := hok
    refine go hc 4 (fun K hK => ?_)
    conv => whnf
    refine ⟨_, hr.R _ (by omega), Nat.le_of_ble_eq_true rfl, ?_⟩
    conv => whnf
    refine callee hc (s_count hr (by omega) ?_)
    conv => whnf
    rw [e1]
    refine ⟨fun c_ => absurd c_ (nI_ge hil (by omega)), fun c_ => ?_⟩
    conv => whnf
    refine hK _ _ _ _ _ _ (go hc 33 (fun K hK => ?_))
    conv => whnf
    refine ⟨_, hr.R _ (by omega), Nat.le_of_ble_eq_true rfl, ?_⟩
    conv => whnf
    refine callee hc (s_at0 hr (by omega) (hil' _) ?_)
    rw [e1]
    conv => whnf
    refine ⟨_, hr.R _ (by omega), Nat.le_of_ble_eq_true rfl, ?_⟩
    conv => whnf
    refine callee hc (s_at1 hr (by omega) (hil' _) ?_)
    rw [e1]
    conv => whnf
    refine ⟨_, hr.R _ (by omega), Nat.le_of_ble_eq_true rfl, ?_⟩
    conv => whnf
    refine callee hc (s_at2 hr (by omega) (hil' _) ?_)
    rw [e1]
    conv => whnf
    refine ⟨_, hr.C _ (by omega), Nat.le_of_ble_eq_true rfl, ?_⟩
    conv => whnf
    refine callee hc (s_cut1 hr hc0 (gt (W.1 (2 * c2)) i) (s := s) ⟨sC_l _ _ _ _, sC_e _ _ _ _⟩ rfl rfl rfl ⟨hok2.1, hok2.2.1, hok2.2.2.ok⟩ ?_)
    intro h hr
    rw [sC_sC] at hr
    conv => whnf
    refine ⟨_, hr.R _ (by omega), Nat.le_of_ble_eq_true rfl, ?_⟩
    conv => whnf
    refine callee hc (s_at0 hr (by omega) (hil' _) ?_)
    rw [e1]
    conv => whnf
    refine ⟨_, hr.R _ (by omega), Nat.le_of_ble_eq_true rfl, ?_⟩
    conv => whnf
    refine callee hc (s_at1 hr (by omega) (hil' _) ?_)
    rw [e1]
    conv => whnf
    refine ⟨_, hr.R _ (by omega), Nat.le_of_ble_eq_true rfl, ?_⟩
    conv => whnf
    refine callee hc (s_at2 hr (by omega) (hil' _) ?_)
    rw [e1]
    conv => whnf
    refine ⟨_, hr.C _ (by omega), Nat.le_of_ble_eq_true rfl, ?_⟩
    conv => whnf
    refine callee hc (s_cut1 hr hc0 (neg3 (gt (W.1 (2 * c2)) i)) (s := cutF (gt (W.1 (2 * c2)) i) s) ⟨sC_l _ _ _ _, sC_e _ _ _ _⟩ (Int64.ofInt_neg _).symm (Int64.ofInt_neg _).symm (Int64.ofInt_neg _).symm ⟨hok2.2.2.1, hok2.2.2.2.1, hok2.2.2.2.2.ok⟩ ?_)
    intro h hr
    rw [sC_sC] at hr
    conv => whnf
    try simp only [nI_1]
    refine hK _ _ _ _ _ _ (Runs.less hc [0, 1, 2, 3] rfl rfl rfl rfl (ih _ _ _ (by omega) hr hok2.2.2.2.2 hQ))
theorem s_cutByAll (hr : RepS W X h) (hc0 : c < 10) (hc2 : c2 < 10) (hne : c ≠ c2) {s : LE} (hs : W.1 (2 * c) = s.1 ∧ W.1 (2 * c + 1) = s.2) (hok : okR s (rowsC (W.1 (2 * c2)) (W.1 (2 * c2 + 1))))
    (hQ : ∀ h, RepS (sC W c (cutA s (rowsC (W.1 (2 * c2)) (W.1 (2 * c2 + 1)))).1 (cutA s (rowsC (W.1 (2 * c2)) (W.1 (2 * c2 + 1)))).2) X h → Q (.inl none) h) : wpC sc (d + 5) 5 [.ref (cid c), .ref (cid c2)] h Q := by
  refine enter rfl rfl (fun call hc => go hc 5 (fun K hK => ?_))
  conv => whnf
  refine ⟨_, _, hr.C _ (by omega), rfl, ?_⟩
  conv => whnf
  try simp only [nI_1]
  refine hK _ _ _ _ _ _ (Runs.less hc [0, 1, 2, 3] rfl rfl rfl rfl (ca_l (Q := qth _ Q) hc hc0 hc2 hne (hr.c48 (by omega)) (hr.c48 (by omega)) (W.1 (2 * c2)).length 0 s h (by omega) (by rw [← hs.1, ← hs.2, sC_id]; exact hr) hok hQ))
theorem s_startPlane (hr : RepS W X h) (hc0 : c < 10) (hok : okR (e3, []) [(1, 0, 0)]) (hQ : ∀ h, RepS (sC W c (cutF (1, 0, 0) (e3, [])).1 (cutF (1, 0, 0) (e3, [])).2) X h → Q (.inl none) h) : wpC sc (d + 5) 3 [.ref (cid c)] h Q := by
  refine enter rfl rfl (fun call hc => go hc 8 (fun K hK => ?_))
  conv => whnf
  refine ⟨_, hr.C _ (by omega), Nat.le_of_ble_eq_true rfl, ?_⟩
  conv => whnf
  refine callee hc (s_startAll hr hc0 ?_)
  intro h hr
  conv => whnf
  refine ⟨_, hr.C _ (by omega), Nat.le_of_ble_eq_true rfl, ?_⟩
  conv => whnf
  refine callee hc (s_cut1 hr hc0 (1, 0, 0) (s := (e3, [])) ⟨sC_l _ _ _ _, sC_e _ _ _ _⟩ rfl rfl rfl hok ?_)
  intro h hr
  rw [sC_sC] at hr
  conv => whnf
  exact hQ h hr
/-! the shapes: shape t has cones 2 t (constraints) and 2 t + 1 (generators) -/
variable {t : Nat}
theorem s_isEmpty (hr : RepS W X h) (ht : t < 5) (hQ : Q (.inl (some (.int (bI01 (decide (W.1 (2 * (2 * t + 1) + 1) = []))))) ) h) : wpC sc (d + 2) 35 [.ref (sid t)] h Q := by
  have h48 := hr.c48 (show 2 * (2 * t + 1) + 1 < 20 by omega)
  refine enter rfl rfl (fun call hc => go hc 5 (fun K hK => ?_))
  conv => whnf
  refine ⟨_, _, hr.S _ (by omega), rfl, ?_⟩
  conv => whnf
  refine ⟨_, _, hr.C _ (by omega), rfl, ?_⟩
  conv => whnf
  refine ⟨_, hr.R _ (by omega), Nat.le_of_ble_eq_true rfl, ?_⟩
  conv => whnf
  refine callee hc (s_count hr (by omega) ?_)
  conv => whnf
  by_cases h1 : W.1 (2 * (2 * t + 1) + 1) = []
  · rw [decide_eq_true h1] at hQ
    rw [h1]
    refine ⟨fun c_ => ?_, fun c_ => absurd (rfl) c_⟩
    conv => whnf
    refine hK _ _ _ _ _ _ (go hc 3 (fun K hK => ?_))
    conv => whnf
    exact ⟨Or.inr rfl, hQ⟩
  · rw [decide_eq_false h1] at hQ
    refine ⟨fun c_ => absurd c_ (nI_ne0 (List.length_pos_iff.mpr h1) (by omega)), fun c_ => ?_⟩
    conv => whnf
    refine hK _ _ _ _ _ _ (go hc 2 (fun K hK => ?_))
    conv => whnf
    exact ⟨Or.inl rfl, hQ⟩
end CUTALL
