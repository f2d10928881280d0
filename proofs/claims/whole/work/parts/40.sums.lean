/-! sums, images, origins -/
def sumV (p q : V3) : V3 := (p.1 * q.1, p.2.1 * q.1 + q.2.1 * p.1, p.2.2 * q.1 + q.2.2 * p.1)
def sumR (p : V3) (E : List V3) : List V3 := E.flatMap fun q => if 0 < p.1 ∧ 0 < q.1 then [sumV p q] else []
def sums (E1 E2 : List V3) : List V3 := E1.flatMap fun p => sumR p E2
def dirV (v : V3) : V3 := (0, v.2.1, v.2.2)
def dirL (L : List V3) : List V3 := L.flatMap fun v => [dirV v, neg3 (dirV v)]
def dirE (E : List V3) : List V3 := (E.take (rcV 1 E)).map dirV
theorem oI_ll (a b c e : Int) : Int64.ofInt a * Int64.ofInt b + Int64.ofInt c * Int64.ofInt e = Int64.ofInt (a * b + c * e) := by rw [Int64.ofInt_add, Int64.ofInt_mul, Int64.ofInt_mul]
section SUMS
variable {sc : Scr} {d : Nat} {W : AW} {X h : PH} {u : Nat} {G : LE} {Q : Out → PH → Prop}
theorem pt_in {call : Callee} (hc : call = wpC sc (d + 4)) (hu : W.2.2.2.2.1 = u) (hu5 : u < 5) {t1 t2 i : Nat} (ht1 : t1 < 5) (ht2 : t2 < 5) (hn1 : u ≠ t1) (hn2 : u ≠ t2) (hi : i < (W.1 (2 * (2 * t1 + 1) + 1)).length) (hl48 : (W.1 (2 * (2 * t2 + 1) + 1)).length ≤ 48)
    (hb1 : bdL (W.1 (2 * (2 * t1 + 1) + 1))) (hb2 : bdL (W.1 (2 * (2 * t2 + 1) + 1))) {R : List V3} {F : LE}
    (hQ : ∀ s h, cutA s R = F → okR s R → RepS (sS W u (s, G)) X h → Runs (d + 4) call sc m_X3_cutByPointSums Q 2 [(0, .ref 0), (1, .ref (rid (2 * (2 * t1 + 1) + 1))), (2, .ref (rid (2 * (2 * t2 + 1) + 1))), (3, .int (nI (i + 1)))] [] h 0 0) :
    ∀ (n k : Nat) (s : LE) (h : PH), k + n = (W.1 (2 * (2 * t2 + 1) + 1)).length → RepS (sS W u (s, G)) X h → okR s (sumR (gt (W.1 (2 * (2 * t1 + 1) + 1)) i) ((W.1 (2 * (2 * t2 + 1) + 1)).drop k) ++ R) → cutA s (sumR (gt (W.1 (2 * (2 * t1 + 1) + 1)) i) ((W.1 (2 * (2 * t2 + 1) + 1)).drop k) ++ R) = F →
    Runs (d + 4) call sc m_X3_cutByPointSums Q 13 [(0, .ref 0), (1, .ref (rid (2 * (2 * t1 + 1) + 1))), (2, .ref (rid (2 * (2 * t2 + 1) + 1))), (3, .int (nI i)), (4, .int (nI k))] [] h 0 0 := by
  have e1 : ∀ S, (sS W u S).1 (2 * (2 * t1 + 1) + 1) = W.1 (2 * (2 * t1 + 1) + 1) := fun S => sS_ne _ _ (by omega)
  have e2 : ∀ S, (sS W u S).1 (2 * (2 * t2 + 1) + 1) = W.1 (2 * (2 * t2 + 1) + 1) := fun S => sS_ne _ _ (by omega)
  have i1 : ∀ S, i < ((sS W u S).1 (2 * (2 * t1 + 1) + 1)).length := fun S => by rw [e1]; exact hi
  have p1 := hb1 _ (gt_mem hi)
  have q1 := p1.1.inL (by decide)
  intro n
  induction n with
  | zero =>
    intro k s h hk hr hok hF
    rw [List.drop_eq_nil_of_le (by omega)] at hok hF
    refine go hc 4 (fun K hK => ?_)
    conv => whnf
    refine ⟨_, hr.R _ (by omega), Nat.le_of_ble_eq_true rfl, ?_⟩
    conv => whnf
    refine callee hc (s_count hr (by omega) ?_)
    conv => whnf
    rw [e2]
    refine ⟨fun c_ => ?_, fun c_ => absurd (nI_le (by omega) (by omega)) c_⟩
    conv => whnf
    refine hK _ _ _ _ _ _ (go hc 2 (fun K hK => ?_))
    conv => whnf
    try simp only [nI_1]
    refine hK _ _ _ _ _ _ (Runs.less hc [0, 1, 2, 3] rfl rfl rfl rfl (hQ s h hF hok hr))
  | succ n ih =>
    intro k s h hk hr hok hF
    have hkl : k < (W.1 (2 * (2 * t2 + 1) + 1)).length := by omega
    have i2 : ∀ S, k < ((sS W u S).1 (2 * (2 * t2 + 1) + 1)).length := fun S => by rw [e2]; exact hkl
    have p2 := hb2 _ (gt_mem hkl)
    have q2 := p2.1.inL (by decide)
    rw [drop_gt hkl] at hok hF
    unfold sumR at hok hF
    rw [List.flatMap_cons, List.append_assoc] at hok hF
    refine go hc 4 (fun K hK => ?_)
    conv => whnf
    refine ⟨_, hr.R _ (by omega), Nat.le_of_ble_eq_true rfl, ?_⟩
    conv => whnf
    refine callee hc (s_count hr (by omega) ?_)
    conv => whnf
    rw [e2]
    refine ⟨fun c_ => absurd c_ (nI_ge hkl (by omega)), fun c_ => ?_⟩
    conv => whnf
    refine hK _ _ _ _ _ _ (go hc 14 (fun K hK => ?_))
    conv => whnf
    refine ⟨_, hr.R _ (by omega), Nat.le_of_ble_eq_true rfl, ?_⟩
    conv => whnf
    refine callee hc (s_at0 hr (by omega) (i1 _) ?_)
    rw [e1]
    conv => whnf
    refine ⟨_, hr.R _ (by omega), Nat.le_of_ble_eq_true rfl, ?_⟩
    conv => whnf
    refine callee hc (s_at0 hr (by omega) (i2 _) ?_)
    rw [e2]
    conv => whnf
    by_cases c1 : 0 < (gt (W.1 (2 * (2 * t1 + 1) + 1)) i).1
    · refine ⟨fun c_ => absurd c_ (fun q => by have := (kLe0 q1).mp q; omega), fun c_ => ?_⟩
      conv => whnf
      refine hK _ _ _ _ _ _ (go hc 4 (fun K hK => ?_))
      conv => whnf
      by_cases c2 : 0 < (gt (W.1 (2 * (2 * t2 + 1) + 1)) k).1
      · rw [if_pos ⟨c1, c2⟩] at hok hF
        have hok' : okR s (sumV (gt (W.1 (2 * (2 * t1 + 1) + 1)) i) (gt (W.1 (2 * (2 * t2 + 1) + 1)) k) :: (sumR (gt (W.1 (2 * (2 * t1 + 1) + 1)) i) ((W.1 (2 * (2 * t2 + 1) + 1)).drop (k + 1)) ++ R)) := hok
        refine ⟨fun c_ => absurd c_ (fun q => by have := (kLe0 q2).mp q; omega), fun c_ => ?_⟩
        conv => whnf
        refine hK _ _ _ _ _ _ (go hc 35 (fun K hK => ?_))
        conv => whnf
        refine ⟨_, _, hr.Du hu, rfl, ?_⟩
        conv => whnf
        refine ⟨_, _, hr.S _ (by omega), rfl, ?_⟩
        conv => whnf
        refine ⟨_, hr.R _ (by omega), Nat.le_of_ble_eq_true rfl, ?_⟩
        conv => whnf
        refine callee hc (s_at1 hr (by omega) (i1 _) ?_)
        rw [e1]
        conv => whnf
        refine ⟨_, hr.R _ (by omega), Nat.le_of_ble_eq_true rfl, ?_⟩
        conv => whnf
        refine callee hc (s_at1 hr (by omega) (i2 _) ?_)
        rw [e2]
        conv => whnf
        refine ⟨_, hr.R _ (by omega), Nat.le_of_ble_eq_true rfl, ?_⟩
        conv => whnf
        refine callee hc (s_at2 hr (by omega) (i1 _) ?_)
        rw [e1]
        conv => whnf
        refine ⟨_, hr.R _ (by omega), Nat.le_of_ble_eq_true rfl, ?_⟩
        conv => whnf
        refine callee hc (s_at2 hr (by omega) (i2 _) ?_)
        rw [e2]
        conv => whnf
        refine ⟨_, hr.C _ (by omega), Nat.le_of_ble_eq_true rfl, ?_⟩
        conv => whnf
        refine callee hc (s_cutK hr hu5 (sumV (gt (W.1 (2 * (2 * t1 + 1) + 1)) i) (gt (W.1 (2 * (2 * t2 + 1) + 1)) k)) (Int64.ofInt_mul _ _).symm (oI_ll _ _ _ _) (oI_ll _ _ _ _) ⟨hok'.1, hok'.2.1, hok'.2.2.ok⟩ ?_)
        intro h hr
        conv => whnf
        try simp only [nI_1]
        refine hK _ _ _ _ _ _ (Runs.less hc [0, 1, 2, 3, 4] rfl rfl rfl rfl (ih _ _ _ (by omega) hr hok'.2.2 hF))
      · rw [if_neg (fun q => c2 q.2)] at hok hF
        refine ⟨fun c_ => ?_, fun c_ => absurd ((kLe0 q2).mpr (by omega)) c_⟩
        conv => whnf
        refine hK _ _ _ _ _ _ (go hc 2 (fun K hK => ?_))
        conv => whnf
        try simp only [nI_1]
        refine hK _ _ _ _ _ _ (Runs.less hc [0, 1, 2, 3, 4] rfl rfl rfl rfl (ih _ _ _ (by omega) hr hok hF))
    · rw [if_neg (fun q => c1 q.1)] at hok hF
      refine ⟨fun c_ => ?_, fun c_ => absurd ((kLe0 q1).mpr (by omega)) c_⟩
      conv => whnf
      refine hK _ _ _ _ _ _ (go hc 2 (fun K hK => ?_))
      conv => whnf
      try simp only [nI_1]
      refine hK _ _ _ _ _ _ (Runs.less hc [0, 1, 2, 3, 4] rfl rfl rfl rfl (ih _ _ _ (by omega) hr hok hF))
theorem pt_out {call : Callee} (hc : call = wpC sc (d + 4)) (hu : W.2.2.2.2.1 = u) (hu5 : u < 5) {t1 t2 : Nat} (ht1 : t1 < 5) (ht2 : t2 < 5) (hn1 : u ≠ t1) (hn2 : u ≠ t2) (hl1 : (W.1 (2 * (2 * t1 + 1) + 1)).length ≤ 48) (hl48 : (W.1 (2 * (2 * t2 + 1) + 1)).length ≤ 48)
    (hb1 : bdL (W.1 (2 * (2 * t1 + 1) + 1))) (hb2 : bdL (W.1 (2 * (2 * t2 + 1) + 1))) {F : LE}
    (hQ : ∀ h, RepS (sS W u (F, G)) X h → Q (.inl none) h) :
    ∀ (n i : Nat) (s : LE) (h : PH), i + n = (W.1 (2 * (2 * t1 + 1) + 1)).length → RepS (sS W u (s, G)) X h → okR s (sums ((W.1 (2 * (2 * t1 + 1) + 1)).drop i) (W.1 (2 * (2 * t2 + 1) + 1))) → cutA s (sums ((W.1 (2 * (2 * t1 + 1) + 1)).drop i) (W.1 (2 * (2 * t2 + 1) + 1))) = F →
    Runs (d + 4) call sc m_X3_cutByPointSums Q 2 [(0, .ref 0), (1, .ref (rid (2 * (2 * t1 + 1) + 1))), (2, .ref (rid (2 * (2 * t2 + 1) + 1))), (3, .int (nI i))] [] h 0 0 := by
  have e1 : ∀ S, (sS W u S).1 (2 * (2 * t1 + 1) + 1) = W.1 (2 * (2 * t1 + 1) + 1) := fun S => sS_ne _ _ (by omega)
  intro n
  induction n with
  | zero =>
    intro i s h hi hr hok hF
    rw [List.drop_eq_nil_of_le (by omega)] at hok hF
    refine go hc 4 (fun K hK => ?_)
    conv => whnf
    refine ⟨_, hr.R _ (by omega), Nat.le_of_ble_eq_true rfl, ?_⟩
    conv => whnf
    refine callee hc (s_count hr (by omega) ?_)
    conv => whnf
    rw [e1]
    refine ⟨fun c_ => ?_, fun c_ => absurd (nI_le (by omega) (by omega)) c_⟩
    conv => whnf
    refine hK _ _ _ _ _ _ (go hc 1 (fun K hK => ?_))
    conv => whnf
    exact hQ h (by rw [← hF]; exact hr)
  | succ n ih =>
    intro i s h hi hr hok hF
    have hil : i < (W.1 (2 * (2 * t1 + 1) + 1)).length := by omega
    rw [drop_gt hil] at hok hF
    unfold sums at hok hF
    rw [List.flatMap_cons] at hok hF
    refine go hc 4 (fun K hK => ?_)
    conv => whnf
    refine ⟨_, hr.R _ (by omega), Nat.le_of_ble_eq_true rfl, ?_⟩
    conv => whnf
    refine callee hc (s_count hr (by omega) ?_)
    conv => whnf
    rw [e1]
    refine ⟨fun c_ => absurd c_ (nI_ge hil (by omega)), fun c_ => ?_⟩
    conv => whnf
    refine hK _ _ _ _ _ _ (go hc 2 (fun K hK => ?_))
    conv => whnf
    try simp only [nI_1]
    refine hK _ _ _ _ _ _ (Runs.less hc [0, 1, 2, 3, 4] rfl rfl rfl rfl (pt_in hc hu hu5 ht1 ht2 hn1 hn2 hil hl48 hb1 hb2 (fun s h hF hok hr => ih _ s h (by omega) hr hok hF) (W.1 (2 * (2 * t2 + 1) + 1)).length 0 s h (by omega) hr hok hF))
theorem s_pointSums {S0 : SH} (hr : RepS (sS W u S0) X h) (hu : W.2.2.2.2.1 = u) (hu5 : u < 5) {t1 t2 : Nat} (ht1 : t1 < 5) (ht2 : t2 < 5) (hn1 : u ≠ t1) (hn2 : u ≠ t2) (hb1 : bdL (W.1 (2 * (2 * t1 + 1) + 1))) (hb2 : bdL (W.1 (2 * (2 * t2 + 1) + 1)))
    (hok : okR S0.1 (sums (W.1 (2 * (2 * t1 + 1) + 1)) (W.1 (2 * (2 * t2 + 1) + 1)))) (hQ : ∀ h, RepS (sS W u (cutA S0.1 (sums (W.1 (2 * (2 * t1 + 1) + 1)) (W.1 (2 * (2 * t2 + 1) + 1))), S0.2)) X h → Q (.inl none) h) : wpC sc (d + 5) 62 [.ref 0, .ref (rid (2 * (2 * t1 + 1) + 1)), .ref (rid (2 * (2 * t2 + 1) + 1))] h Q := by
  have e1 : ∀ S, (sS W u S).1 (2 * (2 * t1 + 1) + 1) = W.1 (2 * (2 * t1 + 1) + 1) := fun S => sS_ne _ _ (by omega)
  have e2 : ∀ S, (sS W u S).1 (2 * (2 * t2 + 1) + 1) = W.1 (2 * (2 * t2 + 1) + 1) := fun S => sS_ne _ _ (by omega)
  have k1 := hr.c48 (show 2 * (2 * t1 + 1) + 1 < 20 by omega)
  have k2 := hr.c48 (show 2 * (2 * t2 + 1) + 1 < 20 by omega)
  rw [e1] at k1
  rw [e2] at k2
  refine enter rfl rfl (fun call hc => go hc 2 (fun K hK => ?_))
  conv => whnf
  try simp only [nI_1]
  refine hK _ _ _ _ _ _ (Runs.less hc [0, 1, 2, 3] rfl rfl rfl rfl (pt_out (Q := qth _ Q) hc hu hu5 ht1 ht2 hn1 hn2 k1 k2 hb1 hb2 hQ (W.1 (2 * (2 * t1 + 1) + 1)).length 0 S0.1 h (by omega) hr hok rfl))
theorem dr_e {call : Callee} (hc : call = wpC sc (d + 4)) (hu : W.2.2.2.2.1 = u) (hu5 : u < 5) {t : Nat} {L2 : Value} (ht : t < 5) (hn1 : u ≠ t) (hl48 : (W.1 (2 * (2 * t + 1) + 1)).length ≤ 48) (hb : bdL (W.1 (2 * (2 * t + 1) + 1))) {F : LE}
    (hQ : ∀ h, RepS (sS W u (F, G)) X h → Q (.inl none) h) :
    ∀ (n i : Nat) (s : LE) (h : PH), i + n = rcV 1 (W.1 (2 * (2 * t + 1) + 1)) → RepS (sS W u (s, G)) X h → okR s ((dirE (W.1 (2 * (2 * t + 1) + 1))).drop i) → cutA s ((dirE (W.1 (2 * (2 * t + 1) + 1))).drop i) = F →
    Runs (d + 4) call sc m_X3_cutByDirections Q 77 [(0, .ref 0), (1, .ref (cid (2 * t + 1))), (2, L2), (3, .ref (rid (2 * (2 * t + 1) + 1))), (4, .int (nI i))] [] h 0 0 := by
  have e1 : ∀ S, (sS W u S).1 (2 * (2 * t + 1) + 1) = W.1 (2 * (2 * t + 1) + 1) := fun S => sS_ne _ _ (by omega)
  have hle := rc_le 1 (W.1 (2 * (2 * t + 1) + 1))
  have hin : ∀ S, ∀ v ∈ (sS W u S).1 (2 * (2 * t + 1) + 1), inV v := fun S v hv => by rw [e1] at hv; exact (hb v hv).inV (by decide)
  have hdl : (dirE (W.1 (2 * (2 * t + 1) + 1))).length = rcV 1 (W.1 (2 * (2 * t + 1) + 1)) := by unfold dirE; rw [List.length_map, List.length_take]; omega
  intro n
  induction n with
  | zero =>
    intro i s h hi hr hok hF
    rw [List.drop_eq_nil_of_le (by omega)] at hF
    refine go hc 4 (fun K hK => ?_)
    conv => whnf
    refine ⟨_, hr.C _ (by omega), Nat.le_of_ble_eq_true rfl, ?_⟩
    conv => whnf
    refine callee hc (s_rayCount hr (by omega) (hin _) ?_)
    rw [e1, rc_odd]
    conv => whnf
    refine ⟨fun c_ => ?_, fun c_ => absurd (nI_le (by omega) (by omega)) c_⟩
    conv => whnf
    refine hK _ _ _ _ _ _ (go hc 1 (fun K hK => ?_))
    conv => whnf
    exact hQ h (by rw [← hF]; exact hr)
  | succ n ih =>
    intro i s h hi hr hok hF
    have hil : i < (W.1 (2 * (2 * t + 1) + 1)).length := by omega
    have i1 : ∀ S, i < ((sS W u S).1 (2 * (2 * t + 1) + 1)).length := fun S => by rw [e1]; exact hil
    have hgd : gt (dirE (W.1 (2 * (2 * t + 1) + 1))) i = dirV (gt (W.1 (2 * (2 * t + 1) + 1)) i) := by
      refine gt_of ?_
      unfold dirE
      rw [List.getElem?_map, List.getElem?_take, if_pos (by omega), gt_some hil]; rfl
    rw [drop_gt (by omega), hgd] at hok hF
    refine go hc 4 (fun K hK => ?_)
    conv => whnf
    refine ⟨_, hr.C _ (by omega), Nat.le_of_ble_eq_true rfl, ?_⟩
    conv => whnf
    refine callee hc (s_rayCount hr (by omega) (hin _) ?_)
    rw [e1, rc_odd]
    conv => whnf
    refine ⟨fun c_ => absurd c_ (nI_ge (by omega) (by omega)), fun c_ => ?_⟩
    conv => whnf
    refine hK _ _ _ _ _ _ (go hc 15 (fun K hK => ?_))
    conv => whnf
    refine ⟨_, _, hr.Du hu, rfl, ?_⟩
    conv => whnf
    refine ⟨_, _, hr.S _ (by omega), rfl, ?_⟩
    conv => whnf
    refine ⟨_, hr.R _ (by omega), Nat.le_of_ble_eq_true rfl, ?_⟩
    conv => whnf
    refine callee hc (s_at1 hr (by omega) (i1 _) ?_)
    rw [e1]
    conv => whnf
    refine ⟨_, hr.R _ (by omega), Nat.le_of_ble_eq_true rfl, ?_⟩
    conv => whnf
    refine callee hc (s_at2 hr (by omega) (i1 _) ?_)
    rw [e1]
    conv => whnf
    refine ⟨_, hr.C _ (by omega), Nat.le_of_ble_eq_true rfl, ?_⟩
    conv => whnf
    refine callee hc (s_cutK hr hu5 (dirV (gt (W.1 (2 * (2 * t + 1) + 1)) i)) rfl rfl rfl ⟨hok.1, hok.2.1, hok.2.2.ok⟩ ?_)
    intro h hr
    conv => whnf
    try simp only [nI_1]
    refine hK _ _ _ _ _ _ (Runs.less hc [0, 1, 2, 3, 4] rfl rfl rfl rfl (ih _ _ _ (by omega) hr hok.2.2 hF))
theorem dr_l {call : Callee} (hc : call = wpC sc (d + 4)) (hu : W.2.2.2.2.1 = u) (hu5 : u < 5) {t : Nat} (ht : t < 5) (hn1 : u ≠ t) (hl48 : (W.1 (2 * (2 * t + 1) + 1)).length ≤ 48) (hll : (W.1 (2 * (2 * t + 1))).length ≤ 48) (hb : bdL (W.1 (2 * (2 * t + 1) + 1))) {F : LE}
    (hQ : ∀ h, RepS (sS W u (F, G)) X h → Q (.inl none) h) :
    ∀ (n i : Nat) (s : LE) (h : PH), i + n = (W.1 (2 * (2 * t + 1))).length → RepS (sS W u (s, G)) X h → okR s (dirL ((W.1 (2 * (2 * t + 1))).drop i) ++ dirE (W.1 (2 * (2 * t + 1) + 1))) → cutA s (dirL ((W.1 (2 * (2 * t + 1))).drop i) ++ dirE (W.1 (2 * (2 * t + 1) + 1))) = F →
    Runs (d + 4) call sc m_X3_cutByDirections Q 7 [(0, .ref 0), (1, .ref (cid (2 * t + 1))), (2, .ref (rid (2 * (2 * t + 1)))), (3, .int (nI i))] [] h 0 0 := by
  have e1 : ∀ S, (sS W u S).1 (2 * (2 * t + 1)) = W.1 (2 * (2 * t + 1)) := fun S => sS_ne _ _ (by omega)
  intro n
  induction n with
  | zero =>
    intro i s h hi hr hok hF
    rw [List.drop_eq_nil_of_le (by omega)] at hok hF
    refine go hc 4 (fun K hK => ?_)
    conv => whnf
    refine ⟨_, hr.R _ (by omega), Nat.le_of_ble_eq_true rfl, ?_⟩
    conv => whnf
    refine callee hc (s_count hr (by omega) ?_)
    conv => whnf
    rw [e1]
    refine ⟨fun c_ => ?_, fun c_ => absurd (nI_le (by omega) (by omega)) c_⟩
    conv => whnf
    refine hK _ _ _ _ _ _ (go hc 5 (fun K hK => ?_))
    conv => whnf
    refine ⟨_, _, hr.C _ (by omega), rfl, ?_⟩
    conv => whnf
    try simp only [nI_1]
    refine hK _ _ _ _ _ _ (Runs.less hc [0, 1, 2, 3, 4] rfl rfl rfl rfl (dr_e hc hu hu5 ht hn1 hl48 hb hQ (rcV 1 (W.1 (2 * (2 * t + 1) + 1))) 0 s h (by omega) hr hok hF))
  | succ n ih =>
    intro i s h hi hr hok hF
    have hil : i < (W.1 (2 * (2 * t + 1))).length := by omega
    have i1 : ∀ S, i < ((sS W u S).1 (2 * (2 * t + 1))).length := fun S => by rw [e1]; exact hil
    rw [drop_gt hil] at hok hF
    have hok' : okR s (dirV (gt (W.1 (2 * (2 * t + 1))) i) :: neg3 (dirV (gt (W.1 (2 * (2 * t + 1))) i)) :: (dirL ((W.1 (2 * (2 * t + 1))).drop (i + 1)) ++ dirE (W.1 (2 * (2 * t + 1) + 1)))) := hok
    refine go hc 4 (fun K hK => ?_)
    conv => whnf
    refine ⟨_, hr.R _ (by omega), Nat.le_of_ble_eq_true rfl, ?_⟩
    conv => whnf
    refine callee hc (s_count hr (by omega) ?_)
    conv => whnf
    rw [e1]
    refine ⟨fun c_ => absurd c_ (nI_ge (by omega) (by omega)), fun c_ => ?_⟩
    conv => whnf
    refine hK _ _ _ _ _ _ (go hc 30 (fun K hK => ?_))
    conv => whnf
    refine ⟨_, _, hr.Du hu, rfl, ?_⟩
    conv => whnf
    refine ⟨_, _, hr.S _ (by omega), rfl, ?_⟩
    conv => whnf
    refine ⟨_, hr.R _ (by omega), Nat.le_of_ble_eq_true rfl, ?_⟩
    conv => whnf
    refine callee hc (s_at1 hr (by omega) (i1 _) ?_)
    rw [e1]
    conv => whnf
    refine ⟨_, hr.R _ (by omega), Nat.le_of_ble_eq_true rfl, ?_⟩
    conv => whnf
    refine callee hc (s_at2 hr (by omega) (i1 _) ?_)
    rw [e1]
    conv => whnf
    refine ⟨_, hr.C _ (by omega), Nat.le_of_ble_eq_true rfl, ?_⟩
    conv => whnf
    refine callee hc (s_cutK hr hu5 (dirV (gt (W.1 (2 * (2 * t + 1))) i)) rfl rfl rfl ⟨hok'.1, hok'.2.1, hok'.2.2.ok⟩ ?_)
    intro h hr
    conv => whnf
    refine ⟨_, _, hr.Du hu, rfl, ?_⟩
    conv => whnf
    refine ⟨_, _, hr.S _ (by omega), rfl, ?_⟩
    conv => whnf
    refine ⟨_, hr.R _ (by omega), Nat.le_of_ble_eq_true rfl, ?_⟩
    conv => whnf
    refine callee hc (s_at1 hr (by omega) (i1 _) ?_)
    rw [e1]
    conv => whnf
    refine ⟨_, hr.R _ (by omega), Nat.le_of_ble_eq_true rfl, ?_⟩
    conv => whnf
    refine callee hc (s_at2 hr (by omega) (i1 _) ?_)
    rw [e1]
    conv => whnf
    refine ⟨_, hr.C _ (by omega), Nat.le_of_ble_eq_true rfl, ?_⟩
    conv => whnf
    refine callee hc (s_cutK hr hu5 (neg3 (dirV (gt (W.1 (2 * (2 * t + 1))) i))) rfl (Int64.ofInt_neg _).symm (Int64.ofInt_neg _).symm ⟨hok'.2.2.1, hok'.2.2.2.1, hok'.2.2.2.2.ok⟩ ?_)
    intro h hr
    conv => whnf
    try simp only [nI_1]
    refine hK _ _ _ _ _ _ (Runs.less hc [0, 1, 2, 3] rfl rfl rfl rfl (ih _ _ _ (by omega) hr hok'.2.2.2.2 hF))
theorem s_dirs {S0 : SH} (hr : RepS (sS W u S0) X h) (hu : W.2.2.2.2.1 = u) (hu5 : u < 5) {t : Nat} (ht : t < 5) (hn1 : u ≠ t) (hb : bdL (W.1 (2 * (2 * t + 1) + 1)))
    (hok : okR S0.1 (dirL (W.1 (2 * (2 * t + 1))) ++ dirE (W.1 (2 * (2 * t + 1) + 1)))) (hQ : ∀ h, RepS (sS W u (cutA S0.1 (dirL (W.1 (2 * (2 * t + 1))) ++ dirE (W.1 (2 * (2 * t + 1) + 1))), S0.2)) X h → Q (.inl none) h) : wpC sc (d + 5) 63 [.ref 0, .ref (cid (2 * t + 1))] h Q := by
  have e1 : ∀ S, (sS W u S).1 (2 * (2 * t + 1) + 1) = W.1 (2 * (2 * t + 1) + 1) := fun S => sS_ne _ _ (by omega)
  have e2 : ∀ S, (sS W u S).1 (2 * (2 * t + 1)) = W.1 (2 * (2 * t + 1)) := fun S => sS_ne _ _ (by omega)
  have k1 := hr.c48 (show 2 * (2 * t + 1) + 1 < 20 by omega)
  have k2 := hr.c48 (show 2 * (2 * t + 1) < 20 by omega)
  rw [e1] at k1
  rw [e2] at k2
  refine enter rfl rfl (fun call hc => go hc 5 (fun K hK => ?_))
  conv => whnf
  refine ⟨_, _, hr.C _ (by omega), rfl, ?_⟩
  conv => whnf
  try simp only [nI_1]
  refine hK _ _ _ _ _ _ (Runs.less hc [0, 1, 2, 3] rfl rfl rfl rfl (dr_l (Q := qth _ Q) hc hu hu5 ht hn1 k1 k2 hb hQ (W.1 (2 * (2 * t + 1))).length 0 S0.1 h (by omega) hr hok rfl))
/-- all that the sum of two shapes cuts by -/
def smR (S T : SH) : List V3 := if S.2.2 = [] ∨ T.2.2 = [] then [] else sums S.2.2 T.2.2 ++ ((dirL S.2.1 ++ dirE S.2.2) ++ (dirL T.2.1 ++ dirE T.2.2))
theorem s_cutBySums {S0 : SH} (hr : RepS (sS W u S0) X h) (hu : W.2.2.2.2.1 = u) (hu5 : u < 5) {t1 t2 : Nat} (ht1 : t1 < 5) (ht2 : t2 < 5) (hn1 : u ≠ t1) (hn2 : u ≠ t2) (hb1 : bdL (W.1 (2 * (2 * t1 + 1) + 1))) (hb2 : bdL (W.1 (2 * (2 * t2 + 1) + 1)))
    (hok : okR S0.1 (smR (gS W t1) (gS W t2))) (hQ : ∀ h, RepS (sS W u (cutA S0.1 (smR (gS W t1) (gS W t2)), S0.2)) X h → Q (.inl none) h) : wpC sc (d + 6) 61 [.ref 0, .ref (sid t1), .ref (sid t2)] h Q := by
  have e1 : ∀ S, (sS W u S).1 (2 * (2 * t1 + 1) + 1) = W.1 (2 * (2 * t1 + 1) + 1) := fun S => sS_ne _ _ (by omega)
  have e2 : ∀ S, (sS W u S).1 (2 * (2 * t2 + 1) + 1) = W.1 (2 * (2 * t2 + 1) + 1) := fun S => sS_ne _ _ (by omega)
  unfold smR at hok hQ
  refine enter rfl rfl (fun call hc => go hc 3 (fun K hK => ?_))
  conv => whnf
  refine ⟨_, hr.S _ (by omega), Nat.le_of_ble_eq_true rfl, ?_⟩
  conv => whnf
  refine callee hc (s_isEmpty hr ht1 ?_)
  rw [e1]
  conv => whnf
  have hend : ((gS W t1).2.2 = [] ∨ (gS W t2).2.2 = []) → Runs (d + 5) call sc m_X3_cutBySums (qth (mTh m_X3_cutBySums) Q) 14 [(0, .ref 0), (1, .ref (sid t1)), (2, .ref (sid t2))] [] h 0 0 := fun q => by
    rw [if_pos q] at hQ
    refine go hc 1 (fun K hK => ?_)
    conv => whnf
    exact hQ h hr
  by_cases c1 : W.1 (2 * (2 * t1 + 1) + 1) = []
  · rw [decide_eq_true c1]
    refine ⟨fun c_ => absurd c_ (by decide), fun c_ => ?_⟩
    conv => whnf
    exact hK _ _ _ _ _ _ (hend (Or.inl c1))
  · rw [decide_eq_false c1]
    refine ⟨fun c_ => ?_, fun c_ => absurd (rfl) c_⟩
    conv => whnf
    refine hK _ _ _ _ _ _ (go hc 3 (fun K hK => ?_))
    conv => whnf
    refine ⟨_, hr.S _ (by omega), Nat.le_of_ble_eq_true rfl, ?_⟩
    conv => whnf
    refine callee hc (s_isEmpty hr ht2 ?_)
    rw [e2]
    conv => whnf
    by_cases c2 : W.1 (2 * (2 * t2 + 1) + 1) = []
    · rw [decide_eq_true c2]
      refine ⟨fun c_ => absurd c_ (by decide), fun c_ => ?_⟩
      conv => whnf
      exact hK _ _ _ _ _ _ (hend (Or.inr c2))
    · have cn : ¬ ((gS W t1).2.2 = [] ∨ (gS W t2).2.2 = []) := fun q => q.elim c1 c2
      rw [if_neg cn] at hok hQ
      have k1 := okR_app hok
      have k2 := okR_app k1.2
      rw [cutA_app, cutA_app] at hQ
      rw [decide_eq_false c2]
      refine ⟨fun c_ => ?_, fun c_ => absurd (rfl) c_⟩
      conv => whnf
      refine hK _ _ _ _ _ _ (go hc 17 (fun K hK => ?_))
      conv => whnf
      refine ⟨_, _, hr.S _ (by omega), rfl, ?_⟩
      conv => whnf
      refine ⟨_, _, hr.C _ (by omega), rfl, ?_⟩
      conv => whnf
      refine ⟨_, _, hr.S _ (by omega), rfl, ?_⟩
      conv => whnf
      refine ⟨_, _, hr.C _ (by omega), rfl, ?_⟩
      conv => whnf
      refine ⟨_, hr.Du hu, Nat.le_of_ble_eq_true rfl, ?_⟩
      conv => whnf
      refine callee hc (s_pointSums hr hu hu5 ht1 ht2 hn1 hn2 hb1 hb2 k1.1 ?_)
      intro h hr
      conv => whnf
      refine ⟨_, _, hr.S _ (by omega), rfl, ?_⟩
      conv => whnf
      refine ⟨_, hr.Du hu, Nat.le_of_ble_eq_true rfl, ?_⟩
      conv => whnf
      refine callee hc (s_dirs hr hu hu5 ht1 hn1 hb1 k2.1 ?_)
      intro h hr
      conv => whnf
      refine ⟨_, _, hr.S _ (by omega), rfl, ?_⟩
      conv => whnf
      refine ⟨_, hr.Du hu, Nat.le_of_ble_eq_true rfl, ?_⟩
      conv => whnf
      refine callee hc (s_dirs hr hu hu5 ht2 hn2 hb2 k2.2 ?_)
      intro h hr
      conv => whnf
      exact hQ h hr
end SUMS
