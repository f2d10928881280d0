/-! the shapes' methods -/
section SHAPE
variable {sc : Scr} {d : Nat} {W : AW} {X h : PH} {t : Nat} {Q : Out → PH → Prop}
/-- what a shape holds -/
abbrev SH : Type := LE × LE
def sS (W : AW) (t : Nat) (s : SH) : AW := sC (sC W (2 * t) s.1.1 s.1.2) (2 * t + 1) s.2.1 s.2.2
def gS (W : AW) (t : Nat) : SH := ((W.1 (2 * (2 * t)), W.1 (2 * (2 * t) + 1)), (W.1 (2 * (2 * t + 1)), W.1 (2 * (2 * t + 1) + 1)))
theorem s_sclear (hr : RepS W X h) (ht : t < 5) (hQ : ∀ h, RepS (sS W t (([], []), ([], []))) X h → Q (.inl none) h) : wpC sc (d + 3) 34 [.ref (sid t)] h Q := by
  refine enter rfl rfl (fun call hc => go hc 7 (fun K hK => ?_))
  conv => whnf
  refine ⟨_, _, hr.S _ (by omega), rfl, ?_⟩
  conv => whnf
  refine ⟨_, hr.C _ (by omega), Nat.le_of_ble_eq_true rfl, ?_⟩
  conv => whnf
  refine callee hc (s_cclear hr (by omega) ?_)
  intro h hr
  conv => whnf
  refine ⟨_, _, hr.S _ (by omega), rfl, ?_⟩
  conv => whnf
  refine ⟨_, hr.C _ (by omega), Nat.le_of_ble_eq_true rfl, ?_⟩
  conv => whnf
  refine callee hc (s_cclear hr (by omega) ?_)
  intro h hr
  conv => whnf
  exact hQ h hr
theorem rc_le (c : Nat) (l : List V3) : rcV c l ≤ l.length := List.length_filter_le _ _
theorem s_hasPoint (hr : RepS W X h) (ht : t < 5) (hb : ∀ v ∈ W.1 (2 * (2 * t + 1) + 1), inV v) (hQ : Q (.inl (some (.int (bI01 (decide (rcV (2 * t + 1) (W.1 (2 * (2 * t + 1) + 1)) < (W.1 (2 * (2 * t + 1) + 1)).length))))) ) h) : wpC sc (d + 4) 36 [.ref (sid t)] h Q := by
  have h48 := hr.c48 (show 2 * (2 * t + 1) + 1 < 20 by omega)
  have hle := rc_le (2 * t + 1) (W.1 (2 * (2 * t + 1) + 1))
  refine enter rfl rfl (fun call hc => go hc 8 (fun K hK => ?_))
  conv => whnf
  refine ⟨_, _, hr.S _ (by omega), rfl, ?_⟩
  conv => whnf
  refine ⟨_, hr.C _ (by omega), Nat.le_of_ble_eq_true rfl, ?_⟩
  conv => whnf
  refine callee hc (s_rayCount hr (by omega) hb ?_)
  conv => whnf
  refine ⟨_, _, hr.S _ (by omega), rfl, ?_⟩
  conv => whnf
  refine ⟨_, _, hr.C _ (by omega), rfl, ?_⟩
  conv => whnf
  refine ⟨_, hr.R _ (by omega), Nat.le_of_ble_eq_true rfl, ?_⟩
  conv => whnf
  refine callee hc (s_count hr (by omega) ?_)
  conv => whnf
  by_cases h1 : rcV (2 * t + 1) (W.1 (2 * (2 * t + 1) + 1)) < (W.1 (2 * (2 * t + 1) + 1)).length
  · rw [decide_eq_true h1] at hQ
    refine ⟨fun c_ => absurd c_ (nI_ge h1 (by omega)), fun c_ => ?_⟩
    conv => whnf
    refine hK _ _ _ _ _ _ (go hc 3 (fun K hK => ?_))
    conv => whnf
    exact ⟨Or.inr rfl, hQ⟩
  · rw [decide_eq_false h1] at hQ
    refine ⟨fun c_ => ?_, fun c_ => absurd (nI_le (by omega) (by omega)) c_⟩
    conv => whnf
    refine hK _ _ _ _ _ _ (go hc 2 (fun K hK => ?_))
    conv => whnf
    exact ⟨Or.inl rfl, hQ⟩
/-- the dimension -/
def degS (s : SH) : Int32 := if s.2.2 = [] then -1 else 2 - nI s.1.1.length
theorem s_degree (hr : RepS W X h) (ht : t < 5) (hQ : Q (.inl (some (.int (degS (gS W t))))) h) : wpC sc (d + 3) 37 [.ref (sid t)] h Q := by
  unfold degS gS at hQ
  dsimp only at hQ
  refine enter rfl rfl (fun call hc => go hc 3 (fun K hK => ?_))
  conv => whnf
  refine ⟨_, hr.S _ (by omega), Nat.le_of_ble_eq_true rfl, ?_⟩
  conv => whnf
  refine callee hc (s_isEmpty hr ht ?_)
  conv => whnf
  by_cases h1 : W.1 (2 * (2 * t + 1) + 1) = []
  · rw [if_pos h1] at hQ
    rw [decide_eq_true h1]
    refine ⟨fun c_ => absurd c_ (by decide), fun c_ => ?_⟩
    conv => whnf
    refine hK _ _ _ _ _ _ (go hc 3 (fun K hK => ?_))
    conv => whnf
    exact hQ
  · rw [if_neg h1] at hQ
    rw [decide_eq_false h1]
    refine ⟨fun c_ => ?_, fun c_ => absurd (rfl) c_⟩
    conv => whnf
    refine hK _ _ _ _ _ _ (go hc 7 (fun K hK => ?_))
    conv => whnf
    refine ⟨_, _, hr.S _ (by omega), rfl, ?_⟩
    conv => whnf
    refine ⟨_, _, hr.C _ (by omega), rfl, ?_⟩
    conv => whnf
    refine ⟨_, hr.R _ (by omega), Nat.le_of_ble_eq_true rfl, ?_⟩
    conv => whnf
    refine callee hc (s_count hr (by omega) ?_)
    conv => whnf
    exact hQ
/-- countOf: kinds 0 .. 4 -/
def cntS (s : SH) (k : Nat) : Nat := match k with
  | 0 => s.1.1.length
  | 1 => s.1.2.length
  | 2 => s.2.1.length
  | 3 => rcV 1 s.2.2
  | _ => s.2.2.length - rcV 1 s.2.2
theorem rc_odd (t : Nat) (l : List V3) : rcV (2 * t + 1) l = rcV 1 l := by
  unfold rcV
  congr 2
  funext v
  unfold rayV
  rw [show (2 * t + 1) % 2 = 1 by omega]
theorem nI_sub {a b : Nat} (h : b ≤ a) : nI a - nI b = nI (a - b) := by
  obtain ⟨k, rfl⟩ : ∃ k, a = b + k := ⟨a - b, by omega⟩
  rw [show b + k - b = k by omega, ← nI_add, Int32.add_comm, Int32.add_sub_cancel]
theorem s_countOf (hr : RepS W X h) (ht : t < 5) {k : Nat} (hk : k < 5) (hb : ∀ v ∈ W.1 (2 * (2 * t + 1) + 1), inV v) (hQ : Q (.inl (some (.int (nI (cntS (gS W t) k))))) h) : wpC sc (d + 4) 39 [.ref (sid t), .int (nI k)] h Q := by
  have hle := rc_le (2 * t + 1) (W.1 (2 * (2 * t + 1) + 1))
  have hx : (nI k).toInt = k := nI_toInt (by omega)
  refine enter rfl rfl (fun call hc => go hc 2 (fun K hK => ?_))
  conv => whnf
  rw [hx]
  refine ⟨fun q => ?_, fun q => ?_, fun q => ?_, fun q => ?_, fun q => ?_, True.intro⟩
  · conv => whnf
    refine hK _ _ _ _ _ _ (go hc 9 (fun K hK => ?_))
    conv => whnf
    refine ⟨_, _, hr.S _ (by omega), rfl, ?_⟩
    conv => whnf
    refine ⟨_, _, hr.C _ (by omega), rfl, ?_⟩
    conv => whnf
    refine ⟨_, hr.R _ (by omega), Nat.le_of_ble_eq_true rfl, ?_⟩
    conv => whnf
    refine callee hc (s_count hr (by omega) ?_)
    conv => whnf
    refine ⟨_, _, hr.S _ (by omega), rfl, ?_⟩
    conv => whnf
    refine ⟨_, hr.C _ (by omega), Nat.le_of_ble_eq_true rfl, ?_⟩
    conv => whnf
    refine callee hc (s_rayCount hr (by omega) hb ?_)
    conv => whnf
    rw [nI_sub hle, rc_odd]
    obtain rfl : k = 4 := by omega
    exact hQ
  · conv => whnf
    refine hK _ _ _ _ _ _ (go hc 5 (fun K hK => ?_))
    conv => whnf
    refine ⟨_, _, hr.S _ (by omega), rfl, ?_⟩
    conv => whnf
    refine ⟨_, _, hr.C _ (by omega), rfl, ?_⟩
    conv => whnf
    refine ⟨_, hr.R _ (by omega), Nat.le_of_ble_eq_true rfl, ?_⟩
    conv => whnf
    refine callee hc (s_count hr (by omega) ?_)
    conv => whnf
    obtain rfl : k = 0 := by omega
    exact hQ
  · conv => whnf
    refine hK _ _ _ _ _ _ (go hc 5 (fun K hK => ?_))
    conv => whnf
    refine ⟨_, _, hr.S _ (by omega), rfl, ?_⟩
    conv => whnf
    refine ⟨_, _, hr.C _ (by omega), rfl, ?_⟩
    conv => whnf
    refine ⟨_, hr.R _ (by omega), Nat.le_of_ble_eq_true rfl, ?_⟩
    conv => whnf
    refine callee hc (s_count hr (by omega) ?_)
    conv => whnf
    obtain rfl : k = 1 := by omega
    exact hQ
  · conv => whnf
    refine hK _ _ _ _ _ _ (go hc 5 (fun K hK => ?_))
    conv => whnf
    refine ⟨_, _, hr.S _ (by omega), rfl, ?_⟩
    conv => whnf
    refine ⟨_, _, hr.C _ (by omega), rfl, ?_⟩
    conv => whnf
    refine ⟨_, hr.R _ (by omega), Nat.le_of_ble_eq_true rfl, ?_⟩
    conv => whnf
    refine callee hc (s_count hr (by omega) ?_)
    conv => whnf
    obtain rfl : k = 2 := by omega
    exact hQ
  · conv => whnf
    refine hK _ _ _ _ _ _ (go hc 4 (fun K hK => ?_))
    conv => whnf
    refine ⟨_, _, hr.S _ (by omega), rfl, ?_⟩
    conv => whnf
    refine ⟨_, hr.C _ (by omega), Nat.le_of_ble_eq_true rfl, ?_⟩
    conv => whnf
    refine callee hc (s_rayCount hr (by omega) hb ?_)
    conv => whnf
    rw [rc_odd]
    obtain rfl : k = 3 := by omega
    exact hQ
/-- cellOf -/
def celS (s : SH) (k i : Nat) : V3 := match k with
  | 0 => gt s.1.1 i
  | 1 => gt s.1.2 i
  | 2 => gt s.2.1 i
  | 3 => gt s.2.2 i
  | _ => gt s.2.2 (rcV 1 s.2.2 + i)
theorem s_cellOf (hr : RepS W X h) (ht : t < 5) {k i j : Nat} (hk : k < 5) (hi : i < cntS (gS W t) k) (hj : j < 3) (hb : ∀ v ∈ W.1 (2 * (2 * t + 1) + 1), inV v) (hQ : Q (.inl (some (.long (Int64.ofInt (cmp3 (celS (gS W t) k i) j))))) h) : wpC sc (d + 4) 40 [.ref (sid t), .int (nI k), .int (nI i), .int (nI j)] h Q := by
  have hle := rc_le 1 (W.1 (2 * (2 * t + 1) + 1))
  have hx : (nI k).toInt = k := nI_toInt (by omega)
  refine enter rfl rfl (fun call hc => go hc 2 (fun K hK => ?_))
  conv => whnf
  rw [hx]
  refine ⟨fun q => ?_, fun q => ?_, fun q => ?_, fun q => ?_, fun q => ?_, True.intro⟩
  · obtain rfl : k = 4 := by omega
    have hi' : i < (W.1 (2 * (2 * t + 1) + 1)).length - rcV 1 (W.1 (2 * (2 * t + 1) + 1)) := hi
    conv => whnf
    refine hK _ _ _ _ _ _ (go hc 11 (fun K hK => ?_))
    conv => whnf
    refine ⟨_, _, hr.S _ (by omega), rfl, ?_⟩
    conv => whnf
    refine ⟨_, _, hr.C _ (by omega), rfl, ?_⟩
    conv => whnf
    refine ⟨_, _, hr.S _ (by omega), rfl, ?_⟩
    conv => whnf
    refine ⟨_, hr.C _ (by omega), Nat.le_of_ble_eq_true rfl, ?_⟩
    conv => whnf
    refine callee hc (s_rayCount hr (by omega) hb ?_)
    rw [rc_odd]
    conv => whnf
    rw [nI_add]
    conv => whnf
    refine ⟨_, hr.R _ (by omega), Nat.le_of_ble_eq_true rfl, ?_⟩
    conv => whnf
    refine callee hc (s_atK hr (by omega) (by omega) hj ?_)
    conv => whnf
    exact hQ
  · obtain rfl : k = 0 := by omega
    have hi' : i < (W.1 (2 * (2 * t))).length := hi
    conv => whnf
    refine hK _ _ _ _ _ _ (go hc 7 (fun K hK => ?_))
    conv => whnf
    refine ⟨_, _, hr.S _ (by omega), rfl, ?_⟩
    conv => whnf
    refine ⟨_, _, hr.C _ (by omega), rfl, ?_⟩
    conv => whnf
    refine ⟨_, hr.R _ (by omega), Nat.le_of_ble_eq_true rfl, ?_⟩
    conv => whnf
    refine callee hc (s_atK hr (by omega) (by omega) hj ?_)
    conv => whnf
    exact hQ
  · obtain rfl : k = 1 := by omega
    have hi' : i < (W.1 (2 * (2 * t) + 1)).length := hi
    conv => whnf
    refine hK _ _ _ _ _ _ (go hc 7 (fun K hK => ?_))
    conv => whnf
    refine ⟨_, _, hr.S _ (by omega), rfl, ?_⟩
    conv => whnf
    refine ⟨_, _, hr.C _ (by omega), rfl, ?_⟩
    conv => whnf
    refine ⟨_, hr.R _ (by omega), Nat.le_of_ble_eq_true rfl, ?_⟩
    conv => whnf
    refine callee hc (s_atK hr (by omega) (by omega) hj ?_)
    conv => whnf
    exact hQ
  · obtain rfl : k = 2 := by omega
    have hi' : i < (W.1 (2 * (2 * t + 1))).length := hi
    conv => whnf
    refine hK _ _ _ _ _ _ (go hc 7 (fun K hK => ?_))
    conv => whnf
    refine ⟨_, _, hr.S _ (by omega), rfl, ?_⟩
    conv => whnf
    refine ⟨_, _, hr.C _ (by omega), rfl, ?_⟩
    conv => whnf
    refine ⟨_, hr.R _ (by omega), Nat.le_of_ble_eq_true rfl, ?_⟩
    conv => whnf
    refine callee hc (s_atK hr (by omega) (by omega) hj ?_)
    conv => whnf
    exact hQ
  · obtain rfl : k = 3 := by omega
    have hi' : i < rcV 1 (W.1 (2 * (2 * t + 1) + 1)) := hi
    conv => whnf
    refine hK _ _ _ _ _ _ (go hc 7 (fun K hK => ?_))
    conv => whnf
    refine ⟨_, _, hr.S _ (by omega), rfl, ?_⟩
    conv => whnf
    refine ⟨_, _, hr.C _ (by omega), rfl, ?_⟩
    conv => whnf
    refine ⟨_, hr.R _ (by omega), Nat.le_of_ble_eq_true rfl, ?_⟩
    conv => whnf
    refine callee hc (s_atK hr (by omega) (by omega) hj ?_)
    conv => whnf
    exact hQ
/-- climbs -/
def climB (s : SH) (a b : Int) : Bool := s.2.1.any (fun v => decide (dot v (0, a, b) ≠ 0)) || (s.2.2.take (rcV 1 s.2.2)).any (fun v => decide (0 < dot v (0, a, b)))
theorem cm_e {call : Callee} (hc : call = wpC sc (d + 3)) (hr : RepS W X h) (ht : t < 5) {a b : Int} (hb : ∀ v ∈ W.1 (2 * (2 * t + 1) + 1), inL (dot v (0, a, b))) (hbv : ∀ v ∈ W.1 (2 * (2 * t + 1) + 1), inV v) :
    ∀ (n i : Nat), i + n = rcV 1 (W.1 (2 * (2 * t + 1) + 1)) → Q (.inl (some (.int (bI01 (((W.1 (2 * (2 * t + 1) + 1)).take (rcV 1 (W.1 (2 * (2 * t + 1) + 1)))).drop i |>.any fun v => decide (0 < dot v (0, a, b))))))) h →
    Runs (d + 3) call sc m_X2_climbs Q 49 [(0, .ref (sid t)), (1, .long (Int64.ofInt a)), (3, .long (Int64.ofInt b)), (5, .int (nI i))] [] h 0 0 := by
  have hl48 := hr.c48 (show 2 * (2 * t + 1) + 1 < 20 by omega)
  have hle := rc_le 1 (W.1 (2 * (2 * t + 1) + 1))
  intro n
  induction n with
  | zero =>
    intro i hi hQ
    rw [List.drop_eq_nil_of_le (by rw [List.length_take]; omega)] at hQ
    refine go hc 5 (fun K hK => ?_)
    conv => whnf
    refine ⟨_, _, hr.S _ (by omega), rfl, ?_⟩
    conv => whnf
    refine ⟨_, hr.C _ (by omega), Nat.le_of_ble_eq_true rfl, ?_⟩
    conv => whnf
    refine callee hc (s_rayCount hr (by omega) hbv ?_)
    rw [rc_odd]
    conv => whnf
    refine ⟨fun c_ => ?_, fun c_ => absurd (nI_le (by omega) (by omega)) c_⟩
    conv => whnf
    refine hK _ _ _ _ _ _ (go hc 2 (fun K hK => ?_))
    conv => whnf
    exact ⟨Or.inl rfl, hQ⟩
  | succ n ih =>
    intro i hi hQ
    have hil : i < (W.1 (2 * (2 * t + 1) + 1)).length := by omega
    have hb1 := hb _ (gt_mem hil)
    have e : gt ((W.1 (2 * (2 * t + 1) + 1)).take (rcV 1 (W.1 (2 * (2 * t + 1) + 1)))) i = gt (W.1 (2 * (2 * t + 1) + 1)) i := by
      refine gt_of ?_
      rw [List.getElem?_take, if_pos (by omega)]; exact gt_some hil
    rw [drop_gt (by rw [List.length_take]; omega), List.any_cons, e] at hQ
    refine go hc 5 (fun K hK => ?_)
    conv => whnf
    refine ⟨_, _, hr.S _ (by omega), rfl, ?_⟩
    conv => whnf
    refine ⟨_, hr.C _ (by omega), Nat.le_of_ble_eq_true rfl, ?_⟩
    conv => whnf
    refine callee hc (s_rayCount hr (by omega) hbv ?_)
    rw [rc_odd]
    conv => whnf
    refine ⟨fun c_ => absurd c_ (nI_ge (by omega) (by omega)), fun c_ => ?_⟩
    conv => whnf
    refine hK _ _ _ _ _ _ (go hc 11 (fun K hK => ?_))
    conv => whnf
    refine ⟨_, _, hr.S _ (by omega), rfl, ?_⟩
    conv => whnf
    refine ⟨_, _, hr.C _ (by omega), rfl, ?_⟩
    conv => whnf
    refine ⟨_, hr.R _ (by omega), Nat.le_of_ble_eq_true rfl, ?_⟩
    conv => whnf
    refine callee hc (s_product hr (0, a, b) (by omega) hil rfl rfl rfl ?_)
    conv => whnf
    by_cases h1 : 0 < dot (gt (W.1 (2 * (2 * t + 1) + 1)) i) (0, a, b)
    · rw [decide_eq_true h1, Bool.true_or] at hQ
      refine ⟨fun c_ => absurd c_ (fun q => by have := (kLe0 hb1).mp q; omega), fun c_ => ?_⟩
      conv => whnf
      refine hK _ _ _ _ _ _ (go hc 2 (fun K hK => ?_))
      conv => whnf
      exact ⟨Or.inr rfl, hQ⟩
    · rw [decide_eq_false h1, Bool.false_or] at hQ
      refine ⟨fun c_ => ?_, fun c_ => absurd ((kLe0 hb1).mpr (by omega)) c_⟩
      conv => whnf
      refine hK _ _ _ _ _ _ (go hc 2 (fun K hK => ?_))
      conv => whnf
      try simp only [nI_1]
      refine hK _ _ _ _ _ _ (Runs.less hc [0, 1, 3, 5] rfl rfl rfl rfl (ih _ (by omega) hQ))
theorem cm_l {call : Callee} (hc : call = wpC sc (d + 3)) (hr : RepS W X h) (ht : t < 5) {a b : Int} (hb : ∀ v ∈ W.1 (2 * (2 * t + 1) + 1), inL (dot v (0, a, b))) (hbv : ∀ v ∈ W.1 (2 * (2 * t + 1) + 1), inV v) (hbl : ∀ v ∈ W.1 (2 * (2 * t + 1)), inL (dot v (0, a, b))) :
    ∀ (n i : Nat), i + n = (W.1 (2 * (2 * t + 1))).length → Q (.inl (some (.int (bI01 (((W.1 (2 * (2 * t + 1))).drop i).any (fun v => decide (dot v (0, a, b) ≠ 0)) || ((W.1 (2 * (2 * t + 1) + 1)).take (rcV 1 (W.1 (2 * (2 * t + 1) + 1)))).any fun v => decide (0 < dot v (0, a, b))))))) h →
    Runs (d + 3) call sc m_X2_climbs Q 3 [(0, .ref (sid t)), (1, .long (Int64.ofInt a)), (3, .long (Int64.ofInt b)), (5, .int (nI i))] [] h 0 0 := by
  have hl48 := hr.c48 (show 2 * (2 * t + 1) < 20 by omega)
  intro n
  induction n with
  | zero =>
    intro i hi hQ
    rw [List.drop_eq_nil_of_le (by omega)] at hQ
    refine go hc 6 (fun K hK => ?_)
    conv => whnf
    refine ⟨_, _, hr.S _ (by omega), rfl, ?_⟩
    conv => whnf
    refine ⟨_, _, hr.C _ (by omega), rfl, ?_⟩
    conv => whnf
    refine ⟨_, hr.R _ (by omega), Nat.le_of_ble_eq_true rfl, ?_⟩
    conv => whnf
    refine callee hc (s_count hr (by omega) ?_)
    conv => whnf
    refine ⟨fun c_ => ?_, fun c_ => absurd (nI_le (by omega) (by omega)) c_⟩
    conv => whnf
    refine hK _ _ _ _ _ _ (go hc 2 (fun K hK => ?_))
    conv => whnf
    try simp only [nI_1]
    refine hK _ _ _ _ _ _ (Runs.less hc [0, 1, 3, 5] rfl rfl rfl rfl (cm_e hc hr ht hb hbv (rcV 1 (W.1 (2 * (2 * t + 1) + 1))) 0 (by omega) hQ))
  | succ n ih =>
    intro i hi hQ
    have hil : i < (W.1 (2 * (2 * t + 1))).length := by omega
    have hb1 := hbl _ (gt_mem hil)
    rw [drop_gt hil, List.any_cons] at hQ
    refine go hc 6 (fun K hK => ?_)
    conv => whnf
    refine ⟨_, _, hr.S _ (by omega), rfl, ?_⟩
    conv => whnf
    refine ⟨_, _, hr.C _ (by omega), rfl, ?_⟩
    conv => whnf
    refine ⟨_, hr.R _ (by omega), Nat.le_of_ble_eq_true rfl, ?_⟩
    conv => whnf
    refine callee hc (s_count hr (by omega) ?_)
    conv => whnf
    refine ⟨fun c_ => absurd c_ (nI_ge (by omega) (by omega)), fun c_ => ?_⟩
    conv => whnf
    refine hK _ _ _ _ _ _ (go hc 11 (fun K hK => ?_))
    conv => whnf
    refine ⟨_, _, hr.S _ (by omega), rfl, ?_⟩
    conv => whnf
    refine ⟨_, _, hr.C _ (by omega), rfl, ?_⟩
    conv => whnf
    refine ⟨_, hr.R _ (by omega), Nat.le_of_ble_eq_true rfl, ?_⟩
    conv => whnf
    refine callee hc (s_product hr (0, a, b) (by omega) hil rfl rfl rfl ?_)
    conv => whnf
    by_cases h1 : dot (gt (W.1 (2 * (2 * t + 1))) i) (0, a, b) = 0
    · rw [decide_eq_false (fun q => q h1), Bool.false_or] at hQ
      refine ⟨fun c_ => ?_, fun c_ => absurd ((kEq0 hb1).mpr h1) c_⟩
      conv => whnf
      refine hK _ _ _ _ _ _ (go hc 2 (fun K hK => ?_))
      conv => whnf
      try simp only [nI_1]
      refine hK _ _ _ _ _ _ (Runs.less hc [0, 1, 3, 5] rfl rfl rfl rfl (ih _ (by omega) hQ))
    · rw [decide_eq_true h1, Bool.true_or, Bool.true_or] at hQ
      refine ⟨fun c_ => absurd c_ (fun q => h1 ((kEq0 hb1).mp q)), fun c_ => ?_⟩
      conv => whnf
      refine hK _ _ _ _ _ _ (go hc 2 (fun K hK => ?_))
      conv => whnf
      exact ⟨Or.inr rfl, hQ⟩
theorem s_climbs (hr : RepS W X h) (ht : t < 5) {a b : Int} {a' b' : Int64} (ha : a' = Int64.ofInt a) (hb' : b' = Int64.ofInt b) (hb : ∀ v ∈ W.1 (2 * (2 * t + 1) + 1), inL (dot v (0, a, b))) (hbv : ∀ v ∈ W.1 (2 * (2 * t + 1) + 1), inV v) (hbl : ∀ v ∈ W.1 (2 * (2 * t + 1)), inL (dot v (0, a, b))) (hQ : Q (.inl (some (.int (bI01 (climB (gS W t) a b))))) h) : wpC sc (d + 4) 38 [.ref (sid t), .long a', .long b'] h Q := by
  subst ha; subst hb'
  refine enter rfl rfl (fun call hc => go hc 2 (fun K hK => ?_))
  conv => whnf
  try simp only [nI_1]
  refine hK _ _ _ _ _ _ (Runs.less hc [0, 1, 3, 5] rfl rfl rfl rfl (cm_l (Q := qth _ Q) hc hr ht hb hbv hbl (W.1 (2 * (2 * t + 1))).length 0 (by omega) hQ))
end SHAPE
